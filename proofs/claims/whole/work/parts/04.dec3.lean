theorem d250_182 : decode (mcode 250) 182 = .ok (.iload 6, 2) := by decide +kernel
theorem d250_184 : decode (mcode 250) 184 = .ok (.aload_n 0, 1) := by decide +kernel
theorem d250_185 : decode (mcode 250) 185 = .ok (.getfield 44, 3) := by decide +kernel
theorem d250_188 : decode (mcode 250) 188 = .ok (.iload_n 2, 1) := by decide +kernel
theorem d250_189 : decode (mcode 250) 189 = .ok (.baload, 1) := by decide +kernel
theorem d250_190 : decode (mcode 250) 190 = .ok (.if_icmp .eq 6, 3) := by decide +kernel
theorem d250_193 : decode (mcode 250) 193 = .ok (.iload 4, 2) := by decide +kernel
theorem d250_195 : decode (mcode 250) 195 = .ok (.ireturn, 1) := by decide +kernel
theorem d250_196 : decode (mcode 250) 196 = .ok (.aload_n 0, 1) := by decide +kernel
theorem d250_197 : decode (mcode 250) 197 = .ok (.getfield 41, 3) := by decide +kernel
theorem d250_200 : decode (mcode 250) 200 = .ok (.iload_n 2, 1) := by decide +kernel
theorem d250_201 : decode (mcode 250) 201 = .ok (.iload 6, 2) := by decide +kernel
theorem d250_203 : decode (mcode 250) 203 = .ok (.ifCond .eq 7, 3) := by decide +kernel
theorem d250_206 : decode (mcode 250) 206 = .ok (.iconst 0, 1) := by decide +kernel
theorem d250_207 : decode (mcode 250) 207 = .ok (.goto 28, 3) := by decide +kernel
theorem d250_210 : decode (mcode 250) 210 = .ok (.aload_n 0, 1) := by decide +kernel
theorem d250_211 : decode (mcode 250) 211 = .ok (.bipush 16, 2) := by decide +kernel
theorem d250_213 : decode (mcode 250) 213 = .ok (.aload_n 0, 1) := by decide +kernel
theorem d250_214 : decode (mcode 250) 214 = .ok (.getfield 41, 3) := by decide +kernel
theorem d250_217 : decode (mcode 250) 217 = .ok (.iload_n 2, 1) := by decide +kernel
theorem d250_218 : decode (mcode 250) 218 = .ok (.iaload, 1) := by decide +kernel
theorem d250_219 : decode (mcode 250) 219 = .ok (.imul, 1) := by decide +kernel
theorem d250_220 : decode (mcode 250) 220 = .ok (.aload_n 0, 1) := by decide +kernel
theorem d250_221 : decode (mcode 250) 221 = .ok (.iload 5, 2) := by decide +kernel
theorem d250_223 : decode (mcode 250) 223 = .ok (.invokevirtual 300, 3) := by decide +kernel
theorem d250_226 : decode (mcode 250) 226 = .ok (.iadd, 1) := by decide +kernel
theorem d250_227 : decode (mcode 250) 227 = .ok (.sipush 128, 3) := by decide +kernel
theorem d250_230 : decode (mcode 250) 230 = .ok (.isub, 1) := by decide +kernel
theorem d250_231 : decode (mcode 250) 231 = .ok (.i2l, 1) := by decide +kernel
theorem d250_232 : decode (mcode 250) 232 = .ok (.invokevirtual 76, 3) := by decide +kernel
theorem d250_235 : decode (mcode 250) 235 = .ok (.iastore, 1) := by decide +kernel
theorem d250_236 : decode (mcode 250) 236 = .ok (.iload_n 2, 1) := by decide +kernel
theorem d250_237 : decode (mcode 250) 237 = .ok (.iconst 1, 1) := by decide +kernel
theorem d250_238 : decode (mcode 250) 238 = .ok (.iadd, 1) := by decide +kernel
theorem d250_239 : decode (mcode 250) 239 = .ok (.istore_n 2, 1) := by decide +kernel
theorem d250_240 : decode (mcode 250) 240 = .ok (.goto 23, 3) := by decide +kernel
theorem d250_243 : decode (mcode 250) 243 = .ok (.aload_n 0, 1) := by decide +kernel
theorem d250_244 : decode (mcode 250) 244 = .ok (.getfield 44, 3) := by decide +kernel
theorem d250_247 : decode (mcode 250) 247 = .ok (.iload_n 2, 1) := by decide +kernel
theorem d250_248 : decode (mcode 250) 248 = .ok (.iload 6, 2) := by decide +kernel
theorem d250_250 : decode (mcode 250) 250 = .ok (.bastore, 1) := by decide +kernel
theorem d250_251 : decode (mcode 250) 251 = .ok (.aload_n 0, 1) := by decide +kernel
theorem d250_252 : decode (mcode 250) 252 = .ok (.getfield 41, 3) := by decide +kernel
theorem d250_255 : decode (mcode 250) 255 = .ok (.iload_n 2, 1) := by decide +kernel
theorem d250_256 : decode (mcode 250) 256 = .ok (.aload_n 0, 1) := by decide +kernel
theorem d250_257 : decode (mcode 250) 257 = .ok (.iload 5, 2) := by decide +kernel
theorem d250_259 : decode (mcode 250) 259 = .ok (.invokevirtual 300, 3) := by decide +kernel
theorem d250_262 : decode (mcode 250) 262 = .ok (.iastore, 1) := by decide +kernel
theorem d250_263 : decode (mcode 250) 263 = .ok (.iload_n 3, 1) := by decide +kernel
theorem d250_264 : decode (mcode 250) 264 = .ok (.iconst 1, 1) := by decide +kernel
theorem d250_265 : decode (mcode 250) 265 = .ok (.iadd, 1) := by decide +kernel
theorem d250_266 : decode (mcode 250) 266 = .ok (.istore_n 3, 1) := by decide +kernel
theorem d250_267 : decode (mcode 250) 267 = .ok (.iinc 4 1, 3) := by decide +kernel
theorem d250_270 : decode (mcode 250) 270 = .ok (.goto (-253), 3) := by decide +kernel
theorem d250_273 : decode (mcode 250) 273 = .ok (.iconst (-1), 1) := by decide +kernel
theorem d250_274 : decode (mcode 250) 274 = .ok (.ireturn, 1) := by decide +kernel
theorem d251_0 : decode (mcode 251) 0 = .ok (.aload_n 0, 1) := by decide +kernel
theorem d251_1 : decode (mcode 251) 1 = .ok (.iconst 0, 1) := by decide +kernel
theorem d251_2 : decode (mcode 251) 2 = .ok (.putfield 57, 3) := by decide +kernel
theorem d251_5 : decode (mcode 251) 5 = .ok (.aload_n 0, 1) := by decide +kernel
theorem d251_6 : decode (mcode 251) 6 = .ok (.getfield 288, 3) := by decide +kernel
theorem d251_9 : decode (mcode 251) 9 = .ok (.istore_n 1, 1) := by decide +kernel
theorem d251_10 : decode (mcode 251) 10 = .ok (.aload_n 0, 1) := by decide +kernel
theorem d251_11 : decode (mcode 251) 11 = .ok (.iconst 0, 1) := by decide +kernel
theorem d251_12 : decode (mcode 251) 12 = .ok (.putfield 288, 3) := by decide +kernel
theorem d251_15 : decode (mcode 251) 15 = .ok (.aload_n 0, 1) := by decide +kernel
theorem d251_16 : decode (mcode 251) 16 = .ok (.aload_n 0, 1) := by decide +kernel
theorem d251_17 : decode (mcode 251) 17 = .ok (.iload_n 1, 1) := by decide +kernel
theorem d251_18 : decode (mcode 251) 18 = .ok (.invokevirtual 303, 3) := by decide +kernel
theorem d251_21 : decode (mcode 251) 21 = .ok (.putfield 37, 3) := by decide +kernel
theorem d251_24 : decode (mcode 251) 24 = .ok (.aload_n 0, 1) := by decide +kernel
theorem d251_25 : decode (mcode 251) 25 = .ok (.getfield 37, 3) := by decide +kernel
theorem d251_28 : decode (mcode 251) 28 = .ok (.iconst (-1), 1) := by decide +kernel
theorem d251_29 : decode (mcode 251) 29 = .ok (.if_icmp .eq 5, 3) := by decide +kernel
theorem d251_32 : decode (mcode 251) 32 = .ok (.iconst (-1), 1) := by decide +kernel
theorem d251_33 : decode (mcode 251) 33 = .ok (.ireturn, 1) := by decide +kernel
theorem d251_34 : decode (mcode 251) 34 = .ok (.aload_n 0, 1) := by decide +kernel
theorem d251_35 : decode (mcode 251) 35 = .ok (.invokevirtual 105, 3) := by decide +kernel
theorem d251_38 : decode (mcode 251) 38 = .ok (.aload_n 0, 1) := by decide +kernel
theorem d251_39 : decode (mcode 251) 39 = .ok (.aload_n 0, 1) := by decide +kernel
theorem d251_40 : decode (mcode 251) 40 = .ok (.getfield 294, 3) := by decide +kernel
theorem d251_43 : decode (mcode 251) 43 = .ok (.aload_n 0, 1) := by decide +kernel
theorem d251_44 : decode (mcode 251) 44 = .ok (.getfield 297, 3) := by decide +kernel
theorem d251_47 : decode (mcode 251) 47 = .ok (.invokevirtual 119, 3) := by decide +kernel
theorem d251_50 : decode (mcode 251) 50 = .ok (.iconst 0, 1) := by decide +kernel
theorem d251_51 : decode (mcode 251) 51 = .ok (.istore_n 2, 1) := by decide +kernel
theorem d251_52 : decode (mcode 251) 52 = .ok (.iload_n 2, 1) := by decide +kernel
theorem d251_53 : decode (mcode 251) 53 = .ok (.aload_n 0, 1) := by decide +kernel
theorem d251_54 : decode (mcode 251) 54 = .ok (.invokevirtual 67, 3) := by decide +kernel
theorem d251_57 : decode (mcode 251) 57 = .ok (.if_icmp .ge 48, 3) := by decide +kernel
theorem d251_60 : decode (mcode 251) 60 = .ok (.aload_n 0, 1) := by decide +kernel
theorem d251_61 : decode (mcode 251) 61 = .ok (.getfield 7, 3) := by decide +kernel
theorem d251_64 : decode (mcode 251) 64 = .ok (.bipush 10, 2) := by decide +kernel
theorem d251_66 : decode (mcode 251) 66 = .ok (.iload_n 2, 1) := by decide +kernel
theorem d251_67 : decode (mcode 251) 67 = .ok (.iadd, 1) := by decide +kernel
theorem d251_68 : decode (mcode 251) 68 = .ok (.aload_n 0, 1) := by decide +kernel
theorem d251_69 : decode (mcode 251) 69 = .ok (.getfield 41, 3) := by decide +kernel
theorem d251_72 : decode (mcode 251) 72 = .ok (.iload_n 2, 1) := by decide +kernel
theorem d251_73 : decode (mcode 251) 73 = .ok (.iaload, 1) := by decide +kernel
theorem d251_74 : decode (mcode 251) 74 = .ok (.iastore, 1) := by decide +kernel
theorem d251_75 : decode (mcode 251) 75 = .ok (.aload_n 0, 1) := by decide +kernel
theorem d251_76 : decode (mcode 251) 76 = .ok (.getfield 7, 3) := by decide +kernel
theorem d251_79 : decode (mcode 251) 79 = .ok (.sipush 298, 3) := by decide +kernel
theorem d251_82 : decode (mcode 251) 82 = .ok (.iload_n 2, 1) := by decide +kernel
theorem d251_83 : decode (mcode 251) 83 = .ok (.iadd, 1) := by decide +kernel
theorem d251_84 : decode (mcode 251) 84 = .ok (.aload_n 0, 1) := by decide +kernel
theorem d251_85 : decode (mcode 251) 85 = .ok (.getfield 44, 3) := by decide +kernel
theorem d251_88 : decode (mcode 251) 88 = .ok (.iload_n 2, 1) := by decide +kernel
theorem d251_89 : decode (mcode 251) 89 = .ok (.baload, 1) := by decide +kernel
theorem d251_90 : decode (mcode 251) 90 = .ok (.ifCond .eq 7, 3) := by decide +kernel
theorem d251_93 : decode (mcode 251) 93 = .ok (.iconst 1, 1) := by decide +kernel
theorem d251_94 : decode (mcode 251) 94 = .ok (.goto 4, 3) := by decide +kernel
theorem d251_97 : decode (mcode 251) 97 = .ok (.iconst 0, 1) := by decide +kernel
theorem d251_98 : decode (mcode 251) 98 = .ok (.iastore, 1) := by decide +kernel
theorem d251_99 : decode (mcode 251) 99 = .ok (.iinc 2 1, 3) := by decide +kernel
theorem d251_102 : decode (mcode 251) 102 = .ok (.goto (-50), 3) := by decide +kernel
theorem d251_105 : decode (mcode 251) 105 = .ok (.aload_n 0, 1) := by decide +kernel
theorem d251_106 : decode (mcode 251) 106 = .ok (.invokevirtual 67, 3) := by decide +kernel
theorem d251_109 : decode (mcode 251) 109 = .ok (.ireturn, 1) := by decide +kernel
theorem d252_0 : decode (mcode 252) 0 = .ok (.aload_n 0, 1) := by decide +kernel
theorem d252_1 : decode (mcode 252) 1 = .ok (.iconst 0, 1) := by decide +kernel
theorem d252_2 : decode (mcode 252) 2 = .ok (.putfield 57, 3) := by decide +kernel
theorem d252_5 : decode (mcode 252) 5 = .ok (.aload_n 0, 1) := by decide +kernel
theorem d252_6 : decode (mcode 252) 6 = .ok (.getfield 37, 3) := by decide +kernel
theorem d252_9 : decode (mcode 252) 9 = .ok (.ireturn, 1) := by decide +kernel
theorem d253_0 : decode (mcode 253) 0 = .ok (.iconst 0, 1) := by decide +kernel
theorem d253_1 : decode (mcode 253) 1 = .ok (.istore_n 2, 1) := by decide +kernel
theorem d253_2 : decode (mcode 253) 2 = .ok (.iload_n 1, 1) := by decide +kernel
theorem d253_3 : decode (mcode 253) 3 = .ok (.istore_n 3, 1) := by decide +kernel
theorem d253_4 : decode (mcode 253) 4 = .ok (.aload_n 0, 1) := by decide +kernel
theorem d253_5 : decode (mcode 253) 5 = .ok (.getfield 7, 3) := by decide +kernel
theorem d253_8 : decode (mcode 253) 8 = .ok (.sipush 586, 3) := by decide +kernel
theorem d253_11 : decode (mcode 253) 11 = .ok (.iload_n 3, 1) := by decide +kernel
theorem d253_12 : decode (mcode 253) 12 = .ok (.iadd, 1) := by decide +kernel
theorem d253_13 : decode (mcode 253) 13 = .ok (.iaload, 1) := by decide +kernel
theorem d253_14 : decode (mcode 253) 14 = .ok (.iconst (-1), 1) := by decide +kernel
theorem d253_15 : decode (mcode 253) 15 = .ok (.if_icmp .eq 21, 3) := by decide +kernel
theorem d253_18 : decode (mcode 253) 18 = .ok (.iload_n 2, 1) := by decide +kernel
theorem d253_19 : decode (mcode 253) 19 = .ok (.iconst 1, 1) := by decide +kernel
theorem d253_20 : decode (mcode 253) 20 = .ok (.iadd, 1) := by decide +kernel
theorem d253_21 : decode (mcode 253) 21 = .ok (.istore_n 2, 1) := by decide +kernel
theorem d253_22 : decode (mcode 253) 22 = .ok (.aload_n 0, 1) := by decide +kernel
theorem d253_23 : decode (mcode 253) 23 = .ok (.getfield 7, 3) := by decide +kernel
theorem d253_26 : decode (mcode 253) 26 = .ok (.sipush 586, 3) := by decide +kernel
theorem d253_29 : decode (mcode 253) 29 = .ok (.iload_n 3, 1) := by decide +kernel
theorem d253_30 : decode (mcode 253) 30 = .ok (.iadd, 1) := by decide +kernel
theorem d253_31 : decode (mcode 253) 31 = .ok (.iaload, 1) := by decide +kernel
theorem d253_32 : decode (mcode 253) 32 = .ok (.istore_n 3, 1) := by decide +kernel
theorem d253_33 : decode (mcode 253) 33 = .ok (.goto (-29), 3) := by decide +kernel
theorem d253_36 : decode (mcode 253) 36 = .ok (.iload_n 2, 1) := by decide +kernel
theorem d253_37 : decode (mcode 253) 37 = .ok (.ireturn, 1) := by decide +kernel
theorem d254_0 : decode (mcode 254) 0 = .ok (.aload_n 0, 1) := by decide +kernel
theorem d254_1 : decode (mcode 254) 1 = .ok (.iconst 0, 1) := by decide +kernel
theorem d254_2 : decode (mcode 254) 2 = .ok (.putfield 57, 3) := by decide +kernel
theorem d254_5 : decode (mcode 254) 5 = .ok (.aload_n 0, 1) := by decide +kernel
theorem d254_6 : decode (mcode 254) 6 = .ok (.iload_n 1, 1) := by decide +kernel
theorem d254_7 : decode (mcode 254) 7 = .ok (.invokevirtual 123, 3) := by decide +kernel
theorem d254_10 : decode (mcode 254) 10 = .ok (.ifCond .eq 14, 3) := by decide +kernel
theorem d254_13 : decode (mcode 254) 13 = .ok (.aload_n 0, 1) := by decide +kernel
theorem d254_14 : decode (mcode 254) 14 = .ok (.iload_n 2, 1) := by decide +kernel
theorem d254_15 : decode (mcode 254) 15 = .ok (.iconst 0, 1) := by decide +kernel
theorem d254_16 : decode (mcode 254) 16 = .ok (.bipush 7, 2) := by decide +kernel
theorem d254_18 : decode (mcode 254) 18 = .ok (.invokevirtual 115, 3) := by decide +kernel
theorem d254_21 : decode (mcode 254) 21 = .ok (.ifCond .ne 7, 3) := by decide +kernel
theorem d254_24 : decode (mcode 254) 24 = .ok (.sipush (-1000), 3) := by decide +kernel
theorem d254_27 : decode (mcode 254) 27 = .ok (.ireturn, 1) := by decide +kernel
theorem d254_28 : decode (mcode 254) 28 = .ok (.aload_n 0, 1) := by decide +kernel
theorem d254_29 : decode (mcode 254) 29 = .ok (.iload_n 1, 1) := by decide +kernel
theorem d254_30 : decode (mcode 254) 30 = .ok (.invokevirtual 210, 3) := by decide +kernel
theorem d254_33 : decode (mcode 254) 33 = .ok (.istore_n 3, 1) := by decide +kernel
theorem d254_34 : decode (mcode 254) 34 = .ok (.iload_n 2, 1) := by decide +kernel
theorem d254_35 : decode (mcode 254) 35 = .ok (.ifCond .ne 9, 3) := by decide +kernel
theorem d254_38 : decode (mcode 254) 38 = .ok (.aload_n 0, 1) := by decide +kernel
theorem d254_39 : decode (mcode 254) 39 = .ok (.iload_n 1, 1) := by decide +kernel
theorem d254_40 : decode (mcode 254) 40 = .ok (.invokevirtual 72, 3) := by decide +kernel
theorem d254_43 : decode (mcode 254) 43 = .ok (.ireturn, 1) := by decide +kernel
theorem d254_44 : decode (mcode 254) 44 = .ok (.iload_n 2, 1) := by decide +kernel
theorem d254_45 : decode (mcode 254) 45 = .ok (.iconst 1, 1) := by decide +kernel
theorem d254_46 : decode (mcode 254) 46 = .ok (.if_icmp .ne 9, 3) := by decide +kernel
theorem d254_49 : decode (mcode 254) 49 = .ok (.aload_n 0, 1) := by decide +kernel
theorem d254_50 : decode (mcode 254) 50 = .ok (.iload_n 1, 1) := by decide +kernel
theorem d254_51 : decode (mcode 254) 51 = .ok (.invokevirtual 96, 3) := by decide +kernel
theorem d254_54 : decode (mcode 254) 54 = .ok (.ireturn, 1) := by decide +kernel
theorem d254_55 : decode (mcode 254) 55 = .ok (.iload_n 2, 1) := by decide +kernel
theorem d254_56 : decode (mcode 254) 56 = .ok (.iconst 2, 1) := by decide +kernel
theorem d254_57 : decode (mcode 254) 57 = .ok (.if_icmp .ne 14, 3) := by decide +kernel
theorem d254_60 : decode (mcode 254) 60 = .ok (.aload_n 0, 1) := by decide +kernel
theorem d254_61 : decode (mcode 254) 61 = .ok (.getfield 7, 3) := by decide +kernel
theorem d254_64 : decode (mcode 254) 64 = .ok (.sipush 298, 3) := by decide +kernel
theorem d254_67 : decode (mcode 254) 67 = .ok (.iload_n 1, 1) := by decide +kernel
theorem d254_68 : decode (mcode 254) 68 = .ok (.iadd, 1) := by decide +kernel
theorem d254_69 : decode (mcode 254) 69 = .ok (.iaload, 1) := by decide +kernel
theorem d254_70 : decode (mcode 254) 70 = .ok (.ireturn, 1) := by decide +kernel
theorem d254_71 : decode (mcode 254) 71 = .ok (.iload_n 2, 1) := by decide +kernel
theorem d254_72 : decode (mcode 254) 72 = .ok (.iconst 3, 1) := by decide +kernel
theorem d254_73 : decode (mcode 254) 73 = .ok (.if_icmp .ne 13, 3) := by decide +kernel
theorem d254_76 : decode (mcode 254) 76 = .ok (.iload_n 3, 1) := by decide +kernel
theorem d254_77 : decode (mcode 254) 77 = .ok (.ifCond .eq 7, 3) := by decide +kernel
theorem d254_80 : decode (mcode 254) 80 = .ok (.iconst 1, 1) := by decide +kernel
theorem d254_81 : decode (mcode 254) 81 = .ok (.goto 4, 3) := by decide +kernel
theorem d254_84 : decode (mcode 254) 84 = .ok (.iconst 0, 1) := by decide +kernel
theorem d254_85 : decode (mcode 254) 85 = .ok (.ireturn, 1) := by decide +kernel
theorem d254_86 : decode (mcode 254) 86 = .ok (.iload_n 2, 1) := by decide +kernel
theorem d254_87 : decode (mcode 254) 87 = .ok (.bipush 7, 2) := by decide +kernel
theorem d254_89 : decode (mcode 254) 89 = .ok (.if_icmp .ne 14, 3) := by decide +kernel
theorem d254_92 : decode (mcode 254) 92 = .ok (.aload_n 0, 1) := by decide +kernel
theorem d254_93 : decode (mcode 254) 93 = .ok (.getfield 7, 3) := by decide +kernel
theorem d254_96 : decode (mcode 254) 96 = .ok (.sipush 874, 3) := by decide +kernel
theorem d254_99 : decode (mcode 254) 99 = .ok (.iload_n 1, 1) := by decide +kernel
theorem d254_100 : decode (mcode 254) 100 = .ok (.iadd, 1) := by decide +kernel
theorem d254_101 : decode (mcode 254) 101 = .ok (.iaload, 1) := by decide +kernel
theorem d254_102 : decode (mcode 254) 102 = .ok (.ireturn, 1) := by decide +kernel
theorem d254_103 : decode (mcode 254) 103 = .ok (.iload_n 3, 1) := by decide +kernel
theorem d254_104 : decode (mcode 254) 104 = .ok (.ifCond .ne 5, 3) := by decide +kernel
theorem d254_107 : decode (mcode 254) 107 = .ok (.iconst (-1), 1) := by decide +kernel
theorem d254_108 : decode (mcode 254) 108 = .ok (.ireturn, 1) := by decide +kernel
theorem d254_109 : decode (mcode 254) 109 = .ok (.iload_n 2, 1) := by decide +kernel
theorem d254_110 : decode (mcode 254) 110 = .ok (.iconst 4, 1) := by decide +kernel
theorem d254_111 : decode (mcode 254) 111 = .ok (.if_icmp .ne 16, 3) := by decide +kernel
theorem d254_114 : decode (mcode 254) 114 = .ok (.aload_n 0, 1) := by decide +kernel
theorem d254_115 : decode (mcode 254) 115 = .ok (.getfield 7, 3) := by decide +kernel
theorem d254_118 : decode (mcode 254) 118 = .ok (.sipush 586, 3) := by decide +kernel
theorem d254_121 : decode (mcode 254) 121 = .ok (.iload_n 1, 1) := by decide +kernel
theorem d254_122 : decode (mcode 254) 122 = .ok (.iadd, 1) := by decide +kernel
theorem d254_123 : decode (mcode 254) 123 = .ok (.iaload, 1) := by decide +kernel
theorem d254_124 : decode (mcode 254) 124 = .ok (.goto 26, 3) := by decide +kernel
theorem d254_127 : decode (mcode 254) 127 = .ok (.iload_n 2, 1) := by decide +kernel
theorem d254_128 : decode (mcode 254) 128 = .ok (.iconst 5, 1) := by decide +kernel
theorem d254_129 : decode (mcode 254) 129 = .ok (.if_icmp .ne 16, 3) := by decide +kernel
theorem d254_132 : decode (mcode 254) 132 = .ok (.aload_n 0, 1) := by decide +kernel
theorem d254_133 : decode (mcode 254) 133 = .ok (.getfield 7, 3) := by decide +kernel
theorem d254_136 : decode (mcode 254) 136 = .ok (.sipush 730, 3) := by decide +kernel
theorem d254_139 : decode (mcode 254) 139 = .ok (.iload_n 1, 1) := by decide +kernel
theorem d254_140 : decode (mcode 254) 140 = .ok (.iadd, 1) := by decide +kernel
theorem d254_141 : decode (mcode 254) 141 = .ok (.iaload, 1) := by decide +kernel
theorem d254_142 : decode (mcode 254) 142 = .ok (.goto 8, 3) := by decide +kernel
theorem d254_145 : decode (mcode 254) 145 = .ok (.aload_n 0, 1) := by decide +kernel
theorem d254_146 : decode (mcode 254) 146 = .ok (.iload_n 1, 1) := by decide +kernel
theorem d254_147 : decode (mcode 254) 147 = .ok (.invokevirtual 306, 3) := by decide +kernel
theorem d254_150 : decode (mcode 254) 150 = .ok (.ireturn, 1) := by decide +kernel
theorem d255_0 : decode (mcode 255) 0 = .ok (.aload_n 0, 1) := by decide +kernel
theorem d255_1 : decode (mcode 255) 1 = .ok (.iconst 0, 1) := by decide +kernel
theorem d255_2 : decode (mcode 255) 2 = .ok (.putfield 57, 3) := by decide +kernel
theorem d255_5 : decode (mcode 255) 5 = .ok (.aload_n 0, 1) := by decide +kernel
theorem d255_6 : decode (mcode 255) 6 = .ok (.iload_n 1, 1) := by decide +kernel
theorem d255_7 : decode (mcode 255) 7 = .ok (.invokevirtual 123, 3) := by decide +kernel
theorem d255_10 : decode (mcode 255) 10 = .ok (.ifCond .eq 24, 3) := by decide +kernel
theorem d255_13 : decode (mcode 255) 13 = .ok (.aload_n 0, 1) := by decide +kernel
theorem d255_14 : decode (mcode 255) 14 = .ok (.iload_n 1, 1) := by decide +kernel
theorem d255_15 : decode (mcode 255) 15 = .ok (.invokevirtual 210, 3) := by decide +kernel
theorem d255_18 : decode (mcode 255) 18 = .ok (.ifCond .eq 16, 3) := by decide +kernel
theorem d255_21 : decode (mcode 255) 21 = .ok (.aload_n 0, 1) := by decide +kernel
theorem d255_22 : decode (mcode 255) 22 = .ok (.getfield 7, 3) := by decide +kernel
theorem d255_25 : decode (mcode 255) 25 = .ok (.sipush 442, 3) := by decide +kernel
theorem d255_28 : decode (mcode 255) 28 = .ok (.iload_n 1, 1) := by decide +kernel
theorem d255_29 : decode (mcode 255) 29 = .ok (.iadd, 1) := by decide +kernel
theorem d255_30 : decode (mcode 255) 30 = .ok (.iaload, 1) := by decide +kernel
theorem d255_31 : decode (mcode 255) 31 = .ok (.goto 6, 3) := by decide +kernel
theorem d255_34 : decode (mcode 255) 34 = .ok (.ldc_w 309, 3) := by decide +kernel
theorem d255_37 : decode (mcode 255) 37 = .ok (.ireturn, 1) := by decide +kernel
theorem d256_0 : decode (mcode 256) 0 = .ok (.aload_n 0, 1) := by decide +kernel
theorem d256_1 : decode (mcode 256) 1 = .ok (.iconst 0, 1) := by decide +kernel
theorem d256_2 : decode (mcode 256) 2 = .ok (.putfield 57, 3) := by decide +kernel
theorem d256_5 : decode (mcode 256) 5 = .ok (.aload_n 0, 1) := by decide +kernel
theorem d256_6 : decode (mcode 256) 6 = .ok (.iload_n 1, 1) := by decide +kernel
theorem d256_7 : decode (mcode 256) 7 = .ok (.invokevirtual 207, 3) := by decide +kernel
theorem d256_10 : decode (mcode 256) 10 = .ok (.ifCond .eq 14, 3) := by decide +kernel
theorem d256_13 : decode (mcode 256) 13 = .ok (.aload_n 0, 1) := by decide +kernel
theorem d256_14 : decode (mcode 256) 14 = .ok (.iload_n 2, 1) := by decide +kernel
theorem d256_15 : decode (mcode 256) 15 = .ok (.iconst 0, 1) := by decide +kernel
theorem d256_16 : decode (mcode 256) 16 = .ok (.bipush 6, 2) := by decide +kernel
theorem d256_18 : decode (mcode 256) 18 = .ok (.invokevirtual 115, 3) := by decide +kernel
theorem d256_21 : decode (mcode 256) 21 = .ok (.ifCond .ne 7, 3) := by decide +kernel
theorem d256_24 : decode (mcode 256) 24 = .ok (.sipush (-1000), 3) := by decide +kernel
theorem d256_27 : decode (mcode 256) 27 = .ok (.ireturn, 1) := by decide +kernel
theorem d256_28 : decode (mcode 256) 28 = .ok (.iload_n 2, 1) := by decide +kernel
theorem d256_29 : decode (mcode 256) 29 = .ok (.ifCond .ne 18, 3) := by decide +kernel
theorem d256_32 : decode (mcode 256) 32 = .ok (.aload_n 0, 1) := by decide +kernel
theorem d256_33 : decode (mcode 256) 33 = .ok (.aload_n 0, 1) := by decide +kernel
theorem d256_34 : decode (mcode 256) 34 = .ok (.iload_n 1, 1) := by decide +kernel
theorem d256_35 : decode (mcode 256) 35 = .ok (.invokevirtual 86, 3) := by decide +kernel
theorem d256_38 : decode (mcode 256) 38 = .ok (.aload_n 0, 1) := by decide +kernel
theorem d256_39 : decode (mcode 256) 39 = .ok (.iload_n 1, 1) := by decide +kernel
theorem d256_40 : decode (mcode 256) 40 = .ok (.invokevirtual 93, 3) := by decide +kernel
theorem d256_43 : decode (mcode 256) 43 = .ok (.invokevirtual 133, 3) := by decide +kernel
theorem d256_46 : decode (mcode 256) 46 = .ok (.ireturn, 1) := by decide +kernel
theorem d256_47 : decode (mcode 256) 47 = .ok (.iload_n 2, 1) := by decide +kernel
theorem d256_48 : decode (mcode 256) 48 = .ok (.iconst 1, 1) := by decide +kernel
theorem d256_49 : decode (mcode 256) 49 = .ok (.if_icmp .ne 17, 3) := by decide +kernel
theorem d256_52 : decode (mcode 256) 52 = .ok (.aload_n 0, 1) := by decide +kernel
theorem d256_53 : decode (mcode 256) 53 = .ok (.iload_n 1, 1) := by decide +kernel
theorem d256_54 : decode (mcode 256) 54 = .ok (.invokevirtual 220, 3) := by decide +kernel
theorem d256_57 : decode (mcode 256) 57 = .ok (.ifCond .eq 7, 3) := by decide +kernel
theorem d256_60 : decode (mcode 256) 60 = .ok (.iconst 1, 1) := by decide +kernel
theorem d256_61 : decode (mcode 256) 61 = .ok (.goto 4, 3) := by decide +kernel
theorem d256_64 : decode (mcode 256) 64 = .ok (.iconst 0, 1) := by decide +kernel
theorem d256_65 : decode (mcode 256) 65 = .ok (.ireturn, 1) := by decide +kernel
theorem d256_66 : decode (mcode 256) 66 = .ok (.iload_n 2, 1) := by decide +kernel
theorem d256_67 : decode (mcode 256) 67 = .ok (.iconst 2, 1) := by decide +kernel
theorem d256_68 : decode (mcode 256) 68 = .ok (.if_icmp .ne 14, 3) := by decide +kernel
theorem d256_71 : decode (mcode 256) 71 = .ok (.aload_n 0, 1) := by decide +kernel
theorem d256_72 : decode (mcode 256) 72 = .ok (.getfield 7, 3) := by decide +kernel
theorem d256_75 : decode (mcode 256) 75 = .ok (.sipush 1018, 3) := by decide +kernel
theorem d256_78 : decode (mcode 256) 78 = .ok (.iload_n 1, 1) := by decide +kernel
theorem d256_79 : decode (mcode 256) 79 = .ok (.iadd, 1) := by decide +kernel
theorem d256_80 : decode (mcode 256) 80 = .ok (.iaload, 1) := by decide +kernel
theorem d256_81 : decode (mcode 256) 81 = .ok (.ireturn, 1) := by decide +kernel
theorem d256_82 : decode (mcode 256) 82 = .ok (.iload_n 2, 1) := by decide +kernel
theorem d256_83 : decode (mcode 256) 83 = .ok (.iconst 3, 1) := by decide +kernel
theorem d256_84 : decode (mcode 256) 84 = .ok (.if_icmp .ne 14, 3) := by decide +kernel
theorem d256_87 : decode (mcode 256) 87 = .ok (.aload_n 0, 1) := by decide +kernel
theorem d256_88 : decode (mcode 256) 88 = .ok (.getfield 7, 3) := by decide +kernel
theorem d256_91 : decode (mcode 256) 91 = .ok (.sipush 1306, 3) := by decide +kernel
theorem d256_94 : decode (mcode 256) 94 = .ok (.iload_n 1, 1) := by decide +kernel
theorem d256_95 : decode (mcode 256) 95 = .ok (.iadd, 1) := by decide +kernel
theorem d256_96 : decode (mcode 256) 96 = .ok (.iaload, 1) := by decide +kernel
theorem d256_97 : decode (mcode 256) 97 = .ok (.ireturn, 1) := by decide +kernel
theorem d256_98 : decode (mcode 256) 98 = .ok (.iload_n 2, 1) := by decide +kernel
theorem d256_99 : decode (mcode 256) 99 = .ok (.iconst 4, 1) := by decide +kernel
theorem d256_100 : decode (mcode 256) 100 = .ok (.if_icmp .ne 17, 3) := by decide +kernel
theorem d256_103 : decode (mcode 256) 103 = .ok (.aload_n 0, 1) := by decide +kernel
theorem d256_104 : decode (mcode 256) 104 = .ok (.iload_n 1, 1) := by decide +kernel
theorem d256_105 : decode (mcode 256) 105 = .ok (.invokevirtual 248, 3) := by decide +kernel
theorem d256_108 : decode (mcode 256) 108 = .ok (.ifCond .eq 7, 3) := by decide +kernel
theorem d256_111 : decode (mcode 256) 111 = .ok (.iconst 1, 1) := by decide +kernel
theorem d256_112 : decode (mcode 256) 112 = .ok (.goto 4, 3) := by decide +kernel
theorem d256_115 : decode (mcode 256) 115 = .ok (.iconst 0, 1) := by decide +kernel
theorem d256_116 : decode (mcode 256) 116 = .ok (.ireturn, 1) := by decide +kernel
theorem d256_117 : decode (mcode 256) 117 = .ok (.iload_n 2, 1) := by decide +kernel
theorem d256_118 : decode (mcode 256) 118 = .ok (.iconst 5, 1) := by decide +kernel
theorem d256_119 : decode (mcode 256) 119 = .ok (.if_icmp .ne 19, 3) := by decide +kernel
theorem d256_122 : decode (mcode 256) 122 = .ok (.aload_n 0, 1) := by decide +kernel
theorem d256_123 : decode (mcode 256) 123 = .ok (.iload_n 1, 1) := by decide +kernel
theorem d256_124 : decode (mcode 256) 124 = .ok (.invokevirtual 251, 3) := by decide +kernel
theorem d256_127 : decode (mcode 256) 127 = .ok (.ifCond .eq 7, 3) := by decide +kernel
theorem d256_130 : decode (mcode 256) 130 = .ok (.iconst 1, 1) := by decide +kernel
theorem d256_131 : decode (mcode 256) 131 = .ok (.goto 12, 3) := by decide +kernel
theorem d256_134 : decode (mcode 256) 134 = .ok (.iconst 0, 1) := by decide +kernel
theorem d256_135 : decode (mcode 256) 135 = .ok (.goto 8, 3) := by decide +kernel
theorem d256_138 : decode (mcode 256) 138 = .ok (.aload_n 0, 1) := by decide +kernel
theorem d256_139 : decode (mcode 256) 139 = .ok (.iload_n 1, 1) := by decide +kernel
theorem d256_140 : decode (mcode 256) 140 = .ok (.invokevirtual 226, 3) := by decide +kernel
theorem d256_143 : decode (mcode 256) 143 = .ok (.ireturn, 1) := by decide +kernel
theorem d257_0 : decode (mcode 257) 0 = .ok (.aload_n 0, 1) := by decide +kernel
theorem d257_1 : decode (mcode 257) 1 = .ok (.iconst 0, 1) := by decide +kernel
theorem d257_2 : decode (mcode 257) 2 = .ok (.putfield 57, 3) := by decide +kernel
theorem d257_5 : decode (mcode 257) 5 = .ok (.aload_n 0, 1) := by decide +kernel
theorem d257_6 : decode (mcode 257) 6 = .ok (.iload_n 1, 1) := by decide +kernel
theorem d257_7 : decode (mcode 257) 7 = .ok (.invokevirtual 159, 3) := by decide +kernel
theorem d257_10 : decode (mcode 257) 10 = .ok (.ifCond .eq 11, 3) := by decide +kernel
theorem d257_13 : decode (mcode 257) 13 = .ok (.aload_n 0, 1) := by decide +kernel
theorem d257_14 : decode (mcode 257) 14 = .ok (.iload_n 1, 1) := by decide +kernel
theorem d257_15 : decode (mcode 257) 15 = .ok (.invokevirtual 139, 3) := by decide +kernel
theorem d257_18 : decode (mcode 257) 18 = .ok (.goto 6, 3) := by decide +kernel
theorem d257_21 : decode (mcode 257) 21 = .ok (.sipush (-1000), 3) := by decide +kernel
theorem d257_24 : decode (mcode 257) 24 = .ok (.ireturn, 1) := by decide +kernel
theorem d258_0 : decode (mcode 258) 0 = .ok (.aload_n 0, 1) := by decide +kernel
theorem d258_1 : decode (mcode 258) 1 = .ok (.iconst 0, 1) := by decide +kernel
theorem d258_2 : decode (mcode 258) 2 = .ok (.putfield 57, 3) := by decide +kernel
theorem d258_5 : decode (mcode 258) 5 = .ok (.aload_n 0, 1) := by decide +kernel
theorem d258_6 : decode (mcode 258) 6 = .ok (.invokevirtual 186, 3) := by decide +kernel
theorem d258_9 : decode (mcode 258) 9 = .ok (.iload_n 1, 1) := by decide +kernel
theorem d258_10 : decode (mcode 258) 10 = .ok (.iconst (-1), 1) := by decide +kernel
theorem d258_11 : decode (mcode 258) 11 = .ok (.if_icmp .ne 8, 3) := by decide +kernel
theorem d258_14 : decode (mcode 258) 14 = .ok (.aload_n 0, 1) := by decide +kernel
theorem d258_15 : decode (mcode 258) 15 = .ok (.getfield 168, 3) := by decide +kernel
theorem d258_18 : decode (mcode 258) 18 = .ok (.ireturn, 1) := by decide +kernel
theorem d258_19 : decode (mcode 258) 19 = .ok (.aload_n 0, 1) := by decide +kernel
theorem d258_20 : decode (mcode 258) 20 = .ok (.iload_n 1, 1) := by decide +kernel
theorem d258_21 : decode (mcode 258) 21 = .ok (.iconst 0, 1) := by decide +kernel
theorem d258_22 : decode (mcode 258) 22 = .ok (.aload_n 0, 1) := by decide +kernel
theorem d258_23 : decode (mcode 258) 23 = .ok (.getfield 168, 3) := by decide +kernel
theorem d258_26 : decode (mcode 258) 26 = .ok (.iconst 1, 1) := by decide +kernel
theorem d258_27 : decode (mcode 258) 27 = .ok (.isub, 1) := by decide +kernel
theorem d258_28 : decode (mcode 258) 28 = .ok (.invokevirtual 115, 3) := by decide +kernel
theorem d258_31 : decode (mcode 258) 31 = .ok (.ifCond .eq 12, 3) := by decide +kernel
theorem d258_34 : decode (mcode 258) 34 = .ok (.aload_n 0, 1) := by decide +kernel
theorem d258_35 : decode (mcode 258) 35 = .ok (.getfield 22, 3) := by decide +kernel
theorem d258_38 : decode (mcode 258) 38 = .ok (.iload_n 1, 1) := by decide +kernel
theorem d258_39 : decode (mcode 258) 39 = .ok (.iaload, 1) := by decide +kernel
theorem d258_40 : decode (mcode 258) 40 = .ok (.goto 4, 3) := by decide +kernel
theorem d258_43 : decode (mcode 258) 43 = .ok (.iconst (-1), 1) := by decide +kernel
theorem d258_44 : decode (mcode 258) 44 = .ok (.ireturn, 1) := by decide +kernel
theorem d259_0 : decode (mcode 259) 0 = .ok (.aload_n 0, 1) := by decide +kernel
theorem d259_1 : decode (mcode 259) 1 = .ok (.iconst 0, 1) := by decide +kernel
theorem d259_2 : decode (mcode 259) 2 = .ok (.putfield 57, 3) := by decide +kernel
theorem d259_5 : decode (mcode 259) 5 = .ok (.aload_n 0, 1) := by decide +kernel
theorem d259_6 : decode (mcode 259) 6 = .ok (.iload_n 1, 1) := by decide +kernel
theorem d259_7 : decode (mcode 259) 7 = .ok (.invokevirtual 159, 3) := by decide +kernel
theorem d259_10 : decode (mcode 259) 10 = .ok (.ifCond .eq 16, 3) := by decide +kernel
theorem d259_13 : decode (mcode 259) 13 = .ok (.iload_n 2, 1) := by decide +kernel
theorem d259_14 : decode (mcode 259) 14 = .ok (.iconst (-1), 1) := by decide +kernel
theorem d259_15 : decode (mcode 259) 15 = .ok (.if_icmp .eq 13, 3) := by decide +kernel
theorem d259_18 : decode (mcode 259) 18 = .ok (.aload_n 0, 1) := by decide +kernel
theorem d259_19 : decode (mcode 259) 19 = .ok (.iload_n 2, 1) := by decide +kernel
theorem d259_20 : decode (mcode 259) 20 = .ok (.invokevirtual 159, 3) := by decide +kernel
theorem d259_23 : decode (mcode 259) 23 = .ok (.ifCond .ne 5, 3) := by decide +kernel
theorem d259_26 : decode (mcode 259) 26 = .ok (.iconst (-1), 1) := by decide +kernel
theorem d259_27 : decode (mcode 259) 27 = .ok (.ireturn, 1) := by decide +kernel
theorem d259_28 : decode (mcode 259) 28 = .ok (.iload_n 2, 1) := by decide +kernel
theorem d259_29 : decode (mcode 259) 29 = .ok (.iconst (-1), 1) := by decide +kernel
theorem d259_30 : decode (mcode 259) 30 = .ok (.if_icmp .ne 11, 3) := by decide +kernel
theorem d259_33 : decode (mcode 259) 33 = .ok (.aload_n 0, 1) := by decide +kernel
theorem d259_34 : decode (mcode 259) 34 = .ok (.iload_n 1, 1) := by decide +kernel
theorem d259_35 : decode (mcode 259) 35 = .ok (.invokevirtual 171, 3) := by decide +kernel
theorem d259_38 : decode (mcode 259) 38 = .ok (.goto 9, 3) := by decide +kernel
theorem d259_41 : decode (mcode 259) 41 = .ok (.aload_n 0, 1) := by decide +kernel
theorem d259_42 : decode (mcode 259) 42 = .ok (.iload_n 1, 1) := by decide +kernel
theorem d259_43 : decode (mcode 259) 43 = .ok (.iload_n 2, 1) := by decide +kernel
theorem d259_44 : decode (mcode 259) 44 = .ok (.invokevirtual 142, 3) := by decide +kernel
theorem d259_47 : decode (mcode 259) 47 = .ok (.ireturn, 1) := by decide +kernel
theorem d260_0 : decode (mcode 260) 0 = .ok (.aload_n 0, 1) := by decide +kernel
theorem d260_1 : decode (mcode 260) 1 = .ok (.iconst 0, 1) := by decide +kernel
theorem d260_2 : decode (mcode 260) 2 = .ok (.putfield 57, 3) := by decide +kernel
theorem d260_5 : decode (mcode 260) 5 = .ok (.iload_n 1, 1) := by decide +kernel
theorem d260_6 : decode (mcode 260) 6 = .ok (.iconst (-1), 1) := by decide +kernel
theorem d260_7 : decode (mcode 260) 7 = .ok (.if_icmp .ne 10, 3) := by decide +kernel
theorem d260_10 : decode (mcode 260) 10 = .ok (.aload_n 0, 1) := by decide +kernel
theorem d260_11 : decode (mcode 260) 11 = .ok (.getfield 7, 3) := by decide +kernel
theorem d260_14 : decode (mcode 260) 14 = .ok (.iconst 5, 1) := by decide +kernel
theorem d260_15 : decode (mcode 260) 15 = .ok (.iaload, 1) := by decide +kernel
theorem d260_16 : decode (mcode 260) 16 = .ok (.ireturn, 1) := by decide +kernel
theorem d260_17 : decode (mcode 260) 17 = .ok (.aload_n 0, 1) := by decide +kernel
theorem d260_18 : decode (mcode 260) 18 = .ok (.iload_n 1, 1) := by decide +kernel
theorem d260_19 : decode (mcode 260) 19 = .ok (.iconst 0, 1) := by decide +kernel
theorem d260_20 : decode (mcode 260) 20 = .ok (.aload_n 0, 1) := by decide +kernel
theorem d260_21 : decode (mcode 260) 21 = .ok (.getfield 7, 3) := by decide +kernel
theorem d260_24 : decode (mcode 260) 24 = .ok (.iconst 5, 1) := by decide +kernel
theorem d260_25 : decode (mcode 260) 25 = .ok (.iaload, 1) := by decide +kernel
theorem d260_26 : decode (mcode 260) 26 = .ok (.iconst 1, 1) := by decide +kernel
theorem d260_27 : decode (mcode 260) 27 = .ok (.isub, 1) := by decide +kernel
theorem d260_28 : decode (mcode 260) 28 = .ok (.invokevirtual 115, 3) := by decide +kernel
theorem d260_31 : decode (mcode 260) 31 = .ok (.ifCond .eq 13, 3) := by decide +kernel
theorem d260_34 : decode (mcode 260) 34 = .ok (.aload_n 0, 1) := by decide +kernel
theorem d260_35 : decode (mcode 260) 35 = .ok (.iload_n 2, 1) := by decide +kernel
theorem d260_36 : decode (mcode 260) 36 = .ok (.iconst 0, 1) := by decide +kernel
theorem d260_37 : decode (mcode 260) 37 = .ok (.iconst 2, 1) := by decide +kernel
theorem d260_38 : decode (mcode 260) 38 = .ok (.invokevirtual 115, 3) := by decide +kernel
theorem d260_41 : decode (mcode 260) 41 = .ok (.ifCond .ne 7, 3) := by decide +kernel
theorem d260_44 : decode (mcode 260) 44 = .ok (.sipush (-1000), 3) := by decide +kernel
theorem d260_47 : decode (mcode 260) 47 = .ok (.ireturn, 1) := by decide +kernel
theorem d260_48 : decode (mcode 260) 48 = .ok (.iload_n 2, 1) := by decide +kernel
theorem d260_49 : decode (mcode 260) 49 = .ok (.ifCond .ne 16, 3) := by decide +kernel
theorem d260_52 : decode (mcode 260) 52 = .ok (.aload_n 0, 1) := by decide +kernel
theorem d260_53 : decode (mcode 260) 53 = .ok (.getfield 7, 3) := by decide +kernel
theorem d260_56 : decode (mcode 260) 56 = .ok (.sipush 1594, 3) := by decide +kernel
theorem d260_59 : decode (mcode 260) 59 = .ok (.iload_n 1, 1) := by decide +kernel
theorem d260_60 : decode (mcode 260) 60 = .ok (.iadd, 1) := by decide +kernel
theorem d260_61 : decode (mcode 260) 61 = .ok (.iaload, 1) := by decide +kernel
theorem d260_62 : decode (mcode 260) 62 = .ok (.goto 31, 3) := by decide +kernel
theorem d260_65 : decode (mcode 260) 65 = .ok (.iload_n 2, 1) := by decide +kernel
theorem d260_66 : decode (mcode 260) 66 = .ok (.iconst 1, 1) := by decide +kernel
theorem d260_67 : decode (mcode 260) 67 = .ok (.if_icmp .ne 16, 3) := by decide +kernel
theorem d260_70 : decode (mcode 260) 70 = .ok (.aload_n 0, 1) := by decide +kernel
theorem d260_71 : decode (mcode 260) 71 = .ok (.getfield 7, 3) := by decide +kernel
theorem d260_74 : decode (mcode 260) 74 = .ok (.sipush 1738, 3) := by decide +kernel
theorem d260_77 : decode (mcode 260) 77 = .ok (.iload_n 1, 1) := by decide +kernel
theorem d260_78 : decode (mcode 260) 78 = .ok (.iadd, 1) := by decide +kernel
theorem d260_79 : decode (mcode 260) 79 = .ok (.iaload, 1) := by decide +kernel
theorem d260_80 : decode (mcode 260) 80 = .ok (.goto 13, 3) := by decide +kernel
theorem d260_83 : decode (mcode 260) 83 = .ok (.aload_n 0, 1) := by decide +kernel
theorem d260_84 : decode (mcode 260) 84 = .ok (.getfield 7, 3) := by decide +kernel
theorem d260_87 : decode (mcode 260) 87 = .ok (.sipush 1882, 3) := by decide +kernel
theorem d260_90 : decode (mcode 260) 90 = .ok (.iload_n 1, 1) := by decide +kernel
theorem d260_91 : decode (mcode 260) 91 = .ok (.iadd, 1) := by decide +kernel
theorem d260_92 : decode (mcode 260) 92 = .ok (.iaload, 1) := by decide +kernel
theorem d260_93 : decode (mcode 260) 93 = .ok (.ireturn, 1) := by decide +kernel
theorem d261_0 : decode (mcode 261) 0 = .ok (.iconst 0, 1) := by decide +kernel
theorem d261_1 : decode (mcode 261) 1 = .ok (.istore_n 2, 1) := by decide +kernel
theorem d261_2 : decode (mcode 261) 2 = .ok (.iconst 0, 1) := by decide +kernel
theorem d261_3 : decode (mcode 261) 3 = .ok (.istore_n 3, 1) := by decide +kernel
theorem d261_4 : decode (mcode 261) 4 = .ok (.iload_n 3, 1) := by decide +kernel
theorem d261_5 : decode (mcode 261) 5 = .ok (.aload_n 0, 1) := by decide +kernel
theorem d261_6 : decode (mcode 261) 6 = .ok (.invokevirtual 67, 3) := by decide +kernel
theorem d261_9 : decode (mcode 261) 9 = .ok (.if_icmp .ge 35, 3) := by decide +kernel
theorem d261_12 : decode (mcode 261) 12 = .ok (.aload_n 0, 1) := by decide +kernel
theorem d261_13 : decode (mcode 261) 13 = .ok (.iload_n 3, 1) := by decide +kernel
theorem d261_14 : decode (mcode 261) 14 = .ok (.invokevirtual 210, 3) := by decide +kernel
theorem d261_17 : decode (mcode 261) 17 = .ok (.ifCond .eq 21, 3) := by decide +kernel
theorem d261_20 : decode (mcode 261) 20 = .ok (.aload_n 0, 1) := by decide +kernel
theorem d261_21 : decode (mcode 261) 21 = .ok (.getfield 7, 3) := by decide +kernel
theorem d261_24 : decode (mcode 261) 24 = .ok (.sipush 730, 3) := by decide +kernel
theorem d261_27 : decode (mcode 261) 27 = .ok (.iload_n 3, 1) := by decide +kernel
theorem d261_28 : decode (mcode 261) 28 = .ok (.iadd, 1) := by decide +kernel
theorem d261_29 : decode (mcode 261) 29 = .ok (.iaload, 1) := by decide +kernel
theorem d261_30 : decode (mcode 261) 30 = .ok (.iload_n 1, 1) := by decide +kernel
theorem d261_31 : decode (mcode 261) 31 = .ok (.if_icmp .ne 7, 3) := by decide +kernel
theorem d261_34 : decode (mcode 261) 34 = .ok (.iload_n 2, 1) := by decide +kernel
theorem d261_35 : decode (mcode 261) 35 = .ok (.iconst 1, 1) := by decide +kernel
theorem d261_36 : decode (mcode 261) 36 = .ok (.iadd, 1) := by decide +kernel
theorem d261_37 : decode (mcode 261) 37 = .ok (.istore_n 2, 1) := by decide +kernel
theorem d261_38 : decode (mcode 261) 38 = .ok (.iinc 3 1, 3) := by decide +kernel
theorem d261_41 : decode (mcode 261) 41 = .ok (.goto (-37), 3) := by decide +kernel
theorem d261_44 : decode (mcode 261) 44 = .ok (.iload_n 2, 1) := by decide +kernel
theorem d261_45 : decode (mcode 261) 45 = .ok (.ireturn, 1) := by decide +kernel
theorem d262_0 : decode (mcode 262) 0 = .ok (.iconst 0, 1) := by decide +kernel
theorem d262_1 : decode (mcode 262) 1 = .ok (.istore_n 2, 1) := by decide +kernel
theorem d262_2 : decode (mcode 262) 2 = .ok (.iconst 0, 1) := by decide +kernel
theorem d262_3 : decode (mcode 262) 3 = .ok (.istore_n 3, 1) := by decide +kernel
theorem d262_4 : decode (mcode 262) 4 = .ok (.iload_n 3, 1) := by decide +kernel
theorem d262_5 : decode (mcode 262) 5 = .ok (.iconst 2, 1) := by decide +kernel
theorem d262_6 : decode (mcode 262) 6 = .ok (.aload_n 0, 1) := by decide +kernel
theorem d262_7 : decode (mcode 262) 7 = .ok (.invokevirtual 67, 3) := by decide +kernel
theorem d262_10 : decode (mcode 262) 10 = .ok (.imul, 1) := by decide +kernel
theorem d262_11 : decode (mcode 262) 11 = .ok (.if_icmp .ge 81, 3) := by decide +kernel
theorem d262_14 : decode (mcode 262) 14 = .ok (.aload_n 0, 1) := by decide +kernel
theorem d262_15 : decode (mcode 262) 15 = .ok (.iload_n 3, 1) := by decide +kernel
theorem d262_16 : decode (mcode 262) 16 = .ok (.invokevirtual 242, 3) := by decide +kernel
theorem d262_19 : decode (mcode 262) 19 = .ok (.ifCond .ne 6, 3) := by decide +kernel
theorem d262_22 : decode (mcode 262) 22 = .ok (.goto 64, 3) := by decide +kernel
theorem d262_25 : decode (mcode 262) 25 = .ok (.aload_n 0, 1) := by decide +kernel
theorem d262_26 : decode (mcode 262) 26 = .ok (.getfield 7, 3) := by decide +kernel
theorem d262_29 : decode (mcode 262) 29 = .ok (.sipush 730, 3) := by decide +kernel
theorem d262_32 : decode (mcode 262) 32 = .ok (.aload_n 0, 1) := by decide +kernel
theorem d262_33 : decode (mcode 262) 33 = .ok (.iload_n 3, 1) := by decide +kernel
theorem d262_34 : decode (mcode 262) 34 = .ok (.invokevirtual 86, 3) := by decide +kernel
theorem d262_37 : decode (mcode 262) 37 = .ok (.iadd, 1) := by decide +kernel
theorem d262_38 : decode (mcode 262) 38 = .ok (.iaload, 1) := by decide +kernel
theorem d262_39 : decode (mcode 262) 39 = .ok (.iload_n 1, 1) := by decide +kernel
theorem d262_40 : decode (mcode 262) 40 = .ok (.if_icmp .ne 7, 3) := by decide +kernel
theorem d262_43 : decode (mcode 262) 43 = .ok (.iconst 1, 1) := by decide +kernel
theorem d262_44 : decode (mcode 262) 44 = .ok (.goto 4, 3) := by decide +kernel
theorem d262_47 : decode (mcode 262) 47 = .ok (.iconst 0, 1) := by decide +kernel
theorem d262_48 : decode (mcode 262) 48 = .ok (.istore 4, 2) := by decide +kernel
theorem d262_50 : decode (mcode 262) 50 = .ok (.aload_n 0, 1) := by decide +kernel
theorem d262_51 : decode (mcode 262) 51 = .ok (.getfield 7, 3) := by decide +kernel
theorem d262_54 : decode (mcode 262) 54 = .ok (.sipush 730, 3) := by decide +kernel
theorem d262_57 : decode (mcode 262) 57 = .ok (.aload_n 0, 1) := by decide +kernel
theorem d262_58 : decode (mcode 262) 58 = .ok (.iload_n 3, 1) := by decide +kernel
theorem d262_59 : decode (mcode 262) 59 = .ok (.invokevirtual 93, 3) := by decide +kernel
theorem d262_62 : decode (mcode 262) 62 = .ok (.iadd, 1) := by decide +kernel
theorem d262_63 : decode (mcode 262) 63 = .ok (.iaload, 1) := by decide +kernel
theorem d262_64 : decode (mcode 262) 64 = .ok (.iload_n 1, 1) := by decide +kernel
theorem d262_65 : decode (mcode 262) 65 = .ok (.if_icmp .ne 7, 3) := by decide +kernel
theorem d262_68 : decode (mcode 262) 68 = .ok (.iconst 1, 1) := by decide +kernel
theorem d262_69 : decode (mcode 262) 69 = .ok (.goto 4, 3) := by decide +kernel
theorem d262_72 : decode (mcode 262) 72 = .ok (.iconst 0, 1) := by decide +kernel
theorem d262_73 : decode (mcode 262) 73 = .ok (.istore 5, 2) := by decide +kernel
theorem d262_75 : decode (mcode 262) 75 = .ok (.iload 4, 2) := by decide +kernel
theorem d262_77 : decode (mcode 262) 77 = .ok (.iload 5, 2) := by decide +kernel
theorem d262_79 : decode (mcode 262) 79 = .ok (.if_icmp .eq 7, 3) := by decide +kernel
theorem d262_82 : decode (mcode 262) 82 = .ok (.iload_n 2, 1) := by decide +kernel
theorem d262_83 : decode (mcode 262) 83 = .ok (.iconst 1, 1) := by decide +kernel
theorem d262_84 : decode (mcode 262) 84 = .ok (.iadd, 1) := by decide +kernel
theorem d262_85 : decode (mcode 262) 85 = .ok (.istore_n 2, 1) := by decide +kernel
theorem d262_86 : decode (mcode 262) 86 = .ok (.iinc 3 1, 3) := by decide +kernel
theorem d262_89 : decode (mcode 262) 89 = .ok (.goto (-85), 3) := by decide +kernel
theorem d262_92 : decode (mcode 262) 92 = .ok (.iload_n 2, 1) := by decide +kernel
theorem d262_93 : decode (mcode 262) 93 = .ok (.ireturn, 1) := by decide +kernel
theorem d263_0 : decode (mcode 263) 0 = .ok (.aload_n 0, 1) := by decide +kernel
theorem d263_1 : decode (mcode 263) 1 = .ok (.iconst 0, 1) := by decide +kernel
theorem d263_2 : decode (mcode 263) 2 = .ok (.putfield 57, 3) := by decide +kernel
theorem d263_5 : decode (mcode 263) 5 = .ok (.aload_n 0, 1) := by decide +kernel
theorem d263_6 : decode (mcode 263) 6 = .ok (.iload_n 1, 1) := by decide +kernel
theorem d263_7 : decode (mcode 263) 7 = .ok (.invokevirtual 254, 3) := by decide +kernel
theorem d263_10 : decode (mcode 263) 10 = .ok (.ifCond .ne 5, 3) := by decide +kernel
theorem d263_13 : decode (mcode 263) 13 = .ok (.iconst (-1), 1) := by decide +kernel
theorem d263_14 : decode (mcode 263) 14 = .ok (.ireturn, 1) := by decide +kernel
theorem d263_15 : decode (mcode 263) 15 = .ok (.iload_n 2, 1) := by decide +kernel
theorem d263_16 : decode (mcode 263) 16 = .ok (.ifCond .ne 14, 3) := by decide +kernel
theorem d263_19 : decode (mcode 263) 19 = .ok (.aload_n 0, 1) := by decide +kernel
theorem d263_20 : decode (mcode 263) 20 = .ok (.getfield 7, 3) := by decide +kernel
theorem d263_23 : decode (mcode 263) 23 = .ok (.sipush 2170, 3) := by decide +kernel
theorem d263_26 : decode (mcode 263) 26 = .ok (.iload_n 1, 1) := by decide +kernel
theorem d263_27 : decode (mcode 263) 27 = .ok (.iadd, 1) := by decide +kernel
theorem d263_28 : decode (mcode 263) 28 = .ok (.iaload, 1) := by decide +kernel
theorem d263_29 : decode (mcode 263) 29 = .ok (.ireturn, 1) := by decide +kernel
theorem d263_30 : decode (mcode 263) 30 = .ok (.iload_n 2, 1) := by decide +kernel
theorem d263_31 : decode (mcode 263) 31 = .ok (.iconst 1, 1) := by decide +kernel
theorem d263_32 : decode (mcode 263) 32 = .ok (.if_icmp .ne 9, 3) := by decide +kernel
theorem d263_35 : decode (mcode 263) 35 = .ok (.aload_n 0, 1) := by decide +kernel
theorem d263_36 : decode (mcode 263) 36 = .ok (.iload_n 1, 1) := by decide +kernel
theorem d263_37 : decode (mcode 263) 37 = .ok (.invokevirtual 310, 3) := by decide +kernel
theorem d263_40 : decode (mcode 263) 40 = .ok (.ireturn, 1) := by decide +kernel
theorem d263_41 : decode (mcode 263) 41 = .ok (.iload_n 2, 1) := by decide +kernel
theorem d263_42 : decode (mcode 263) 42 = .ok (.iconst 2, 1) := by decide +kernel
theorem d263_43 : decode (mcode 263) 43 = .ok (.if_icmp .ne 16, 3) := by decide +kernel
theorem d263_46 : decode (mcode 263) 46 = .ok (.aload_n 0, 1) := by decide +kernel
theorem d263_47 : decode (mcode 263) 47 = .ok (.getfield 7, 3) := by decide +kernel
theorem d263_50 : decode (mcode 263) 50 = .ok (.sipush 2026, 3) := by decide +kernel
theorem d263_53 : decode (mcode 263) 53 = .ok (.iload_n 1, 1) := by decide +kernel
theorem d263_54 : decode (mcode 263) 54 = .ok (.iadd, 1) := by decide +kernel
theorem d263_55 : decode (mcode 263) 55 = .ok (.iaload, 1) := by decide +kernel
theorem d263_56 : decode (mcode 263) 56 = .ok (.goto 17, 3) := by decide +kernel
theorem d263_59 : decode (mcode 263) 59 = .ok (.iload_n 2, 1) := by decide +kernel
theorem d263_60 : decode (mcode 263) 60 = .ok (.iconst 3, 1) := by decide +kernel
theorem d263_61 : decode (mcode 263) 61 = .ok (.if_icmp .ne 11, 3) := by decide +kernel
theorem d263_64 : decode (mcode 263) 64 = .ok (.aload_n 0, 1) := by decide +kernel
theorem d263_65 : decode (mcode 263) 65 = .ok (.iload_n 1, 1) := by decide +kernel
theorem d263_66 : decode (mcode 263) 66 = .ok (.invokevirtual 313, 3) := by decide +kernel
theorem d263_69 : decode (mcode 263) 69 = .ok (.goto 4, 3) := by decide +kernel
theorem d263_72 : decode (mcode 263) 72 = .ok (.iconst (-1), 1) := by decide +kernel
theorem d263_73 : decode (mcode 263) 73 = .ok (.ireturn, 1) := by decide +kernel
theorem d264_0 : decode (mcode 264) 0 = .ok (.aload_n 0, 1) := by decide +kernel
theorem d264_1 : decode (mcode 264) 1 = .ok (.iconst 0, 1) := by decide +kernel
theorem d264_2 : decode (mcode 264) 2 = .ok (.putfield 57, 3) := by decide +kernel
theorem d264_5 : decode (mcode 264) 5 = .ok (.aload_n 0, 1) := by decide +kernel
theorem d264_6 : decode (mcode 264) 6 = .ok (.iload_n 1, 1) := by decide +kernel
theorem d264_7 : decode (mcode 264) 7 = .ok (.iconst 0, 1) := by decide +kernel
theorem d264_8 : decode (mcode 264) 8 = .ok (.aload_n 0, 1) := by decide +kernel
theorem d264_9 : decode (mcode 264) 9 = .ok (.invokevirtual 60, 3) := by decide +kernel
theorem d264_12 : decode (mcode 264) 12 = .ok (.iconst 1, 1) := by decide +kernel
theorem d264_13 : decode (mcode 264) 13 = .ok (.isub, 1) := by decide +kernel
theorem d264_14 : decode (mcode 264) 14 = .ok (.invokevirtual 115, 3) := by decide +kernel
theorem d264_17 : decode (mcode 264) 17 = .ok (.ifCond .eq 53, 3) := by decide +kernel
theorem d264_20 : decode (mcode 264) 20 = .ok (.aload_n 0, 1) := by decide +kernel
theorem d264_21 : decode (mcode 264) 21 = .ok (.iload_n 2, 1) := by decide +kernel
theorem d264_22 : decode (mcode 264) 22 = .ok (.iload_n 1, 1) := by decide +kernel
theorem d264_23 : decode (mcode 264) 23 = .ok (.iconst 1, 1) := by decide +kernel
theorem d264_24 : decode (mcode 264) 24 = .ok (.iadd, 1) := by decide +kernel
theorem d264_25 : decode (mcode 264) 25 = .ok (.aload_n 0, 1) := by decide +kernel
theorem d264_26 : decode (mcode 264) 26 = .ok (.invokevirtual 60, 3) := by decide +kernel
theorem d264_29 : decode (mcode 264) 29 = .ok (.iconst 1, 1) := by decide +kernel
theorem d264_30 : decode (mcode 264) 30 = .ok (.isub, 1) := by decide +kernel
theorem d264_31 : decode (mcode 264) 31 = .ok (.invokevirtual 115, 3) := by decide +kernel
theorem d264_34 : decode (mcode 264) 34 = .ok (.ifCond .eq 36, 3) := by decide +kernel
theorem d264_37 : decode (mcode 264) 37 = .ok (.aload_n 0, 1) := by decide +kernel
theorem d264_38 : decode (mcode 264) 38 = .ok (.iload_n 3, 1) := by decide +kernel
theorem d264_39 : decode (mcode 264) 39 = .ok (.iconst 0, 1) := by decide +kernel
theorem d264_40 : decode (mcode 264) 40 = .ok (.aload_n 0, 1) := by decide +kernel
theorem d264_41 : decode (mcode 264) 41 = .ok (.invokevirtual 64, 3) := by decide +kernel
theorem d264_44 : decode (mcode 264) 44 = .ok (.iconst 1, 1) := by decide +kernel
theorem d264_45 : decode (mcode 264) 45 = .ok (.isub, 1) := by decide +kernel
theorem d264_46 : decode (mcode 264) 46 = .ok (.invokevirtual 115, 3) := by decide +kernel
theorem d264_49 : decode (mcode 264) 49 = .ok (.ifCond .eq 21, 3) := by decide +kernel
theorem d264_52 : decode (mcode 264) 52 = .ok (.aload_n 0, 1) := by decide +kernel
theorem d264_53 : decode (mcode 264) 53 = .ok (.iload 4, 2) := by decide +kernel
theorem d264_55 : decode (mcode 264) 55 = .ok (.iload_n 3, 1) := by decide +kernel
theorem d264_56 : decode (mcode 264) 56 = .ok (.iconst 1, 1) := by decide +kernel
theorem d264_57 : decode (mcode 264) 57 = .ok (.iadd, 1) := by decide +kernel
theorem d264_58 : decode (mcode 264) 58 = .ok (.aload_n 0, 1) := by decide +kernel
theorem d264_59 : decode (mcode 264) 59 = .ok (.invokevirtual 64, 3) := by decide +kernel
theorem d264_62 : decode (mcode 264) 62 = .ok (.iconst 1, 1) := by decide +kernel
theorem d264_63 : decode (mcode 264) 63 = .ok (.isub, 1) := by decide +kernel
theorem d264_64 : decode (mcode 264) 64 = .ok (.invokevirtual 115, 3) := by decide +kernel
theorem d264_67 : decode (mcode 264) 67 = .ok (.ifCond .ne 7, 3) := by decide +kernel
theorem d264_70 : decode (mcode 264) 70 = .ok (.sipush (-1000), 3) := by decide +kernel
theorem d264_73 : decode (mcode 264) 73 = .ok (.ireturn, 1) := by decide +kernel
theorem d264_74 : decode (mcode 264) 74 = .ok (.iconst 0, 1) := by decide +kernel
theorem d264_75 : decode (mcode 264) 75 = .ok (.istore 5, 2) := by decide +kernel
theorem d264_77 : decode (mcode 264) 77 = .ok (.iload_n 3, 1) := by decide +kernel
theorem d264_78 : decode (mcode 264) 78 = .ok (.istore 6, 2) := by decide +kernel
theorem d264_80 : decode (mcode 264) 80 = .ok (.iload 6, 2) := by decide +kernel
theorem d264_82 : decode (mcode 264) 82 = .ok (.iload 4, 2) := by decide +kernel
theorem d264_84 : decode (mcode 264) 84 = .ok (.if_icmp .gt 86, 3) := by decide +kernel
theorem d264_87 : decode (mcode 264) 87 = .ok (.iload_n 1, 1) := by decide +kernel
theorem d264_88 : decode (mcode 264) 88 = .ok (.aload_n 0, 1) := by decide +kernel
theorem d264_89 : decode (mcode 264) 89 = .ok (.invokevirtual 64, 3) := by decide +kernel
theorem d264_92 : decode (mcode 264) 92 = .ok (.imul, 1) := by decide +kernel
theorem d264_93 : decode (mcode 264) 93 = .ok (.iload 6, 2) := by decide +kernel
theorem d264_95 : decode (mcode 264) 95 = .ok (.iadd, 1) := by decide +kernel
theorem d264_96 : decode (mcode 264) 96 = .ok (.istore 7, 2) := by decide +kernel
theorem d264_98 : decode (mcode 264) 98 = .ok (.iload_n 2, 1) := by decide +kernel
theorem d264_99 : decode (mcode 264) 99 = .ok (.aload_n 0, 1) := by decide +kernel
theorem d264_100 : decode (mcode 264) 100 = .ok (.invokevirtual 64, 3) := by decide +kernel
theorem d264_103 : decode (mcode 264) 103 = .ok (.imul, 1) := by decide +kernel
theorem d264_104 : decode (mcode 264) 104 = .ok (.iload 6, 2) := by decide +kernel
theorem d264_106 : decode (mcode 264) 106 = .ok (.iadd, 1) := by decide +kernel
theorem d264_107 : decode (mcode 264) 107 = .ok (.istore 8, 2) := by decide +kernel
theorem d264_109 : decode (mcode 264) 109 = .ok (.aload_n 0, 1) := by decide +kernel
theorem d264_110 : decode (mcode 264) 110 = .ok (.iload 7, 2) := by decide +kernel
theorem d264_112 : decode (mcode 264) 112 = .ok (.invokevirtual 89, 3) := by decide +kernel
theorem d264_115 : decode (mcode 264) 115 = .ok (.ifCond .ne 12, 3) := by decide +kernel
theorem d264_118 : decode (mcode 264) 118 = .ok (.aload_n 0, 1) := by decide +kernel
theorem d264_119 : decode (mcode 264) 119 = .ok (.iload 8, 2) := by decide +kernel
theorem d264_121 : decode (mcode 264) 121 = .ok (.invokevirtual 89, 3) := by decide +kernel
theorem d264_124 : decode (mcode 264) 124 = .ok (.ifCond .eq 7, 3) := by decide +kernel
theorem d264_127 : decode (mcode 264) 127 = .ok (.sipush (-1000), 3) := by decide +kernel
theorem d264_130 : decode (mcode 264) 130 = .ok (.ireturn, 1) := by decide +kernel
theorem d264_131 : decode (mcode 264) 131 = .ok (.iload 6, 2) := by decide +kernel
theorem d264_133 : decode (mcode 264) 133 = .ok (.iload 4, 2) := by decide +kernel
theorem d264_135 : decode (mcode 264) 135 = .ok (.if_icmp .ge 29, 3) := by decide +kernel
theorem d264_138 : decode (mcode 264) 138 = .ok (.iload 5, 2) := by decide +kernel
theorem d264_140 : decode (mcode 264) 140 = .ok (.aload_n 0, 1) := by decide +kernel
theorem d264_141 : decode (mcode 264) 141 = .ok (.iload 7, 2) := by decide +kernel
theorem d264_143 : decode (mcode 264) 143 = .ok (.iload 7, 2) := by decide +kernel
theorem d264_145 : decode (mcode 264) 145 = .ok (.iconst 1, 1) := by decide +kernel
theorem d264_146 : decode (mcode 264) 146 = .ok (.iadd, 1) := by decide +kernel
theorem d264_147 : decode (mcode 264) 147 = .ok (.invokevirtual 133, 3) := by decide +kernel
theorem d264_150 : decode (mcode 264) 150 = .ok (.iadd, 1) := by decide +kernel
theorem d264_151 : decode (mcode 264) 151 = .ok (.aload_n 0, 1) := by decide +kernel
theorem d264_152 : decode (mcode 264) 152 = .ok (.iload 8, 2) := by decide +kernel
theorem d264_154 : decode (mcode 264) 154 = .ok (.iconst 1, 1) := by decide +kernel
theorem d264_155 : decode (mcode 264) 155 = .ok (.iadd, 1) := by decide +kernel
theorem d264_156 : decode (mcode 264) 156 = .ok (.iload 8, 2) := by decide +kernel
theorem d264_158 : decode (mcode 264) 158 = .ok (.invokevirtual 133, 3) := by decide +kernel
theorem d264_161 : decode (mcode 264) 161 = .ok (.iadd, 1) := by decide +kernel
theorem d264_162 : decode (mcode 264) 162 = .ok (.istore 5, 2) := by decide +kernel
theorem d264_164 : decode (mcode 264) 164 = .ok (.iinc 6 1, 3) := by decide +kernel
theorem d264_167 : decode (mcode 264) 167 = .ok (.goto (-87), 3) := by decide +kernel
theorem d264_170 : decode (mcode 264) 170 = .ok (.iload_n 1, 1) := by decide +kernel
theorem d264_171 : decode (mcode 264) 171 = .ok (.istore 6, 2) := by decide +kernel
theorem d264_173 : decode (mcode 264) 173 = .ok (.iload 6, 2) := by decide +kernel
theorem d264_175 : decode (mcode 264) 175 = .ok (.iload_n 2, 1) := by decide +kernel
theorem d264_176 : decode (mcode 264) 176 = .ok (.if_icmp .gt 92, 3) := by decide +kernel
theorem d264_179 : decode (mcode 264) 179 = .ok (.iload 6, 2) := by decide +kernel
theorem d264_181 : decode (mcode 264) 181 = .ok (.aload_n 0, 1) := by decide +kernel
theorem d264_182 : decode (mcode 264) 182 = .ok (.invokevirtual 64, 3) := by decide +kernel
theorem d264_185 : decode (mcode 264) 185 = .ok (.imul, 1) := by decide +kernel
theorem d264_186 : decode (mcode 264) 186 = .ok (.iload 4, 2) := by decide +kernel
theorem d264_188 : decode (mcode 264) 188 = .ok (.iadd, 1) := by decide +kernel
theorem d264_189 : decode (mcode 264) 189 = .ok (.istore 7, 2) := by decide +kernel
theorem d264_191 : decode (mcode 264) 191 = .ok (.iload 6, 2) := by decide +kernel
theorem d264_193 : decode (mcode 264) 193 = .ok (.aload_n 0, 1) := by decide +kernel
theorem d264_194 : decode (mcode 264) 194 = .ok (.invokevirtual 64, 3) := by decide +kernel
theorem d264_197 : decode (mcode 264) 197 = .ok (.imul, 1) := by decide +kernel
theorem d264_198 : decode (mcode 264) 198 = .ok (.iload_n 3, 1) := by decide +kernel
theorem d264_199 : decode (mcode 264) 199 = .ok (.iadd, 1) := by decide +kernel
theorem d264_200 : decode (mcode 264) 200 = .ok (.istore 8, 2) := by decide +kernel
theorem d264_202 : decode (mcode 264) 202 = .ok (.aload_n 0, 1) := by decide +kernel
theorem d264_203 : decode (mcode 264) 203 = .ok (.iload 7, 2) := by decide +kernel
theorem d264_205 : decode (mcode 264) 205 = .ok (.invokevirtual 89, 3) := by decide +kernel
theorem d264_208 : decode (mcode 264) 208 = .ok (.ifCond .ne 12, 3) := by decide +kernel
theorem d264_211 : decode (mcode 264) 211 = .ok (.aload_n 0, 1) := by decide +kernel
theorem d264_212 : decode (mcode 264) 212 = .ok (.iload 8, 2) := by decide +kernel
theorem d264_214 : decode (mcode 264) 214 = .ok (.invokevirtual 89, 3) := by decide +kernel
theorem d264_217 : decode (mcode 264) 217 = .ok (.ifCond .eq 7, 3) := by decide +kernel
theorem d264_220 : decode (mcode 264) 220 = .ok (.sipush (-1000), 3) := by decide +kernel
theorem d264_223 : decode (mcode 264) 223 = .ok (.ireturn, 1) := by decide +kernel
theorem d264_224 : decode (mcode 264) 224 = .ok (.iload 6, 2) := by decide +kernel
theorem d264_226 : decode (mcode 264) 226 = .ok (.iload_n 2, 1) := by decide +kernel
theorem d264_227 : decode (mcode 264) 227 = .ok (.if_icmp .ge 35, 3) := by decide +kernel
theorem d264_230 : decode (mcode 264) 230 = .ok (.iload 5, 2) := by decide +kernel
theorem d264_232 : decode (mcode 264) 232 = .ok (.aload_n 0, 1) := by decide +kernel
theorem d264_233 : decode (mcode 264) 233 = .ok (.iload 7, 2) := by decide +kernel
theorem d264_235 : decode (mcode 264) 235 = .ok (.iload 7, 2) := by decide +kernel
theorem d264_237 : decode (mcode 264) 237 = .ok (.aload_n 0, 1) := by decide +kernel
theorem d264_238 : decode (mcode 264) 238 = .ok (.invokevirtual 64, 3) := by decide +kernel
theorem d264_241 : decode (mcode 264) 241 = .ok (.iadd, 1) := by decide +kernel
theorem d264_242 : decode (mcode 264) 242 = .ok (.invokevirtual 133, 3) := by decide +kernel
theorem d264_245 : decode (mcode 264) 245 = .ok (.iadd, 1) := by decide +kernel
theorem d264_246 : decode (mcode 264) 246 = .ok (.aload_n 0, 1) := by decide +kernel
theorem d264_247 : decode (mcode 264) 247 = .ok (.iload 8, 2) := by decide +kernel
theorem d264_249 : decode (mcode 264) 249 = .ok (.aload_n 0, 1) := by decide +kernel
theorem d264_250 : decode (mcode 264) 250 = .ok (.invokevirtual 64, 3) := by decide +kernel
theorem d264_253 : decode (mcode 264) 253 = .ok (.iadd, 1) := by decide +kernel
theorem d264_254 : decode (mcode 264) 254 = .ok (.iload 8, 2) := by decide +kernel
theorem d264_256 : decode (mcode 264) 256 = .ok (.invokevirtual 133, 3) := by decide +kernel
theorem d264_259 : decode (mcode 264) 259 = .ok (.iadd, 1) := by decide +kernel
theorem d264_260 : decode (mcode 264) 260 = .ok (.istore 5, 2) := by decide +kernel
theorem d264_262 : decode (mcode 264) 262 = .ok (.iinc 6 1, 3) := by decide +kernel
theorem d264_265 : decode (mcode 264) 265 = .ok (.goto (-92), 3) := by decide +kernel
theorem d264_268 : decode (mcode 264) 268 = .ok (.iload 5, 2) := by decide +kernel
theorem d264_270 : decode (mcode 264) 270 = .ok (.sipush 255, 3) := by decide +kernel
theorem d264_273 : decode (mcode 264) 273 = .ok (.idiv, 1) := by decide +kernel
theorem d264_274 : decode (mcode 264) 274 = .ok (.ireturn, 1) := by decide +kernel
theorem d265_0 : decode (mcode 265) 0 = .ok (.aload_n 0, 1) := by decide +kernel
theorem d265_1 : decode (mcode 265) 1 = .ok (.iconst 0, 1) := by decide +kernel
theorem d265_2 : decode (mcode 265) 2 = .ok (.putfield 57, 3) := by decide +kernel
theorem d265_5 : decode (mcode 265) 5 = .ok (.aload_n 0, 1) := by decide +kernel
theorem d265_6 : decode (mcode 265) 6 = .ok (.iload_n 1, 1) := by decide +kernel
theorem d265_7 : decode (mcode 265) 7 = .ok (.invokevirtual 254, 3) := by decide +kernel
theorem d265_10 : decode (mcode 265) 10 = .ok (.ifCond .ne 7, 3) := by decide +kernel
theorem d265_13 : decode (mcode 265) 13 = .ok (.ldc2_w 316, 3) := by decide +kernel
theorem d265_16 : decode (mcode 265) 16 = .ok (.lreturn, 1) := by decide +kernel
theorem d265_17 : decode (mcode 265) 17 = .ok (.lconst 0, 1) := by decide +kernel
theorem d265_18 : decode (mcode 265) 18 = .ok (.lstore_n 2, 1) := by decide +kernel
theorem d265_19 : decode (mcode 265) 19 = .ok (.iconst 0, 1) := by decide +kernel
theorem d265_20 : decode (mcode 265) 20 = .ok (.istore 4, 2) := by decide +kernel
theorem d265_22 : decode (mcode 265) 22 = .ok (.iload 4, 2) := by decide +kernel
theorem d265_24 : decode (mcode 265) 24 = .ok (.aload_n 0, 1) := by decide +kernel
theorem d265_25 : decode (mcode 265) 25 = .ok (.invokevirtual 67, 3) := by decide +kernel
theorem d265_28 : decode (mcode 265) 28 = .ok (.if_icmp .ge 48, 3) := by decide +kernel
theorem d265_31 : decode (mcode 265) 31 = .ok (.aload_n 0, 1) := by decide +kernel
theorem d265_32 : decode (mcode 265) 32 = .ok (.iload 4, 2) := by decide +kernel
theorem d265_34 : decode (mcode 265) 34 = .ok (.invokevirtual 210, 3) := by decide +kernel
theorem d265_37 : decode (mcode 265) 37 = .ok (.ifCond .eq 33, 3) := by decide +kernel
theorem d265_40 : decode (mcode 265) 40 = .ok (.aload_n 0, 1) := by decide +kernel
theorem d265_41 : decode (mcode 265) 41 = .ok (.getfield 7, 3) := by decide +kernel
theorem d265_44 : decode (mcode 265) 44 = .ok (.sipush 730, 3) := by decide +kernel
theorem d265_47 : decode (mcode 265) 47 = .ok (.iload 4, 2) := by decide +kernel
theorem d265_49 : decode (mcode 265) 49 = .ok (.iadd, 1) := by decide +kernel
theorem d265_50 : decode (mcode 265) 50 = .ok (.iaload, 1) := by decide +kernel
theorem d265_51 : decode (mcode 265) 51 = .ok (.iload_n 1, 1) := by decide +kernel
theorem d265_52 : decode (mcode 265) 52 = .ok (.if_icmp .ne 18, 3) := by decide +kernel
theorem d265_55 : decode (mcode 265) 55 = .ok (.lload_n 2, 1) := by decide +kernel
theorem d265_56 : decode (mcode 265) 56 = .ok (.aload_n 0, 1) := by decide +kernel
theorem d265_57 : decode (mcode 265) 57 = .ok (.getfield 7, 3) := by decide +kernel
theorem d265_60 : decode (mcode 265) 60 = .ok (.sipush 442, 3) := by decide +kernel
theorem d265_63 : decode (mcode 265) 63 = .ok (.iload 4, 2) := by decide +kernel
theorem d265_65 : decode (mcode 265) 65 = .ok (.iadd, 1) := by decide +kernel
theorem d265_66 : decode (mcode 265) 66 = .ok (.iaload, 1) := by decide +kernel
theorem d265_67 : decode (mcode 265) 67 = .ok (.i2l, 1) := by decide +kernel
theorem d265_68 : decode (mcode 265) 68 = .ok (.ladd, 1) := by decide +kernel
theorem d265_69 : decode (mcode 265) 69 = .ok (.lstore_n 2, 1) := by decide +kernel
theorem d265_70 : decode (mcode 265) 70 = .ok (.iinc 4 1, 3) := by decide +kernel
theorem d265_73 : decode (mcode 265) 73 = .ok (.goto (-51), 3) := by decide +kernel
theorem d265_76 : decode (mcode 265) 76 = .ok (.lload_n 2, 1) := by decide +kernel
theorem d265_77 : decode (mcode 265) 77 = .ok (.lreturn, 1) := by decide +kernel
theorem d266_0 : decode (mcode 266) 0 = .ok (.aload_n 0, 1) := by decide +kernel
theorem d266_1 : decode (mcode 266) 1 = .ok (.iconst 0, 1) := by decide +kernel
theorem d266_2 : decode (mcode 266) 2 = .ok (.putfield 57, 3) := by decide +kernel
theorem d266_5 : decode (mcode 266) 5 = .ok (.lload_n 2, 1) := by decide +kernel
theorem d266_6 : decode (mcode 266) 6 = .ok (.lconst 0, 1) := by decide +kernel
theorem d266_7 : decode (mcode 266) 7 = .ok (.lcmp, 1) := by decide +kernel
theorem d266_8 : decode (mcode 266) 8 = .ok (.ifCond .ge 7, 3) := by decide +kernel
theorem d266_11 : decode (mcode 266) 11 = .ok (.ldc2_w 318, 3) := by decide +kernel
theorem d266_14 : decode (mcode 266) 14 = .ok (.lreturn, 1) := by decide +kernel
theorem d266_15 : decode (mcode 266) 15 = .ok (.lconst 0, 1) := by decide +kernel
theorem d266_16 : decode (mcode 266) 16 = .ok (.lstore 4, 2) := by decide +kernel
theorem d266_18 : decode (mcode 266) 18 = .ok (.iconst 0, 1) := by decide +kernel
theorem d266_19 : decode (mcode 266) 19 = .ok (.istore 6, 2) := by decide +kernel
theorem d266_21 : decode (mcode 266) 21 = .ok (.iload 6, 2) := by decide +kernel
theorem d266_23 : decode (mcode 266) 23 = .ok (.aload_n 0, 1) := by decide +kernel
theorem d266_24 : decode (mcode 266) 24 = .ok (.invokevirtual 67, 3) := by decide +kernel
theorem d266_27 : decode (mcode 266) 27 = .ok (.if_icmp .ge 88, 3) := by decide +kernel
theorem d266_30 : decode (mcode 266) 30 = .ok (.aload_n 0, 1) := by decide +kernel
theorem d266_31 : decode (mcode 266) 31 = .ok (.iload 6, 2) := by decide +kernel
theorem d266_33 : decode (mcode 266) 33 = .ok (.invokevirtual 210, 3) := by decide +kernel
theorem d266_36 : decode (mcode 266) 36 = .ok (.ifCond .ne 6, 3) := by decide +kernel
theorem d266_39 : decode (mcode 266) 39 = .ok (.goto 70, 3) := by decide +kernel
theorem d266_42 : decode (mcode 266) 42 = .ok (.aload_n 0, 1) := by decide +kernel
theorem d266_43 : decode (mcode 266) 43 = .ok (.getfield 7, 3) := by decide +kernel
theorem d266_46 : decode (mcode 266) 46 = .ok (.sipush 442, 3) := by decide +kernel
theorem d266_49 : decode (mcode 266) 49 = .ok (.iload 6, 2) := by decide +kernel
theorem d266_51 : decode (mcode 266) 51 = .ok (.iadd, 1) := by decide +kernel
theorem d266_52 : decode (mcode 266) 52 = .ok (.iaload, 1) := by decide +kernel
theorem d266_53 : decode (mcode 266) 53 = .ok (.i2l, 1) := by decide +kernel
theorem d266_54 : decode (mcode 266) 54 = .ok (.iload_n 1, 1) := by decide +kernel
theorem d266_55 : decode (mcode 266) 55 = .ok (.i2l, 1) := by decide +kernel
theorem d266_56 : decode (mcode 266) 56 = .ok (.lsub, 1) := by decide +kernel
theorem d266_57 : decode (mcode 266) 57 = .ok (.lstore 7, 2) := by decide +kernel
theorem d266_59 : decode (mcode 266) 59 = .ok (.lload 7, 2) := by decide +kernel
theorem d266_61 : decode (mcode 266) 61 = .ok (.lconst 0, 1) := by decide +kernel
theorem d266_62 : decode (mcode 266) 62 = .ok (.lcmp, 1) := by decide +kernel
theorem d266_63 : decode (mcode 266) 63 = .ok (.ifCond .ge 8, 3) := by decide +kernel
theorem d266_66 : decode (mcode 266) 66 = .ok (.lload 7, 2) := by decide +kernel
theorem d266_68 : decode (mcode 266) 68 = .ok (.lneg, 1) := by decide +kernel
theorem d266_69 : decode (mcode 266) 69 = .ok (.lstore 7, 2) := by decide +kernel
theorem d266_71 : decode (mcode 266) 71 = .ok (.lload 7, 2) := by decide +kernel
theorem d266_73 : decode (mcode 266) 73 = .ok (.ldc2_w 320, 3) := by decide +kernel
theorem d266_76 : decode (mcode 266) 76 = .ok (.lcmp, 1) := by decide +kernel
theorem d266_77 : decode (mcode 266) 77 = .ok (.ifCond .gt 18, 3) := by decide +kernel
theorem d266_80 : decode (mcode 266) 80 = .ok (.lload 7, 2) := by decide +kernel
theorem d266_82 : decode (mcode 266) 82 = .ok (.lload 7, 2) := by decide +kernel
theorem d266_84 : decode (mcode 266) 84 = .ok (.lmul, 1) := by decide +kernel
theorem d266_85 : decode (mcode 266) 85 = .ok (.ldc2_w 324, 3) := by decide +kernel
theorem d266_88 : decode (mcode 266) 88 = .ok (.lload 4, 2) := by decide +kernel
theorem d266_90 : decode (mcode 266) 90 = .ok (.lsub, 1) := by decide +kernel
theorem d266_91 : decode (mcode 266) 91 = .ok (.lcmp, 1) := by decide +kernel
theorem d266_92 : decode (mcode 266) 92 = .ok (.ifCond .le 7, 3) := by decide +kernel
theorem d266_95 : decode (mcode 266) 95 = .ok (.ldc2_w 318, 3) := by decide +kernel
theorem d266_98 : decode (mcode 266) 98 = .ok (.lreturn, 1) := by decide +kernel
theorem d266_99 : decode (mcode 266) 99 = .ok (.lload 4, 2) := by decide +kernel
theorem d266_101 : decode (mcode 266) 101 = .ok (.lload 7, 2) := by decide +kernel
theorem d266_103 : decode (mcode 266) 103 = .ok (.lload 7, 2) := by decide +kernel
theorem d266_105 : decode (mcode 266) 105 = .ok (.lmul, 1) := by decide +kernel
theorem d266_106 : decode (mcode 266) 106 = .ok (.ladd, 1) := by decide +kernel
theorem d266_107 : decode (mcode 266) 107 = .ok (.lstore 4, 2) := by decide +kernel
theorem d266_109 : decode (mcode 266) 109 = .ok (.iinc 6 1, 3) := by decide +kernel
theorem d266_112 : decode (mcode 266) 112 = .ok (.goto (-91), 3) := by decide +kernel
theorem d266_115 : decode (mcode 266) 115 = .ok (.lload 4, 2) := by decide +kernel
theorem d266_117 : decode (mcode 266) 117 = .ok (.lconst 0, 1) := by decide +kernel
theorem d266_118 : decode (mcode 266) 118 = .ok (.lcmp, 1) := by decide +kernel
theorem d266_119 : decode (mcode 266) 119 = .ok (.ifCond .le 18, 3) := by decide +kernel
theorem d266_122 : decode (mcode 266) 122 = .ok (.lload_n 2, 1) := by decide +kernel
theorem d266_123 : decode (mcode 266) 123 = .ok (.ldc2_w 324, 3) := by decide +kernel
theorem d266_126 : decode (mcode 266) 126 = .ok (.lload 4, 2) := by decide +kernel
theorem d266_128 : decode (mcode 266) 128 = .ok (.ldiv, 1) := by decide +kernel
theorem d266_129 : decode (mcode 266) 129 = .ok (.lcmp, 1) := by decide +kernel
theorem d266_130 : decode (mcode 266) 130 = .ok (.ifCond .le 7, 3) := by decide +kernel
theorem d266_133 : decode (mcode 266) 133 = .ok (.ldc2_w 318, 3) := by decide +kernel
theorem d266_136 : decode (mcode 266) 136 = .ok (.lreturn, 1) := by decide +kernel
theorem d266_137 : decode (mcode 266) 137 = .ok (.lload 4, 2) := by decide +kernel
theorem d266_139 : decode (mcode 266) 139 = .ok (.lload_n 2, 1) := by decide +kernel
theorem d266_140 : decode (mcode 266) 140 = .ok (.lmul, 1) := by decide +kernel
theorem d266_141 : decode (mcode 266) 141 = .ok (.lreturn, 1) := by decide +kernel
theorem d267_0 : decode (mcode 267) 0 = .ok (.iconst (-1), 1) := by decide +kernel
theorem d267_1 : decode (mcode 267) 1 = .ok (.istore_n 2, 1) := by decide +kernel
theorem d267_2 : decode (mcode 267) 2 = .ok (.iconst 0, 1) := by decide +kernel
theorem d267_3 : decode (mcode 267) 3 = .ok (.istore_n 3, 1) := by decide +kernel
theorem d267_4 : decode (mcode 267) 4 = .ok (.iload_n 3, 1) := by decide +kernel
theorem d267_5 : decode (mcode 267) 5 = .ok (.aload_n 0, 1) := by decide +kernel
theorem d267_6 : decode (mcode 267) 6 = .ok (.invokevirtual 67, 3) := by decide +kernel
theorem d267_9 : decode (mcode 267) 9 = .ok (.if_icmp .ge 80, 3) := by decide +kernel
theorem d267_12 : decode (mcode 267) 12 = .ok (.aload_n 0, 1) := by decide +kernel
theorem d267_13 : decode (mcode 267) 13 = .ok (.iload_n 3, 1) := by decide +kernel
theorem d267_14 : decode (mcode 267) 14 = .ok (.invokevirtual 210, 3) := by decide +kernel
theorem d267_17 : decode (mcode 267) 17 = .ok (.ifCond .ne 6, 3) := by decide +kernel
theorem d267_20 : decode (mcode 267) 20 = .ok (.goto 63, 3) := by decide +kernel
theorem d267_23 : decode (mcode 267) 23 = .ok (.iload_n 2, 1) := by decide +kernel
theorem d267_24 : decode (mcode 267) 24 = .ok (.iconst (-1), 1) := by decide +kernel
theorem d267_25 : decode (mcode 267) 25 = .ok (.if_icmp .eq 56, 3) := by decide +kernel
theorem d267_28 : decode (mcode 267) 28 = .ok (.iload_n 1, 1) := by decide +kernel
theorem d267_29 : decode (mcode 267) 29 = .ok (.ifCond .eq 29, 3) := by decide +kernel
theorem d267_32 : decode (mcode 267) 32 = .ok (.aload_n 0, 1) := by decide +kernel
theorem d267_33 : decode (mcode 267) 33 = .ok (.getfield 7, 3) := by decide +kernel
theorem d267_36 : decode (mcode 267) 36 = .ok (.sipush 442, 3) := by decide +kernel
theorem d267_39 : decode (mcode 267) 39 = .ok (.iload_n 3, 1) := by decide +kernel
theorem d267_40 : decode (mcode 267) 40 = .ok (.iadd, 1) := by decide +kernel
theorem d267_41 : decode (mcode 267) 41 = .ok (.iaload, 1) := by decide +kernel
theorem d267_42 : decode (mcode 267) 42 = .ok (.aload_n 0, 1) := by decide +kernel
theorem d267_43 : decode (mcode 267) 43 = .ok (.getfield 7, 3) := by decide +kernel
theorem d267_46 : decode (mcode 267) 46 = .ok (.sipush 442, 3) := by decide +kernel
theorem d267_49 : decode (mcode 267) 49 = .ok (.iload_n 2, 1) := by decide +kernel
theorem d267_50 : decode (mcode 267) 50 = .ok (.iadd, 1) := by decide +kernel
theorem d267_51 : decode (mcode 267) 51 = .ok (.iaload, 1) := by decide +kernel
theorem d267_52 : decode (mcode 267) 52 = .ok (.if_icmp .le 31, 3) := by decide +kernel
theorem d267_55 : decode (mcode 267) 55 = .ok (.goto 26, 3) := by decide +kernel
theorem d267_58 : decode (mcode 267) 58 = .ok (.aload_n 0, 1) := by decide +kernel
theorem d267_59 : decode (mcode 267) 59 = .ok (.getfield 7, 3) := by decide +kernel
theorem d267_62 : decode (mcode 267) 62 = .ok (.sipush 442, 3) := by decide +kernel
theorem d267_65 : decode (mcode 267) 65 = .ok (.iload_n 3, 1) := by decide +kernel
theorem d267_66 : decode (mcode 267) 66 = .ok (.iadd, 1) := by decide +kernel
theorem d267_67 : decode (mcode 267) 67 = .ok (.iaload, 1) := by decide +kernel
theorem d267_68 : decode (mcode 267) 68 = .ok (.aload_n 0, 1) := by decide +kernel
theorem d267_69 : decode (mcode 267) 69 = .ok (.getfield 7, 3) := by decide +kernel
theorem d267_72 : decode (mcode 267) 72 = .ok (.sipush 442, 3) := by decide +kernel
theorem d267_75 : decode (mcode 267) 75 = .ok (.iload_n 2, 1) := by decide +kernel
theorem d267_76 : decode (mcode 267) 76 = .ok (.iadd, 1) := by decide +kernel
theorem d267_77 : decode (mcode 267) 77 = .ok (.iaload, 1) := by decide +kernel
theorem d267_78 : decode (mcode 267) 78 = .ok (.if_icmp .ge 5, 3) := by decide +kernel
theorem d267_81 : decode (mcode 267) 81 = .ok (.iload_n 3, 1) := by decide +kernel
theorem d267_82 : decode (mcode 267) 82 = .ok (.istore_n 2, 1) := by decide +kernel
theorem d267_83 : decode (mcode 267) 83 = .ok (.iinc 3 1, 3) := by decide +kernel
theorem d267_86 : decode (mcode 267) 86 = .ok (.goto (-82), 3) := by decide +kernel
theorem d267_89 : decode (mcode 267) 89 = .ok (.iload_n 2, 1) := by decide +kernel
theorem d267_90 : decode (mcode 267) 90 = .ok (.ireturn, 1) := by decide +kernel
theorem d268_0 : decode (mcode 268) 0 = .ok (.aload_n 0, 1) := by decide +kernel
theorem d268_1 : decode (mcode 268) 1 = .ok (.iconst 0, 1) := by decide +kernel
theorem d268_2 : decode (mcode 268) 2 = .ok (.putfield 57, 3) := by decide +kernel
theorem d268_5 : decode (mcode 268) 5 = .ok (.aload_n 0, 1) := by decide +kernel
theorem d268_6 : decode (mcode 268) 6 = .ok (.iload_n 1, 1) := by decide +kernel
theorem d268_7 : decode (mcode 268) 7 = .ok (.iconst 0, 1) := by decide +kernel
theorem d268_8 : decode (mcode 268) 8 = .ok (.iconst 3, 1) := by decide +kernel
theorem d268_9 : decode (mcode 268) 9 = .ok (.invokevirtual 115, 3) := by decide +kernel
theorem d268_12 : decode (mcode 268) 12 = .ok (.ifCond .ne 7, 3) := by decide +kernel
theorem d268_15 : decode (mcode 268) 15 = .ok (.ldc_w 309, 3) := by decide +kernel
theorem d268_18 : decode (mcode 268) 18 = .ok (.ireturn, 1) := by decide +kernel
theorem d268_19 : decode (mcode 268) 19 = .ok (.aload_n 0, 1) := by decide +kernel
theorem d268_20 : decode (mcode 268) 20 = .ok (.iload_n 1, 1) := by decide +kernel
theorem d268_21 : decode (mcode 268) 21 = .ok (.iconst 2, 1) := by decide +kernel
theorem d268_22 : decode (mcode 268) 22 = .ok (.irem, 1) := by decide +kernel
theorem d268_23 : decode (mcode 268) 23 = .ok (.iconst 1, 1) := by decide +kernel
theorem d268_24 : decode (mcode 268) 24 = .ok (.if_icmp .ne 7, 3) := by decide +kernel
theorem d268_27 : decode (mcode 268) 27 = .ok (.iconst 1, 1) := by decide +kernel
theorem d268_28 : decode (mcode 268) 28 = .ok (.goto 4, 3) := by decide +kernel
theorem d268_31 : decode (mcode 268) 31 = .ok (.iconst 0, 1) := by decide +kernel
theorem d268_32 : decode (mcode 268) 32 = .ok (.invokevirtual 326, 3) := by decide +kernel
theorem d268_35 : decode (mcode 268) 35 = .ok (.istore_n 2, 1) := by decide +kernel
theorem d268_36 : decode (mcode 268) 36 = .ok (.iload_n 2, 1) := by decide +kernel
theorem d268_37 : decode (mcode 268) 37 = .ok (.iconst (-1), 1) := by decide +kernel
theorem d268_38 : decode (mcode 268) 38 = .ok (.if_icmp .ne 7, 3) := by decide +kernel
theorem d268_41 : decode (mcode 268) 41 = .ok (.ldc_w 309, 3) := by decide +kernel
theorem d268_44 : decode (mcode 268) 44 = .ok (.ireturn, 1) := by decide +kernel
theorem d268_45 : decode (mcode 268) 45 = .ok (.iload_n 1, 1) := by decide +kernel
theorem d268_46 : decode (mcode 268) 46 = .ok (.iconst 2, 1) := by decide +kernel
theorem d268_47 : decode (mcode 268) 47 = .ok (.if_icmp .ge 16, 3) := by decide +kernel
theorem d268_50 : decode (mcode 268) 50 = .ok (.aload_n 0, 1) := by decide +kernel
theorem d268_51 : decode (mcode 268) 51 = .ok (.getfield 7, 3) := by decide +kernel
theorem d268_54 : decode (mcode 268) 54 = .ok (.sipush 442, 3) := by decide +kernel
theorem d268_57 : decode (mcode 268) 57 = .ok (.iload_n 2, 1) := by decide +kernel
theorem d268_58 : decode (mcode 268) 58 = .ok (.iadd, 1) := by decide +kernel
theorem d268_59 : decode (mcode 268) 59 = .ok (.iaload, 1) := by decide +kernel
theorem d268_60 : decode (mcode 268) 60 = .ok (.goto 4, 3) := by decide +kernel
theorem d268_63 : decode (mcode 268) 63 = .ok (.iload_n 2, 1) := by decide +kernel
theorem d268_64 : decode (mcode 268) 64 = .ok (.ireturn, 1) := by decide +kernel
theorem d269_0 : decode (mcode 269) 0 = .ok (.aload_n 0, 1) := by decide +kernel
theorem d269_1 : decode (mcode 269) 1 = .ok (.iconst 0, 1) := by decide +kernel
theorem d269_2 : decode (mcode 269) 2 = .ok (.putfield 57, 3) := by decide +kernel
theorem d269_5 : decode (mcode 269) 5 = .ok (.iconst 0, 1) := by decide +kernel
theorem d269_6 : decode (mcode 269) 6 = .ok (.istore_n 3, 1) := by decide +kernel
theorem d269_7 : decode (mcode 269) 7 = .ok (.iconst 0, 1) := by decide +kernel
theorem d269_8 : decode (mcode 269) 8 = .ok (.istore 4, 2) := by decide +kernel
theorem d269_10 : decode (mcode 269) 10 = .ok (.iload 4, 2) := by decide +kernel
theorem d269_12 : decode (mcode 269) 12 = .ok (.aload_n 0, 1) := by decide +kernel
theorem d269_13 : decode (mcode 269) 13 = .ok (.invokevirtual 67, 3) := by decide +kernel
theorem d269_16 : decode (mcode 269) 16 = .ok (.if_icmp .ge 42, 3) := by decide +kernel
theorem d269_19 : decode (mcode 269) 19 = .ok (.aload_n 0, 1) := by decide +kernel
theorem d269_20 : decode (mcode 269) 20 = .ok (.iload 4, 2) := by decide +kernel
theorem d269_22 : decode (mcode 269) 22 = .ok (.invokevirtual 210, 3) := by decide +kernel
theorem d269_25 : decode (mcode 269) 25 = .ok (.ifCond .eq 27, 3) := by decide +kernel
theorem d269_28 : decode (mcode 269) 28 = .ok (.aload_n 0, 1) := by decide +kernel
theorem d269_29 : decode (mcode 269) 29 = .ok (.aload_n 0, 1) := by decide +kernel
theorem d269_30 : decode (mcode 269) 30 = .ok (.getfield 7, 3) := by decide +kernel
theorem d269_33 : decode (mcode 269) 33 = .ok (.sipush 442, 3) := by decide +kernel
theorem d269_36 : decode (mcode 269) 36 = .ok (.iload 4, 2) := by decide +kernel
theorem d269_38 : decode (mcode 269) 38 = .ok (.iadd, 1) := by decide +kernel
theorem d269_39 : decode (mcode 269) 39 = .ok (.iaload, 1) := by decide +kernel
theorem d269_40 : decode (mcode 269) 40 = .ok (.iload_n 1, 1) := by decide +kernel
theorem d269_41 : decode (mcode 269) 41 = .ok (.iload_n 2, 1) := by decide +kernel
theorem d269_42 : decode (mcode 269) 42 = .ok (.invokevirtual 115, 3) := by decide +kernel
theorem d269_45 : decode (mcode 269) 45 = .ok (.ifCond .eq 7, 3) := by decide +kernel
theorem d269_48 : decode (mcode 269) 48 = .ok (.iload_n 3, 1) := by decide +kernel
theorem d269_49 : decode (mcode 269) 49 = .ok (.iconst 1, 1) := by decide +kernel
theorem d269_50 : decode (mcode 269) 50 = .ok (.iadd, 1) := by decide +kernel
theorem d269_51 : decode (mcode 269) 51 = .ok (.istore_n 3, 1) := by decide +kernel
theorem d269_52 : decode (mcode 269) 52 = .ok (.iinc 4 1, 3) := by decide +kernel
theorem d269_55 : decode (mcode 269) 55 = .ok (.goto (-45), 3) := by decide +kernel
theorem d269_58 : decode (mcode 269) 58 = .ok (.iload_n 3, 1) := by decide +kernel
theorem d269_59 : decode (mcode 269) 59 = .ok (.ireturn, 1) := by decide +kernel
theorem d270_0 : decode (mcode 270) 0 = .ok (.aload_n 0, 1) := by decide +kernel
theorem d270_1 : decode (mcode 270) 1 = .ok (.iload_n 1, 1) := by decide +kernel
theorem d270_2 : decode (mcode 270) 2 = .ok (.invokevirtual 210, 3) := by decide +kernel
theorem d270_5 : decode (mcode 270) 5 = .ok (.ifCond .eq 21, 3) := by decide +kernel
theorem d270_8 : decode (mcode 270) 8 = .ok (.aload_n 0, 1) := by decide +kernel
theorem d270_9 : decode (mcode 270) 9 = .ok (.getfield 7, 3) := by decide +kernel
theorem d270_12 : decode (mcode 270) 12 = .ok (.sipush 442, 3) := by decide +kernel
theorem d270_15 : decode (mcode 270) 15 = .ok (.iload_n 1, 1) := by decide +kernel
theorem d270_16 : decode (mcode 270) 16 = .ok (.iadd, 1) := by decide +kernel
theorem d270_17 : decode (mcode 270) 17 = .ok (.iaload, 1) := by decide +kernel
theorem d270_18 : decode (mcode 270) 18 = .ok (.iload_n 2, 1) := by decide +kernel
theorem d270_19 : decode (mcode 270) 19 = .ok (.if_icmp .lt 7, 3) := by decide +kernel
theorem d270_22 : decode (mcode 270) 22 = .ok (.iconst 1, 1) := by decide +kernel
theorem d270_23 : decode (mcode 270) 23 = .ok (.goto 4, 3) := by decide +kernel
theorem d270_26 : decode (mcode 270) 26 = .ok (.iconst 0, 1) := by decide +kernel
theorem d270_27 : decode (mcode 270) 27 = .ok (.ireturn, 1) := by decide +kernel
theorem d271_0 : decode (mcode 271) 0 = .ok (.iconst 0, 1) := by decide +kernel
theorem d271_1 : decode (mcode 271) 1 = .ok (.istore_n 2, 1) := by decide +kernel
theorem d271_2 : decode (mcode 271) 2 = .ok (.iload_n 2, 1) := by decide +kernel
theorem d271_3 : decode (mcode 271) 3 = .ok (.aload_n 0, 1) := by decide +kernel
theorem d271_4 : decode (mcode 271) 4 = .ok (.invokevirtual 67, 3) := by decide +kernel
theorem d271_7 : decode (mcode 271) 7 = .ok (.if_icmp .ge 16, 3) := by decide +kernel
theorem d271_10 : decode (mcode 271) 10 = .ok (.aload_n 0, 1) := by decide +kernel
theorem d271_11 : decode (mcode 271) 11 = .ok (.getfield 48, 3) := by decide +kernel
theorem d271_14 : decode (mcode 271) 14 = .ok (.iload_n 2, 1) := by decide +kernel
theorem d271_15 : decode (mcode 271) 15 = .ok (.iload_n 2, 1) := by decide +kernel
theorem d271_16 : decode (mcode 271) 16 = .ok (.iastore, 1) := by decide +kernel
theorem d271_17 : decode (mcode 271) 17 = .ok (.iinc 2 1, 3) := by decide +kernel
theorem d271_20 : decode (mcode 271) 20 = .ok (.goto (-18), 3) := by decide +kernel
theorem d271_23 : decode (mcode 271) 23 = .ok (.iconst 1, 1) := by decide +kernel
theorem d271_24 : decode (mcode 271) 24 = .ok (.istore_n 2, 1) := by decide +kernel
theorem d271_25 : decode (mcode 271) 25 = .ok (.iload_n 2, 1) := by decide +kernel
theorem d271_26 : decode (mcode 271) 26 = .ok (.ifCond .eq 160, 3) := by decide +kernel
theorem d271_29 : decode (mcode 271) 29 = .ok (.iconst 0, 1) := by decide +kernel
theorem d271_30 : decode (mcode 271) 30 = .ok (.istore_n 2, 1) := by decide +kernel
theorem d271_31 : decode (mcode 271) 31 = .ok (.iconst 0, 1) := by decide +kernel
theorem d271_32 : decode (mcode 271) 32 = .ok (.istore_n 3, 1) := by decide +kernel
theorem d271_33 : decode (mcode 271) 33 = .ok (.iload_n 3, 1) := by decide +kernel
theorem d271_34 : decode (mcode 271) 34 = .ok (.iconst 2, 1) := by decide +kernel
theorem d271_35 : decode (mcode 271) 35 = .ok (.aload_n 0, 1) := by decide +kernel
theorem d271_36 : decode (mcode 271) 36 = .ok (.invokevirtual 67, 3) := by decide +kernel
theorem d271_39 : decode (mcode 271) 39 = .ok (.imul, 1) := by decide +kernel
theorem d271_40 : decode (mcode 271) 40 = .ok (.if_icmp .ge 143, 3) := by decide +kernel
theorem d271_43 : decode (mcode 271) 43 = .ok (.aload_n 0, 1) := by decide +kernel
theorem d271_44 : decode (mcode 271) 44 = .ok (.iload_n 3, 1) := by decide +kernel
theorem d271_45 : decode (mcode 271) 45 = .ok (.invokevirtual 242, 3) := by decide +kernel
theorem d271_48 : decode (mcode 271) 48 = .ok (.ifCond .eq 129, 3) := by decide +kernel
theorem d271_51 : decode (mcode 271) 51 = .ok (.aload_n 0, 1) := by decide +kernel
theorem d271_52 : decode (mcode 271) 52 = .ok (.aload_n 0, 1) := by decide +kernel
theorem d271_53 : decode (mcode 271) 53 = .ok (.iload_n 3, 1) := by decide +kernel
theorem d271_54 : decode (mcode 271) 54 = .ok (.invokevirtual 86, 3) := by decide +kernel
theorem d271_57 : decode (mcode 271) 57 = .ok (.iload_n 1, 1) := by decide +kernel
theorem d271_58 : decode (mcode 271) 58 = .ok (.invokevirtual 330, 3) := by decide +kernel
theorem d271_61 : decode (mcode 271) 61 = .ok (.ifCond .eq 116, 3) := by decide +kernel
theorem d271_64 : decode (mcode 271) 64 = .ok (.aload_n 0, 1) := by decide +kernel
theorem d271_65 : decode (mcode 271) 65 = .ok (.aload_n 0, 1) := by decide +kernel
theorem d271_66 : decode (mcode 271) 66 = .ok (.iload_n 3, 1) := by decide +kernel
theorem d271_67 : decode (mcode 271) 67 = .ok (.invokevirtual 93, 3) := by decide +kernel
theorem d271_70 : decode (mcode 271) 70 = .ok (.iload_n 1, 1) := by decide +kernel
theorem d271_71 : decode (mcode 271) 71 = .ok (.invokevirtual 330, 3) := by decide +kernel
theorem d271_74 : decode (mcode 271) 74 = .ok (.ifCond .eq 103, 3) := by decide +kernel
theorem d271_77 : decode (mcode 271) 77 = .ok (.aload_n 0, 1) := by decide +kernel
theorem d271_78 : decode (mcode 271) 78 = .ok (.getfield 48, 3) := by decide +kernel
theorem d271_81 : decode (mcode 271) 81 = .ok (.aload_n 0, 1) := by decide +kernel
theorem d271_82 : decode (mcode 271) 82 = .ok (.iload_n 3, 1) := by decide +kernel
theorem d271_83 : decode (mcode 271) 83 = .ok (.invokevirtual 86, 3) := by decide +kernel
theorem d271_86 : decode (mcode 271) 86 = .ok (.iaload, 1) := by decide +kernel
theorem d271_87 : decode (mcode 271) 87 = .ok (.aload_n 0, 1) := by decide +kernel
theorem d271_88 : decode (mcode 271) 88 = .ok (.getfield 48, 3) := by decide +kernel
theorem d271_91 : decode (mcode 271) 91 = .ok (.aload_n 0, 1) := by decide +kernel
theorem d271_92 : decode (mcode 271) 92 = .ok (.iload_n 3, 1) := by decide +kernel
theorem d271_93 : decode (mcode 271) 93 = .ok (.invokevirtual 93, 3) := by decide +kernel
theorem d271_96 : decode (mcode 271) 96 = .ok (.iaload, 1) := by decide +kernel
theorem d271_97 : decode (mcode 271) 97 = .ok (.if_icmp .ne 6, 3) := by decide +kernel
theorem d271_100 : decode (mcode 271) 100 = .ok (.goto 77, 3) := by decide +kernel
theorem d271_103 : decode (mcode 271) 103 = .ok (.aload_n 0, 1) := by decide +kernel
theorem d271_104 : decode (mcode 271) 104 = .ok (.getfield 48, 3) := by decide +kernel
theorem d271_107 : decode (mcode 271) 107 = .ok (.aload_n 0, 1) := by decide +kernel
theorem d271_108 : decode (mcode 271) 108 = .ok (.iload_n 3, 1) := by decide +kernel
theorem d271_109 : decode (mcode 271) 109 = .ok (.invokevirtual 86, 3) := by decide +kernel
theorem d271_112 : decode (mcode 271) 112 = .ok (.iaload, 1) := by decide +kernel
theorem d271_113 : decode (mcode 271) 113 = .ok (.aload_n 0, 1) := by decide +kernel
theorem d271_114 : decode (mcode 271) 114 = .ok (.getfield 48, 3) := by decide +kernel
theorem d271_117 : decode (mcode 271) 117 = .ok (.aload_n 0, 1) := by decide +kernel
theorem d271_118 : decode (mcode 271) 118 = .ok (.iload_n 3, 1) := by decide +kernel
theorem d271_119 : decode (mcode 271) 119 = .ok (.invokevirtual 93, 3) := by decide +kernel
theorem d271_122 : decode (mcode 271) 122 = .ok (.iaload, 1) := by decide +kernel
theorem d271_123 : decode (mcode 271) 123 = .ok (.if_icmp .ge 16, 3) := by decide +kernel
theorem d271_126 : decode (mcode 271) 126 = .ok (.aload_n 0, 1) := by decide +kernel
theorem d271_127 : decode (mcode 271) 127 = .ok (.getfield 48, 3) := by decide +kernel
theorem d271_130 : decode (mcode 271) 130 = .ok (.aload_n 0, 1) := by decide +kernel
theorem d271_131 : decode (mcode 271) 131 = .ok (.iload_n 3, 1) := by decide +kernel
theorem d271_132 : decode (mcode 271) 132 = .ok (.invokevirtual 86, 3) := by decide +kernel
theorem d271_135 : decode (mcode 271) 135 = .ok (.iaload, 1) := by decide +kernel
theorem d271_136 : decode (mcode 271) 136 = .ok (.goto 13, 3) := by decide +kernel
theorem d271_139 : decode (mcode 271) 139 = .ok (.aload_n 0, 1) := by decide +kernel
theorem d271_140 : decode (mcode 271) 140 = .ok (.getfield 48, 3) := by decide +kernel
theorem d271_143 : decode (mcode 271) 143 = .ok (.aload_n 0, 1) := by decide +kernel
theorem d271_144 : decode (mcode 271) 144 = .ok (.iload_n 3, 1) := by decide +kernel
theorem d271_145 : decode (mcode 271) 145 = .ok (.invokevirtual 93, 3) := by decide +kernel
theorem d271_148 : decode (mcode 271) 148 = .ok (.iaload, 1) := by decide +kernel
theorem d271_149 : decode (mcode 271) 149 = .ok (.istore 4, 2) := by decide +kernel
theorem d271_151 : decode (mcode 271) 151 = .ok (.aload_n 0, 1) := by decide +kernel
theorem d271_152 : decode (mcode 271) 152 = .ok (.getfield 48, 3) := by decide +kernel
theorem d271_155 : decode (mcode 271) 155 = .ok (.aload_n 0, 1) := by decide +kernel
theorem d271_156 : decode (mcode 271) 156 = .ok (.iload_n 3, 1) := by decide +kernel
theorem d271_157 : decode (mcode 271) 157 = .ok (.invokevirtual 86, 3) := by decide +kernel
theorem d271_160 : decode (mcode 271) 160 = .ok (.iload 4, 2) := by decide +kernel
theorem d271_162 : decode (mcode 271) 162 = .ok (.iastore, 1) := by decide +kernel
theorem d271_163 : decode (mcode 271) 163 = .ok (.aload_n 0, 1) := by decide +kernel
theorem d271_164 : decode (mcode 271) 164 = .ok (.getfield 48, 3) := by decide +kernel
theorem d271_167 : decode (mcode 271) 167 = .ok (.aload_n 0, 1) := by decide +kernel
theorem d271_168 : decode (mcode 271) 168 = .ok (.iload_n 3, 1) := by decide +kernel
theorem d271_169 : decode (mcode 271) 169 = .ok (.invokevirtual 93, 3) := by decide +kernel
theorem d271_172 : decode (mcode 271) 172 = .ok (.iload 4, 2) := by decide +kernel
theorem d271_174 : decode (mcode 271) 174 = .ok (.iastore, 1) := by decide +kernel
theorem d271_175 : decode (mcode 271) 175 = .ok (.iconst 1, 1) := by decide +kernel
theorem d271_176 : decode (mcode 271) 176 = .ok (.istore_n 2, 1) := by decide +kernel
theorem d271_177 : decode (mcode 271) 177 = .ok (.iinc 3 1, 3) := by decide +kernel
theorem d271_180 : decode (mcode 271) 180 = .ok (.goto (-147), 3) := by decide +kernel
theorem d271_183 : decode (mcode 271) 183 = .ok (.goto (-158), 3) := by decide +kernel
theorem d271_186 : decode (mcode 271) 186 = .ok (.return_, 1) := by decide +kernel
theorem d272_0 : decode (mcode 272) 0 = .ok (.iconst 0, 1) := by decide +kernel
theorem d272_1 : decode (mcode 272) 1 = .ok (.istore_n 3, 1) := by decide +kernel
theorem d272_2 : decode (mcode 272) 2 = .ok (.iconst 0, 1) := by decide +kernel
theorem d272_3 : decode (mcode 272) 3 = .ok (.istore 4, 2) := by decide +kernel
theorem d272_5 : decode (mcode 272) 5 = .ok (.iload 4, 2) := by decide +kernel
theorem d272_7 : decode (mcode 272) 7 = .ok (.aload_n 0, 1) := by decide +kernel
theorem d272_8 : decode (mcode 272) 8 = .ok (.invokevirtual 67, 3) := by decide +kernel
theorem d272_11 : decode (mcode 272) 11 = .ok (.if_icmp .ge 34, 3) := by decide +kernel
theorem d272_14 : decode (mcode 272) 14 = .ok (.aload_n 0, 1) := by decide +kernel
theorem d272_15 : decode (mcode 272) 15 = .ok (.iload 4, 2) := by decide +kernel
theorem d272_17 : decode (mcode 272) 17 = .ok (.iload_n 2, 1) := by decide +kernel
theorem d272_18 : decode (mcode 272) 18 = .ok (.invokevirtual 330, 3) := by decide +kernel
theorem d272_21 : decode (mcode 272) 21 = .ok (.ifCond .eq 18, 3) := by decide +kernel
theorem d272_24 : decode (mcode 272) 24 = .ok (.aload_n 0, 1) := by decide +kernel
theorem d272_25 : decode (mcode 272) 25 = .ok (.getfield 48, 3) := by decide +kernel
theorem d272_28 : decode (mcode 272) 28 = .ok (.iload 4, 2) := by decide +kernel
theorem d272_30 : decode (mcode 272) 30 = .ok (.iaload, 1) := by decide +kernel
theorem d272_31 : decode (mcode 272) 31 = .ok (.iload_n 1, 1) := by decide +kernel
theorem d272_32 : decode (mcode 272) 32 = .ok (.if_icmp .ne 7, 3) := by decide +kernel
theorem d272_35 : decode (mcode 272) 35 = .ok (.iload_n 3, 1) := by decide +kernel
theorem d272_36 : decode (mcode 272) 36 = .ok (.iconst 1, 1) := by decide +kernel
theorem d272_37 : decode (mcode 272) 37 = .ok (.iadd, 1) := by decide +kernel
theorem d272_38 : decode (mcode 272) 38 = .ok (.istore_n 3, 1) := by decide +kernel
theorem d272_39 : decode (mcode 272) 39 = .ok (.iinc 4 1, 3) := by decide +kernel
theorem d272_42 : decode (mcode 272) 42 = .ok (.goto (-37), 3) := by decide +kernel
theorem d272_45 : decode (mcode 272) 45 = .ok (.iload_n 3, 1) := by decide +kernel
theorem d272_46 : decode (mcode 272) 46 = .ok (.ireturn, 1) := by decide +kernel
theorem d273_0 : decode (mcode 273) 0 = .ok (.aload_n 0, 1) := by decide +kernel
theorem d273_1 : decode (mcode 273) 1 = .ok (.iconst 0, 1) := by decide +kernel
theorem d273_2 : decode (mcode 273) 2 = .ok (.putfield 57, 3) := by decide +kernel
theorem d273_5 : decode (mcode 273) 5 = .ok (.aload_n 0, 1) := by decide +kernel
theorem d273_6 : decode (mcode 273) 6 = .ok (.iload_n 2, 1) := by decide +kernel
theorem d273_7 : decode (mcode 273) 7 = .ok (.iconst 0, 1) := by decide +kernel
theorem d273_8 : decode (mcode 273) 8 = .ok (.iconst 2, 1) := by decide +kernel
theorem d273_9 : decode (mcode 273) 9 = .ok (.invokevirtual 115, 3) := by decide +kernel
theorem d273_12 : decode (mcode 273) 12 = .ok (.ifCond .ne 7, 3) := by decide +kernel
theorem d273_15 : decode (mcode 273) 15 = .ok (.sipush (-1000), 3) := by decide +kernel
theorem d273_18 : decode (mcode 273) 18 = .ok (.ireturn, 1) := by decide +kernel
theorem d273_19 : decode (mcode 273) 19 = .ok (.aload_n 0, 1) := by decide +kernel
theorem d273_20 : decode (mcode 273) 20 = .ok (.iload_n 1, 1) := by decide +kernel
theorem d273_21 : decode (mcode 273) 21 = .ok (.invokevirtual 333, 3) := by decide +kernel
theorem d273_24 : decode (mcode 273) 24 = .ok (.iconst 0, 1) := by decide +kernel
theorem d273_25 : decode (mcode 273) 25 = .ok (.istore_n 3, 1) := by decide +kernel
theorem d273_26 : decode (mcode 273) 26 = .ok (.iconst (-1), 1) := by decide +kernel
theorem d273_27 : decode (mcode 273) 27 = .ok (.istore 4, 2) := by decide +kernel
theorem d273_29 : decode (mcode 273) 29 = .ok (.iconst 0, 1) := by decide +kernel
theorem d273_30 : decode (mcode 273) 30 = .ok (.istore 5, 2) := by decide +kernel
theorem d273_32 : decode (mcode 273) 32 = .ok (.iconst 0, 1) := by decide +kernel
theorem d273_33 : decode (mcode 273) 33 = .ok (.istore 6, 2) := by decide +kernel
theorem d273_35 : decode (mcode 273) 35 = .ok (.iload 6, 2) := by decide +kernel
theorem d273_37 : decode (mcode 273) 37 = .ok (.aload_n 0, 1) := by decide +kernel
theorem d273_38 : decode (mcode 273) 38 = .ok (.invokevirtual 67, 3) := by decide +kernel
theorem d273_41 : decode (mcode 273) 41 = .ok (.if_icmp .ge 66, 3) := by decide +kernel
theorem d273_44 : decode (mcode 273) 44 = .ok (.aload_n 0, 1) := by decide +kernel
theorem d273_45 : decode (mcode 273) 45 = .ok (.iload 6, 2) := by decide +kernel
theorem d273_47 : decode (mcode 273) 47 = .ok (.iload_n 1, 1) := by decide +kernel
theorem d273_48 : decode (mcode 273) 48 = .ok (.invokevirtual 330, 3) := by decide +kernel
theorem d273_51 : decode (mcode 273) 51 = .ok (.ifCond .eq 50, 3) := by decide +kernel
theorem d273_54 : decode (mcode 273) 54 = .ok (.aload_n 0, 1) := by decide +kernel
theorem d273_55 : decode (mcode 273) 55 = .ok (.getfield 48, 3) := by decide +kernel
theorem d273_58 : decode (mcode 273) 58 = .ok (.iload 6, 2) := by decide +kernel
theorem d273_60 : decode (mcode 273) 60 = .ok (.iaload, 1) := by decide +kernel
theorem d273_61 : decode (mcode 273) 61 = .ok (.iload 6, 2) := by decide +kernel
theorem d273_63 : decode (mcode 273) 63 = .ok (.if_icmp .eq 6, 3) := by decide +kernel
theorem d273_66 : decode (mcode 273) 66 = .ok (.goto 35, 3) := by decide +kernel
theorem d273_69 : decode (mcode 273) 69 = .ok (.iload_n 3, 1) := by decide +kernel
theorem d273_70 : decode (mcode 273) 70 = .ok (.iconst 1, 1) := by decide +kernel
theorem d273_71 : decode (mcode 273) 71 = .ok (.iadd, 1) := by decide +kernel
theorem d273_72 : decode (mcode 273) 72 = .ok (.istore_n 3, 1) := by decide +kernel
theorem d273_73 : decode (mcode 273) 73 = .ok (.aload_n 0, 1) := by decide +kernel
theorem d273_74 : decode (mcode 273) 74 = .ok (.iload 6, 2) := by decide +kernel
theorem d273_76 : decode (mcode 273) 76 = .ok (.iload_n 1, 1) := by decide +kernel
theorem d273_77 : decode (mcode 273) 77 = .ok (.invokevirtual 336, 3) := by decide +kernel
theorem d273_80 : decode (mcode 273) 80 = .ok (.iload 5, 2) := by decide +kernel
theorem d273_82 : decode (mcode 273) 82 = .ok (.if_icmp .gt 6, 3) := by decide +kernel
theorem d273_85 : decode (mcode 273) 85 = .ok (.goto 16, 3) := by decide +kernel
theorem d273_88 : decode (mcode 273) 88 = .ok (.iload 6, 2) := by decide +kernel
theorem d273_90 : decode (mcode 273) 90 = .ok (.istore 4, 2) := by decide +kernel
theorem d273_92 : decode (mcode 273) 92 = .ok (.aload_n 0, 1) := by decide +kernel
theorem d273_93 : decode (mcode 273) 93 = .ok (.iload 6, 2) := by decide +kernel
theorem d273_95 : decode (mcode 273) 95 = .ok (.iload_n 1, 1) := by decide +kernel
theorem d273_96 : decode (mcode 273) 96 = .ok (.invokevirtual 336, 3) := by decide +kernel
theorem d273_99 : decode (mcode 273) 99 = .ok (.istore 5, 2) := by decide +kernel
theorem d273_101 : decode (mcode 273) 101 = .ok (.iinc 6 1, 3) := by decide +kernel
theorem d273_104 : decode (mcode 273) 104 = .ok (.goto (-69), 3) := by decide +kernel
theorem d273_107 : decode (mcode 273) 107 = .ok (.iload_n 2, 1) := by decide +kernel
theorem d273_108 : decode (mcode 273) 108 = .ok (.ifCond .ne 7, 3) := by decide +kernel
theorem d273_111 : decode (mcode 273) 111 = .ok (.iload_n 3, 1) := by decide +kernel
theorem d273_112 : decode (mcode 273) 112 = .ok (.goto 15, 3) := by decide +kernel
theorem d273_115 : decode (mcode 273) 115 = .ok (.iload_n 2, 1) := by decide +kernel
theorem d273_116 : decode (mcode 273) 116 = .ok (.iconst 1, 1) := by decide +kernel
theorem d273_117 : decode (mcode 273) 117 = .ok (.if_icmp .ne 8, 3) := by decide +kernel
theorem d273_120 : decode (mcode 273) 120 = .ok (.iload 5, 2) := by decide +kernel
theorem d273_122 : decode (mcode 273) 122 = .ok (.goto 5, 3) := by decide +kernel
theorem d273_125 : decode (mcode 273) 125 = .ok (.iload 4, 2) := by decide +kernel
theorem d273_127 : decode (mcode 273) 127 = .ok (.ireturn, 1) := by decide +kernel
theorem d274_0 : decode (mcode 274) 0 = .ok (.aload_n 0, 1) := by decide +kernel
theorem d274_1 : decode (mcode 274) 1 = .ok (.iload_n 1, 1) := by decide +kernel
theorem d274_2 : decode (mcode 274) 2 = .ok (.invokevirtual 210, 3) := by decide +kernel
theorem d274_5 : decode (mcode 274) 5 = .ok (.ifCond .ne 5, 3) := by decide +kernel
theorem d274_8 : decode (mcode 274) 8 = .ok (.iconst 0, 1) := by decide +kernel
theorem d274_9 : decode (mcode 274) 9 = .ok (.ireturn, 1) := by decide +kernel
theorem d274_10 : decode (mcode 274) 10 = .ok (.iconst 0, 1) := by decide +kernel
theorem d274_11 : decode (mcode 274) 11 = .ok (.istore_n 2, 1) := by decide +kernel
theorem d274_12 : decode (mcode 274) 12 = .ok (.iload_n 2, 1) := by decide +kernel
theorem d274_13 : decode (mcode 274) 13 = .ok (.iconst 4, 1) := by decide +kernel
theorem d274_14 : decode (mcode 274) 14 = .ok (.if_icmp .ge 62, 3) := by decide +kernel
theorem d274_17 : decode (mcode 274) 17 = .ok (.aload_n 0, 1) := by decide +kernel
theorem d274_18 : decode (mcode 274) 18 = .ok (.iload_n 1, 1) := by decide +kernel
theorem d274_19 : decode (mcode 274) 19 = .ok (.iload_n 2, 1) := by decide +kernel
theorem d274_20 : decode (mcode 274) 20 = .ok (.invokevirtual 129, 3) := by decide +kernel
theorem d274_23 : decode (mcode 274) 23 = .ok (.istore_n 3, 1) := by decide +kernel
theorem d274_24 : decode (mcode 274) 24 = .ok (.iload_n 3, 1) := by decide +kernel
theorem d274_25 : decode (mcode 274) 25 = .ok (.iconst (-1), 1) := by decide +kernel
theorem d274_26 : decode (mcode 274) 26 = .ok (.if_icmp .eq 44, 3) := by decide +kernel
theorem d274_29 : decode (mcode 274) 29 = .ok (.aload_n 0, 1) := by decide +kernel
theorem d274_30 : decode (mcode 274) 30 = .ok (.iload_n 3, 1) := by decide +kernel
theorem d274_31 : decode (mcode 274) 31 = .ok (.invokevirtual 89, 3) := by decide +kernel
theorem d274_34 : decode (mcode 274) 34 = .ok (.ifCond .ne 36, 3) := by decide +kernel
theorem d274_37 : decode (mcode 274) 37 = .ok (.aload_n 0, 1) := by decide +kernel
theorem d274_38 : decode (mcode 274) 38 = .ok (.iload_n 3, 1) := by decide +kernel
theorem d274_39 : decode (mcode 274) 39 = .ok (.invokevirtual 210, 3) := by decide +kernel
theorem d274_42 : decode (mcode 274) 42 = .ok (.ifCond .eq 28, 3) := by decide +kernel
theorem d274_45 : decode (mcode 274) 45 = .ok (.aload_n 0, 1) := by decide +kernel
theorem d274_46 : decode (mcode 274) 46 = .ok (.getfield 7, 3) := by decide +kernel
theorem d274_49 : decode (mcode 274) 49 = .ok (.sipush 442, 3) := by decide +kernel
theorem d274_52 : decode (mcode 274) 52 = .ok (.iload_n 3, 1) := by decide +kernel
theorem d274_53 : decode (mcode 274) 53 = .ok (.iadd, 1) := by decide +kernel
theorem d274_54 : decode (mcode 274) 54 = .ok (.iaload, 1) := by decide +kernel
theorem d274_55 : decode (mcode 274) 55 = .ok (.aload_n 0, 1) := by decide +kernel
theorem d274_56 : decode (mcode 274) 56 = .ok (.getfield 7, 3) := by decide +kernel
theorem d274_59 : decode (mcode 274) 59 = .ok (.sipush 442, 3) := by decide +kernel
theorem d274_62 : decode (mcode 274) 62 = .ok (.iload_n 1, 1) := by decide +kernel
theorem d274_63 : decode (mcode 274) 63 = .ok (.iadd, 1) := by decide +kernel
theorem d274_64 : decode (mcode 274) 64 = .ok (.iaload, 1) := by decide +kernel
theorem d274_65 : decode (mcode 274) 65 = .ok (.if_icmp .lt 5, 3) := by decide +kernel
theorem d274_68 : decode (mcode 274) 68 = .ok (.iconst 0, 1) := by decide +kernel
theorem d274_69 : decode (mcode 274) 69 = .ok (.ireturn, 1) := by decide +kernel
theorem d274_70 : decode (mcode 274) 70 = .ok (.iinc 2 1, 3) := by decide +kernel
theorem d274_73 : decode (mcode 274) 73 = .ok (.goto (-61), 3) := by decide +kernel
theorem d274_76 : decode (mcode 274) 76 = .ok (.iconst 1, 1) := by decide +kernel
theorem d274_77 : decode (mcode 274) 77 = .ok (.ireturn, 1) := by decide +kernel
theorem d275_0 : decode (mcode 275) 0 = .ok (.aload_n 0, 1) := by decide +kernel
theorem d275_1 : decode (mcode 275) 1 = .ok (.iconst 0, 1) := by decide +kernel
theorem d275_2 : decode (mcode 275) 2 = .ok (.putfield 57, 3) := by decide +kernel
theorem d275_5 : decode (mcode 275) 5 = .ok (.iconst 0, 1) := by decide +kernel
theorem d275_6 : decode (mcode 275) 6 = .ok (.istore_n 2, 1) := by decide +kernel
theorem d275_7 : decode (mcode 275) 7 = .ok (.iconst 0, 1) := by decide +kernel
theorem d275_8 : decode (mcode 275) 8 = .ok (.istore_n 3, 1) := by decide +kernel
theorem d275_9 : decode (mcode 275) 9 = .ok (.iload_n 3, 1) := by decide +kernel
theorem d275_10 : decode (mcode 275) 10 = .ok (.aload_n 0, 1) := by decide +kernel
theorem d275_11 : decode (mcode 275) 11 = .ok (.invokevirtual 67, 3) := by decide +kernel
theorem d275_14 : decode (mcode 275) 14 = .ok (.if_icmp .ge 31, 3) := by decide +kernel
theorem d275_17 : decode (mcode 275) 17 = .ok (.aload_n 0, 1) := by decide +kernel
theorem d275_18 : decode (mcode 275) 18 = .ok (.iload_n 3, 1) := by decide +kernel
theorem d275_19 : decode (mcode 275) 19 = .ok (.invokevirtual 339, 3) := by decide +kernel
theorem d275_22 : decode (mcode 275) 22 = .ok (.ifCond .ne 6, 3) := by decide +kernel
theorem d275_25 : decode (mcode 275) 25 = .ok (.goto 14, 3) := by decide +kernel
theorem d275_28 : decode (mcode 275) 28 = .ok (.iload_n 2, 1) := by decide +kernel
theorem d275_29 : decode (mcode 275) 29 = .ok (.iload_n 1, 1) := by decide +kernel
theorem d275_30 : decode (mcode 275) 30 = .ok (.if_icmp .ne 5, 3) := by decide +kernel
theorem d275_33 : decode (mcode 275) 33 = .ok (.iload_n 3, 1) := by decide +kernel
theorem d275_34 : decode (mcode 275) 34 = .ok (.ireturn, 1) := by decide +kernel
theorem d275_35 : decode (mcode 275) 35 = .ok (.iload_n 2, 1) := by decide +kernel
theorem d275_36 : decode (mcode 275) 36 = .ok (.iconst 1, 1) := by decide +kernel
theorem d275_37 : decode (mcode 275) 37 = .ok (.iadd, 1) := by decide +kernel
theorem d275_38 : decode (mcode 275) 38 = .ok (.istore_n 2, 1) := by decide +kernel
theorem d275_39 : decode (mcode 275) 39 = .ok (.iinc 3 1, 3) := by decide +kernel
theorem d275_42 : decode (mcode 275) 42 = .ok (.goto (-33), 3) := by decide +kernel
theorem d275_45 : decode (mcode 275) 45 = .ok (.iload_n 1, 1) := by decide +kernel
theorem d275_46 : decode (mcode 275) 46 = .ok (.iconst (-1), 1) := by decide +kernel
theorem d275_47 : decode (mcode 275) 47 = .ok (.if_icmp .ne 7, 3) := by decide +kernel
theorem d275_50 : decode (mcode 275) 50 = .ok (.iload_n 2, 1) := by decide +kernel
theorem d275_51 : decode (mcode 275) 51 = .ok (.goto 4, 3) := by decide +kernel
theorem d275_54 : decode (mcode 275) 54 = .ok (.iconst (-1), 1) := by decide +kernel
theorem d275_55 : decode (mcode 275) 55 = .ok (.ireturn, 1) := by decide +kernel
theorem d276_0 : decode (mcode 276) 0 = .ok (.aload_n 0, 1) := by decide +kernel
theorem d276_1 : decode (mcode 276) 1 = .ok (.iconst 0, 1) := by decide +kernel
theorem d276_2 : decode (mcode 276) 2 = .ok (.putfield 57, 3) := by decide +kernel
theorem d276_5 : decode (mcode 276) 5 = .ok (.aload_n 0, 1) := by decide +kernel
theorem d276_6 : decode (mcode 276) 6 = .ok (.iload_n 1, 1) := by decide +kernel
theorem d276_7 : decode (mcode 276) 7 = .ok (.invokevirtual 123, 3) := by decide +kernel
theorem d276_10 : decode (mcode 276) 10 = .ok (.ifCond .eq 15, 3) := by decide +kernel
theorem d276_13 : decode (mcode 276) 13 = .ok (.aload_n 0, 1) := by decide +kernel
theorem d276_14 : decode (mcode 276) 14 = .ok (.iload_n 1, 1) := by decide +kernel
theorem d276_15 : decode (mcode 276) 15 = .ok (.invokevirtual 210, 3) := by decide +kernel
theorem d276_18 : decode (mcode 276) 18 = .ok (.ifCond .eq 7, 3) := by decide +kernel
theorem d276_21 : decode (mcode 276) 21 = .ok (.iload_n 2, 1) := by decide +kernel
theorem d276_22 : decode (mcode 276) 22 = .ok (.ifCond .ge 5, 3) := by decide +kernel
theorem d276_25 : decode (mcode 276) 25 = .ok (.iconst (-1), 1) := by decide +kernel
theorem d276_26 : decode (mcode 276) 26 = .ok (.ireturn, 1) := by decide +kernel
theorem d276_27 : decode (mcode 276) 27 = .ok (.iload_n 1, 1) := by decide +kernel
theorem d276_28 : decode (mcode 276) 28 = .ok (.istore_n 3, 1) := by decide +kernel
theorem d276_29 : decode (mcode 276) 29 = .ok (.iconst 0, 1) := by decide +kernel
theorem d276_30 : decode (mcode 276) 30 = .ok (.istore 4, 2) := by decide +kernel
theorem d276_32 : decode (mcode 276) 32 = .ok (.iload 4, 2) := by decide +kernel
theorem d276_34 : decode (mcode 276) 34 = .ok (.iload_n 2, 1) := by decide +kernel
theorem d276_35 : decode (mcode 276) 35 = .ok (.if_icmp .ge 25, 3) := by decide +kernel
theorem d276_38 : decode (mcode 276) 38 = .ok (.iload_n 3, 1) := by decide +kernel
theorem d276_39 : decode (mcode 276) 39 = .ok (.iconst (-1), 1) := by decide +kernel
theorem d276_40 : decode (mcode 276) 40 = .ok (.if_icmp .eq 20, 3) := by decide +kernel
theorem d276_43 : decode (mcode 276) 43 = .ok (.aload_n 0, 1) := by decide +kernel
theorem d276_44 : decode (mcode 276) 44 = .ok (.getfield 7, 3) := by decide +kernel
theorem d276_47 : decode (mcode 276) 47 = .ok (.sipush 586, 3) := by decide +kernel
theorem d276_50 : decode (mcode 276) 50 = .ok (.iload_n 3, 1) := by decide +kernel
theorem d276_51 : decode (mcode 276) 51 = .ok (.iadd, 1) := by decide +kernel
theorem d276_52 : decode (mcode 276) 52 = .ok (.iaload, 1) := by decide +kernel
theorem d276_53 : decode (mcode 276) 53 = .ok (.istore_n 3, 1) := by decide +kernel
theorem d276_54 : decode (mcode 276) 54 = .ok (.iinc 4 1, 3) := by decide +kernel
theorem d276_57 : decode (mcode 276) 57 = .ok (.goto (-25), 3) := by decide +kernel
theorem d276_60 : decode (mcode 276) 60 = .ok (.iload_n 3, 1) := by decide +kernel
theorem d276_61 : decode (mcode 276) 61 = .ok (.ireturn, 1) := by decide +kernel
theorem d277_0 : decode (mcode 277) 0 = .ok (.aload_n 0, 1) := by decide +kernel
theorem d277_1 : decode (mcode 277) 1 = .ok (.invokevirtual 108, 3) := by decide +kernel
theorem d277_4 : decode (mcode 277) 4 = .ok (.aload_n 0, 1) := by decide +kernel
theorem d277_5 : decode (mcode 277) 5 = .ok (.invokevirtual 232, 3) := by decide +kernel
theorem d277_8 : decode (mcode 277) 8 = .ok (.ifCond .le 11, 3) := by decide +kernel
theorem d277_11 : decode (mcode 277) 11 = .ok (.aload_n 0, 1) := by decide +kernel
theorem d277_12 : decode (mcode 277) 12 = .ok (.invokevirtual 235, 3) := by decide +kernel
theorem d277_15 : decode (mcode 277) 15 = .ok (.pop, 1) := by decide +kernel
theorem d277_16 : decode (mcode 277) 16 = .ok (.goto (-12), 3) := by decide +kernel
theorem d277_19 : decode (mcode 277) 19 = .ok (.return_, 1) := by decide +kernel
theorem d278_0 : decode (mcode 278) 0 = .ok (.iconst 0, 1) := by decide +kernel
theorem d278_1 : decode (mcode 278) 1 = .ok (.istore_n 2, 1) := by decide +kernel
theorem d278_2 : decode (mcode 278) 2 = .ok (.iconst 0, 1) := by decide +kernel
theorem d278_3 : decode (mcode 278) 3 = .ok (.istore_n 3, 1) := by decide +kernel
theorem d278_4 : decode (mcode 278) 4 = .ok (.iload_n 3, 1) := by decide +kernel
theorem d278_5 : decode (mcode 278) 5 = .ok (.aload_n 0, 1) := by decide +kernel
theorem d278_6 : decode (mcode 278) 6 = .ok (.invokevirtual 67, 3) := by decide +kernel
theorem d278_9 : decode (mcode 278) 9 = .ok (.if_icmp .ge 43, 3) := by decide +kernel
theorem d278_12 : decode (mcode 278) 12 = .ok (.aload_n 1, 1) := by decide +kernel
theorem d278_13 : decode (mcode 278) 13 = .ok (.sipush 874, 3) := by decide +kernel
theorem d278_16 : decode (mcode 278) 16 = .ok (.iload_n 3, 1) := by decide +kernel
theorem d278_17 : decode (mcode 278) 17 = .ok (.iadd, 1) := by decide +kernel
theorem d278_18 : decode (mcode 278) 18 = .ok (.iaload, 1) := by decide +kernel
theorem d278_19 : decode (mcode 278) 19 = .ok (.ifCond .le 27, 3) := by decide +kernel
theorem d278_22 : decode (mcode 278) 22 = .ok (.aload_n 1, 1) := by decide +kernel
theorem d278_23 : decode (mcode 278) 23 = .ok (.sipush 442, 3) := by decide +kernel
theorem d278_26 : decode (mcode 278) 26 = .ok (.iload_n 3, 1) := by decide +kernel
theorem d278_27 : decode (mcode 278) 27 = .ok (.iadd, 1) := by decide +kernel
theorem d278_28 : decode (mcode 278) 28 = .ok (.iaload, 1) := by decide +kernel
theorem d278_29 : decode (mcode 278) 29 = .ok (.aload_n 0, 1) := by decide +kernel
theorem d278_30 : decode (mcode 278) 30 = .ok (.getfield 7, 3) := by decide +kernel
theorem d278_33 : decode (mcode 278) 33 = .ok (.sipush 442, 3) := by decide +kernel
theorem d278_36 : decode (mcode 278) 36 = .ok (.iload_n 3, 1) := by decide +kernel
theorem d278_37 : decode (mcode 278) 37 = .ok (.iadd, 1) := by decide +kernel
theorem d278_38 : decode (mcode 278) 38 = .ok (.iaload, 1) := by decide +kernel
theorem d278_39 : decode (mcode 278) 39 = .ok (.if_icmp .eq 7, 3) := by decide +kernel
theorem d278_42 : decode (mcode 278) 42 = .ok (.iload_n 2, 1) := by decide +kernel
theorem d278_43 : decode (mcode 278) 43 = .ok (.iconst 1, 1) := by decide +kernel
theorem d278_44 : decode (mcode 278) 44 = .ok (.iadd, 1) := by decide +kernel
theorem d278_45 : decode (mcode 278) 45 = .ok (.istore_n 2, 1) := by decide +kernel
theorem d278_46 : decode (mcode 278) 46 = .ok (.iinc 3 1, 3) := by decide +kernel
theorem d278_49 : decode (mcode 278) 49 = .ok (.goto (-45), 3) := by decide +kernel
theorem d278_52 : decode (mcode 278) 52 = .ok (.iload_n 2, 1) := by decide +kernel
theorem d278_53 : decode (mcode 278) 53 = .ok (.ireturn, 1) := by decide +kernel
theorem d279_0 : decode (mcode 279) 0 = .ok (.aload_n 0, 1) := by decide +kernel
theorem d279_1 : decode (mcode 279) 1 = .ok (.iconst 0, 1) := by decide +kernel
theorem d279_2 : decode (mcode 279) 2 = .ok (.putfield 57, 3) := by decide +kernel
theorem d279_5 : decode (mcode 279) 5 = .ok (.aload_n 0, 1) := by decide +kernel
theorem d279_6 : decode (mcode 279) 6 = .ok (.iload_n 1, 1) := by decide +kernel
theorem d279_7 : decode (mcode 279) 7 = .ok (.invokevirtual 201, 3) := by decide +kernel
theorem d279_10 : decode (mcode 279) 10 = .ok (.ifCond .eq 13, 3) := by decide +kernel
theorem d279_13 : decode (mcode 279) 13 = .ok (.aload_n 0, 1) := by decide +kernel
theorem d279_14 : decode (mcode 279) 14 = .ok (.iload_n 2, 1) := by decide +kernel
theorem d279_15 : decode (mcode 279) 15 = .ok (.iconst 0, 1) := by decide +kernel
theorem d279_16 : decode (mcode 279) 16 = .ok (.iconst 4, 1) := by decide +kernel
theorem d279_17 : decode (mcode 279) 17 = .ok (.invokevirtual 115, 3) := by decide +kernel
theorem d279_20 : decode (mcode 279) 20 = .ok (.ifCond .ne 5, 3) := by decide +kernel
theorem d279_23 : decode (mcode 279) 23 = .ok (.iconst (-1), 1) := by decide +kernel
theorem d279_24 : decode (mcode 279) 24 = .ok (.ireturn, 1) := by decide +kernel
theorem d279_25 : decode (mcode 279) 25 = .ok (.iconst 0, 1) := by decide +kernel
theorem d279_26 : decode (mcode 279) 26 = .ok (.istore_n 3, 1) := by decide +kernel
theorem d279_27 : decode (mcode 279) 27 = .ok (.iload_n 3, 1) := by decide +kernel
theorem d279_28 : decode (mcode 279) 28 = .ok (.sipush 2314, 3) := by decide +kernel
theorem d279_31 : decode (mcode 279) 31 = .ok (.if_icmp .ge 21, 3) := by decide +kernel
theorem d279_34 : decode (mcode 279) 34 = .ok (.aload_n 0, 1) := by decide +kernel
theorem d279_35 : decode (mcode 279) 35 = .ok (.getfield 13, 3) := by decide +kernel
theorem d279_38 : decode (mcode 279) 38 = .ok (.iload_n 3, 1) := by decide +kernel
theorem d279_39 : decode (mcode 279) 39 = .ok (.aload_n 0, 1) := by decide +kernel
theorem d279_40 : decode (mcode 279) 40 = .ok (.getfield 7, 3) := by decide +kernel
theorem d279_43 : decode (mcode 279) 43 = .ok (.iload_n 3, 1) := by decide +kernel
theorem d279_44 : decode (mcode 279) 44 = .ok (.iaload, 1) := by decide +kernel
theorem d279_45 : decode (mcode 279) 45 = .ok (.iastore, 1) := by decide +kernel
theorem d279_46 : decode (mcode 279) 46 = .ok (.iinc 3 1, 3) := by decide +kernel
theorem d279_49 : decode (mcode 279) 49 = .ok (.goto (-22), 3) := by decide +kernel
theorem d279_52 : decode (mcode 279) 52 = .ok (.aload_n 0, 1) := by decide +kernel
theorem d279_53 : decode (mcode 279) 53 = .ok (.iload_n 1, 1) := by decide +kernel
theorem d279_54 : decode (mcode 279) 54 = .ok (.invokevirtual 204, 3) := by decide +kernel
theorem d279_57 : decode (mcode 279) 57 = .ok (.istore_n 3, 1) := by decide +kernel
theorem d279_58 : decode (mcode 279) 58 = .ok (.aload_n 0, 1) := by decide +kernel
theorem d279_59 : decode (mcode 279) 59 = .ok (.invokevirtual 342, 3) := by decide +kernel
theorem d279_62 : decode (mcode 279) 62 = .ok (.iload_n 2, 1) := by decide +kernel
theorem d279_63 : decode (mcode 279) 63 = .ok (.ifCond .ne 10, 3) := by decide +kernel
theorem d279_66 : decode (mcode 279) 66 = .ok (.aload_n 0, 1) := by decide +kernel
theorem d279_67 : decode (mcode 279) 67 = .ok (.getfield 7, 3) := by decide +kernel
theorem d279_70 : decode (mcode 279) 70 = .ok (.iconst 3, 1) := by decide +kernel
theorem d279_71 : decode (mcode 279) 71 = .ok (.iaload, 1) := by decide +kernel
theorem d279_72 : decode (mcode 279) 72 = .ok (.istore_n 3, 1) := by decide +kernel
theorem d279_73 : decode (mcode 279) 73 = .ok (.iload_n 2, 1) := by decide +kernel
theorem d279_74 : decode (mcode 279) 74 = .ok (.iconst 1, 1) := by decide +kernel
theorem d279_75 : decode (mcode 279) 75 = .ok (.if_icmp .ne 8, 3) := by decide +kernel
theorem d279_78 : decode (mcode 279) 78 = .ok (.aload_n 0, 1) := by decide +kernel
theorem d279_79 : decode (mcode 279) 79 = .ok (.invokevirtual 239, 3) := by decide +kernel
theorem d279_82 : decode (mcode 279) 82 = .ok (.istore_n 3, 1) := by decide +kernel
theorem d279_83 : decode (mcode 279) 83 = .ok (.iload_n 2, 1) := by decide +kernel
theorem d279_84 : decode (mcode 279) 84 = .ok (.iconst 2, 1) := by decide +kernel
theorem d279_85 : decode (mcode 279) 85 = .ok (.if_icmp .ne 8, 3) := by decide +kernel
theorem d279_88 : decode (mcode 279) 88 = .ok (.aload_n 0, 1) := by decide +kernel
theorem d279_89 : decode (mcode 279) 89 = .ok (.invokevirtual 345, 3) := by decide +kernel
theorem d279_92 : decode (mcode 279) 92 = .ok (.istore_n 3, 1) := by decide +kernel
theorem d279_93 : decode (mcode 279) 93 = .ok (.iload_n 2, 1) := by decide +kernel
theorem d279_94 : decode (mcode 279) 94 = .ok (.iconst 4, 1) := by decide +kernel
theorem d279_95 : decode (mcode 279) 95 = .ok (.if_icmp .ne 12, 3) := by decide +kernel
theorem d279_98 : decode (mcode 279) 98 = .ok (.aload_n 0, 1) := by decide +kernel
theorem d279_99 : decode (mcode 279) 99 = .ok (.aload_n 0, 1) := by decide +kernel
theorem d279_100 : decode (mcode 279) 100 = .ok (.getfield 13, 3) := by decide +kernel
theorem d279_103 : decode (mcode 279) 103 = .ok (.invokevirtual 348, 3) := by decide +kernel
theorem d279_106 : decode (mcode 279) 106 = .ok (.istore_n 3, 1) := by decide +kernel
theorem d279_107 : decode (mcode 279) 107 = .ok (.iconst 0, 1) := by decide +kernel
theorem d279_108 : decode (mcode 279) 108 = .ok (.istore 4, 2) := by decide +kernel
theorem d279_110 : decode (mcode 279) 110 = .ok (.iload 4, 2) := by decide +kernel
theorem d279_112 : decode (mcode 279) 112 = .ok (.sipush 2314, 3) := by decide +kernel
theorem d279_115 : decode (mcode 279) 115 = .ok (.if_icmp .ge 23, 3) := by decide +kernel
theorem d279_118 : decode (mcode 279) 118 = .ok (.aload_n 0, 1) := by decide +kernel
theorem d279_119 : decode (mcode 279) 119 = .ok (.getfield 7, 3) := by decide +kernel
theorem d279_122 : decode (mcode 279) 122 = .ok (.iload 4, 2) := by decide +kernel
theorem d279_124 : decode (mcode 279) 124 = .ok (.aload_n 0, 1) := by decide +kernel
theorem d279_125 : decode (mcode 279) 125 = .ok (.getfield 13, 3) := by decide +kernel
theorem d279_128 : decode (mcode 279) 128 = .ok (.iload 4, 2) := by decide +kernel
theorem d279_130 : decode (mcode 279) 130 = .ok (.iaload, 1) := by decide +kernel
theorem d279_131 : decode (mcode 279) 131 = .ok (.iastore, 1) := by decide +kernel
theorem d279_132 : decode (mcode 279) 132 = .ok (.iinc 4 1, 3) := by decide +kernel
theorem d279_135 : decode (mcode 279) 135 = .ok (.goto (-25), 3) := by decide +kernel
theorem d279_138 : decode (mcode 279) 138 = .ok (.iload_n 3, 1) := by decide +kernel
theorem d279_139 : decode (mcode 279) 139 = .ok (.ireturn, 1) := by decide +kernel
theorem d280_0 : decode (mcode 280) 0 = .ok (.aload_n 0, 1) := by decide +kernel
theorem d280_1 : decode (mcode 280) 1 = .ok (.iconst 0, 1) := by decide +kernel
theorem d280_2 : decode (mcode 280) 2 = .ok (.putfield 57, 3) := by decide +kernel
theorem d280_5 : decode (mcode 280) 5 = .ok (.aload_n 0, 1) := by decide +kernel
theorem d280_6 : decode (mcode 280) 6 = .ok (.iload_n 1, 1) := by decide +kernel
theorem d280_7 : decode (mcode 280) 7 = .ok (.invokevirtual 207, 3) := by decide +kernel
theorem d280_10 : decode (mcode 280) 10 = .ok (.ifCond .ne 5, 3) := by decide +kernel
theorem d280_13 : decode (mcode 280) 13 = .ok (.iconst (-1), 1) := by decide +kernel
theorem d280_14 : decode (mcode 280) 14 = .ok (.ireturn, 1) := by decide +kernel
theorem d280_15 : decode (mcode 280) 15 = .ok (.iconst 0, 1) := by decide +kernel
theorem d280_16 : decode (mcode 280) 16 = .ok (.istore_n 2, 1) := by decide +kernel
theorem d280_17 : decode (mcode 280) 17 = .ok (.iload_n 2, 1) := by decide +kernel
theorem d280_18 : decode (mcode 280) 18 = .ok (.sipush 2314, 3) := by decide +kernel
theorem d280_21 : decode (mcode 280) 21 = .ok (.if_icmp .ge 21, 3) := by decide +kernel
theorem d280_24 : decode (mcode 280) 24 = .ok (.aload_n 0, 1) := by decide +kernel
theorem d280_25 : decode (mcode 280) 25 = .ok (.getfield 13, 3) := by decide +kernel
theorem d280_28 : decode (mcode 280) 28 = .ok (.iload_n 2, 1) := by decide +kernel
theorem d280_29 : decode (mcode 280) 29 = .ok (.aload_n 0, 1) := by decide +kernel
theorem d280_30 : decode (mcode 280) 30 = .ok (.getfield 7, 3) := by decide +kernel
theorem d280_33 : decode (mcode 280) 33 = .ok (.iload_n 2, 1) := by decide +kernel
theorem d280_34 : decode (mcode 280) 34 = .ok (.iaload, 1) := by decide +kernel
theorem d280_35 : decode (mcode 280) 35 = .ok (.iastore, 1) := by decide +kernel
theorem d280_36 : decode (mcode 280) 36 = .ok (.iinc 2 1, 3) := by decide +kernel
theorem d280_39 : decode (mcode 280) 39 = .ok (.goto (-22), 3) := by decide +kernel
theorem d280_42 : decode (mcode 280) 42 = .ok (.aload_n 0, 1) := by decide +kernel
theorem d280_43 : decode (mcode 280) 43 = .ok (.getfield 7, 3) := by decide +kernel
theorem d280_46 : decode (mcode 280) 46 = .ok (.sipush 1306, 3) := by decide +kernel
theorem d280_49 : decode (mcode 280) 49 = .ok (.iload_n 1, 1) := by decide +kernel
theorem d280_50 : decode (mcode 280) 50 = .ok (.iadd, 1) := by decide +kernel
theorem d280_51 : decode (mcode 280) 51 = .ok (.iconst 1, 1) := by decide +kernel
theorem d280_52 : decode (mcode 280) 52 = .ok (.iastore, 1) := by decide +kernel
theorem d280_53 : decode (mcode 280) 53 = .ok (.aload_n 0, 1) := by decide +kernel
theorem d280_54 : decode (mcode 280) 54 = .ok (.invokevirtual 342, 3) := by decide +kernel
theorem d280_57 : decode (mcode 280) 57 = .ok (.aload_n 0, 1) := by decide +kernel
theorem d280_58 : decode (mcode 280) 58 = .ok (.getfield 7, 3) := by decide +kernel
theorem d280_61 : decode (mcode 280) 61 = .ok (.iconst 3, 1) := by decide +kernel
theorem d280_62 : decode (mcode 280) 62 = .ok (.iaload, 1) := by decide +kernel
theorem d280_63 : decode (mcode 280) 63 = .ok (.istore_n 2, 1) := by decide +kernel
theorem d280_64 : decode (mcode 280) 64 = .ok (.iconst 0, 1) := by decide +kernel
theorem d280_65 : decode (mcode 280) 65 = .ok (.istore_n 3, 1) := by decide +kernel
theorem d280_66 : decode (mcode 280) 66 = .ok (.iload_n 3, 1) := by decide +kernel
theorem d280_67 : decode (mcode 280) 67 = .ok (.sipush 2314, 3) := by decide +kernel
theorem d280_70 : decode (mcode 280) 70 = .ok (.if_icmp .ge 21, 3) := by decide +kernel
theorem d280_73 : decode (mcode 280) 73 = .ok (.aload_n 0, 1) := by decide +kernel
theorem d280_74 : decode (mcode 280) 74 = .ok (.getfield 7, 3) := by decide +kernel
theorem d280_77 : decode (mcode 280) 77 = .ok (.iload_n 3, 1) := by decide +kernel
theorem d280_78 : decode (mcode 280) 78 = .ok (.aload_n 0, 1) := by decide +kernel
theorem d280_79 : decode (mcode 280) 79 = .ok (.getfield 13, 3) := by decide +kernel
theorem d280_82 : decode (mcode 280) 82 = .ok (.iload_n 3, 1) := by decide +kernel
theorem d280_83 : decode (mcode 280) 83 = .ok (.iaload, 1) := by decide +kernel
theorem d280_84 : decode (mcode 280) 84 = .ok (.iastore, 1) := by decide +kernel
theorem d280_85 : decode (mcode 280) 85 = .ok (.iinc 3 1, 3) := by decide +kernel
theorem d280_88 : decode (mcode 280) 88 = .ok (.goto (-22), 3) := by decide +kernel
theorem d280_91 : decode (mcode 280) 91 = .ok (.iload_n 2, 1) := by decide +kernel
theorem d280_92 : decode (mcode 280) 92 = .ok (.ireturn, 1) := by decide +kernel
theorem d281_0 : decode (mcode 281) 0 = .ok (.aload_n 0, 1) := by decide +kernel
theorem d281_1 : decode (mcode 281) 1 = .ok (.iconst 0, 1) := by decide +kernel
theorem d281_2 : decode (mcode 281) 2 = .ok (.putfield 57, 3) := by decide +kernel
theorem d281_5 : decode (mcode 281) 5 = .ok (.iload_n 1, 1) := by decide +kernel
theorem d281_6 : decode (mcode 281) 6 = .ok (.ifCond .lt 27, 3) := by decide +kernel
theorem d281_9 : decode (mcode 281) 9 = .ok (.iload_n 1, 1) := by decide +kernel
theorem d281_10 : decode (mcode 281) 10 = .ok (.bipush 60, 2) := by decide +kernel
theorem d281_12 : decode (mcode 281) 12 = .ok (.if_icmp .ge 21, 3) := by decide +kernel
theorem d281_15 : decode (mcode 281) 15 = .ok (.iload_n 1, 1) := by decide +kernel
theorem d281_16 : decode (mcode 281) 16 = .ok (.aload_n 0, 1) := by decide +kernel
theorem d281_17 : decode (mcode 281) 17 = .ok (.getfield 99, 3) := by decide +kernel
theorem d281_20 : decode (mcode 281) 20 = .ok (.if_icmp .ge 13, 3) := by decide +kernel
theorem d281_23 : decode (mcode 281) 23 = .ok (.aload_n 0, 1) := by decide +kernel
theorem d281_24 : decode (mcode 281) 24 = .ok (.iload_n 2, 1) := by decide +kernel
theorem d281_25 : decode (mcode 281) 25 = .ok (.iconst 0, 1) := by decide +kernel
theorem d281_26 : decode (mcode 281) 26 = .ok (.iconst 2, 1) := by decide +kernel
theorem d281_27 : decode (mcode 281) 27 = .ok (.invokevirtual 115, 3) := by decide +kernel
theorem d281_30 : decode (mcode 281) 30 = .ok (.ifCond .ne 7, 3) := by decide +kernel
theorem d281_33 : decode (mcode 281) 33 = .ok (.ldc_w 309, 3) := by decide +kernel
theorem d281_36 : decode (mcode 281) 36 = .ok (.ireturn, 1) := by decide +kernel
theorem d281_37 : decode (mcode 281) 37 = .ok (.aload_n 0, 1) := by decide +kernel
theorem d281_38 : decode (mcode 281) 38 = .ok (.getfield 16, 3) := by decide +kernel
theorem d281_41 : decode (mcode 281) 41 = .ok (.iconst 3, 1) := by decide +kernel
theorem d281_42 : decode (mcode 281) 42 = .ok (.aload_n 0, 1) := by decide +kernel
theorem d281_43 : decode (mcode 281) 43 = .ok (.getfield 99, 3) := by decide +kernel
theorem d281_46 : decode (mcode 281) 46 = .ok (.iconst 1, 1) := by decide +kernel
theorem d281_47 : decode (mcode 281) 47 = .ok (.isub, 1) := by decide +kernel
theorem d281_48 : decode (mcode 281) 48 = .ok (.iload_n 1, 1) := by decide +kernel
theorem d281_49 : decode (mcode 281) 49 = .ok (.isub, 1) := by decide +kernel
theorem d281_50 : decode (mcode 281) 50 = .ok (.bipush 60, 2) := by decide +kernel
theorem d281_52 : decode (mcode 281) 52 = .ok (.irem, 1) := by decide +kernel
theorem d281_53 : decode (mcode 281) 53 = .ok (.imul, 1) := by decide +kernel
theorem d281_54 : decode (mcode 281) 54 = .ok (.iload_n 2, 1) := by decide +kernel
theorem d281_55 : decode (mcode 281) 55 = .ok (.iadd, 1) := by decide +kernel
theorem d281_56 : decode (mcode 281) 56 = .ok (.iaload, 1) := by decide +kernel
theorem d281_57 : decode (mcode 281) 57 = .ok (.ireturn, 1) := by decide +kernel
theorem d282_0 : decode (mcode 282) 0 = .ok (.aload_n 0, 1) := by decide +kernel
theorem d282_1 : decode (mcode 282) 1 = .ok (.iconst 0, 1) := by decide +kernel
theorem d282_2 : decode (mcode 282) 2 = .ok (.putfield 57, 3) := by decide +kernel
theorem d282_5 : decode (mcode 282) 5 = .ok (.iload_n 1, 1) := by decide +kernel
theorem d282_6 : decode (mcode 282) 6 = .ok (.ifCond .ne 12, 3) := by decide +kernel
theorem d282_9 : decode (mcode 282) 9 = .ok (.aload_n 0, 1) := by decide +kernel
theorem d282_10 : decode (mcode 282) 10 = .ok (.getfield 352, 3) := by decide +kernel
theorem d282_13 : decode (mcode 282) 13 = .ok (.ifCond .ne 5, 3) := by decide +kernel
theorem d282_16 : decode (mcode 282) 16 = .ok (.iconst 0, 1) := by decide +kernel
theorem d282_17 : decode (mcode 282) 17 = .ok (.ireturn, 1) := by decide +kernel
theorem d282_18 : decode (mcode 282) 18 = .ok (.aload_n 0, 1) := by decide +kernel
theorem d282_19 : decode (mcode 282) 19 = .ok (.iconst 1, 1) := by decide +kernel
theorem d282_20 : decode (mcode 282) 20 = .ok (.putfield 352, 3) := by decide +kernel
theorem d282_23 : decode (mcode 282) 23 = .ok (.iconst 0, 1) := by decide +kernel
theorem d282_24 : decode (mcode 282) 24 = .ok (.istore_n 2, 1) := by decide +kernel
theorem d282_25 : decode (mcode 282) 25 = .ok (.iload_n 2, 1) := by decide +kernel
theorem d282_26 : decode (mcode 282) 26 = .ok (.sipush 2314, 3) := by decide +kernel
theorem d282_29 : decode (mcode 282) 29 = .ok (.if_icmp .ge 40, 3) := by decide +kernel
theorem d282_32 : decode (mcode 282) 32 = .ok (.iload_n 1, 1) := by decide +kernel
theorem d282_33 : decode (mcode 282) 33 = .ok (.ifCond .eq 18, 3) := by decide +kernel
theorem d282_36 : decode (mcode 282) 36 = .ok (.aload_n 0, 1) := by decide +kernel
theorem d282_37 : decode (mcode 282) 37 = .ok (.getfield 51, 3) := by decide +kernel
theorem d282_40 : decode (mcode 282) 40 = .ok (.iload_n 2, 1) := by decide +kernel
theorem d282_41 : decode (mcode 282) 41 = .ok (.aload_n 0, 1) := by decide +kernel
theorem d282_42 : decode (mcode 282) 42 = .ok (.getfield 7, 3) := by decide +kernel
theorem d282_45 : decode (mcode 282) 45 = .ok (.iload_n 2, 1) := by decide +kernel
theorem d282_46 : decode (mcode 282) 46 = .ok (.iaload, 1) := by decide +kernel
theorem d282_47 : decode (mcode 282) 47 = .ok (.iastore, 1) := by decide +kernel
theorem d282_48 : decode (mcode 282) 48 = .ok (.goto 15, 3) := by decide +kernel
theorem d282_51 : decode (mcode 282) 51 = .ok (.aload_n 0, 1) := by decide +kernel
theorem d282_52 : decode (mcode 282) 52 = .ok (.getfield 7, 3) := by decide +kernel
theorem d282_55 : decode (mcode 282) 55 = .ok (.iload_n 2, 1) := by decide +kernel
theorem d282_56 : decode (mcode 282) 56 = .ok (.aload_n 0, 1) := by decide +kernel
theorem d282_57 : decode (mcode 282) 57 = .ok (.getfield 51, 3) := by decide +kernel
theorem d282_60 : decode (mcode 282) 60 = .ok (.iload_n 2, 1) := by decide +kernel
theorem d282_61 : decode (mcode 282) 61 = .ok (.iaload, 1) := by decide +kernel
theorem d282_62 : decode (mcode 282) 62 = .ok (.iastore, 1) := by decide +kernel
theorem d282_63 : decode (mcode 282) 63 = .ok (.iinc 2 1, 3) := by decide +kernel
theorem d282_66 : decode (mcode 282) 66 = .ok (.goto (-41), 3) := by decide +kernel
theorem d282_69 : decode (mcode 282) 69 = .ok (.iconst 0, 1) := by decide +kernel
theorem d282_70 : decode (mcode 282) 70 = .ok (.istore_n 2, 1) := by decide +kernel
theorem d282_71 : decode (mcode 282) 71 = .ok (.iload_n 2, 1) := by decide +kernel
theorem d282_72 : decode (mcode 282) 72 = .ok (.sipush 180, 3) := by decide +kernel
theorem d282_75 : decode (mcode 282) 75 = .ok (.if_icmp .ge 40, 3) := by decide +kernel
theorem d282_78 : decode (mcode 282) 78 = .ok (.iload_n 1, 1) := by decide +kernel
theorem d282_79 : decode (mcode 282) 79 = .ok (.ifCond .eq 18, 3) := by decide +kernel
theorem d282_82 : decode (mcode 282) 82 = .ok (.aload_n 0, 1) := by decide +kernel
theorem d282_83 : decode (mcode 282) 83 = .ok (.getfield 54, 3) := by decide +kernel
theorem d282_86 : decode (mcode 282) 86 = .ok (.iload_n 2, 1) := by decide +kernel
theorem d282_87 : decode (mcode 282) 87 = .ok (.aload_n 0, 1) := by decide +kernel
theorem d282_88 : decode (mcode 282) 88 = .ok (.getfield 16, 3) := by decide +kernel
theorem d282_91 : decode (mcode 282) 91 = .ok (.iload_n 2, 1) := by decide +kernel
theorem d282_92 : decode (mcode 282) 92 = .ok (.iaload, 1) := by decide +kernel
theorem d282_93 : decode (mcode 282) 93 = .ok (.iastore, 1) := by decide +kernel
theorem d282_94 : decode (mcode 282) 94 = .ok (.goto 15, 3) := by decide +kernel
theorem d282_97 : decode (mcode 282) 97 = .ok (.aload_n 0, 1) := by decide +kernel
theorem d282_98 : decode (mcode 282) 98 = .ok (.getfield 16, 3) := by decide +kernel
theorem d282_101 : decode (mcode 282) 101 = .ok (.iload_n 2, 1) := by decide +kernel
theorem d282_102 : decode (mcode 282) 102 = .ok (.aload_n 0, 1) := by decide +kernel
theorem d282_103 : decode (mcode 282) 103 = .ok (.getfield 54, 3) := by decide +kernel
theorem d282_106 : decode (mcode 282) 106 = .ok (.iload_n 2, 1) := by decide +kernel
theorem d282_107 : decode (mcode 282) 107 = .ok (.iaload, 1) := by decide +kernel
theorem d282_108 : decode (mcode 282) 108 = .ok (.iastore, 1) := by decide +kernel
theorem d282_109 : decode (mcode 282) 109 = .ok (.iinc 2 1, 3) := by decide +kernel
theorem d282_112 : decode (mcode 282) 112 = .ok (.goto (-41), 3) := by decide +kernel
theorem d282_115 : decode (mcode 282) 115 = .ok (.iload_n 1, 1) := by decide +kernel
theorem d282_116 : decode (mcode 282) 116 = .ok (.ifCond .eq 21, 3) := by decide +kernel
theorem d282_119 : decode (mcode 282) 119 = .ok (.aload_n 0, 1) := by decide +kernel
theorem d282_120 : decode (mcode 282) 120 = .ok (.aload_n 0, 1) := by decide +kernel
theorem d282_121 : decode (mcode 282) 121 = .ok (.getfield 99, 3) := by decide +kernel
theorem d282_124 : decode (mcode 282) 124 = .ok (.putfield 356, 3) := by decide +kernel
theorem d282_127 : decode (mcode 282) 127 = .ok (.aload_n 0, 1) := by decide +kernel
theorem d282_128 : decode (mcode 282) 128 = .ok (.aload_n 0, 1) := by decide +kernel
theorem d282_129 : decode (mcode 282) 129 = .ok (.getfield 152, 3) := by decide +kernel
theorem d282_132 : decode (mcode 282) 132 = .ok (.putfield 359, 3) := by decide +kernel
theorem d282_135 : decode (mcode 282) 135 = .ok (.iconst 1, 1) := by decide +kernel
theorem d282_136 : decode (mcode 282) 136 = .ok (.ireturn, 1) := by decide +kernel
theorem d282_137 : decode (mcode 282) 137 = .ok (.aload_n 0, 1) := by decide +kernel
theorem d282_138 : decode (mcode 282) 138 = .ok (.aload_n 0, 1) := by decide +kernel
theorem d282_139 : decode (mcode 282) 139 = .ok (.getfield 356, 3) := by decide +kernel
theorem d282_142 : decode (mcode 282) 142 = .ok (.putfield 99, 3) := by decide +kernel
theorem d282_145 : decode (mcode 282) 145 = .ok (.aload_n 0, 1) := by decide +kernel
theorem d282_146 : decode (mcode 282) 146 = .ok (.aload_n 0, 1) := by decide +kernel
theorem d282_147 : decode (mcode 282) 147 = .ok (.getfield 359, 3) := by decide +kernel
theorem d282_150 : decode (mcode 282) 150 = .ok (.putfield 152, 3) := by decide +kernel
theorem d282_153 : decode (mcode 282) 153 = .ok (.aload_n 0, 1) := by decide +kernel
theorem d282_154 : decode (mcode 282) 154 = .ok (.iconst 0, 1) := by decide +kernel
theorem d282_155 : decode (mcode 282) 155 = .ok (.putfield 102, 3) := by decide +kernel
theorem d282_158 : decode (mcode 282) 158 = .ok (.iconst 1, 1) := by decide +kernel
theorem d282_159 : decode (mcode 282) 159 = .ok (.ireturn, 1) := by decide +kernel
theorem d283_0 : decode (mcode 283) 0 = .ok (.iconst 0, 1) := by decide +kernel
theorem d283_1 : decode (mcode 283) 1 = .ok (.istore_n 3, 1) := by decide +kernel
theorem d283_2 : decode (mcode 283) 2 = .ok (.iconst 0, 1) := by decide +kernel
theorem d283_3 : decode (mcode 283) 3 = .ok (.istore 4, 2) := by decide +kernel
theorem d283_5 : decode (mcode 283) 5 = .ok (.iload 4, 2) := by decide +kernel
theorem d283_7 : decode (mcode 283) 7 = .ok (.iload_n 2, 1) := by decide +kernel
theorem d283_8 : decode (mcode 283) 8 = .ok (.if_icmp .ge 21, 3) := by decide +kernel
theorem d283_11 : decode (mcode 283) 11 = .ok (.iload_n 3, 1) := by decide +kernel
theorem d283_12 : decode (mcode 283) 12 = .ok (.aload_n 0, 1) := by decide +kernel
theorem d283_13 : decode (mcode 283) 13 = .ok (.getfield 7, 3) := by decide +kernel
theorem d283_16 : decode (mcode 283) 16 = .ok (.iload_n 1, 1) := by decide +kernel
theorem d283_17 : decode (mcode 283) 17 = .ok (.iload 4, 2) := by decide +kernel
theorem d283_19 : decode (mcode 283) 19 = .ok (.iadd, 1) := by decide +kernel
theorem d283_20 : decode (mcode 283) 20 = .ok (.iaload, 1) := by decide +kernel
theorem d283_21 : decode (mcode 283) 21 = .ok (.iadd, 1) := by decide +kernel
theorem d283_22 : decode (mcode 283) 22 = .ok (.istore_n 3, 1) := by decide +kernel
theorem d283_23 : decode (mcode 283) 23 = .ok (.iinc 4 1, 3) := by decide +kernel
theorem d283_26 : decode (mcode 283) 26 = .ok (.goto (-21), 3) := by decide +kernel
theorem d283_29 : decode (mcode 283) 29 = .ok (.iload_n 3, 1) := by decide +kernel
theorem d283_30 : decode (mcode 283) 30 = .ok (.ireturn, 1) := by decide +kernel
theorem d284_0 : decode (mcode 284) 0 = .ok (.iconst 0, 1) := by decide +kernel
theorem d284_1 : decode (mcode 284) 1 = .ok (.istore_n 1, 1) := by decide +kernel
theorem d284_2 : decode (mcode 284) 2 = .ok (.iconst 0, 1) := by decide +kernel
theorem d284_3 : decode (mcode 284) 3 = .ok (.istore_n 2, 1) := by decide +kernel
theorem d284_4 : decode (mcode 284) 4 = .ok (.iload_n 2, 1) := by decide +kernel
theorem d284_5 : decode (mcode 284) 5 = .ok (.aload_n 0, 1) := by decide +kernel
theorem d284_6 : decode (mcode 284) 6 = .ok (.invokevirtual 67, 3) := by decide +kernel
theorem d284_9 : decode (mcode 284) 9 = .ok (.if_icmp .ge 17, 3) := by decide +kernel
theorem d284_12 : decode (mcode 284) 12 = .ok (.iload_n 1, 1) := by decide +kernel
theorem d284_13 : decode (mcode 284) 13 = .ok (.aload_n 0, 1) := by decide +kernel
theorem d284_14 : decode (mcode 284) 14 = .ok (.iload_n 2, 1) := by decide +kernel
theorem d284_15 : decode (mcode 284) 15 = .ok (.invokevirtual 139, 3) := by decide +kernel
theorem d284_18 : decode (mcode 284) 18 = .ok (.iadd, 1) := by decide +kernel
theorem d284_19 : decode (mcode 284) 19 = .ok (.istore_n 1, 1) := by decide +kernel
theorem d284_20 : decode (mcode 284) 20 = .ok (.iinc 2 1, 3) := by decide +kernel
theorem d284_23 : decode (mcode 284) 23 = .ok (.goto (-19), 3) := by decide +kernel
theorem d284_26 : decode (mcode 284) 26 = .ok (.iload_n 1, 1) := by decide +kernel
theorem d284_27 : decode (mcode 284) 27 = .ok (.ireturn, 1) := by decide +kernel
theorem d285_0 : decode (mcode 285) 0 = .ok (.iconst 0, 1) := by decide +kernel
theorem d285_1 : decode (mcode 285) 1 = .ok (.istore_n 1, 1) := by decide +kernel
theorem d285_2 : decode (mcode 285) 2 = .ok (.iconst 0, 1) := by decide +kernel
theorem d285_3 : decode (mcode 285) 3 = .ok (.istore_n 2, 1) := by decide +kernel
theorem d285_4 : decode (mcode 285) 4 = .ok (.iload_n 2, 1) := by decide +kernel
theorem d285_5 : decode (mcode 285) 5 = .ok (.iconst 2, 1) := by decide +kernel
theorem d285_6 : decode (mcode 285) 6 = .ok (.aload_n 0, 1) := by decide +kernel
theorem d285_7 : decode (mcode 285) 7 = .ok (.invokevirtual 67, 3) := by decide +kernel
theorem d285_10 : decode (mcode 285) 10 = .ok (.imul, 1) := by decide +kernel
theorem d285_11 : decode (mcode 285) 11 = .ok (.if_icmp .ge 29, 3) := by decide +kernel
theorem d285_14 : decode (mcode 285) 14 = .ok (.aload_n 0, 1) := by decide +kernel
theorem d285_15 : decode (mcode 285) 15 = .ok (.iload_n 2, 1) := by decide +kernel
theorem d285_16 : decode (mcode 285) 16 = .ok (.invokevirtual 207, 3) := by decide +kernel
theorem d285_19 : decode (mcode 285) 19 = .ok (.ifCond .eq 15, 3) := by decide +kernel
theorem d285_22 : decode (mcode 285) 22 = .ok (.aload_n 0, 1) := by decide +kernel
theorem d285_23 : decode (mcode 285) 23 = .ok (.iload_n 2, 1) := by decide +kernel
theorem d285_24 : decode (mcode 285) 24 = .ok (.invokevirtual 223, 3) := by decide +kernel
theorem d285_27 : decode (mcode 285) 27 = .ok (.ifCond .eq 7, 3) := by decide +kernel
theorem d285_30 : decode (mcode 285) 30 = .ok (.iload_n 1, 1) := by decide +kernel
theorem d285_31 : decode (mcode 285) 31 = .ok (.iconst 1, 1) := by decide +kernel
theorem d285_32 : decode (mcode 285) 32 = .ok (.iadd, 1) := by decide +kernel
theorem d285_33 : decode (mcode 285) 33 = .ok (.istore_n 1, 1) := by decide +kernel
theorem d285_34 : decode (mcode 285) 34 = .ok (.iinc 2 1, 3) := by decide +kernel
theorem d285_37 : decode (mcode 285) 37 = .ok (.goto (-33), 3) := by decide +kernel
theorem d285_40 : decode (mcode 285) 40 = .ok (.iload_n 1, 1) := by decide +kernel
theorem d285_41 : decode (mcode 285) 41 = .ok (.ireturn, 1) := by decide +kernel
theorem d286_0 : decode (mcode 286) 0 = .ok (.iconst 0, 1) := by decide +kernel
theorem d286_1 : decode (mcode 286) 1 = .ok (.istore_n 1, 1) := by decide +kernel
theorem d286_2 : decode (mcode 286) 2 = .ok (.iconst 0, 1) := by decide +kernel
theorem d286_3 : decode (mcode 286) 3 = .ok (.istore_n 2, 1) := by decide +kernel
theorem d286_4 : decode (mcode 286) 4 = .ok (.iload_n 2, 1) := by decide +kernel
theorem d286_5 : decode (mcode 286) 5 = .ok (.aload_n 0, 1) := by decide +kernel
theorem d286_6 : decode (mcode 286) 6 = .ok (.invokevirtual 67, 3) := by decide +kernel
theorem d286_9 : decode (mcode 286) 9 = .ok (.if_icmp .ge 21, 3) := by decide +kernel
theorem d286_12 : decode (mcode 286) 12 = .ok (.aload_n 0, 1) := by decide +kernel
theorem d286_13 : decode (mcode 286) 13 = .ok (.iload_n 2, 1) := by decide +kernel
theorem d286_14 : decode (mcode 286) 14 = .ok (.invokevirtual 210, 3) := by decide +kernel
theorem d286_17 : decode (mcode 286) 17 = .ok (.ifCond .eq 7, 3) := by decide +kernel
theorem d286_20 : decode (mcode 286) 20 = .ok (.iload_n 1, 1) := by decide +kernel
theorem d286_21 : decode (mcode 286) 21 = .ok (.iconst 1, 1) := by decide +kernel
theorem d286_22 : decode (mcode 286) 22 = .ok (.iadd, 1) := by decide +kernel
theorem d286_23 : decode (mcode 286) 23 = .ok (.istore_n 1, 1) := by decide +kernel
theorem d286_24 : decode (mcode 286) 24 = .ok (.iinc 2 1, 3) := by decide +kernel
theorem d286_27 : decode (mcode 286) 27 = .ok (.goto (-23), 3) := by decide +kernel
theorem d286_30 : decode (mcode 286) 30 = .ok (.iload_n 1, 1) := by decide +kernel
theorem d286_31 : decode (mcode 286) 31 = .ok (.ireturn, 1) := by decide +kernel
theorem d287_0 : decode (mcode 287) 0 = .ok (.aload_n 0, 1) := by decide +kernel
theorem d287_1 : decode (mcode 287) 1 = .ok (.iconst 0, 1) := by decide +kernel
theorem d287_2 : decode (mcode 287) 2 = .ok (.putfield 57, 3) := by decide +kernel
theorem d287_5 : decode (mcode 287) 5 = .ok (.aload_n 0, 1) := by decide +kernel
theorem d287_6 : decode (mcode 287) 6 = .ok (.invokevirtual 186, 3) := by decide +kernel
theorem d287_9 : decode (mcode 287) 9 = .ok (.iload_n 1, 1) := by decide +kernel
theorem d287_10 : decode (mcode 287) 10 = .ok (.ifCond .ne 8, 3) := by decide +kernel
theorem d287_13 : decode (mcode 287) 13 = .ok (.aload_n 0, 1) := by decide +kernel
theorem d287_14 : decode (mcode 287) 14 = .ok (.invokevirtual 60, 3) := by decide +kernel
theorem d287_17 : decode (mcode 287) 17 = .ok (.ireturn, 1) := by decide +kernel
theorem d287_18 : decode (mcode 287) 18 = .ok (.iload_n 1, 1) := by decide +kernel
theorem d287_19 : decode (mcode 287) 19 = .ok (.iconst 1, 1) := by decide +kernel
theorem d287_20 : decode (mcode 287) 20 = .ok (.if_icmp .ne 8, 3) := by decide +kernel
theorem d287_23 : decode (mcode 287) 23 = .ok (.aload_n 0, 1) := by decide +kernel
theorem d287_24 : decode (mcode 287) 24 = .ok (.invokevirtual 64, 3) := by decide +kernel
theorem d287_27 : decode (mcode 287) 27 = .ok (.ireturn, 1) := by decide +kernel
theorem d287_28 : decode (mcode 287) 28 = .ok (.iload_n 1, 1) := by decide +kernel
theorem d287_29 : decode (mcode 287) 29 = .ok (.iconst 2, 1) := by decide +kernel
theorem d287_30 : decode (mcode 287) 30 = .ok (.if_icmp .ne 15, 3) := by decide +kernel
theorem d287_33 : decode (mcode 287) 33 = .ok (.aload_n 0, 1) := by decide +kernel
theorem d287_34 : decode (mcode 287) 34 = .ok (.sipush 298, 3) := by decide +kernel
theorem d287_37 : decode (mcode 287) 37 = .ok (.aload_n 0, 1) := by decide +kernel
theorem d287_38 : decode (mcode 287) 38 = .ok (.invokevirtual 67, 3) := by decide +kernel
theorem d287_41 : decode (mcode 287) 41 = .ok (.invokevirtual 362, 3) := by decide +kernel
theorem d287_44 : decode (mcode 287) 44 = .ok (.ireturn, 1) := by decide +kernel
theorem d287_45 : decode (mcode 287) 45 = .ok (.iload_n 1, 1) := by decide +kernel
theorem d287_46 : decode (mcode 287) 46 = .ok (.iconst 3, 1) := by decide +kernel
theorem d287_47 : decode (mcode 287) 47 = .ok (.if_icmp .ne 8, 3) := by decide +kernel
theorem d287_50 : decode (mcode 287) 50 = .ok (.aload_n 0, 1) := by decide +kernel
theorem d287_51 : decode (mcode 287) 51 = .ok (.getfield 168, 3) := by decide +kernel
theorem d287_54 : decode (mcode 287) 54 = .ok (.ireturn, 1) := by decide +kernel
theorem d287_55 : decode (mcode 287) 55 = .ok (.iload_n 1, 1) := by decide +kernel
theorem d287_56 : decode (mcode 287) 56 = .ok (.iconst 4, 1) := by decide +kernel
theorem d287_57 : decode (mcode 287) 57 = .ok (.if_icmp .ne 8, 3) := by decide +kernel
theorem d287_60 : decode (mcode 287) 60 = .ok (.aload_n 0, 1) := by decide +kernel
theorem d287_61 : decode (mcode 287) 61 = .ok (.invokevirtual 365, 3) := by decide +kernel
theorem d287_64 : decode (mcode 287) 64 = .ok (.ireturn, 1) := by decide +kernel
theorem d287_65 : decode (mcode 287) 65 = .ok (.iload_n 1, 1) := by decide +kernel
theorem d287_66 : decode (mcode 287) 66 = .ok (.iconst 5, 1) := by decide +kernel
theorem d287_67 : decode (mcode 287) 67 = .ok (.if_icmp .ne 8, 3) := by decide +kernel
theorem d287_70 : decode (mcode 287) 70 = .ok (.aload_n 0, 1) := by decide +kernel
theorem d287_71 : decode (mcode 287) 71 = .ok (.invokevirtual 368, 3) := by decide +kernel
theorem d287_74 : decode (mcode 287) 74 = .ok (.ireturn, 1) := by decide +kernel
theorem d287_75 : decode (mcode 287) 75 = .ok (.iload_n 1, 1) := by decide +kernel
theorem d287_76 : decode (mcode 287) 76 = .ok (.bipush 6, 2) := by decide +kernel
theorem d287_78 : decode (mcode 287) 78 = .ok (.if_icmp .ne 8, 3) := by decide +kernel
theorem d287_81 : decode (mcode 287) 81 = .ok (.aload_n 0, 1) := by decide +kernel
theorem d287_82 : decode (mcode 287) 82 = .ok (.invokevirtual 371, 3) := by decide +kernel
theorem d287_85 : decode (mcode 287) 85 = .ok (.ireturn, 1) := by decide +kernel
theorem d287_86 : decode (mcode 287) 86 = .ok (.iload_n 1, 1) := by decide +kernel
theorem d287_87 : decode (mcode 287) 87 = .ok (.bipush 7, 2) := by decide +kernel
theorem d287_89 : decode (mcode 287) 89 = .ok (.if_icmp .ne 10, 3) := by decide +kernel
theorem d287_92 : decode (mcode 287) 92 = .ok (.aload_n 0, 1) := by decide +kernel
theorem d287_93 : decode (mcode 287) 93 = .ok (.getfield 7, 3) := by decide +kernel
theorem d287_96 : decode (mcode 287) 96 = .ok (.iconst 3, 1) := by decide +kernel
theorem d287_97 : decode (mcode 287) 97 = .ok (.iaload, 1) := by decide +kernel
theorem d287_98 : decode (mcode 287) 98 = .ok (.ireturn, 1) := by decide +kernel
theorem d287_99 : decode (mcode 287) 99 = .ok (.iload_n 1, 1) := by decide +kernel
theorem d287_100 : decode (mcode 287) 100 = .ok (.bipush 8, 2) := by decide +kernel
theorem d287_102 : decode (mcode 287) 102 = .ok (.if_icmp .ne 10, 3) := by decide +kernel
theorem d287_105 : decode (mcode 287) 105 = .ok (.aload_n 0, 1) := by decide +kernel
theorem d287_106 : decode (mcode 287) 106 = .ok (.getfield 7, 3) := by decide +kernel
theorem d287_109 : decode (mcode 287) 109 = .ok (.iconst 4, 1) := by decide +kernel
theorem d287_110 : decode (mcode 287) 110 = .ok (.iaload, 1) := by decide +kernel
theorem d287_111 : decode (mcode 287) 111 = .ok (.ireturn, 1) := by decide +kernel
theorem d287_112 : decode (mcode 287) 112 = .ok (.iload_n 1, 1) := by decide +kernel
theorem d287_113 : decode (mcode 287) 113 = .ok (.bipush 9, 2) := by decide +kernel
theorem d287_115 : decode (mcode 287) 115 = .ok (.if_icmp .ne 8, 3) := by decide +kernel
theorem d287_118 : decode (mcode 287) 118 = .ok (.aload_n 0, 1) := by decide +kernel
theorem d287_119 : decode (mcode 287) 119 = .ok (.invokevirtual 239, 3) := by decide +kernel
theorem d287_122 : decode (mcode 287) 122 = .ok (.ireturn, 1) := by decide +kernel
theorem d287_123 : decode (mcode 287) 123 = .ok (.iload_n 1, 1) := by decide +kernel
theorem d287_124 : decode (mcode 287) 124 = .ok (.bipush 10, 2) := by decide +kernel
theorem d287_126 : decode (mcode 287) 126 = .ok (.if_icmp .ne 8, 3) := by decide +kernel
theorem d287_129 : decode (mcode 287) 129 = .ok (.aload_n 0, 1) := by decide +kernel
theorem d287_130 : decode (mcode 287) 130 = .ok (.invokevirtual 345, 3) := by decide +kernel
theorem d287_133 : decode (mcode 287) 133 = .ok (.ireturn, 1) := by decide +kernel
theorem d287_134 : decode (mcode 287) 134 = .ok (.iload_n 1, 1) := by decide +kernel
theorem d287_135 : decode (mcode 287) 135 = .ok (.bipush 11, 2) := by decide +kernel
theorem d287_137 : decode (mcode 287) 137 = .ok (.if_icmp .ne 8, 3) := by decide +kernel
theorem d287_140 : decode (mcode 287) 140 = .ok (.aload_n 0, 1) := by decide +kernel
theorem d287_141 : decode (mcode 287) 141 = .ok (.getfield 152, 3) := by decide +kernel
theorem d287_144 : decode (mcode 287) 144 = .ok (.ireturn, 1) := by decide +kernel
theorem d287_145 : decode (mcode 287) 145 = .ok (.iload_n 1, 1) := by decide +kernel
theorem d287_146 : decode (mcode 287) 146 = .ok (.bipush 12, 2) := by decide +kernel
theorem d287_148 : decode (mcode 287) 148 = .ok (.if_icmp .ne 8, 3) := by decide +kernel
theorem d287_151 : decode (mcode 287) 151 = .ok (.aload_n 0, 1) := by decide +kernel
theorem d287_152 : decode (mcode 287) 152 = .ok (.getfield 102, 3) := by decide +kernel
theorem d287_155 : decode (mcode 287) 155 = .ok (.ireturn, 1) := by decide +kernel
theorem d287_156 : decode (mcode 287) 156 = .ok (.iload_n 1, 1) := by decide +kernel
theorem d287_157 : decode (mcode 287) 157 = .ok (.bipush 13, 2) := by decide +kernel
theorem d287_159 : decode (mcode 287) 159 = .ok (.if_icmp .ne 8, 3) := by decide +kernel
theorem d287_162 : decode (mcode 287) 162 = .ok (.aload_n 0, 1) := by decide +kernel
theorem d287_163 : decode (mcode 287) 163 = .ok (.getfield 288, 3) := by decide +kernel
theorem d287_166 : decode (mcode 287) 166 = .ok (.ireturn, 1) := by decide +kernel
theorem d287_167 : decode (mcode 287) 167 = .ok (.iload_n 1, 1) := by decide +kernel
theorem d287_168 : decode (mcode 287) 168 = .ok (.bipush 14, 2) := by decide +kernel
theorem d287_170 : decode (mcode 287) 170 = .ok (.if_icmp .ne 10, 3) := by decide +kernel
theorem d287_173 : decode (mcode 287) 173 = .ok (.aload_n 0, 1) := by decide +kernel
theorem d287_174 : decode (mcode 287) 174 = .ok (.getfield 99, 3) := by decide +kernel
theorem d287_177 : decode (mcode 287) 177 = .ok (.goto 22, 3) := by decide +kernel
theorem d287_180 : decode (mcode 287) 180 = .ok (.iload_n 1, 1) := by decide +kernel
theorem d287_181 : decode (mcode 287) 181 = .ok (.bipush 15, 2) := by decide +kernel
theorem d287_183 : decode (mcode 287) 183 = .ok (.if_icmp .ne 13, 3) := by decide +kernel
theorem d287_186 : decode (mcode 287) 186 = .ok (.aload_n 0, 1) := by decide +kernel
theorem d287_187 : decode (mcode 287) 187 = .ok (.getfield 7, 3) := by decide +kernel
theorem d287_190 : decode (mcode 287) 190 = .ok (.bipush 6, 2) := by decide +kernel
theorem d287_192 : decode (mcode 287) 192 = .ok (.iaload, 1) := by decide +kernel
theorem d287_193 : decode (mcode 287) 193 = .ok (.goto 6, 3) := by decide +kernel
theorem d287_196 : decode (mcode 287) 196 = .ok (.ldc_w 309, 3) := by decide +kernel
theorem d287_199 : decode (mcode 287) 199 = .ok (.ireturn, 1) := by decide +kernel
theorem d288_0 : decode (mcode 288) 0 = .ok (.iload_n 0, 1) := by decide +kernel
theorem d288_1 : decode (mcode 288) 1 = .ok (.ifCond .ge 8, 3) := by decide +kernel
theorem d288_4 : decode (mcode 288) 4 = .ok (.iload_n 0, 1) := by decide +kernel
theorem d288_5 : decode (mcode 288) 5 = .ok (.ineg, 1) := by decide +kernel
theorem d288_6 : decode (mcode 288) 6 = .ok (.goto 4, 3) := by decide +kernel
theorem d288_9 : decode (mcode 288) 9 = .ok (.iload_n 0, 1) := by decide +kernel
theorem d288_10 : decode (mcode 288) 10 = .ok (.ireturn, 1) := by decide +kernel
theorem d289_0 : decode (mcode 289) 0 = .ok (.lload_n 0, 1) := by decide +kernel
theorem d289_1 : decode (mcode 289) 1 = .ok (.lconst 0, 1) := by decide +kernel
theorem d289_2 : decode (mcode 289) 2 = .ok (.lcmp, 1) := by decide +kernel
theorem d289_3 : decode (mcode 289) 3 = .ok (.ifCond .ge 8, 3) := by decide +kernel
theorem d289_6 : decode (mcode 289) 6 = .ok (.lload_n 0, 1) := by decide +kernel
theorem d289_7 : decode (mcode 289) 7 = .ok (.lneg, 1) := by decide +kernel
theorem d289_8 : decode (mcode 289) 8 = .ok (.goto 4, 3) := by decide +kernel
theorem d289_11 : decode (mcode 289) 11 = .ok (.lload_n 0, 1) := by decide +kernel
theorem d289_12 : decode (mcode 289) 12 = .ok (.lreturn, 1) := by decide +kernel
theorem d290_0 : decode (mcode 290) 0 = .ok (.iload_n 0, 1) := by decide +kernel
theorem d290_1 : decode (mcode 290) 1 = .ok (.iload_n 1, 1) := by decide +kernel
theorem d290_2 : decode (mcode 290) 2 = .ok (.if_icmp .lt 7, 3) := by decide +kernel
theorem d290_5 : decode (mcode 290) 5 = .ok (.iload_n 0, 1) := by decide +kernel
theorem d290_6 : decode (mcode 290) 6 = .ok (.goto 4, 3) := by decide +kernel
theorem d290_9 : decode (mcode 290) 9 = .ok (.iload_n 1, 1) := by decide +kernel
theorem d290_10 : decode (mcode 290) 10 = .ok (.ireturn, 1) := by decide +kernel
theorem d291_0 : decode (mcode 291) 0 = .ok (.iload_n 0, 1) := by decide +kernel
theorem d291_1 : decode (mcode 291) 1 = .ok (.iload_n 1, 1) := by decide +kernel
theorem d291_2 : decode (mcode 291) 2 = .ok (.if_icmp .gt 7, 3) := by decide +kernel
theorem d291_5 : decode (mcode 291) 5 = .ok (.iload_n 0, 1) := by decide +kernel
theorem d291_6 : decode (mcode 291) 6 = .ok (.goto 4, 3) := by decide +kernel
theorem d291_9 : decode (mcode 291) 9 = .ok (.iload_n 1, 1) := by decide +kernel
theorem d291_10 : decode (mcode 291) 10 = .ok (.ireturn, 1) := by decide +kernel
theorem d292_0 : decode (mcode 292) 0 = .ok (.iload_n 1, 1) := by decide +kernel
theorem d292_1 : decode (mcode 292) 1 = .ok (.iload_n 2, 1) := by decide +kernel
theorem d292_2 : decode (mcode 292) 2 = .ok (.if_icmp .le 44, 3) := by decide +kernel
theorem d292_5 : decode (mcode 292) 5 = .ok (.new 43, 3) := by decide +kernel
theorem d292_8 : decode (mcode 292) 8 = .ok (.dup, 1) := by decide +kernel
theorem d292_9 : decode (mcode 292) 9 = .ok (.new 45, 3) := by decide +kernel
theorem d292_12 : decode (mcode 292) 12 = .ok (.dup, 1) := by decide +kernel
theorem d292_13 : decode (mcode 292) 13 = .ok (.invokespecial 47, 3) := by decide +kernel
theorem d292_16 : decode (mcode 292) 16 = .ok (.ldc 48, 2) := by decide +kernel
theorem d292_18 : decode (mcode 292) 18 = .ok (.invokevirtual 50, 3) := by decide +kernel
theorem d292_21 : decode (mcode 292) 21 = .ok (.iload_n 1, 1) := by decide +kernel
theorem d292_22 : decode (mcode 292) 22 = .ok (.invokevirtual 54, 3) := by decide +kernel
theorem d292_25 : decode (mcode 292) 25 = .ok (.ldc 57, 2) := by decide +kernel
theorem d292_27 : decode (mcode 292) 27 = .ok (.invokevirtual 50, 3) := by decide +kernel
theorem d292_30 : decode (mcode 292) 30 = .ok (.iload_n 2, 1) := by decide +kernel
theorem d292_31 : decode (mcode 292) 31 = .ok (.invokevirtual 54, 3) := by decide +kernel
theorem d292_34 : decode (mcode 292) 34 = .ok (.ldc 59, 2) := by decide +kernel
theorem d292_36 : decode (mcode 292) 36 = .ok (.invokevirtual 50, 3) := by decide +kernel
theorem d292_39 : decode (mcode 292) 39 = .ok (.invokevirtual 61, 3) := by decide +kernel
theorem d292_42 : decode (mcode 292) 42 = .ok (.invokespecial 65, 3) := by decide +kernel
theorem d292_45 : decode (mcode 292) 45 = .ok (.athrow, 1) := by decide +kernel
theorem d292_46 : decode (mcode 292) 46 = .ok (.iload_n 1, 1) := by decide +kernel
theorem d292_47 : decode (mcode 292) 47 = .ok (.ifCond .ge 12, 3) := by decide +kernel
theorem d292_50 : decode (mcode 292) 50 = .ok (.new 68, 3) := by decide +kernel
theorem d292_53 : decode (mcode 292) 53 = .ok (.dup, 1) := by decide +kernel
theorem d292_54 : decode (mcode 292) 54 = .ok (.iload_n 1, 1) := by decide +kernel
theorem d292_55 : decode (mcode 292) 55 = .ok (.invokespecial 70, 3) := by decide +kernel
theorem d292_58 : decode (mcode 292) 58 = .ok (.athrow, 1) := by decide +kernel
theorem d292_59 : decode (mcode 292) 59 = .ok (.iload_n 2, 1) := by decide +kernel
theorem d292_60 : decode (mcode 292) 60 = .ok (.iload_n 0, 1) := by decide +kernel
theorem d292_61 : decode (mcode 292) 61 = .ok (.if_icmp .le 12, 3) := by decide +kernel
theorem d292_64 : decode (mcode 292) 64 = .ok (.new 68, 3) := by decide +kernel
theorem d292_67 : decode (mcode 292) 67 = .ok (.dup, 1) := by decide +kernel
theorem d292_68 : decode (mcode 292) 68 = .ok (.iload_n 2, 1) := by decide +kernel
theorem d292_69 : decode (mcode 292) 69 = .ok (.invokespecial 70, 3) := by decide +kernel
theorem d292_72 : decode (mcode 292) 72 = .ok (.athrow, 1) := by decide +kernel
theorem d292_73 : decode (mcode 292) 73 = .ok (.return_, 1) := by decide +kernel
theorem d293_0 : decode (mcode 293) 0 = .ok (.iconst 0, 1) := by decide +kernel
theorem d293_1 : decode (mcode 293) 1 = .ok (.istore_n 2, 1) := by decide +kernel
theorem d293_2 : decode (mcode 293) 2 = .ok (.aload_n 0, 1) := by decide +kernel
theorem d293_3 : decode (mcode 293) 3 = .ok (.arraylength, 1) := by decide +kernel
theorem d293_4 : decode (mcode 293) 4 = .ok (.istore_n 3, 1) := by decide +kernel
theorem d293_5 : decode (mcode 293) 5 = .ok (.iload_n 2, 1) := by decide +kernel
theorem d293_6 : decode (mcode 293) 6 = .ok (.iload_n 3, 1) := by decide +kernel
theorem d293_7 : decode (mcode 293) 7 = .ok (.if_icmp .ge 13, 3) := by decide +kernel
theorem d293_10 : decode (mcode 293) 10 = .ok (.aload_n 0, 1) := by decide +kernel
theorem d293_11 : decode (mcode 293) 11 = .ok (.iload_n 2, 1) := by decide +kernel
theorem d293_12 : decode (mcode 293) 12 = .ok (.iload_n 1, 1) := by decide +kernel
theorem d293_13 : decode (mcode 293) 13 = .ok (.iastore, 1) := by decide +kernel
theorem d293_14 : decode (mcode 293) 14 = .ok (.iinc 2 1, 3) := by decide +kernel
theorem d293_17 : decode (mcode 293) 17 = .ok (.goto (-12), 3) := by decide +kernel
theorem d293_20 : decode (mcode 293) 20 = .ok (.return_, 1) := by decide +kernel
theorem d294_0 : decode (mcode 294) 0 = .ok (.aload_n 0, 1) := by decide +kernel
theorem d294_1 : decode (mcode 294) 1 = .ok (.arraylength, 1) := by decide +kernel
theorem d294_2 : decode (mcode 294) 2 = .ok (.iload_n 1, 1) := by decide +kernel
theorem d294_3 : decode (mcode 294) 3 = .ok (.iload_n 2, 1) := by decide +kernel
theorem d294_4 : decode (mcode 294) 4 = .ok (.invokestatic 13, 3) := by decide +kernel
theorem d294_7 : decode (mcode 294) 7 = .ok (.iload_n 1, 1) := by decide +kernel
theorem d294_8 : decode (mcode 294) 8 = .ok (.istore 4, 2) := by decide +kernel
theorem d294_10 : decode (mcode 294) 10 = .ok (.iload 4, 2) := by decide +kernel
theorem d294_12 : decode (mcode 294) 12 = .ok (.iload_n 2, 1) := by decide +kernel
theorem d294_13 : decode (mcode 294) 13 = .ok (.if_icmp .ge 14, 3) := by decide +kernel
theorem d294_16 : decode (mcode 294) 16 = .ok (.aload_n 0, 1) := by decide +kernel
theorem d294_17 : decode (mcode 294) 17 = .ok (.iload 4, 2) := by decide +kernel
theorem d294_19 : decode (mcode 294) 19 = .ok (.iload_n 3, 1) := by decide +kernel
theorem d294_20 : decode (mcode 294) 20 = .ok (.iastore, 1) := by decide +kernel
theorem d294_21 : decode (mcode 294) 21 = .ok (.iinc 4 1, 3) := by decide +kernel
theorem d294_24 : decode (mcode 294) 24 = .ok (.goto (-14), 3) := by decide +kernel
theorem d294_27 : decode (mcode 294) 27 = .ok (.return_, 1) := by decide +kernel
theorem d295_0 : decode (mcode 295) 0 = .ok (.new 7, 3) := by decide +kernel
theorem d295_3 : decode (mcode 295) 3 = .ok (.dup, 1) := by decide +kernel
theorem d295_4 : decode (mcode 295) 4 = .ok (.invokespecial 9, 3) := by decide +kernel
theorem d295_7 : decode (mcode 295) 7 = .ok (.astore_n 1, 1) := by decide +kernel
theorem d295_8 : decode (mcode 295) 8 = .ok (.new 10, 3) := by decide +kernel
theorem d295_11 : decode (mcode 295) 11 = .ok (.dup, 1) := by decide +kernel
theorem d295_12 : decode (mcode 295) 12 = .ok (.invokespecial 12, 3) := by decide +kernel
theorem d295_15 : decode (mcode 295) 15 = .ok (.astore_n 2, 1) := by decide +kernel
theorem d295_16 : decode (mcode 295) 16 = .ok (.iconst 0, 1) := by decide +kernel
theorem d295_17 : decode (mcode 295) 17 = .ok (.istore_n 3, 1) := by decide +kernel
theorem d295_18 : decode (mcode 295) 18 = .ok (.iload_n 3, 1) := by decide +kernel
theorem d295_19 : decode (mcode 295) 19 = .ok (.aload_n 0, 1) := by decide +kernel
theorem d295_20 : decode (mcode 295) 20 = .ok (.arraylength, 1) := by decide +kernel
theorem d295_21 : decode (mcode 295) 21 = .ok (.bipush 6, 2) := by decide +kernel
theorem d295_23 : decode (mcode 295) 23 = .ok (.isub, 1) := by decide +kernel
theorem d295_24 : decode (mcode 295) 24 = .ok (.if_icmp .gt 1437, 3) := by decide +kernel
theorem d295_27 : decode (mcode 295) 27 = .ok (.aload_n 0, 1) := by decide +kernel
theorem d295_28 : decode (mcode 295) 28 = .ok (.iload_n 3, 1) := by decide +kernel
theorem d295_29 : decode (mcode 295) 29 = .ok (.iaload, 1) := by decide +kernel
theorem d295_30 : decode (mcode 295) 30 = .ok (.bipush 63, 2) := by decide +kernel
theorem d295_32 : decode (mcode 295) 32 = .ok (.iand, 1) := by decide +kernel
theorem d295_33 : decode (mcode 295) 33 = .ok (.tableswitch 1422 0 40 #[179, 212, 245, 294, 327, 350, 383, 406, 429, 452, 501, 514, 537, 570, 583, 646, 669, 682, 695, 728, 751, 784, 807, 830, 863, 896, 929, 972, 1025, 1049, 1113, 1136, 1169, 1202, 1225, 1258, 1291, 1314, 1327, 1360, 1399], 179) := by decide +kernel
theorem d295_212 : decode (mcode 295) 212 = .ok (.aload_n 1, 1) := by decide +kernel
theorem d295_213 : decode (mcode 295) 213 = .ok (.aload_n 0, 1) := by decide +kernel
theorem d295_214 : decode (mcode 295) 214 = .ok (.iload_n 3, 1) := by decide +kernel
theorem d295_215 : decode (mcode 295) 215 = .ok (.iconst 1, 1) := by decide +kernel
theorem d295_216 : decode (mcode 295) 216 = .ok (.iadd, 1) := by decide +kernel
theorem d295_217 : decode (mcode 295) 217 = .ok (.iaload, 1) := by decide +kernel
theorem d295_218 : decode (mcode 295) 218 = .ok (.aload_n 0, 1) := by decide +kernel
theorem d295_219 : decode (mcode 295) 219 = .ok (.iload_n 3, 1) := by decide +kernel
theorem d295_220 : decode (mcode 295) 220 = .ok (.iconst 2, 1) := by decide +kernel
theorem d295_221 : decode (mcode 295) 221 = .ok (.iadd, 1) := by decide +kernel
theorem d295_222 : decode (mcode 295) 222 = .ok (.iaload, 1) := by decide +kernel
theorem d295_223 : decode (mcode 295) 223 = .ok (.invokevirtual 13, 3) := by decide +kernel
theorem d295_226 : decode (mcode 295) 226 = .ok (.aload_n 2, 1) := by decide +kernel
theorem d295_227 : decode (mcode 295) 227 = .ok (.aload_n 0, 1) := by decide +kernel
theorem d295_228 : decode (mcode 295) 228 = .ok (.iload_n 3, 1) := by decide +kernel
theorem d295_229 : decode (mcode 295) 229 = .ok (.iconst 1, 1) := by decide +kernel
theorem d295_230 : decode (mcode 295) 230 = .ok (.iadd, 1) := by decide +kernel
theorem d295_231 : decode (mcode 295) 231 = .ok (.iaload, 1) := by decide +kernel
theorem d295_232 : decode (mcode 295) 232 = .ok (.aload_n 0, 1) := by decide +kernel
theorem d295_233 : decode (mcode 295) 233 = .ok (.iload_n 3, 1) := by decide +kernel
theorem d295_234 : decode (mcode 295) 234 = .ok (.iconst 2, 1) := by decide +kernel
theorem d295_235 : decode (mcode 295) 235 = .ok (.iadd, 1) := by decide +kernel
theorem d295_236 : decode (mcode 295) 236 = .ok (.iaload, 1) := by decide +kernel
theorem d295_237 : decode (mcode 295) 237 = .ok (.invokevirtual 17, 3) := by decide +kernel
theorem d295_240 : decode (mcode 295) 240 = .ok (.if_icmp .eq 1215, 3) := by decide +kernel
theorem d295_243 : decode (mcode 295) 243 = .ok (.iconst 0, 1) := by decide +kernel
theorem d295_244 : decode (mcode 295) 244 = .ok (.ireturn, 1) := by decide +kernel
theorem d295_245 : decode (mcode 295) 245 = .ok (.aload_n 1, 1) := by decide +kernel
theorem d295_246 : decode (mcode 295) 246 = .ok (.aload_n 0, 1) := by decide +kernel
theorem d295_247 : decode (mcode 295) 247 = .ok (.iload_n 3, 1) := by decide +kernel
theorem d295_248 : decode (mcode 295) 248 = .ok (.iconst 1, 1) := by decide +kernel
theorem d295_249 : decode (mcode 295) 249 = .ok (.iadd, 1) := by decide +kernel
theorem d295_250 : decode (mcode 295) 250 = .ok (.iaload, 1) := by decide +kernel
theorem d295_251 : decode (mcode 295) 251 = .ok (.aload_n 0, 1) := by decide +kernel
theorem d295_252 : decode (mcode 295) 252 = .ok (.iload_n 3, 1) := by decide +kernel
theorem d295_253 : decode (mcode 295) 253 = .ok (.iconst 2, 1) := by decide +kernel
theorem d295_254 : decode (mcode 295) 254 = .ok (.iadd, 1) := by decide +kernel
theorem d295_255 : decode (mcode 295) 255 = .ok (.iaload, 1) := by decide +kernel
theorem d295_256 : decode (mcode 295) 256 = .ok (.invokevirtual 18, 3) := by decide +kernel
theorem d295_259 : decode (mcode 295) 259 = .ok (.aload_n 2, 1) := by decide +kernel
theorem d295_260 : decode (mcode 295) 260 = .ok (.aload_n 0, 1) := by decide +kernel
theorem d295_261 : decode (mcode 295) 261 = .ok (.iload_n 3, 1) := by decide +kernel
theorem d295_262 : decode (mcode 295) 262 = .ok (.iconst 1, 1) := by decide +kernel
theorem d295_263 : decode (mcode 295) 263 = .ok (.iadd, 1) := by decide +kernel
theorem d295_264 : decode (mcode 295) 264 = .ok (.iaload, 1) := by decide +kernel
theorem d295_265 : decode (mcode 295) 265 = .ok (.aload_n 0, 1) := by decide +kernel
theorem d295_266 : decode (mcode 295) 266 = .ok (.iload_n 3, 1) := by decide +kernel
theorem d295_267 : decode (mcode 295) 267 = .ok (.iconst 2, 1) := by decide +kernel
theorem d295_268 : decode (mcode 295) 268 = .ok (.iadd, 1) := by decide +kernel
theorem d295_269 : decode (mcode 295) 269 = .ok (.iaload, 1) := by decide +kernel
theorem d295_270 : decode (mcode 295) 270 = .ok (.invokevirtual 22, 3) := by decide +kernel
theorem d295_273 : decode (mcode 295) 273 = .ok (.if_icmp .eq 1182, 3) := by decide +kernel
theorem d295_276 : decode (mcode 295) 276 = .ok (.iconst 0, 1) := by decide +kernel
theorem d295_277 : decode (mcode 295) 277 = .ok (.ireturn, 1) := by decide +kernel
theorem d295_278 : decode (mcode 295) 278 = .ok (.aload_n 1, 1) := by decide +kernel
theorem d295_279 : decode (mcode 295) 279 = .ok (.aload_n 0, 1) := by decide +kernel
theorem d295_280 : decode (mcode 295) 280 = .ok (.iload_n 3, 1) := by decide +kernel
theorem d295_281 : decode (mcode 295) 281 = .ok (.iconst 1, 1) := by decide +kernel
theorem d295_282 : decode (mcode 295) 282 = .ok (.iadd, 1) := by decide +kernel
theorem d295_283 : decode (mcode 295) 283 = .ok (.iaload, 1) := by decide +kernel
theorem d295_284 : decode (mcode 295) 284 = .ok (.aload_n 0, 1) := by decide +kernel
theorem d295_285 : decode (mcode 295) 285 = .ok (.iload_n 3, 1) := by decide +kernel
theorem d295_286 : decode (mcode 295) 286 = .ok (.iconst 2, 1) := by decide +kernel
theorem d295_287 : decode (mcode 295) 287 = .ok (.iadd, 1) := by decide +kernel
theorem d295_288 : decode (mcode 295) 288 = .ok (.iaload, 1) := by decide +kernel
theorem d295_289 : decode (mcode 295) 289 = .ok (.ifCond .eq 7, 3) := by decide +kernel
theorem d295_292 : decode (mcode 295) 292 = .ok (.iconst 1, 1) := by decide +kernel
theorem d295_293 : decode (mcode 295) 293 = .ok (.goto 4, 3) := by decide +kernel
theorem d295_296 : decode (mcode 295) 296 = .ok (.iconst 0, 1) := by decide +kernel
theorem d295_297 : decode (mcode 295) 297 = .ok (.invokevirtual 23, 3) := by decide +kernel
theorem d295_300 : decode (mcode 295) 300 = .ok (.aload_n 2, 1) := by decide +kernel
theorem d295_301 : decode (mcode 295) 301 = .ok (.aload_n 0, 1) := by decide +kernel
theorem d295_302 : decode (mcode 295) 302 = .ok (.iload_n 3, 1) := by decide +kernel
theorem d295_303 : decode (mcode 295) 303 = .ok (.iconst 1, 1) := by decide +kernel
theorem d295_304 : decode (mcode 295) 304 = .ok (.iadd, 1) := by decide +kernel
theorem d295_305 : decode (mcode 295) 305 = .ok (.iaload, 1) := by decide +kernel
theorem d295_306 : decode (mcode 295) 306 = .ok (.aload_n 0, 1) := by decide +kernel
theorem d295_307 : decode (mcode 295) 307 = .ok (.iload_n 3, 1) := by decide +kernel
theorem d295_308 : decode (mcode 295) 308 = .ok (.iconst 2, 1) := by decide +kernel
theorem d295_309 : decode (mcode 295) 309 = .ok (.iadd, 1) := by decide +kernel
theorem d295_310 : decode (mcode 295) 310 = .ok (.iaload, 1) := by decide +kernel
theorem d295_311 : decode (mcode 295) 311 = .ok (.ifCond .eq 7, 3) := by decide +kernel
theorem d295_314 : decode (mcode 295) 314 = .ok (.iconst 1, 1) := by decide +kernel
theorem d295_315 : decode (mcode 295) 315 = .ok (.goto 4, 3) := by decide +kernel
theorem d295_318 : decode (mcode 295) 318 = .ok (.iconst 0, 1) := by decide +kernel
theorem d295_319 : decode (mcode 295) 319 = .ok (.invokevirtual 27, 3) := by decide +kernel
theorem d295_322 : decode (mcode 295) 322 = .ok (.if_icmp .eq 1133, 3) := by decide +kernel
theorem d295_325 : decode (mcode 295) 325 = .ok (.iconst 0, 1) := by decide +kernel
theorem d295_326 : decode (mcode 295) 326 = .ok (.ireturn, 1) := by decide +kernel
theorem d295_327 : decode (mcode 295) 327 = .ok (.aload_n 1, 1) := by decide +kernel
theorem d295_328 : decode (mcode 295) 328 = .ok (.aload_n 0, 1) := by decide +kernel
theorem d295_329 : decode (mcode 295) 329 = .ok (.iload_n 3, 1) := by decide +kernel
theorem d295_330 : decode (mcode 295) 330 = .ok (.iconst 1, 1) := by decide +kernel
theorem d295_331 : decode (mcode 295) 331 = .ok (.iadd, 1) := by decide +kernel
theorem d295_332 : decode (mcode 295) 332 = .ok (.iaload, 1) := by decide +kernel
theorem d295_333 : decode (mcode 295) 333 = .ok (.aload_n 0, 1) := by decide +kernel
theorem d295_334 : decode (mcode 295) 334 = .ok (.iload_n 3, 1) := by decide +kernel
theorem d295_335 : decode (mcode 295) 335 = .ok (.iconst 2, 1) := by decide +kernel
theorem d295_336 : decode (mcode 295) 336 = .ok (.iadd, 1) := by decide +kernel
theorem d295_337 : decode (mcode 295) 337 = .ok (.iaload, 1) := by decide +kernel
theorem d295_338 : decode (mcode 295) 338 = .ok (.invokevirtual 28, 3) := by decide +kernel
theorem d295_341 : decode (mcode 295) 341 = .ok (.aload_n 2, 1) := by decide +kernel
theorem d295_342 : decode (mcode 295) 342 = .ok (.aload_n 0, 1) := by decide +kernel
theorem d295_343 : decode (mcode 295) 343 = .ok (.iload_n 3, 1) := by decide +kernel
theorem d295_344 : decode (mcode 295) 344 = .ok (.iconst 1, 1) := by decide +kernel
theorem d295_345 : decode (mcode 295) 345 = .ok (.iadd, 1) := by decide +kernel
theorem d295_346 : decode (mcode 295) 346 = .ok (.iaload, 1) := by decide +kernel
theorem d295_347 : decode (mcode 295) 347 = .ok (.aload_n 0, 1) := by decide +kernel
theorem d295_348 : decode (mcode 295) 348 = .ok (.iload_n 3, 1) := by decide +kernel
theorem d295_349 : decode (mcode 295) 349 = .ok (.iconst 2, 1) := by decide +kernel
theorem d295_350 : decode (mcode 295) 350 = .ok (.iadd, 1) := by decide +kernel
theorem d295_351 : decode (mcode 295) 351 = .ok (.iaload, 1) := by decide +kernel
theorem d295_352 : decode (mcode 295) 352 = .ok (.invokevirtual 31, 3) := by decide +kernel
theorem d295_355 : decode (mcode 295) 355 = .ok (.if_icmp .eq 1100, 3) := by decide +kernel
theorem d295_358 : decode (mcode 295) 358 = .ok (.iconst 0, 1) := by decide +kernel
theorem d295_359 : decode (mcode 295) 359 = .ok (.ireturn, 1) := by decide +kernel
theorem d295_360 : decode (mcode 295) 360 = .ok (.aload_n 1, 1) := by decide +kernel
theorem d295_361 : decode (mcode 295) 361 = .ok (.aload_n 0, 1) := by decide +kernel
theorem d295_362 : decode (mcode 295) 362 = .ok (.iload_n 3, 1) := by decide +kernel
theorem d295_363 : decode (mcode 295) 363 = .ok (.iconst 1, 1) := by decide +kernel
theorem d295_364 : decode (mcode 295) 364 = .ok (.iadd, 1) := by decide +kernel
theorem d295_365 : decode (mcode 295) 365 = .ok (.iaload, 1) := by decide +kernel
theorem d295_366 : decode (mcode 295) 366 = .ok (.invokevirtual 32, 3) := by decide +kernel
theorem d295_369 : decode (mcode 295) 369 = .ok (.aload_n 2, 1) := by decide +kernel
theorem d295_370 : decode (mcode 295) 370 = .ok (.aload_n 0, 1) := by decide +kernel
theorem d295_371 : decode (mcode 295) 371 = .ok (.iload_n 3, 1) := by decide +kernel
theorem d295_372 : decode (mcode 295) 372 = .ok (.iconst 1, 1) := by decide +kernel
theorem d295_373 : decode (mcode 295) 373 = .ok (.iadd, 1) := by decide +kernel
theorem d295_374 : decode (mcode 295) 374 = .ok (.iaload, 1) := by decide +kernel
theorem d295_375 : decode (mcode 295) 375 = .ok (.invokevirtual 36, 3) := by decide +kernel
theorem d295_378 : decode (mcode 295) 378 = .ok (.if_icmp .eq 1077, 3) := by decide +kernel
theorem d295_381 : decode (mcode 295) 381 = .ok (.iconst 0, 1) := by decide +kernel
theorem d295_382 : decode (mcode 295) 382 = .ok (.ireturn, 1) := by decide +kernel
theorem d295_383 : decode (mcode 295) 383 = .ok (.aload_n 1, 1) := by decide +kernel
theorem d295_384 : decode (mcode 295) 384 = .ok (.aload_n 0, 1) := by decide +kernel
theorem d295_385 : decode (mcode 295) 385 = .ok (.iload_n 3, 1) := by decide +kernel
theorem d295_386 : decode (mcode 295) 386 = .ok (.iconst 1, 1) := by decide +kernel
theorem d295_387 : decode (mcode 295) 387 = .ok (.iadd, 1) := by decide +kernel
theorem d295_388 : decode (mcode 295) 388 = .ok (.iaload, 1) := by decide +kernel
theorem d295_389 : decode (mcode 295) 389 = .ok (.aload_n 0, 1) := by decide +kernel
theorem d295_390 : decode (mcode 295) 390 = .ok (.iload_n 3, 1) := by decide +kernel
theorem d295_391 : decode (mcode 295) 391 = .ok (.iconst 2, 1) := by decide +kernel
theorem d295_392 : decode (mcode 295) 392 = .ok (.iadd, 1) := by decide +kernel
theorem d295_393 : decode (mcode 295) 393 = .ok (.iaload, 1) := by decide +kernel
theorem d295_394 : decode (mcode 295) 394 = .ok (.invokevirtual 37, 3) := by decide +kernel
theorem d295_397 : decode (mcode 295) 397 = .ok (.aload_n 2, 1) := by decide +kernel
theorem d295_398 : decode (mcode 295) 398 = .ok (.aload_n 0, 1) := by decide +kernel
theorem d295_399 : decode (mcode 295) 399 = .ok (.iload_n 3, 1) := by decide +kernel
theorem d295_400 : decode (mcode 295) 400 = .ok (.iconst 1, 1) := by decide +kernel
theorem d295_401 : decode (mcode 295) 401 = .ok (.iadd, 1) := by decide +kernel
theorem d295_402 : decode (mcode 295) 402 = .ok (.iaload, 1) := by decide +kernel
theorem d295_403 : decode (mcode 295) 403 = .ok (.aload_n 0, 1) := by decide +kernel
theorem d295_404 : decode (mcode 295) 404 = .ok (.iload_n 3, 1) := by decide +kernel
theorem d295_405 : decode (mcode 295) 405 = .ok (.iconst 2, 1) := by decide +kernel
theorem d295_406 : decode (mcode 295) 406 = .ok (.iadd, 1) := by decide +kernel
theorem d295_407 : decode (mcode 295) 407 = .ok (.iaload, 1) := by decide +kernel
theorem d295_408 : decode (mcode 295) 408 = .ok (.invokevirtual 40, 3) := by decide +kernel
theorem d295_411 : decode (mcode 295) 411 = .ok (.if_icmp .eq 1044, 3) := by decide +kernel
theorem d295_414 : decode (mcode 295) 414 = .ok (.iconst 0, 1) := by decide +kernel
theorem d295_415 : decode (mcode 295) 415 = .ok (.ireturn, 1) := by decide +kernel
theorem d295_416 : decode (mcode 295) 416 = .ok (.aload_n 1, 1) := by decide +kernel
theorem d295_417 : decode (mcode 295) 417 = .ok (.aload_n 0, 1) := by decide +kernel
theorem d295_418 : decode (mcode 295) 418 = .ok (.iload_n 3, 1) := by decide +kernel
theorem d295_419 : decode (mcode 295) 419 = .ok (.iconst 1, 1) := by decide +kernel
theorem d295_420 : decode (mcode 295) 420 = .ok (.iadd, 1) := by decide +kernel
theorem d295_421 : decode (mcode 295) 421 = .ok (.iaload, 1) := by decide +kernel
theorem d295_422 : decode (mcode 295) 422 = .ok (.invokevirtual 41, 3) := by decide +kernel
theorem d295_425 : decode (mcode 295) 425 = .ok (.aload_n 2, 1) := by decide +kernel
theorem d295_426 : decode (mcode 295) 426 = .ok (.aload_n 0, 1) := by decide +kernel
theorem d295_427 : decode (mcode 295) 427 = .ok (.iload_n 3, 1) := by decide +kernel
theorem d295_428 : decode (mcode 295) 428 = .ok (.iconst 1, 1) := by decide +kernel
theorem d295_429 : decode (mcode 295) 429 = .ok (.iadd, 1) := by decide +kernel
theorem d295_430 : decode (mcode 295) 430 = .ok (.iaload, 1) := by decide +kernel
theorem d295_431 : decode (mcode 295) 431 = .ok (.invokevirtual 45, 3) := by decide +kernel
theorem d295_434 : decode (mcode 295) 434 = .ok (.if_icmp .eq 1021, 3) := by decide +kernel
theorem d295_437 : decode (mcode 295) 437 = .ok (.iconst 0, 1) := by decide +kernel
theorem d295_438 : decode (mcode 295) 438 = .ok (.ireturn, 1) := by decide +kernel
theorem d295_439 : decode (mcode 295) 439 = .ok (.aload_n 1, 1) := by decide +kernel
theorem d295_440 : decode (mcode 295) 440 = .ok (.aload_n 0, 1) := by decide +kernel
theorem d295_441 : decode (mcode 295) 441 = .ok (.iload_n 3, 1) := by decide +kernel
theorem d295_442 : decode (mcode 295) 442 = .ok (.iconst 1, 1) := by decide +kernel
theorem d295_443 : decode (mcode 295) 443 = .ok (.iadd, 1) := by decide +kernel
theorem d295_444 : decode (mcode 295) 444 = .ok (.iaload, 1) := by decide +kernel
theorem d295_445 : decode (mcode 295) 445 = .ok (.invokevirtual 46, 3) := by decide +kernel
theorem d295_448 : decode (mcode 295) 448 = .ok (.aload_n 2, 1) := by decide +kernel
theorem d295_449 : decode (mcode 295) 449 = .ok (.aload_n 0, 1) := by decide +kernel
theorem d295_450 : decode (mcode 295) 450 = .ok (.iload_n 3, 1) := by decide +kernel
theorem d295_451 : decode (mcode 295) 451 = .ok (.iconst 1, 1) := by decide +kernel
theorem d295_452 : decode (mcode 295) 452 = .ok (.iadd, 1) := by decide +kernel
theorem d295_453 : decode (mcode 295) 453 = .ok (.iaload, 1) := by decide +kernel
theorem d295_454 : decode (mcode 295) 454 = .ok (.invokevirtual 49, 3) := by decide +kernel
theorem d295_457 : decode (mcode 295) 457 = .ok (.if_icmp .eq 998, 3) := by decide +kernel
theorem d295_460 : decode (mcode 295) 460 = .ok (.iconst 0, 1) := by decide +kernel
theorem d295_461 : decode (mcode 295) 461 = .ok (.ireturn, 1) := by decide +kernel
theorem d295_462 : decode (mcode 295) 462 = .ok (.aload_n 1, 1) := by decide +kernel
theorem d295_463 : decode (mcode 295) 463 = .ok (.aload_n 0, 1) := by decide +kernel
theorem d295_464 : decode (mcode 295) 464 = .ok (.iload_n 3, 1) := by decide +kernel
theorem d295_465 : decode (mcode 295) 465 = .ok (.iconst 1, 1) := by decide +kernel
theorem d295_466 : decode (mcode 295) 466 = .ok (.iadd, 1) := by decide +kernel
theorem d295_467 : decode (mcode 295) 467 = .ok (.iaload, 1) := by decide +kernel
theorem d295_468 : decode (mcode 295) 468 = .ok (.invokevirtual 50, 3) := by decide +kernel
theorem d295_471 : decode (mcode 295) 471 = .ok (.aload_n 2, 1) := by decide +kernel
theorem d295_472 : decode (mcode 295) 472 = .ok (.aload_n 0, 1) := by decide +kernel
theorem d295_473 : decode (mcode 295) 473 = .ok (.iload_n 3, 1) := by decide +kernel
theorem d295_474 : decode (mcode 295) 474 = .ok (.iconst 1, 1) := by decide +kernel
theorem d295_475 : decode (mcode 295) 475 = .ok (.iadd, 1) := by decide +kernel
theorem d295_476 : decode (mcode 295) 476 = .ok (.iaload, 1) := by decide +kernel
theorem d295_477 : decode (mcode 295) 477 = .ok (.invokevirtual 53, 3) := by decide +kernel
theorem d295_480 : decode (mcode 295) 480 = .ok (.if_icmp .eq 975, 3) := by decide +kernel
theorem d295_483 : decode (mcode 295) 483 = .ok (.iconst 0, 1) := by decide +kernel
theorem d295_484 : decode (mcode 295) 484 = .ok (.ireturn, 1) := by decide +kernel
theorem d295_485 : decode (mcode 295) 485 = .ok (.aload_n 1, 1) := by decide +kernel
theorem d295_486 : decode (mcode 295) 486 = .ok (.aload_n 0, 1) := by decide +kernel
theorem d295_487 : decode (mcode 295) 487 = .ok (.iload_n 3, 1) := by decide +kernel
theorem d295_488 : decode (mcode 295) 488 = .ok (.iconst 1, 1) := by decide +kernel
theorem d295_489 : decode (mcode 295) 489 = .ok (.iadd, 1) := by decide +kernel
theorem d295_490 : decode (mcode 295) 490 = .ok (.iaload, 1) := by decide +kernel
theorem d295_491 : decode (mcode 295) 491 = .ok (.aload_n 0, 1) := by decide +kernel
theorem d295_492 : decode (mcode 295) 492 = .ok (.iload_n 3, 1) := by decide +kernel
theorem d295_493 : decode (mcode 295) 493 = .ok (.iconst 2, 1) := by decide +kernel
theorem d295_494 : decode (mcode 295) 494 = .ok (.iadd, 1) := by decide +kernel
theorem d295_495 : decode (mcode 295) 495 = .ok (.iaload, 1) := by decide +kernel
theorem d295_496 : decode (mcode 295) 496 = .ok (.ifCond .eq 7, 3) := by decide +kernel
theorem d295_499 : decode (mcode 295) 499 = .ok (.iconst 1, 1) := by decide +kernel
theorem d295_500 : decode (mcode 295) 500 = .ok (.goto 4, 3) := by decide +kernel
theorem d295_503 : decode (mcode 295) 503 = .ok (.iconst 0, 1) := by decide +kernel
theorem d295_504 : decode (mcode 295) 504 = .ok (.invokevirtual 54, 3) := by decide +kernel
theorem d295_507 : decode (mcode 295) 507 = .ok (.aload_n 2, 1) := by decide +kernel
theorem d295_508 : decode (mcode 295) 508 = .ok (.aload_n 0, 1) := by decide +kernel
theorem d295_509 : decode (mcode 295) 509 = .ok (.iload_n 3, 1) := by decide +kernel
theorem d295_510 : decode (mcode 295) 510 = .ok (.iconst 1, 1) := by decide +kernel
theorem d295_511 : decode (mcode 295) 511 = .ok (.iadd, 1) := by decide +kernel
theorem d295_512 : decode (mcode 295) 512 = .ok (.iaload, 1) := by decide +kernel
theorem d295_513 : decode (mcode 295) 513 = .ok (.aload_n 0, 1) := by decide +kernel
theorem d295_514 : decode (mcode 295) 514 = .ok (.iload_n 3, 1) := by decide +kernel
theorem d295_515 : decode (mcode 295) 515 = .ok (.iconst 2, 1) := by decide +kernel
theorem d295_516 : decode (mcode 295) 516 = .ok (.iadd, 1) := by decide +kernel
theorem d295_517 : decode (mcode 295) 517 = .ok (.iaload, 1) := by decide +kernel
theorem d295_518 : decode (mcode 295) 518 = .ok (.ifCond .eq 7, 3) := by decide +kernel
theorem d295_521 : decode (mcode 295) 521 = .ok (.iconst 1, 1) := by decide +kernel
theorem d295_522 : decode (mcode 295) 522 = .ok (.goto 4, 3) := by decide +kernel
theorem d295_525 : decode (mcode 295) 525 = .ok (.iconst 0, 1) := by decide +kernel
theorem d295_526 : decode (mcode 295) 526 = .ok (.invokevirtual 57, 3) := by decide +kernel
theorem d295_529 : decode (mcode 295) 529 = .ok (.if_icmp .eq 926, 3) := by decide +kernel
theorem d295_532 : decode (mcode 295) 532 = .ok (.iconst 0, 1) := by decide +kernel
theorem d295_533 : decode (mcode 295) 533 = .ok (.ireturn, 1) := by decide +kernel
theorem d295_534 : decode (mcode 295) 534 = .ok (.aload_n 1, 1) := by decide +kernel
theorem d295_535 : decode (mcode 295) 535 = .ok (.invokevirtual 58, 3) := by decide +kernel
theorem d295_538 : decode (mcode 295) 538 = .ok (.aload_n 2, 1) := by decide +kernel
theorem d295_539 : decode (mcode 295) 539 = .ok (.invokevirtual 62, 3) := by decide +kernel
theorem d295_542 : decode (mcode 295) 542 = .ok (.if_icmp .eq 913, 3) := by decide +kernel
theorem d295_545 : decode (mcode 295) 545 = .ok (.iconst 0, 1) := by decide +kernel
theorem d295_546 : decode (mcode 295) 546 = .ok (.ireturn, 1) := by decide +kernel
theorem d295_547 : decode (mcode 295) 547 = .ok (.aload_n 1, 1) := by decide +kernel
theorem d295_548 : decode (mcode 295) 548 = .ok (.aload_n 0, 1) := by decide +kernel
theorem d295_549 : decode (mcode 295) 549 = .ok (.iload_n 3, 1) := by decide +kernel
theorem d295_550 : decode (mcode 295) 550 = .ok (.iconst 1, 1) := by decide +kernel
theorem d295_551 : decode (mcode 295) 551 = .ok (.iadd, 1) := by decide +kernel
theorem d295_552 : decode (mcode 295) 552 = .ok (.iaload, 1) := by decide +kernel
theorem d295_553 : decode (mcode 295) 553 = .ok (.invokevirtual 63, 3) := by decide +kernel
theorem d295_556 : decode (mcode 295) 556 = .ok (.aload_n 2, 1) := by decide +kernel
theorem d295_557 : decode (mcode 295) 557 = .ok (.aload_n 0, 1) := by decide +kernel
theorem d295_558 : decode (mcode 295) 558 = .ok (.iload_n 3, 1) := by decide +kernel
theorem d295_559 : decode (mcode 295) 559 = .ok (.iconst 1, 1) := by decide +kernel
theorem d295_560 : decode (mcode 295) 560 = .ok (.iadd, 1) := by decide +kernel
theorem d295_561 : decode (mcode 295) 561 = .ok (.iaload, 1) := by decide +kernel
theorem d295_562 : decode (mcode 295) 562 = .ok (.invokevirtual 66, 3) := by decide +kernel
theorem d295_565 : decode (mcode 295) 565 = .ok (.if_icmp .eq 890, 3) := by decide +kernel
theorem d295_568 : decode (mcode 295) 568 = .ok (.iconst 0, 1) := by decide +kernel
theorem d295_569 : decode (mcode 295) 569 = .ok (.ireturn, 1) := by decide +kernel
theorem d295_570 : decode (mcode 295) 570 = .ok (.aload_n 1, 1) := by decide +kernel
theorem d295_571 : decode (mcode 295) 571 = .ok (.aload_n 0, 1) := by decide +kernel
theorem d295_572 : decode (mcode 295) 572 = .ok (.iload_n 3, 1) := by decide +kernel
theorem d295_573 : decode (mcode 295) 573 = .ok (.iconst 1, 1) := by decide +kernel
theorem d295_574 : decode (mcode 295) 574 = .ok (.iadd, 1) := by decide +kernel
theorem d295_575 : decode (mcode 295) 575 = .ok (.iaload, 1) := by decide +kernel
theorem d295_576 : decode (mcode 295) 576 = .ok (.aload_n 0, 1) := by decide +kernel
theorem d295_577 : decode (mcode 295) 577 = .ok (.iload_n 3, 1) := by decide +kernel
theorem d295_578 : decode (mcode 295) 578 = .ok (.iconst 2, 1) := by decide +kernel
theorem d295_579 : decode (mcode 295) 579 = .ok (.iadd, 1) := by decide +kernel
theorem d295_580 : decode (mcode 295) 580 = .ok (.iaload, 1) := by decide +kernel
theorem d295_581 : decode (mcode 295) 581 = .ok (.invokevirtual 67, 3) := by decide +kernel
theorem d295_584 : decode (mcode 295) 584 = .ok (.aload_n 2, 1) := by decide +kernel
theorem d295_585 : decode (mcode 295) 585 = .ok (.aload_n 0, 1) := by decide +kernel
theorem d295_586 : decode (mcode 295) 586 = .ok (.iload_n 3, 1) := by decide +kernel
theorem d295_587 : decode (mcode 295) 587 = .ok (.iconst 1, 1) := by decide +kernel
theorem d295_588 : decode (mcode 295) 588 = .ok (.iadd, 1) := by decide +kernel
theorem d295_589 : decode (mcode 295) 589 = .ok (.iaload, 1) := by decide +kernel
theorem d295_590 : decode (mcode 295) 590 = .ok (.aload_n 0, 1) := by decide +kernel
theorem d295_591 : decode (mcode 295) 591 = .ok (.iload_n 3, 1) := by decide +kernel
theorem d295_592 : decode (mcode 295) 592 = .ok (.iconst 2, 1) := by decide +kernel
theorem d295_593 : decode (mcode 295) 593 = .ok (.iadd, 1) := by decide +kernel
theorem d295_594 : decode (mcode 295) 594 = .ok (.iaload, 1) := by decide +kernel
theorem d295_595 : decode (mcode 295) 595 = .ok (.invokevirtual 70, 3) := by decide +kernel
theorem d295_598 : decode (mcode 295) 598 = .ok (.if_icmp .eq 857, 3) := by decide +kernel
theorem d295_601 : decode (mcode 295) 601 = .ok (.iconst 0, 1) := by decide +kernel
theorem d295_602 : decode (mcode 295) 602 = .ok (.ireturn, 1) := by decide +kernel
theorem d295_603 : decode (mcode 295) 603 = .ok (.aload_n 1, 1) := by decide +kernel
theorem d295_604 : decode (mcode 295) 604 = .ok (.invokevirtual 71, 3) := by decide +kernel
theorem d295_607 : decode (mcode 295) 607 = .ok (.aload_n 2, 1) := by decide +kernel
theorem d295_608 : decode (mcode 295) 608 = .ok (.invokevirtual 74, 3) := by decide +kernel
theorem d295_611 : decode (mcode 295) 611 = .ok (.if_icmp .eq 844, 3) := by decide +kernel
theorem d295_614 : decode (mcode 295) 614 = .ok (.iconst 0, 1) := by decide +kernel
theorem d295_615 : decode (mcode 295) 615 = .ok (.ireturn, 1) := by decide +kernel
theorem d295_616 : decode (mcode 295) 616 = .ok (.aload_n 1, 1) := by decide +kernel
theorem d295_617 : decode (mcode 295) 617 = .ok (.aload_n 0, 1) := by decide +kernel
theorem d295_618 : decode (mcode 295) 618 = .ok (.iload_n 3, 1) := by decide +kernel
theorem d295_619 : decode (mcode 295) 619 = .ok (.iconst 1, 1) := by decide +kernel
theorem d295_620 : decode (mcode 295) 620 = .ok (.iadd, 1) := by decide +kernel
theorem d295_621 : decode (mcode 295) 621 = .ok (.iaload, 1) := by decide +kernel
theorem d295_622 : decode (mcode 295) 622 = .ok (.aload_n 0, 1) := by decide +kernel
theorem d295_623 : decode (mcode 295) 623 = .ok (.iload_n 3, 1) := by decide +kernel
theorem d295_624 : decode (mcode 295) 624 = .ok (.iconst 2, 1) := by decide +kernel
theorem d295_625 : decode (mcode 295) 625 = .ok (.iadd, 1) := by decide +kernel
theorem d295_626 : decode (mcode 295) 626 = .ok (.iaload, 1) := by decide +kernel
theorem d295_627 : decode (mcode 295) 627 = .ok (.aload_n 0, 1) := by decide +kernel
theorem d295_628 : decode (mcode 295) 628 = .ok (.iload_n 3, 1) := by decide +kernel
theorem d295_629 : decode (mcode 295) 629 = .ok (.iconst 3, 1) := by decide +kernel
theorem d295_630 : decode (mcode 295) 630 = .ok (.iadd, 1) := by decide +kernel
theorem d295_631 : decode (mcode 295) 631 = .ok (.iaload, 1) := by decide +kernel
theorem d295_632 : decode (mcode 295) 632 = .ok (.aload_n 0, 1) := by decide +kernel
theorem d295_633 : decode (mcode 295) 633 = .ok (.iload_n 3, 1) := by decide +kernel
theorem d295_634 : decode (mcode 295) 634 = .ok (.iconst 4, 1) := by decide +kernel
theorem d295_635 : decode (mcode 295) 635 = .ok (.iadd, 1) := by decide +kernel
theorem d295_636 : decode (mcode 295) 636 = .ok (.iaload, 1) := by decide +kernel
theorem d295_637 : decode (mcode 295) 637 = .ok (.aload_n 0, 1) := by decide +kernel
theorem d295_638 : decode (mcode 295) 638 = .ok (.iload_n 3, 1) := by decide +kernel
theorem d295_639 : decode (mcode 295) 639 = .ok (.iconst 5, 1) := by decide +kernel
theorem d295_640 : decode (mcode 295) 640 = .ok (.iadd, 1) := by decide +kernel
theorem d295_641 : decode (mcode 295) 641 = .ok (.iaload, 1) := by decide +kernel
theorem d295_642 : decode (mcode 295) 642 = .ok (.invokevirtual 75, 3) := by decide +kernel
theorem d295_645 : decode (mcode 295) 645 = .ok (.aload_n 2, 1) := by decide +kernel
theorem d295_646 : decode (mcode 295) 646 = .ok (.aload_n 0, 1) := by decide +kernel
theorem d295_647 : decode (mcode 295) 647 = .ok (.iload_n 3, 1) := by decide +kernel
theorem d295_648 : decode (mcode 295) 648 = .ok (.iconst 1, 1) := by decide +kernel
theorem d295_649 : decode (mcode 295) 649 = .ok (.iadd, 1) := by decide +kernel
theorem d295_650 : decode (mcode 295) 650 = .ok (.iaload, 1) := by decide +kernel
theorem d295_651 : decode (mcode 295) 651 = .ok (.aload_n 0, 1) := by decide +kernel
theorem d295_652 : decode (mcode 295) 652 = .ok (.iload_n 3, 1) := by decide +kernel
theorem d295_653 : decode (mcode 295) 653 = .ok (.iconst 2, 1) := by decide +kernel
theorem d295_654 : decode (mcode 295) 654 = .ok (.iadd, 1) := by decide +kernel
theorem d295_655 : decode (mcode 295) 655 = .ok (.iaload, 1) := by decide +kernel
theorem d295_656 : decode (mcode 295) 656 = .ok (.aload_n 0, 1) := by decide +kernel
theorem d295_657 : decode (mcode 295) 657 = .ok (.iload_n 3, 1) := by decide +kernel
theorem d295_658 : decode (mcode 295) 658 = .ok (.iconst 3, 1) := by decide +kernel
theorem d295_659 : decode (mcode 295) 659 = .ok (.iadd, 1) := by decide +kernel
theorem d295_660 : decode (mcode 295) 660 = .ok (.iaload, 1) := by decide +kernel
theorem d295_661 : decode (mcode 295) 661 = .ok (.aload_n 0, 1) := by decide +kernel
theorem d295_662 : decode (mcode 295) 662 = .ok (.iload_n 3, 1) := by decide +kernel
theorem d295_663 : decode (mcode 295) 663 = .ok (.iconst 4, 1) := by decide +kernel
theorem d295_664 : decode (mcode 295) 664 = .ok (.iadd, 1) := by decide +kernel
theorem d295_665 : decode (mcode 295) 665 = .ok (.iaload, 1) := by decide +kernel
theorem d295_666 : decode (mcode 295) 666 = .ok (.aload_n 0, 1) := by decide +kernel
theorem d295_667 : decode (mcode 295) 667 = .ok (.iload_n 3, 1) := by decide +kernel
theorem d295_668 : decode (mcode 295) 668 = .ok (.iconst 5, 1) := by decide +kernel
theorem d295_669 : decode (mcode 295) 669 = .ok (.iadd, 1) := by decide +kernel
theorem d295_670 : decode (mcode 295) 670 = .ok (.iaload, 1) := by decide +kernel
theorem d295_671 : decode (mcode 295) 671 = .ok (.invokevirtual 79, 3) := by decide +kernel
theorem d295_674 : decode (mcode 295) 674 = .ok (.if_icmp .eq 781, 3) := by decide +kernel
theorem d295_677 : decode (mcode 295) 677 = .ok (.iconst 0, 1) := by decide +kernel
theorem d295_678 : decode (mcode 295) 678 = .ok (.ireturn, 1) := by decide +kernel
theorem d295_679 : decode (mcode 295) 679 = .ok (.aload_n 1, 1) := by decide +kernel
theorem d295_680 : decode (mcode 295) 680 = .ok (.aload_n 0, 1) := by decide +kernel
theorem d295_681 : decode (mcode 295) 681 = .ok (.iload_n 3, 1) := by decide +kernel
theorem d295_682 : decode (mcode 295) 682 = .ok (.iconst 1, 1) := by decide +kernel
theorem d295_683 : decode (mcode 295) 683 = .ok (.iadd, 1) := by decide +kernel
theorem d295_684 : decode (mcode 295) 684 = .ok (.iaload, 1) := by decide +kernel
theorem d295_685 : decode (mcode 295) 685 = .ok (.invokevirtual 80, 3) := by decide +kernel
theorem d295_688 : decode (mcode 295) 688 = .ok (.aload_n 2, 1) := by decide +kernel
theorem d295_689 : decode (mcode 295) 689 = .ok (.aload_n 0, 1) := by decide +kernel
theorem d295_690 : decode (mcode 295) 690 = .ok (.iload_n 3, 1) := by decide +kernel
theorem d295_691 : decode (mcode 295) 691 = .ok (.iconst 1, 1) := by decide +kernel
theorem d295_692 : decode (mcode 295) 692 = .ok (.iadd, 1) := by decide +kernel
theorem d295_693 : decode (mcode 295) 693 = .ok (.iaload, 1) := by decide +kernel
theorem d295_694 : decode (mcode 295) 694 = .ok (.invokevirtual 83, 3) := by decide +kernel
theorem d295_697 : decode (mcode 295) 697 = .ok (.if_icmp .eq 758, 3) := by decide +kernel
theorem d295_700 : decode (mcode 295) 700 = .ok (.iconst 0, 1) := by decide +kernel
theorem d295_701 : decode (mcode 295) 701 = .ok (.ireturn, 1) := by decide +kernel
theorem d295_702 : decode (mcode 295) 702 = .ok (.aload_n 1, 1) := by decide +kernel
theorem d295_703 : decode (mcode 295) 703 = .ok (.invokevirtual 84, 3) := by decide +kernel
theorem d295_706 : decode (mcode 295) 706 = .ok (.aload_n 2, 1) := by decide +kernel
theorem d295_707 : decode (mcode 295) 707 = .ok (.invokevirtual 87, 3) := by decide +kernel
theorem d295_710 : decode (mcode 295) 710 = .ok (.if_icmp .eq 745, 3) := by decide +kernel
theorem d295_713 : decode (mcode 295) 713 = .ok (.iconst 0, 1) := by decide +kernel
theorem d295_714 : decode (mcode 295) 714 = .ok (.ireturn, 1) := by decide +kernel
theorem d295_715 : decode (mcode 295) 715 = .ok (.aload_n 1, 1) := by decide +kernel
theorem d295_716 : decode (mcode 295) 716 = .ok (.invokevirtual 88, 3) := by decide +kernel
theorem d295_719 : decode (mcode 295) 719 = .ok (.aload_n 2, 1) := by decide +kernel
theorem d295_720 : decode (mcode 295) 720 = .ok (.invokevirtual 91, 3) := by decide +kernel
theorem d295_723 : decode (mcode 295) 723 = .ok (.if_icmp .eq 732, 3) := by decide +kernel
theorem d295_726 : decode (mcode 295) 726 = .ok (.iconst 0, 1) := by decide +kernel
theorem d295_727 : decode (mcode 295) 727 = .ok (.ireturn, 1) := by decide +kernel
theorem d295_728 : decode (mcode 295) 728 = .ok (.aload_n 1, 1) := by decide +kernel
theorem d295_729 : decode (mcode 295) 729 = .ok (.aload_n 0, 1) := by decide +kernel
theorem d295_730 : decode (mcode 295) 730 = .ok (.iload_n 3, 1) := by decide +kernel
theorem d295_731 : decode (mcode 295) 731 = .ok (.iconst 1, 1) := by decide +kernel
theorem d295_732 : decode (mcode 295) 732 = .ok (.iadd, 1) := by decide +kernel
theorem d295_733 : decode (mcode 295) 733 = .ok (.iaload, 1) := by decide +kernel
theorem d295_734 : decode (mcode 295) 734 = .ok (.aload_n 0, 1) := by decide +kernel
theorem d295_735 : decode (mcode 295) 735 = .ok (.iload_n 3, 1) := by decide +kernel
theorem d295_736 : decode (mcode 295) 736 = .ok (.iconst 2, 1) := by decide +kernel
theorem d295_737 : decode (mcode 295) 737 = .ok (.iadd, 1) := by decide +kernel
theorem d295_738 : decode (mcode 295) 738 = .ok (.iaload, 1) := by decide +kernel
theorem d295_739 : decode (mcode 295) 739 = .ok (.invokevirtual 92, 3) := by decide +kernel
theorem d295_742 : decode (mcode 295) 742 = .ok (.aload_n 2, 1) := by decide +kernel
theorem d295_743 : decode (mcode 295) 743 = .ok (.aload_n 0, 1) := by decide +kernel
theorem d295_744 : decode (mcode 295) 744 = .ok (.iload_n 3, 1) := by decide +kernel
theorem d295_745 : decode (mcode 295) 745 = .ok (.iconst 1, 1) := by decide +kernel
theorem d295_746 : decode (mcode 295) 746 = .ok (.iadd, 1) := by decide +kernel
theorem d295_747 : decode (mcode 295) 747 = .ok (.iaload, 1) := by decide +kernel
theorem d295_748 : decode (mcode 295) 748 = .ok (.aload_n 0, 1) := by decide +kernel
theorem d295_749 : decode (mcode 295) 749 = .ok (.iload_n 3, 1) := by decide +kernel
theorem d295_750 : decode (mcode 295) 750 = .ok (.iconst 2, 1) := by decide +kernel
theorem d295_751 : decode (mcode 295) 751 = .ok (.iadd, 1) := by decide +kernel
theorem d295_752 : decode (mcode 295) 752 = .ok (.iaload, 1) := by decide +kernel
theorem d295_753 : decode (mcode 295) 753 = .ok (.invokevirtual 95, 3) := by decide +kernel
theorem d295_756 : decode (mcode 295) 756 = .ok (.if_icmp .eq 699, 3) := by decide +kernel
theorem d295_759 : decode (mcode 295) 759 = .ok (.iconst 0, 1) := by decide +kernel
theorem d295_760 : decode (mcode 295) 760 = .ok (.ireturn, 1) := by decide +kernel
theorem d295_761 : decode (mcode 295) 761 = .ok (.aload_n 1, 1) := by decide +kernel
theorem d295_762 : decode (mcode 295) 762 = .ok (.aload_n 0, 1) := by decide +kernel
theorem d295_763 : decode (mcode 295) 763 = .ok (.iload_n 3, 1) := by decide +kernel
theorem d295_764 : decode (mcode 295) 764 = .ok (.iconst 1, 1) := by decide +kernel
theorem d295_765 : decode (mcode 295) 765 = .ok (.iadd, 1) := by decide +kernel
theorem d295_766 : decode (mcode 295) 766 = .ok (.iaload, 1) := by decide +kernel
theorem d295_767 : decode (mcode 295) 767 = .ok (.invokevirtual 96, 3) := by decide +kernel
theorem d295_770 : decode (mcode 295) 770 = .ok (.aload_n 2, 1) := by decide +kernel
theorem d295_771 : decode (mcode 295) 771 = .ok (.aload_n 0, 1) := by decide +kernel
theorem d295_772 : decode (mcode 295) 772 = .ok (.iload_n 3, 1) := by decide +kernel
theorem d295_773 : decode (mcode 295) 773 = .ok (.iconst 1, 1) := by decide +kernel
theorem d295_774 : decode (mcode 295) 774 = .ok (.iadd, 1) := by decide +kernel
theorem d295_775 : decode (mcode 295) 775 = .ok (.iaload, 1) := by decide +kernel
theorem d295_776 : decode (mcode 295) 776 = .ok (.invokevirtual 99, 3) := by decide +kernel
theorem d295_779 : decode (mcode 295) 779 = .ok (.if_icmp .eq 676, 3) := by decide +kernel
theorem d295_782 : decode (mcode 295) 782 = .ok (.iconst 0, 1) := by decide +kernel
theorem d295_783 : decode (mcode 295) 783 = .ok (.ireturn, 1) := by decide +kernel
theorem d295_784 : decode (mcode 295) 784 = .ok (.aload_n 1, 1) := by decide +kernel
theorem d295_785 : decode (mcode 295) 785 = .ok (.aload_n 0, 1) := by decide +kernel
theorem d295_786 : decode (mcode 295) 786 = .ok (.iload_n 3, 1) := by decide +kernel
theorem d295_787 : decode (mcode 295) 787 = .ok (.iconst 1, 1) := by decide +kernel
theorem d295_788 : decode (mcode 295) 788 = .ok (.iadd, 1) := by decide +kernel
theorem d295_789 : decode (mcode 295) 789 = .ok (.iaload, 1) := by decide +kernel
theorem d295_790 : decode (mcode 295) 790 = .ok (.aload_n 0, 1) := by decide +kernel
theorem d295_791 : decode (mcode 295) 791 = .ok (.iload_n 3, 1) := by decide +kernel
theorem d295_792 : decode (mcode 295) 792 = .ok (.iconst 2, 1) := by decide +kernel
theorem d295_793 : decode (mcode 295) 793 = .ok (.iadd, 1) := by decide +kernel
theorem d295_794 : decode (mcode 295) 794 = .ok (.iaload, 1) := by decide +kernel
theorem d295_795 : decode (mcode 295) 795 = .ok (.invokevirtual 100, 3) := by decide +kernel
theorem d295_798 : decode (mcode 295) 798 = .ok (.aload_n 2, 1) := by decide +kernel
theorem d295_799 : decode (mcode 295) 799 = .ok (.aload_n 0, 1) := by decide +kernel
theorem d295_800 : decode (mcode 295) 800 = .ok (.iload_n 3, 1) := by decide +kernel
theorem d295_801 : decode (mcode 295) 801 = .ok (.iconst 1, 1) := by decide +kernel
theorem d295_802 : decode (mcode 295) 802 = .ok (.iadd, 1) := by decide +kernel
theorem d295_803 : decode (mcode 295) 803 = .ok (.iaload, 1) := by decide +kernel
theorem d295_804 : decode (mcode 295) 804 = .ok (.aload_n 0, 1) := by decide +kernel
theorem d295_805 : decode (mcode 295) 805 = .ok (.iload_n 3, 1) := by decide +kernel
theorem d295_806 : decode (mcode 295) 806 = .ok (.iconst 2, 1) := by decide +kernel
theorem d295_807 : decode (mcode 295) 807 = .ok (.iadd, 1) := by decide +kernel
theorem d295_808 : decode (mcode 295) 808 = .ok (.iaload, 1) := by decide +kernel
theorem d295_809 : decode (mcode 295) 809 = .ok (.invokevirtual 103, 3) := by decide +kernel
theorem d295_812 : decode (mcode 295) 812 = .ok (.if_icmp .eq 643, 3) := by decide +kernel
theorem d295_815 : decode (mcode 295) 815 = .ok (.iconst 0, 1) := by decide +kernel
theorem d295_816 : decode (mcode 295) 816 = .ok (.ireturn, 1) := by decide +kernel
theorem d295_817 : decode (mcode 295) 817 = .ok (.aload_n 1, 1) := by decide +kernel
theorem d295_818 : decode (mcode 295) 818 = .ok (.aload_n 0, 1) := by decide +kernel
theorem d295_819 : decode (mcode 295) 819 = .ok (.iload_n 3, 1) := by decide +kernel
theorem d295_820 : decode (mcode 295) 820 = .ok (.iconst 1, 1) := by decide +kernel
theorem d295_821 : decode (mcode 295) 821 = .ok (.iadd, 1) := by decide +kernel
theorem d295_822 : decode (mcode 295) 822 = .ok (.iaload, 1) := by decide +kernel
theorem d295_823 : decode (mcode 295) 823 = .ok (.invokevirtual 104, 3) := by decide +kernel
theorem d295_826 : decode (mcode 295) 826 = .ok (.aload_n 2, 1) := by decide +kernel
theorem d295_827 : decode (mcode 295) 827 = .ok (.aload_n 0, 1) := by decide +kernel
theorem d295_828 : decode (mcode 295) 828 = .ok (.iload_n 3, 1) := by decide +kernel
theorem d295_829 : decode (mcode 295) 829 = .ok (.iconst 1, 1) := by decide +kernel
theorem d295_830 : decode (mcode 295) 830 = .ok (.iadd, 1) := by decide +kernel
theorem d295_831 : decode (mcode 295) 831 = .ok (.iaload, 1) := by decide +kernel
theorem d295_832 : decode (mcode 295) 832 = .ok (.invokevirtual 107, 3) := by decide +kernel
theorem d295_835 : decode (mcode 295) 835 = .ok (.if_icmp .eq 620, 3) := by decide +kernel
theorem d295_838 : decode (mcode 295) 838 = .ok (.iconst 0, 1) := by decide +kernel
theorem d295_839 : decode (mcode 295) 839 = .ok (.ireturn, 1) := by decide +kernel
theorem d295_840 : decode (mcode 295) 840 = .ok (.aload_n 1, 1) := by decide +kernel
theorem d295_841 : decode (mcode 295) 841 = .ok (.aload_n 0, 1) := by decide +kernel
theorem d295_842 : decode (mcode 295) 842 = .ok (.iload_n 3, 1) := by decide +kernel
theorem d295_843 : decode (mcode 295) 843 = .ok (.iconst 1, 1) := by decide +kernel
theorem d295_844 : decode (mcode 295) 844 = .ok (.iadd, 1) := by decide +kernel
theorem d295_845 : decode (mcode 295) 845 = .ok (.iaload, 1) := by decide +kernel
theorem d295_846 : decode (mcode 295) 846 = .ok (.invokevirtual 108, 3) := by decide +kernel
theorem d295_849 : decode (mcode 295) 849 = .ok (.aload_n 2, 1) := by decide +kernel
theorem d295_850 : decode (mcode 295) 850 = .ok (.aload_n 0, 1) := by decide +kernel
theorem d295_851 : decode (mcode 295) 851 = .ok (.iload_n 3, 1) := by decide +kernel
theorem d295_852 : decode (mcode 295) 852 = .ok (.iconst 1, 1) := by decide +kernel
theorem d295_853 : decode (mcode 295) 853 = .ok (.iadd, 1) := by decide +kernel
theorem d295_854 : decode (mcode 295) 854 = .ok (.iaload, 1) := by decide +kernel
theorem d295_855 : decode (mcode 295) 855 = .ok (.invokevirtual 111, 3) := by decide +kernel
theorem d295_858 : decode (mcode 295) 858 = .ok (.if_icmp .eq 597, 3) := by decide +kernel
theorem d295_861 : decode (mcode 295) 861 = .ok (.iconst 0, 1) := by decide +kernel
theorem d295_862 : decode (mcode 295) 862 = .ok (.ireturn, 1) := by decide +kernel
theorem d295_863 : decode (mcode 295) 863 = .ok (.aload_n 1, 1) := by decide +kernel
theorem d295_864 : decode (mcode 295) 864 = .ok (.aload_n 0, 1) := by decide +kernel
theorem d295_865 : decode (mcode 295) 865 = .ok (.iload_n 3, 1) := by decide +kernel
theorem d295_866 : decode (mcode 295) 866 = .ok (.iconst 1, 1) := by decide +kernel
theorem d295_867 : decode (mcode 295) 867 = .ok (.iadd, 1) := by decide +kernel
theorem d295_868 : decode (mcode 295) 868 = .ok (.iaload, 1) := by decide +kernel
theorem d295_869 : decode (mcode 295) 869 = .ok (.aload_n 0, 1) := by decide +kernel
theorem d295_870 : decode (mcode 295) 870 = .ok (.iload_n 3, 1) := by decide +kernel
theorem d295_871 : decode (mcode 295) 871 = .ok (.iconst 2, 1) := by decide +kernel
theorem d295_872 : decode (mcode 295) 872 = .ok (.iadd, 1) := by decide +kernel
theorem d295_873 : decode (mcode 295) 873 = .ok (.iaload, 1) := by decide +kernel
theorem d295_874 : decode (mcode 295) 874 = .ok (.invokevirtual 112, 3) := by decide +kernel
theorem d295_877 : decode (mcode 295) 877 = .ok (.aload_n 2, 1) := by decide +kernel
theorem d295_878 : decode (mcode 295) 878 = .ok (.aload_n 0, 1) := by decide +kernel
theorem d295_879 : decode (mcode 295) 879 = .ok (.iload_n 3, 1) := by decide +kernel
theorem d295_880 : decode (mcode 295) 880 = .ok (.iconst 1, 1) := by decide +kernel
theorem d295_881 : decode (mcode 295) 881 = .ok (.iadd, 1) := by decide +kernel
theorem d295_882 : decode (mcode 295) 882 = .ok (.iaload, 1) := by decide +kernel
theorem d295_883 : decode (mcode 295) 883 = .ok (.aload_n 0, 1) := by decide +kernel
theorem d295_884 : decode (mcode 295) 884 = .ok (.iload_n 3, 1) := by decide +kernel
theorem d295_885 : decode (mcode 295) 885 = .ok (.iconst 2, 1) := by decide +kernel
theorem d295_886 : decode (mcode 295) 886 = .ok (.iadd, 1) := by decide +kernel
theorem d295_887 : decode (mcode 295) 887 = .ok (.iaload, 1) := by decide +kernel
theorem d295_888 : decode (mcode 295) 888 = .ok (.invokevirtual 115, 3) := by decide +kernel
theorem d295_891 : decode (mcode 295) 891 = .ok (.if_icmp .eq 564, 3) := by decide +kernel
theorem d295_894 : decode (mcode 295) 894 = .ok (.iconst 0, 1) := by decide +kernel
theorem d295_895 : decode (mcode 295) 895 = .ok (.ireturn, 1) := by decide +kernel
theorem d295_896 : decode (mcode 295) 896 = .ok (.aload_n 1, 1) := by decide +kernel
theorem d295_897 : decode (mcode 295) 897 = .ok (.aload_n 0, 1) := by decide +kernel
theorem d295_898 : decode (mcode 295) 898 = .ok (.iload_n 3, 1) := by decide +kernel
theorem d295_899 : decode (mcode 295) 899 = .ok (.iconst 1, 1) := by decide +kernel
theorem d295_900 : decode (mcode 295) 900 = .ok (.iadd, 1) := by decide +kernel
theorem d295_901 : decode (mcode 295) 901 = .ok (.iaload, 1) := by decide +kernel
theorem d295_902 : decode (mcode 295) 902 = .ok (.aload_n 0, 1) := by decide +kernel
theorem d295_903 : decode (mcode 295) 903 = .ok (.iload_n 3, 1) := by decide +kernel
theorem d295_904 : decode (mcode 295) 904 = .ok (.iconst 2, 1) := by decide +kernel
theorem d295_905 : decode (mcode 295) 905 = .ok (.iadd, 1) := by decide +kernel
theorem d295_906 : decode (mcode 295) 906 = .ok (.iaload, 1) := by decide +kernel
theorem d295_907 : decode (mcode 295) 907 = .ok (.invokevirtual 116, 3) := by decide +kernel
theorem d295_910 : decode (mcode 295) 910 = .ok (.aload_n 2, 1) := by decide +kernel
theorem d295_911 : decode (mcode 295) 911 = .ok (.aload_n 0, 1) := by decide +kernel
theorem d295_912 : decode (mcode 295) 912 = .ok (.iload_n 3, 1) := by decide +kernel
theorem d295_913 : decode (mcode 295) 913 = .ok (.iconst 1, 1) := by decide +kernel
theorem d295_914 : decode (mcode 295) 914 = .ok (.iadd, 1) := by decide +kernel
theorem d295_915 : decode (mcode 295) 915 = .ok (.iaload, 1) := by decide +kernel
theorem d295_916 : decode (mcode 295) 916 = .ok (.aload_n 0, 1) := by decide +kernel
theorem d295_917 : decode (mcode 295) 917 = .ok (.iload_n 3, 1) := by decide +kernel
theorem d295_918 : decode (mcode 295) 918 = .ok (.iconst 2, 1) := by decide +kernel
theorem d295_919 : decode (mcode 295) 919 = .ok (.iadd, 1) := by decide +kernel
theorem d295_920 : decode (mcode 295) 920 = .ok (.iaload, 1) := by decide +kernel
theorem d295_921 : decode (mcode 295) 921 = .ok (.invokevirtual 119, 3) := by decide +kernel
theorem d295_924 : decode (mcode 295) 924 = .ok (.if_icmp .eq 531, 3) := by decide +kernel
theorem d295_927 : decode (mcode 295) 927 = .ok (.iconst 0, 1) := by decide +kernel
theorem d295_928 : decode (mcode 295) 928 = .ok (.ireturn, 1) := by decide +kernel
theorem d295_929 : decode (mcode 295) 929 = .ok (.aload_n 1, 1) := by decide +kernel
theorem d295_930 : decode (mcode 295) 930 = .ok (.aload_n 0, 1) := by decide +kernel
theorem d295_931 : decode (mcode 295) 931 = .ok (.iload_n 3, 1) := by decide +kernel
theorem d295_932 : decode (mcode 295) 932 = .ok (.iconst 1, 1) := by decide +kernel
theorem d295_933 : decode (mcode 295) 933 = .ok (.iadd, 1) := by decide +kernel
theorem d295_934 : decode (mcode 295) 934 = .ok (.iaload, 1) := by decide +kernel
theorem d295_935 : decode (mcode 295) 935 = .ok (.aload_n 0, 1) := by decide +kernel
theorem d295_936 : decode (mcode 295) 936 = .ok (.iload_n 3, 1) := by decide +kernel
theorem d295_937 : decode (mcode 295) 937 = .ok (.iconst 2, 1) := by decide +kernel
theorem d295_938 : decode (mcode 295) 938 = .ok (.iadd, 1) := by decide +kernel
theorem d295_939 : decode (mcode 295) 939 = .ok (.iaload, 1) := by decide +kernel
theorem d295_940 : decode (mcode 295) 940 = .ok (.invokevirtual 120, 3) := by decide +kernel
theorem d295_943 : decode (mcode 295) 943 = .ok (.aload_n 2, 1) := by decide +kernel
theorem d295_944 : decode (mcode 295) 944 = .ok (.aload_n 0, 1) := by decide +kernel
theorem d295_945 : decode (mcode 295) 945 = .ok (.iload_n 3, 1) := by decide +kernel
theorem d295_946 : decode (mcode 295) 946 = .ok (.iconst 1, 1) := by decide +kernel
theorem d295_947 : decode (mcode 295) 947 = .ok (.iadd, 1) := by decide +kernel
theorem d295_948 : decode (mcode 295) 948 = .ok (.iaload, 1) := by decide +kernel
theorem d295_949 : decode (mcode 295) 949 = .ok (.aload_n 0, 1) := by decide +kernel
theorem d295_950 : decode (mcode 295) 950 = .ok (.iload_n 3, 1) := by decide +kernel
theorem d295_951 : decode (mcode 295) 951 = .ok (.iconst 2, 1) := by decide +kernel
theorem d295_952 : decode (mcode 295) 952 = .ok (.iadd, 1) := by decide +kernel
theorem d295_953 : decode (mcode 295) 953 = .ok (.iaload, 1) := by decide +kernel
theorem d295_954 : decode (mcode 295) 954 = .ok (.invokevirtual 123, 3) := by decide +kernel
theorem d295_957 : decode (mcode 295) 957 = .ok (.if_icmp .eq 498, 3) := by decide +kernel
theorem d295_960 : decode (mcode 295) 960 = .ok (.iconst 0, 1) := by decide +kernel
theorem d295_961 : decode (mcode 295) 961 = .ok (.ireturn, 1) := by decide +kernel
theorem d295_962 : decode (mcode 295) 962 = .ok (.aload_n 1, 1) := by decide +kernel
theorem d295_963 : decode (mcode 295) 963 = .ok (.aload_n 0, 1) := by decide +kernel
theorem d295_964 : decode (mcode 295) 964 = .ok (.iload_n 3, 1) := by decide +kernel
theorem d295_965 : decode (mcode 295) 965 = .ok (.iconst 1, 1) := by decide +kernel
theorem d295_966 : decode (mcode 295) 966 = .ok (.iadd, 1) := by decide +kernel
theorem d295_967 : decode (mcode 295) 967 = .ok (.iaload, 1) := by decide +kernel
theorem d295_968 : decode (mcode 295) 968 = .ok (.aload_n 0, 1) := by decide +kernel
theorem d295_969 : decode (mcode 295) 969 = .ok (.iload_n 3, 1) := by decide +kernel
theorem d295_970 : decode (mcode 295) 970 = .ok (.iconst 2, 1) := by decide +kernel
theorem d295_971 : decode (mcode 295) 971 = .ok (.iadd, 1) := by decide +kernel
theorem d295_972 : decode (mcode 295) 972 = .ok (.iaload, 1) := by decide +kernel
theorem d295_973 : decode (mcode 295) 973 = .ok (.aload_n 0, 1) := by decide +kernel
theorem d295_974 : decode (mcode 295) 974 = .ok (.iload_n 3, 1) := by decide +kernel
theorem d295_975 : decode (mcode 295) 975 = .ok (.iconst 3, 1) := by decide +kernel
theorem d295_976 : decode (mcode 295) 976 = .ok (.iadd, 1) := by decide +kernel
theorem d295_977 : decode (mcode 295) 977 = .ok (.iaload, 1) := by decide +kernel
theorem d295_978 : decode (mcode 295) 978 = .ok (.invokevirtual 124, 3) := by decide +kernel
theorem d295_981 : decode (mcode 295) 981 = .ok (.aload_n 2, 1) := by decide +kernel
theorem d295_982 : decode (mcode 295) 982 = .ok (.aload_n 0, 1) := by decide +kernel
theorem d295_983 : decode (mcode 295) 983 = .ok (.iload_n 3, 1) := by decide +kernel
theorem d295_984 : decode (mcode 295) 984 = .ok (.iconst 1, 1) := by decide +kernel
theorem d295_985 : decode (mcode 295) 985 = .ok (.iadd, 1) := by decide +kernel
theorem d295_986 : decode (mcode 295) 986 = .ok (.iaload, 1) := by decide +kernel
theorem d295_987 : decode (mcode 295) 987 = .ok (.aload_n 0, 1) := by decide +kernel
theorem d295_988 : decode (mcode 295) 988 = .ok (.iload_n 3, 1) := by decide +kernel
theorem d295_989 : decode (mcode 295) 989 = .ok (.iconst 2, 1) := by decide +kernel
theorem d295_990 : decode (mcode 295) 990 = .ok (.iadd, 1) := by decide +kernel
theorem d295_991 : decode (mcode 295) 991 = .ok (.iaload, 1) := by decide +kernel
theorem d295_992 : decode (mcode 295) 992 = .ok (.aload_n 0, 1) := by decide +kernel
theorem d295_993 : decode (mcode 295) 993 = .ok (.iload_n 3, 1) := by decide +kernel
theorem d295_994 : decode (mcode 295) 994 = .ok (.iconst 3, 1) := by decide +kernel
theorem d295_995 : decode (mcode 295) 995 = .ok (.iadd, 1) := by decide +kernel
theorem d295_996 : decode (mcode 295) 996 = .ok (.iaload, 1) := by decide +kernel
theorem d295_997 : decode (mcode 295) 997 = .ok (.invokevirtual 128, 3) := by decide +kernel
theorem d295_1000 : decode (mcode 295) 1000 = .ok (.if_icmp .eq 455, 3) := by decide +kernel
theorem d295_1003 : decode (mcode 295) 1003 = .ok (.iconst 0, 1) := by decide +kernel
theorem d295_1004 : decode (mcode 295) 1004 = .ok (.ireturn, 1) := by decide +kernel
theorem d295_1005 : decode (mcode 295) 1005 = .ok (.aload_n 1, 1) := by decide +kernel
theorem d295_1006 : decode (mcode 295) 1006 = .ok (.aload_n 0, 1) := by decide +kernel
theorem d295_1007 : decode (mcode 295) 1007 = .ok (.iload_n 3, 1) := by decide +kernel
theorem d295_1008 : decode (mcode 295) 1008 = .ok (.iconst 1, 1) := by decide +kernel
theorem d295_1009 : decode (mcode 295) 1009 = .ok (.iadd, 1) := by decide +kernel
theorem d295_1010 : decode (mcode 295) 1010 = .ok (.iaload, 1) := by decide +kernel
theorem d295_1011 : decode (mcode 295) 1011 = .ok (.aload_n 0, 1) := by decide +kernel
theorem d295_1012 : decode (mcode 295) 1012 = .ok (.iload_n 3, 1) := by decide +kernel
theorem d295_1013 : decode (mcode 295) 1013 = .ok (.iconst 2, 1) := by decide +kernel
theorem d295_1014 : decode (mcode 295) 1014 = .ok (.iadd, 1) := by decide +kernel
theorem d295_1015 : decode (mcode 295) 1015 = .ok (.iaload, 1) := by decide +kernel
theorem d295_1016 : decode (mcode 295) 1016 = .ok (.aload_n 0, 1) := by decide +kernel
theorem d295_1017 : decode (mcode 295) 1017 = .ok (.iload_n 3, 1) := by decide +kernel
theorem d295_1018 : decode (mcode 295) 1018 = .ok (.iconst 3, 1) := by decide +kernel
theorem d295_1019 : decode (mcode 295) 1019 = .ok (.iadd, 1) := by decide +kernel
theorem d295_1020 : decode (mcode 295) 1020 = .ok (.iaload, 1) := by decide +kernel
theorem d295_1021 : decode (mcode 295) 1021 = .ok (.aload_n 0, 1) := by decide +kernel
theorem d295_1022 : decode (mcode 295) 1022 = .ok (.iload_n 3, 1) := by decide +kernel
theorem d295_1023 : decode (mcode 295) 1023 = .ok (.iconst 4, 1) := by decide +kernel
theorem d295_1024 : decode (mcode 295) 1024 = .ok (.iadd, 1) := by decide +kernel
theorem d295_1025 : decode (mcode 295) 1025 = .ok (.iaload, 1) := by decide +kernel
theorem d295_1026 : decode (mcode 295) 1026 = .ok (.invokevirtual 129, 3) := by decide +kernel
theorem d295_1029 : decode (mcode 295) 1029 = .ok (.aload_n 2, 1) := by decide +kernel
theorem d295_1030 : decode (mcode 295) 1030 = .ok (.aload_n 0, 1) := by decide +kernel
theorem d295_1031 : decode (mcode 295) 1031 = .ok (.iload_n 3, 1) := by decide +kernel
theorem d295_1032 : decode (mcode 295) 1032 = .ok (.iconst 1, 1) := by decide +kernel
theorem d295_1033 : decode (mcode 295) 1033 = .ok (.iadd, 1) := by decide +kernel
theorem d295_1034 : decode (mcode 295) 1034 = .ok (.iaload, 1) := by decide +kernel
theorem d295_1035 : decode (mcode 295) 1035 = .ok (.aload_n 0, 1) := by decide +kernel
theorem d295_1036 : decode (mcode 295) 1036 = .ok (.iload_n 3, 1) := by decide +kernel
theorem d295_1037 : decode (mcode 295) 1037 = .ok (.iconst 2, 1) := by decide +kernel
theorem d295_1038 : decode (mcode 295) 1038 = .ok (.iadd, 1) := by decide +kernel
theorem d295_1039 : decode (mcode 295) 1039 = .ok (.iaload, 1) := by decide +kernel
theorem d295_1040 : decode (mcode 295) 1040 = .ok (.aload_n 0, 1) := by decide +kernel
theorem d295_1041 : decode (mcode 295) 1041 = .ok (.iload_n 3, 1) := by decide +kernel
theorem d295_1042 : decode (mcode 295) 1042 = .ok (.iconst 3, 1) := by decide +kernel
theorem d295_1043 : decode (mcode 295) 1043 = .ok (.iadd, 1) := by decide +kernel
theorem d295_1044 : decode (mcode 295) 1044 = .ok (.iaload, 1) := by decide +kernel
theorem d295_1045 : decode (mcode 295) 1045 = .ok (.aload_n 0, 1) := by decide +kernel
theorem d295_1046 : decode (mcode 295) 1046 = .ok (.iload_n 3, 1) := by decide +kernel
theorem d295_1047 : decode (mcode 295) 1047 = .ok (.iconst 4, 1) := by decide +kernel
theorem d295_1048 : decode (mcode 295) 1048 = .ok (.iadd, 1) := by decide +kernel
theorem d295_1049 : decode (mcode 295) 1049 = .ok (.iaload, 1) := by decide +kernel
theorem d295_1050 : decode (mcode 295) 1050 = .ok (.invokevirtual 133, 3) := by decide +kernel
theorem d295_1053 : decode (mcode 295) 1053 = .ok (.if_icmp .eq 402, 3) := by decide +kernel
theorem d295_1056 : decode (mcode 295) 1056 = .ok (.iconst 0, 1) := by decide +kernel
theorem d295_1057 : decode (mcode 295) 1057 = .ok (.ireturn, 1) := by decide +kernel
theorem d295_1058 : decode (mcode 295) 1058 = .ok (.aload_n 1, 1) := by decide +kernel
theorem d295_1059 : decode (mcode 295) 1059 = .ok (.aload_n 0, 1) := by decide +kernel
theorem d295_1060 : decode (mcode 295) 1060 = .ok (.iload_n 3, 1) := by decide +kernel
theorem d295_1061 : decode (mcode 295) 1061 = .ok (.iconst 1, 1) := by decide +kernel
theorem d295_1062 : decode (mcode 295) 1062 = .ok (.iadd, 1) := by decide +kernel
theorem d295_1063 : decode (mcode 295) 1063 = .ok (.iaload, 1) := by decide +kernel
theorem d295_1064 : decode (mcode 295) 1064 = .ok (.invokevirtual 134, 3) := by decide +kernel
theorem d295_1067 : decode (mcode 295) 1067 = .ok (.aload_n 2, 1) := by decide +kernel
theorem d295_1068 : decode (mcode 295) 1068 = .ok (.aload_n 0, 1) := by decide +kernel
theorem d295_1069 : decode (mcode 295) 1069 = .ok (.iload_n 3, 1) := by decide +kernel
theorem d295_1070 : decode (mcode 295) 1070 = .ok (.iconst 1, 1) := by decide +kernel
theorem d295_1071 : decode (mcode 295) 1071 = .ok (.iadd, 1) := by decide +kernel
theorem d295_1072 : decode (mcode 295) 1072 = .ok (.iaload, 1) := by decide +kernel
theorem d295_1073 : decode (mcode 295) 1073 = .ok (.invokevirtual 138, 3) := by decide +kernel
theorem d295_1076 : decode (mcode 295) 1076 = .ok (.lcmp, 1) := by decide +kernel
theorem d295_1077 : decode (mcode 295) 1077 = .ok (.ifCond .eq 378, 3) := by decide +kernel
theorem d295_1080 : decode (mcode 295) 1080 = .ok (.iconst 0, 1) := by decide +kernel
theorem d295_1081 : decode (mcode 295) 1081 = .ok (.ireturn, 1) := by decide +kernel
theorem d295_1082 : decode (mcode 295) 1082 = .ok (.aload_n 1, 1) := by decide +kernel
theorem d295_1083 : decode (mcode 295) 1083 = .ok (.aload_n 0, 1) := by decide +kernel
theorem d295_1084 : decode (mcode 295) 1084 = .ok (.iload_n 3, 1) := by decide +kernel
theorem d295_1085 : decode (mcode 295) 1085 = .ok (.iconst 1, 1) := by decide +kernel
theorem d295_1086 : decode (mcode 295) 1086 = .ok (.iadd, 1) := by decide +kernel
theorem d295_1087 : decode (mcode 295) 1087 = .ok (.iaload, 1) := by decide +kernel
theorem d295_1088 : decode (mcode 295) 1088 = .ok (.aload_n 0, 1) := by decide +kernel
theorem d295_1089 : decode (mcode 295) 1089 = .ok (.iload_n 3, 1) := by decide +kernel
theorem d295_1090 : decode (mcode 295) 1090 = .ok (.iconst 2, 1) := by decide +kernel
theorem d295_1091 : decode (mcode 295) 1091 = .ok (.iadd, 1) := by decide +kernel
theorem d295_1092 : decode (mcode 295) 1092 = .ok (.iaload, 1) := by decide +kernel
theorem d295_1093 : decode (mcode 295) 1093 = .ok (.i2l, 1) := by decide +kernel
theorem d295_1094 : decode (mcode 295) 1094 = .ok (.bipush 32, 2) := by decide +kernel
theorem d295_1096 : decode (mcode 295) 1096 = .ok (.lshl, 1) := by decide +kernel
theorem d295_1097 : decode (mcode 295) 1097 = .ok (.aload_n 0, 1) := by decide +kernel
theorem d295_1098 : decode (mcode 295) 1098 = .ok (.iload_n 3, 1) := by decide +kernel
theorem d295_1099 : decode (mcode 295) 1099 = .ok (.iconst 3, 1) := by decide +kernel
theorem d295_1100 : decode (mcode 295) 1100 = .ok (.iadd, 1) := by decide +kernel
theorem d295_1101 : decode (mcode 295) 1101 = .ok (.iaload, 1) := by decide +kernel
theorem d295_1102 : decode (mcode 295) 1102 = .ok (.i2l, 1) := by decide +kernel
theorem d295_1103 : decode (mcode 295) 1103 = .ok (.ldc2_w 139, 3) := by decide +kernel
theorem d295_1106 : decode (mcode 295) 1106 = .ok (.land, 1) := by decide +kernel
theorem d295_1107 : decode (mcode 295) 1107 = .ok (.lor, 1) := by decide +kernel
theorem d295_1108 : decode (mcode 295) 1108 = .ok (.invokevirtual 141, 3) := by decide +kernel
theorem d295_1111 : decode (mcode 295) 1111 = .ok (.aload_n 2, 1) := by decide +kernel
theorem d295_1112 : decode (mcode 295) 1112 = .ok (.aload_n 0, 1) := by decide +kernel
theorem d295_1113 : decode (mcode 295) 1113 = .ok (.iload_n 3, 1) := by decide +kernel
theorem d295_1114 : decode (mcode 295) 1114 = .ok (.iconst 1, 1) := by decide +kernel
theorem d295_1115 : decode (mcode 295) 1115 = .ok (.iadd, 1) := by decide +kernel
theorem d295_1116 : decode (mcode 295) 1116 = .ok (.iaload, 1) := by decide +kernel
theorem d295_1117 : decode (mcode 295) 1117 = .ok (.aload_n 0, 1) := by decide +kernel
theorem d295_1118 : decode (mcode 295) 1118 = .ok (.iload_n 3, 1) := by decide +kernel
theorem d295_1119 : decode (mcode 295) 1119 = .ok (.iconst 2, 1) := by decide +kernel
theorem d295_1120 : decode (mcode 295) 1120 = .ok (.iadd, 1) := by decide +kernel
theorem d295_1121 : decode (mcode 295) 1121 = .ok (.iaload, 1) := by decide +kernel
theorem d295_1122 : decode (mcode 295) 1122 = .ok (.i2l, 1) := by decide +kernel
theorem d295_1123 : decode (mcode 295) 1123 = .ok (.bipush 32, 2) := by decide +kernel
theorem d295_1125 : decode (mcode 295) 1125 = .ok (.lshl, 1) := by decide +kernel
theorem d295_1126 : decode (mcode 295) 1126 = .ok (.aload_n 0, 1) := by decide +kernel
theorem d295_1127 : decode (mcode 295) 1127 = .ok (.iload_n 3, 1) := by decide +kernel
theorem d295_1128 : decode (mcode 295) 1128 = .ok (.iconst 3, 1) := by decide +kernel
theorem d295_1129 : decode (mcode 295) 1129 = .ok (.iadd, 1) := by decide +kernel
theorem d295_1130 : decode (mcode 295) 1130 = .ok (.iaload, 1) := by decide +kernel
theorem d295_1131 : decode (mcode 295) 1131 = .ok (.i2l, 1) := by decide +kernel
theorem d295_1132 : decode (mcode 295) 1132 = .ok (.ldc2_w 139, 3) := by decide +kernel
theorem d295_1135 : decode (mcode 295) 1135 = .ok (.land, 1) := by decide +kernel
theorem d295_1136 : decode (mcode 295) 1136 = .ok (.lor, 1) := by decide +kernel
theorem d295_1137 : decode (mcode 295) 1137 = .ok (.invokevirtual 145, 3) := by decide +kernel
theorem d295_1140 : decode (mcode 295) 1140 = .ok (.lcmp, 1) := by decide +kernel
theorem d295_1141 : decode (mcode 295) 1141 = .ok (.ifCond .eq 314, 3) := by decide +kernel
theorem d295_1144 : decode (mcode 295) 1144 = .ok (.iconst 0, 1) := by decide +kernel
theorem d295_1145 : decode (mcode 295) 1145 = .ok (.ireturn, 1) := by decide +kernel
theorem d295_1146 : decode (mcode 295) 1146 = .ok (.aload_n 1, 1) := by decide +kernel
theorem d295_1147 : decode (mcode 295) 1147 = .ok (.aload_n 0, 1) := by decide +kernel
theorem d295_1148 : decode (mcode 295) 1148 = .ok (.iload_n 3, 1) := by decide +kernel
theorem d295_1149 : decode (mcode 295) 1149 = .ok (.iconst 1, 1) := by decide +kernel
theorem d295_1150 : decode (mcode 295) 1150 = .ok (.iadd, 1) := by decide +kernel
theorem d295_1151 : decode (mcode 295) 1151 = .ok (.iaload, 1) := by decide +kernel
theorem d295_1152 : decode (mcode 295) 1152 = .ok (.invokevirtual 146, 3) := by decide +kernel
theorem d295_1155 : decode (mcode 295) 1155 = .ok (.aload_n 2, 1) := by decide +kernel
theorem d295_1156 : decode (mcode 295) 1156 = .ok (.aload_n 0, 1) := by decide +kernel
theorem d295_1157 : decode (mcode 295) 1157 = .ok (.iload_n 3, 1) := by decide +kernel
theorem d295_1158 : decode (mcode 295) 1158 = .ok (.iconst 1, 1) := by decide +kernel
theorem d295_1159 : decode (mcode 295) 1159 = .ok (.iadd, 1) := by decide +kernel
theorem d295_1160 : decode (mcode 295) 1160 = .ok (.iaload, 1) := by decide +kernel
theorem d295_1161 : decode (mcode 295) 1161 = .ok (.invokevirtual 149, 3) := by decide +kernel
theorem d295_1164 : decode (mcode 295) 1164 = .ok (.if_icmp .eq 291, 3) := by decide +kernel
theorem d295_1167 : decode (mcode 295) 1167 = .ok (.iconst 0, 1) := by decide +kernel
theorem d295_1168 : decode (mcode 295) 1168 = .ok (.ireturn, 1) := by decide +kernel
theorem d295_1169 : decode (mcode 295) 1169 = .ok (.aload_n 1, 1) := by decide +kernel
theorem d295_1170 : decode (mcode 295) 1170 = .ok (.aload_n 0, 1) := by decide +kernel
theorem d295_1171 : decode (mcode 295) 1171 = .ok (.iload_n 3, 1) := by decide +kernel
theorem d295_1172 : decode (mcode 295) 1172 = .ok (.iconst 1, 1) := by decide +kernel
theorem d295_1173 : decode (mcode 295) 1173 = .ok (.iadd, 1) := by decide +kernel
theorem d295_1174 : decode (mcode 295) 1174 = .ok (.iaload, 1) := by decide +kernel
theorem d295_1175 : decode (mcode 295) 1175 = .ok (.aload_n 0, 1) := by decide +kernel
theorem d295_1176 : decode (mcode 295) 1176 = .ok (.iload_n 3, 1) := by decide +kernel
theorem d295_1177 : decode (mcode 295) 1177 = .ok (.iconst 2, 1) := by decide +kernel
theorem d295_1178 : decode (mcode 295) 1178 = .ok (.iadd, 1) := by decide +kernel
theorem d295_1179 : decode (mcode 295) 1179 = .ok (.iaload, 1) := by decide +kernel
theorem d295_1180 : decode (mcode 295) 1180 = .ok (.invokevirtual 150, 3) := by decide +kernel
theorem d295_1183 : decode (mcode 295) 1183 = .ok (.aload_n 2, 1) := by decide +kernel
theorem d295_1184 : decode (mcode 295) 1184 = .ok (.aload_n 0, 1) := by decide +kernel
theorem d295_1185 : decode (mcode 295) 1185 = .ok (.iload_n 3, 1) := by decide +kernel
theorem d295_1186 : decode (mcode 295) 1186 = .ok (.iconst 1, 1) := by decide +kernel
theorem d295_1187 : decode (mcode 295) 1187 = .ok (.iadd, 1) := by decide +kernel
theorem d295_1188 : decode (mcode 295) 1188 = .ok (.iaload, 1) := by decide +kernel
theorem d295_1189 : decode (mcode 295) 1189 = .ok (.aload_n 0, 1) := by decide +kernel
theorem d295_1190 : decode (mcode 295) 1190 = .ok (.iload_n 3, 1) := by decide +kernel
theorem d295_1191 : decode (mcode 295) 1191 = .ok (.iconst 2, 1) := by decide +kernel
theorem d295_1192 : decode (mcode 295) 1192 = .ok (.iadd, 1) := by decide +kernel
theorem d295_1193 : decode (mcode 295) 1193 = .ok (.iaload, 1) := by decide +kernel
theorem d295_1194 : decode (mcode 295) 1194 = .ok (.invokevirtual 153, 3) := by decide +kernel
theorem d295_1197 : decode (mcode 295) 1197 = .ok (.if_icmp .eq 258, 3) := by decide +kernel
theorem d295_1200 : decode (mcode 295) 1200 = .ok (.iconst 0, 1) := by decide +kernel
theorem d295_1201 : decode (mcode 295) 1201 = .ok (.ireturn, 1) := by decide +kernel
theorem d295_1202 : decode (mcode 295) 1202 = .ok (.aload_n 1, 1) := by decide +kernel
theorem d295_1203 : decode (mcode 295) 1203 = .ok (.aload_n 0, 1) := by decide +kernel
theorem d295_1204 : decode (mcode 295) 1204 = .ok (.iload_n 3, 1) := by decide +kernel
theorem d295_1205 : decode (mcode 295) 1205 = .ok (.iconst 1, 1) := by decide +kernel
theorem d295_1206 : decode (mcode 295) 1206 = .ok (.iadd, 1) := by decide +kernel
theorem d295_1207 : decode (mcode 295) 1207 = .ok (.iaload, 1) := by decide +kernel
theorem d295_1208 : decode (mcode 295) 1208 = .ok (.aload_n 0, 1) := by decide +kernel
theorem d295_1209 : decode (mcode 295) 1209 = .ok (.iload_n 3, 1) := by decide +kernel
theorem d295_1210 : decode (mcode 295) 1210 = .ok (.iconst 2, 1) := by decide +kernel
theorem d295_1211 : decode (mcode 295) 1211 = .ok (.iadd, 1) := by decide +kernel
theorem d295_1212 : decode (mcode 295) 1212 = .ok (.iaload, 1) := by decide +kernel
theorem d295_1213 : decode (mcode 295) 1213 = .ok (.invokevirtual 154, 3) := by decide +kernel
theorem d295_1216 : decode (mcode 295) 1216 = .ok (.aload_n 2, 1) := by decide +kernel
theorem d295_1217 : decode (mcode 295) 1217 = .ok (.aload_n 0, 1) := by decide +kernel
theorem d295_1218 : decode (mcode 295) 1218 = .ok (.iload_n 3, 1) := by decide +kernel
theorem d295_1219 : decode (mcode 295) 1219 = .ok (.iconst 1, 1) := by decide +kernel
theorem d295_1220 : decode (mcode 295) 1220 = .ok (.iadd, 1) := by decide +kernel
theorem d295_1221 : decode (mcode 295) 1221 = .ok (.iaload, 1) := by decide +kernel
theorem d295_1222 : decode (mcode 295) 1222 = .ok (.aload_n 0, 1) := by decide +kernel
theorem d295_1223 : decode (mcode 295) 1223 = .ok (.iload_n 3, 1) := by decide +kernel
theorem d295_1224 : decode (mcode 295) 1224 = .ok (.iconst 2, 1) := by decide +kernel
theorem d295_1225 : decode (mcode 295) 1225 = .ok (.iadd, 1) := by decide +kernel
theorem d295_1226 : decode (mcode 295) 1226 = .ok (.iaload, 1) := by decide +kernel
theorem d295_1227 : decode (mcode 295) 1227 = .ok (.invokevirtual 157, 3) := by decide +kernel
theorem d295_1230 : decode (mcode 295) 1230 = .ok (.if_icmp .eq 225, 3) := by decide +kernel
theorem d295_1233 : decode (mcode 295) 1233 = .ok (.iconst 0, 1) := by decide +kernel
theorem d295_1234 : decode (mcode 295) 1234 = .ok (.ireturn, 1) := by decide +kernel
theorem d295_1235 : decode (mcode 295) 1235 = .ok (.aload_n 1, 1) := by decide +kernel
theorem d295_1236 : decode (mcode 295) 1236 = .ok (.aload_n 0, 1) := by decide +kernel
theorem d295_1237 : decode (mcode 295) 1237 = .ok (.iload_n 3, 1) := by decide +kernel
theorem d295_1238 : decode (mcode 295) 1238 = .ok (.iconst 1, 1) := by decide +kernel
theorem d295_1239 : decode (mcode 295) 1239 = .ok (.iadd, 1) := by decide +kernel
theorem d295_1240 : decode (mcode 295) 1240 = .ok (.iaload, 1) := by decide +kernel
theorem d295_1241 : decode (mcode 295) 1241 = .ok (.invokevirtual 158, 3) := by decide +kernel
theorem d295_1244 : decode (mcode 295) 1244 = .ok (.aload_n 2, 1) := by decide +kernel
theorem d295_1245 : decode (mcode 295) 1245 = .ok (.aload_n 0, 1) := by decide +kernel
theorem d295_1246 : decode (mcode 295) 1246 = .ok (.iload_n 3, 1) := by decide +kernel
theorem d295_1247 : decode (mcode 295) 1247 = .ok (.iconst 1, 1) := by decide +kernel
theorem d295_1248 : decode (mcode 295) 1248 = .ok (.iadd, 1) := by decide +kernel
theorem d295_1249 : decode (mcode 295) 1249 = .ok (.iaload, 1) := by decide +kernel
theorem d295_1250 : decode (mcode 295) 1250 = .ok (.invokevirtual 161, 3) := by decide +kernel
theorem d295_1253 : decode (mcode 295) 1253 = .ok (.if_icmp .eq 202, 3) := by decide +kernel
theorem d295_1256 : decode (mcode 295) 1256 = .ok (.iconst 0, 1) := by decide +kernel
theorem d295_1257 : decode (mcode 295) 1257 = .ok (.ireturn, 1) := by decide +kernel
theorem d295_1258 : decode (mcode 295) 1258 = .ok (.aload_n 1, 1) := by decide +kernel
theorem d295_1259 : decode (mcode 295) 1259 = .ok (.aload_n 0, 1) := by decide +kernel
theorem d295_1260 : decode (mcode 295) 1260 = .ok (.iload_n 3, 1) := by decide +kernel
theorem d295_1261 : decode (mcode 295) 1261 = .ok (.iconst 1, 1) := by decide +kernel
theorem d295_1262 : decode (mcode 295) 1262 = .ok (.iadd, 1) := by decide +kernel
theorem d295_1263 : decode (mcode 295) 1263 = .ok (.iaload, 1) := by decide +kernel
theorem d295_1264 : decode (mcode 295) 1264 = .ok (.aload_n 0, 1) := by decide +kernel
theorem d295_1265 : decode (mcode 295) 1265 = .ok (.iload_n 3, 1) := by decide +kernel
theorem d295_1266 : decode (mcode 295) 1266 = .ok (.iconst 2, 1) := by decide +kernel
theorem d295_1267 : decode (mcode 295) 1267 = .ok (.iadd, 1) := by decide +kernel
theorem d295_1268 : decode (mcode 295) 1268 = .ok (.iaload, 1) := by decide +kernel
theorem d295_1269 : decode (mcode 295) 1269 = .ok (.invokevirtual 162, 3) := by decide +kernel
theorem d295_1272 : decode (mcode 295) 1272 = .ok (.aload_n 2, 1) := by decide +kernel
theorem d295_1273 : decode (mcode 295) 1273 = .ok (.aload_n 0, 1) := by decide +kernel
theorem d295_1274 : decode (mcode 295) 1274 = .ok (.iload_n 3, 1) := by decide +kernel
theorem d295_1275 : decode (mcode 295) 1275 = .ok (.iconst 1, 1) := by decide +kernel
theorem d295_1276 : decode (mcode 295) 1276 = .ok (.iadd, 1) := by decide +kernel
theorem d295_1277 : decode (mcode 295) 1277 = .ok (.iaload, 1) := by decide +kernel
theorem d295_1278 : decode (mcode 295) 1278 = .ok (.aload_n 0, 1) := by decide +kernel
theorem d295_1279 : decode (mcode 295) 1279 = .ok (.iload_n 3, 1) := by decide +kernel
theorem d295_1280 : decode (mcode 295) 1280 = .ok (.iconst 2, 1) := by decide +kernel
theorem d295_1281 : decode (mcode 295) 1281 = .ok (.iadd, 1) := by decide +kernel
theorem d295_1282 : decode (mcode 295) 1282 = .ok (.iaload, 1) := by decide +kernel
theorem d295_1283 : decode (mcode 295) 1283 = .ok (.invokevirtual 165, 3) := by decide +kernel
theorem d295_1286 : decode (mcode 295) 1286 = .ok (.if_icmp .eq 169, 3) := by decide +kernel
theorem d295_1289 : decode (mcode 295) 1289 = .ok (.iconst 0, 1) := by decide +kernel
theorem d295_1290 : decode (mcode 295) 1290 = .ok (.ireturn, 1) := by decide +kernel
theorem d295_1291 : decode (mcode 295) 1291 = .ok (.aload_n 1, 1) := by decide +kernel
theorem d295_1292 : decode (mcode 295) 1292 = .ok (.aload_n 0, 1) := by decide +kernel
theorem d295_1293 : decode (mcode 295) 1293 = .ok (.iload_n 3, 1) := by decide +kernel
theorem d295_1294 : decode (mcode 295) 1294 = .ok (.iconst 1, 1) := by decide +kernel
theorem d295_1295 : decode (mcode 295) 1295 = .ok (.iadd, 1) := by decide +kernel
theorem d295_1296 : decode (mcode 295) 1296 = .ok (.iaload, 1) := by decide +kernel
theorem d295_1297 : decode (mcode 295) 1297 = .ok (.aload_n 0, 1) := by decide +kernel
theorem d295_1298 : decode (mcode 295) 1298 = .ok (.iload_n 3, 1) := by decide +kernel
theorem d295_1299 : decode (mcode 295) 1299 = .ok (.iconst 2, 1) := by decide +kernel
theorem d295_1300 : decode (mcode 295) 1300 = .ok (.iadd, 1) := by decide +kernel
theorem d295_1301 : decode (mcode 295) 1301 = .ok (.iaload, 1) := by decide +kernel
theorem d295_1302 : decode (mcode 295) 1302 = .ok (.invokevirtual 166, 3) := by decide +kernel
theorem d295_1305 : decode (mcode 295) 1305 = .ok (.aload_n 2, 1) := by decide +kernel
theorem d295_1306 : decode (mcode 295) 1306 = .ok (.aload_n 0, 1) := by decide +kernel
theorem d295_1307 : decode (mcode 295) 1307 = .ok (.iload_n 3, 1) := by decide +kernel
theorem d295_1308 : decode (mcode 295) 1308 = .ok (.iconst 1, 1) := by decide +kernel
theorem d295_1309 : decode (mcode 295) 1309 = .ok (.iadd, 1) := by decide +kernel
theorem d295_1310 : decode (mcode 295) 1310 = .ok (.iaload, 1) := by decide +kernel
theorem d295_1311 : decode (mcode 295) 1311 = .ok (.aload_n 0, 1) := by decide +kernel
theorem d295_1312 : decode (mcode 295) 1312 = .ok (.iload_n 3, 1) := by decide +kernel
theorem d295_1313 : decode (mcode 295) 1313 = .ok (.iconst 2, 1) := by decide +kernel
theorem d295_1314 : decode (mcode 295) 1314 = .ok (.iadd, 1) := by decide +kernel
theorem d295_1315 : decode (mcode 295) 1315 = .ok (.iaload, 1) := by decide +kernel
theorem d295_1316 : decode (mcode 295) 1316 = .ok (.invokevirtual 169, 3) := by decide +kernel
theorem d295_1319 : decode (mcode 295) 1319 = .ok (.if_icmp .eq 136, 3) := by decide +kernel
theorem d295_1322 : decode (mcode 295) 1322 = .ok (.iconst 0, 1) := by decide +kernel
theorem d295_1323 : decode (mcode 295) 1323 = .ok (.ireturn, 1) := by decide +kernel
theorem d295_1324 : decode (mcode 295) 1324 = .ok (.aload_n 1, 1) := by decide +kernel
theorem d295_1325 : decode (mcode 295) 1325 = .ok (.aload_n 0, 1) := by decide +kernel
theorem d295_1326 : decode (mcode 295) 1326 = .ok (.iload_n 3, 1) := by decide +kernel
theorem d295_1327 : decode (mcode 295) 1327 = .ok (.iconst 1, 1) := by decide +kernel
theorem d295_1328 : decode (mcode 295) 1328 = .ok (.iadd, 1) := by decide +kernel
theorem d295_1329 : decode (mcode 295) 1329 = .ok (.iaload, 1) := by decide +kernel
theorem d295_1330 : decode (mcode 295) 1330 = .ok (.invokevirtual 170, 3) := by decide +kernel
theorem d295_1333 : decode (mcode 295) 1333 = .ok (.aload_n 2, 1) := by decide +kernel
theorem d295_1334 : decode (mcode 295) 1334 = .ok (.aload_n 0, 1) := by decide +kernel
theorem d295_1335 : decode (mcode 295) 1335 = .ok (.iload_n 3, 1) := by decide +kernel
theorem d295_1336 : decode (mcode 295) 1336 = .ok (.iconst 1, 1) := by decide +kernel
theorem d295_1337 : decode (mcode 295) 1337 = .ok (.iadd, 1) := by decide +kernel
theorem d295_1338 : decode (mcode 295) 1338 = .ok (.iaload, 1) := by decide +kernel
theorem d295_1339 : decode (mcode 295) 1339 = .ok (.invokevirtual 173, 3) := by decide +kernel
theorem d295_1342 : decode (mcode 295) 1342 = .ok (.if_icmp .eq 113, 3) := by decide +kernel
theorem d295_1345 : decode (mcode 295) 1345 = .ok (.iconst 0, 1) := by decide +kernel
theorem d295_1346 : decode (mcode 295) 1346 = .ok (.ireturn, 1) := by decide +kernel
theorem d295_1347 : decode (mcode 295) 1347 = .ok (.aload_n 1, 1) := by decide +kernel
theorem d295_1348 : decode (mcode 295) 1348 = .ok (.invokevirtual 174, 3) := by decide +kernel
theorem d295_1351 : decode (mcode 295) 1351 = .ok (.aload_n 2, 1) := by decide +kernel
theorem d295_1352 : decode (mcode 295) 1352 = .ok (.invokevirtual 177, 3) := by decide +kernel
theorem d295_1355 : decode (mcode 295) 1355 = .ok (.if_icmp .eq 100, 3) := by decide +kernel
theorem d295_1358 : decode (mcode 295) 1358 = .ok (.iconst 0, 1) := by decide +kernel
theorem d295_1359 : decode (mcode 295) 1359 = .ok (.ireturn, 1) := by decide +kernel
theorem d295_1360 : decode (mcode 295) 1360 = .ok (.aload_n 1, 1) := by decide +kernel
theorem d295_1361 : decode (mcode 295) 1361 = .ok (.aload_n 0, 1) := by decide +kernel
theorem d295_1362 : decode (mcode 295) 1362 = .ok (.iload_n 3, 1) := by decide +kernel
theorem d295_1363 : decode (mcode 295) 1363 = .ok (.iconst 1, 1) := by decide +kernel
theorem d295_1364 : decode (mcode 295) 1364 = .ok (.iadd, 1) := by decide +kernel
theorem d295_1365 : decode (mcode 295) 1365 = .ok (.iaload, 1) := by decide +kernel
theorem d295_1366 : decode (mcode 295) 1366 = .ok (.aload_n 0, 1) := by decide +kernel
theorem d295_1367 : decode (mcode 295) 1367 = .ok (.iload_n 3, 1) := by decide +kernel
theorem d295_1368 : decode (mcode 295) 1368 = .ok (.iconst 2, 1) := by decide +kernel
theorem d295_1369 : decode (mcode 295) 1369 = .ok (.iadd, 1) := by decide +kernel
theorem d295_1370 : decode (mcode 295) 1370 = .ok (.iaload, 1) := by decide +kernel
theorem d295_1371 : decode (mcode 295) 1371 = .ok (.invokevirtual 178, 3) := by decide +kernel
theorem d295_1374 : decode (mcode 295) 1374 = .ok (.aload_n 2, 1) := by decide +kernel
theorem d295_1375 : decode (mcode 295) 1375 = .ok (.aload_n 0, 1) := by decide +kernel
theorem d295_1376 : decode (mcode 295) 1376 = .ok (.iload_n 3, 1) := by decide +kernel
theorem d295_1377 : decode (mcode 295) 1377 = .ok (.iconst 1, 1) := by decide +kernel
theorem d295_1378 : decode (mcode 295) 1378 = .ok (.iadd, 1) := by decide +kernel
theorem d295_1379 : decode (mcode 295) 1379 = .ok (.iaload, 1) := by decide +kernel
theorem d295_1380 : decode (mcode 295) 1380 = .ok (.aload_n 0, 1) := by decide +kernel
theorem d295_1381 : decode (mcode 295) 1381 = .ok (.iload_n 3, 1) := by decide +kernel
theorem d295_1382 : decode (mcode 295) 1382 = .ok (.iconst 2, 1) := by decide +kernel
theorem d295_1383 : decode (mcode 295) 1383 = .ok (.iadd, 1) := by decide +kernel
theorem d295_1384 : decode (mcode 295) 1384 = .ok (.iaload, 1) := by decide +kernel
theorem d295_1385 : decode (mcode 295) 1385 = .ok (.invokevirtual 181, 3) := by decide +kernel
theorem d295_1388 : decode (mcode 295) 1388 = .ok (.if_icmp .eq 67, 3) := by decide +kernel
theorem d295_1391 : decode (mcode 295) 1391 = .ok (.iconst 0, 1) := by decide +kernel
theorem d295_1392 : decode (mcode 295) 1392 = .ok (.ireturn, 1) := by decide +kernel
theorem d295_1393 : decode (mcode 295) 1393 = .ok (.aload_n 1, 1) := by decide +kernel
theorem d295_1394 : decode (mcode 295) 1394 = .ok (.aload_n 0, 1) := by decide +kernel
theorem d295_1395 : decode (mcode 295) 1395 = .ok (.iload_n 3, 1) := by decide +kernel
theorem d295_1396 : decode (mcode 295) 1396 = .ok (.iconst 1, 1) := by decide +kernel
theorem d295_1397 : decode (mcode 295) 1397 = .ok (.iadd, 1) := by decide +kernel
theorem d295_1398 : decode (mcode 295) 1398 = .ok (.iaload, 1) := by decide +kernel
theorem d295_1399 : decode (mcode 295) 1399 = .ok (.ifCond .eq 7, 3) := by decide +kernel
theorem d295_1402 : decode (mcode 295) 1402 = .ok (.iconst 1, 1) := by decide +kernel
theorem d295_1403 : decode (mcode 295) 1403 = .ok (.goto 4, 3) := by decide +kernel
theorem d295_1406 : decode (mcode 295) 1406 = .ok (.iconst 0, 1) := by decide +kernel
theorem d295_1407 : decode (mcode 295) 1407 = .ok (.invokevirtual 182, 3) := by decide +kernel
theorem d295_1410 : decode (mcode 295) 1410 = .ok (.aload_n 2, 1) := by decide +kernel
theorem d295_1411 : decode (mcode 295) 1411 = .ok (.aload_n 0, 1) := by decide +kernel
theorem d295_1412 : decode (mcode 295) 1412 = .ok (.iload_n 3, 1) := by decide +kernel
theorem d295_1413 : decode (mcode 295) 1413 = .ok (.iconst 1, 1) := by decide +kernel
theorem d295_1414 : decode (mcode 295) 1414 = .ok (.iadd, 1) := by decide +kernel
theorem d295_1415 : decode (mcode 295) 1415 = .ok (.iaload, 1) := by decide +kernel
theorem d295_1416 : decode (mcode 295) 1416 = .ok (.ifCond .eq 7, 3) := by decide +kernel
theorem d295_1419 : decode (mcode 295) 1419 = .ok (.iconst 1, 1) := by decide +kernel
theorem d295_1420 : decode (mcode 295) 1420 = .ok (.goto 4, 3) := by decide +kernel
theorem d295_1423 : decode (mcode 295) 1423 = .ok (.iconst 0, 1) := by decide +kernel
theorem d295_1424 : decode (mcode 295) 1424 = .ok (.invokevirtual 186, 3) := by decide +kernel
theorem d295_1427 : decode (mcode 295) 1427 = .ok (.if_icmp .eq 28, 3) := by decide +kernel
theorem d295_1430 : decode (mcode 295) 1430 = .ok (.iconst 0, 1) := by decide +kernel
theorem d295_1431 : decode (mcode 295) 1431 = .ok (.ireturn, 1) := by decide +kernel
theorem d295_1432 : decode (mcode 295) 1432 = .ok (.aload_n 1, 1) := by decide +kernel
theorem d295_1433 : decode (mcode 295) 1433 = .ok (.aload_n 0, 1) := by decide +kernel
theorem d295_1434 : decode (mcode 295) 1434 = .ok (.iload_n 3, 1) := by decide +kernel
theorem d295_1435 : decode (mcode 295) 1435 = .ok (.iconst 1, 1) := by decide +kernel
theorem d295_1436 : decode (mcode 295) 1436 = .ok (.iadd, 1) := by decide +kernel
theorem d295_1437 : decode (mcode 295) 1437 = .ok (.iaload, 1) := by decide +kernel
theorem d295_1438 : decode (mcode 295) 1438 = .ok (.invokevirtual 187, 3) := by decide +kernel
theorem d295_1441 : decode (mcode 295) 1441 = .ok (.aload_n 2, 1) := by decide +kernel
theorem d295_1442 : decode (mcode 295) 1442 = .ok (.aload_n 0, 1) := by decide +kernel
theorem d295_1443 : decode (mcode 295) 1443 = .ok (.iload_n 3, 1) := by decide +kernel
theorem d295_1444 : decode (mcode 295) 1444 = .ok (.iconst 1, 1) := by decide +kernel
theorem d295_1445 : decode (mcode 295) 1445 = .ok (.iadd, 1) := by decide +kernel
theorem d295_1446 : decode (mcode 295) 1446 = .ok (.iaload, 1) := by decide +kernel
theorem d295_1447 : decode (mcode 295) 1447 = .ok (.invokevirtual 190, 3) := by decide +kernel
theorem d295_1450 : decode (mcode 295) 1450 = .ok (.if_icmp .eq 5, 3) := by decide +kernel
theorem d295_1453 : decode (mcode 295) 1453 = .ok (.iconst 0, 1) := by decide +kernel
theorem d295_1454 : decode (mcode 295) 1454 = .ok (.ireturn, 1) := by decide +kernel
theorem d295_1455 : decode (mcode 295) 1455 = .ok (.iinc 3 6, 3) := by decide +kernel
theorem d295_1458 : decode (mcode 295) 1458 = .ok (.goto (-1440), 3) := by decide +kernel
theorem d295_1461 : decode (mcode 295) 1461 = .ok (.iconst 1, 1) := by decide +kernel
theorem d295_1462 : decode (mcode 295) 1462 = .ok (.ireturn, 1) := by decide +kernel
