theorem dX8_unfold_160 : decode cX8_unfold 160 = .ok (.iload 9, 2) := by decide +kernel
theorem dX8_unfold_162 : decode cX8_unfold 162 = .ok (.if_icmp .ge 47, 3) := by decide +kernel
theorem dX8_unfold_165 : decode cX8_unfold 165 = .ok (.aload_n 0, 1) := by decide +kernel
theorem dX8_unfold_166 : decode cX8_unfold 166 = .ok (.getfield 25, 3) := by decide +kernel
theorem dX8_unfold_169 : decode cX8_unfold 169 = .ok (.sipush 30000, 3) := by decide +kernel
theorem dX8_unfold_172 : decode cX8_unfold 172 = .ok (.iload 5, 2) := by decide +kernel
theorem dX8_unfold_174 : decode cX8_unfold 174 = .ok (.iadd, 1) := by decide +kernel
theorem dX8_unfold_175 : decode cX8_unfold 175 = .ok (.iload 11, 2) := by decide +kernel
theorem dX8_unfold_177 : decode cX8_unfold 177 = .ok (.iadd, 1) := by decide +kernel
theorem dX8_unfold_178 : decode cX8_unfold 178 = .ok (.aload_n 0, 1) := by decide +kernel
theorem dX8_unfold_179 : decode cX8_unfold 179 = .ok (.getfield 13, 3) := by decide +kernel
theorem dX8_unfold_182 : decode cX8_unfold 182 = .ok (.iload 6, 2) := by decide +kernel
theorem dX8_unfold_184 : decode cX8_unfold 184 = .ok (.iconst 1, 1) := by decide +kernel
theorem dX8_unfold_185 : decode cX8_unfold 185 = .ok (.iadd, 1) := by decide +kernel
theorem dX8_unfold_186 : decode cX8_unfold 186 = .ok (.iload 8, 2) := by decide +kernel
theorem dX8_unfold_188 : decode cX8_unfold 188 = .ok (.sipush 128, 3) := by decide +kernel
theorem dX8_unfold_191 : decode cX8_unfold 191 = .ok (.if_icmp .ge 8, 3) := by decide +kernel
theorem dX8_unfold_194 : decode cX8_unfold 194 = .ok (.iload 11, 2) := by decide +kernel
theorem dX8_unfold_196 : decode cX8_unfold 196 = .ok (.goto 4, 3) := by decide +kernel
theorem dX8_unfold_199 : decode cX8_unfold 199 = .ok (.iconst 0, 1) := by decide +kernel
theorem dX8_unfold_200 : decode cX8_unfold 200 = .ok (.iadd, 1) := by decide +kernel
theorem dX8_unfold_201 : decode cX8_unfold 201 = .ok (.iaload, 1) := by decide +kernel
theorem dX8_unfold_202 : decode cX8_unfold 202 = .ok (.iastore, 1) := by decide +kernel
theorem dX8_unfold_203 : decode cX8_unfold 203 = .ok (.iinc 11 1, 3) := by decide +kernel
theorem dX8_unfold_206 : decode cX8_unfold 206 = .ok (.goto (-48), 3) := by decide +kernel
theorem dX8_unfold_209 : decode cX8_unfold 209 = .ok (.iload 5, 2) := by decide +kernel
theorem dX8_unfold_211 : decode cX8_unfold 211 = .ok (.iload 9, 2) := by decide +kernel
theorem dX8_unfold_213 : decode cX8_unfold 213 = .ok (.iadd, 1) := by decide +kernel
theorem dX8_unfold_214 : decode cX8_unfold 214 = .ok (.istore 5, 2) := by decide +kernel
theorem dX8_unfold_216 : decode cX8_unfold 216 = .ok (.iload 6, 2) := by decide +kernel
theorem dX8_unfold_218 : decode cX8_unfold 218 = .ok (.iconst 1, 1) := by decide +kernel
theorem dX8_unfold_219 : decode cX8_unfold 219 = .ok (.iload 10, 2) := by decide +kernel
theorem dX8_unfold_221 : decode cX8_unfold 221 = .ok (.iadd, 1) := by decide +kernel
theorem dX8_unfold_222 : decode cX8_unfold 222 = .ok (.iadd, 1) := by decide +kernel
theorem dX8_unfold_223 : decode cX8_unfold 223 = .ok (.istore 6, 2) := by decide +kernel
theorem dX8_unfold_225 : decode cX8_unfold 225 = .ok (.goto (-172), 3) := by decide +kernel
theorem dX8_unfold_228 : decode cX8_unfold 228 = .ok (.aload_n 0, 1) := by decide +kernel
theorem dX8_unfold_229 : decode cX8_unfold 229 = .ok (.getfield 28, 3) := by decide +kernel
theorem dX8_unfold_232 : decode cX8_unfold 232 = .ok (.bipush 20, 2) := by decide +kernel
theorem dX8_unfold_234 : decode cX8_unfold 234 = .ok (.iload 5, 2) := by decide +kernel
theorem dX8_unfold_236 : decode cX8_unfold 236 = .ok (.iastore, 1) := by decide +kernel
theorem dX8_unfold_237 : decode cX8_unfold 237 = .ok (.iload 5, 2) := by decide +kernel
theorem dX8_unfold_239 : decode cX8_unfold 239 = .ok (.iload_n 3, 1) := by decide +kernel
theorem dX8_unfold_240 : decode cX8_unfold 240 = .ok (.if_icmp .ne 7, 3) := by decide +kernel
theorem dX8_unfold_243 : decode cX8_unfold 243 = .ok (.iconst 1, 1) := by decide +kernel
theorem dX8_unfold_244 : decode cX8_unfold 244 = .ok (.goto 4, 3) := by decide +kernel
theorem dX8_unfold_247 : decode cX8_unfold 247 = .ok (.iconst 0, 1) := by decide +kernel
theorem dX8_unfold_248 : decode cX8_unfold 248 = .ok (.ireturn, 1) := by decide +kernel
theorem dX8_isCrc_0 : decode cX8_isCrc 0 = .ok (.aload_n 0, 1) := by decide +kernel
theorem dX8_isCrc_1 : decode cX8_isCrc 1 = .ok (.bipush 20, 2) := by decide +kernel
theorem dX8_isCrc_3 : decode cX8_isCrc 3 = .ok (.invokevirtual 117, 3) := by decide +kernel
theorem dX8_isCrc_6 : decode cX8_isCrc 6 = .ok (.istore_n 2, 1) := by decide +kernel
theorem dX8_isCrc_7 : decode cX8_isCrc 7 = .ok (.iconst 1, 1) := by decide +kernel
theorem dX8_isCrc_8 : decode cX8_isCrc 8 = .ok (.istore_n 3, 1) := by decide +kernel
theorem dX8_isCrc_9 : decode cX8_isCrc 9 = .ok (.iconst 0, 1) := by decide +kernel
theorem dX8_isCrc_10 : decode cX8_isCrc 10 = .ok (.istore 4, 2) := by decide +kernel
theorem dX8_isCrc_12 : decode cX8_isCrc 12 = .ok (.iload 4, 2) := by decide +kernel
theorem dX8_isCrc_14 : decode cX8_isCrc 14 = .ok (.iconst 4, 1) := by decide +kernel
theorem dX8_isCrc_15 : decode cX8_isCrc 15 = .ok (.if_icmp .ge 45, 3) := by decide +kernel
theorem dX8_isCrc_18 : decode cX8_isCrc 18 = .ok (.iload_n 3, 1) := by decide +kernel
theorem dX8_isCrc_19 : decode cX8_isCrc 19 = .ok (.ifCond .eq 33, 3) := by decide +kernel
theorem dX8_isCrc_22 : decode cX8_isCrc 22 = .ok (.aload_n 0, 1) := by decide +kernel
theorem dX8_isCrc_23 : decode cX8_isCrc 23 = .ok (.getfield 13, 3) := by decide +kernel
theorem dX8_isCrc_26 : decode cX8_isCrc 26 = .ok (.iload_n 1, 1) := by decide +kernel
theorem dX8_isCrc_27 : decode cX8_isCrc 27 = .ok (.bipush 6, 2) := by decide +kernel
theorem dX8_isCrc_29 : decode cX8_isCrc 29 = .ok (.iadd, 1) := by decide +kernel
theorem dX8_isCrc_30 : decode cX8_isCrc 30 = .ok (.iload 4, 2) := by decide +kernel
theorem dX8_isCrc_32 : decode cX8_isCrc 32 = .ok (.iadd, 1) := by decide +kernel
theorem dX8_isCrc_33 : decode cX8_isCrc 33 = .ok (.iaload, 1) := by decide +kernel
theorem dX8_isCrc_34 : decode cX8_isCrc 34 = .ok (.iload_n 2, 1) := by decide +kernel
theorem dX8_isCrc_35 : decode cX8_isCrc 35 = .ok (.bipush 8, 2) := by decide +kernel
theorem dX8_isCrc_37 : decode cX8_isCrc 37 = .ok (.iload 4, 2) := by decide +kernel
theorem dX8_isCrc_39 : decode cX8_isCrc 39 = .ok (.imul, 1) := by decide +kernel
theorem dX8_isCrc_40 : decode cX8_isCrc 40 = .ok (.ishr, 1) := by decide +kernel
theorem dX8_isCrc_41 : decode cX8_isCrc 41 = .ok (.sipush 255, 3) := by decide +kernel
theorem dX8_isCrc_44 : decode cX8_isCrc 44 = .ok (.iand, 1) := by decide +kernel
theorem dX8_isCrc_45 : decode cX8_isCrc 45 = .ok (.if_icmp .ne 7, 3) := by decide +kernel
theorem dX8_isCrc_48 : decode cX8_isCrc 48 = .ok (.iconst 1, 1) := by decide +kernel
theorem dX8_isCrc_49 : decode cX8_isCrc 49 = .ok (.goto 4, 3) := by decide +kernel
theorem dX8_isCrc_52 : decode cX8_isCrc 52 = .ok (.iconst 0, 1) := by decide +kernel
theorem dX8_isCrc_53 : decode cX8_isCrc 53 = .ok (.istore_n 3, 1) := by decide +kernel
theorem dX8_isCrc_54 : decode cX8_isCrc 54 = .ok (.iinc 4 1, 3) := by decide +kernel
theorem dX8_isCrc_57 : decode cX8_isCrc 57 = .ok (.goto (-45), 3) := by decide +kernel
theorem dX8_isCrc_60 : decode cX8_isCrc 60 = .ok (.iload_n 3, 1) := by decide +kernel
theorem dX8_isCrc_61 : decode cX8_isCrc 61 = .ok (.ireturn, 1) := by decide +kernel
theorem dX8_areBytes_0 : decode cX8_areBytes 0 = .ok (.lconst 0, 1) := by decide +kernel
theorem dX8_areBytes_1 : decode cX8_areBytes 1 = .ok (.lstore_n 2, 1) := by decide +kernel
theorem dX8_areBytes_2 : decode cX8_areBytes 2 = .ok (.iconst 0, 1) := by decide +kernel
theorem dX8_areBytes_3 : decode cX8_areBytes 3 = .ok (.istore 4, 2) := by decide +kernel
theorem dX8_areBytes_5 : decode cX8_areBytes 5 = .ok (.iload 4, 2) := by decide +kernel
theorem dX8_areBytes_7 : decode cX8_areBytes 7 = .ok (.iload_n 1, 1) := by decide +kernel
theorem dX8_areBytes_8 : decode cX8_areBytes 8 = .ok (.if_icmp .ge 123, 3) := by decide +kernel
theorem dX8_areBytes_11 : decode cX8_areBytes 11 = .ok (.aload_n 0, 1) := by decide +kernel
theorem dX8_areBytes_12 : decode cX8_areBytes 12 = .ok (.getfield 41, 3) := by decide +kernel
theorem dX8_areBytes_15 : decode cX8_areBytes 15 = .ok (.iload 4, 2) := by decide +kernel
theorem dX8_areBytes_17 : decode cX8_areBytes 17 = .ok (.iaload, 1) := by decide +kernel
theorem dX8_areBytes_18 : decode cX8_areBytes 18 = .ok (.bipush 10, 2) := by decide +kernel
theorem dX8_areBytes_20 : decode cX8_areBytes 20 = .ok (.iadd, 1) := by decide +kernel
theorem dX8_areBytes_21 : decode cX8_areBytes 21 = .ok (.istore 5, 2) := by decide +kernel
theorem dX8_areBytes_23 : decode cX8_areBytes 23 = .ok (.lload_n 2, 1) := by decide +kernel
theorem dX8_areBytes_24 : decode cX8_areBytes 24 = .ok (.aload_n 0, 1) := by decide +kernel
theorem dX8_areBytes_25 : decode cX8_areBytes 25 = .ok (.iload 5, 2) := by decide +kernel
theorem dX8_areBytes_27 : decode cX8_areBytes 27 = .ok (.bipush 14, 2) := by decide +kernel
theorem dX8_areBytes_29 : decode cX8_areBytes 29 = .ok (.iadd, 1) := by decide +kernel
theorem dX8_areBytes_30 : decode cX8_areBytes 30 = .ok (.iconst 4, 1) := by decide +kernel
theorem dX8_areBytes_31 : decode cX8_areBytes 31 = .ok (.invokevirtual 135, 3) := by decide +kernel
theorem dX8_areBytes_34 : decode cX8_areBytes 34 = .ok (.i2l, 1) := by decide +kernel
theorem dX8_areBytes_35 : decode cX8_areBytes 35 = .ok (.ladd, 1) := by decide +kernel
theorem dX8_areBytes_36 : decode cX8_areBytes 36 = .ok (.lstore_n 2, 1) := by decide +kernel
theorem dX8_areBytes_37 : decode cX8_areBytes 37 = .ok (.aload_n 0, 1) := by decide +kernel
theorem dX8_areBytes_38 : decode cX8_areBytes 38 = .ok (.iload 5, 2) := by decide +kernel
theorem dX8_areBytes_40 : decode cX8_areBytes 40 = .ok (.invokevirtual 166, 3) := by decide +kernel
theorem dX8_areBytes_43 : decode cX8_areBytes 43 = .ok (.ifCond .eq 11, 3) := by decide +kernel
theorem dX8_areBytes_46 : decode cX8_areBytes 46 = .ok (.lload_n 2, 1) := by decide +kernel
theorem dX8_areBytes_47 : decode cX8_areBytes 47 = .ok (.ldc2_w 169, 3) := by decide +kernel
theorem dX8_areBytes_50 : decode cX8_areBytes 50 = .ok (.lcmp, 1) := by decide +kernel
theorem dX8_areBytes_51 : decode cX8_areBytes 51 = .ok (.ifCond .le 18, 3) := by decide +kernel
theorem dX8_areBytes_54 : decode cX8_areBytes 54 = .ok (.aload_n 0, 1) := by decide +kernel
theorem dX8_areBytes_55 : decode cX8_areBytes 55 = .ok (.iconst 4, 1) := by decide +kernel
theorem dX8_areBytes_56 : decode cX8_areBytes 56 = .ok (.iload 4, 2) := by decide +kernel
theorem dX8_areBytes_58 : decode cX8_areBytes 58 = .ok (.aload_n 0, 1) := by decide +kernel
theorem dX8_areBytes_59 : decode cX8_areBytes 59 = .ok (.getfield 44, 3) := by decide +kernel
theorem dX8_areBytes_62 : decode cX8_areBytes 62 = .ok (.iload 4, 2) := by decide +kernel
theorem dX8_areBytes_64 : decode cX8_areBytes 64 = .ok (.iaload, 1) := by decide +kernel
theorem dX8_areBytes_65 : decode cX8_areBytes 65 = .ok (.invokevirtual 157, 3) := by decide +kernel
theorem dX8_areBytes_68 : decode cX8_areBytes 68 = .ok (.ireturn, 1) := by decide +kernel
theorem dX8_areBytes_69 : decode cX8_areBytes 69 = .ok (.aload_n 0, 1) := by decide +kernel
theorem dX8_areBytes_70 : decode cX8_areBytes 70 = .ok (.aload_n 0, 1) := by decide +kernel
theorem dX8_areBytes_71 : decode cX8_areBytes 71 = .ok (.getfield 44, 3) := by decide +kernel
theorem dX8_areBytes_74 : decode cX8_areBytes 74 = .ok (.iload 4, 2) := by decide +kernel
theorem dX8_areBytes_76 : decode cX8_areBytes 76 = .ok (.iaload, 1) := by decide +kernel
theorem dX8_areBytes_77 : decode cX8_areBytes 77 = .ok (.iload 5, 2) := by decide +kernel
theorem dX8_areBytes_79 : decode cX8_areBytes 79 = .ok (.invokevirtual 171, 3) := by decide +kernel
theorem dX8_areBytes_82 : decode cX8_areBytes 82 = .ok (.ifCond .ne 18, 3) := by decide +kernel
theorem dX8_areBytes_85 : decode cX8_areBytes 85 = .ok (.aload_n 0, 1) := by decide +kernel
theorem dX8_areBytes_86 : decode cX8_areBytes 86 = .ok (.iconst 5, 1) := by decide +kernel
theorem dX8_areBytes_87 : decode cX8_areBytes 87 = .ok (.iload 4, 2) := by decide +kernel
theorem dX8_areBytes_89 : decode cX8_areBytes 89 = .ok (.aload_n 0, 1) := by decide +kernel
theorem dX8_areBytes_90 : decode cX8_areBytes 90 = .ok (.getfield 44, 3) := by decide +kernel
theorem dX8_areBytes_93 : decode cX8_areBytes 93 = .ok (.iload 4, 2) := by decide +kernel
theorem dX8_areBytes_95 : decode cX8_areBytes 95 = .ok (.iaload, 1) := by decide +kernel
theorem dX8_areBytes_96 : decode cX8_areBytes 96 = .ok (.invokevirtual 157, 3) := by decide +kernel
theorem dX8_areBytes_99 : decode cX8_areBytes 99 = .ok (.ireturn, 1) := by decide +kernel
theorem dX8_areBytes_100 : decode cX8_areBytes 100 = .ok (.aload_n 0, 1) := by decide +kernel
theorem dX8_areBytes_101 : decode cX8_areBytes 101 = .ok (.iload 5, 2) := by decide +kernel
theorem dX8_areBytes_103 : decode cX8_areBytes 103 = .ok (.invokevirtual 174, 3) := by decide +kernel
theorem dX8_areBytes_106 : decode cX8_areBytes 106 = .ok (.ifCond .ne 19, 3) := by decide +kernel
theorem dX8_areBytes_109 : decode cX8_areBytes 109 = .ok (.aload_n 0, 1) := by decide +kernel
theorem dX8_areBytes_110 : decode cX8_areBytes 110 = .ok (.bipush 6, 2) := by decide +kernel
theorem dX8_areBytes_112 : decode cX8_areBytes 112 = .ok (.iload 4, 2) := by decide +kernel
theorem dX8_areBytes_114 : decode cX8_areBytes 114 = .ok (.aload_n 0, 1) := by decide +kernel
theorem dX8_areBytes_115 : decode cX8_areBytes 115 = .ok (.getfield 44, 3) := by decide +kernel
theorem dX8_areBytes_118 : decode cX8_areBytes 118 = .ok (.iload 4, 2) := by decide +kernel
theorem dX8_areBytes_120 : decode cX8_areBytes 120 = .ok (.iaload, 1) := by decide +kernel
theorem dX8_areBytes_121 : decode cX8_areBytes 121 = .ok (.invokevirtual 157, 3) := by decide +kernel
theorem dX8_areBytes_124 : decode cX8_areBytes 124 = .ok (.ireturn, 1) := by decide +kernel
theorem dX8_areBytes_125 : decode cX8_areBytes 125 = .ok (.iinc 4 1, 3) := by decide +kernel
theorem dX8_areBytes_128 : decode cX8_areBytes 128 = .ok (.goto (-123), 3) := by decide +kernel
theorem dX8_areBytes_131 : decode cX8_areBytes 131 = .ok (.iconst 1, 1) := by decide +kernel
theorem dX8_areBytes_132 : decode cX8_areBytes 132 = .ok (.ireturn, 1) := by decide +kernel
theorem dX8_read_0 : decode cX8_read 0 = .ok (.aload_n 0, 1) := by decide +kernel
theorem dX8_read_1 : decode cX8_read 1 = .ok (.iconst 0, 1) := by decide +kernel
theorem dX8_read_2 : decode cX8_read 2 = .ok (.putfield 138, 3) := by decide +kernel
theorem dX8_read_5 : decode cX8_read 5 = .ok (.aload_n 0, 1) := by decide +kernel
theorem dX8_read_6 : decode cX8_read 6 = .ok (.iconst (-1), 1) := by decide +kernel
theorem dX8_read_7 : decode cX8_read 7 = .ok (.putfield 31, 3) := by decide +kernel
theorem dX8_read_10 : decode cX8_read 10 = .ok (.aload_n 0, 1) := by decide +kernel
theorem dX8_read_11 : decode cX8_read 11 = .ok (.iconst (-1), 1) := by decide +kernel
theorem dX8_read_12 : decode cX8_read 12 = .ok (.putfield 35, 3) := by decide +kernel
theorem dX8_read_15 : decode cX8_read 15 = .ok (.aload_n 0, 1) := by decide +kernel
theorem dX8_read_16 : decode cX8_read 16 = .ok (.invokevirtual 177, 3) := by decide +kernel
theorem dX8_read_19 : decode cX8_read 19 = .ok (.istore_n 1, 1) := by decide +kernel
theorem dX8_read_20 : decode cX8_read 20 = .ok (.iload_n 1, 1) := by decide +kernel
theorem dX8_read_21 : decode cX8_read 21 = .ok (.iconst (-1), 1) := by decide +kernel
theorem dX8_read_22 : decode cX8_read 22 = .ok (.if_icmp .ne 32, 3) := by decide +kernel
theorem dX8_read_25 : decode cX8_read 25 = .ok (.aload_n 0, 1) := by decide +kernel
theorem dX8_read_26 : decode cX8_read 26 = .ok (.iconst 1, 1) := by decide +kernel
theorem dX8_read_27 : decode cX8_read 27 = .ok (.iconst (-1), 1) := by decide +kernel
theorem dX8_read_28 : decode cX8_read 28 = .ok (.aload_n 0, 1) := by decide +kernel
theorem dX8_read_29 : decode cX8_read 29 = .ok (.getfield 53, 3) := by decide +kernel
theorem dX8_read_32 : decode cX8_read 32 = .ok (.bipush 22, 2) := by decide +kernel
theorem dX8_read_34 : decode cX8_read 34 = .ok (.if_icmp .ge 7, 3) := by decide +kernel
theorem dX8_read_37 : decode cX8_read 37 = .ok (.iconst 0, 1) := by decide +kernel
theorem dX8_read_38 : decode cX8_read 38 = .ok (.goto 10, 3) := by decide +kernel
theorem dX8_read_41 : decode cX8_read 41 = .ok (.aload_n 0, 1) := by decide +kernel
theorem dX8_read_42 : decode cX8_read 42 = .ok (.getfield 53, 3) := by decide +kernel
theorem dX8_read_45 : decode cX8_read 45 = .ok (.bipush 22, 2) := by decide +kernel
theorem dX8_read_47 : decode cX8_read 47 = .ok (.isub, 1) := by decide +kernel
theorem dX8_read_48 : decode cX8_read 48 = .ok (.invokevirtual 157, 3) := by decide +kernel
theorem dX8_read_51 : decode cX8_read 51 = .ok (.ifCond .eq 7, 3) := by decide +kernel
theorem dX8_read_54 : decode cX8_read 54 = .ok (.iconst 1, 1) := by decide +kernel
theorem dX8_read_55 : decode cX8_read 55 = .ok (.goto 4, 3) := by decide +kernel
theorem dX8_read_58 : decode cX8_read 58 = .ok (.iconst 0, 1) := by decide +kernel
theorem dX8_read_59 : decode cX8_read 59 = .ok (.istore_n 2, 1) := by decide +kernel
theorem dX8_read_60 : decode cX8_read 60 = .ok (.iload_n 2, 1) := by decide +kernel
theorem dX8_read_61 : decode cX8_read 61 = .ok (.ifCond .eq 15, 3) := by decide +kernel
theorem dX8_read_64 : decode cX8_read 64 = .ok (.aload_n 0, 1) := by decide +kernel
theorem dX8_read_65 : decode cX8_read 65 = .ok (.iload_n 1, 1) := by decide +kernel
theorem dX8_read_66 : decode cX8_read 66 = .ok (.bipush 8, 2) := by decide +kernel
theorem dX8_read_68 : decode cX8_read 68 = .ok (.iadd, 1) := by decide +kernel
theorem dX8_read_69 : decode cX8_read 69 = .ok (.iconst 2, 1) := by decide +kernel
theorem dX8_read_70 : decode cX8_read 70 = .ok (.invokevirtual 135, 3) := by decide +kernel
theorem dX8_read_73 : decode cX8_read 73 = .ok (.goto 4, 3) := by decide +kernel
theorem dX8_read_76 : decode cX8_read 76 = .ok (.iconst 0, 1) := by decide +kernel
theorem dX8_read_77 : decode cX8_read 77 = .ok (.istore_n 3, 1) := by decide +kernel
theorem dX8_read_78 : decode cX8_read 78 = .ok (.iload_n 2, 1) := by decide +kernel
theorem dX8_read_79 : decode cX8_read 79 = .ok (.ifCond .eq 33, 3) := by decide +kernel
theorem dX8_read_82 : decode cX8_read 82 = .ok (.aload_n 0, 1) := by decide +kernel
theorem dX8_read_83 : decode cX8_read 83 = .ok (.iload_n 3, 1) := by decide +kernel
theorem dX8_read_84 : decode cX8_read 84 = .ok (.iload_n 1, 1) := by decide +kernel
theorem dX8_read_85 : decode cX8_read 85 = .ok (.invokevirtual 180, 3) := by decide +kernel
theorem dX8_read_88 : decode cX8_read 88 = .ok (.ifCond .eq 24, 3) := by decide +kernel
theorem dX8_read_91 : decode cX8_read 91 = .ok (.aload_n 0, 1) := by decide +kernel
theorem dX8_read_92 : decode cX8_read 92 = .ok (.iload_n 3, 1) := by decide +kernel
theorem dX8_read_93 : decode cX8_read 93 = .ok (.iload_n 1, 1) := by decide +kernel
theorem dX8_read_94 : decode cX8_read 94 = .ok (.invokevirtual 183, 3) := by decide +kernel
theorem dX8_read_97 : decode cX8_read 97 = .ok (.ifCond .eq 15, 3) := by decide +kernel
theorem dX8_read_100 : decode cX8_read 100 = .ok (.aload_n 0, 1) := by decide +kernel
theorem dX8_read_101 : decode cX8_read 101 = .ok (.iload_n 3, 1) := by decide +kernel
theorem dX8_read_102 : decode cX8_read 102 = .ok (.invokevirtual 186, 3) := by decide +kernel
theorem dX8_read_105 : decode cX8_read 105 = .ok (.ifCond .eq 7, 3) := by decide +kernel
theorem dX8_read_108 : decode cX8_read 108 = .ok (.iconst 1, 1) := by decide +kernel
theorem dX8_read_109 : decode cX8_read 109 = .ok (.goto 4, 3) := by decide +kernel
theorem dX8_read_112 : decode cX8_read 112 = .ok (.iconst 0, 1) := by decide +kernel
theorem dX8_read_113 : decode cX8_read 113 = .ok (.istore_n 2, 1) := by decide +kernel
theorem dX8_read_114 : decode cX8_read 114 = .ok (.aload_n 0, 1) := by decide +kernel
theorem dX8_read_115 : decode cX8_read 115 = .ok (.iload_n 2, 1) := by decide +kernel
theorem dX8_read_116 : decode cX8_read 116 = .ok (.ifCond .eq 7, 3) := by decide +kernel
theorem dX8_read_119 : decode cX8_read 119 = .ok (.iconst 0, 1) := by decide +kernel
theorem dX8_read_120 : decode cX8_read 120 = .ok (.goto 4, 3) := by decide +kernel
theorem dX8_read_123 : decode cX8_read 123 = .ok (.iconst 1, 1) := by decide +kernel
theorem dX8_read_124 : decode cX8_read 124 = .ok (.putfield 50, 3) := by decide +kernel
theorem dX8_read_127 : decode cX8_read 127 = .ok (.iload_n 2, 1) := by decide +kernel
theorem dX8_read_128 : decode cX8_read 128 = .ok (.ifCond .ne 5, 3) := by decide +kernel
theorem dX8_read_131 : decode cX8_read 131 = .ok (.iconst 0, 1) := by decide +kernel
theorem dX8_read_132 : decode cX8_read 132 = .ok (.ireturn, 1) := by decide +kernel
theorem dX8_read_133 : decode cX8_read 133 = .ok (.aload_n 0, 1) := by decide +kernel
theorem dX8_read_134 : decode cX8_read 134 = .ok (.iconst 0, 1) := by decide +kernel
theorem dX8_read_135 : decode cX8_read 135 = .ok (.putfield 59, 3) := by decide +kernel
theorem dX8_read_138 : decode cX8_read 138 = .ok (.iconst 0, 1) := by decide +kernel
theorem dX8_read_139 : decode cX8_read 139 = .ok (.istore 4, 2) := by decide +kernel
theorem dX8_read_141 : decode cX8_read 141 = .ok (.iload 4, 2) := by decide +kernel
theorem dX8_read_143 : decode cX8_read 143 = .ok (.iload_n 3, 1) := by decide +kernel
theorem dX8_read_144 : decode cX8_read 144 = .ok (.if_icmp .ge 55, 3) := by decide +kernel
theorem dX8_read_147 : decode cX8_read 147 = .ok (.aload_n 0, 1) := by decide +kernel
theorem dX8_read_148 : decode cX8_read 148 = .ok (.aload_n 0, 1) := by decide +kernel
theorem dX8_read_149 : decode cX8_read 149 = .ok (.getfield 41, 3) := by decide +kernel
theorem dX8_read_152 : decode cX8_read 152 = .ok (.iload 4, 2) := by decide +kernel
theorem dX8_read_154 : decode cX8_read 154 = .ok (.iaload, 1) := by decide +kernel
theorem dX8_read_155 : decode cX8_read 155 = .ok (.bipush 46, 2) := by decide +kernel
theorem dX8_read_157 : decode cX8_read 157 = .ok (.iadd, 1) := by decide +kernel
theorem dX8_read_158 : decode cX8_read 158 = .ok (.aload_n 0, 1) := by decide +kernel
theorem dX8_read_159 : decode cX8_read 159 = .ok (.aload_n 0, 1) := by decide +kernel
theorem dX8_read_160 : decode cX8_read 160 = .ok (.getfield 41, 3) := by decide +kernel
theorem dX8_read_163 : decode cX8_read 163 = .ok (.iload 4, 2) := by decide +kernel
theorem dX8_read_165 : decode cX8_read 165 = .ok (.iaload, 1) := by decide +kernel
theorem dX8_read_166 : decode cX8_read 166 = .ok (.bipush 28, 2) := by decide +kernel
theorem dX8_read_168 : decode cX8_read 168 = .ok (.iadd, 1) := by decide +kernel
theorem dX8_read_169 : decode cX8_read 169 = .ok (.iconst 2, 1) := by decide +kernel
theorem dX8_read_170 : decode cX8_read 170 = .ok (.invokevirtual 135, 3) := by decide +kernel
theorem dX8_read_173 : decode cX8_read 173 = .ok (.aload_n 0, 1) := by decide +kernel
theorem dX8_read_174 : decode cX8_read 174 = .ok (.getfield 44, 3) := by decide +kernel
theorem dX8_read_177 : decode cX8_read 177 = .ok (.iload 4, 2) := by decide +kernel
theorem dX8_read_179 : decode cX8_read 179 = .ok (.iaload, 1) := by decide +kernel
theorem dX8_read_180 : decode cX8_read 180 = .ok (.aload_n 0, 1) := by decide +kernel
theorem dX8_read_181 : decode cX8_read 181 = .ok (.getfield 41, 3) := by decide +kernel
theorem dX8_read_184 : decode cX8_read 184 = .ok (.iload 4, 2) := by decide +kernel
theorem dX8_read_186 : decode cX8_read 186 = .ok (.iaload, 1) := by decide +kernel
theorem dX8_read_187 : decode cX8_read 187 = .ok (.bipush 10, 2) := by decide +kernel
theorem dX8_read_189 : decode cX8_read 189 = .ok (.iadd, 1) := by decide +kernel
theorem dX8_read_190 : decode cX8_read 190 = .ok (.invokevirtual 189, 3) := by decide +kernel
theorem dX8_read_193 : decode cX8_read 193 = .ok (.iinc 4 1, 3) := by decide +kernel
theorem dX8_read_196 : decode cX8_read 196 = .ok (.goto (-55), 3) := by decide +kernel
theorem dX8_read_199 : decode cX8_read 199 = .ok (.aload_n 0, 1) := by decide +kernel
theorem dX8_read_200 : decode cX8_read 200 = .ok (.getfield 59, 3) := by decide +kernel
theorem dX8_read_203 : decode cX8_read 203 = .ok (.ireturn, 1) := by decide +kernel
theorem dX8_append_0 : decode cX8_append 0 = .ok (.aload_n 0, 1) := by decide +kernel
theorem dX8_append_1 : decode cX8_append 1 = .ok (.iload_n 3, 1) := by decide +kernel
theorem dX8_append_2 : decode cX8_append 2 = .ok (.iload 4, 2) := by decide +kernel
theorem dX8_append_4 : decode cX8_append 4 = .ok (.invokevirtual 171, 3) := by decide +kernel
theorem dX8_append_7 : decode cX8_append 7 = .ok (.istore 5, 2) := by decide +kernel
theorem dX8_append_9 : decode cX8_append 9 = .ok (.aload_n 0, 1) := by decide +kernel
theorem dX8_append_10 : decode cX8_append 10 = .ok (.bipush 20, 2) := by decide +kernel
theorem dX8_append_12 : decode cX8_append 12 = .ok (.iload_n 1, 1) := by decide +kernel
theorem dX8_append_13 : decode cX8_append 13 = .ok (.iload_n 2, 1) := by decide +kernel
theorem dX8_append_14 : decode cX8_append 14 = .ok (.invokevirtual 78, 3) := by decide +kernel
theorem dX8_append_17 : decode cX8_append 17 = .ok (.aload_n 0, 1) := by decide +kernel
theorem dX8_append_18 : decode cX8_append 18 = .ok (.bipush 20, 2) := by decide +kernel
theorem dX8_append_20 : decode cX8_append 20 = .ok (.aload_n 0, 1) := by decide +kernel
theorem dX8_append_21 : decode cX8_append 21 = .ok (.getfield 59, 3) := by decide +kernel
theorem dX8_append_24 : decode cX8_append 24 = .ok (.invokevirtual 62, 3) := by decide +kernel
theorem dX8_append_27 : decode cX8_append 27 = .ok (.aload_n 0, 1) := by decide +kernel
theorem dX8_append_28 : decode cX8_append 28 = .ok (.dup, 1) := by decide +kernel
theorem dX8_append_29 : decode cX8_append 29 = .ok (.getfield 59, 3) := by decide +kernel
theorem dX8_append_32 : decode cX8_append 32 = .ok (.iconst 1, 1) := by decide +kernel
theorem dX8_append_33 : decode cX8_append 33 = .ok (.iadd, 1) := by decide +kernel
theorem dX8_append_34 : decode cX8_append 34 = .ok (.putfield 59, 3) := by decide +kernel
theorem dX8_append_37 : decode cX8_append 37 = .ok (.return_, 1) := by decide +kernel
theorem dX8_fault_0 : decode cX8_fault 0 = .ok (.aload_n 0, 1) := by decide +kernel
theorem dX8_fault_1 : decode cX8_fault 1 = .ok (.iconst 0, 1) := by decide +kernel
theorem dX8_fault_2 : decode cX8_fault 2 = .ok (.putfield 50, 3) := by decide +kernel
theorem dX8_fault_5 : decode cX8_fault 5 = .ok (.iload_n 1, 1) := by decide +kernel
theorem dX8_fault_6 : decode cX8_fault 6 = .ok (.ifCond .ne 10, 3) := by decide +kernel
theorem dX8_fault_9 : decode cX8_fault 9 = .ok (.aload_n 0, 1) := by decide +kernel
theorem dX8_fault_10 : decode cX8_fault 10 = .ok (.getfield 138, 3) := by decide +kernel
theorem dX8_fault_13 : decode cX8_fault 13 = .ok (.goto 28, 3) := by decide +kernel
theorem dX8_fault_16 : decode cX8_fault 16 = .ok (.iload_n 1, 1) := by decide +kernel
theorem dX8_fault_17 : decode cX8_fault 17 = .ok (.iconst 1, 1) := by decide +kernel
theorem dX8_fault_18 : decode cX8_fault 18 = .ok (.if_icmp .ne 10, 3) := by decide +kernel
theorem dX8_fault_21 : decode cX8_fault 21 = .ok (.aload_n 0, 1) := by decide +kernel
theorem dX8_fault_22 : decode cX8_fault 22 = .ok (.getfield 31, 3) := by decide +kernel
theorem dX8_fault_25 : decode cX8_fault 25 = .ok (.goto 16, 3) := by decide +kernel
theorem dX8_fault_28 : decode cX8_fault 28 = .ok (.iload_n 1, 1) := by decide +kernel
theorem dX8_fault_29 : decode cX8_fault 29 = .ok (.iconst 2, 1) := by decide +kernel
theorem dX8_fault_30 : decode cX8_fault 30 = .ok (.if_icmp .ne 10, 3) := by decide +kernel
theorem dX8_fault_33 : decode cX8_fault 33 = .ok (.aload_n 0, 1) := by decide +kernel
theorem dX8_fault_34 : decode cX8_fault 34 = .ok (.getfield 35, 3) := by decide +kernel
theorem dX8_fault_37 : decode cX8_fault 37 = .ok (.goto 4, 3) := by decide +kernel
theorem dX8_fault_40 : decode cX8_fault 40 = .ok (.iconst (-1), 1) := by decide +kernel
theorem dX8_fault_41 : decode cX8_fault 41 = .ok (.ireturn, 1) := by decide +kernel
theorem dX8_saved_0 : decode cX8_saved 0 = .ok (.iload_n 1, 1) := by decide +kernel
theorem dX8_saved_1 : decode cX8_saved 1 = .ok (.bipush 30, 2) := by decide +kernel
theorem dX8_saved_3 : decode cX8_saved 3 = .ok (.iadd, 1) := by decide +kernel
theorem dX8_saved_4 : decode cX8_saved 4 = .ok (.aload_n 0, 1) := by decide +kernel
theorem dX8_saved_5 : decode cX8_saved 5 = .ok (.getfield 53, 3) := by decide +kernel
theorem dX8_saved_8 : decode cX8_saved 8 = .ok (.if_icmp .gt 50, 3) := by decide +kernel
theorem dX8_saved_11 : decode cX8_saved 11 = .ok (.aload_n 0, 1) := by decide +kernel
theorem dX8_saved_12 : decode cX8_saved 12 = .ok (.iload_n 1, 1) := by decide +kernel
theorem dX8_saved_13 : decode cX8_saved 13 = .ok (.iconst 3, 1) := by decide +kernel
theorem dX8_saved_14 : decode cX8_saved 14 = .ok (.iconst 4, 1) := by decide +kernel
theorem dX8_saved_15 : decode cX8_saved 15 = .ok (.invokevirtual 145, 3) := by decide +kernel
theorem dX8_saved_18 : decode cX8_saved 18 = .ok (.ifCond .eq 40, 3) := by decide +kernel
theorem dX8_saved_21 : decode cX8_saved 21 = .ok (.aload_n 0, 1) := by decide +kernel
theorem dX8_saved_22 : decode cX8_saved 22 = .ok (.iload_n 1, 1) := by decide +kernel
theorem dX8_saved_23 : decode cX8_saved 23 = .ok (.iconst 4, 1) := by decide +kernel
theorem dX8_saved_24 : decode cX8_saved 24 = .ok (.iadd, 1) := by decide +kernel
theorem dX8_saved_25 : decode cX8_saved 25 = .ok (.iconst 2, 1) := by decide +kernel
theorem dX8_saved_26 : decode cX8_saved 26 = .ok (.bipush 20, 2) := by decide +kernel
theorem dX8_saved_28 : decode cX8_saved 28 = .ok (.invokevirtual 141, 3) := by decide +kernel
theorem dX8_saved_31 : decode cX8_saved 31 = .ok (.ifCond .eq 27, 3) := by decide +kernel
theorem dX8_saved_34 : decode cX8_saved 34 = .ok (.aload_n 0, 1) := by decide +kernel
theorem dX8_saved_35 : decode cX8_saved 35 = .ok (.iload_n 1, 1) := by decide +kernel
theorem dX8_saved_36 : decode cX8_saved 36 = .ok (.bipush 6, 2) := by decide +kernel
theorem dX8_saved_38 : decode cX8_saved 38 = .ok (.iadd, 1) := by decide +kernel
theorem dX8_saved_39 : decode cX8_saved 39 = .ok (.invokevirtual 148, 3) := by decide +kernel
theorem dX8_saved_42 : decode cX8_saved 42 = .ok (.ifCond .eq 16, 3) := by decide +kernel
theorem dX8_saved_45 : decode cX8_saved 45 = .ok (.aload_n 0, 1) := by decide +kernel
theorem dX8_saved_46 : decode cX8_saved 46 = .ok (.iload_n 1, 1) := by decide +kernel
theorem dX8_saved_47 : decode cX8_saved 47 = .ok (.bipush 28, 2) := by decide +kernel
theorem dX8_saved_49 : decode cX8_saved 49 = .ok (.iadd, 1) := by decide +kernel
theorem dX8_saved_50 : decode cX8_saved 50 = .ok (.iconst 2, 1) := by decide +kernel
theorem dX8_saved_51 : decode cX8_saved 51 = .ok (.iconst 0, 1) := by decide +kernel
theorem dX8_saved_52 : decode cX8_saved 52 = .ok (.invokevirtual 141, 3) := by decide +kernel
theorem dX8_saved_55 : decode cX8_saved 55 = .ok (.ifCond .ne 5, 3) := by decide +kernel
theorem dX8_saved_58 : decode cX8_saved 58 = .ok (.iconst 0, 1) := by decide +kernel
theorem dX8_saved_59 : decode cX8_saved 59 = .ok (.ireturn, 1) := by decide +kernel
theorem dX8_saved_60 : decode cX8_saved 60 = .ok (.aload_n 0, 1) := by decide +kernel
theorem dX8_saved_61 : decode cX8_saved 61 = .ok (.iload_n 1, 1) := by decide +kernel
theorem dX8_saved_62 : decode cX8_saved 62 = .ok (.bipush 26, 2) := by decide +kernel
theorem dX8_saved_64 : decode cX8_saved 64 = .ok (.iadd, 1) := by decide +kernel
theorem dX8_saved_65 : decode cX8_saved 65 = .ok (.iconst 2, 1) := by decide +kernel
theorem dX8_saved_66 : decode cX8_saved 66 = .ok (.invokevirtual 135, 3) := by decide +kernel
theorem dX8_saved_69 : decode cX8_saved 69 = .ok (.istore_n 2, 1) := by decide +kernel
theorem dX8_saved_70 : decode cX8_saved 70 = .ok (.aload_n 0, 1) := by decide +kernel
theorem dX8_saved_71 : decode cX8_saved 71 = .ok (.iload_n 1, 1) := by decide +kernel
theorem dX8_saved_72 : decode cX8_saved 72 = .ok (.bipush 18, 2) := by decide +kernel
theorem dX8_saved_74 : decode cX8_saved 74 = .ok (.iadd, 1) := by decide +kernel
theorem dX8_saved_75 : decode cX8_saved 75 = .ok (.iconst 4, 1) := by decide +kernel
theorem dX8_saved_76 : decode cX8_saved 76 = .ok (.invokevirtual 135, 3) := by decide +kernel
theorem dX8_saved_79 : decode cX8_saved 79 = .ok (.istore_n 3, 1) := by decide +kernel
theorem dX8_saved_80 : decode cX8_saved 80 = .ok (.iload_n 1, 1) := by decide +kernel
theorem dX8_saved_81 : decode cX8_saved 81 = .ok (.i2l, 1) := by decide +kernel
theorem dX8_saved_82 : decode cX8_saved 82 = .ok (.ldc2_w 160, 3) := by decide +kernel
theorem dX8_saved_85 : decode cX8_saved 85 = .ok (.ladd, 1) := by decide +kernel
theorem dX8_saved_86 : decode cX8_saved 86 = .ok (.iload_n 2, 1) := by decide +kernel
theorem dX8_saved_87 : decode cX8_saved 87 = .ok (.i2l, 1) := by decide +kernel
theorem dX8_saved_88 : decode cX8_saved 88 = .ok (.ladd, 1) := by decide +kernel
theorem dX8_saved_89 : decode cX8_saved 89 = .ok (.iload_n 3, 1) := by decide +kernel
theorem dX8_saved_90 : decode cX8_saved 90 = .ok (.i2l, 1) := by decide +kernel
theorem dX8_saved_91 : decode cX8_saved 91 = .ok (.ladd, 1) := by decide +kernel
theorem dX8_saved_92 : decode cX8_saved 92 = .ok (.aload_n 0, 1) := by decide +kernel
theorem dX8_saved_93 : decode cX8_saved 93 = .ok (.getfield 53, 3) := by decide +kernel
theorem dX8_saved_96 : decode cX8_saved 96 = .ok (.i2l, 1) := by decide +kernel
theorem dX8_saved_97 : decode cX8_saved 97 = .ok (.lcmp, 1) := by decide +kernel
theorem dX8_saved_98 : decode cX8_saved 98 = .ok (.ifCond .gt 26, 3) := by decide +kernel
theorem dX8_saved_101 : decode cX8_saved 101 = .ok (.aload_n 0, 1) := by decide +kernel
theorem dX8_saved_102 : decode cX8_saved 102 = .ok (.iload_n 1, 1) := by decide +kernel
theorem dX8_saved_103 : decode cX8_saved 103 = .ok (.bipush 30, 2) := by decide +kernel
theorem dX8_saved_105 : decode cX8_saved 105 = .ok (.iadd, 1) := by decide +kernel
theorem dX8_saved_106 : decode cX8_saved 106 = .ok (.iload_n 2, 1) := by decide +kernel
theorem dX8_saved_107 : decode cX8_saved 107 = .ok (.invokevirtual 66, 3) := by decide +kernel
theorem dX8_saved_110 : decode cX8_saved 110 = .ok (.ifCond .eq 14, 3) := by decide +kernel
theorem dX8_saved_113 : decode cX8_saved 113 = .ok (.aload_n 0, 1) := by decide +kernel
theorem dX8_saved_114 : decode cX8_saved 114 = .ok (.iload_n 1, 1) := by decide +kernel
theorem dX8_saved_115 : decode cX8_saved 115 = .ok (.bipush 8, 2) := by decide +kernel
theorem dX8_saved_117 : decode cX8_saved 117 = .ok (.iadd, 1) := by decide +kernel
theorem dX8_saved_118 : decode cX8_saved 118 = .ok (.invokevirtual 166, 3) := by decide +kernel
theorem dX8_saved_121 : decode cX8_saved 121 = .ok (.ifCond .ne 5, 3) := by decide +kernel
theorem dX8_saved_124 : decode cX8_saved 124 = .ok (.iconst 0, 1) := by decide +kernel
theorem dX8_saved_125 : decode cX8_saved 125 = .ok (.ireturn, 1) := by decide +kernel
theorem dX8_saved_126 : decode cX8_saved 126 = .ok (.aload_n 0, 1) := by decide +kernel
theorem dX8_saved_127 : decode cX8_saved 127 = .ok (.iload_n 1, 1) := by decide +kernel
theorem dX8_saved_128 : decode cX8_saved 128 = .ok (.bipush 30, 2) := by decide +kernel
theorem dX8_saved_130 : decode cX8_saved 130 = .ok (.iadd, 1) := by decide +kernel
theorem dX8_saved_131 : decode cX8_saved 131 = .ok (.iload_n 2, 1) := by decide +kernel
theorem dX8_saved_132 : decode cX8_saved 132 = .ok (.iadd, 1) := by decide +kernel
theorem dX8_saved_133 : decode cX8_saved 133 = .ok (.iload_n 1, 1) := by decide +kernel
theorem dX8_saved_134 : decode cX8_saved 134 = .ok (.bipush 8, 2) := by decide +kernel
theorem dX8_saved_136 : decode cX8_saved 136 = .ok (.iadd, 1) := by decide +kernel
theorem dX8_saved_137 : decode cX8_saved 137 = .ok (.invokevirtual 171, 3) := by decide +kernel
theorem dX8_saved_140 : decode cX8_saved 140 = .ok (.ifCond .eq 14, 3) := by decide +kernel
theorem dX8_saved_143 : decode cX8_saved 143 = .ok (.aload_n 0, 1) := by decide +kernel
theorem dX8_saved_144 : decode cX8_saved 144 = .ok (.iload_n 1, 1) := by decide +kernel
theorem dX8_saved_145 : decode cX8_saved 145 = .ok (.bipush 8, 2) := by decide +kernel
theorem dX8_saved_147 : decode cX8_saved 147 = .ok (.iadd, 1) := by decide +kernel
theorem dX8_saved_148 : decode cX8_saved 148 = .ok (.invokevirtual 174, 3) := by decide +kernel
theorem dX8_saved_151 : decode cX8_saved 151 = .ok (.ifCond .ne 5, 3) := by decide +kernel
theorem dX8_saved_154 : decode cX8_saved 154 = .ok (.iconst 0, 1) := by decide +kernel
theorem dX8_saved_155 : decode cX8_saved 155 = .ok (.ireturn, 1) := by decide +kernel
theorem dX8_saved_156 : decode cX8_saved 156 = .ok (.aload_n 0, 1) := by decide +kernel
theorem dX8_saved_157 : decode cX8_saved 157 = .ok (.iload_n 1, 1) := by decide +kernel
theorem dX8_saved_158 : decode cX8_saved 158 = .ok (.bipush 30, 2) := by decide +kernel
theorem dX8_saved_160 : decode cX8_saved 160 = .ok (.iadd, 1) := by decide +kernel
theorem dX8_saved_161 : decode cX8_saved 161 = .ok (.iload_n 2, 1) := by decide +kernel
theorem dX8_saved_162 : decode cX8_saved 162 = .ok (.aload_n 0, 1) := by decide +kernel
theorem dX8_saved_163 : decode cX8_saved 163 = .ok (.getfield 59, 3) := by decide +kernel
theorem dX8_saved_166 : decode cX8_saved 166 = .ok (.invokevirtual 70, 3) := by decide +kernel
theorem dX8_saved_169 : decode cX8_saved 169 = .ok (.istore 4, 2) := by decide +kernel
theorem dX8_saved_171 : decode cX8_saved 171 = .ok (.aload_n 0, 1) := by decide +kernel
theorem dX8_saved_172 : decode cX8_saved 172 = .ok (.invokevirtual 74, 3) := by decide +kernel
theorem dX8_saved_175 : decode cX8_saved 175 = .ok (.iload 4, 2) := by decide +kernel
theorem dX8_saved_177 : decode cX8_saved 177 = .ok (.iconst (-1), 1) := by decide +kernel
theorem dX8_saved_178 : decode cX8_saved 178 = .ok (.if_icmp .ne 7, 3) := by decide +kernel
theorem dX8_saved_181 : decode cX8_saved 181 = .ok (.iconst 0, 1) := by decide +kernel
theorem dX8_saved_182 : decode cX8_saved 182 = .ok (.goto 10, 3) := by decide +kernel
theorem dX8_saved_185 : decode cX8_saved 185 = .ok (.aload_n 0, 1) := by decide +kernel
theorem dX8_saved_186 : decode cX8_saved 186 = .ok (.getfield 28, 3) := by decide +kernel
theorem dX8_saved_189 : decode cX8_saved 189 = .ok (.iload 4, 2) := by decide +kernel
theorem dX8_saved_191 : decode cX8_saved 191 = .ok (.iaload, 1) := by decide +kernel
theorem dX8_saved_192 : decode cX8_saved 192 = .ok (.isub, 1) := by decide +kernel
theorem dX8_saved_193 : decode cX8_saved 193 = .ok (.istore 5, 2) := by decide +kernel
theorem dX8_saved_195 : decode cX8_saved 195 = .ok (.iload 4, 2) := by decide +kernel
theorem dX8_saved_197 : decode cX8_saved 197 = .ok (.iconst (-1), 1) := by decide +kernel
theorem dX8_saved_198 : decode cX8_saved 198 = .ok (.if_icmp .ne 12, 3) := by decide +kernel
theorem dX8_saved_201 : decode cX8_saved 201 = .ok (.aload_n 0, 1) := by decide +kernel
theorem dX8_saved_202 : decode cX8_saved 202 = .ok (.getfield 59, 3) := by decide +kernel
theorem dX8_saved_205 : decode cX8_saved 205 = .ok (.bipush 20, 2) := by decide +kernel
theorem dX8_saved_207 : decode cX8_saved 207 = .ok (.if_icmp .eq 19, 3) := by decide +kernel
theorem dX8_saved_210 : decode cX8_saved 210 = .ok (.iload 5, 2) := by decide +kernel
theorem dX8_saved_212 : decode cX8_saved 212 = .ok (.aload_n 0, 1) := by decide +kernel
theorem dX8_saved_213 : decode cX8_saved 213 = .ok (.getfield 28, 3) := by decide +kernel
theorem dX8_saved_216 : decode cX8_saved 216 = .ok (.bipush 20, 2) := by decide +kernel
theorem dX8_saved_218 : decode cX8_saved 218 = .ok (.iaload, 1) := by decide +kernel
theorem dX8_saved_219 : decode cX8_saved 219 = .ok (.iadd, 1) := by decide +kernel
theorem dX8_saved_220 : decode cX8_saved 220 = .ok (.sipush 6000, 3) := by decide +kernel
theorem dX8_saved_223 : decode cX8_saved 223 = .ok (.if_icmp .le 5, 3) := by decide +kernel
theorem dX8_saved_226 : decode cX8_saved 226 = .ok (.iconst 0, 1) := by decide +kernel
theorem dX8_saved_227 : decode cX8_saved 227 = .ok (.ireturn, 1) := by decide +kernel
theorem dX8_saved_228 : decode cX8_saved 228 = .ok (.iload 4, 2) := by decide +kernel
theorem dX8_saved_230 : decode cX8_saved 230 = .ok (.iconst (-1), 1) := by decide +kernel
theorem dX8_saved_231 : decode cX8_saved 231 = .ok (.if_icmp .eq 9, 3) := by decide +kernel
theorem dX8_saved_234 : decode cX8_saved 234 = .ok (.aload_n 0, 1) := by decide +kernel
theorem dX8_saved_235 : decode cX8_saved 235 = .ok (.iload 4, 2) := by decide +kernel
theorem dX8_saved_237 : decode cX8_saved 237 = .ok (.invokevirtual 89, 3) := by decide +kernel
theorem dX8_saved_240 : decode cX8_saved 240 = .ok (.aload_n 0, 1) := by decide +kernel
theorem dX8_saved_241 : decode cX8_saved 241 = .ok (.iload_n 1, 1) := by decide +kernel
theorem dX8_saved_242 : decode cX8_saved 242 = .ok (.bipush 30, 2) := by decide +kernel
theorem dX8_saved_244 : decode cX8_saved 244 = .ok (.iadd, 1) := by decide +kernel
theorem dX8_saved_245 : decode cX8_saved 245 = .ok (.iload_n 2, 1) := by decide +kernel
theorem dX8_saved_246 : decode cX8_saved 246 = .ok (.iload_n 1, 1) := by decide +kernel
theorem dX8_saved_247 : decode cX8_saved 247 = .ok (.bipush 30, 2) := by decide +kernel
theorem dX8_saved_249 : decode cX8_saved 249 = .ok (.iadd, 1) := by decide +kernel
theorem dX8_saved_250 : decode cX8_saved 250 = .ok (.iload_n 2, 1) := by decide +kernel
theorem dX8_saved_251 : decode cX8_saved 251 = .ok (.iadd, 1) := by decide +kernel
theorem dX8_saved_252 : decode cX8_saved 252 = .ok (.iload_n 1, 1) := by decide +kernel
theorem dX8_saved_253 : decode cX8_saved 253 = .ok (.bipush 8, 2) := by decide +kernel
theorem dX8_saved_255 : decode cX8_saved 255 = .ok (.iadd, 1) := by decide +kernel
theorem dX8_saved_256 : decode cX8_saved 256 = .ok (.invokevirtual 189, 3) := by decide +kernel
theorem dX8_saved_259 : decode cX8_saved 259 = .ok (.bipush 30, 2) := by decide +kernel
theorem dX8_saved_261 : decode cX8_saved 261 = .ok (.iload_n 2, 1) := by decide +kernel
theorem dX8_saved_262 : decode cX8_saved 262 = .ok (.iadd, 1) := by decide +kernel
theorem dX8_saved_263 : decode cX8_saved 263 = .ok (.iload_n 3, 1) := by decide +kernel
theorem dX8_saved_264 : decode cX8_saved 264 = .ok (.iadd, 1) := by decide +kernel
theorem dX8_saved_265 : decode cX8_saved 265 = .ok (.ireturn, 1) := by decide +kernel
theorem dX8_save_0 : decode cX8_save 0 = .ok (.aload_n 0, 1) := by decide +kernel
theorem dX8_save_1 : decode cX8_save 1 = .ok (.iconst 0, 1) := by decide +kernel
theorem dX8_save_2 : decode cX8_save 2 = .ok (.putfield 50, 3) := by decide +kernel
theorem dX8_save_5 : decode cX8_save 5 = .ok (.iconst 0, 1) := by decide +kernel
theorem dX8_save_6 : decode cX8_save 6 = .ok (.istore_n 1, 1) := by decide +kernel
theorem dX8_save_7 : decode cX8_save 7 = .ok (.iconst 0, 1) := by decide +kernel
theorem dX8_save_8 : decode cX8_save 8 = .ok (.istore_n 2, 1) := by decide +kernel
theorem dX8_save_9 : decode cX8_save 9 = .ok (.iload_n 2, 1) := by decide +kernel
theorem dX8_save_10 : decode cX8_save 10 = .ok (.aload_n 0, 1) := by decide +kernel
theorem dX8_save_11 : decode cX8_save 11 = .ok (.getfield 53, 3) := by decide +kernel
theorem dX8_save_14 : decode cX8_save 14 = .ok (.if_icmp .ge 36, 3) := by decide +kernel
theorem dX8_save_17 : decode cX8_save 17 = .ok (.aload_n 0, 1) := by decide +kernel
theorem dX8_save_18 : decode cX8_save 18 = .ok (.iload_n 2, 1) := by decide +kernel
theorem dX8_save_19 : decode cX8_save 19 = .ok (.invokevirtual 193, 3) := by decide +kernel
theorem dX8_save_22 : decode cX8_save 22 = .ok (.istore_n 3, 1) := by decide +kernel
theorem dX8_save_23 : decode cX8_save 23 = .ok (.iload_n 1, 1) := by decide +kernel
theorem dX8_save_24 : decode cX8_save 24 = .ok (.iload_n 3, 1) := by decide +kernel
theorem dX8_save_25 : decode cX8_save 25 = .ok (.ifCond .le 7, 3) := by decide +kernel
theorem dX8_save_28 : decode cX8_save 28 = .ok (.iconst 1, 1) := by decide +kernel
theorem dX8_save_29 : decode cX8_save 29 = .ok (.goto 4, 3) := by decide +kernel
theorem dX8_save_32 : decode cX8_save 32 = .ok (.iconst 0, 1) := by decide +kernel
theorem dX8_save_33 : decode cX8_save 33 = .ok (.iadd, 1) := by decide +kernel
theorem dX8_save_34 : decode cX8_save 34 = .ok (.istore_n 1, 1) := by decide +kernel
theorem dX8_save_35 : decode cX8_save 35 = .ok (.iload_n 2, 1) := by decide +kernel
theorem dX8_save_36 : decode cX8_save 36 = .ok (.iload_n 3, 1) := by decide +kernel
theorem dX8_save_37 : decode cX8_save 37 = .ok (.ifCond .le 7, 3) := by decide +kernel
theorem dX8_save_40 : decode cX8_save 40 = .ok (.iload_n 3, 1) := by decide +kernel
theorem dX8_save_41 : decode cX8_save 41 = .ok (.goto 4, 3) := by decide +kernel
theorem dX8_save_44 : decode cX8_save 44 = .ok (.iconst 1, 1) := by decide +kernel
theorem dX8_save_45 : decode cX8_save 45 = .ok (.iadd, 1) := by decide +kernel
theorem dX8_save_46 : decode cX8_save 46 = .ok (.istore_n 2, 1) := by decide +kernel
theorem dX8_save_47 : decode cX8_save 47 = .ok (.goto (-38), 3) := by decide +kernel
theorem dX8_save_50 : decode cX8_save 50 = .ok (.iload_n 1, 1) := by decide +kernel
theorem dX8_save_51 : decode cX8_save 51 = .ok (.ireturn, 1) := by decide +kernel
theorem dX8_file_0 : decode cX8_file 0 = .ok (.aload_n 0, 1) := by decide +kernel
theorem dX8_file_1 : decode cX8_file 1 = .ok (.iconst 0, 1) := by decide +kernel
theorem dX8_file_2 : decode cX8_file 2 = .ok (.putfield 50, 3) := by decide +kernel
theorem dX8_file_5 : decode cX8_file 5 = .ok (.aload_n 0, 1) := by decide +kernel
theorem dX8_file_6 : decode cX8_file 6 = .ok (.iload_n 1, 1) := by decide +kernel
theorem dX8_file_7 : decode cX8_file 7 = .ok (.invokevirtual 85, 3) := by decide +kernel
theorem dX8_file_10 : decode cX8_file 10 = .ok (.ifCond .ne 5, 3) := by decide +kernel
theorem dX8_file_13 : decode cX8_file 13 = .ok (.iconst (-1), 1) := by decide +kernel
theorem dX8_file_14 : decode cX8_file 14 = .ok (.ireturn, 1) := by decide +kernel
theorem dX8_file_15 : decode cX8_file 15 = .ok (.iload_n 2, 1) := by decide +kernel
theorem dX8_file_16 : decode cX8_file 16 = .ok (.tableswitch 68 0 4 #[36, 43, 50, 56, 62], 36) := by decide +kernel
theorem dX8_file_52 : decode cX8_file 52 = .ok (.aload_n 0, 1) := by decide +kernel
theorem dX8_file_53 : decode cX8_file 53 = .ok (.getfield 22, 3) := by decide +kernel
theorem dX8_file_56 : decode cX8_file 56 = .ok (.iload_n 1, 1) := by decide +kernel
theorem dX8_file_57 : decode cX8_file 57 = .ok (.iaload, 1) := by decide +kernel
theorem dX8_file_58 : decode cX8_file 58 = .ok (.ireturn, 1) := by decide +kernel
theorem dX8_file_59 : decode cX8_file 59 = .ok (.aload_n 0, 1) := by decide +kernel
theorem dX8_file_60 : decode cX8_file 60 = .ok (.getfield 28, 3) := by decide +kernel
theorem dX8_file_63 : decode cX8_file 63 = .ok (.iload_n 1, 1) := by decide +kernel
theorem dX8_file_64 : decode cX8_file 64 = .ok (.iaload, 1) := by decide +kernel
theorem dX8_file_65 : decode cX8_file 65 = .ok (.ireturn, 1) := by decide +kernel
theorem dX8_file_66 : decode cX8_file 66 = .ok (.aload_n 0, 1) := by decide +kernel
theorem dX8_file_67 : decode cX8_file 67 = .ok (.iload_n 1, 1) := by decide +kernel
theorem dX8_file_68 : decode cX8_file 68 = .ok (.invokevirtual 120, 3) := by decide +kernel
theorem dX8_file_71 : decode cX8_file 71 = .ok (.ireturn, 1) := by decide +kernel
theorem dX8_file_72 : decode cX8_file 72 = .ok (.aload_n 0, 1) := by decide +kernel
theorem dX8_file_73 : decode cX8_file 73 = .ok (.iload_n 1, 1) := by decide +kernel
theorem dX8_file_74 : decode cX8_file 74 = .ok (.invokevirtual 109, 3) := by decide +kernel
theorem dX8_file_77 : decode cX8_file 77 = .ok (.ireturn, 1) := by decide +kernel
theorem dX8_file_78 : decode cX8_file 78 = .ok (.aload_n 0, 1) := by decide +kernel
theorem dX8_file_79 : decode cX8_file 79 = .ok (.iload_n 1, 1) := by decide +kernel
theorem dX8_file_80 : decode cX8_file 80 = .ok (.invokevirtual 117, 3) := by decide +kernel
theorem dX8_file_83 : decode cX8_file 83 = .ok (.ireturn, 1) := by decide +kernel
theorem dX8_file_84 : decode cX8_file 84 = .ok (.iconst (-1), 1) := by decide +kernel
theorem dX8_file_85 : decode cX8_file 85 = .ok (.ireturn, 1) := by decide +kernel
theorem dX8_letter_0 : decode cX8_letter 0 = .ok (.aload_n 0, 1) := by decide +kernel
theorem dX8_letter_1 : decode cX8_letter 1 = .ok (.iconst 0, 1) := by decide +kernel
theorem dX8_letter_2 : decode cX8_letter 2 = .ok (.putfield 50, 3) := by decide +kernel
theorem dX8_letter_5 : decode cX8_letter 5 = .ok (.aload_n 0, 1) := by decide +kernel
theorem dX8_letter_6 : decode cX8_letter 6 = .ok (.iload_n 1, 1) := by decide +kernel
theorem dX8_letter_7 : decode cX8_letter 7 = .ok (.invokevirtual 85, 3) := by decide +kernel
theorem dX8_letter_10 : decode cX8_letter 10 = .ok (.ifCond .eq 30, 3) := by decide +kernel
theorem dX8_letter_13 : decode cX8_letter 13 = .ok (.iload_n 3, 1) := by decide +kernel
theorem dX8_letter_14 : decode cX8_letter 14 = .ok (.ifCond .lt 26, 3) := by decide +kernel
theorem dX8_letter_17 : decode cX8_letter 17 = .ok (.iload_n 3, 1) := by decide +kernel
theorem dX8_letter_18 : decode cX8_letter 18 = .ok (.iload_n 2, 1) := by decide +kernel
theorem dX8_letter_19 : decode cX8_letter 19 = .ok (.ifCond .eq 12, 3) := by decide +kernel
theorem dX8_letter_22 : decode cX8_letter 22 = .ok (.aload_n 0, 1) := by decide +kernel
theorem dX8_letter_23 : decode cX8_letter 23 = .ok (.getfield 22, 3) := by decide +kernel
theorem dX8_letter_26 : decode cX8_letter 26 = .ok (.iload_n 1, 1) := by decide +kernel
theorem dX8_letter_27 : decode cX8_letter 27 = .ok (.iaload, 1) := by decide +kernel
theorem dX8_letter_28 : decode cX8_letter 28 = .ok (.goto 9, 3) := by decide +kernel
theorem dX8_letter_31 : decode cX8_letter 31 = .ok (.aload_n 0, 1) := by decide +kernel
theorem dX8_letter_32 : decode cX8_letter 32 = .ok (.getfield 28, 3) := by decide +kernel
theorem dX8_letter_35 : decode cX8_letter 35 = .ok (.iload_n 1, 1) := by decide +kernel
theorem dX8_letter_36 : decode cX8_letter 36 = .ok (.iaload, 1) := by decide +kernel
theorem dX8_letter_37 : decode cX8_letter 37 = .ok (.if_icmp .lt 5, 3) := by decide +kernel
theorem dX8_letter_40 : decode cX8_letter 40 = .ok (.iconst (-1), 1) := by decide +kernel
theorem dX8_letter_41 : decode cX8_letter 41 = .ok (.ireturn, 1) := by decide +kernel
theorem dX8_letter_42 : decode cX8_letter 42 = .ok (.iload_n 2, 1) := by decide +kernel
theorem dX8_letter_43 : decode cX8_letter 43 = .ok (.ifCond .eq 17, 3) := by decide +kernel
theorem dX8_letter_46 : decode cX8_letter 46 = .ok (.aload_n 0, 1) := by decide +kernel
theorem dX8_letter_47 : decode cX8_letter 47 = .ok (.getfield 19, 3) := by decide +kernel
theorem dX8_letter_50 : decode cX8_letter 50 = .ok (.bipush 30, 2) := by decide +kernel
theorem dX8_letter_52 : decode cX8_letter 52 = .ok (.iload_n 1, 1) := by decide +kernel
theorem dX8_letter_53 : decode cX8_letter 53 = .ok (.imul, 1) := by decide +kernel
theorem dX8_letter_54 : decode cX8_letter 54 = .ok (.iload_n 3, 1) := by decide +kernel
theorem dX8_letter_55 : decode cX8_letter 55 = .ok (.iadd, 1) := by decide +kernel
theorem dX8_letter_56 : decode cX8_letter 56 = .ok (.iaload, 1) := by decide +kernel
theorem dX8_letter_57 : decode cX8_letter 57 = .ok (.goto 15, 3) := by decide +kernel
theorem dX8_letter_60 : decode cX8_letter 60 = .ok (.aload_n 0, 1) := by decide +kernel
theorem dX8_letter_61 : decode cX8_letter 61 = .ok (.getfield 25, 3) := by decide +kernel
theorem dX8_letter_64 : decode cX8_letter 64 = .ok (.sipush 1500, 3) := by decide +kernel
theorem dX8_letter_67 : decode cX8_letter 67 = .ok (.iload_n 1, 1) := by decide +kernel
theorem dX8_letter_68 : decode cX8_letter 68 = .ok (.imul, 1) := by decide +kernel
theorem dX8_letter_69 : decode cX8_letter 69 = .ok (.iload_n 3, 1) := by decide +kernel
theorem dX8_letter_70 : decode cX8_letter 70 = .ok (.iadd, 1) := by decide +kernel
theorem dX8_letter_71 : decode cX8_letter 71 = .ok (.iaload, 1) := by decide +kernel
theorem dX8_letter_72 : decode cX8_letter 72 = .ok (.ireturn, 1) := by decide +kernel
theorem dX8_find_0 : decode cX8_find 0 = .ok (.aload_n 0, 1) := by decide +kernel
theorem dX8_find_1 : decode cX8_find 1 = .ok (.iconst 0, 1) := by decide +kernel
theorem dX8_find_2 : decode cX8_find 2 = .ok (.putfield 50, 3) := by decide +kernel
theorem dX8_find_5 : decode cX8_find 5 = .ok (.aload_n 0, 1) := by decide +kernel
theorem dX8_find_6 : decode cX8_find 6 = .ok (.iconst 0, 1) := by decide +kernel
theorem dX8_find_7 : decode cX8_find 7 = .ok (.aload_n 0, 1) := by decide +kernel
theorem dX8_find_8 : decode cX8_find 8 = .ok (.getfield 53, 3) := by decide +kernel
theorem dX8_find_11 : decode cX8_find 11 = .ok (.invokevirtual 66, 3) := by decide +kernel
theorem dX8_find_14 : decode cX8_find 14 = .ok (.ifCond .eq 19, 3) := by decide +kernel
theorem dX8_find_17 : decode cX8_find 17 = .ok (.aload_n 0, 1) := by decide +kernel
theorem dX8_find_18 : decode cX8_find 18 = .ok (.iconst 0, 1) := by decide +kernel
theorem dX8_find_19 : decode cX8_find 19 = .ok (.aload_n 0, 1) := by decide +kernel
theorem dX8_find_20 : decode cX8_find 20 = .ok (.getfield 53, 3) := by decide +kernel
theorem dX8_find_23 : decode cX8_find 23 = .ok (.aload_n 0, 1) := by decide +kernel
theorem dX8_find_24 : decode cX8_find 24 = .ok (.getfield 59, 3) := by decide +kernel
theorem dX8_find_27 : decode cX8_find 27 = .ok (.invokevirtual 70, 3) := by decide +kernel
theorem dX8_find_30 : decode cX8_find 30 = .ok (.goto 4, 3) := by decide +kernel
theorem dX8_find_33 : decode cX8_find 33 = .ok (.iconst (-1), 1) := by decide +kernel
theorem dX8_find_34 : decode cX8_find 34 = .ok (.ireturn, 1) := by decide +kernel
theorem dX8_output_0 : decode cX8_output 0 = .ok (.aload_n 0, 1) := by decide +kernel
theorem dX8_output_1 : decode cX8_output 1 = .ok (.iconst 0, 1) := by decide +kernel
theorem dX8_output_2 : decode cX8_output 2 = .ok (.putfield 50, 3) := by decide +kernel
theorem dX8_output_5 : decode cX8_output 5 = .ok (.iload_n 1, 1) := by decide +kernel
theorem dX8_output_6 : decode cX8_output 6 = .ok (.ifCond .lt 11, 3) := by decide +kernel
theorem dX8_output_9 : decode cX8_output 9 = .ok (.iload_n 1, 1) := by decide +kernel
theorem dX8_output_10 : decode cX8_output 10 = .ok (.aload_n 0, 1) := by decide +kernel
theorem dX8_output_11 : decode cX8_output 11 = .ok (.getfield 56, 3) := by decide +kernel
theorem dX8_output_14 : decode cX8_output 14 = .ok (.if_icmp .lt 7, 3) := by decide +kernel
theorem dX8_output_17 : decode cX8_output 17 = .ok (.iconst (-1), 1) := by decide +kernel
theorem dX8_output_18 : decode cX8_output 18 = .ok (.goto 9, 3) := by decide +kernel
theorem dX8_output_21 : decode cX8_output 21 = .ok (.aload_n 0, 1) := by decide +kernel
theorem dX8_output_22 : decode cX8_output 22 = .ok (.getfield 16, 3) := by decide +kernel
theorem dX8_output_25 : decode cX8_output 25 = .ok (.iload_n 1, 1) := by decide +kernel
theorem dX8_output_26 : decode cX8_output 26 = .ok (.iaload, 1) := by decide +kernel
theorem dX8_output_27 : decode cX8_output 27 = .ok (.ireturn, 1) := by decide +kernel
theorem dX8_about_0 : decode cX8_about 0 = .ok (.aload_n 0, 1) := by decide +kernel
theorem dX8_about_1 : decode cX8_about 1 = .ok (.iconst 0, 1) := by decide +kernel
theorem dX8_about_2 : decode cX8_about 2 = .ok (.putfield 50, 3) := by decide +kernel
theorem dX8_about_5 : decode cX8_about 5 = .ok (.iload_n 1, 1) := by decide +kernel
theorem dX8_about_6 : decode cX8_about 6 = .ok (.ifCond .ne 10, 3) := by decide +kernel
theorem dX8_about_9 : decode cX8_about 9 = .ok (.aload_n 0, 1) := by decide +kernel
theorem dX8_about_10 : decode cX8_about 10 = .ok (.getfield 53, 3) := by decide +kernel
theorem dX8_about_13 : decode cX8_about 13 = .ok (.goto 40, 3) := by decide +kernel
theorem dX8_about_16 : decode cX8_about 16 = .ok (.iload_n 1, 1) := by decide +kernel
theorem dX8_about_17 : decode cX8_about 17 = .ok (.iconst 1, 1) := by decide +kernel
theorem dX8_about_18 : decode cX8_about 18 = .ok (.if_icmp .ne 10, 3) := by decide +kernel
theorem dX8_about_21 : decode cX8_about 21 = .ok (.aload_n 0, 1) := by decide +kernel
theorem dX8_about_22 : decode cX8_about 22 = .ok (.getfield 56, 3) := by decide +kernel
theorem dX8_about_25 : decode cX8_about 25 = .ok (.goto 28, 3) := by decide +kernel
theorem dX8_about_28 : decode cX8_about 28 = .ok (.iload_n 1, 1) := by decide +kernel
theorem dX8_about_29 : decode cX8_about 29 = .ok (.iconst 2, 1) := by decide +kernel
theorem dX8_about_30 : decode cX8_about 30 = .ok (.if_icmp .ne 10, 3) := by decide +kernel
theorem dX8_about_33 : decode cX8_about 33 = .ok (.aload_n 0, 1) := by decide +kernel
theorem dX8_about_34 : decode cX8_about 34 = .ok (.getfield 59, 3) := by decide +kernel
theorem dX8_about_37 : decode cX8_about 37 = .ok (.goto 16, 3) := by decide +kernel
theorem dX8_about_40 : decode cX8_about 40 = .ok (.iload_n 1, 1) := by decide +kernel
theorem dX8_about_41 : decode cX8_about 41 = .ok (.iconst 3, 1) := by decide +kernel
theorem dX8_about_42 : decode cX8_about 42 = .ok (.if_icmp .ne 10, 3) := by decide +kernel
theorem dX8_about_45 : decode cX8_about 45 = .ok (.aload_n 0, 1) := by decide +kernel
theorem dX8_about_46 : decode cX8_about 46 = .ok (.invokevirtual 74, 3) := by decide +kernel
theorem dX8_about_49 : decode cX8_about 49 = .ok (.goto 4, 3) := by decide +kernel
theorem dX8_about_52 : decode cX8_about 52 = .ok (.iconst (-1), 1) := by decide +kernel
theorem dX8_about_53 : decode cX8_about 53 = .ok (.ireturn, 1) := by decide +kernel
theorem dJ9_abs_0f7a4_0 : decode cJ9_abs_0f7a4 0 = .ok (.iload_n 0, 1) := by decide +kernel
theorem dJ9_abs_0f7a4_1 : decode cJ9_abs_0f7a4 1 = .ok (.ifCond .ge 8, 3) := by decide +kernel
theorem dJ9_abs_0f7a4_4 : decode cJ9_abs_0f7a4 4 = .ok (.iload_n 0, 1) := by decide +kernel
theorem dJ9_abs_0f7a4_5 : decode cJ9_abs_0f7a4 5 = .ok (.ineg, 1) := by decide +kernel
theorem dJ9_abs_0f7a4_6 : decode cJ9_abs_0f7a4 6 = .ok (.goto 4, 3) := by decide +kernel
theorem dJ9_abs_0f7a4_9 : decode cJ9_abs_0f7a4 9 = .ok (.iload_n 0, 1) := by decide +kernel
theorem dJ9_abs_0f7a4_10 : decode cJ9_abs_0f7a4 10 = .ok (.ireturn, 1) := by decide +kernel
theorem dJ9_max_7cf53_0 : decode cJ9_max_7cf53 0 = .ok (.iload_n 0, 1) := by decide +kernel
theorem dJ9_max_7cf53_1 : decode cJ9_max_7cf53 1 = .ok (.iload_n 1, 1) := by decide +kernel
theorem dJ9_max_7cf53_2 : decode cJ9_max_7cf53 2 = .ok (.if_icmp .lt 7, 3) := by decide +kernel
theorem dJ9_max_7cf53_5 : decode cJ9_max_7cf53 5 = .ok (.iload_n 0, 1) := by decide +kernel
theorem dJ9_max_7cf53_6 : decode cJ9_max_7cf53 6 = .ok (.goto 4, 3) := by decide +kernel
theorem dJ9_max_7cf53_9 : decode cJ9_max_7cf53 9 = .ok (.iload_n 1, 1) := by decide +kernel
theorem dJ9_max_7cf53_10 : decode cJ9_max_7cf53 10 = .ok (.ireturn, 1) := by decide +kernel
theorem dJ9_min_7cf53_0 : decode cJ9_min_7cf53 0 = .ok (.iload_n 0, 1) := by decide +kernel
theorem dJ9_min_7cf53_1 : decode cJ9_min_7cf53 1 = .ok (.iload_n 1, 1) := by decide +kernel
theorem dJ9_min_7cf53_2 : decode cJ9_min_7cf53 2 = .ok (.if_icmp .gt 7, 3) := by decide +kernel
theorem dJ9_min_7cf53_5 : decode cJ9_min_7cf53 5 = .ok (.iload_n 0, 1) := by decide +kernel
theorem dJ9_min_7cf53_6 : decode cJ9_min_7cf53 6 = .ok (.goto 4, 3) := by decide +kernel
theorem dJ9_min_7cf53_9 : decode cJ9_min_7cf53 9 = .ok (.iload_n 1, 1) := by decide +kernel
theorem dJ9_min_7cf53_10 : decode cJ9_min_7cf53 10 = .ok (.ireturn, 1) := by decide +kernel
theorem dL_take_0 : decode cL_take 0 = .ok (.aload_n 1, 1) := by decide +kernel
theorem dL_take_1 : decode cL_take 1 = .ok (.iconst 0, 1) := by decide +kernel
theorem dL_take_2 : decode cL_take 2 = .ok (.aload_n 0, 1) := by decide +kernel
theorem dL_take_3 : decode cL_take 3 = .ok (.invokevirtual 7, 3) := by decide +kernel
theorem dL_take_6 : decode cL_take 6 = .ok (.i2l, 1) := by decide +kernel
theorem dL_take_7 : decode cL_take 7 = .ok (.lastore, 1) := by decide +kernel
theorem dL_take_8 : decode cL_take 8 = .ok (.goto 6, 3) := by decide +kernel
theorem dL_take_11 : decode cL_take 11 = .ok (.astore_n 2, 1) := by decide +kernel
theorem dL_take_12 : decode cL_take 12 = .ok (.iconst 1, 1) := by decide +kernel
theorem dL_take_13 : decode cL_take 13 = .ok (.ireturn, 1) := by decide +kernel
theorem dL_take_14 : decode cL_take 14 = .ok (.iconst 0, 1) := by decide +kernel
theorem dL_take_15 : decode cL_take 15 = .ok (.ireturn, 1) := by decide +kernel
theorem dL_add_0 : decode cL_add 0 = .ok (.aload_n 2, 1) := by decide +kernel
theorem dL_add_1 : decode cL_add 1 = .ok (.iconst 0, 1) := by decide +kernel
theorem dL_add_2 : decode cL_add 2 = .ok (.aload_n 0, 1) := by decide +kernel
theorem dL_add_3 : decode cL_add 3 = .ok (.iload_n 1, 1) := by decide +kernel
theorem dL_add_4 : decode cL_add 4 = .ok (.invokevirtual 15, 3) := by decide +kernel
theorem dL_add_7 : decode cL_add 7 = .ok (.i2l, 1) := by decide +kernel
theorem dL_add_8 : decode cL_add 8 = .ok (.lastore, 1) := by decide +kernel
