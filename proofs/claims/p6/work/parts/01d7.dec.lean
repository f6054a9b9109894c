theorem dX8_isSign_28 : decode cX8_isSign 28 = .ok (.iload_n 1, 1) := by decide +kernel
theorem dX8_isSign_29 : decode cX8_isSign 29 = .ok (.iconst 2, 1) := by decide +kernel
theorem dX8_isSign_30 : decode cX8_isSign 30 = .ok (.iadd, 1) := by decide +kernel
theorem dX8_isSign_31 : decode cX8_isSign 31 = .ok (.iaload, 1) := by decide +kernel
theorem dX8_isSign_32 : decode cX8_isSign 32 = .ok (.iload_n 2, 1) := by decide +kernel
theorem dX8_isSign_33 : decode cX8_isSign 33 = .ok (.if_icmp .ne 19, 3) := by decide +kernel
theorem dX8_isSign_36 : decode cX8_isSign 36 = .ok (.aload_n 0, 1) := by decide +kernel
theorem dX8_isSign_37 : decode cX8_isSign 37 = .ok (.getfield 13, 3) := by decide +kernel
theorem dX8_isSign_40 : decode cX8_isSign 40 = .ok (.iload_n 1, 1) := by decide +kernel
theorem dX8_isSign_41 : decode cX8_isSign 41 = .ok (.iconst 3, 1) := by decide +kernel
theorem dX8_isSign_42 : decode cX8_isSign 42 = .ok (.iadd, 1) := by decide +kernel
theorem dX8_isSign_43 : decode cX8_isSign 43 = .ok (.iaload, 1) := by decide +kernel
theorem dX8_isSign_44 : decode cX8_isSign 44 = .ok (.iload_n 3, 1) := by decide +kernel
theorem dX8_isSign_45 : decode cX8_isSign 45 = .ok (.if_icmp .ne 7, 3) := by decide +kernel
theorem dX8_isSign_48 : decode cX8_isSign 48 = .ok (.iconst 1, 1) := by decide +kernel
theorem dX8_isSign_49 : decode cX8_isSign 49 = .ok (.goto 4, 3) := by decide +kernel
theorem dX8_isSign_52 : decode cX8_isSign 52 = .ok (.iconst 0, 1) := by decide +kernel
theorem dX8_isSign_53 : decode cX8_isSign 53 = .ok (.ireturn, 1) := by decide +kernel
theorem dX8_fails_0 : decode cX8_fails 0 = .ok (.aload_n 0, 1) := by decide +kernel
theorem dX8_fails_1 : decode cX8_fails 1 = .ok (.iload_n 1, 1) := by decide +kernel
theorem dX8_fails_2 : decode cX8_fails 2 = .ok (.putfield 138, 3) := by decide +kernel
theorem dX8_fails_5 : decode cX8_fails 5 = .ok (.aload_n 0, 1) := by decide +kernel
theorem dX8_fails_6 : decode cX8_fails 6 = .ok (.iload_n 2, 1) := by decide +kernel
theorem dX8_fails_7 : decode cX8_fails 7 = .ok (.putfield 31, 3) := by decide +kernel
theorem dX8_fails_10 : decode cX8_fails 10 = .ok (.aload_n 0, 1) := by decide +kernel
theorem dX8_fails_11 : decode cX8_fails 11 = .ok (.iload_n 3, 1) := by decide +kernel
theorem dX8_fails_12 : decode cX8_fails 12 = .ok (.putfield 35, 3) := by decide +kernel
theorem dX8_fails_15 : decode cX8_fails 15 = .ok (.iconst 0, 1) := by decide +kernel
theorem dX8_fails_16 : decode cX8_fails 16 = .ok (.ireturn, 1) := by decide +kernel
theorem dX8_areFacts_0 : decode cX8_areFacts 0 = .ok (.aload_n 0, 1) := by decide +kernel
theorem dX8_areFacts_1 : decode cX8_areFacts 1 = .ok (.iload_n 1, 1) := by decide +kernel
theorem dX8_areFacts_2 : decode cX8_areFacts 2 = .ok (.iconst 2, 1) := by decide +kernel
theorem dX8_areFacts_3 : decode cX8_areFacts 3 = .ok (.iadd, 1) := by decide +kernel
theorem dX8_areFacts_4 : decode cX8_areFacts 4 = .ok (.iconst 2, 1) := by decide +kernel
theorem dX8_areFacts_5 : decode cX8_areFacts 5 = .ok (.iconst 0, 1) := by decide +kernel
theorem dX8_areFacts_6 : decode cX8_areFacts 6 = .ok (.invokevirtual 141, 3) := by decide +kernel
theorem dX8_areFacts_9 : decode cX8_areFacts 9 = .ok (.ifCond .ne 16, 3) := by decide +kernel
theorem dX8_areFacts_12 : decode cX8_areFacts 12 = .ok (.aload_n 0, 1) := by decide +kernel
theorem dX8_areFacts_13 : decode cX8_areFacts 13 = .ok (.iload_n 1, 1) := by decide +kernel
theorem dX8_areFacts_14 : decode cX8_areFacts 14 = .ok (.iconst 2, 1) := by decide +kernel
theorem dX8_areFacts_15 : decode cX8_areFacts 15 = .ok (.iadd, 1) := by decide +kernel
theorem dX8_areFacts_16 : decode cX8_areFacts 16 = .ok (.iconst 2, 1) := by decide +kernel
theorem dX8_areFacts_17 : decode cX8_areFacts 17 = .ok (.bipush 99, 2) := by decide +kernel
theorem dX8_areFacts_19 : decode cX8_areFacts 19 = .ok (.invokevirtual 141, 3) := by decide +kernel
theorem dX8_areFacts_22 : decode cX8_areFacts 22 = .ok (.ifCond .eq 7, 3) := by decide +kernel
theorem dX8_areFacts_25 : decode cX8_areFacts 25 = .ok (.iconst 1, 1) := by decide +kernel
theorem dX8_areFacts_26 : decode cX8_areFacts 26 = .ok (.goto 4, 3) := by decide +kernel
theorem dX8_areFacts_29 : decode cX8_areFacts 29 = .ok (.iconst 0, 1) := by decide +kernel
theorem dX8_areFacts_30 : decode cX8_areFacts 30 = .ok (.istore_n 2, 1) := by decide +kernel
theorem dX8_areFacts_31 : decode cX8_areFacts 31 = .ok (.aload_n 0, 1) := by decide +kernel
theorem dX8_areFacts_32 : decode cX8_areFacts 32 = .ok (.iload_n 1, 1) := by decide +kernel
theorem dX8_areFacts_33 : decode cX8_areFacts 33 = .ok (.iconst 2, 1) := by decide +kernel
theorem dX8_areFacts_34 : decode cX8_areFacts 34 = .ok (.iconst 0, 1) := by decide +kernel
theorem dX8_areFacts_35 : decode cX8_areFacts 35 = .ok (.invokevirtual 141, 3) := by decide +kernel
theorem dX8_areFacts_38 : decode cX8_areFacts 38 = .ok (.ifCond .eq 37, 3) := by decide +kernel
theorem dX8_areFacts_41 : decode cX8_areFacts 41 = .ok (.iload_n 2, 1) := by decide +kernel
theorem dX8_areFacts_42 : decode cX8_areFacts 42 = .ok (.ifCond .eq 33, 3) := by decide +kernel
theorem dX8_areFacts_45 : decode cX8_areFacts 45 = .ok (.aload_n 0, 1) := by decide +kernel
theorem dX8_areFacts_46 : decode cX8_areFacts 46 = .ok (.iload_n 1, 1) := by decide +kernel
theorem dX8_areFacts_47 : decode cX8_areFacts 47 = .ok (.iconst 4, 1) := by decide +kernel
theorem dX8_areFacts_48 : decode cX8_areFacts 48 = .ok (.iadd, 1) := by decide +kernel
theorem dX8_areFacts_49 : decode cX8_areFacts 49 = .ok (.iconst 2, 1) := by decide +kernel
theorem dX8_areFacts_50 : decode cX8_areFacts 50 = .ok (.iconst 0, 1) := by decide +kernel
theorem dX8_areFacts_51 : decode cX8_areFacts 51 = .ok (.invokevirtual 141, 3) := by decide +kernel
theorem dX8_areFacts_54 : decode cX8_areFacts 54 = .ok (.ifCond .eq 21, 3) := by decide +kernel
theorem dX8_areFacts_57 : decode cX8_areFacts 57 = .ok (.aload_n 0, 1) := by decide +kernel
theorem dX8_areFacts_58 : decode cX8_areFacts 58 = .ok (.iload_n 1, 1) := by decide +kernel
theorem dX8_areFacts_59 : decode cX8_areFacts 59 = .ok (.bipush 6, 2) := by decide +kernel
theorem dX8_areFacts_61 : decode cX8_areFacts 61 = .ok (.iadd, 1) := by decide +kernel
theorem dX8_areFacts_62 : decode cX8_areFacts 62 = .ok (.iconst 2, 1) := by decide +kernel
theorem dX8_areFacts_63 : decode cX8_areFacts 63 = .ok (.bipush 33, 2) := by decide +kernel
theorem dX8_areFacts_65 : decode cX8_areFacts 65 = .ok (.invokevirtual 141, 3) := by decide +kernel
theorem dX8_areFacts_68 : decode cX8_areFacts 68 = .ok (.ifCond .eq 7, 3) := by decide +kernel
theorem dX8_areFacts_71 : decode cX8_areFacts 71 = .ok (.iconst 1, 1) := by decide +kernel
theorem dX8_areFacts_72 : decode cX8_areFacts 72 = .ok (.goto 4, 3) := by decide +kernel
theorem dX8_areFacts_75 : decode cX8_areFacts 75 = .ok (.iconst 0, 1) := by decide +kernel
theorem dX8_areFacts_76 : decode cX8_areFacts 76 = .ok (.ireturn, 1) := by decide +kernel
theorem dX8_findEnd_0 : decode cX8_findEnd 0 = .ok (.aload_n 0, 1) := by decide +kernel
theorem dX8_findEnd_1 : decode cX8_findEnd 1 = .ok (.getfield 53, 3) := by decide +kernel
theorem dX8_findEnd_4 : decode cX8_findEnd 4 = .ok (.bipush 22, 2) := by decide +kernel
theorem dX8_findEnd_6 : decode cX8_findEnd 6 = .ok (.isub, 1) := by decide +kernel
theorem dX8_findEnd_7 : decode cX8_findEnd 7 = .ok (.istore_n 1, 1) := by decide +kernel
theorem dX8_findEnd_8 : decode cX8_findEnd 8 = .ok (.iload_n 1, 1) := by decide +kernel
theorem dX8_findEnd_9 : decode cX8_findEnd 9 = .ok (.ifCond .ge 5, 3) := by decide +kernel
theorem dX8_findEnd_12 : decode cX8_findEnd 12 = .ok (.iconst (-1), 1) := by decide +kernel
theorem dX8_findEnd_13 : decode cX8_findEnd 13 = .ok (.ireturn, 1) := by decide +kernel
theorem dX8_findEnd_14 : decode cX8_findEnd 14 = .ok (.aload_n 0, 1) := by decide +kernel
theorem dX8_findEnd_15 : decode cX8_findEnd 15 = .ok (.iload_n 1, 1) := by decide +kernel
theorem dX8_findEnd_16 : decode cX8_findEnd 16 = .ok (.iconst 5, 1) := by decide +kernel
theorem dX8_findEnd_17 : decode cX8_findEnd 17 = .ok (.bipush 6, 2) := by decide +kernel
theorem dX8_findEnd_19 : decode cX8_findEnd 19 = .ok (.invokevirtual 145, 3) := by decide +kernel
theorem dX8_findEnd_22 : decode cX8_findEnd 22 = .ok (.ifCond .eq 67, 3) := by decide +kernel
theorem dX8_findEnd_25 : decode cX8_findEnd 25 = .ok (.aload_n 0, 1) := by decide +kernel
theorem dX8_findEnd_26 : decode cX8_findEnd 26 = .ok (.iload_n 1, 1) := by decide +kernel
theorem dX8_findEnd_27 : decode cX8_findEnd 27 = .ok (.iconst 4, 1) := by decide +kernel
theorem dX8_findEnd_28 : decode cX8_findEnd 28 = .ok (.iadd, 1) := by decide +kernel
theorem dX8_findEnd_29 : decode cX8_findEnd 29 = .ok (.iconst 4, 1) := by decide +kernel
theorem dX8_findEnd_30 : decode cX8_findEnd 30 = .ok (.iconst 0, 1) := by decide +kernel
theorem dX8_findEnd_31 : decode cX8_findEnd 31 = .ok (.invokevirtual 141, 3) := by decide +kernel
theorem dX8_findEnd_34 : decode cX8_findEnd 34 = .ok (.ifCond .eq 55, 3) := by decide +kernel
theorem dX8_findEnd_37 : decode cX8_findEnd 37 = .ok (.aload_n 0, 1) := by decide +kernel
theorem dX8_findEnd_38 : decode cX8_findEnd 38 = .ok (.iload_n 1, 1) := by decide +kernel
theorem dX8_findEnd_39 : decode cX8_findEnd 39 = .ok (.bipush 8, 2) := by decide +kernel
theorem dX8_findEnd_41 : decode cX8_findEnd 41 = .ok (.iadd, 1) := by decide +kernel
theorem dX8_findEnd_42 : decode cX8_findEnd 42 = .ok (.iconst 2, 1) := by decide +kernel
theorem dX8_findEnd_43 : decode cX8_findEnd 43 = .ok (.invokevirtual 135, 3) := by decide +kernel
theorem dX8_findEnd_46 : decode cX8_findEnd 46 = .ok (.bipush 20, 2) := by decide +kernel
theorem dX8_findEnd_48 : decode cX8_findEnd 48 = .ok (.if_icmp .gt 41, 3) := by decide +kernel
theorem dX8_findEnd_51 : decode cX8_findEnd 51 = .ok (.aload_n 0, 1) := by decide +kernel
theorem dX8_findEnd_52 : decode cX8_findEnd 52 = .ok (.iload_n 1, 1) := by decide +kernel
theorem dX8_findEnd_53 : decode cX8_findEnd 53 = .ok (.bipush 8, 2) := by decide +kernel
theorem dX8_findEnd_55 : decode cX8_findEnd 55 = .ok (.iadd, 1) := by decide +kernel
theorem dX8_findEnd_56 : decode cX8_findEnd 56 = .ok (.iconst 2, 1) := by decide +kernel
theorem dX8_findEnd_57 : decode cX8_findEnd 57 = .ok (.invokevirtual 135, 3) := by decide +kernel
theorem dX8_findEnd_60 : decode cX8_findEnd 60 = .ok (.aload_n 0, 1) := by decide +kernel
theorem dX8_findEnd_61 : decode cX8_findEnd 61 = .ok (.iload_n 1, 1) := by decide +kernel
theorem dX8_findEnd_62 : decode cX8_findEnd 62 = .ok (.bipush 10, 2) := by decide +kernel
theorem dX8_findEnd_64 : decode cX8_findEnd 64 = .ok (.iadd, 1) := by decide +kernel
theorem dX8_findEnd_65 : decode cX8_findEnd 65 = .ok (.iconst 2, 1) := by decide +kernel
theorem dX8_findEnd_66 : decode cX8_findEnd 66 = .ok (.invokevirtual 135, 3) := by decide +kernel
theorem dX8_findEnd_69 : decode cX8_findEnd 69 = .ok (.if_icmp .ne 20, 3) := by decide +kernel
theorem dX8_findEnd_72 : decode cX8_findEnd 72 = .ok (.aload_n 0, 1) := by decide +kernel
theorem dX8_findEnd_73 : decode cX8_findEnd 73 = .ok (.iload_n 1, 1) := by decide +kernel
theorem dX8_findEnd_74 : decode cX8_findEnd 74 = .ok (.bipush 20, 2) := by decide +kernel
theorem dX8_findEnd_76 : decode cX8_findEnd 76 = .ok (.iadd, 1) := by decide +kernel
theorem dX8_findEnd_77 : decode cX8_findEnd 77 = .ok (.iconst 2, 1) := by decide +kernel
theorem dX8_findEnd_78 : decode cX8_findEnd 78 = .ok (.iconst 0, 1) := by decide +kernel
theorem dX8_findEnd_79 : decode cX8_findEnd 79 = .ok (.invokevirtual 141, 3) := by decide +kernel
theorem dX8_findEnd_82 : decode cX8_findEnd 82 = .ok (.ifCond .eq 7, 3) := by decide +kernel
theorem dX8_findEnd_85 : decode cX8_findEnd 85 = .ok (.iconst 1, 1) := by decide +kernel
theorem dX8_findEnd_86 : decode cX8_findEnd 86 = .ok (.goto 4, 3) := by decide +kernel
theorem dX8_findEnd_89 : decode cX8_findEnd 89 = .ok (.iconst 0, 1) := by decide +kernel
theorem dX8_findEnd_90 : decode cX8_findEnd 90 = .ok (.istore_n 2, 1) := by decide +kernel
theorem dX8_findEnd_91 : decode cX8_findEnd 91 = .ok (.aload_n 0, 1) := by decide +kernel
theorem dX8_findEnd_92 : decode cX8_findEnd 92 = .ok (.iload_n 1, 1) := by decide +kernel
theorem dX8_findEnd_93 : decode cX8_findEnd 93 = .ok (.bipush 12, 2) := by decide +kernel
theorem dX8_findEnd_95 : decode cX8_findEnd 95 = .ok (.iadd, 1) := by decide +kernel
theorem dX8_findEnd_96 : decode cX8_findEnd 96 = .ok (.iconst 4, 1) := by decide +kernel
theorem dX8_findEnd_97 : decode cX8_findEnd 97 = .ok (.invokevirtual 135, 3) := by decide +kernel
theorem dX8_findEnd_100 : decode cX8_findEnd 100 = .ok (.i2l, 1) := by decide +kernel
theorem dX8_findEnd_101 : decode cX8_findEnd 101 = .ok (.aload_n 0, 1) := by decide +kernel
theorem dX8_findEnd_102 : decode cX8_findEnd 102 = .ok (.iload_n 1, 1) := by decide +kernel
theorem dX8_findEnd_103 : decode cX8_findEnd 103 = .ok (.bipush 16, 2) := by decide +kernel
theorem dX8_findEnd_105 : decode cX8_findEnd 105 = .ok (.iadd, 1) := by decide +kernel
theorem dX8_findEnd_106 : decode cX8_findEnd 106 = .ok (.iconst 4, 1) := by decide +kernel
theorem dX8_findEnd_107 : decode cX8_findEnd 107 = .ok (.invokevirtual 135, 3) := by decide +kernel
theorem dX8_findEnd_110 : decode cX8_findEnd 110 = .ok (.i2l, 1) := by decide +kernel
theorem dX8_findEnd_111 : decode cX8_findEnd 111 = .ok (.ladd, 1) := by decide +kernel
theorem dX8_findEnd_112 : decode cX8_findEnd 112 = .ok (.lstore_n 3, 1) := by decide +kernel
theorem dX8_findEnd_113 : decode cX8_findEnd 113 = .ok (.iload_n 2, 1) := by decide +kernel
theorem dX8_findEnd_114 : decode cX8_findEnd 114 = .ok (.ifCond .eq 20, 3) := by decide +kernel
theorem dX8_findEnd_117 : decode cX8_findEnd 117 = .ok (.aload_n 0, 1) := by decide +kernel
theorem dX8_findEnd_118 : decode cX8_findEnd 118 = .ok (.iload_n 1, 1) := by decide +kernel
theorem dX8_findEnd_119 : decode cX8_findEnd 119 = .ok (.bipush 8, 2) := by decide +kernel
theorem dX8_findEnd_121 : decode cX8_findEnd 121 = .ok (.iadd, 1) := by decide +kernel
theorem dX8_findEnd_122 : decode cX8_findEnd 122 = .ok (.iconst 2, 1) := by decide +kernel
theorem dX8_findEnd_123 : decode cX8_findEnd 123 = .ok (.iconst 0, 1) := by decide +kernel
theorem dX8_findEnd_124 : decode cX8_findEnd 124 = .ok (.invokevirtual 141, 3) := by decide +kernel
theorem dX8_findEnd_127 : decode cX8_findEnd 127 = .ok (.ifCond .eq 7, 3) := by decide +kernel
theorem dX8_findEnd_130 : decode cX8_findEnd 130 = .ok (.iconst 1, 1) := by decide +kernel
theorem dX8_findEnd_131 : decode cX8_findEnd 131 = .ok (.goto 4, 3) := by decide +kernel
theorem dX8_findEnd_134 : decode cX8_findEnd 134 = .ok (.iconst 0, 1) := by decide +kernel
theorem dX8_findEnd_135 : decode cX8_findEnd 135 = .ok (.istore 5, 2) := by decide +kernel
theorem dX8_findEnd_137 : decode cX8_findEnd 137 = .ok (.iload_n 2, 1) := by decide +kernel
theorem dX8_findEnd_138 : decode cX8_findEnd 138 = .ok (.ifCond .eq 23, 3) := by decide +kernel
theorem dX8_findEnd_141 : decode cX8_findEnd 141 = .ok (.lload_n 3, 1) := by decide +kernel
theorem dX8_findEnd_142 : decode cX8_findEnd 142 = .ok (.iload_n 1, 1) := by decide +kernel
theorem dX8_findEnd_143 : decode cX8_findEnd 143 = .ok (.i2l, 1) := by decide +kernel
theorem dX8_findEnd_144 : decode cX8_findEnd 144 = .ok (.lcmp, 1) := by decide +kernel
theorem dX8_findEnd_145 : decode cX8_findEnd 145 = .ok (.ifCond .ne 16, 3) := by decide +kernel
theorem dX8_findEnd_148 : decode cX8_findEnd 148 = .ok (.iload 5, 2) := by decide +kernel
theorem dX8_findEnd_150 : decode cX8_findEnd 150 = .ok (.ifCond .eq 7, 3) := by decide +kernel
theorem dX8_findEnd_153 : decode cX8_findEnd 153 = .ok (.iload_n 1, 1) := by decide +kernel
theorem dX8_findEnd_154 : decode cX8_findEnd 154 = .ok (.ifCond .ne 7, 3) := by decide +kernel
theorem dX8_findEnd_157 : decode cX8_findEnd 157 = .ok (.iload_n 1, 1) := by decide +kernel
theorem dX8_findEnd_158 : decode cX8_findEnd 158 = .ok (.goto 4, 3) := by decide +kernel
theorem dX8_findEnd_161 : decode cX8_findEnd 161 = .ok (.iconst (-1), 1) := by decide +kernel
theorem dX8_findEnd_162 : decode cX8_findEnd 162 = .ok (.ireturn, 1) := by decide +kernel
theorem dX8_isCentral_0 : decode cX8_isCentral 0 = .ok (.iload_n 2, 1) := by decide +kernel
theorem dX8_isCentral_1 : decode cX8_isCentral 1 = .ok (.bipush 46, 2) := by decide +kernel
theorem dX8_isCentral_3 : decode cX8_isCentral 3 = .ok (.iadd, 1) := by decide +kernel
theorem dX8_isCentral_4 : decode cX8_isCentral 4 = .ok (.iload_n 3, 1) := by decide +kernel
theorem dX8_isCentral_5 : decode cX8_isCentral 5 = .ok (.if_icmp .gt 51, 3) := by decide +kernel
theorem dX8_isCentral_8 : decode cX8_isCentral 8 = .ok (.aload_n 0, 1) := by decide +kernel
theorem dX8_isCentral_9 : decode cX8_isCentral 9 = .ok (.iload_n 2, 1) := by decide +kernel
theorem dX8_isCentral_10 : decode cX8_isCentral 10 = .ok (.iconst 1, 1) := by decide +kernel
theorem dX8_isCentral_11 : decode cX8_isCentral 11 = .ok (.iconst 2, 1) := by decide +kernel
theorem dX8_isCentral_12 : decode cX8_isCentral 12 = .ok (.invokevirtual 145, 3) := by decide +kernel
theorem dX8_isCentral_15 : decode cX8_isCentral 15 = .ok (.ifCond .eq 41, 3) := by decide +kernel
theorem dX8_isCentral_18 : decode cX8_isCentral 18 = .ok (.aload_n 0, 1) := by decide +kernel
theorem dX8_isCentral_19 : decode cX8_isCentral 19 = .ok (.iload_n 2, 1) := by decide +kernel
theorem dX8_isCentral_20 : decode cX8_isCentral 20 = .ok (.iconst 4, 1) := by decide +kernel
theorem dX8_isCentral_21 : decode cX8_isCentral 21 = .ok (.iadd, 1) := by decide +kernel
theorem dX8_isCentral_22 : decode cX8_isCentral 22 = .ok (.iconst 2, 1) := by decide +kernel
theorem dX8_isCentral_23 : decode cX8_isCentral 23 = .ok (.bipush 20, 2) := by decide +kernel
theorem dX8_isCentral_25 : decode cX8_isCentral 25 = .ok (.invokevirtual 141, 3) := by decide +kernel
theorem dX8_isCentral_28 : decode cX8_isCentral 28 = .ok (.ifCond .eq 28, 3) := by decide +kernel
theorem dX8_isCentral_31 : decode cX8_isCentral 31 = .ok (.aload_n 0, 1) := by decide +kernel
theorem dX8_isCentral_32 : decode cX8_isCentral 32 = .ok (.iload_n 2, 1) := by decide +kernel
theorem dX8_isCentral_33 : decode cX8_isCentral 33 = .ok (.bipush 6, 2) := by decide +kernel
theorem dX8_isCentral_35 : decode cX8_isCentral 35 = .ok (.iadd, 1) := by decide +kernel
theorem dX8_isCentral_36 : decode cX8_isCentral 36 = .ok (.iconst 2, 1) := by decide +kernel
theorem dX8_isCentral_37 : decode cX8_isCentral 37 = .ok (.bipush 20, 2) := by decide +kernel
theorem dX8_isCentral_39 : decode cX8_isCentral 39 = .ok (.invokevirtual 141, 3) := by decide +kernel
theorem dX8_isCentral_42 : decode cX8_isCentral 42 = .ok (.ifCond .eq 14, 3) := by decide +kernel
theorem dX8_isCentral_45 : decode cX8_isCentral 45 = .ok (.aload_n 0, 1) := by decide +kernel
theorem dX8_isCentral_46 : decode cX8_isCentral 46 = .ok (.iload_n 2, 1) := by decide +kernel
theorem dX8_isCentral_47 : decode cX8_isCentral 47 = .ok (.bipush 8, 2) := by decide +kernel
theorem dX8_isCentral_49 : decode cX8_isCentral 49 = .ok (.iadd, 1) := by decide +kernel
theorem dX8_isCentral_50 : decode cX8_isCentral 50 = .ok (.invokevirtual 148, 3) := by decide +kernel
theorem dX8_isCentral_53 : decode cX8_isCentral 53 = .ok (.ifCond .ne 5, 3) := by decide +kernel
theorem dX8_isCentral_56 : decode cX8_isCentral 56 = .ok (.iconst 0, 1) := by decide +kernel
theorem dX8_isCentral_57 : decode cX8_isCentral 57 = .ok (.ireturn, 1) := by decide +kernel
theorem dX8_isCentral_58 : decode cX8_isCentral 58 = .ok (.aload_n 0, 1) := by decide +kernel
theorem dX8_isCentral_59 : decode cX8_isCentral 59 = .ok (.iload_n 2, 1) := by decide +kernel
theorem dX8_isCentral_60 : decode cX8_isCentral 60 = .ok (.bipush 28, 2) := by decide +kernel
theorem dX8_isCentral_62 : decode cX8_isCentral 62 = .ok (.iadd, 1) := by decide +kernel
theorem dX8_isCentral_63 : decode cX8_isCentral 63 = .ok (.iconst 2, 1) := by decide +kernel
theorem dX8_isCentral_64 : decode cX8_isCentral 64 = .ok (.invokevirtual 135, 3) := by decide +kernel
theorem dX8_isCentral_67 : decode cX8_isCentral 67 = .ok (.istore 4, 2) := by decide +kernel
theorem dX8_isCentral_69 : decode cX8_isCentral 69 = .ok (.iload_n 2, 1) := by decide +kernel
theorem dX8_isCentral_70 : decode cX8_isCentral 70 = .ok (.bipush 46, 2) := by decide +kernel
theorem dX8_isCentral_72 : decode cX8_isCentral 72 = .ok (.iadd, 1) := by decide +kernel
theorem dX8_isCentral_73 : decode cX8_isCentral 73 = .ok (.iload 4, 2) := by decide +kernel
theorem dX8_isCentral_75 : decode cX8_isCentral 75 = .ok (.iadd, 1) := by decide +kernel
theorem dX8_isCentral_76 : decode cX8_isCentral 76 = .ok (.iload_n 3, 1) := by decide +kernel
theorem dX8_isCentral_77 : decode cX8_isCentral 77 = .ok (.if_icmp .gt 55, 3) := by decide +kernel
theorem dX8_isCentral_80 : decode cX8_isCentral 80 = .ok (.aload_n 0, 1) := by decide +kernel
theorem dX8_isCentral_81 : decode cX8_isCentral 81 = .ok (.iload_n 2, 1) := by decide +kernel
theorem dX8_isCentral_82 : decode cX8_isCentral 82 = .ok (.bipush 46, 2) := by decide +kernel
theorem dX8_isCentral_84 : decode cX8_isCentral 84 = .ok (.iadd, 1) := by decide +kernel
theorem dX8_isCentral_85 : decode cX8_isCentral 85 = .ok (.iload 4, 2) := by decide +kernel
theorem dX8_isCentral_87 : decode cX8_isCentral 87 = .ok (.invokevirtual 66, 3) := by decide +kernel
theorem dX8_isCentral_90 : decode cX8_isCentral 90 = .ok (.ifCond .eq 42, 3) := by decide +kernel
theorem dX8_isCentral_93 : decode cX8_isCentral 93 = .ok (.aload_n 0, 1) := by decide +kernel
theorem dX8_isCentral_94 : decode cX8_isCentral 94 = .ok (.iload_n 2, 1) := by decide +kernel
theorem dX8_isCentral_95 : decode cX8_isCentral 95 = .ok (.bipush 30, 2) := by decide +kernel
theorem dX8_isCentral_97 : decode cX8_isCentral 97 = .ok (.iadd, 1) := by decide +kernel
theorem dX8_isCentral_98 : decode cX8_isCentral 98 = .ok (.iconst 4, 1) := by decide +kernel
theorem dX8_isCentral_99 : decode cX8_isCentral 99 = .ok (.iconst 0, 1) := by decide +kernel
theorem dX8_isCentral_100 : decode cX8_isCentral 100 = .ok (.invokevirtual 141, 3) := by decide +kernel
theorem dX8_isCentral_103 : decode cX8_isCentral 103 = .ok (.ifCond .eq 29, 3) := by decide +kernel
theorem dX8_isCentral_106 : decode cX8_isCentral 106 = .ok (.aload_n 0, 1) := by decide +kernel
theorem dX8_isCentral_107 : decode cX8_isCentral 107 = .ok (.iload_n 2, 1) := by decide +kernel
theorem dX8_isCentral_108 : decode cX8_isCentral 108 = .ok (.bipush 34, 2) := by decide +kernel
theorem dX8_isCentral_110 : decode cX8_isCentral 110 = .ok (.iadd, 1) := by decide +kernel
theorem dX8_isCentral_111 : decode cX8_isCentral 111 = .ok (.iconst 4, 1) := by decide +kernel
theorem dX8_isCentral_112 : decode cX8_isCentral 112 = .ok (.iconst 0, 1) := by decide +kernel
theorem dX8_isCentral_113 : decode cX8_isCentral 113 = .ok (.invokevirtual 141, 3) := by decide +kernel
theorem dX8_isCentral_116 : decode cX8_isCentral 116 = .ok (.ifCond .eq 16, 3) := by decide +kernel
theorem dX8_isCentral_119 : decode cX8_isCentral 119 = .ok (.aload_n 0, 1) := by decide +kernel
theorem dX8_isCentral_120 : decode cX8_isCentral 120 = .ok (.iload_n 2, 1) := by decide +kernel
theorem dX8_isCentral_121 : decode cX8_isCentral 121 = .ok (.bipush 38, 2) := by decide +kernel
theorem dX8_isCentral_123 : decode cX8_isCentral 123 = .ok (.iadd, 1) := by decide +kernel
theorem dX8_isCentral_124 : decode cX8_isCentral 124 = .ok (.iconst 4, 1) := by decide +kernel
theorem dX8_isCentral_125 : decode cX8_isCentral 125 = .ok (.iconst 0, 1) := by decide +kernel
theorem dX8_isCentral_126 : decode cX8_isCentral 126 = .ok (.invokevirtual 141, 3) := by decide +kernel
theorem dX8_isCentral_129 : decode cX8_isCentral 129 = .ok (.ifCond .ne 5, 3) := by decide +kernel
theorem dX8_isCentral_132 : decode cX8_isCentral 132 = .ok (.iconst 0, 1) := by decide +kernel
theorem dX8_isCentral_133 : decode cX8_isCentral 133 = .ok (.ireturn, 1) := by decide +kernel
theorem dX8_isCentral_134 : decode cX8_isCentral 134 = .ok (.iconst 0, 1) := by decide +kernel
theorem dX8_isCentral_135 : decode cX8_isCentral 135 = .ok (.istore 5, 2) := by decide +kernel
theorem dX8_isCentral_137 : decode cX8_isCentral 137 = .ok (.iconst 0, 1) := by decide +kernel
theorem dX8_isCentral_138 : decode cX8_isCentral 138 = .ok (.istore 6, 2) := by decide +kernel
theorem dX8_isCentral_140 : decode cX8_isCentral 140 = .ok (.iload 6, 2) := by decide +kernel
theorem dX8_isCentral_142 : decode cX8_isCentral 142 = .ok (.iload_n 1, 1) := by decide +kernel
theorem dX8_isCentral_143 : decode cX8_isCentral 143 = .ok (.if_icmp .ge 64, 3) := by decide +kernel
theorem dX8_isCentral_146 : decode cX8_isCentral 146 = .ok (.iload 5, 2) := by decide +kernel
theorem dX8_isCentral_148 : decode cX8_isCentral 148 = .ok (.ifCond .ne 46, 3) := by decide +kernel
theorem dX8_isCentral_151 : decode cX8_isCentral 151 = .ok (.aload_n 0, 1) := by decide +kernel
theorem dX8_isCentral_152 : decode cX8_isCentral 152 = .ok (.aload_n 0, 1) := by decide +kernel
theorem dX8_isCentral_153 : decode cX8_isCentral 153 = .ok (.getfield 41, 3) := by decide +kernel
theorem dX8_isCentral_156 : decode cX8_isCentral 156 = .ok (.iload 6, 2) := by decide +kernel
theorem dX8_isCentral_158 : decode cX8_isCentral 158 = .ok (.iaload, 1) := by decide +kernel
theorem dX8_isCentral_159 : decode cX8_isCentral 159 = .ok (.bipush 46, 2) := by decide +kernel
theorem dX8_isCentral_161 : decode cX8_isCentral 161 = .ok (.iadd, 1) := by decide +kernel
theorem dX8_isCentral_162 : decode cX8_isCentral 162 = .ok (.iload_n 2, 1) := by decide +kernel
theorem dX8_isCentral_163 : decode cX8_isCentral 163 = .ok (.bipush 46, 2) := by decide +kernel
theorem dX8_isCentral_165 : decode cX8_isCentral 165 = .ok (.iadd, 1) := by decide +kernel
theorem dX8_isCentral_166 : decode cX8_isCentral 166 = .ok (.iload 4, 2) := by decide +kernel
theorem dX8_isCentral_168 : decode cX8_isCentral 168 = .ok (.invokevirtual 151, 3) := by decide +kernel
theorem dX8_isCentral_171 : decode cX8_isCentral 171 = .ok (.ifCond .eq 27, 3) := by decide +kernel
theorem dX8_isCentral_174 : decode cX8_isCentral 174 = .ok (.aload_n 0, 1) := by decide +kernel
theorem dX8_isCentral_175 : decode cX8_isCentral 175 = .ok (.aload_n 0, 1) := by decide +kernel
theorem dX8_isCentral_176 : decode cX8_isCentral 176 = .ok (.getfield 41, 3) := by decide +kernel
theorem dX8_isCentral_179 : decode cX8_isCentral 179 = .ok (.iload 6, 2) := by decide +kernel
theorem dX8_isCentral_181 : decode cX8_isCentral 181 = .ok (.iaload, 1) := by decide +kernel
theorem dX8_isCentral_182 : decode cX8_isCentral 182 = .ok (.bipush 28, 2) := by decide +kernel
theorem dX8_isCentral_184 : decode cX8_isCentral 184 = .ok (.iadd, 1) := by decide +kernel
theorem dX8_isCentral_185 : decode cX8_isCentral 185 = .ok (.iconst 2, 1) := by decide +kernel
theorem dX8_isCentral_186 : decode cX8_isCentral 186 = .ok (.iload 4, 2) := by decide +kernel
theorem dX8_isCentral_188 : decode cX8_isCentral 188 = .ok (.invokevirtual 141, 3) := by decide +kernel
theorem dX8_isCentral_191 : decode cX8_isCentral 191 = .ok (.ifCond .eq 7, 3) := by decide +kernel
theorem dX8_isCentral_194 : decode cX8_isCentral 194 = .ok (.iconst 1, 1) := by decide +kernel
theorem dX8_isCentral_195 : decode cX8_isCentral 195 = .ok (.goto 4, 3) := by decide +kernel
theorem dX8_isCentral_198 : decode cX8_isCentral 198 = .ok (.iconst 0, 1) := by decide +kernel
theorem dX8_isCentral_199 : decode cX8_isCentral 199 = .ok (.istore 5, 2) := by decide +kernel
theorem dX8_isCentral_201 : decode cX8_isCentral 201 = .ok (.iinc 6 1, 3) := by decide +kernel
theorem dX8_isCentral_204 : decode cX8_isCentral 204 = .ok (.goto (-64), 3) := by decide +kernel
theorem dX8_isCentral_207 : decode cX8_isCentral 207 = .ok (.iload 5, 2) := by decide +kernel
theorem dX8_isCentral_209 : decode cX8_isCentral 209 = .ok (.ifCond .ne 7, 3) := by decide +kernel
theorem dX8_isCentral_212 : decode cX8_isCentral 212 = .ok (.iconst 1, 1) := by decide +kernel
theorem dX8_isCentral_213 : decode cX8_isCentral 213 = .ok (.goto 4, 3) := by decide +kernel
theorem dX8_isCentral_216 : decode cX8_isCentral 216 = .ok (.iconst 0, 1) := by decide +kernel
theorem dX8_isCentral_217 : decode cX8_isCentral 217 = .ok (.ireturn, 1) := by decide +kernel
theorem dX8_isSame_0 : decode cX8_isSame 0 = .ok (.iconst 1, 1) := by decide +kernel
theorem dX8_isSame_1 : decode cX8_isSame 1 = .ok (.istore 4, 2) := by decide +kernel
theorem dX8_isSame_3 : decode cX8_isSame 3 = .ok (.iconst 0, 1) := by decide +kernel
theorem dX8_isSame_4 : decode cX8_isSame 4 = .ok (.istore 5, 2) := by decide +kernel
theorem dX8_isSame_6 : decode cX8_isSame 6 = .ok (.iload 5, 2) := by decide +kernel
theorem dX8_isSame_8 : decode cX8_isSame 8 = .ok (.iload_n 3, 1) := by decide +kernel
theorem dX8_isSame_9 : decode cX8_isSame 9 = .ok (.if_icmp .ge 42, 3) := by decide +kernel
theorem dX8_isSame_12 : decode cX8_isSame 12 = .ok (.iload 4, 2) := by decide +kernel
theorem dX8_isSame_14 : decode cX8_isSame 14 = .ok (.ifCond .eq 37, 3) := by decide +kernel
theorem dX8_isSame_17 : decode cX8_isSame 17 = .ok (.aload_n 0, 1) := by decide +kernel
theorem dX8_isSame_18 : decode cX8_isSame 18 = .ok (.getfield 13, 3) := by decide +kernel
theorem dX8_isSame_21 : decode cX8_isSame 21 = .ok (.iload_n 1, 1) := by decide +kernel
theorem dX8_isSame_22 : decode cX8_isSame 22 = .ok (.iload 5, 2) := by decide +kernel
theorem dX8_isSame_24 : decode cX8_isSame 24 = .ok (.iadd, 1) := by decide +kernel
theorem dX8_isSame_25 : decode cX8_isSame 25 = .ok (.iaload, 1) := by decide +kernel
theorem dX8_isSame_26 : decode cX8_isSame 26 = .ok (.aload_n 0, 1) := by decide +kernel
theorem dX8_isSame_27 : decode cX8_isSame 27 = .ok (.getfield 13, 3) := by decide +kernel
theorem dX8_isSame_30 : decode cX8_isSame 30 = .ok (.iload_n 2, 1) := by decide +kernel
theorem dX8_isSame_31 : decode cX8_isSame 31 = .ok (.iload 5, 2) := by decide +kernel
theorem dX8_isSame_33 : decode cX8_isSame 33 = .ok (.iadd, 1) := by decide +kernel
theorem dX8_isSame_34 : decode cX8_isSame 34 = .ok (.iaload, 1) := by decide +kernel
theorem dX8_isSame_35 : decode cX8_isSame 35 = .ok (.if_icmp .ne 7, 3) := by decide +kernel
theorem dX8_isSame_38 : decode cX8_isSame 38 = .ok (.iconst 1, 1) := by decide +kernel
theorem dX8_isSame_39 : decode cX8_isSame 39 = .ok (.goto 4, 3) := by decide +kernel
theorem dX8_isSame_42 : decode cX8_isSame 42 = .ok (.iconst 0, 1) := by decide +kernel
theorem dX8_isSame_43 : decode cX8_isSame 43 = .ok (.istore 4, 2) := by decide +kernel
theorem dX8_isSame_45 : decode cX8_isSame 45 = .ok (.iinc 5 1, 3) := by decide +kernel
theorem dX8_isSame_48 : decode cX8_isSame 48 = .ok (.goto (-42), 3) := by decide +kernel
theorem dX8_isSame_51 : decode cX8_isSame 51 = .ok (.iload 4, 2) := by decide +kernel
theorem dX8_isSame_53 : decode cX8_isSame 53 = .ok (.ireturn, 1) := by decide +kernel
theorem dX8_findCentrals_0 : decode cX8_findCentrals 0 = .ok (.iload_n 2, 1) := by decide +kernel
theorem dX8_findCentrals_1 : decode cX8_findCentrals 1 = .ok (.aload_n 0, 1) := by decide +kernel
theorem dX8_findCentrals_2 : decode cX8_findCentrals 2 = .ok (.iload_n 2, 1) := by decide +kernel
theorem dX8_findCentrals_3 : decode cX8_findCentrals 3 = .ok (.bipush 12, 2) := by decide +kernel
theorem dX8_findCentrals_5 : decode cX8_findCentrals 5 = .ok (.iadd, 1) := by decide +kernel
theorem dX8_findCentrals_6 : decode cX8_findCentrals 6 = .ok (.iconst 4, 1) := by decide +kernel
theorem dX8_findCentrals_7 : decode cX8_findCentrals 7 = .ok (.invokevirtual 135, 3) := by decide +kernel
theorem dX8_findCentrals_10 : decode cX8_findCentrals 10 = .ok (.isub, 1) := by decide +kernel
theorem dX8_findCentrals_11 : decode cX8_findCentrals 11 = .ok (.istore_n 3, 1) := by decide +kernel
theorem dX8_findCentrals_12 : decode cX8_findCentrals 12 = .ok (.iconst 0, 1) := by decide +kernel
theorem dX8_findCentrals_13 : decode cX8_findCentrals 13 = .ok (.istore 4, 2) := by decide +kernel
theorem dX8_findCentrals_15 : decode cX8_findCentrals 15 = .ok (.iload 4, 2) := by decide +kernel
theorem dX8_findCentrals_17 : decode cX8_findCentrals 17 = .ok (.iload_n 1, 1) := by decide +kernel
theorem dX8_findCentrals_18 : decode cX8_findCentrals 18 = .ok (.if_icmp .ge 81, 3) := by decide +kernel
theorem dX8_findCentrals_21 : decode cX8_findCentrals 21 = .ok (.aload_n 0, 1) := by decide +kernel
theorem dX8_findCentrals_22 : decode cX8_findCentrals 22 = .ok (.iload 4, 2) := by decide +kernel
theorem dX8_findCentrals_24 : decode cX8_findCentrals 24 = .ok (.iload_n 3, 1) := by decide +kernel
theorem dX8_findCentrals_25 : decode cX8_findCentrals 25 = .ok (.iload_n 2, 1) := by decide +kernel
theorem dX8_findCentrals_26 : decode cX8_findCentrals 26 = .ok (.invokevirtual 154, 3) := by decide +kernel
theorem dX8_findCentrals_29 : decode cX8_findCentrals 29 = .ok (.ifCond .eq 18, 3) := by decide +kernel
theorem dX8_findCentrals_32 : decode cX8_findCentrals 32 = .ok (.bipush 46, 2) := by decide +kernel
theorem dX8_findCentrals_34 : decode cX8_findCentrals 34 = .ok (.aload_n 0, 1) := by decide +kernel
theorem dX8_findCentrals_35 : decode cX8_findCentrals 35 = .ok (.iload_n 3, 1) := by decide +kernel
theorem dX8_findCentrals_36 : decode cX8_findCentrals 36 = .ok (.bipush 28, 2) := by decide +kernel
theorem dX8_findCentrals_38 : decode cX8_findCentrals 38 = .ok (.iadd, 1) := by decide +kernel
theorem dX8_findCentrals_39 : decode cX8_findCentrals 39 = .ok (.iconst 2, 1) := by decide +kernel
theorem dX8_findCentrals_40 : decode cX8_findCentrals 40 = .ok (.invokevirtual 135, 3) := by decide +kernel
theorem dX8_findCentrals_43 : decode cX8_findCentrals 43 = .ok (.iadd, 1) := by decide +kernel
theorem dX8_findCentrals_44 : decode cX8_findCentrals 44 = .ok (.goto 4, 3) := by decide +kernel
theorem dX8_findCentrals_47 : decode cX8_findCentrals 47 = .ok (.iconst 0, 1) := by decide +kernel
theorem dX8_findCentrals_48 : decode cX8_findCentrals 48 = .ok (.istore 5, 2) := by decide +kernel
theorem dX8_findCentrals_50 : decode cX8_findCentrals 50 = .ok (.iload 5, 2) := by decide +kernel
theorem dX8_findCentrals_52 : decode cX8_findCentrals 52 = .ok (.ifCond .eq 19, 3) := by decide +kernel
theorem dX8_findCentrals_55 : decode cX8_findCentrals 55 = .ok (.iload 4, 2) := by decide +kernel
theorem dX8_findCentrals_57 : decode cX8_findCentrals 57 = .ok (.iload_n 1, 1) := by decide +kernel
theorem dX8_findCentrals_58 : decode cX8_findCentrals 58 = .ok (.iconst 1, 1) := by decide +kernel
theorem dX8_findCentrals_59 : decode cX8_findCentrals 59 = .ok (.isub, 1) := by decide +kernel
theorem dX8_findCentrals_60 : decode cX8_findCentrals 60 = .ok (.if_icmp .ne 20, 3) := by decide +kernel
theorem dX8_findCentrals_63 : decode cX8_findCentrals 63 = .ok (.iload_n 3, 1) := by decide +kernel
theorem dX8_findCentrals_64 : decode cX8_findCentrals 64 = .ok (.iload 5, 2) := by decide +kernel
theorem dX8_findCentrals_66 : decode cX8_findCentrals 66 = .ok (.iadd, 1) := by decide +kernel
theorem dX8_findCentrals_67 : decode cX8_findCentrals 67 = .ok (.iload_n 2, 1) := by decide +kernel
theorem dX8_findCentrals_68 : decode cX8_findCentrals 68 = .ok (.if_icmp .eq 12, 3) := by decide +kernel
theorem dX8_findCentrals_71 : decode cX8_findCentrals 71 = .ok (.aload_n 0, 1) := by decide +kernel
theorem dX8_findCentrals_72 : decode cX8_findCentrals 72 = .ok (.iconst 2, 1) := by decide +kernel
theorem dX8_findCentrals_73 : decode cX8_findCentrals 73 = .ok (.iload 4, 2) := by decide +kernel
theorem dX8_findCentrals_75 : decode cX8_findCentrals 75 = .ok (.iload_n 3, 1) := by decide +kernel
theorem dX8_findCentrals_76 : decode cX8_findCentrals 76 = .ok (.invokevirtual 157, 3) := by decide +kernel
theorem dX8_findCentrals_79 : decode cX8_findCentrals 79 = .ok (.ireturn, 1) := by decide +kernel
theorem dX8_findCentrals_80 : decode cX8_findCentrals 80 = .ok (.aload_n 0, 1) := by decide +kernel
theorem dX8_findCentrals_81 : decode cX8_findCentrals 81 = .ok (.getfield 41, 3) := by decide +kernel
theorem dX8_findCentrals_84 : decode cX8_findCentrals 84 = .ok (.iload 4, 2) := by decide +kernel
theorem dX8_findCentrals_86 : decode cX8_findCentrals 86 = .ok (.iload_n 3, 1) := by decide +kernel
theorem dX8_findCentrals_87 : decode cX8_findCentrals 87 = .ok (.iastore, 1) := by decide +kernel
theorem dX8_findCentrals_88 : decode cX8_findCentrals 88 = .ok (.iload_n 3, 1) := by decide +kernel
theorem dX8_findCentrals_89 : decode cX8_findCentrals 89 = .ok (.iload 5, 2) := by decide +kernel
theorem dX8_findCentrals_91 : decode cX8_findCentrals 91 = .ok (.iadd, 1) := by decide +kernel
theorem dX8_findCentrals_92 : decode cX8_findCentrals 92 = .ok (.istore_n 3, 1) := by decide +kernel
theorem dX8_findCentrals_93 : decode cX8_findCentrals 93 = .ok (.iinc 4 1, 3) := by decide +kernel
theorem dX8_findCentrals_96 : decode cX8_findCentrals 96 = .ok (.goto (-81), 3) := by decide +kernel
theorem dX8_findCentrals_99 : decode cX8_findCentrals 99 = .ok (.iconst 1, 1) := by decide +kernel
theorem dX8_findCentrals_100 : decode cX8_findCentrals 100 = .ok (.ireturn, 1) := by decide +kernel
theorem dX8_isLocal_0 : decode cX8_isLocal 0 = .ok (.aload_n 0, 1) := by decide +kernel
theorem dX8_isLocal_1 : decode cX8_isLocal 1 = .ok (.getfield 41, 3) := by decide +kernel
theorem dX8_isLocal_4 : decode cX8_isLocal 4 = .ok (.iload_n 1, 1) := by decide +kernel
theorem dX8_isLocal_5 : decode cX8_isLocal 5 = .ok (.iaload, 1) := by decide +kernel
theorem dX8_isLocal_6 : decode cX8_isLocal 6 = .ok (.istore 5, 2) := by decide +kernel
theorem dX8_isLocal_8 : decode cX8_isLocal 8 = .ok (.aload_n 0, 1) := by decide +kernel
theorem dX8_isLocal_9 : decode cX8_isLocal 9 = .ok (.iload 5, 2) := by decide +kernel
theorem dX8_isLocal_11 : decode cX8_isLocal 11 = .ok (.bipush 28, 2) := by decide +kernel
theorem dX8_isLocal_13 : decode cX8_isLocal 13 = .ok (.iadd, 1) := by decide +kernel
theorem dX8_isLocal_14 : decode cX8_isLocal 14 = .ok (.iconst 2, 1) := by decide +kernel
theorem dX8_isLocal_15 : decode cX8_isLocal 15 = .ok (.invokevirtual 135, 3) := by decide +kernel
theorem dX8_isLocal_18 : decode cX8_isLocal 18 = .ok (.istore 6, 2) := by decide +kernel
theorem dX8_isLocal_20 : decode cX8_isLocal 20 = .ok (.aload_n 0, 1) := by decide +kernel
theorem dX8_isLocal_21 : decode cX8_isLocal 21 = .ok (.iload 5, 2) := by decide +kernel
theorem dX8_isLocal_23 : decode cX8_isLocal 23 = .ok (.bipush 42, 2) := by decide +kernel
theorem dX8_isLocal_25 : decode cX8_isLocal 25 = .ok (.iadd, 1) := by decide +kernel
theorem dX8_isLocal_26 : decode cX8_isLocal 26 = .ok (.iconst 4, 1) := by decide +kernel
theorem dX8_isLocal_27 : decode cX8_isLocal 27 = .ok (.iload_n 2, 1) := by decide +kernel
theorem dX8_isLocal_28 : decode cX8_isLocal 28 = .ok (.invokevirtual 141, 3) := by decide +kernel
theorem dX8_isLocal_31 : decode cX8_isLocal 31 = .ok (.ifCond .eq 14, 3) := by decide +kernel
theorem dX8_isLocal_34 : decode cX8_isLocal 34 = .ok (.iload_n 2, 1) := by decide +kernel
theorem dX8_isLocal_35 : decode cX8_isLocal 35 = .ok (.bipush 30, 2) := by decide +kernel
theorem dX8_isLocal_37 : decode cX8_isLocal 37 = .ok (.iadd, 1) := by decide +kernel
theorem dX8_isLocal_38 : decode cX8_isLocal 38 = .ok (.iload 6, 2) := by decide +kernel
theorem dX8_isLocal_40 : decode cX8_isLocal 40 = .ok (.iadd, 1) := by decide +kernel
theorem dX8_isLocal_41 : decode cX8_isLocal 41 = .ok (.iload_n 3, 1) := by decide +kernel
theorem dX8_isLocal_42 : decode cX8_isLocal 42 = .ok (.if_icmp .le 5, 3) := by decide +kernel
theorem dX8_isLocal_45 : decode cX8_isLocal 45 = .ok (.iconst 0, 1) := by decide +kernel
theorem dX8_isLocal_46 : decode cX8_isLocal 46 = .ok (.ireturn, 1) := by decide +kernel
theorem dX8_isLocal_47 : decode cX8_isLocal 47 = .ok (.aload_n 0, 1) := by decide +kernel
theorem dX8_isLocal_48 : decode cX8_isLocal 48 = .ok (.iload_n 2, 1) := by decide +kernel
theorem dX8_isLocal_49 : decode cX8_isLocal 49 = .ok (.iconst 3, 1) := by decide +kernel
theorem dX8_isLocal_50 : decode cX8_isLocal 50 = .ok (.iconst 4, 1) := by decide +kernel
theorem dX8_isLocal_51 : decode cX8_isLocal 51 = .ok (.invokevirtual 145, 3) := by decide +kernel
theorem dX8_isLocal_54 : decode cX8_isLocal 54 = .ok (.ifCond .eq 65, 3) := by decide +kernel
theorem dX8_isLocal_57 : decode cX8_isLocal 57 = .ok (.aload_n 0, 1) := by decide +kernel
theorem dX8_isLocal_58 : decode cX8_isLocal 58 = .ok (.iload_n 2, 1) := by decide +kernel
theorem dX8_isLocal_59 : decode cX8_isLocal 59 = .ok (.iconst 4, 1) := by decide +kernel
theorem dX8_isLocal_60 : decode cX8_isLocal 60 = .ok (.iadd, 1) := by decide +kernel
theorem dX8_isLocal_61 : decode cX8_isLocal 61 = .ok (.iconst 2, 1) := by decide +kernel
theorem dX8_isLocal_62 : decode cX8_isLocal 62 = .ok (.bipush 20, 2) := by decide +kernel
theorem dX8_isLocal_64 : decode cX8_isLocal 64 = .ok (.invokevirtual 141, 3) := by decide +kernel
theorem dX8_isLocal_67 : decode cX8_isLocal 67 = .ok (.ifCond .eq 52, 3) := by decide +kernel
theorem dX8_isLocal_70 : decode cX8_isLocal 70 = .ok (.aload_n 0, 1) := by decide +kernel
theorem dX8_isLocal_71 : decode cX8_isLocal 71 = .ok (.iload_n 2, 1) := by decide +kernel
theorem dX8_isLocal_72 : decode cX8_isLocal 72 = .ok (.bipush 6, 2) := by decide +kernel
theorem dX8_isLocal_74 : decode cX8_isLocal 74 = .ok (.iadd, 1) := by decide +kernel
theorem dX8_isLocal_75 : decode cX8_isLocal 75 = .ok (.iload 5, 2) := by decide +kernel
theorem dX8_isLocal_77 : decode cX8_isLocal 77 = .ok (.bipush 8, 2) := by decide +kernel
theorem dX8_isLocal_79 : decode cX8_isLocal 79 = .ok (.iadd, 1) := by decide +kernel
theorem dX8_isLocal_80 : decode cX8_isLocal 80 = .ok (.bipush 22, 2) := by decide +kernel
theorem dX8_isLocal_82 : decode cX8_isLocal 82 = .ok (.invokevirtual 151, 3) := by decide +kernel
theorem dX8_isLocal_85 : decode cX8_isLocal 85 = .ok (.ifCond .eq 34, 3) := by decide +kernel
theorem dX8_isLocal_88 : decode cX8_isLocal 88 = .ok (.aload_n 0, 1) := by decide +kernel
theorem dX8_isLocal_89 : decode cX8_isLocal 89 = .ok (.iload_n 2, 1) := by decide +kernel
theorem dX8_isLocal_90 : decode cX8_isLocal 90 = .ok (.bipush 28, 2) := by decide +kernel
theorem dX8_isLocal_92 : decode cX8_isLocal 92 = .ok (.iadd, 1) := by decide +kernel
theorem dX8_isLocal_93 : decode cX8_isLocal 93 = .ok (.iconst 2, 1) := by decide +kernel
theorem dX8_isLocal_94 : decode cX8_isLocal 94 = .ok (.iconst 0, 1) := by decide +kernel
theorem dX8_isLocal_95 : decode cX8_isLocal 95 = .ok (.invokevirtual 141, 3) := by decide +kernel
theorem dX8_isLocal_98 : decode cX8_isLocal 98 = .ok (.ifCond .eq 21, 3) := by decide +kernel
theorem dX8_isLocal_101 : decode cX8_isLocal 101 = .ok (.aload_n 0, 1) := by decide +kernel
theorem dX8_isLocal_102 : decode cX8_isLocal 102 = .ok (.iload_n 2, 1) := by decide +kernel
theorem dX8_isLocal_103 : decode cX8_isLocal 103 = .ok (.bipush 30, 2) := by decide +kernel
theorem dX8_isLocal_105 : decode cX8_isLocal 105 = .ok (.iadd, 1) := by decide +kernel
theorem dX8_isLocal_106 : decode cX8_isLocal 106 = .ok (.iload 5, 2) := by decide +kernel
theorem dX8_isLocal_108 : decode cX8_isLocal 108 = .ok (.bipush 46, 2) := by decide +kernel
theorem dX8_isLocal_110 : decode cX8_isLocal 110 = .ok (.iadd, 1) := by decide +kernel
theorem dX8_isLocal_111 : decode cX8_isLocal 111 = .ok (.iload 6, 2) := by decide +kernel
theorem dX8_isLocal_113 : decode cX8_isLocal 113 = .ok (.invokevirtual 151, 3) := by decide +kernel
theorem dX8_isLocal_116 : decode cX8_isLocal 116 = .ok (.ifCond .ne 5, 3) := by decide +kernel
theorem dX8_isLocal_119 : decode cX8_isLocal 119 = .ok (.iconst 0, 1) := by decide +kernel
theorem dX8_isLocal_120 : decode cX8_isLocal 120 = .ok (.ireturn, 1) := by decide +kernel
theorem dX8_isLocal_121 : decode cX8_isLocal 121 = .ok (.iload_n 2, 1) := by decide +kernel
theorem dX8_isLocal_122 : decode cX8_isLocal 122 = .ok (.i2l, 1) := by decide +kernel
theorem dX8_isLocal_123 : decode cX8_isLocal 123 = .ok (.ldc2_w 160, 3) := by decide +kernel
theorem dX8_isLocal_126 : decode cX8_isLocal 126 = .ok (.ladd, 1) := by decide +kernel
theorem dX8_isLocal_127 : decode cX8_isLocal 127 = .ok (.iload 6, 2) := by decide +kernel
theorem dX8_isLocal_129 : decode cX8_isLocal 129 = .ok (.i2l, 1) := by decide +kernel
theorem dX8_isLocal_130 : decode cX8_isLocal 130 = .ok (.ladd, 1) := by decide +kernel
theorem dX8_isLocal_131 : decode cX8_isLocal 131 = .ok (.aload_n 0, 1) := by decide +kernel
theorem dX8_isLocal_132 : decode cX8_isLocal 132 = .ok (.iload 5, 2) := by decide +kernel
theorem dX8_isLocal_134 : decode cX8_isLocal 134 = .ok (.bipush 20, 2) := by decide +kernel
theorem dX8_isLocal_136 : decode cX8_isLocal 136 = .ok (.iadd, 1) := by decide +kernel
theorem dX8_isLocal_137 : decode cX8_isLocal 137 = .ok (.iconst 4, 1) := by decide +kernel
theorem dX8_isLocal_138 : decode cX8_isLocal 138 = .ok (.invokevirtual 135, 3) := by decide +kernel
theorem dX8_isLocal_141 : decode cX8_isLocal 141 = .ok (.i2l, 1) := by decide +kernel
theorem dX8_isLocal_142 : decode cX8_isLocal 142 = .ok (.ladd, 1) := by decide +kernel
theorem dX8_isLocal_143 : decode cX8_isLocal 143 = .ok (.lstore 7, 2) := by decide +kernel
theorem dX8_isLocal_145 : decode cX8_isLocal 145 = .ok (.iload 4, 2) := by decide +kernel
theorem dX8_isLocal_147 : decode cX8_isLocal 147 = .ok (.ifCond .eq 19, 3) := by decide +kernel
theorem dX8_isLocal_150 : decode cX8_isLocal 150 = .ok (.lload 7, 2) := by decide +kernel
theorem dX8_isLocal_152 : decode cX8_isLocal 152 = .ok (.iload_n 3, 1) := by decide +kernel
theorem dX8_isLocal_153 : decode cX8_isLocal 153 = .ok (.i2l, 1) := by decide +kernel
theorem dX8_isLocal_154 : decode cX8_isLocal 154 = .ok (.lcmp, 1) := by decide +kernel
theorem dX8_isLocal_155 : decode cX8_isLocal 155 = .ok (.ifCond .ne 7, 3) := by decide +kernel
theorem dX8_isLocal_158 : decode cX8_isLocal 158 = .ok (.iconst 1, 1) := by decide +kernel
theorem dX8_isLocal_159 : decode cX8_isLocal 159 = .ok (.goto 20, 3) := by decide +kernel
theorem dX8_isLocal_162 : decode cX8_isLocal 162 = .ok (.iconst 0, 1) := by decide +kernel
theorem dX8_isLocal_163 : decode cX8_isLocal 163 = .ok (.goto 16, 3) := by decide +kernel
theorem dX8_isLocal_166 : decode cX8_isLocal 166 = .ok (.lload 7, 2) := by decide +kernel
theorem dX8_isLocal_168 : decode cX8_isLocal 168 = .ok (.iload_n 3, 1) := by decide +kernel
theorem dX8_isLocal_169 : decode cX8_isLocal 169 = .ok (.i2l, 1) := by decide +kernel
theorem dX8_isLocal_170 : decode cX8_isLocal 170 = .ok (.lcmp, 1) := by decide +kernel
theorem dX8_isLocal_171 : decode cX8_isLocal 171 = .ok (.ifCond .gt 7, 3) := by decide +kernel
theorem dX8_isLocal_174 : decode cX8_isLocal 174 = .ok (.iconst 1, 1) := by decide +kernel
theorem dX8_isLocal_175 : decode cX8_isLocal 175 = .ok (.goto 4, 3) := by decide +kernel
theorem dX8_isLocal_178 : decode cX8_isLocal 178 = .ok (.iconst 0, 1) := by decide +kernel
theorem dX8_isLocal_179 : decode cX8_isLocal 179 = .ok (.ireturn, 1) := by decide +kernel
theorem dX8_findLocals_0 : decode cX8_findLocals 0 = .ok (.iconst 0, 1) := by decide +kernel
theorem dX8_findLocals_1 : decode cX8_findLocals 1 = .ok (.istore_n 3, 1) := by decide +kernel
theorem dX8_findLocals_2 : decode cX8_findLocals 2 = .ok (.iload_n 1, 1) := by decide +kernel
theorem dX8_findLocals_3 : decode cX8_findLocals 3 = .ok (.ifCond .le 12, 3) := by decide +kernel
theorem dX8_findLocals_6 : decode cX8_findLocals 6 = .ok (.aload_n 0, 1) := by decide +kernel
theorem dX8_findLocals_7 : decode cX8_findLocals 7 = .ok (.getfield 41, 3) := by decide +kernel
theorem dX8_findLocals_10 : decode cX8_findLocals 10 = .ok (.iconst 0, 1) := by decide +kernel
theorem dX8_findLocals_11 : decode cX8_findLocals 11 = .ok (.iaload, 1) := by decide +kernel
theorem dX8_findLocals_12 : decode cX8_findLocals 12 = .ok (.goto 4, 3) := by decide +kernel
theorem dX8_findLocals_15 : decode cX8_findLocals 15 = .ok (.iload_n 2, 1) := by decide +kernel
theorem dX8_findLocals_16 : decode cX8_findLocals 16 = .ok (.istore 4, 2) := by decide +kernel
theorem dX8_findLocals_18 : decode cX8_findLocals 18 = .ok (.iconst 0, 1) := by decide +kernel
theorem dX8_findLocals_19 : decode cX8_findLocals 19 = .ok (.istore 5, 2) := by decide +kernel
theorem dX8_findLocals_21 : decode cX8_findLocals 21 = .ok (.iload 5, 2) := by decide +kernel
theorem dX8_findLocals_23 : decode cX8_findLocals 23 = .ok (.iload_n 1, 1) := by decide +kernel
theorem dX8_findLocals_24 : decode cX8_findLocals 24 = .ok (.if_icmp .ge 82, 3) := by decide +kernel
theorem dX8_findLocals_27 : decode cX8_findLocals 27 = .ok (.aload_n 0, 1) := by decide +kernel
theorem dX8_findLocals_28 : decode cX8_findLocals 28 = .ok (.iload 5, 2) := by decide +kernel
theorem dX8_findLocals_30 : decode cX8_findLocals 30 = .ok (.iload_n 3, 1) := by decide +kernel
theorem dX8_findLocals_31 : decode cX8_findLocals 31 = .ok (.iload 4, 2) := by decide +kernel
theorem dX8_findLocals_33 : decode cX8_findLocals 33 = .ok (.iload 5, 2) := by decide +kernel
theorem dX8_findLocals_35 : decode cX8_findLocals 35 = .ok (.iload_n 1, 1) := by decide +kernel
theorem dX8_findLocals_36 : decode cX8_findLocals 36 = .ok (.iconst 1, 1) := by decide +kernel
theorem dX8_findLocals_37 : decode cX8_findLocals 37 = .ok (.isub, 1) := by decide +kernel
theorem dX8_findLocals_38 : decode cX8_findLocals 38 = .ok (.if_icmp .ne 7, 3) := by decide +kernel
theorem dX8_findLocals_41 : decode cX8_findLocals 41 = .ok (.iconst 1, 1) := by decide +kernel
theorem dX8_findLocals_42 : decode cX8_findLocals 42 = .ok (.goto 4, 3) := by decide +kernel
theorem dX8_findLocals_45 : decode cX8_findLocals 45 = .ok (.iconst 0, 1) := by decide +kernel
theorem dX8_findLocals_46 : decode cX8_findLocals 46 = .ok (.invokevirtual 162, 3) := by decide +kernel
theorem dX8_findLocals_49 : decode cX8_findLocals 49 = .ok (.ifCond .ne 12, 3) := by decide +kernel
theorem dX8_findLocals_52 : decode cX8_findLocals 52 = .ok (.aload_n 0, 1) := by decide +kernel
theorem dX8_findLocals_53 : decode cX8_findLocals 53 = .ok (.iconst 3, 1) := by decide +kernel
theorem dX8_findLocals_54 : decode cX8_findLocals 54 = .ok (.iload 5, 2) := by decide +kernel
theorem dX8_findLocals_56 : decode cX8_findLocals 56 = .ok (.iload_n 3, 1) := by decide +kernel
theorem dX8_findLocals_57 : decode cX8_findLocals 57 = .ok (.invokevirtual 157, 3) := by decide +kernel
theorem dX8_findLocals_60 : decode cX8_findLocals 60 = .ok (.ireturn, 1) := by decide +kernel
theorem dX8_findLocals_61 : decode cX8_findLocals 61 = .ok (.aload_n 0, 1) := by decide +kernel
theorem dX8_findLocals_62 : decode cX8_findLocals 62 = .ok (.getfield 44, 3) := by decide +kernel
theorem dX8_findLocals_65 : decode cX8_findLocals 65 = .ok (.iload 5, 2) := by decide +kernel
theorem dX8_findLocals_67 : decode cX8_findLocals 67 = .ok (.iload_n 3, 1) := by decide +kernel
theorem dX8_findLocals_68 : decode cX8_findLocals 68 = .ok (.bipush 30, 2) := by decide +kernel
theorem dX8_findLocals_70 : decode cX8_findLocals 70 = .ok (.iadd, 1) := by decide +kernel
theorem dX8_findLocals_71 : decode cX8_findLocals 71 = .ok (.aload_n 0, 1) := by decide +kernel
theorem dX8_findLocals_72 : decode cX8_findLocals 72 = .ok (.iload_n 3, 1) := by decide +kernel
theorem dX8_findLocals_73 : decode cX8_findLocals 73 = .ok (.bipush 26, 2) := by decide +kernel
theorem dX8_findLocals_75 : decode cX8_findLocals 75 = .ok (.iadd, 1) := by decide +kernel
theorem dX8_findLocals_76 : decode cX8_findLocals 76 = .ok (.iconst 2, 1) := by decide +kernel
theorem dX8_findLocals_77 : decode cX8_findLocals 77 = .ok (.invokevirtual 135, 3) := by decide +kernel
theorem dX8_findLocals_80 : decode cX8_findLocals 80 = .ok (.iadd, 1) := by decide +kernel
theorem dX8_findLocals_81 : decode cX8_findLocals 81 = .ok (.iastore, 1) := by decide +kernel
theorem dX8_findLocals_82 : decode cX8_findLocals 82 = .ok (.aload_n 0, 1) := by decide +kernel
theorem dX8_findLocals_83 : decode cX8_findLocals 83 = .ok (.getfield 44, 3) := by decide +kernel
theorem dX8_findLocals_86 : decode cX8_findLocals 86 = .ok (.iload 5, 2) := by decide +kernel
theorem dX8_findLocals_88 : decode cX8_findLocals 88 = .ok (.iaload, 1) := by decide +kernel
theorem dX8_findLocals_89 : decode cX8_findLocals 89 = .ok (.aload_n 0, 1) := by decide +kernel
theorem dX8_findLocals_90 : decode cX8_findLocals 90 = .ok (.iload_n 3, 1) := by decide +kernel
theorem dX8_findLocals_91 : decode cX8_findLocals 91 = .ok (.bipush 18, 2) := by decide +kernel
theorem dX8_findLocals_93 : decode cX8_findLocals 93 = .ok (.iadd, 1) := by decide +kernel
theorem dX8_findLocals_94 : decode cX8_findLocals 94 = .ok (.iconst 4, 1) := by decide +kernel
theorem dX8_findLocals_95 : decode cX8_findLocals 95 = .ok (.invokevirtual 135, 3) := by decide +kernel
theorem dX8_findLocals_98 : decode cX8_findLocals 98 = .ok (.iadd, 1) := by decide +kernel
theorem dX8_findLocals_99 : decode cX8_findLocals 99 = .ok (.istore_n 3, 1) := by decide +kernel
theorem dX8_findLocals_100 : decode cX8_findLocals 100 = .ok (.iinc 5 1, 3) := by decide +kernel
theorem dX8_findLocals_103 : decode cX8_findLocals 103 = .ok (.goto (-82), 3) := by decide +kernel
theorem dX8_findLocals_106 : decode cX8_findLocals 106 = .ok (.iconst 1, 1) := by decide +kernel
theorem dX8_findLocals_107 : decode cX8_findLocals 107 = .ok (.ireturn, 1) := by decide +kernel
theorem dX8_areSizes_0 : decode cX8_areSizes 0 = .ok (.aload_n 0, 1) := by decide +kernel
theorem dX8_areSizes_1 : decode cX8_areSizes 1 = .ok (.iload_n 1, 1) := by decide +kernel
theorem dX8_areSizes_2 : decode cX8_areSizes 2 = .ok (.bipush 10, 2) := by decide +kernel
theorem dX8_areSizes_4 : decode cX8_areSizes 4 = .ok (.iadd, 1) := by decide +kernel
theorem dX8_areSizes_5 : decode cX8_areSizes 5 = .ok (.iconst 4, 1) := by decide +kernel
theorem dX8_areSizes_6 : decode cX8_areSizes 6 = .ok (.invokevirtual 135, 3) := by decide +kernel
theorem dX8_areSizes_9 : decode cX8_areSizes 9 = .ok (.istore_n 2, 1) := by decide +kernel
theorem dX8_areSizes_10 : decode cX8_areSizes 10 = .ok (.aload_n 0, 1) := by decide +kernel
theorem dX8_areSizes_11 : decode cX8_areSizes 11 = .ok (.iload_n 1, 1) := by decide +kernel
theorem dX8_areSizes_12 : decode cX8_areSizes 12 = .ok (.bipush 14, 2) := by decide +kernel
theorem dX8_areSizes_14 : decode cX8_areSizes 14 = .ok (.iadd, 1) := by decide +kernel
theorem dX8_areSizes_15 : decode cX8_areSizes 15 = .ok (.iconst 4, 1) := by decide +kernel
theorem dX8_areSizes_16 : decode cX8_areSizes 16 = .ok (.invokevirtual 135, 3) := by decide +kernel
theorem dX8_areSizes_19 : decode cX8_areSizes 19 = .ok (.istore_n 3, 1) := by decide +kernel
theorem dX8_areSizes_20 : decode cX8_areSizes 20 = .ok (.iload_n 3, 1) := by decide +kernel
theorem dX8_areSizes_21 : decode cX8_areSizes 21 = .ok (.sipush 1500, 3) := by decide +kernel
theorem dX8_areSizes_24 : decode cX8_areSizes 24 = .ok (.if_icmp .gt 39, 3) := by decide +kernel
theorem dX8_areSizes_27 : decode cX8_areSizes 27 = .ok (.aload_n 0, 1) := by decide +kernel
theorem dX8_areSizes_28 : decode cX8_areSizes 28 = .ok (.iload_n 1, 1) := by decide +kernel
theorem dX8_areSizes_29 : decode cX8_areSizes 29 = .ok (.iconst 2, 1) := by decide +kernel
theorem dX8_areSizes_30 : decode cX8_areSizes 30 = .ok (.bipush 99, 2) := by decide +kernel
theorem dX8_areSizes_32 : decode cX8_areSizes 32 = .ok (.invokevirtual 141, 3) := by decide +kernel
theorem dX8_areSizes_35 : decode cX8_areSizes 35 = .ok (.ifCond .ne 24, 3) := by decide +kernel
theorem dX8_areSizes_38 : decode cX8_areSizes 38 = .ok (.iload_n 2, 1) := by decide +kernel
theorem dX8_areSizes_39 : decode cX8_areSizes 39 = .ok (.iload_n 3, 1) := by decide +kernel
theorem dX8_areSizes_40 : decode cX8_areSizes 40 = .ok (.if_icmp .ne 23, 3) := by decide +kernel
theorem dX8_areSizes_43 : decode cX8_areSizes 43 = .ok (.aload_n 0, 1) := by decide +kernel
theorem dX8_areSizes_44 : decode cX8_areSizes 44 = .ok (.iload_n 1, 1) := by decide +kernel
theorem dX8_areSizes_45 : decode cX8_areSizes 45 = .ok (.bipush 10, 2) := by decide +kernel
theorem dX8_areSizes_47 : decode cX8_areSizes 47 = .ok (.iadd, 1) := by decide +kernel
theorem dX8_areSizes_48 : decode cX8_areSizes 48 = .ok (.iload_n 1, 1) := by decide +kernel
theorem dX8_areSizes_49 : decode cX8_areSizes 49 = .ok (.bipush 14, 2) := by decide +kernel
theorem dX8_areSizes_51 : decode cX8_areSizes 51 = .ok (.iadd, 1) := by decide +kernel
theorem dX8_areSizes_52 : decode cX8_areSizes 52 = .ok (.iconst 4, 1) := by decide +kernel
theorem dX8_areSizes_53 : decode cX8_areSizes 53 = .ok (.invokevirtual 151, 3) := by decide +kernel
theorem dX8_areSizes_56 : decode cX8_areSizes 56 = .ok (.ifCond .eq 7, 3) := by decide +kernel
theorem dX8_areSizes_59 : decode cX8_areSizes 59 = .ok (.iconst 1, 1) := by decide +kernel
theorem dX8_areSizes_60 : decode cX8_areSizes 60 = .ok (.goto 4, 3) := by decide +kernel
theorem dX8_areSizes_63 : decode cX8_areSizes 63 = .ok (.iconst 0, 1) := by decide +kernel
theorem dX8_areSizes_64 : decode cX8_areSizes 64 = .ok (.ireturn, 1) := by decide +kernel
theorem dX8_unfold_0 : decode cX8_unfold 0 = .ok (.aload_n 0, 1) := by decide +kernel
theorem dX8_unfold_1 : decode cX8_unfold 1 = .ok (.iload_n 2, 1) := by decide +kernel
theorem dX8_unfold_2 : decode cX8_unfold 2 = .ok (.bipush 14, 2) := by decide +kernel
theorem dX8_unfold_4 : decode cX8_unfold 4 = .ok (.iadd, 1) := by decide +kernel
theorem dX8_unfold_5 : decode cX8_unfold 5 = .ok (.iconst 4, 1) := by decide +kernel
theorem dX8_unfold_6 : decode cX8_unfold 6 = .ok (.invokevirtual 135, 3) := by decide +kernel
theorem dX8_unfold_9 : decode cX8_unfold 9 = .ok (.istore_n 3, 1) := by decide +kernel
theorem dX8_unfold_10 : decode cX8_unfold 10 = .ok (.aload_n 0, 1) := by decide +kernel
theorem dX8_unfold_11 : decode cX8_unfold 11 = .ok (.iload_n 2, 1) := by decide +kernel
theorem dX8_unfold_12 : decode cX8_unfold 12 = .ok (.bipush 10, 2) := by decide +kernel
theorem dX8_unfold_14 : decode cX8_unfold 14 = .ok (.iadd, 1) := by decide +kernel
theorem dX8_unfold_15 : decode cX8_unfold 15 = .ok (.iconst 4, 1) := by decide +kernel
theorem dX8_unfold_16 : decode cX8_unfold 16 = .ok (.invokevirtual 135, 3) := by decide +kernel
theorem dX8_unfold_19 : decode cX8_unfold 19 = .ok (.istore 4, 2) := by decide +kernel
theorem dX8_unfold_21 : decode cX8_unfold 21 = .ok (.aload_n 0, 1) := by decide +kernel
theorem dX8_unfold_22 : decode cX8_unfold 22 = .ok (.iload_n 2, 1) := by decide +kernel
theorem dX8_unfold_23 : decode cX8_unfold 23 = .ok (.iconst 2, 1) := by decide +kernel
theorem dX8_unfold_24 : decode cX8_unfold 24 = .ok (.iconst 0, 1) := by decide +kernel
theorem dX8_unfold_25 : decode cX8_unfold 25 = .ok (.invokevirtual 141, 3) := by decide +kernel
theorem dX8_unfold_28 : decode cX8_unfold 28 = .ok (.ifCond .eq 13, 3) := by decide +kernel
theorem dX8_unfold_31 : decode cX8_unfold 31 = .ok (.aload_n 0, 1) := by decide +kernel
theorem dX8_unfold_32 : decode cX8_unfold 32 = .ok (.bipush 20, 2) := by decide +kernel
theorem dX8_unfold_34 : decode cX8_unfold 34 = .ok (.iload_n 1, 1) := by decide +kernel
theorem dX8_unfold_35 : decode cX8_unfold 35 = .ok (.iload_n 3, 1) := by decide +kernel
theorem dX8_unfold_36 : decode cX8_unfold 36 = .ok (.invokevirtual 82, 3) := by decide +kernel
theorem dX8_unfold_39 : decode cX8_unfold 39 = .ok (.iconst 1, 1) := by decide +kernel
theorem dX8_unfold_40 : decode cX8_unfold 40 = .ok (.ireturn, 1) := by decide +kernel
theorem dX8_unfold_41 : decode cX8_unfold 41 = .ok (.iconst 0, 1) := by decide +kernel
theorem dX8_unfold_42 : decode cX8_unfold 42 = .ok (.istore 5, 2) := by decide +kernel
theorem dX8_unfold_44 : decode cX8_unfold 44 = .ok (.iload_n 1, 1) := by decide +kernel
theorem dX8_unfold_45 : decode cX8_unfold 45 = .ok (.istore 6, 2) := by decide +kernel
theorem dX8_unfold_47 : decode cX8_unfold 47 = .ok (.iload_n 1, 1) := by decide +kernel
theorem dX8_unfold_48 : decode cX8_unfold 48 = .ok (.iload 4, 2) := by decide +kernel
theorem dX8_unfold_50 : decode cX8_unfold 50 = .ok (.iadd, 1) := by decide +kernel
theorem dX8_unfold_51 : decode cX8_unfold 51 = .ok (.istore 7, 2) := by decide +kernel
theorem dX8_unfold_53 : decode cX8_unfold 53 = .ok (.iload 6, 2) := by decide +kernel
theorem dX8_unfold_55 : decode cX8_unfold 55 = .ok (.iload 7, 2) := by decide +kernel
theorem dX8_unfold_57 : decode cX8_unfold 57 = .ok (.if_icmp .ge 171, 3) := by decide +kernel
theorem dX8_unfold_60 : decode cX8_unfold 60 = .ok (.aload_n 0, 1) := by decide +kernel
theorem dX8_unfold_61 : decode cX8_unfold 61 = .ok (.getfield 13, 3) := by decide +kernel
theorem dX8_unfold_64 : decode cX8_unfold 64 = .ok (.iload 6, 2) := by decide +kernel
theorem dX8_unfold_66 : decode cX8_unfold 66 = .ok (.iaload, 1) := by decide +kernel
theorem dX8_unfold_67 : decode cX8_unfold 67 = .ok (.istore 8, 2) := by decide +kernel
theorem dX8_unfold_69 : decode cX8_unfold 69 = .ok (.iload 8, 2) := by decide +kernel
theorem dX8_unfold_71 : decode cX8_unfold 71 = .ok (.sipush 128, 3) := by decide +kernel
theorem dX8_unfold_74 : decode cX8_unfold 74 = .ok (.if_icmp .ge 10, 3) := by decide +kernel
theorem dX8_unfold_77 : decode cX8_unfold 77 = .ok (.iload 8, 2) := by decide +kernel
theorem dX8_unfold_79 : decode cX8_unfold 79 = .ok (.iconst 1, 1) := by decide +kernel
theorem dX8_unfold_80 : decode cX8_unfold 80 = .ok (.iadd, 1) := by decide +kernel
theorem dX8_unfold_81 : decode cX8_unfold 81 = .ok (.goto 21, 3) := by decide +kernel
theorem dX8_unfold_84 : decode cX8_unfold 84 = .ok (.iload 8, 2) := by decide +kernel
theorem dX8_unfold_86 : decode cX8_unfold 86 = .ok (.sipush 128, 3) := by decide +kernel
theorem dX8_unfold_89 : decode cX8_unfold 89 = .ok (.if_icmp .ne 7, 3) := by decide +kernel
theorem dX8_unfold_92 : decode cX8_unfold 92 = .ok (.iconst 0, 1) := by decide +kernel
theorem dX8_unfold_93 : decode cX8_unfold 93 = .ok (.goto 9, 3) := by decide +kernel
theorem dX8_unfold_96 : decode cX8_unfold 96 = .ok (.sipush 257, 3) := by decide +kernel
theorem dX8_unfold_99 : decode cX8_unfold 99 = .ok (.iload 8, 2) := by decide +kernel
theorem dX8_unfold_101 : decode cX8_unfold 101 = .ok (.isub, 1) := by decide +kernel
theorem dX8_unfold_102 : decode cX8_unfold 102 = .ok (.istore 9, 2) := by decide +kernel
theorem dX8_unfold_104 : decode cX8_unfold 104 = .ok (.iload 8, 2) := by decide +kernel
theorem dX8_unfold_106 : decode cX8_unfold 106 = .ok (.sipush 128, 3) := by decide +kernel
theorem dX8_unfold_109 : decode cX8_unfold 109 = .ok (.if_icmp .ge 8, 3) := by decide +kernel
theorem dX8_unfold_112 : decode cX8_unfold 112 = .ok (.iload 9, 2) := by decide +kernel
theorem dX8_unfold_114 : decode cX8_unfold 114 = .ok (.goto 16, 3) := by decide +kernel
theorem dX8_unfold_117 : decode cX8_unfold 117 = .ok (.iload 8, 2) := by decide +kernel
theorem dX8_unfold_119 : decode cX8_unfold 119 = .ok (.sipush 128, 3) := by decide +kernel
theorem dX8_unfold_122 : decode cX8_unfold 122 = .ok (.if_icmp .ne 7, 3) := by decide +kernel
theorem dX8_unfold_125 : decode cX8_unfold 125 = .ok (.iconst 0, 1) := by decide +kernel
theorem dX8_unfold_126 : decode cX8_unfold 126 = .ok (.goto 4, 3) := by decide +kernel
theorem dX8_unfold_129 : decode cX8_unfold 129 = .ok (.iconst 1, 1) := by decide +kernel
theorem dX8_unfold_130 : decode cX8_unfold 130 = .ok (.istore 10, 2) := by decide +kernel
theorem dX8_unfold_132 : decode cX8_unfold 132 = .ok (.iload 6, 2) := by decide +kernel
theorem dX8_unfold_134 : decode cX8_unfold 134 = .ok (.iconst 1, 1) := by decide +kernel
theorem dX8_unfold_135 : decode cX8_unfold 135 = .ok (.iadd, 1) := by decide +kernel
theorem dX8_unfold_136 : decode cX8_unfold 136 = .ok (.iload 10, 2) := by decide +kernel
theorem dX8_unfold_138 : decode cX8_unfold 138 = .ok (.iadd, 1) := by decide +kernel
theorem dX8_unfold_139 : decode cX8_unfold 139 = .ok (.iload 7, 2) := by decide +kernel
theorem dX8_unfold_141 : decode cX8_unfold 141 = .ok (.if_icmp .gt 12, 3) := by decide +kernel
theorem dX8_unfold_144 : decode cX8_unfold 144 = .ok (.iload 5, 2) := by decide +kernel
theorem dX8_unfold_146 : decode cX8_unfold 146 = .ok (.iload 9, 2) := by decide +kernel
theorem dX8_unfold_148 : decode cX8_unfold 148 = .ok (.iadd, 1) := by decide +kernel
theorem dX8_unfold_149 : decode cX8_unfold 149 = .ok (.iload_n 3, 1) := by decide +kernel
theorem dX8_unfold_150 : decode cX8_unfold 150 = .ok (.if_icmp .le 5, 3) := by decide +kernel
theorem dX8_unfold_153 : decode cX8_unfold 153 = .ok (.iconst 0, 1) := by decide +kernel
theorem dX8_unfold_154 : decode cX8_unfold 154 = .ok (.ireturn, 1) := by decide +kernel
theorem dX8_unfold_155 : decode cX8_unfold 155 = .ok (.iconst 0, 1) := by decide +kernel
theorem dX8_unfold_156 : decode cX8_unfold 156 = .ok (.istore 11, 2) := by decide +kernel
theorem dX8_unfold_158 : decode cX8_unfold 158 = .ok (.iload 11, 2) := by decide +kernel
