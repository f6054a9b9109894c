theorem dX3_centralsPass_87 : decode cX3_centralsPass 87 = .ok (.goto (-80), 3) := by decide +kernel
theorem dX3_centralsPass_90 : decode cX3_centralsPass 90 = .ok (.iconst 1, 1) := by decide +kernel
theorem dX3_centralsPass_91 : decode cX3_centralsPass 91 = .ok (.ireturn, 1) := by decide +kernel
theorem dX3_centralStands_0 : decode cX3_centralStands 0 = .ok (.aload_n 1, 1) := by decide +kernel
theorem dX3_centralStands_1 : decode cX3_centralStands 1 = .ok (.iload_n 2, 1) := by decide +kernel
theorem dX3_centralStands_2 : decode cX3_centralStands 2 = .ok (.iconst 1, 1) := by decide +kernel
theorem dX3_centralStands_3 : decode cX3_centralStands 3 = .ok (.iconst 2, 1) := by decide +kernel
theorem dX3_centralStands_4 : decode cX3_centralStands 4 = .ok (.invokevirtual 89, 3) := by decide +kernel
theorem dX3_centralStands_7 : decode cX3_centralStands 7 = .ok (.ifCond .eq 130, 3) := by decide +kernel
theorem dX3_centralStands_10 : decode cX3_centralStands 10 = .ok (.aload_n 1, 1) := by decide +kernel
theorem dX3_centralStands_11 : decode cX3_centralStands 11 = .ok (.iload_n 2, 1) := by decide +kernel
theorem dX3_centralStands_12 : decode cX3_centralStands 12 = .ok (.iconst 4, 1) := by decide +kernel
theorem dX3_centralStands_13 : decode cX3_centralStands 13 = .ok (.iadd, 1) := by decide +kernel
theorem dX3_centralStands_14 : decode cX3_centralStands 14 = .ok (.invokevirtual 92, 3) := by decide +kernel
theorem dX3_centralStands_17 : decode cX3_centralStands 17 = .ok (.bipush 20, 2) := by decide +kernel
theorem dX3_centralStands_19 : decode cX3_centralStands 19 = .ok (.if_icmp .ne 118, 3) := by decide +kernel
theorem dX3_centralStands_22 : decode cX3_centralStands 22 = .ok (.aload_n 0, 1) := by decide +kernel
theorem dX3_centralStands_23 : decode cX3_centralStands 23 = .ok (.getfield 21, 3) := by decide +kernel
theorem dX3_centralStands_26 : decode cX3_centralStands 26 = .ok (.aload_n 1, 1) := by decide +kernel
theorem dX3_centralStands_27 : decode cX3_centralStands 27 = .ok (.iload_n 2, 1) := by decide +kernel
theorem dX3_centralStands_28 : decode cX3_centralStands 28 = .ok (.bipush 6, 2) := by decide +kernel
theorem dX3_centralStands_30 : decode cX3_centralStands 30 = .ok (.iadd, 1) := by decide +kernel
theorem dX3_centralStands_31 : decode cX3_centralStands 31 = .ok (.invokevirtual 110, 3) := by decide +kernel
theorem dX3_centralStands_34 : decode cX3_centralStands 34 = .ok (.ifCond .eq 103, 3) := by decide +kernel
theorem dX3_centralStands_37 : decode cX3_centralStands 37 = .ok (.aload_n 1, 1) := by decide +kernel
theorem dX3_centralStands_38 : decode cX3_centralStands 38 = .ok (.iload_n 2, 1) := by decide +kernel
theorem dX3_centralStands_39 : decode cX3_centralStands 39 = .ok (.bipush 32, 2) := by decide +kernel
theorem dX3_centralStands_41 : decode cX3_centralStands 41 = .ok (.iadd, 1) := by decide +kernel
theorem dX3_centralStands_42 : decode cX3_centralStands 42 = .ok (.invokevirtual 92, 3) := by decide +kernel
theorem dX3_centralStands_45 : decode cX3_centralStands 45 = .ok (.ifCond .ne 92, 3) := by decide +kernel
theorem dX3_centralStands_48 : decode cX3_centralStands 48 = .ok (.aload_n 1, 1) := by decide +kernel
theorem dX3_centralStands_49 : decode cX3_centralStands 49 = .ok (.iload_n 2, 1) := by decide +kernel
theorem dX3_centralStands_50 : decode cX3_centralStands 50 = .ok (.bipush 34, 2) := by decide +kernel
theorem dX3_centralStands_52 : decode cX3_centralStands 52 = .ok (.iadd, 1) := by decide +kernel
theorem dX3_centralStands_53 : decode cX3_centralStands 53 = .ok (.invokevirtual 92, 3) := by decide +kernel
theorem dX3_centralStands_56 : decode cX3_centralStands 56 = .ok (.ifCond .ne 81, 3) := by decide +kernel
theorem dX3_centralStands_59 : decode cX3_centralStands 59 = .ok (.aload_n 1, 1) := by decide +kernel
theorem dX3_centralStands_60 : decode cX3_centralStands 60 = .ok (.iload_n 2, 1) := by decide +kernel
theorem dX3_centralStands_61 : decode cX3_centralStands 61 = .ok (.bipush 36, 2) := by decide +kernel
theorem dX3_centralStands_63 : decode cX3_centralStands 63 = .ok (.iadd, 1) := by decide +kernel
theorem dX3_centralStands_64 : decode cX3_centralStands 64 = .ok (.invokevirtual 92, 3) := by decide +kernel
theorem dX3_centralStands_67 : decode cX3_centralStands 67 = .ok (.ifCond .ne 70, 3) := by decide +kernel
theorem dX3_centralStands_70 : decode cX3_centralStands 70 = .ok (.aload_n 1, 1) := by decide +kernel
theorem dX3_centralStands_71 : decode cX3_centralStands 71 = .ok (.iload_n 2, 1) := by decide +kernel
theorem dX3_centralStands_72 : decode cX3_centralStands 72 = .ok (.bipush 38, 2) := by decide +kernel
theorem dX3_centralStands_74 : decode cX3_centralStands 74 = .ok (.iadd, 1) := by decide +kernel
theorem dX3_centralStands_75 : decode cX3_centralStands 75 = .ok (.invokevirtual 96, 3) := by decide +kernel
theorem dX3_centralStands_78 : decode cX3_centralStands 78 = .ok (.lconst 0, 1) := by decide +kernel
theorem dX3_centralStands_79 : decode cX3_centralStands 79 = .ok (.lcmp, 1) := by decide +kernel
theorem dX3_centralStands_80 : decode cX3_centralStands 80 = .ok (.ifCond .ne 57, 3) := by decide +kernel
theorem dX3_centralStands_83 : decode cX3_centralStands 83 = .ok (.iload_n 2, 1) := by decide +kernel
theorem dX3_centralStands_84 : decode cX3_centralStands 84 = .ok (.bipush 46, 2) := by decide +kernel
theorem dX3_centralStands_86 : decode cX3_centralStands 86 = .ok (.iadd, 1) := by decide +kernel
theorem dX3_centralStands_87 : decode cX3_centralStands 87 = .ok (.aload_n 0, 1) := by decide +kernel
theorem dX3_centralStands_88 : decode cX3_centralStands 88 = .ok (.getfield 21, 3) := by decide +kernel
theorem dX3_centralStands_91 : decode cX3_centralStands 91 = .ok (.getfield 44, 3) := by decide +kernel
theorem dX3_centralStands_94 : decode cX3_centralStands 94 = .ok (.iadd, 1) := by decide +kernel
theorem dX3_centralStands_95 : decode cX3_centralStands 95 = .ok (.aload_n 0, 1) := by decide +kernel
theorem dX3_centralStands_96 : decode cX3_centralStands 96 = .ok (.getfield 74, 3) := by decide +kernel
theorem dX3_centralStands_99 : decode cX3_centralStands 99 = .ok (.if_icmp .gt 38, 3) := by decide +kernel
theorem dX3_centralStands_102 : decode cX3_centralStands 102 = .ok (.aload_n 1, 1) := by decide +kernel
theorem dX3_centralStands_103 : decode cX3_centralStands 103 = .ok (.iload_n 2, 1) := by decide +kernel
theorem dX3_centralStands_104 : decode cX3_centralStands 104 = .ok (.bipush 46, 2) := by decide +kernel
theorem dX3_centralStands_106 : decode cX3_centralStands 106 = .ok (.iadd, 1) := by decide +kernel
theorem dX3_centralStands_107 : decode cX3_centralStands 107 = .ok (.aload_n 0, 1) := by decide +kernel
theorem dX3_centralStands_108 : decode cX3_centralStands 108 = .ok (.getfield 21, 3) := by decide +kernel
theorem dX3_centralStands_111 : decode cX3_centralStands 111 = .ok (.getfield 44, 3) := by decide +kernel
theorem dX3_centralStands_114 : decode cX3_centralStands 114 = .ok (.invokevirtual 113, 3) := by decide +kernel
theorem dX3_centralStands_117 : decode cX3_centralStands 117 = .ok (.ifCond .eq 20, 3) := by decide +kernel
theorem dX3_centralStands_120 : decode cX3_centralStands 120 = .ok (.aload_n 0, 1) := by decide +kernel
theorem dX3_centralStands_121 : decode cX3_centralStands 121 = .ok (.aload_n 1, 1) := by decide +kernel
theorem dX3_centralStands_122 : decode cX3_centralStands 122 = .ok (.iload_n 2, 1) := by decide +kernel
theorem dX3_centralStands_123 : decode cX3_centralStands 123 = .ok (.bipush 46, 2) := by decide +kernel
theorem dX3_centralStands_125 : decode cX3_centralStands 125 = .ok (.iadd, 1) := by decide +kernel
theorem dX3_centralStands_126 : decode cX3_centralStands 126 = .ok (.iload_n 3, 1) := by decide +kernel
theorem dX3_centralStands_127 : decode cX3_centralStands 127 = .ok (.invokevirtual 116, 3) := by decide +kernel
theorem dX3_centralStands_130 : decode cX3_centralStands 130 = .ok (.ifCond .ne 7, 3) := by decide +kernel
theorem dX3_centralStands_133 : decode cX3_centralStands 133 = .ok (.iconst 1, 1) := by decide +kernel
theorem dX3_centralStands_134 : decode cX3_centralStands 134 = .ok (.goto 4, 3) := by decide +kernel
theorem dX3_centralStands_137 : decode cX3_centralStands 137 = .ok (.iconst 0, 1) := by decide +kernel
theorem dX3_centralStands_138 : decode cX3_centralStands 138 = .ok (.ireturn, 1) := by decide +kernel
theorem dX3_isEarlierName_0 : decode cX3_isEarlierName 0 = .ok (.iconst 0, 1) := by decide +kernel
theorem dX3_isEarlierName_1 : decode cX3_isEarlierName 1 = .ok (.istore 4, 2) := by decide +kernel
theorem dX3_isEarlierName_3 : decode cX3_isEarlierName 3 = .ok (.iload 4, 2) := by decide +kernel
theorem dX3_isEarlierName_5 : decode cX3_isEarlierName 5 = .ok (.iload_n 3, 1) := by decide +kernel
theorem dX3_isEarlierName_6 : decode cX3_isEarlierName 6 = .ok (.if_icmp .ge 63, 3) := by decide +kernel
theorem dX3_isEarlierName_9 : decode cX3_isEarlierName 9 = .ok (.aload_n 0, 1) := by decide +kernel
theorem dX3_isEarlierName_10 : decode cX3_isEarlierName 10 = .ok (.getfield 9, 3) := by decide +kernel
theorem dX3_isEarlierName_13 : decode cX3_isEarlierName 13 = .ok (.iload 4, 2) := by decide +kernel
theorem dX3_isEarlierName_15 : decode cX3_isEarlierName 15 = .ok (.iaload, 1) := by decide +kernel
theorem dX3_isEarlierName_16 : decode cX3_isEarlierName 16 = .ok (.istore 5, 2) := by decide +kernel
theorem dX3_isEarlierName_18 : decode cX3_isEarlierName 18 = .ok (.aload_n 1, 1) := by decide +kernel
theorem dX3_isEarlierName_19 : decode cX3_isEarlierName 19 = .ok (.iload 5, 2) := by decide +kernel
theorem dX3_isEarlierName_21 : decode cX3_isEarlierName 21 = .ok (.bipush 6, 2) := by decide +kernel
theorem dX3_isEarlierName_23 : decode cX3_isEarlierName 23 = .ok (.iadd, 1) := by decide +kernel
theorem dX3_isEarlierName_24 : decode cX3_isEarlierName 24 = .ok (.bipush 22, 2) := by decide +kernel
theorem dX3_isEarlierName_26 : decode cX3_isEarlierName 26 = .ok (.iadd, 1) := by decide +kernel
theorem dX3_isEarlierName_27 : decode cX3_isEarlierName 27 = .ok (.invokevirtual 92, 3) := by decide +kernel
theorem dX3_isEarlierName_30 : decode cX3_isEarlierName 30 = .ok (.aload_n 0, 1) := by decide +kernel
theorem dX3_isEarlierName_31 : decode cX3_isEarlierName 31 = .ok (.getfield 21, 3) := by decide +kernel
theorem dX3_isEarlierName_34 : decode cX3_isEarlierName 34 = .ok (.getfield 44, 3) := by decide +kernel
theorem dX3_isEarlierName_37 : decode cX3_isEarlierName 37 = .ok (.if_icmp .ne 26, 3) := by decide +kernel
theorem dX3_isEarlierName_40 : decode cX3_isEarlierName 40 = .ok (.aload_n 1, 1) := by decide +kernel
theorem dX3_isEarlierName_41 : decode cX3_isEarlierName 41 = .ok (.iload 5, 2) := by decide +kernel
theorem dX3_isEarlierName_43 : decode cX3_isEarlierName 43 = .ok (.bipush 46, 2) := by decide +kernel
theorem dX3_isEarlierName_45 : decode cX3_isEarlierName 45 = .ok (.iadd, 1) := by decide +kernel
theorem dX3_isEarlierName_46 : decode cX3_isEarlierName 46 = .ok (.aload_n 1, 1) := by decide +kernel
theorem dX3_isEarlierName_47 : decode cX3_isEarlierName 47 = .ok (.iload_n 2, 1) := by decide +kernel
theorem dX3_isEarlierName_48 : decode cX3_isEarlierName 48 = .ok (.aload_n 0, 1) := by decide +kernel
theorem dX3_isEarlierName_49 : decode cX3_isEarlierName 49 = .ok (.getfield 21, 3) := by decide +kernel
theorem dX3_isEarlierName_52 : decode cX3_isEarlierName 52 = .ok (.getfield 44, 3) := by decide +kernel
theorem dX3_isEarlierName_55 : decode cX3_isEarlierName 55 = .ok (.invokevirtual 119, 3) := by decide +kernel
theorem dX3_isEarlierName_58 : decode cX3_isEarlierName 58 = .ok (.ifCond .eq 5, 3) := by decide +kernel
theorem dX3_isEarlierName_61 : decode cX3_isEarlierName 61 = .ok (.iconst 1, 1) := by decide +kernel
theorem dX3_isEarlierName_62 : decode cX3_isEarlierName 62 = .ok (.ireturn, 1) := by decide +kernel
theorem dX3_isEarlierName_63 : decode cX3_isEarlierName 63 = .ok (.iinc 4 1, 3) := by decide +kernel
theorem dX3_isEarlierName_66 : decode cX3_isEarlierName 66 = .ok (.goto (-63), 3) := by decide +kernel
theorem dX3_isEarlierName_69 : decode cX3_isEarlierName 69 = .ok (.iconst 0, 1) := by decide +kernel
theorem dX3_isEarlierName_70 : decode cX3_isEarlierName 70 = .ok (.ireturn, 1) := by decide +kernel
theorem dX3_localsPass_0 : decode cX3_localsPass 0 = .ok (.iconst 0, 1) := by decide +kernel
theorem dX3_localsPass_1 : decode cX3_localsPass 1 = .ok (.istore_n 2, 1) := by decide +kernel
theorem dX3_localsPass_2 : decode cX3_localsPass 2 = .ok (.iconst 0, 1) := by decide +kernel
theorem dX3_localsPass_3 : decode cX3_localsPass 3 = .ok (.istore_n 3, 1) := by decide +kernel
theorem dX3_localsPass_4 : decode cX3_localsPass 4 = .ok (.iload_n 3, 1) := by decide +kernel
theorem dX3_localsPass_5 : decode cX3_localsPass 5 = .ok (.aload_n 0, 1) := by decide +kernel
theorem dX3_localsPass_6 : decode cX3_localsPass 6 = .ok (.getfield 100, 3) := by decide +kernel
theorem dX3_localsPass_9 : decode cX3_localsPass 9 = .ok (.if_icmp .ge 93, 3) := by decide +kernel
theorem dX3_localsPass_12 : decode cX3_localsPass 12 = .ok (.aload_n 0, 1) := by decide +kernel
theorem dX3_localsPass_13 : decode cX3_localsPass 13 = .ok (.aload_n 1, 1) := by decide +kernel
theorem dX3_localsPass_14 : decode cX3_localsPass 14 = .ok (.iload_n 2, 1) := by decide +kernel
theorem dX3_localsPass_15 : decode cX3_localsPass 15 = .ok (.aload_n 0, 1) := by decide +kernel
theorem dX3_localsPass_16 : decode cX3_localsPass 16 = .ok (.getfield 9, 3) := by decide +kernel
theorem dX3_localsPass_19 : decode cX3_localsPass 19 = .ok (.iload_n 3, 1) := by decide +kernel
theorem dX3_localsPass_20 : decode cX3_localsPass 20 = .ok (.iaload, 1) := by decide +kernel
theorem dX3_localsPass_21 : decode cX3_localsPass 21 = .ok (.invokevirtual 123, 3) := by decide +kernel
theorem dX3_localsPass_24 : decode cX3_localsPass 24 = .ok (.ifCond .ne 11, 3) := by decide +kernel
theorem dX3_localsPass_27 : decode cX3_localsPass 27 = .ok (.aload_n 0, 1) := by decide +kernel
theorem dX3_localsPass_28 : decode cX3_localsPass 28 = .ok (.iconst 3, 1) := by decide +kernel
theorem dX3_localsPass_29 : decode cX3_localsPass 29 = .ok (.iload_n 3, 1) := by decide +kernel
theorem dX3_localsPass_30 : decode cX3_localsPass 30 = .ok (.iload_n 2, 1) := by decide +kernel
theorem dX3_localsPass_31 : decode cX3_localsPass 31 = .ok (.invokevirtual 81, 3) := by decide +kernel
theorem dX3_localsPass_34 : decode cX3_localsPass 34 = .ok (.ireturn, 1) := by decide +kernel
theorem dX3_localsPass_35 : decode cX3_localsPass 35 = .ok (.aload_n 0, 1) := by decide +kernel
theorem dX3_localsPass_36 : decode cX3_localsPass 36 = .ok (.getfield 15, 3) := by decide +kernel
theorem dX3_localsPass_39 : decode cX3_localsPass 39 = .ok (.iload_n 3, 1) := by decide +kernel
theorem dX3_localsPass_40 : decode cX3_localsPass 40 = .ok (.iload_n 2, 1) := by decide +kernel
theorem dX3_localsPass_41 : decode cX3_localsPass 41 = .ok (.bipush 30, 2) := by decide +kernel
theorem dX3_localsPass_43 : decode cX3_localsPass 43 = .ok (.iadd, 1) := by decide +kernel
theorem dX3_localsPass_44 : decode cX3_localsPass 44 = .ok (.aload_n 0, 1) := by decide +kernel
theorem dX3_localsPass_45 : decode cX3_localsPass 45 = .ok (.getfield 21, 3) := by decide +kernel
theorem dX3_localsPass_48 : decode cX3_localsPass 48 = .ok (.getfield 44, 3) := by decide +kernel
theorem dX3_localsPass_51 : decode cX3_localsPass 51 = .ok (.iadd, 1) := by decide +kernel
theorem dX3_localsPass_52 : decode cX3_localsPass 52 = .ok (.iastore, 1) := by decide +kernel
theorem dX3_localsPass_53 : decode cX3_localsPass 53 = .ok (.aload_n 0, 1) := by decide +kernel
theorem dX3_localsPass_54 : decode cX3_localsPass 54 = .ok (.getfield 15, 3) := by decide +kernel
theorem dX3_localsPass_57 : decode cX3_localsPass 57 = .ok (.iload_n 3, 1) := by decide +kernel
theorem dX3_localsPass_58 : decode cX3_localsPass 58 = .ok (.iaload, 1) := by decide +kernel
theorem dX3_localsPass_59 : decode cX3_localsPass 59 = .ok (.aload_n 0, 1) := by decide +kernel
theorem dX3_localsPass_60 : decode cX3_localsPass 60 = .ok (.invokevirtual 126, 3) := by decide +kernel
theorem dX3_localsPass_63 : decode cX3_localsPass 63 = .ok (.iadd, 1) := by decide +kernel
theorem dX3_localsPass_64 : decode cX3_localsPass 64 = .ok (.istore 4, 2) := by decide +kernel
theorem dX3_localsPass_66 : decode cX3_localsPass 66 = .ok (.iload_n 3, 1) := by decide +kernel
theorem dX3_localsPass_67 : decode cX3_localsPass 67 = .ok (.aload_n 0, 1) := by decide +kernel
theorem dX3_localsPass_68 : decode cX3_localsPass 68 = .ok (.getfield 100, 3) := by decide +kernel
theorem dX3_localsPass_71 : decode cX3_localsPass 71 = .ok (.iconst 1, 1) := by decide +kernel
theorem dX3_localsPass_72 : decode cX3_localsPass 72 = .ok (.isub, 1) := by decide +kernel
theorem dX3_localsPass_73 : decode cX3_localsPass 73 = .ok (.if_icmp .ne 20, 3) := by decide +kernel
theorem dX3_localsPass_76 : decode cX3_localsPass 76 = .ok (.iload 4, 2) := by decide +kernel
theorem dX3_localsPass_78 : decode cX3_localsPass 78 = .ok (.aload_n 0, 1) := by decide +kernel
theorem dX3_localsPass_79 : decode cX3_localsPass 79 = .ok (.getfield 103, 3) := by decide +kernel
theorem dX3_localsPass_82 : decode cX3_localsPass 82 = .ok (.if_icmp .eq 11, 3) := by decide +kernel
theorem dX3_localsPass_85 : decode cX3_localsPass 85 = .ok (.aload_n 0, 1) := by decide +kernel
theorem dX3_localsPass_86 : decode cX3_localsPass 86 = .ok (.iconst 3, 1) := by decide +kernel
theorem dX3_localsPass_87 : decode cX3_localsPass 87 = .ok (.iload_n 3, 1) := by decide +kernel
theorem dX3_localsPass_88 : decode cX3_localsPass 88 = .ok (.iload_n 2, 1) := by decide +kernel
theorem dX3_localsPass_89 : decode cX3_localsPass 89 = .ok (.invokevirtual 81, 3) := by decide +kernel
theorem dX3_localsPass_92 : decode cX3_localsPass 92 = .ok (.ireturn, 1) := by decide +kernel
theorem dX3_localsPass_93 : decode cX3_localsPass 93 = .ok (.iload 4, 2) := by decide +kernel
theorem dX3_localsPass_95 : decode cX3_localsPass 95 = .ok (.istore_n 2, 1) := by decide +kernel
theorem dX3_localsPass_96 : decode cX3_localsPass 96 = .ok (.iinc 3 1, 3) := by decide +kernel
theorem dX3_localsPass_99 : decode cX3_localsPass 99 = .ok (.goto (-95), 3) := by decide +kernel
theorem dX3_localsPass_102 : decode cX3_localsPass 102 = .ok (.iconst 1, 1) := by decide +kernel
theorem dX3_localsPass_103 : decode cX3_localsPass 103 = .ok (.ireturn, 1) := by decide +kernel
theorem dX3_localStands_0 : decode cX3_localStands 0 = .ok (.aload_n 0, 1) := by decide +kernel
theorem dX3_localStands_1 : decode cX3_localStands 1 = .ok (.getfield 21, 3) := by decide +kernel
theorem dX3_localStands_4 : decode cX3_localStands 4 = .ok (.aload_n 1, 1) := by decide +kernel
theorem dX3_localStands_5 : decode cX3_localStands 5 = .ok (.iload_n 3, 1) := by decide +kernel
theorem dX3_localStands_6 : decode cX3_localStands 6 = .ok (.bipush 6, 2) := by decide +kernel
theorem dX3_localStands_8 : decode cX3_localStands 8 = .ok (.iadd, 1) := by decide +kernel
theorem dX3_localStands_9 : decode cX3_localStands 9 = .ok (.invokevirtual 110, 3) := by decide +kernel
theorem dX3_localStands_12 : decode cX3_localStands 12 = .ok (.ifCond .eq 101, 3) := by decide +kernel
theorem dX3_localStands_15 : decode cX3_localStands 15 = .ok (.aload_n 1, 1) := by decide +kernel
theorem dX3_localStands_16 : decode cX3_localStands 16 = .ok (.iload_n 3, 1) := by decide +kernel
theorem dX3_localStands_17 : decode cX3_localStands 17 = .ok (.bipush 42, 2) := by decide +kernel
theorem dX3_localStands_19 : decode cX3_localStands 19 = .ok (.iadd, 1) := by decide +kernel
theorem dX3_localStands_20 : decode cX3_localStands 20 = .ok (.invokevirtual 96, 3) := by decide +kernel
theorem dX3_localStands_23 : decode cX3_localStands 23 = .ok (.iload_n 2, 1) := by decide +kernel
theorem dX3_localStands_24 : decode cX3_localStands 24 = .ok (.i2l, 1) := by decide +kernel
theorem dX3_localStands_25 : decode cX3_localStands 25 = .ok (.lcmp, 1) := by decide +kernel
theorem dX3_localStands_26 : decode cX3_localStands 26 = .ok (.ifCond .ne 87, 3) := by decide +kernel
theorem dX3_localStands_29 : decode cX3_localStands 29 = .ok (.aload_n 1, 1) := by decide +kernel
theorem dX3_localStands_30 : decode cX3_localStands 30 = .ok (.iload_n 2, 1) := by decide +kernel
theorem dX3_localStands_31 : decode cX3_localStands 31 = .ok (.iconst 3, 1) := by decide +kernel
theorem dX3_localStands_32 : decode cX3_localStands 32 = .ok (.iconst 4, 1) := by decide +kernel
theorem dX3_localStands_33 : decode cX3_localStands 33 = .ok (.invokevirtual 89, 3) := by decide +kernel
theorem dX3_localStands_36 : decode cX3_localStands 36 = .ok (.ifCond .eq 77, 3) := by decide +kernel
theorem dX3_localStands_39 : decode cX3_localStands 39 = .ok (.aload_n 1, 1) := by decide +kernel
theorem dX3_localStands_40 : decode cX3_localStands 40 = .ok (.iload_n 2, 1) := by decide +kernel
theorem dX3_localStands_41 : decode cX3_localStands 41 = .ok (.iconst 4, 1) := by decide +kernel
theorem dX3_localStands_42 : decode cX3_localStands 42 = .ok (.iadd, 1) := by decide +kernel
theorem dX3_localStands_43 : decode cX3_localStands 43 = .ok (.aload_n 1, 1) := by decide +kernel
theorem dX3_localStands_44 : decode cX3_localStands 44 = .ok (.iload_n 3, 1) := by decide +kernel
theorem dX3_localStands_45 : decode cX3_localStands 45 = .ok (.bipush 6, 2) := by decide +kernel
theorem dX3_localStands_47 : decode cX3_localStands 47 = .ok (.iadd, 1) := by decide +kernel
theorem dX3_localStands_48 : decode cX3_localStands 48 = .ok (.bipush 26, 2) := by decide +kernel
theorem dX3_localStands_50 : decode cX3_localStands 50 = .ok (.invokevirtual 119, 3) := by decide +kernel
theorem dX3_localStands_53 : decode cX3_localStands 53 = .ok (.ifCond .eq 60, 3) := by decide +kernel
theorem dX3_localStands_56 : decode cX3_localStands 56 = .ok (.aload_n 1, 1) := by decide +kernel
theorem dX3_localStands_57 : decode cX3_localStands 57 = .ok (.iload_n 2, 1) := by decide +kernel
theorem dX3_localStands_58 : decode cX3_localStands 58 = .ok (.bipush 30, 2) := by decide +kernel
theorem dX3_localStands_60 : decode cX3_localStands 60 = .ok (.iadd, 1) := by decide +kernel
theorem dX3_localStands_61 : decode cX3_localStands 61 = .ok (.aload_n 1, 1) := by decide +kernel
theorem dX3_localStands_62 : decode cX3_localStands 62 = .ok (.iload_n 3, 1) := by decide +kernel
theorem dX3_localStands_63 : decode cX3_localStands 63 = .ok (.bipush 46, 2) := by decide +kernel
theorem dX3_localStands_65 : decode cX3_localStands 65 = .ok (.iadd, 1) := by decide +kernel
theorem dX3_localStands_66 : decode cX3_localStands 66 = .ok (.aload_n 0, 1) := by decide +kernel
theorem dX3_localStands_67 : decode cX3_localStands 67 = .ok (.getfield 21, 3) := by decide +kernel
theorem dX3_localStands_70 : decode cX3_localStands 70 = .ok (.getfield 44, 3) := by decide +kernel
theorem dX3_localStands_73 : decode cX3_localStands 73 = .ok (.invokevirtual 119, 3) := by decide +kernel
theorem dX3_localStands_76 : decode cX3_localStands 76 = .ok (.ifCond .eq 37, 3) := by decide +kernel
theorem dX3_localStands_79 : decode cX3_localStands 79 = .ok (.iload_n 2, 1) := by decide +kernel
theorem dX3_localStands_80 : decode cX3_localStands 80 = .ok (.bipush 30, 2) := by decide +kernel
theorem dX3_localStands_82 : decode cX3_localStands 82 = .ok (.iadd, 1) := by decide +kernel
theorem dX3_localStands_83 : decode cX3_localStands 83 = .ok (.aload_n 0, 1) := by decide +kernel
theorem dX3_localStands_84 : decode cX3_localStands 84 = .ok (.getfield 21, 3) := by decide +kernel
theorem dX3_localStands_87 : decode cX3_localStands 87 = .ok (.getfield 44, 3) := by decide +kernel
theorem dX3_localStands_90 : decode cX3_localStands 90 = .ok (.iadd, 1) := by decide +kernel
theorem dX3_localStands_91 : decode cX3_localStands 91 = .ok (.i2l, 1) := by decide +kernel
theorem dX3_localStands_92 : decode cX3_localStands 92 = .ok (.aload_n 0, 1) := by decide +kernel
theorem dX3_localStands_93 : decode cX3_localStands 93 = .ok (.getfield 21, 3) := by decide +kernel
theorem dX3_localStands_96 : decode cX3_localStands 96 = .ok (.getfield 47, 3) := by decide +kernel
theorem dX3_localStands_99 : decode cX3_localStands 99 = .ok (.ladd, 1) := by decide +kernel
theorem dX3_localStands_100 : decode cX3_localStands 100 = .ok (.aload_n 0, 1) := by decide +kernel
theorem dX3_localStands_101 : decode cX3_localStands 101 = .ok (.getfield 103, 3) := by decide +kernel
theorem dX3_localStands_104 : decode cX3_localStands 104 = .ok (.i2l, 1) := by decide +kernel
theorem dX3_localStands_105 : decode cX3_localStands 105 = .ok (.lcmp, 1) := by decide +kernel
theorem dX3_localStands_106 : decode cX3_localStands 106 = .ok (.ifCond .gt 7, 3) := by decide +kernel
theorem dX3_localStands_109 : decode cX3_localStands 109 = .ok (.iconst 1, 1) := by decide +kernel
theorem dX3_localStands_110 : decode cX3_localStands 110 = .ok (.goto 4, 3) := by decide +kernel
theorem dX3_localStands_113 : decode cX3_localStands 113 = .ok (.iconst 0, 1) := by decide +kernel
theorem dX3_localStands_114 : decode cX3_localStands 114 = .ok (.ireturn, 1) := by decide +kernel
theorem dX3_contentsPass_0 : decode cX3_contentsPass 0 = .ok (.lconst 0, 1) := by decide +kernel
theorem dX3_contentsPass_1 : decode cX3_contentsPass 1 = .ok (.lstore_n 2, 1) := by decide +kernel
theorem dX3_contentsPass_2 : decode cX3_contentsPass 2 = .ok (.iconst 0, 1) := by decide +kernel
theorem dX3_contentsPass_3 : decode cX3_contentsPass 3 = .ok (.istore 4, 2) := by decide +kernel
theorem dX3_contentsPass_5 : decode cX3_contentsPass 5 = .ok (.iload 4, 2) := by decide +kernel
theorem dX3_contentsPass_7 : decode cX3_contentsPass 7 = .ok (.aload_n 0, 1) := by decide +kernel
theorem dX3_contentsPass_8 : decode cX3_contentsPass 8 = .ok (.getfield 100, 3) := by decide +kernel
theorem dX3_contentsPass_11 : decode cX3_contentsPass 11 = .ok (.if_icmp .ge 130, 3) := by decide +kernel
theorem dX3_contentsPass_14 : decode cX3_contentsPass 14 = .ok (.aload_n 0, 1) := by decide +kernel
theorem dX3_contentsPass_15 : decode cX3_contentsPass 15 = .ok (.getfield 21, 3) := by decide +kernel
theorem dX3_contentsPass_18 : decode cX3_contentsPass 18 = .ok (.aload_n 1, 1) := by decide +kernel
theorem dX3_contentsPass_19 : decode cX3_contentsPass 19 = .ok (.aload_n 0, 1) := by decide +kernel
theorem dX3_contentsPass_20 : decode cX3_contentsPass 20 = .ok (.getfield 9, 3) := by decide +kernel
theorem dX3_contentsPass_23 : decode cX3_contentsPass 23 = .ok (.iload 4, 2) := by decide +kernel
theorem dX3_contentsPass_25 : decode cX3_contentsPass 25 = .ok (.iaload, 1) := by decide +kernel
theorem dX3_contentsPass_26 : decode cX3_contentsPass 26 = .ok (.bipush 6, 2) := by decide +kernel
theorem dX3_contentsPass_28 : decode cX3_contentsPass 28 = .ok (.iadd, 1) := by decide +kernel
theorem dX3_contentsPass_29 : decode cX3_contentsPass 29 = .ok (.invokevirtual 110, 3) := by decide +kernel
theorem dX3_contentsPass_32 : decode cX3_contentsPass 32 = .ok (.istore 5, 2) := by decide +kernel
theorem dX3_contentsPass_34 : decode cX3_contentsPass 34 = .ok (.lload_n 2, 1) := by decide +kernel
theorem dX3_contentsPass_35 : decode cX3_contentsPass 35 = .ok (.aload_n 0, 1) := by decide +kernel
theorem dX3_contentsPass_36 : decode cX3_contentsPass 36 = .ok (.getfield 21, 3) := by decide +kernel
theorem dX3_contentsPass_39 : decode cX3_contentsPass 39 = .ok (.getfield 129, 3) := by decide +kernel
theorem dX3_contentsPass_42 : decode cX3_contentsPass 42 = .ok (.ladd, 1) := by decide +kernel
theorem dX3_contentsPass_43 : decode cX3_contentsPass 43 = .ok (.lstore_n 2, 1) := by decide +kernel
theorem dX3_contentsPass_44 : decode cX3_contentsPass 44 = .ok (.iload 5, 2) := by decide +kernel
theorem dX3_contentsPass_46 : decode cX3_contentsPass 46 = .ok (.ifCond .eq 21, 3) := by decide +kernel
theorem dX3_contentsPass_49 : decode cX3_contentsPass 49 = .ok (.aload_n 0, 1) := by decide +kernel
theorem dX3_contentsPass_50 : decode cX3_contentsPass 50 = .ok (.getfield 21, 3) := by decide +kernel
theorem dX3_contentsPass_53 : decode cX3_contentsPass 53 = .ok (.invokevirtual 131, 3) := by decide +kernel
theorem dX3_contentsPass_56 : decode cX3_contentsPass 56 = .ok (.ifCond .eq 11, 3) := by decide +kernel
theorem dX3_contentsPass_59 : decode cX3_contentsPass 59 = .ok (.lload_n 2, 1) := by decide +kernel
theorem dX3_contentsPass_60 : decode cX3_contentsPass 60 = .ok (.ldc2_w 135, 3) := by decide +kernel
theorem dX3_contentsPass_63 : decode cX3_contentsPass 63 = .ok (.lcmp, 1) := by decide +kernel
theorem dX3_contentsPass_64 : decode cX3_contentsPass 64 = .ok (.ifCond .le 18, 3) := by decide +kernel
theorem dX3_contentsPass_67 : decode cX3_contentsPass 67 = .ok (.aload_n 0, 1) := by decide +kernel
theorem dX3_contentsPass_68 : decode cX3_contentsPass 68 = .ok (.iconst 4, 1) := by decide +kernel
theorem dX3_contentsPass_69 : decode cX3_contentsPass 69 = .ok (.iload 4, 2) := by decide +kernel
theorem dX3_contentsPass_71 : decode cX3_contentsPass 71 = .ok (.aload_n 0, 1) := by decide +kernel
theorem dX3_contentsPass_72 : decode cX3_contentsPass 72 = .ok (.getfield 15, 3) := by decide +kernel
theorem dX3_contentsPass_75 : decode cX3_contentsPass 75 = .ok (.iload 4, 2) := by decide +kernel
theorem dX3_contentsPass_77 : decode cX3_contentsPass 77 = .ok (.iaload, 1) := by decide +kernel
theorem dX3_contentsPass_78 : decode cX3_contentsPass 78 = .ok (.invokevirtual 81, 3) := by decide +kernel
theorem dX3_contentsPass_81 : decode cX3_contentsPass 81 = .ok (.ireturn, 1) := by decide +kernel
theorem dX3_contentsPass_82 : decode cX3_contentsPass 82 = .ok (.aload_n 0, 1) := by decide +kernel
theorem dX3_contentsPass_83 : decode cX3_contentsPass 83 = .ok (.aload_n 1, 1) := by decide +kernel
theorem dX3_contentsPass_84 : decode cX3_contentsPass 84 = .ok (.aload_n 0, 1) := by decide +kernel
theorem dX3_contentsPass_85 : decode cX3_contentsPass 85 = .ok (.getfield 15, 3) := by decide +kernel
theorem dX3_contentsPass_88 : decode cX3_contentsPass 88 = .ok (.iload 4, 2) := by decide +kernel
theorem dX3_contentsPass_90 : decode cX3_contentsPass 90 = .ok (.iaload, 1) := by decide +kernel
theorem dX3_contentsPass_91 : decode cX3_contentsPass 91 = .ok (.invokevirtual 137, 3) := by decide +kernel
theorem dX3_contentsPass_94 : decode cX3_contentsPass 94 = .ok (.ifCond .ne 18, 3) := by decide +kernel
theorem dX3_contentsPass_97 : decode cX3_contentsPass 97 = .ok (.aload_n 0, 1) := by decide +kernel
theorem dX3_contentsPass_98 : decode cX3_contentsPass 98 = .ok (.iconst 5, 1) := by decide +kernel
theorem dX3_contentsPass_99 : decode cX3_contentsPass 99 = .ok (.iload 4, 2) := by decide +kernel
theorem dX3_contentsPass_101 : decode cX3_contentsPass 101 = .ok (.aload_n 0, 1) := by decide +kernel
theorem dX3_contentsPass_102 : decode cX3_contentsPass 102 = .ok (.getfield 15, 3) := by decide +kernel
theorem dX3_contentsPass_105 : decode cX3_contentsPass 105 = .ok (.iload 4, 2) := by decide +kernel
theorem dX3_contentsPass_107 : decode cX3_contentsPass 107 = .ok (.iaload, 1) := by decide +kernel
theorem dX3_contentsPass_108 : decode cX3_contentsPass 108 = .ok (.invokevirtual 81, 3) := by decide +kernel
theorem dX3_contentsPass_111 : decode cX3_contentsPass 111 = .ok (.ireturn, 1) := by decide +kernel
theorem dX3_contentsPass_112 : decode cX3_contentsPass 112 = .ok (.aload_n 0, 1) := by decide +kernel
theorem dX3_contentsPass_113 : decode cX3_contentsPass 113 = .ok (.invokevirtual 140, 3) := by decide +kernel
theorem dX3_contentsPass_116 : decode cX3_contentsPass 116 = .ok (.ifCond .ne 19, 3) := by decide +kernel
theorem dX3_contentsPass_119 : decode cX3_contentsPass 119 = .ok (.aload_n 0, 1) := by decide +kernel
theorem dX3_contentsPass_120 : decode cX3_contentsPass 120 = .ok (.bipush 6, 2) := by decide +kernel
theorem dX3_contentsPass_122 : decode cX3_contentsPass 122 = .ok (.iload 4, 2) := by decide +kernel
theorem dX3_contentsPass_124 : decode cX3_contentsPass 124 = .ok (.aload_n 0, 1) := by decide +kernel
theorem dX3_contentsPass_125 : decode cX3_contentsPass 125 = .ok (.getfield 15, 3) := by decide +kernel
theorem dX3_contentsPass_128 : decode cX3_contentsPass 128 = .ok (.iload 4, 2) := by decide +kernel
theorem dX3_contentsPass_130 : decode cX3_contentsPass 130 = .ok (.iaload, 1) := by decide +kernel
theorem dX3_contentsPass_131 : decode cX3_contentsPass 131 = .ok (.invokevirtual 81, 3) := by decide +kernel
theorem dX3_contentsPass_134 : decode cX3_contentsPass 134 = .ok (.ireturn, 1) := by decide +kernel
theorem dX3_contentsPass_135 : decode cX3_contentsPass 135 = .ok (.iinc 4 1, 3) := by decide +kernel
theorem dX3_contentsPass_138 : decode cX3_contentsPass 138 = .ok (.goto (-133), 3) := by decide +kernel
theorem dX3_contentsPass_141 : decode cX3_contentsPass 141 = .ok (.iconst 1, 1) := by decide +kernel
theorem dX3_contentsPass_142 : decode cX3_contentsPass 142 = .ok (.ireturn, 1) := by decide +kernel
theorem dX3_unpack_0 : decode cX3_unpack 0 = .ok (.aload_n 0, 1) := by decide +kernel
theorem dX3_unpack_1 : decode cX3_unpack 1 = .ok (.getfield 30, 3) := by decide +kernel
theorem dX3_unpack_4 : decode cX3_unpack 4 = .ok (.iconst 0, 1) := by decide +kernel
theorem dX3_unpack_5 : decode cX3_unpack 5 = .ok (.invokevirtual 143, 3) := by decide +kernel
theorem dX3_unpack_8 : decode cX3_unpack 8 = .ok (.pop, 1) := by decide +kernel
theorem dX3_unpack_9 : decode cX3_unpack 9 = .ok (.aload_n 0, 1) := by decide +kernel
theorem dX3_unpack_10 : decode cX3_unpack 10 = .ok (.getfield 21, 3) := by decide +kernel
theorem dX3_unpack_13 : decode cX3_unpack 13 = .ok (.getfield 147, 3) := by decide +kernel
theorem dX3_unpack_16 : decode cX3_unpack 16 = .ok (.ifCond .ne 19, 3) := by decide +kernel
theorem dX3_unpack_19 : decode cX3_unpack 19 = .ok (.aload_n 0, 1) := by decide +kernel
theorem dX3_unpack_20 : decode cX3_unpack 20 = .ok (.getfield 30, 3) := by decide +kernel
theorem dX3_unpack_23 : decode cX3_unpack 23 = .ok (.aload_n 1, 1) := by decide +kernel
theorem dX3_unpack_24 : decode cX3_unpack 24 = .ok (.iload_n 2, 1) := by decide +kernel
theorem dX3_unpack_25 : decode cX3_unpack 25 = .ok (.aload_n 0, 1) := by decide +kernel
theorem dX3_unpack_26 : decode cX3_unpack 26 = .ok (.invokevirtual 126, 3) := by decide +kernel
theorem dX3_unpack_29 : decode cX3_unpack 29 = .ok (.invokevirtual 150, 3) := by decide +kernel
theorem dX3_unpack_32 : decode cX3_unpack 32 = .ok (.goto 21, 3) := by decide +kernel
theorem dX3_unpack_35 : decode cX3_unpack 35 = .ok (.aload_n 1, 1) := by decide +kernel
theorem dX3_unpack_36 : decode cX3_unpack 36 = .ok (.iload_n 2, 1) := by decide +kernel
theorem dX3_unpack_37 : decode cX3_unpack 37 = .ok (.aload_n 0, 1) := by decide +kernel
theorem dX3_unpack_38 : decode cX3_unpack 38 = .ok (.invokevirtual 126, 3) := by decide +kernel
theorem dX3_unpack_41 : decode cX3_unpack 41 = .ok (.aload_n 0, 1) := by decide +kernel
theorem dX3_unpack_42 : decode cX3_unpack 42 = .ok (.getfield 30, 3) := by decide +kernel
theorem dX3_unpack_45 : decode cX3_unpack 45 = .ok (.invokestatic 154, 3) := by decide +kernel
theorem dX3_unpack_48 : decode cX3_unpack 48 = .ok (.ifCond .ne 5, 3) := by decide +kernel
theorem dX3_unpack_51 : decode cX3_unpack 51 = .ok (.iconst 0, 1) := by decide +kernel
theorem dX3_unpack_52 : decode cX3_unpack 52 = .ok (.ireturn, 1) := by decide +kernel
theorem dX3_unpack_53 : decode cX3_unpack 53 = .ok (.aload_n 0, 1) := by decide +kernel
theorem dX3_unpack_54 : decode cX3_unpack 54 = .ok (.getfield 30, 3) := by decide +kernel
theorem dX3_unpack_57 : decode cX3_unpack 57 = .ok (.invokevirtual 64, 3) := by decide +kernel
theorem dX3_unpack_60 : decode cX3_unpack 60 = .ok (.i2l, 1) := by decide +kernel
theorem dX3_unpack_61 : decode cX3_unpack 61 = .ok (.aload_n 0, 1) := by decide +kernel
theorem dX3_unpack_62 : decode cX3_unpack 62 = .ok (.getfield 21, 3) := by decide +kernel
theorem dX3_unpack_65 : decode cX3_unpack 65 = .ok (.getfield 129, 3) := by decide +kernel
theorem dX3_unpack_68 : decode cX3_unpack 68 = .ok (.lcmp, 1) := by decide +kernel
theorem dX3_unpack_69 : decode cX3_unpack 69 = .ok (.ifCond .ne 7, 3) := by decide +kernel
theorem dX3_unpack_72 : decode cX3_unpack 72 = .ok (.iconst 1, 1) := by decide +kernel
theorem dX3_unpack_73 : decode cX3_unpack 73 = .ok (.goto 4, 3) := by decide +kernel
theorem dX3_unpack_76 : decode cX3_unpack 76 = .ok (.iconst 0, 1) := by decide +kernel
theorem dX3_unpack_77 : decode cX3_unpack 77 = .ok (.ireturn, 1) := by decide +kernel
theorem dX3_crcAgrees_0 : decode cX3_crcAgrees 0 = .ok (.aload_n 0, 1) := by decide +kernel
theorem dX3_crcAgrees_1 : decode cX3_crcAgrees 1 = .ok (.getfield 30, 3) := by decide +kernel
theorem dX3_crcAgrees_4 : decode cX3_crcAgrees 4 = .ok (.iconst 0, 1) := by decide +kernel
theorem dX3_crcAgrees_5 : decode cX3_crcAgrees 5 = .ok (.aload_n 0, 1) := by decide +kernel
theorem dX3_crcAgrees_6 : decode cX3_crcAgrees 6 = .ok (.getfield 30, 3) := by decide +kernel
theorem dX3_crcAgrees_9 : decode cX3_crcAgrees 9 = .ok (.invokevirtual 64, 3) := by decide +kernel
theorem dX3_crcAgrees_12 : decode cX3_crcAgrees 12 = .ok (.invokestatic 160, 3) := by decide +kernel
theorem dX3_crcAgrees_15 : decode cX3_crcAgrees 15 = .ok (.aload_n 0, 1) := by decide +kernel
theorem dX3_crcAgrees_16 : decode cX3_crcAgrees 16 = .ok (.getfield 21, 3) := by decide +kernel
theorem dX3_crcAgrees_19 : decode cX3_crcAgrees 19 = .ok (.getfield 164, 3) := by decide +kernel
theorem dX3_crcAgrees_22 : decode cX3_crcAgrees 22 = .ok (.if_icmp .ne 7, 3) := by decide +kernel
theorem dX3_crcAgrees_25 : decode cX3_crcAgrees 25 = .ok (.iconst 1, 1) := by decide +kernel
theorem dX3_crcAgrees_26 : decode cX3_crcAgrees 26 = .ok (.goto 4, 3) := by decide +kernel
theorem dX3_crcAgrees_29 : decode cX3_crcAgrees 29 = .ok (.iconst 0, 1) := by decide +kernel
theorem dX3_crcAgrees_30 : decode cX3_crcAgrees 30 = .ok (.ireturn, 1) := by decide +kernel
theorem dX3_load_0 : decode cX3_load 0 = .ok (.iconst 0, 1) := by decide +kernel
theorem dX3_load_1 : decode cX3_load 1 = .ok (.istore_n 3, 1) := by decide +kernel
theorem dX3_load_2 : decode cX3_load 2 = .ok (.iload_n 3, 1) := by decide +kernel
theorem dX3_load_3 : decode cX3_load 3 = .ok (.aload_n 0, 1) := by decide +kernel
theorem dX3_load_4 : decode cX3_load 4 = .ok (.getfield 100, 3) := by decide +kernel
theorem dX3_load_7 : decode cX3_load 7 = .ok (.if_icmp .ge 80, 3) := by decide +kernel
theorem dX3_load_10 : decode cX3_load 10 = .ok (.aload_n 0, 1) := by decide +kernel
theorem dX3_load_11 : decode cX3_load 11 = .ok (.getfield 9, 3) := by decide +kernel
theorem dX3_load_14 : decode cX3_load 14 = .ok (.iload_n 3, 1) := by decide +kernel
theorem dX3_load_15 : decode cX3_load 15 = .ok (.iaload, 1) := by decide +kernel
theorem dX3_load_16 : decode cX3_load 16 = .ok (.istore 4, 2) := by decide +kernel
theorem dX3_load_18 : decode cX3_load 18 = .ok (.aload_n 0, 1) := by decide +kernel
theorem dX3_load_19 : decode cX3_load 19 = .ok (.getfield 21, 3) := by decide +kernel
theorem dX3_load_22 : decode cX3_load 22 = .ok (.aload_n 1, 1) := by decide +kernel
theorem dX3_load_23 : decode cX3_load 23 = .ok (.iload 4, 2) := by decide +kernel
theorem dX3_load_25 : decode cX3_load 25 = .ok (.bipush 6, 2) := by decide +kernel
theorem dX3_load_27 : decode cX3_load 27 = .ok (.iadd, 1) := by decide +kernel
theorem dX3_load_28 : decode cX3_load 28 = .ok (.invokevirtual 110, 3) := by decide +kernel
theorem dX3_load_31 : decode cX3_load 31 = .ok (.ifCond .eq 50, 3) := by decide +kernel
theorem dX3_load_34 : decode cX3_load 34 = .ok (.aload_n 0, 1) := by decide +kernel
theorem dX3_load_35 : decode cX3_load 35 = .ok (.aload_n 1, 1) := by decide +kernel
theorem dX3_load_36 : decode cX3_load 36 = .ok (.aload_n 0, 1) := by decide +kernel
theorem dX3_load_37 : decode cX3_load 37 = .ok (.getfield 15, 3) := by decide +kernel
theorem dX3_load_40 : decode cX3_load 40 = .ok (.iload_n 3, 1) := by decide +kernel
theorem dX3_load_41 : decode cX3_load 41 = .ok (.iaload, 1) := by decide +kernel
theorem dX3_load_42 : decode cX3_load 42 = .ok (.invokevirtual 137, 3) := by decide +kernel
theorem dX3_load_45 : decode cX3_load 45 = .ok (.ifCond .eq 36, 3) := by decide +kernel
theorem dX3_load_48 : decode cX3_load 48 = .ok (.iload 4, 2) := by decide +kernel
theorem dX3_load_50 : decode cX3_load 50 = .ok (.bipush 46, 2) := by decide +kernel
theorem dX3_load_52 : decode cX3_load 52 = .ok (.iadd, 1) := by decide +kernel
theorem dX3_load_53 : decode cX3_load 53 = .ok (.istore 5, 2) := by decide +kernel
theorem dX3_load_55 : decode cX3_load 55 = .ok (.aload_n 2, 1) := by decide +kernel
theorem dX3_load_56 : decode cX3_load 56 = .ok (.aload_n 1, 1) := by decide +kernel
theorem dX3_load_57 : decode cX3_load 57 = .ok (.iload 5, 2) := by decide +kernel
theorem dX3_load_59 : decode cX3_load 59 = .ok (.aload_n 0, 1) := by decide +kernel
theorem dX3_load_60 : decode cX3_load 60 = .ok (.getfield 21, 3) := by decide +kernel
theorem dX3_load_63 : decode cX3_load 63 = .ok (.getfield 44, 3) := by decide +kernel
theorem dX3_load_66 : decode cX3_load 66 = .ok (.aload_n 0, 1) := by decide +kernel
theorem dX3_load_67 : decode cX3_load 67 = .ok (.getfield 30, 3) := by decide +kernel
theorem dX3_load_70 : decode cX3_load 70 = .ok (.iconst 0, 1) := by decide +kernel
theorem dX3_load_71 : decode cX3_load 71 = .ok (.aload_n 0, 1) := by decide +kernel
theorem dX3_load_72 : decode cX3_load 72 = .ok (.getfield 30, 3) := by decide +kernel
theorem dX3_load_75 : decode cX3_load 75 = .ok (.invokevirtual 64, 3) := by decide +kernel
theorem dX3_load_78 : decode cX3_load 78 = .ok (.invokevirtual 166, 3) := by decide +kernel
theorem dX3_load_81 : decode cX3_load 81 = .ok (.iinc 3 1, 3) := by decide +kernel
theorem dX3_load_84 : decode cX3_load 84 = .ok (.goto (-82), 3) := by decide +kernel
theorem dX3_load_87 : decode cX3_load 87 = .ok (.return_, 1) := by decide +kernel
theorem dX3_wholeAt_0 : decode cX3_wholeAt 0 = .ok (.aload_n 1, 1) := by decide +kernel
theorem dX3_wholeAt_1 : decode cX3_wholeAt 1 = .ok (.iload_n 2, 1) := by decide +kernel
theorem dX3_wholeAt_2 : decode cX3_wholeAt 2 = .ok (.iconst 3, 1) := by decide +kernel
theorem dX3_wholeAt_3 : decode cX3_wholeAt 3 = .ok (.iconst 4, 1) := by decide +kernel
theorem dX3_wholeAt_4 : decode cX3_wholeAt 4 = .ok (.invokevirtual 89, 3) := by decide +kernel
theorem dX3_wholeAt_7 : decode cX3_wholeAt 7 = .ok (.ifCond .eq 17, 3) := by decide +kernel
theorem dX3_wholeAt_10 : decode cX3_wholeAt 10 = .ok (.aload_n 0, 1) := by decide +kernel
theorem dX3_wholeAt_11 : decode cX3_wholeAt 11 = .ok (.getfield 21, 3) := by decide +kernel
theorem dX3_wholeAt_14 : decode cX3_wholeAt 14 = .ok (.aload_n 1, 1) := by decide +kernel
theorem dX3_wholeAt_15 : decode cX3_wholeAt 15 = .ok (.iload_n 2, 1) := by decide +kernel
theorem dX3_wholeAt_16 : decode cX3_wholeAt 16 = .ok (.iconst 4, 1) := by decide +kernel
theorem dX3_wholeAt_17 : decode cX3_wholeAt 17 = .ok (.iadd, 1) := by decide +kernel
theorem dX3_wholeAt_18 : decode cX3_wholeAt 18 = .ok (.invokevirtual 110, 3) := by decide +kernel
theorem dX3_wholeAt_21 : decode cX3_wholeAt 21 = .ok (.ifCond .ne 5, 3) := by decide +kernel
theorem dX3_wholeAt_24 : decode cX3_wholeAt 24 = .ok (.iconst 0, 1) := by decide +kernel
theorem dX3_wholeAt_25 : decode cX3_wholeAt 25 = .ok (.ireturn, 1) := by decide +kernel
theorem dX3_wholeAt_26 : decode cX3_wholeAt 26 = .ok (.iload_n 2, 1) := by decide +kernel
theorem dX3_wholeAt_27 : decode cX3_wholeAt 27 = .ok (.bipush 30, 2) := by decide +kernel
theorem dX3_wholeAt_29 : decode cX3_wholeAt 29 = .ok (.iadd, 1) := by decide +kernel
theorem dX3_wholeAt_30 : decode cX3_wholeAt 30 = .ok (.istore_n 3, 1) := by decide +kernel
theorem dX3_wholeAt_31 : decode cX3_wholeAt 31 = .ok (.iload_n 3, 1) := by decide +kernel
theorem dX3_wholeAt_32 : decode cX3_wholeAt 32 = .ok (.aload_n 0, 1) := by decide +kernel
theorem dX3_wholeAt_33 : decode cX3_wholeAt 33 = .ok (.getfield 21, 3) := by decide +kernel
theorem dX3_wholeAt_36 : decode cX3_wholeAt 36 = .ok (.getfield 44, 3) := by decide +kernel
theorem dX3_wholeAt_39 : decode cX3_wholeAt 39 = .ok (.iadd, 1) := by decide +kernel
theorem dX3_wholeAt_40 : decode cX3_wholeAt 40 = .ok (.istore 4, 2) := by decide +kernel
theorem dX3_wholeAt_42 : decode cX3_wholeAt 42 = .ok (.aload_n 1, 1) := by decide +kernel
theorem dX3_wholeAt_43 : decode cX3_wholeAt 43 = .ok (.iload_n 3, 1) := by decide +kernel
theorem dX3_wholeAt_44 : decode cX3_wholeAt 44 = .ok (.aload_n 0, 1) := by decide +kernel
theorem dX3_wholeAt_45 : decode cX3_wholeAt 45 = .ok (.getfield 21, 3) := by decide +kernel
theorem dX3_wholeAt_48 : decode cX3_wholeAt 48 = .ok (.getfield 44, 3) := by decide +kernel
theorem dX3_wholeAt_51 : decode cX3_wholeAt 51 = .ok (.invokevirtual 113, 3) := by decide +kernel
theorem dX3_wholeAt_54 : decode cX3_wholeAt 54 = .ok (.ifCond .eq 53, 3) := by decide +kernel
theorem dX3_wholeAt_57 : decode cX3_wholeAt 57 = .ok (.aload_n 0, 1) := by decide +kernel
theorem dX3_wholeAt_58 : decode cX3_wholeAt 58 = .ok (.getfield 21, 3) := by decide +kernel
theorem dX3_wholeAt_61 : decode cX3_wholeAt 61 = .ok (.getfield 47, 3) := by decide +kernel
theorem dX3_wholeAt_64 : decode cX3_wholeAt 64 = .ok (.aload_n 1, 1) := by decide +kernel
theorem dX3_wholeAt_65 : decode cX3_wholeAt 65 = .ok (.invokevirtual 64, 3) := by decide +kernel
theorem dX3_wholeAt_68 : decode cX3_wholeAt 68 = .ok (.iload 4, 2) := by decide +kernel
theorem dX3_wholeAt_70 : decode cX3_wholeAt 70 = .ok (.isub, 1) := by decide +kernel
theorem dX3_wholeAt_71 : decode cX3_wholeAt 71 = .ok (.i2l, 1) := by decide +kernel
theorem dX3_wholeAt_72 : decode cX3_wholeAt 72 = .ok (.lcmp, 1) := by decide +kernel
theorem dX3_wholeAt_73 : decode cX3_wholeAt 73 = .ok (.ifCond .gt 34, 3) := by decide +kernel
theorem dX3_wholeAt_76 : decode cX3_wholeAt 76 = .ok (.aload_n 0, 1) := by decide +kernel
theorem dX3_wholeAt_77 : decode cX3_wholeAt 77 = .ok (.getfield 21, 3) := by decide +kernel
theorem dX3_wholeAt_80 : decode cX3_wholeAt 80 = .ok (.invokevirtual 131, 3) := by decide +kernel
theorem dX3_wholeAt_83 : decode cX3_wholeAt 83 = .ok (.ifCond .eq 24, 3) := by decide +kernel
theorem dX3_wholeAt_86 : decode cX3_wholeAt 86 = .ok (.aload_n 0, 1) := by decide +kernel
theorem dX3_wholeAt_87 : decode cX3_wholeAt 87 = .ok (.aload_n 1, 1) := by decide +kernel
theorem dX3_wholeAt_88 : decode cX3_wholeAt 88 = .ok (.iload 4, 2) := by decide +kernel
theorem dX3_wholeAt_90 : decode cX3_wholeAt 90 = .ok (.invokevirtual 137, 3) := by decide +kernel
theorem dX3_wholeAt_93 : decode cX3_wholeAt 93 = .ok (.ifCond .eq 14, 3) := by decide +kernel
theorem dX3_wholeAt_96 : decode cX3_wholeAt 96 = .ok (.aload_n 0, 1) := by decide +kernel
theorem dX3_wholeAt_97 : decode cX3_wholeAt 97 = .ok (.invokevirtual 140, 3) := by decide +kernel
theorem dX3_wholeAt_100 : decode cX3_wholeAt 100 = .ok (.ifCond .eq 7, 3) := by decide +kernel
theorem dX3_wholeAt_103 : decode cX3_wholeAt 103 = .ok (.iconst 1, 1) := by decide +kernel
theorem dX3_wholeAt_104 : decode cX3_wholeAt 104 = .ok (.goto 4, 3) := by decide +kernel
theorem dX3_wholeAt_107 : decode cX3_wholeAt 107 = .ok (.iconst 0, 1) := by decide +kernel
theorem dX3_wholeAt_108 : decode cX3_wholeAt 108 = .ok (.ireturn, 1) := by decide +kernel
theorem dX4_init_0 : decode cX4_init 0 = .ok (.aload_n 0, 1) := by decide +kernel
theorem dX4_init_1 : decode cX4_init 1 = .ok (.invokespecial 3, 3) := by decide +kernel
theorem dX4_init_4 : decode cX4_init 4 = .ok (.aload_n 0, 1) := by decide +kernel
theorem dX4_init_5 : decode cX4_init 5 = .ok (.iconst 0, 1) := by decide +kernel
theorem dX4_init_6 : decode cX4_init 6 = .ok (.iload_n 1, 1) := by decide +kernel
theorem dX4_init_7 : decode cX4_init 7 = .ok (.invokestatic 9, 3) := by decide +kernel
theorem dX4_init_10 : decode cX4_init 10 = .ok (.newarray .int, 2) := by decide +kernel
theorem dX4_init_12 : decode cX4_init 12 = .ok (.putfield 15, 3) := by decide +kernel
theorem dX4_init_15 : decode cX4_init 15 = .ok (.return_, 1) := by decide +kernel
theorem dX4_size_0 : decode cX4_size 0 = .ok (.aload_n 0, 1) := by decide +kernel
theorem dX4_size_1 : decode cX4_size 1 = .ok (.getfield 21, 3) := by decide +kernel
theorem dX4_size_4 : decode cX4_size 4 = .ok (.ireturn, 1) := by decide +kernel
theorem dX4_room_0 : decode cX4_room 0 = .ok (.aload_n 0, 1) := by decide +kernel
theorem dX4_room_1 : decode cX4_room 1 = .ok (.getfield 15, 3) := by decide +kernel
theorem dX4_room_4 : decode cX4_room 4 = .ok (.arraylength, 1) := by decide +kernel
theorem dX4_room_5 : decode cX4_room 5 = .ok (.aload_n 0, 1) := by decide +kernel
theorem dX4_room_6 : decode cX4_room 6 = .ok (.getfield 21, 3) := by decide +kernel
theorem dX4_room_9 : decode cX4_room 9 = .ok (.isub, 1) := by decide +kernel
theorem dX4_room_10 : decode cX4_room 10 = .ok (.ireturn, 1) := by decide +kernel
theorem dX4_holds_0 : decode cX4_holds 0 = .ok (.iload_n 1, 1) := by decide +kernel
theorem dX4_holds_1 : decode cX4_holds 1 = .ok (.ifCond .lt 29, 3) := by decide +kernel
theorem dX4_holds_4 : decode cX4_holds 4 = .ok (.iload_n 2, 1) := by decide +kernel
theorem dX4_holds_5 : decode cX4_holds 5 = .ok (.ifCond .lt 25, 3) := by decide +kernel
theorem dX4_holds_8 : decode cX4_holds 8 = .ok (.iload_n 2, 1) := by decide +kernel
theorem dX4_holds_9 : decode cX4_holds 9 = .ok (.aload_n 0, 1) := by decide +kernel
theorem dX4_holds_10 : decode cX4_holds 10 = .ok (.getfield 21, 3) := by decide +kernel
theorem dX4_holds_13 : decode cX4_holds 13 = .ok (.if_icmp .gt 17, 3) := by decide +kernel
theorem dX4_holds_16 : decode cX4_holds 16 = .ok (.iload_n 1, 1) := by decide +kernel
theorem dX4_holds_17 : decode cX4_holds 17 = .ok (.aload_n 0, 1) := by decide +kernel
theorem dX4_holds_18 : decode cX4_holds 18 = .ok (.getfield 21, 3) := by decide +kernel
theorem dX4_holds_21 : decode cX4_holds 21 = .ok (.iload_n 2, 1) := by decide +kernel
theorem dX4_holds_22 : decode cX4_holds 22 = .ok (.isub, 1) := by decide +kernel
theorem dX4_holds_23 : decode cX4_holds 23 = .ok (.if_icmp .gt 7, 3) := by decide +kernel
theorem dX4_holds_26 : decode cX4_holds 26 = .ok (.iconst 1, 1) := by decide +kernel
theorem dX4_holds_27 : decode cX4_holds 27 = .ok (.goto 4, 3) := by decide +kernel
theorem dX4_holds_30 : decode cX4_holds 30 = .ok (.iconst 0, 1) := by decide +kernel
theorem dX4_holds_31 : decode cX4_holds 31 = .ok (.ireturn, 1) := by decide +kernel
theorem dX4_at_0 : decode cX4_at 0 = .ok (.iload_n 1, 1) := by decide +kernel
theorem dX4_at_1 : decode cX4_at 1 = .ok (.ifCond .lt 20, 3) := by decide +kernel
theorem dX4_at_4 : decode cX4_at 4 = .ok (.iload_n 1, 1) := by decide +kernel
theorem dX4_at_5 : decode cX4_at 5 = .ok (.aload_n 0, 1) := by decide +kernel
theorem dX4_at_6 : decode cX4_at 6 = .ok (.getfield 21, 3) := by decide +kernel
theorem dX4_at_9 : decode cX4_at 9 = .ok (.if_icmp .ge 12, 3) := by decide +kernel
theorem dX4_at_12 : decode cX4_at 12 = .ok (.aload_n 0, 1) := by decide +kernel
theorem dX4_at_13 : decode cX4_at 13 = .ok (.getfield 15, 3) := by decide +kernel
theorem dX4_at_16 : decode cX4_at 16 = .ok (.iload_n 1, 1) := by decide +kernel
theorem dX4_at_17 : decode cX4_at 17 = .ok (.iaload, 1) := by decide +kernel
theorem dX4_at_18 : decode cX4_at 18 = .ok (.goto 4, 3) := by decide +kernel
theorem dX4_at_21 : decode cX4_at 21 = .ok (.iconst (-1), 1) := by decide +kernel
theorem dX4_at_22 : decode cX4_at 22 = .ok (.ireturn, 1) := by decide +kernel
theorem dX4_two_0 : decode cX4_two 0 = .ok (.aload_n 0, 1) := by decide +kernel
theorem dX4_two_1 : decode cX4_two 1 = .ok (.iload_n 1, 1) := by decide +kernel
theorem dX4_two_2 : decode cX4_two 2 = .ok (.iconst 2, 1) := by decide +kernel
theorem dX4_two_3 : decode cX4_two 3 = .ok (.invokevirtual 25, 3) := by decide +kernel
theorem dX4_two_6 : decode cX4_two 6 = .ok (.ifCond .eq 24, 3) := by decide +kernel
theorem dX4_two_9 : decode cX4_two 9 = .ok (.aload_n 0, 1) := by decide +kernel
theorem dX4_two_10 : decode cX4_two 10 = .ok (.getfield 15, 3) := by decide +kernel
theorem dX4_two_13 : decode cX4_two 13 = .ok (.iload_n 1, 1) := by decide +kernel
theorem dX4_two_14 : decode cX4_two 14 = .ok (.iaload, 1) := by decide +kernel
theorem dX4_two_15 : decode cX4_two 15 = .ok (.aload_n 0, 1) := by decide +kernel
theorem dX4_two_16 : decode cX4_two 16 = .ok (.getfield 15, 3) := by decide +kernel
theorem dX4_two_19 : decode cX4_two 19 = .ok (.iload_n 1, 1) := by decide +kernel
theorem dX4_two_20 : decode cX4_two 20 = .ok (.iconst 1, 1) := by decide +kernel
theorem dX4_two_21 : decode cX4_two 21 = .ok (.iadd, 1) := by decide +kernel
theorem dX4_two_22 : decode cX4_two 22 = .ok (.iaload, 1) := by decide +kernel
theorem dX4_two_23 : decode cX4_two 23 = .ok (.bipush 8, 2) := by decide +kernel
theorem dX4_two_25 : decode cX4_two 25 = .ok (.ishl, 1) := by decide +kernel
theorem dX4_two_26 : decode cX4_two 26 = .ok (.ior, 1) := by decide +kernel
theorem dX4_two_27 : decode cX4_two 27 = .ok (.goto 4, 3) := by decide +kernel
theorem dX4_two_30 : decode cX4_two 30 = .ok (.iconst (-1), 1) := by decide +kernel
theorem dX4_two_31 : decode cX4_two 31 = .ok (.ireturn, 1) := by decide +kernel
theorem dX4_four_0 : decode cX4_four 0 = .ok (.aload_n 0, 1) := by decide +kernel
theorem dX4_four_1 : decode cX4_four 1 = .ok (.iload_n 1, 1) := by decide +kernel
theorem dX4_four_2 : decode cX4_four 2 = .ok (.iconst 4, 1) := by decide +kernel
theorem dX4_four_3 : decode cX4_four 3 = .ok (.invokevirtual 25, 3) := by decide +kernel
theorem dX4_four_6 : decode cX4_four 6 = .ok (.ifCond .ne 7, 3) := by decide +kernel
theorem dX4_four_9 : decode cX4_four 9 = .ok (.ldc2_w 29, 3) := by decide +kernel
theorem dX4_four_12 : decode cX4_four 12 = .ok (.lreturn, 1) := by decide +kernel
theorem dX4_four_13 : decode cX4_four 13 = .ok (.aload_n 0, 1) := by decide +kernel
theorem dX4_four_14 : decode cX4_four 14 = .ok (.getfield 15, 3) := by decide +kernel
theorem dX4_four_17 : decode cX4_four 17 = .ok (.iload_n 1, 1) := by decide +kernel
theorem dX4_four_18 : decode cX4_four 18 = .ok (.iconst 2, 1) := by decide +kernel
theorem dX4_four_19 : decode cX4_four 19 = .ok (.iadd, 1) := by decide +kernel
theorem dX4_four_20 : decode cX4_four 20 = .ok (.iaload, 1) := by decide +kernel
theorem dX4_four_21 : decode cX4_four 21 = .ok (.aload_n 0, 1) := by decide +kernel
theorem dX4_four_22 : decode cX4_four 22 = .ok (.getfield 15, 3) := by decide +kernel
theorem dX4_four_25 : decode cX4_four 25 = .ok (.iload_n 1, 1) := by decide +kernel
theorem dX4_four_26 : decode cX4_four 26 = .ok (.iconst 3, 1) := by decide +kernel
theorem dX4_four_27 : decode cX4_four 27 = .ok (.iadd, 1) := by decide +kernel
theorem dX4_four_28 : decode cX4_four 28 = .ok (.iaload, 1) := by decide +kernel
theorem dX4_four_29 : decode cX4_four 29 = .ok (.bipush 8, 2) := by decide +kernel
theorem dX4_four_31 : decode cX4_four 31 = .ok (.ishl, 1) := by decide +kernel
theorem dX4_four_32 : decode cX4_four 32 = .ok (.ior, 1) := by decide +kernel
theorem dX4_four_33 : decode cX4_four 33 = .ok (.i2l, 1) := by decide +kernel
theorem dX4_four_34 : decode cX4_four 34 = .ok (.lstore_n 2, 1) := by decide +kernel
theorem dX4_four_35 : decode cX4_four 35 = .ok (.lload_n 2, 1) := by decide +kernel
theorem dX4_four_36 : decode cX4_four 36 = .ok (.bipush 16, 2) := by decide +kernel
theorem dX4_four_38 : decode cX4_four 38 = .ok (.lshl, 1) := by decide +kernel
theorem dX4_four_39 : decode cX4_four 39 = .ok (.aload_n 0, 1) := by decide +kernel
theorem dX4_four_40 : decode cX4_four 40 = .ok (.getfield 15, 3) := by decide +kernel
theorem dX4_four_43 : decode cX4_four 43 = .ok (.iload_n 1, 1) := by decide +kernel
theorem dX4_four_44 : decode cX4_four 44 = .ok (.iaload, 1) := by decide +kernel
theorem dX4_four_45 : decode cX4_four 45 = .ok (.i2l, 1) := by decide +kernel
theorem dX4_four_46 : decode cX4_four 46 = .ok (.lor, 1) := by decide +kernel
theorem dX4_four_47 : decode cX4_four 47 = .ok (.aload_n 0, 1) := by decide +kernel
theorem dX4_four_48 : decode cX4_four 48 = .ok (.getfield 15, 3) := by decide +kernel
theorem dX4_four_51 : decode cX4_four 51 = .ok (.iload_n 1, 1) := by decide +kernel
theorem dX4_four_52 : decode cX4_four 52 = .ok (.iconst 1, 1) := by decide +kernel
theorem dX4_four_53 : decode cX4_four 53 = .ok (.iadd, 1) := by decide +kernel
theorem dX4_four_54 : decode cX4_four 54 = .ok (.iaload, 1) := by decide +kernel
theorem dX4_four_55 : decode cX4_four 55 = .ok (.bipush 8, 2) := by decide +kernel
theorem dX4_four_57 : decode cX4_four 57 = .ok (.ishl, 1) := by decide +kernel
theorem dX4_four_58 : decode cX4_four 58 = .ok (.i2l, 1) := by decide +kernel
theorem dX4_four_59 : decode cX4_four 59 = .ok (.lor, 1) := by decide +kernel
theorem dX4_four_60 : decode cX4_four 60 = .ok (.lreturn, 1) := by decide +kernel
theorem dX4_push_0 : decode cX4_push 0 = .ok (.aload_n 0, 1) := by decide +kernel
theorem dX4_push_1 : decode cX4_push 1 = .ok (.getfield 21, 3) := by decide +kernel
theorem dX4_push_4 : decode cX4_push 4 = .ok (.aload_n 0, 1) := by decide +kernel
theorem dX4_push_5 : decode cX4_push 5 = .ok (.getfield 15, 3) := by decide +kernel
theorem dX4_push_8 : decode cX4_push 8 = .ok (.arraylength, 1) := by decide +kernel
theorem dX4_push_9 : decode cX4_push 9 = .ok (.if_icmp .ge 27, 3) := by decide +kernel
theorem dX4_push_12 : decode cX4_push 12 = .ok (.aload_n 0, 1) := by decide +kernel
theorem dX4_push_13 : decode cX4_push 13 = .ok (.getfield 15, 3) := by decide +kernel
theorem dX4_push_16 : decode cX4_push 16 = .ok (.aload_n 0, 1) := by decide +kernel
theorem dX4_push_17 : decode cX4_push 17 = .ok (.getfield 21, 3) := by decide +kernel
theorem dX4_push_20 : decode cX4_push 20 = .ok (.iload_n 1, 1) := by decide +kernel
theorem dX4_push_21 : decode cX4_push 21 = .ok (.sipush 255, 3) := by decide +kernel
theorem dX4_push_24 : decode cX4_push 24 = .ok (.iand, 1) := by decide +kernel
theorem dX4_push_25 : decode cX4_push 25 = .ok (.iastore, 1) := by decide +kernel
theorem dX4_push_26 : decode cX4_push 26 = .ok (.aload_n 0, 1) := by decide +kernel
theorem dX4_push_27 : decode cX4_push 27 = .ok (.dup, 1) := by decide +kernel
theorem dX4_push_28 : decode cX4_push 28 = .ok (.getfield 21, 3) := by decide +kernel
theorem dX4_push_31 : decode cX4_push 31 = .ok (.iconst 1, 1) := by decide +kernel
theorem dX4_push_32 : decode cX4_push 32 = .ok (.iadd, 1) := by decide +kernel
theorem dX4_push_33 : decode cX4_push 33 = .ok (.putfield 21, 3) := by decide +kernel
theorem dX4_push_36 : decode cX4_push 36 = .ok (.return_, 1) := by decide +kernel
theorem dX4_pushTwo_0 : decode cX4_pushTwo 0 = .ok (.aload_n 0, 1) := by decide +kernel
theorem dX4_pushTwo_1 : decode cX4_pushTwo 1 = .ok (.iload_n 1, 1) := by decide +kernel
theorem dX4_pushTwo_2 : decode cX4_pushTwo 2 = .ok (.invokevirtual 31, 3) := by decide +kernel
theorem dX4_pushTwo_5 : decode cX4_pushTwo 5 = .ok (.aload_n 0, 1) := by decide +kernel
theorem dX4_pushTwo_6 : decode cX4_pushTwo 6 = .ok (.iload_n 1, 1) := by decide +kernel
theorem dX4_pushTwo_7 : decode cX4_pushTwo 7 = .ok (.bipush 8, 2) := by decide +kernel
theorem dX4_pushTwo_9 : decode cX4_pushTwo 9 = .ok (.iushr, 1) := by decide +kernel
theorem dX4_pushTwo_10 : decode cX4_pushTwo 10 = .ok (.invokevirtual 31, 3) := by decide +kernel
theorem dX4_pushTwo_13 : decode cX4_pushTwo 13 = .ok (.return_, 1) := by decide +kernel
theorem dX4_pushFour_0 : decode cX4_pushFour 0 = .ok (.aload_n 0, 1) := by decide +kernel
theorem dX4_pushFour_1 : decode cX4_pushFour 1 = .ok (.iload_n 1, 1) := by decide +kernel
theorem dX4_pushFour_2 : decode cX4_pushFour 2 = .ok (.invokevirtual 35, 3) := by decide +kernel
theorem dX4_pushFour_5 : decode cX4_pushFour 5 = .ok (.aload_n 0, 1) := by decide +kernel
theorem dX4_pushFour_6 : decode cX4_pushFour 6 = .ok (.iload_n 1, 1) := by decide +kernel
theorem dX4_pushFour_7 : decode cX4_pushFour 7 = .ok (.bipush 16, 2) := by decide +kernel
theorem dX4_pushFour_9 : decode cX4_pushFour 9 = .ok (.iushr, 1) := by decide +kernel
theorem dX4_pushFour_10 : decode cX4_pushFour 10 = .ok (.invokevirtual 35, 3) := by decide +kernel
theorem dX4_pushFour_13 : decode cX4_pushFour 13 = .ok (.return_, 1) := by decide +kernel
theorem dX4_pushHighFirst_0 : decode cX4_pushHighFirst 0 = .ok (.aload_n 0, 1) := by decide +kernel
theorem dX4_pushHighFirst_1 : decode cX4_pushHighFirst 1 = .ok (.iload_n 1, 1) := by decide +kernel
theorem dX4_pushHighFirst_2 : decode cX4_pushHighFirst 2 = .ok (.bipush 24, 2) := by decide +kernel
theorem dX4_pushHighFirst_4 : decode cX4_pushHighFirst 4 = .ok (.iushr, 1) := by decide +kernel
theorem dX4_pushHighFirst_5 : decode cX4_pushHighFirst 5 = .ok (.invokevirtual 31, 3) := by decide +kernel
theorem dX4_pushHighFirst_8 : decode cX4_pushHighFirst 8 = .ok (.aload_n 0, 1) := by decide +kernel
theorem dX4_pushHighFirst_9 : decode cX4_pushHighFirst 9 = .ok (.iload_n 1, 1) := by decide +kernel
theorem dX4_pushHighFirst_10 : decode cX4_pushHighFirst 10 = .ok (.bipush 16, 2) := by decide +kernel
theorem dX4_pushHighFirst_12 : decode cX4_pushHighFirst 12 = .ok (.iushr, 1) := by decide +kernel
theorem dX4_pushHighFirst_13 : decode cX4_pushHighFirst 13 = .ok (.invokevirtual 31, 3) := by decide +kernel
theorem dX4_pushHighFirst_16 : decode cX4_pushHighFirst 16 = .ok (.aload_n 0, 1) := by decide +kernel
theorem dX4_pushHighFirst_17 : decode cX4_pushHighFirst 17 = .ok (.iload_n 1, 1) := by decide +kernel
theorem dX4_pushHighFirst_18 : decode cX4_pushHighFirst 18 = .ok (.bipush 8, 2) := by decide +kernel
theorem dX4_pushHighFirst_20 : decode cX4_pushHighFirst 20 = .ok (.iushr, 1) := by decide +kernel
theorem dX4_pushHighFirst_21 : decode cX4_pushHighFirst 21 = .ok (.invokevirtual 31, 3) := by decide +kernel
theorem dX4_pushHighFirst_24 : decode cX4_pushHighFirst 24 = .ok (.aload_n 0, 1) := by decide +kernel
theorem dX4_pushHighFirst_25 : decode cX4_pushHighFirst 25 = .ok (.iload_n 1, 1) := by decide +kernel
theorem dX4_pushHighFirst_26 : decode cX4_pushHighFirst 26 = .ok (.invokevirtual 31, 3) := by decide +kernel
theorem dX4_pushHighFirst_29 : decode cX4_pushHighFirst 29 = .ok (.return_, 1) := by decide +kernel
theorem dX4_pushSignature_0 : decode cX4_pushSignature 0 = .ok (.aload_n 0, 1) := by decide +kernel
theorem dX4_pushSignature_1 : decode cX4_pushSignature 1 = .ok (.bipush 80, 2) := by decide +kernel
theorem dX4_pushSignature_3 : decode cX4_pushSignature 3 = .ok (.invokevirtual 31, 3) := by decide +kernel
theorem dX4_pushSignature_6 : decode cX4_pushSignature 6 = .ok (.aload_n 0, 1) := by decide +kernel
theorem dX4_pushSignature_7 : decode cX4_pushSignature 7 = .ok (.bipush 75, 2) := by decide +kernel
theorem dX4_pushSignature_9 : decode cX4_pushSignature 9 = .ok (.invokevirtual 31, 3) := by decide +kernel
theorem dX4_pushSignature_12 : decode cX4_pushSignature 12 = .ok (.aload_n 0, 1) := by decide +kernel
theorem dX4_pushSignature_13 : decode cX4_pushSignature 13 = .ok (.iload_n 1, 1) := by decide +kernel
theorem dX4_pushSignature_14 : decode cX4_pushSignature 14 = .ok (.invokevirtual 31, 3) := by decide +kernel
theorem dX4_pushSignature_17 : decode cX4_pushSignature 17 = .ok (.aload_n 0, 1) := by decide +kernel
theorem dX4_pushSignature_18 : decode cX4_pushSignature 18 = .ok (.iload_n 2, 1) := by decide +kernel
theorem dX4_pushSignature_19 : decode cX4_pushSignature 19 = .ok (.invokevirtual 31, 3) := by decide +kernel
theorem dX4_pushSignature_22 : decode cX4_pushSignature 22 = .ok (.return_, 1) := by decide +kernel
theorem dX4_append_0 : decode cX4_append 0 = .ok (.aload_n 1, 1) := by decide +kernel
theorem dX4_append_1 : decode cX4_append 1 = .ok (.iload_n 2, 1) := by decide +kernel
theorem dX4_append_2 : decode cX4_append 2 = .ok (.iload_n 3, 1) := by decide +kernel
theorem dX4_append_3 : decode cX4_append 3 = .ok (.invokevirtual 25, 3) := by decide +kernel
theorem dX4_append_6 : decode cX4_append 6 = .ok (.ifCond .eq 38, 3) := by decide +kernel
theorem dX4_append_9 : decode cX4_append 9 = .ok (.iload_n 3, 1) := by decide +kernel
theorem dX4_append_10 : decode cX4_append 10 = .ok (.aload_n 0, 1) := by decide +kernel
theorem dX4_append_11 : decode cX4_append 11 = .ok (.invokevirtual 38, 3) := by decide +kernel
theorem dX4_append_14 : decode cX4_append 14 = .ok (.if_icmp .gt 30, 3) := by decide +kernel
theorem dX4_append_17 : decode cX4_append 17 = .ok (.aload_n 1, 1) := by decide +kernel
theorem dX4_append_18 : decode cX4_append 18 = .ok (.getfield 15, 3) := by decide +kernel
theorem dX4_append_21 : decode cX4_append 21 = .ok (.iload_n 2, 1) := by decide +kernel
theorem dX4_append_22 : decode cX4_append 22 = .ok (.aload_n 0, 1) := by decide +kernel
theorem dX4_append_23 : decode cX4_append 23 = .ok (.getfield 15, 3) := by decide +kernel
theorem dX4_append_26 : decode cX4_append 26 = .ok (.aload_n 0, 1) := by decide +kernel
theorem dX4_append_27 : decode cX4_append 27 = .ok (.getfield 21, 3) := by decide +kernel
theorem dX4_append_30 : decode cX4_append 30 = .ok (.iload_n 3, 1) := by decide +kernel
theorem dX4_append_31 : decode cX4_append 31 = .ok (.invokestatic 42, 3) := by decide +kernel
theorem dX4_append_34 : decode cX4_append 34 = .ok (.aload_n 0, 1) := by decide +kernel
theorem dX4_append_35 : decode cX4_append 35 = .ok (.dup, 1) := by decide +kernel
theorem dX4_append_36 : decode cX4_append 36 = .ok (.getfield 21, 3) := by decide +kernel
theorem dX4_append_39 : decode cX4_append 39 = .ok (.iload_n 3, 1) := by decide +kernel
theorem dX4_append_40 : decode cX4_append 40 = .ok (.iadd, 1) := by decide +kernel
theorem dX4_append_41 : decode cX4_append 41 = .ok (.putfield 21, 3) := by decide +kernel
theorem dX4_append_44 : decode cX4_append 44 = .ok (.return_, 1) := by decide +kernel
