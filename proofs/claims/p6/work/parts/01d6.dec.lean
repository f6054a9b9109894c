theorem dX8_remove_13 : decode cX8_remove 13 = .ok (.iconst 1, 1) := by decide +kernel
theorem dX8_remove_14 : decode cX8_remove 14 = .ok (.putfield 50, 3) := by decide +kernel
theorem dX8_remove_17 : decode cX8_remove 17 = .ok (.aload_n 0, 1) := by decide +kernel
theorem dX8_remove_18 : decode cX8_remove 18 = .ok (.getfield 50, 3) := by decide +kernel
theorem dX8_remove_21 : decode cX8_remove 21 = .ok (.ifCond .ne 8, 3) := by decide +kernel
theorem dX8_remove_24 : decode cX8_remove 24 = .ok (.aload_n 0, 1) := by decide +kernel
theorem dX8_remove_25 : decode cX8_remove 25 = .ok (.iload_n 1, 1) := by decide +kernel
theorem dX8_remove_26 : decode cX8_remove 26 = .ok (.invokevirtual 89, 3) := by decide +kernel
theorem dX8_remove_29 : decode cX8_remove 29 = .ok (.return_, 1) := by decide +kernel
theorem dX8_isAhead_0 : decode cX8_isAhead 0 = .ok (.iconst 0, 1) := by decide +kernel
theorem dX8_isAhead_1 : decode cX8_isAhead 1 = .ok (.istore_n 3, 1) := by decide +kernel
theorem dX8_isAhead_2 : decode cX8_isAhead 2 = .ok (.iload_n 3, 1) := by decide +kernel
theorem dX8_isAhead_3 : decode cX8_isAhead 3 = .ok (.aload_n 0, 1) := by decide +kernel
theorem dX8_isAhead_4 : decode cX8_isAhead 4 = .ok (.getfield 22, 3) := by decide +kernel
theorem dX8_isAhead_7 : decode cX8_isAhead 7 = .ok (.iload_n 1, 1) := by decide +kernel
theorem dX8_isAhead_8 : decode cX8_isAhead 8 = .ok (.iaload, 1) := by decide +kernel
theorem dX8_isAhead_9 : decode cX8_isAhead 9 = .ok (.if_icmp .ge 44, 3) := by decide +kernel
theorem dX8_isAhead_12 : decode cX8_isAhead 12 = .ok (.iload_n 3, 1) := by decide +kernel
theorem dX8_isAhead_13 : decode cX8_isAhead 13 = .ok (.aload_n 0, 1) := by decide +kernel
theorem dX8_isAhead_14 : decode cX8_isAhead 14 = .ok (.getfield 22, 3) := by decide +kernel
theorem dX8_isAhead_17 : decode cX8_isAhead 17 = .ok (.iload_n 2, 1) := by decide +kernel
theorem dX8_isAhead_18 : decode cX8_isAhead 18 = .ok (.iaload, 1) := by decide +kernel
theorem dX8_isAhead_19 : decode cX8_isAhead 19 = .ok (.if_icmp .ge 34, 3) := by decide +kernel
theorem dX8_isAhead_22 : decode cX8_isAhead 22 = .ok (.aload_n 0, 1) := by decide +kernel
theorem dX8_isAhead_23 : decode cX8_isAhead 23 = .ok (.getfield 19, 3) := by decide +kernel
theorem dX8_isAhead_26 : decode cX8_isAhead 26 = .ok (.bipush 30, 2) := by decide +kernel
theorem dX8_isAhead_28 : decode cX8_isAhead 28 = .ok (.iload_n 1, 1) := by decide +kernel
theorem dX8_isAhead_29 : decode cX8_isAhead 29 = .ok (.imul, 1) := by decide +kernel
theorem dX8_isAhead_30 : decode cX8_isAhead 30 = .ok (.iload_n 3, 1) := by decide +kernel
theorem dX8_isAhead_31 : decode cX8_isAhead 31 = .ok (.iadd, 1) := by decide +kernel
theorem dX8_isAhead_32 : decode cX8_isAhead 32 = .ok (.iaload, 1) := by decide +kernel
theorem dX8_isAhead_33 : decode cX8_isAhead 33 = .ok (.aload_n 0, 1) := by decide +kernel
theorem dX8_isAhead_34 : decode cX8_isAhead 34 = .ok (.getfield 19, 3) := by decide +kernel
theorem dX8_isAhead_37 : decode cX8_isAhead 37 = .ok (.bipush 30, 2) := by decide +kernel
theorem dX8_isAhead_39 : decode cX8_isAhead 39 = .ok (.iload_n 2, 1) := by decide +kernel
theorem dX8_isAhead_40 : decode cX8_isAhead 40 = .ok (.imul, 1) := by decide +kernel
theorem dX8_isAhead_41 : decode cX8_isAhead 41 = .ok (.iload_n 3, 1) := by decide +kernel
theorem dX8_isAhead_42 : decode cX8_isAhead 42 = .ok (.iadd, 1) := by decide +kernel
theorem dX8_isAhead_43 : decode cX8_isAhead 43 = .ok (.iaload, 1) := by decide +kernel
theorem dX8_isAhead_44 : decode cX8_isAhead 44 = .ok (.if_icmp .ne 9, 3) := by decide +kernel
theorem dX8_isAhead_47 : decode cX8_isAhead 47 = .ok (.iinc 3 1, 3) := by decide +kernel
theorem dX8_isAhead_50 : decode cX8_isAhead 50 = .ok (.goto (-48), 3) := by decide +kernel
theorem dX8_isAhead_53 : decode cX8_isAhead 53 = .ok (.iload_n 3, 1) := by decide +kernel
theorem dX8_isAhead_54 : decode cX8_isAhead 54 = .ok (.aload_n 0, 1) := by decide +kernel
theorem dX8_isAhead_55 : decode cX8_isAhead 55 = .ok (.getfield 22, 3) := by decide +kernel
theorem dX8_isAhead_58 : decode cX8_isAhead 58 = .ok (.iload_n 1, 1) := by decide +kernel
theorem dX8_isAhead_59 : decode cX8_isAhead 59 = .ok (.iaload, 1) := by decide +kernel
theorem dX8_isAhead_60 : decode cX8_isAhead 60 = .ok (.if_icmp .eq 13, 3) := by decide +kernel
theorem dX8_isAhead_63 : decode cX8_isAhead 63 = .ok (.iload_n 3, 1) := by decide +kernel
theorem dX8_isAhead_64 : decode cX8_isAhead 64 = .ok (.aload_n 0, 1) := by decide +kernel
theorem dX8_isAhead_65 : decode cX8_isAhead 65 = .ok (.getfield 22, 3) := by decide +kernel
theorem dX8_isAhead_68 : decode cX8_isAhead 68 = .ok (.iload_n 2, 1) := by decide +kernel
theorem dX8_isAhead_69 : decode cX8_isAhead 69 = .ok (.iaload, 1) := by decide +kernel
theorem dX8_isAhead_70 : decode cX8_isAhead 70 = .ok (.if_icmp .ne 24, 3) := by decide +kernel
theorem dX8_isAhead_73 : decode cX8_isAhead 73 = .ok (.aload_n 0, 1) := by decide +kernel
theorem dX8_isAhead_74 : decode cX8_isAhead 74 = .ok (.getfield 22, 3) := by decide +kernel
theorem dX8_isAhead_77 : decode cX8_isAhead 77 = .ok (.iload_n 1, 1) := by decide +kernel
theorem dX8_isAhead_78 : decode cX8_isAhead 78 = .ok (.iaload, 1) := by decide +kernel
theorem dX8_isAhead_79 : decode cX8_isAhead 79 = .ok (.aload_n 0, 1) := by decide +kernel
theorem dX8_isAhead_80 : decode cX8_isAhead 80 = .ok (.getfield 22, 3) := by decide +kernel
theorem dX8_isAhead_83 : decode cX8_isAhead 83 = .ok (.iload_n 2, 1) := by decide +kernel
theorem dX8_isAhead_84 : decode cX8_isAhead 84 = .ok (.iaload, 1) := by decide +kernel
theorem dX8_isAhead_85 : decode cX8_isAhead 85 = .ok (.if_icmp .ge 7, 3) := by decide +kernel
theorem dX8_isAhead_88 : decode cX8_isAhead 88 = .ok (.iconst 1, 1) := by decide +kernel
theorem dX8_isAhead_89 : decode cX8_isAhead 89 = .ok (.goto 4, 3) := by decide +kernel
theorem dX8_isAhead_92 : decode cX8_isAhead 92 = .ok (.iconst 0, 1) := by decide +kernel
theorem dX8_isAhead_93 : decode cX8_isAhead 93 = .ok (.ireturn, 1) := by decide +kernel
theorem dX8_isAhead_94 : decode cX8_isAhead 94 = .ok (.aload_n 0, 1) := by decide +kernel
theorem dX8_isAhead_95 : decode cX8_isAhead 95 = .ok (.getfield 19, 3) := by decide +kernel
theorem dX8_isAhead_98 : decode cX8_isAhead 98 = .ok (.bipush 30, 2) := by decide +kernel
theorem dX8_isAhead_100 : decode cX8_isAhead 100 = .ok (.iload_n 1, 1) := by decide +kernel
theorem dX8_isAhead_101 : decode cX8_isAhead 101 = .ok (.imul, 1) := by decide +kernel
theorem dX8_isAhead_102 : decode cX8_isAhead 102 = .ok (.iload_n 3, 1) := by decide +kernel
theorem dX8_isAhead_103 : decode cX8_isAhead 103 = .ok (.iadd, 1) := by decide +kernel
theorem dX8_isAhead_104 : decode cX8_isAhead 104 = .ok (.iaload, 1) := by decide +kernel
theorem dX8_isAhead_105 : decode cX8_isAhead 105 = .ok (.aload_n 0, 1) := by decide +kernel
theorem dX8_isAhead_106 : decode cX8_isAhead 106 = .ok (.getfield 19, 3) := by decide +kernel
theorem dX8_isAhead_109 : decode cX8_isAhead 109 = .ok (.bipush 30, 2) := by decide +kernel
theorem dX8_isAhead_111 : decode cX8_isAhead 111 = .ok (.iload_n 2, 1) := by decide +kernel
theorem dX8_isAhead_112 : decode cX8_isAhead 112 = .ok (.imul, 1) := by decide +kernel
theorem dX8_isAhead_113 : decode cX8_isAhead 113 = .ok (.iload_n 3, 1) := by decide +kernel
theorem dX8_isAhead_114 : decode cX8_isAhead 114 = .ok (.iadd, 1) := by decide +kernel
theorem dX8_isAhead_115 : decode cX8_isAhead 115 = .ok (.iaload, 1) := by decide +kernel
theorem dX8_isAhead_116 : decode cX8_isAhead 116 = .ok (.if_icmp .ge 7, 3) := by decide +kernel
theorem dX8_isAhead_119 : decode cX8_isAhead 119 = .ok (.iconst 1, 1) := by decide +kernel
theorem dX8_isAhead_120 : decode cX8_isAhead 120 = .ok (.goto 4, 3) := by decide +kernel
theorem dX8_isAhead_123 : decode cX8_isAhead 123 = .ok (.iconst 0, 1) := by decide +kernel
theorem dX8_isAhead_124 : decode cX8_isAhead 124 = .ok (.ireturn, 1) := by decide +kernel
theorem dX8_sort_0 : decode cX8_sort 0 = .ok (.aload_n 0, 1) := by decide +kernel
theorem dX8_sort_1 : decode cX8_sort 1 = .ok (.iconst 0, 1) := by decide +kernel
theorem dX8_sort_2 : decode cX8_sort 2 = .ok (.putfield 50, 3) := by decide +kernel
theorem dX8_sort_5 : decode cX8_sort 5 = .ok (.iconst 0, 1) := by decide +kernel
theorem dX8_sort_6 : decode cX8_sort 6 = .ok (.istore_n 1, 1) := by decide +kernel
theorem dX8_sort_7 : decode cX8_sort 7 = .ok (.iload_n 1, 1) := by decide +kernel
theorem dX8_sort_8 : decode cX8_sort 8 = .ok (.aload_n 0, 1) := by decide +kernel
theorem dX8_sort_9 : decode cX8_sort 9 = .ok (.getfield 59, 3) := by decide +kernel
theorem dX8_sort_12 : decode cX8_sort 12 = .ok (.if_icmp .ge 68, 3) := by decide +kernel
theorem dX8_sort_15 : decode cX8_sort 15 = .ok (.iload_n 1, 1) := by decide +kernel
theorem dX8_sort_16 : decode cX8_sort 16 = .ok (.istore_n 2, 1) := by decide +kernel
theorem dX8_sort_17 : decode cX8_sort 17 = .ok (.iload_n 1, 1) := by decide +kernel
theorem dX8_sort_18 : decode cX8_sort 18 = .ok (.iconst 1, 1) := by decide +kernel
theorem dX8_sort_19 : decode cX8_sort 19 = .ok (.iadd, 1) := by decide +kernel
theorem dX8_sort_20 : decode cX8_sort 20 = .ok (.istore_n 3, 1) := by decide +kernel
theorem dX8_sort_21 : decode cX8_sort 21 = .ok (.iload_n 3, 1) := by decide +kernel
theorem dX8_sort_22 : decode cX8_sort 22 = .ok (.aload_n 0, 1) := by decide +kernel
theorem dX8_sort_23 : decode cX8_sort 23 = .ok (.getfield 59, 3) := by decide +kernel
theorem dX8_sort_26 : decode cX8_sort 26 = .ok (.if_icmp .ge 20, 3) := by decide +kernel
theorem dX8_sort_29 : decode cX8_sort 29 = .ok (.aload_n 0, 1) := by decide +kernel
theorem dX8_sort_30 : decode cX8_sort 30 = .ok (.iload_n 3, 1) := by decide +kernel
theorem dX8_sort_31 : decode cX8_sort 31 = .ok (.iload_n 2, 1) := by decide +kernel
theorem dX8_sort_32 : decode cX8_sort 32 = .ok (.invokevirtual 93, 3) := by decide +kernel
theorem dX8_sort_35 : decode cX8_sort 35 = .ok (.ifCond .eq 5, 3) := by decide +kernel
theorem dX8_sort_38 : decode cX8_sort 38 = .ok (.iload_n 3, 1) := by decide +kernel
theorem dX8_sort_39 : decode cX8_sort 39 = .ok (.istore_n 2, 1) := by decide +kernel
theorem dX8_sort_40 : decode cX8_sort 40 = .ok (.iinc 3 1, 3) := by decide +kernel
theorem dX8_sort_43 : decode cX8_sort 43 = .ok (.goto (-22), 3) := by decide +kernel
theorem dX8_sort_46 : decode cX8_sort 46 = .ok (.iload_n 2, 1) := by decide +kernel
theorem dX8_sort_47 : decode cX8_sort 47 = .ok (.iload_n 1, 1) := by decide +kernel
theorem dX8_sort_48 : decode cX8_sort 48 = .ok (.if_icmp .ne 6, 3) := by decide +kernel
theorem dX8_sort_51 : decode cX8_sort 51 = .ok (.goto 23, 3) := by decide +kernel
theorem dX8_sort_54 : decode cX8_sort 54 = .ok (.aload_n 0, 1) := by decide +kernel
theorem dX8_sort_55 : decode cX8_sort 55 = .ok (.iload_n 1, 1) := by decide +kernel
theorem dX8_sort_56 : decode cX8_sort 56 = .ok (.bipush 20, 2) := by decide +kernel
theorem dX8_sort_58 : decode cX8_sort 58 = .ok (.invokevirtual 62, 3) := by decide +kernel
theorem dX8_sort_61 : decode cX8_sort 61 = .ok (.aload_n 0, 1) := by decide +kernel
theorem dX8_sort_62 : decode cX8_sort 62 = .ok (.iload_n 2, 1) := by decide +kernel
theorem dX8_sort_63 : decode cX8_sort 63 = .ok (.iload_n 1, 1) := by decide +kernel
theorem dX8_sort_64 : decode cX8_sort 64 = .ok (.invokevirtual 62, 3) := by decide +kernel
theorem dX8_sort_67 : decode cX8_sort 67 = .ok (.aload_n 0, 1) := by decide +kernel
theorem dX8_sort_68 : decode cX8_sort 68 = .ok (.bipush 20, 2) := by decide +kernel
theorem dX8_sort_70 : decode cX8_sort 70 = .ok (.iload_n 2, 1) := by decide +kernel
theorem dX8_sort_71 : decode cX8_sort 71 = .ok (.invokevirtual 62, 3) := by decide +kernel
theorem dX8_sort_74 : decode cX8_sort 74 = .ok (.iinc 1 1, 3) := by decide +kernel
theorem dX8_sort_77 : decode cX8_sort 77 = .ok (.goto (-70), 3) := by decide +kernel
theorem dX8_sort_80 : decode cX8_sort 80 = .ok (.return_, 1) := by decide +kernel
theorem dX8_clear_0 : decode cX8_clear 0 = .ok (.aload_n 0, 1) := by decide +kernel
theorem dX8_clear_1 : decode cX8_clear 1 = .ok (.iconst 0, 1) := by decide +kernel
theorem dX8_clear_2 : decode cX8_clear 2 = .ok (.putfield 50, 3) := by decide +kernel
theorem dX8_clear_5 : decode cX8_clear 5 = .ok (.aload_n 0, 1) := by decide +kernel
theorem dX8_clear_6 : decode cX8_clear 6 = .ok (.iconst 0, 1) := by decide +kernel
theorem dX8_clear_7 : decode cX8_clear 7 = .ok (.putfield 59, 3) := by decide +kernel
theorem dX8_clear_10 : decode cX8_clear 10 = .ok (.return_, 1) := by decide +kernel
theorem dX8_alike_0 : decode cX8_alike 0 = .ok (.iconst 1, 1) := by decide +kernel
theorem dX8_alike_1 : decode cX8_alike 1 = .ok (.istore_n 3, 1) := by decide +kernel
theorem dX8_alike_2 : decode cX8_alike 2 = .ok (.iload_n 3, 1) := by decide +kernel
theorem dX8_alike_3 : decode cX8_alike 3 = .ok (.sipush 128, 3) := by decide +kernel
theorem dX8_alike_6 : decode cX8_alike 6 = .ok (.if_icmp .ge 50, 3) := by decide +kernel
theorem dX8_alike_9 : decode cX8_alike 9 = .ok (.iload_n 2, 1) := by decide +kernel
theorem dX8_alike_10 : decode cX8_alike 10 = .ok (.iload_n 3, 1) := by decide +kernel
theorem dX8_alike_11 : decode cX8_alike 11 = .ok (.iadd, 1) := by decide +kernel
theorem dX8_alike_12 : decode cX8_alike 12 = .ok (.aload_n 0, 1) := by decide +kernel
theorem dX8_alike_13 : decode cX8_alike 13 = .ok (.getfield 28, 3) := by decide +kernel
theorem dX8_alike_16 : decode cX8_alike 16 = .ok (.iload_n 1, 1) := by decide +kernel
theorem dX8_alike_17 : decode cX8_alike 17 = .ok (.iaload, 1) := by decide +kernel
theorem dX8_alike_18 : decode cX8_alike 18 = .ok (.if_icmp .ge 38, 3) := by decide +kernel
theorem dX8_alike_21 : decode cX8_alike 21 = .ok (.aload_n 0, 1) := by decide +kernel
theorem dX8_alike_22 : decode cX8_alike 22 = .ok (.getfield 25, 3) := by decide +kernel
theorem dX8_alike_25 : decode cX8_alike 25 = .ok (.sipush 1500, 3) := by decide +kernel
theorem dX8_alike_28 : decode cX8_alike 28 = .ok (.iload_n 1, 1) := by decide +kernel
theorem dX8_alike_29 : decode cX8_alike 29 = .ok (.imul, 1) := by decide +kernel
theorem dX8_alike_30 : decode cX8_alike 30 = .ok (.iload_n 2, 1) := by decide +kernel
theorem dX8_alike_31 : decode cX8_alike 31 = .ok (.iadd, 1) := by decide +kernel
theorem dX8_alike_32 : decode cX8_alike 32 = .ok (.iload_n 3, 1) := by decide +kernel
theorem dX8_alike_33 : decode cX8_alike 33 = .ok (.iadd, 1) := by decide +kernel
theorem dX8_alike_34 : decode cX8_alike 34 = .ok (.iaload, 1) := by decide +kernel
theorem dX8_alike_35 : decode cX8_alike 35 = .ok (.aload_n 0, 1) := by decide +kernel
theorem dX8_alike_36 : decode cX8_alike 36 = .ok (.getfield 25, 3) := by decide +kernel
theorem dX8_alike_39 : decode cX8_alike 39 = .ok (.sipush 1500, 3) := by decide +kernel
theorem dX8_alike_42 : decode cX8_alike 42 = .ok (.iload_n 1, 1) := by decide +kernel
theorem dX8_alike_43 : decode cX8_alike 43 = .ok (.imul, 1) := by decide +kernel
theorem dX8_alike_44 : decode cX8_alike 44 = .ok (.iload_n 2, 1) := by decide +kernel
theorem dX8_alike_45 : decode cX8_alike 45 = .ok (.iadd, 1) := by decide +kernel
theorem dX8_alike_46 : decode cX8_alike 46 = .ok (.iaload, 1) := by decide +kernel
theorem dX8_alike_47 : decode cX8_alike 47 = .ok (.if_icmp .ne 9, 3) := by decide +kernel
theorem dX8_alike_50 : decode cX8_alike 50 = .ok (.iinc 3 1, 3) := by decide +kernel
theorem dX8_alike_53 : decode cX8_alike 53 = .ok (.goto (-51), 3) := by decide +kernel
theorem dX8_alike_56 : decode cX8_alike 56 = .ok (.iload_n 3, 1) := by decide +kernel
theorem dX8_alike_57 : decode cX8_alike 57 = .ok (.ireturn, 1) := by decide +kernel
theorem dX8_put_0 : decode cX8_put 0 = .ok (.aload_n 0, 1) := by decide +kernel
theorem dX8_put_1 : decode cX8_put 1 = .ok (.getfield 38, 3) := by decide +kernel
theorem dX8_put_4 : decode cX8_put 4 = .ok (.aload_n 0, 1) := by decide +kernel
theorem dX8_put_5 : decode cX8_put 5 = .ok (.getfield 96, 3) := by decide +kernel
theorem dX8_put_8 : decode cX8_put 8 = .ok (.iload_n 1, 1) := by decide +kernel
theorem dX8_put_9 : decode cX8_put 9 = .ok (.iastore, 1) := by decide +kernel
theorem dX8_put_10 : decode cX8_put 10 = .ok (.aload_n 0, 1) := by decide +kernel
theorem dX8_put_11 : decode cX8_put 11 = .ok (.dup, 1) := by decide +kernel
theorem dX8_put_12 : decode cX8_put 12 = .ok (.getfield 96, 3) := by decide +kernel
theorem dX8_put_15 : decode cX8_put 15 = .ok (.iconst 1, 1) := by decide +kernel
theorem dX8_put_16 : decode cX8_put 16 = .ok (.iadd, 1) := by decide +kernel
theorem dX8_put_17 : decode cX8_put 17 = .ok (.putfield 96, 3) := by decide +kernel
theorem dX8_put_20 : decode cX8_put 20 = .ok (.return_, 1) := by decide +kernel
theorem dX8_fold_0 : decode cX8_fold 0 = .ok (.aload_n 0, 1) := by decide +kernel
theorem dX8_fold_1 : decode cX8_fold 1 = .ok (.iconst 0, 1) := by decide +kernel
theorem dX8_fold_2 : decode cX8_fold 2 = .ok (.putfield 96, 3) := by decide +kernel
theorem dX8_fold_5 : decode cX8_fold 5 = .ok (.iconst 0, 1) := by decide +kernel
theorem dX8_fold_6 : decode cX8_fold 6 = .ok (.istore_n 2, 1) := by decide +kernel
theorem dX8_fold_7 : decode cX8_fold 7 = .ok (.iload_n 2, 1) := by decide +kernel
theorem dX8_fold_8 : decode cX8_fold 8 = .ok (.aload_n 0, 1) := by decide +kernel
theorem dX8_fold_9 : decode cX8_fold 9 = .ok (.getfield 28, 3) := by decide +kernel
theorem dX8_fold_12 : decode cX8_fold 12 = .ok (.iload_n 1, 1) := by decide +kernel
theorem dX8_fold_13 : decode cX8_fold 13 = .ok (.iaload, 1) := by decide +kernel
theorem dX8_fold_14 : decode cX8_fold 14 = .ok (.if_icmp .ge 162, 3) := by decide +kernel
theorem dX8_fold_17 : decode cX8_fold 17 = .ok (.aload_n 0, 1) := by decide +kernel
theorem dX8_fold_18 : decode cX8_fold 18 = .ok (.iload_n 1, 1) := by decide +kernel
theorem dX8_fold_19 : decode cX8_fold 19 = .ok (.iload_n 2, 1) := by decide +kernel
theorem dX8_fold_20 : decode cX8_fold 20 = .ok (.invokevirtual 99, 3) := by decide +kernel
theorem dX8_fold_23 : decode cX8_fold 23 = .ok (.istore_n 3, 1) := by decide +kernel
theorem dX8_fold_24 : decode cX8_fold 24 = .ok (.iload_n 3, 1) := by decide +kernel
theorem dX8_fold_25 : decode cX8_fold 25 = .ok (.iconst 2, 1) := by decide +kernel
theorem dX8_fold_26 : decode cX8_fold 26 = .ok (.if_icmp .le 35, 3) := by decide +kernel
theorem dX8_fold_29 : decode cX8_fold 29 = .ok (.aload_n 0, 1) := by decide +kernel
theorem dX8_fold_30 : decode cX8_fold 30 = .ok (.sipush 257, 3) := by decide +kernel
theorem dX8_fold_33 : decode cX8_fold 33 = .ok (.iload_n 3, 1) := by decide +kernel
theorem dX8_fold_34 : decode cX8_fold 34 = .ok (.isub, 1) := by decide +kernel
theorem dX8_fold_35 : decode cX8_fold 35 = .ok (.invokevirtual 103, 3) := by decide +kernel
theorem dX8_fold_38 : decode cX8_fold 38 = .ok (.aload_n 0, 1) := by decide +kernel
theorem dX8_fold_39 : decode cX8_fold 39 = .ok (.aload_n 0, 1) := by decide +kernel
theorem dX8_fold_40 : decode cX8_fold 40 = .ok (.getfield 25, 3) := by decide +kernel
theorem dX8_fold_43 : decode cX8_fold 43 = .ok (.sipush 1500, 3) := by decide +kernel
theorem dX8_fold_46 : decode cX8_fold 46 = .ok (.iload_n 1, 1) := by decide +kernel
theorem dX8_fold_47 : decode cX8_fold 47 = .ok (.imul, 1) := by decide +kernel
theorem dX8_fold_48 : decode cX8_fold 48 = .ok (.iload_n 2, 1) := by decide +kernel
theorem dX8_fold_49 : decode cX8_fold 49 = .ok (.iadd, 1) := by decide +kernel
theorem dX8_fold_50 : decode cX8_fold 50 = .ok (.iaload, 1) := by decide +kernel
theorem dX8_fold_51 : decode cX8_fold 51 = .ok (.invokevirtual 103, 3) := by decide +kernel
theorem dX8_fold_54 : decode cX8_fold 54 = .ok (.iload_n 2, 1) := by decide +kernel
theorem dX8_fold_55 : decode cX8_fold 55 = .ok (.iload_n 3, 1) := by decide +kernel
theorem dX8_fold_56 : decode cX8_fold 56 = .ok (.iadd, 1) := by decide +kernel
theorem dX8_fold_57 : decode cX8_fold 57 = .ok (.istore_n 2, 1) := by decide +kernel
theorem dX8_fold_58 : decode cX8_fold 58 = .ok (.goto (-51), 3) := by decide +kernel
theorem dX8_fold_61 : decode cX8_fold 61 = .ok (.iload_n 2, 1) := by decide +kernel
theorem dX8_fold_62 : decode cX8_fold 62 = .ok (.iconst 1, 1) := by decide +kernel
theorem dX8_fold_63 : decode cX8_fold 63 = .ok (.iadd, 1) := by decide +kernel
theorem dX8_fold_64 : decode cX8_fold 64 = .ok (.istore 4, 2) := by decide +kernel
theorem dX8_fold_66 : decode cX8_fold 66 = .ok (.iload 4, 2) := by decide +kernel
theorem dX8_fold_68 : decode cX8_fold 68 = .ok (.aload_n 0, 1) := by decide +kernel
theorem dX8_fold_69 : decode cX8_fold 69 = .ok (.getfield 28, 3) := by decide +kernel
theorem dX8_fold_72 : decode cX8_fold 72 = .ok (.iload_n 1, 1) := by decide +kernel
theorem dX8_fold_73 : decode cX8_fold 73 = .ok (.iaload, 1) := by decide +kernel
theorem dX8_fold_74 : decode cX8_fold 74 = .ok (.if_icmp .ge 20, 3) := by decide +kernel
theorem dX8_fold_77 : decode cX8_fold 77 = .ok (.aload_n 0, 1) := by decide +kernel
theorem dX8_fold_78 : decode cX8_fold 78 = .ok (.iload_n 1, 1) := by decide +kernel
theorem dX8_fold_79 : decode cX8_fold 79 = .ok (.iload 4, 2) := by decide +kernel
theorem dX8_fold_81 : decode cX8_fold 81 = .ok (.invokevirtual 99, 3) := by decide +kernel
theorem dX8_fold_84 : decode cX8_fold 84 = .ok (.iconst 3, 1) := by decide +kernel
theorem dX8_fold_85 : decode cX8_fold 85 = .ok (.if_icmp .ge 9, 3) := by decide +kernel
theorem dX8_fold_88 : decode cX8_fold 88 = .ok (.iinc 4 1, 3) := by decide +kernel
theorem dX8_fold_91 : decode cX8_fold 91 = .ok (.goto (-25), 3) := by decide +kernel
theorem dX8_fold_94 : decode cX8_fold 94 = .ok (.iload_n 2, 1) := by decide +kernel
theorem dX8_fold_95 : decode cX8_fold 95 = .ok (.iload 4, 2) := by decide +kernel
theorem dX8_fold_97 : decode cX8_fold 97 = .ok (.if_icmp .ge 76, 3) := by decide +kernel
theorem dX8_fold_100 : decode cX8_fold 100 = .ok (.iload 4, 2) := by decide +kernel
theorem dX8_fold_102 : decode cX8_fold 102 = .ok (.iload_n 2, 1) := by decide +kernel
theorem dX8_fold_103 : decode cX8_fold 103 = .ok (.isub, 1) := by decide +kernel
theorem dX8_fold_104 : decode cX8_fold 104 = .ok (.sipush 128, 3) := by decide +kernel
theorem dX8_fold_107 : decode cX8_fold 107 = .ok (.if_icmp .ge 10, 3) := by decide +kernel
theorem dX8_fold_110 : decode cX8_fold 110 = .ok (.iload 4, 2) := by decide +kernel
theorem dX8_fold_112 : decode cX8_fold 112 = .ok (.iload_n 2, 1) := by decide +kernel
theorem dX8_fold_113 : decode cX8_fold 113 = .ok (.isub, 1) := by decide +kernel
theorem dX8_fold_114 : decode cX8_fold 114 = .ok (.goto 6, 3) := by decide +kernel
theorem dX8_fold_117 : decode cX8_fold 117 = .ok (.sipush 128, 3) := by decide +kernel
theorem dX8_fold_120 : decode cX8_fold 120 = .ok (.istore 5, 2) := by decide +kernel
theorem dX8_fold_122 : decode cX8_fold 122 = .ok (.aload_n 0, 1) := by decide +kernel
theorem dX8_fold_123 : decode cX8_fold 123 = .ok (.iload 5, 2) := by decide +kernel
theorem dX8_fold_125 : decode cX8_fold 125 = .ok (.iconst 1, 1) := by decide +kernel
theorem dX8_fold_126 : decode cX8_fold 126 = .ok (.isub, 1) := by decide +kernel
theorem dX8_fold_127 : decode cX8_fold 127 = .ok (.invokevirtual 103, 3) := by decide +kernel
theorem dX8_fold_130 : decode cX8_fold 130 = .ok (.iconst 0, 1) := by decide +kernel
theorem dX8_fold_131 : decode cX8_fold 131 = .ok (.istore 6, 2) := by decide +kernel
theorem dX8_fold_133 : decode cX8_fold 133 = .ok (.iload 6, 2) := by decide +kernel
theorem dX8_fold_135 : decode cX8_fold 135 = .ok (.iload 5, 2) := by decide +kernel
theorem dX8_fold_137 : decode cX8_fold 137 = .ok (.if_icmp .ge 28, 3) := by decide +kernel
theorem dX8_fold_140 : decode cX8_fold 140 = .ok (.aload_n 0, 1) := by decide +kernel
theorem dX8_fold_141 : decode cX8_fold 141 = .ok (.aload_n 0, 1) := by decide +kernel
theorem dX8_fold_142 : decode cX8_fold 142 = .ok (.getfield 25, 3) := by decide +kernel
theorem dX8_fold_145 : decode cX8_fold 145 = .ok (.sipush 1500, 3) := by decide +kernel
theorem dX8_fold_148 : decode cX8_fold 148 = .ok (.iload_n 1, 1) := by decide +kernel
theorem dX8_fold_149 : decode cX8_fold 149 = .ok (.imul, 1) := by decide +kernel
theorem dX8_fold_150 : decode cX8_fold 150 = .ok (.iload_n 2, 1) := by decide +kernel
theorem dX8_fold_151 : decode cX8_fold 151 = .ok (.iadd, 1) := by decide +kernel
theorem dX8_fold_152 : decode cX8_fold 152 = .ok (.iload 6, 2) := by decide +kernel
theorem dX8_fold_154 : decode cX8_fold 154 = .ok (.iadd, 1) := by decide +kernel
theorem dX8_fold_155 : decode cX8_fold 155 = .ok (.iaload, 1) := by decide +kernel
theorem dX8_fold_156 : decode cX8_fold 156 = .ok (.invokevirtual 103, 3) := by decide +kernel
theorem dX8_fold_159 : decode cX8_fold 159 = .ok (.iinc 6 1, 3) := by decide +kernel
theorem dX8_fold_162 : decode cX8_fold 162 = .ok (.goto (-29), 3) := by decide +kernel
theorem dX8_fold_165 : decode cX8_fold 165 = .ok (.iload_n 2, 1) := by decide +kernel
theorem dX8_fold_166 : decode cX8_fold 166 = .ok (.iload 5, 2) := by decide +kernel
theorem dX8_fold_168 : decode cX8_fold 168 = .ok (.iadd, 1) := by decide +kernel
theorem dX8_fold_169 : decode cX8_fold 169 = .ok (.istore_n 2, 1) := by decide +kernel
theorem dX8_fold_170 : decode cX8_fold 170 = .ok (.goto (-76), 3) := by decide +kernel
theorem dX8_fold_173 : decode cX8_fold 173 = .ok (.goto (-166), 3) := by decide +kernel
theorem dX8_fold_176 : decode cX8_fold 176 = .ok (.return_, 1) := by decide +kernel
theorem dX8_method_0 : decode cX8_method 0 = .ok (.aload_n 0, 1) := by decide +kernel
theorem dX8_method_1 : decode cX8_method 1 = .ok (.iload_n 1, 1) := by decide +kernel
theorem dX8_method_2 : decode cX8_method 2 = .ok (.invokevirtual 106, 3) := by decide +kernel
theorem dX8_method_5 : decode cX8_method 5 = .ok (.aload_n 0, 1) := by decide +kernel
theorem dX8_method_6 : decode cX8_method 6 = .ok (.getfield 96, 3) := by decide +kernel
theorem dX8_method_9 : decode cX8_method 9 = .ok (.aload_n 0, 1) := by decide +kernel
theorem dX8_method_10 : decode cX8_method 10 = .ok (.getfield 28, 3) := by decide +kernel
theorem dX8_method_13 : decode cX8_method 13 = .ok (.iload_n 1, 1) := by decide +kernel
theorem dX8_method_14 : decode cX8_method 14 = .ok (.iaload, 1) := by decide +kernel
theorem dX8_method_15 : decode cX8_method 15 = .ok (.if_icmp .ge 8, 3) := by decide +kernel
theorem dX8_method_18 : decode cX8_method 18 = .ok (.bipush 99, 2) := by decide +kernel
theorem dX8_method_20 : decode cX8_method 20 = .ok (.goto 4, 3) := by decide +kernel
theorem dX8_method_23 : decode cX8_method 23 = .ok (.iconst 0, 1) := by decide +kernel
theorem dX8_method_24 : decode cX8_method 24 = .ok (.ireturn, 1) := by decide +kernel
theorem dX8_packedSize_0 : decode cX8_packedSize 0 = .ok (.aload_n 0, 1) := by decide +kernel
theorem dX8_packedSize_1 : decode cX8_packedSize 1 = .ok (.iload_n 1, 1) := by decide +kernel
theorem dX8_packedSize_2 : decode cX8_packedSize 2 = .ok (.invokevirtual 109, 3) := by decide +kernel
theorem dX8_packedSize_5 : decode cX8_packedSize 5 = .ok (.bipush 99, 2) := by decide +kernel
theorem dX8_packedSize_7 : decode cX8_packedSize 7 = .ok (.if_icmp .ne 10, 3) := by decide +kernel
theorem dX8_packedSize_10 : decode cX8_packedSize 10 = .ok (.aload_n 0, 1) := by decide +kernel
theorem dX8_packedSize_11 : decode cX8_packedSize 11 = .ok (.getfield 96, 3) := by decide +kernel
theorem dX8_packedSize_14 : decode cX8_packedSize 14 = .ok (.goto 9, 3) := by decide +kernel
theorem dX8_packedSize_17 : decode cX8_packedSize 17 = .ok (.aload_n 0, 1) := by decide +kernel
theorem dX8_packedSize_18 : decode cX8_packedSize 18 = .ok (.getfield 28, 3) := by decide +kernel
theorem dX8_packedSize_21 : decode cX8_packedSize 21 = .ok (.iload_n 1, 1) := by decide +kernel
theorem dX8_packedSize_22 : decode cX8_packedSize 22 = .ok (.iaload, 1) := by decide +kernel
theorem dX8_packedSize_23 : decode cX8_packedSize 23 = .ok (.ireturn, 1) := by decide +kernel
theorem dX8_crc_0 : decode cX8_crc 0 = .ok (.iconst (-1), 1) := by decide +kernel
theorem dX8_crc_1 : decode cX8_crc 1 = .ok (.istore_n 2, 1) := by decide +kernel
theorem dX8_crc_2 : decode cX8_crc 2 = .ok (.iconst 0, 1) := by decide +kernel
theorem dX8_crc_3 : decode cX8_crc 3 = .ok (.istore_n 3, 1) := by decide +kernel
theorem dX8_crc_4 : decode cX8_crc 4 = .ok (.iload_n 3, 1) := by decide +kernel
theorem dX8_crc_5 : decode cX8_crc 5 = .ok (.aload_n 0, 1) := by decide +kernel
theorem dX8_crc_6 : decode cX8_crc 6 = .ok (.getfield 28, 3) := by decide +kernel
theorem dX8_crc_9 : decode cX8_crc 9 = .ok (.iload_n 1, 1) := by decide +kernel
theorem dX8_crc_10 : decode cX8_crc 10 = .ok (.iaload, 1) := by decide +kernel
theorem dX8_crc_11 : decode cX8_crc 11 = .ok (.if_icmp .ge 60, 3) := by decide +kernel
theorem dX8_crc_14 : decode cX8_crc 14 = .ok (.iload_n 2, 1) := by decide +kernel
theorem dX8_crc_15 : decode cX8_crc 15 = .ok (.aload_n 0, 1) := by decide +kernel
theorem dX8_crc_16 : decode cX8_crc 16 = .ok (.getfield 25, 3) := by decide +kernel
theorem dX8_crc_19 : decode cX8_crc 19 = .ok (.sipush 1500, 3) := by decide +kernel
theorem dX8_crc_22 : decode cX8_crc 22 = .ok (.iload_n 1, 1) := by decide +kernel
theorem dX8_crc_23 : decode cX8_crc 23 = .ok (.imul, 1) := by decide +kernel
theorem dX8_crc_24 : decode cX8_crc 24 = .ok (.iload_n 3, 1) := by decide +kernel
theorem dX8_crc_25 : decode cX8_crc 25 = .ok (.iadd, 1) := by decide +kernel
theorem dX8_crc_26 : decode cX8_crc 26 = .ok (.iaload, 1) := by decide +kernel
theorem dX8_crc_27 : decode cX8_crc 27 = .ok (.ixor, 1) := by decide +kernel
theorem dX8_crc_28 : decode cX8_crc 28 = .ok (.istore_n 2, 1) := by decide +kernel
theorem dX8_crc_29 : decode cX8_crc 29 = .ok (.iconst 0, 1) := by decide +kernel
theorem dX8_crc_30 : decode cX8_crc 30 = .ok (.istore 4, 2) := by decide +kernel
theorem dX8_crc_32 : decode cX8_crc 32 = .ok (.iload 4, 2) := by decide +kernel
theorem dX8_crc_34 : decode cX8_crc 34 = .ok (.bipush 8, 2) := by decide +kernel
theorem dX8_crc_36 : decode cX8_crc 36 = .ok (.if_icmp .ge 29, 3) := by decide +kernel
theorem dX8_crc_39 : decode cX8_crc 39 = .ok (.iload_n 2, 1) := by decide +kernel
theorem dX8_crc_40 : decode cX8_crc 40 = .ok (.iconst 1, 1) := by decide +kernel
theorem dX8_crc_41 : decode cX8_crc 41 = .ok (.iand, 1) := by decide +kernel
theorem dX8_crc_42 : decode cX8_crc 42 = .ok (.iconst 1, 1) := by decide +kernel
theorem dX8_crc_43 : decode cX8_crc 43 = .ok (.if_icmp .ne 12, 3) := by decide +kernel
theorem dX8_crc_46 : decode cX8_crc 46 = .ok (.iload_n 2, 1) := by decide +kernel
theorem dX8_crc_47 : decode cX8_crc 47 = .ok (.iconst 1, 1) := by decide +kernel
theorem dX8_crc_48 : decode cX8_crc 48 = .ok (.iushr, 1) := by decide +kernel
theorem dX8_crc_49 : decode cX8_crc 49 = .ok (.ldc 113, 2) := by decide +kernel
theorem dX8_crc_51 : decode cX8_crc 51 = .ok (.ixor, 1) := by decide +kernel
theorem dX8_crc_52 : decode cX8_crc 52 = .ok (.goto 6, 3) := by decide +kernel
theorem dX8_crc_55 : decode cX8_crc 55 = .ok (.iload_n 2, 1) := by decide +kernel
theorem dX8_crc_56 : decode cX8_crc 56 = .ok (.iconst 1, 1) := by decide +kernel
theorem dX8_crc_57 : decode cX8_crc 57 = .ok (.iushr, 1) := by decide +kernel
theorem dX8_crc_58 : decode cX8_crc 58 = .ok (.istore_n 2, 1) := by decide +kernel
theorem dX8_crc_59 : decode cX8_crc 59 = .ok (.iinc 4 1, 3) := by decide +kernel
theorem dX8_crc_62 : decode cX8_crc 62 = .ok (.goto (-30), 3) := by decide +kernel
theorem dX8_crc_65 : decode cX8_crc 65 = .ok (.iinc 3 1, 3) := by decide +kernel
theorem dX8_crc_68 : decode cX8_crc 68 = .ok (.goto (-64), 3) := by decide +kernel
theorem dX8_crc_71 : decode cX8_crc 71 = .ok (.iload_n 2, 1) := by decide +kernel
theorem dX8_crc_72 : decode cX8_crc 72 = .ok (.iconst (-1), 1) := by decide +kernel
theorem dX8_crc_73 : decode cX8_crc 73 = .ok (.ixor, 1) := by decide +kernel
theorem dX8_crc_74 : decode cX8_crc 74 = .ok (.ireturn, 1) := by decide +kernel
theorem dX8_write_0 : decode cX8_write 0 = .ok (.iconst 0, 1) := by decide +kernel
theorem dX8_write_1 : decode cX8_write 1 = .ok (.istore_n 3, 1) := by decide +kernel
theorem dX8_write_2 : decode cX8_write 2 = .ok (.iload_n 3, 1) := by decide +kernel
theorem dX8_write_3 : decode cX8_write 3 = .ok (.iload_n 2, 1) := by decide +kernel
theorem dX8_write_4 : decode cX8_write 4 = .ok (.if_icmp .ge 38, 3) := by decide +kernel
theorem dX8_write_7 : decode cX8_write 7 = .ok (.aload_n 0, 1) := by decide +kernel
theorem dX8_write_8 : decode cX8_write 8 = .ok (.getfield 16, 3) := by decide +kernel
theorem dX8_write_11 : decode cX8_write 11 = .ok (.aload_n 0, 1) := by decide +kernel
theorem dX8_write_12 : decode cX8_write 12 = .ok (.getfield 56, 3) := by decide +kernel
theorem dX8_write_15 : decode cX8_write 15 = .ok (.iload_n 1, 1) := by decide +kernel
theorem dX8_write_16 : decode cX8_write 16 = .ok (.bipush 8, 2) := by decide +kernel
theorem dX8_write_18 : decode cX8_write 18 = .ok (.iload_n 3, 1) := by decide +kernel
theorem dX8_write_19 : decode cX8_write 19 = .ok (.imul, 1) := by decide +kernel
theorem dX8_write_20 : decode cX8_write 20 = .ok (.ishr, 1) := by decide +kernel
theorem dX8_write_21 : decode cX8_write 21 = .ok (.sipush 255, 3) := by decide +kernel
theorem dX8_write_24 : decode cX8_write 24 = .ok (.iand, 1) := by decide +kernel
theorem dX8_write_25 : decode cX8_write 25 = .ok (.iastore, 1) := by decide +kernel
theorem dX8_write_26 : decode cX8_write 26 = .ok (.aload_n 0, 1) := by decide +kernel
theorem dX8_write_27 : decode cX8_write 27 = .ok (.dup, 1) := by decide +kernel
theorem dX8_write_28 : decode cX8_write 28 = .ok (.getfield 56, 3) := by decide +kernel
theorem dX8_write_31 : decode cX8_write 31 = .ok (.iconst 1, 1) := by decide +kernel
theorem dX8_write_32 : decode cX8_write 32 = .ok (.iadd, 1) := by decide +kernel
theorem dX8_write_33 : decode cX8_write 33 = .ok (.putfield 56, 3) := by decide +kernel
theorem dX8_write_36 : decode cX8_write 36 = .ok (.iinc 3 1, 3) := by decide +kernel
theorem dX8_write_39 : decode cX8_write 39 = .ok (.goto (-37), 3) := by decide +kernel
theorem dX8_write_42 : decode cX8_write 42 = .ok (.return_, 1) := by decide +kernel
theorem dX8_writeFacts_0 : decode cX8_writeFacts 0 = .ok (.aload_n 0, 1) := by decide +kernel
theorem dX8_writeFacts_1 : decode cX8_writeFacts 1 = .ok (.iconst 0, 1) := by decide +kernel
theorem dX8_writeFacts_2 : decode cX8_writeFacts 2 = .ok (.iconst 2, 1) := by decide +kernel
theorem dX8_writeFacts_3 : decode cX8_writeFacts 3 = .ok (.invokevirtual 114, 3) := by decide +kernel
theorem dX8_writeFacts_6 : decode cX8_writeFacts 6 = .ok (.aload_n 0, 1) := by decide +kernel
theorem dX8_writeFacts_7 : decode cX8_writeFacts 7 = .ok (.aload_n 0, 1) := by decide +kernel
theorem dX8_writeFacts_8 : decode cX8_writeFacts 8 = .ok (.iload_n 1, 1) := by decide +kernel
theorem dX8_writeFacts_9 : decode cX8_writeFacts 9 = .ok (.invokevirtual 109, 3) := by decide +kernel
theorem dX8_writeFacts_12 : decode cX8_writeFacts 12 = .ok (.iconst 2, 1) := by decide +kernel
theorem dX8_writeFacts_13 : decode cX8_writeFacts 13 = .ok (.invokevirtual 114, 3) := by decide +kernel
theorem dX8_writeFacts_16 : decode cX8_writeFacts 16 = .ok (.aload_n 0, 1) := by decide +kernel
theorem dX8_writeFacts_17 : decode cX8_writeFacts 17 = .ok (.iconst 0, 1) := by decide +kernel
theorem dX8_writeFacts_18 : decode cX8_writeFacts 18 = .ok (.iconst 2, 1) := by decide +kernel
theorem dX8_writeFacts_19 : decode cX8_writeFacts 19 = .ok (.invokevirtual 114, 3) := by decide +kernel
theorem dX8_writeFacts_22 : decode cX8_writeFacts 22 = .ok (.aload_n 0, 1) := by decide +kernel
theorem dX8_writeFacts_23 : decode cX8_writeFacts 23 = .ok (.bipush 33, 2) := by decide +kernel
theorem dX8_writeFacts_25 : decode cX8_writeFacts 25 = .ok (.iconst 2, 1) := by decide +kernel
theorem dX8_writeFacts_26 : decode cX8_writeFacts 26 = .ok (.invokevirtual 114, 3) := by decide +kernel
theorem dX8_writeFacts_29 : decode cX8_writeFacts 29 = .ok (.aload_n 0, 1) := by decide +kernel
theorem dX8_writeFacts_30 : decode cX8_writeFacts 30 = .ok (.aload_n 0, 1) := by decide +kernel
theorem dX8_writeFacts_31 : decode cX8_writeFacts 31 = .ok (.iload_n 1, 1) := by decide +kernel
theorem dX8_writeFacts_32 : decode cX8_writeFacts 32 = .ok (.invokevirtual 117, 3) := by decide +kernel
theorem dX8_writeFacts_35 : decode cX8_writeFacts 35 = .ok (.iconst 4, 1) := by decide +kernel
theorem dX8_writeFacts_36 : decode cX8_writeFacts 36 = .ok (.invokevirtual 114, 3) := by decide +kernel
theorem dX8_writeFacts_39 : decode cX8_writeFacts 39 = .ok (.aload_n 0, 1) := by decide +kernel
theorem dX8_writeFacts_40 : decode cX8_writeFacts 40 = .ok (.aload_n 0, 1) := by decide +kernel
theorem dX8_writeFacts_41 : decode cX8_writeFacts 41 = .ok (.iload_n 1, 1) := by decide +kernel
theorem dX8_writeFacts_42 : decode cX8_writeFacts 42 = .ok (.invokevirtual 120, 3) := by decide +kernel
theorem dX8_writeFacts_45 : decode cX8_writeFacts 45 = .ok (.iconst 4, 1) := by decide +kernel
theorem dX8_writeFacts_46 : decode cX8_writeFacts 46 = .ok (.invokevirtual 114, 3) := by decide +kernel
theorem dX8_writeFacts_49 : decode cX8_writeFacts 49 = .ok (.aload_n 0, 1) := by decide +kernel
theorem dX8_writeFacts_50 : decode cX8_writeFacts 50 = .ok (.aload_n 0, 1) := by decide +kernel
theorem dX8_writeFacts_51 : decode cX8_writeFacts 51 = .ok (.getfield 28, 3) := by decide +kernel
theorem dX8_writeFacts_54 : decode cX8_writeFacts 54 = .ok (.iload_n 1, 1) := by decide +kernel
theorem dX8_writeFacts_55 : decode cX8_writeFacts 55 = .ok (.iaload, 1) := by decide +kernel
theorem dX8_writeFacts_56 : decode cX8_writeFacts 56 = .ok (.iconst 4, 1) := by decide +kernel
theorem dX8_writeFacts_57 : decode cX8_writeFacts 57 = .ok (.invokevirtual 114, 3) := by decide +kernel
theorem dX8_writeFacts_60 : decode cX8_writeFacts 60 = .ok (.aload_n 0, 1) := by decide +kernel
theorem dX8_writeFacts_61 : decode cX8_writeFacts 61 = .ok (.aload_n 0, 1) := by decide +kernel
theorem dX8_writeFacts_62 : decode cX8_writeFacts 62 = .ok (.getfield 22, 3) := by decide +kernel
theorem dX8_writeFacts_65 : decode cX8_writeFacts 65 = .ok (.iload_n 1, 1) := by decide +kernel
theorem dX8_writeFacts_66 : decode cX8_writeFacts 66 = .ok (.iaload, 1) := by decide +kernel
theorem dX8_writeFacts_67 : decode cX8_writeFacts 67 = .ok (.iconst 2, 1) := by decide +kernel
theorem dX8_writeFacts_68 : decode cX8_writeFacts 68 = .ok (.invokevirtual 114, 3) := by decide +kernel
theorem dX8_writeFacts_71 : decode cX8_writeFacts 71 = .ok (.return_, 1) := by decide +kernel
theorem dX8_writeName_0 : decode cX8_writeName 0 = .ok (.iconst 0, 1) := by decide +kernel
theorem dX8_writeName_1 : decode cX8_writeName 1 = .ok (.istore_n 2, 1) := by decide +kernel
theorem dX8_writeName_2 : decode cX8_writeName 2 = .ok (.iload_n 2, 1) := by decide +kernel
theorem dX8_writeName_3 : decode cX8_writeName 3 = .ok (.aload_n 0, 1) := by decide +kernel
theorem dX8_writeName_4 : decode cX8_writeName 4 = .ok (.getfield 22, 3) := by decide +kernel
theorem dX8_writeName_7 : decode cX8_writeName 7 = .ok (.iload_n 1, 1) := by decide +kernel
theorem dX8_writeName_8 : decode cX8_writeName 8 = .ok (.iaload, 1) := by decide +kernel
theorem dX8_writeName_9 : decode cX8_writeName 9 = .ok (.if_icmp .ge 25, 3) := by decide +kernel
theorem dX8_writeName_12 : decode cX8_writeName 12 = .ok (.aload_n 0, 1) := by decide +kernel
theorem dX8_writeName_13 : decode cX8_writeName 13 = .ok (.aload_n 0, 1) := by decide +kernel
theorem dX8_writeName_14 : decode cX8_writeName 14 = .ok (.getfield 19, 3) := by decide +kernel
theorem dX8_writeName_17 : decode cX8_writeName 17 = .ok (.bipush 30, 2) := by decide +kernel
theorem dX8_writeName_19 : decode cX8_writeName 19 = .ok (.iload_n 1, 1) := by decide +kernel
theorem dX8_writeName_20 : decode cX8_writeName 20 = .ok (.imul, 1) := by decide +kernel
theorem dX8_writeName_21 : decode cX8_writeName 21 = .ok (.iload_n 2, 1) := by decide +kernel
theorem dX8_writeName_22 : decode cX8_writeName 22 = .ok (.iadd, 1) := by decide +kernel
theorem dX8_writeName_23 : decode cX8_writeName 23 = .ok (.iaload, 1) := by decide +kernel
theorem dX8_writeName_24 : decode cX8_writeName 24 = .ok (.iconst 1, 1) := by decide +kernel
theorem dX8_writeName_25 : decode cX8_writeName 25 = .ok (.invokevirtual 114, 3) := by decide +kernel
theorem dX8_writeName_28 : decode cX8_writeName 28 = .ok (.iinc 2 1, 3) := by decide +kernel
theorem dX8_writeName_31 : decode cX8_writeName 31 = .ok (.goto (-29), 3) := by decide +kernel
theorem dX8_writeName_34 : decode cX8_writeName 34 = .ok (.return_, 1) := by decide +kernel
theorem dX8_sign_0 : decode cX8_sign 0 = .ok (.aload_n 0, 1) := by decide +kernel
theorem dX8_sign_1 : decode cX8_sign 1 = .ok (.bipush 80, 2) := by decide +kernel
theorem dX8_sign_3 : decode cX8_sign 3 = .ok (.iconst 1, 1) := by decide +kernel
theorem dX8_sign_4 : decode cX8_sign 4 = .ok (.invokevirtual 114, 3) := by decide +kernel
theorem dX8_sign_7 : decode cX8_sign 7 = .ok (.aload_n 0, 1) := by decide +kernel
theorem dX8_sign_8 : decode cX8_sign 8 = .ok (.bipush 75, 2) := by decide +kernel
theorem dX8_sign_10 : decode cX8_sign 10 = .ok (.iconst 1, 1) := by decide +kernel
theorem dX8_sign_11 : decode cX8_sign 11 = .ok (.invokevirtual 114, 3) := by decide +kernel
theorem dX8_sign_14 : decode cX8_sign 14 = .ok (.aload_n 0, 1) := by decide +kernel
theorem dX8_sign_15 : decode cX8_sign 15 = .ok (.iload_n 1, 1) := by decide +kernel
theorem dX8_sign_16 : decode cX8_sign 16 = .ok (.iconst 1, 1) := by decide +kernel
theorem dX8_sign_17 : decode cX8_sign 17 = .ok (.invokevirtual 114, 3) := by decide +kernel
theorem dX8_sign_20 : decode cX8_sign 20 = .ok (.aload_n 0, 1) := by decide +kernel
theorem dX8_sign_21 : decode cX8_sign 21 = .ok (.iload_n 2, 1) := by decide +kernel
theorem dX8_sign_22 : decode cX8_sign 22 = .ok (.iconst 1, 1) := by decide +kernel
theorem dX8_sign_23 : decode cX8_sign 23 = .ok (.invokevirtual 114, 3) := by decide +kernel
theorem dX8_sign_26 : decode cX8_sign 26 = .ok (.return_, 1) := by decide +kernel
theorem dX8_make_0 : decode cX8_make 0 = .ok (.aload_n 0, 1) := by decide +kernel
theorem dX8_make_1 : decode cX8_make 1 = .ok (.iconst 0, 1) := by decide +kernel
theorem dX8_make_2 : decode cX8_make 2 = .ok (.putfield 50, 3) := by decide +kernel
theorem dX8_make_5 : decode cX8_make 5 = .ok (.aload_n 0, 1) := by decide +kernel
theorem dX8_make_6 : decode cX8_make 6 = .ok (.iconst 0, 1) := by decide +kernel
theorem dX8_make_7 : decode cX8_make 7 = .ok (.putfield 56, 3) := by decide +kernel
theorem dX8_make_10 : decode cX8_make 10 = .ok (.iconst 0, 1) := by decide +kernel
theorem dX8_make_11 : decode cX8_make 11 = .ok (.istore_n 1, 1) := by decide +kernel
theorem dX8_make_12 : decode cX8_make 12 = .ok (.iload_n 1, 1) := by decide +kernel
theorem dX8_make_13 : decode cX8_make 13 = .ok (.aload_n 0, 1) := by decide +kernel
theorem dX8_make_14 : decode cX8_make 14 = .ok (.getfield 59, 3) := by decide +kernel
theorem dX8_make_17 : decode cX8_make 17 = .ok (.if_icmp .ge 129, 3) := by decide +kernel
theorem dX8_make_20 : decode cX8_make 20 = .ok (.aload_n 0, 1) := by decide +kernel
theorem dX8_make_21 : decode cX8_make 21 = .ok (.getfield 47, 3) := by decide +kernel
theorem dX8_make_24 : decode cX8_make 24 = .ok (.iload_n 1, 1) := by decide +kernel
theorem dX8_make_25 : decode cX8_make 25 = .ok (.aload_n 0, 1) := by decide +kernel
theorem dX8_make_26 : decode cX8_make 26 = .ok (.getfield 56, 3) := by decide +kernel
theorem dX8_make_29 : decode cX8_make 29 = .ok (.iastore, 1) := by decide +kernel
theorem dX8_make_30 : decode cX8_make 30 = .ok (.aload_n 0, 1) := by decide +kernel
theorem dX8_make_31 : decode cX8_make 31 = .ok (.iconst 3, 1) := by decide +kernel
theorem dX8_make_32 : decode cX8_make 32 = .ok (.iconst 4, 1) := by decide +kernel
theorem dX8_make_33 : decode cX8_make 33 = .ok (.invokevirtual 123, 3) := by decide +kernel
theorem dX8_make_36 : decode cX8_make 36 = .ok (.aload_n 0, 1) := by decide +kernel
theorem dX8_make_37 : decode cX8_make 37 = .ok (.bipush 20, 2) := by decide +kernel
theorem dX8_make_39 : decode cX8_make 39 = .ok (.iconst 2, 1) := by decide +kernel
theorem dX8_make_40 : decode cX8_make 40 = .ok (.invokevirtual 114, 3) := by decide +kernel
theorem dX8_make_43 : decode cX8_make 43 = .ok (.aload_n 0, 1) := by decide +kernel
theorem dX8_make_44 : decode cX8_make 44 = .ok (.iload_n 1, 1) := by decide +kernel
theorem dX8_make_45 : decode cX8_make 45 = .ok (.invokevirtual 126, 3) := by decide +kernel
theorem dX8_make_48 : decode cX8_make 48 = .ok (.aload_n 0, 1) := by decide +kernel
theorem dX8_make_49 : decode cX8_make 49 = .ok (.iconst 0, 1) := by decide +kernel
theorem dX8_make_50 : decode cX8_make 50 = .ok (.iconst 2, 1) := by decide +kernel
theorem dX8_make_51 : decode cX8_make 51 = .ok (.invokevirtual 114, 3) := by decide +kernel
theorem dX8_make_54 : decode cX8_make 54 = .ok (.aload_n 0, 1) := by decide +kernel
theorem dX8_make_55 : decode cX8_make 55 = .ok (.iload_n 1, 1) := by decide +kernel
theorem dX8_make_56 : decode cX8_make 56 = .ok (.invokevirtual 129, 3) := by decide +kernel
theorem dX8_make_59 : decode cX8_make 59 = .ok (.aload_n 0, 1) := by decide +kernel
theorem dX8_make_60 : decode cX8_make 60 = .ok (.iload_n 1, 1) := by decide +kernel
theorem dX8_make_61 : decode cX8_make 61 = .ok (.invokevirtual 109, 3) := by decide +kernel
theorem dX8_make_64 : decode cX8_make 64 = .ok (.bipush 99, 2) := by decide +kernel
theorem dX8_make_66 : decode cX8_make 66 = .ok (.if_icmp .ne 7, 3) := by decide +kernel
theorem dX8_make_69 : decode cX8_make 69 = .ok (.iconst 1, 1) := by decide +kernel
theorem dX8_make_70 : decode cX8_make 70 = .ok (.goto 4, 3) := by decide +kernel
theorem dX8_make_73 : decode cX8_make 73 = .ok (.iconst 0, 1) := by decide +kernel
theorem dX8_make_74 : decode cX8_make 74 = .ok (.istore_n 2, 1) := by decide +kernel
theorem dX8_make_75 : decode cX8_make 75 = .ok (.iload_n 2, 1) := by decide +kernel
theorem dX8_make_76 : decode cX8_make 76 = .ok (.ifCond .eq 10, 3) := by decide +kernel
theorem dX8_make_79 : decode cX8_make 79 = .ok (.aload_n 0, 1) := by decide +kernel
theorem dX8_make_80 : decode cX8_make 80 = .ok (.getfield 96, 3) := by decide +kernel
theorem dX8_make_83 : decode cX8_make 83 = .ok (.goto 9, 3) := by decide +kernel
theorem dX8_make_86 : decode cX8_make 86 = .ok (.aload_n 0, 1) := by decide +kernel
theorem dX8_make_87 : decode cX8_make 87 = .ok (.getfield 28, 3) := by decide +kernel
theorem dX8_make_90 : decode cX8_make 90 = .ok (.iload_n 1, 1) := by decide +kernel
theorem dX8_make_91 : decode cX8_make 91 = .ok (.iaload, 1) := by decide +kernel
theorem dX8_make_92 : decode cX8_make 92 = .ok (.istore_n 3, 1) := by decide +kernel
theorem dX8_make_93 : decode cX8_make 93 = .ok (.iconst 0, 1) := by decide +kernel
theorem dX8_make_94 : decode cX8_make 94 = .ok (.istore 4, 2) := by decide +kernel
theorem dX8_make_96 : decode cX8_make 96 = .ok (.iload 4, 2) := by decide +kernel
theorem dX8_make_98 : decode cX8_make 98 = .ok (.iload_n 3, 1) := by decide +kernel
theorem dX8_make_99 : decode cX8_make 99 = .ok (.if_icmp .ge 41, 3) := by decide +kernel
theorem dX8_make_102 : decode cX8_make 102 = .ok (.aload_n 0, 1) := by decide +kernel
theorem dX8_make_103 : decode cX8_make 103 = .ok (.iload_n 2, 1) := by decide +kernel
theorem dX8_make_104 : decode cX8_make 104 = .ok (.ifCond .eq 13, 3) := by decide +kernel
theorem dX8_make_107 : decode cX8_make 107 = .ok (.aload_n 0, 1) := by decide +kernel
theorem dX8_make_108 : decode cX8_make 108 = .ok (.getfield 38, 3) := by decide +kernel
theorem dX8_make_111 : decode cX8_make 111 = .ok (.iload 4, 2) := by decide +kernel
theorem dX8_make_113 : decode cX8_make 113 = .ok (.iaload, 1) := by decide +kernel
theorem dX8_make_114 : decode cX8_make 114 = .ok (.goto 16, 3) := by decide +kernel
theorem dX8_make_117 : decode cX8_make 117 = .ok (.aload_n 0, 1) := by decide +kernel
theorem dX8_make_118 : decode cX8_make 118 = .ok (.getfield 25, 3) := by decide +kernel
theorem dX8_make_121 : decode cX8_make 121 = .ok (.sipush 1500, 3) := by decide +kernel
theorem dX8_make_124 : decode cX8_make 124 = .ok (.iload_n 1, 1) := by decide +kernel
theorem dX8_make_125 : decode cX8_make 125 = .ok (.imul, 1) := by decide +kernel
theorem dX8_make_126 : decode cX8_make 126 = .ok (.iload 4, 2) := by decide +kernel
theorem dX8_make_128 : decode cX8_make 128 = .ok (.iadd, 1) := by decide +kernel
theorem dX8_make_129 : decode cX8_make 129 = .ok (.iaload, 1) := by decide +kernel
theorem dX8_make_130 : decode cX8_make 130 = .ok (.iconst 1, 1) := by decide +kernel
theorem dX8_make_131 : decode cX8_make 131 = .ok (.invokevirtual 114, 3) := by decide +kernel
theorem dX8_make_134 : decode cX8_make 134 = .ok (.iinc 4 1, 3) := by decide +kernel
theorem dX8_make_137 : decode cX8_make 137 = .ok (.goto (-41), 3) := by decide +kernel
theorem dX8_make_140 : decode cX8_make 140 = .ok (.iinc 1 1, 3) := by decide +kernel
theorem dX8_make_143 : decode cX8_make 143 = .ok (.goto (-131), 3) := by decide +kernel
theorem dX8_make_146 : decode cX8_make 146 = .ok (.aload_n 0, 1) := by decide +kernel
theorem dX8_make_147 : decode cX8_make 147 = .ok (.getfield 56, 3) := by decide +kernel
theorem dX8_make_150 : decode cX8_make 150 = .ok (.istore_n 1, 1) := by decide +kernel
theorem dX8_make_151 : decode cX8_make 151 = .ok (.iconst 0, 1) := by decide +kernel
theorem dX8_make_152 : decode cX8_make 152 = .ok (.istore_n 2, 1) := by decide +kernel
theorem dX8_make_153 : decode cX8_make 153 = .ok (.iload_n 2, 1) := by decide +kernel
theorem dX8_make_154 : decode cX8_make 154 = .ok (.aload_n 0, 1) := by decide +kernel
theorem dX8_make_155 : decode cX8_make 155 = .ok (.getfield 59, 3) := by decide +kernel
theorem dX8_make_158 : decode cX8_make 158 = .ok (.if_icmp .ge 63, 3) := by decide +kernel
theorem dX8_make_161 : decode cX8_make 161 = .ok (.aload_n 0, 1) := by decide +kernel
theorem dX8_make_162 : decode cX8_make 162 = .ok (.iconst 1, 1) := by decide +kernel
theorem dX8_make_163 : decode cX8_make 163 = .ok (.iconst 2, 1) := by decide +kernel
theorem dX8_make_164 : decode cX8_make 164 = .ok (.invokevirtual 123, 3) := by decide +kernel
theorem dX8_make_167 : decode cX8_make 167 = .ok (.aload_n 0, 1) := by decide +kernel
theorem dX8_make_168 : decode cX8_make 168 = .ok (.bipush 20, 2) := by decide +kernel
theorem dX8_make_170 : decode cX8_make 170 = .ok (.iconst 2, 1) := by decide +kernel
theorem dX8_make_171 : decode cX8_make 171 = .ok (.invokevirtual 114, 3) := by decide +kernel
theorem dX8_make_174 : decode cX8_make 174 = .ok (.aload_n 0, 1) := by decide +kernel
theorem dX8_make_175 : decode cX8_make 175 = .ok (.bipush 20, 2) := by decide +kernel
theorem dX8_make_177 : decode cX8_make 177 = .ok (.iconst 2, 1) := by decide +kernel
theorem dX8_make_178 : decode cX8_make 178 = .ok (.invokevirtual 114, 3) := by decide +kernel
theorem dX8_make_181 : decode cX8_make 181 = .ok (.aload_n 0, 1) := by decide +kernel
theorem dX8_make_182 : decode cX8_make 182 = .ok (.iload_n 2, 1) := by decide +kernel
theorem dX8_make_183 : decode cX8_make 183 = .ok (.invokevirtual 126, 3) := by decide +kernel
theorem dX8_make_186 : decode cX8_make 186 = .ok (.aload_n 0, 1) := by decide +kernel
theorem dX8_make_187 : decode cX8_make 187 = .ok (.iconst 0, 1) := by decide +kernel
theorem dX8_make_188 : decode cX8_make 188 = .ok (.bipush 8, 2) := by decide +kernel
theorem dX8_make_190 : decode cX8_make 190 = .ok (.invokevirtual 114, 3) := by decide +kernel
theorem dX8_make_193 : decode cX8_make 193 = .ok (.aload_n 0, 1) := by decide +kernel
theorem dX8_make_194 : decode cX8_make 194 = .ok (.iconst 0, 1) := by decide +kernel
theorem dX8_make_195 : decode cX8_make 195 = .ok (.iconst 4, 1) := by decide +kernel
theorem dX8_make_196 : decode cX8_make 196 = .ok (.invokevirtual 114, 3) := by decide +kernel
theorem dX8_make_199 : decode cX8_make 199 = .ok (.aload_n 0, 1) := by decide +kernel
theorem dX8_make_200 : decode cX8_make 200 = .ok (.aload_n 0, 1) := by decide +kernel
theorem dX8_make_201 : decode cX8_make 201 = .ok (.getfield 47, 3) := by decide +kernel
theorem dX8_make_204 : decode cX8_make 204 = .ok (.iload_n 2, 1) := by decide +kernel
theorem dX8_make_205 : decode cX8_make 205 = .ok (.iaload, 1) := by decide +kernel
theorem dX8_make_206 : decode cX8_make 206 = .ok (.iconst 4, 1) := by decide +kernel
theorem dX8_make_207 : decode cX8_make 207 = .ok (.invokevirtual 114, 3) := by decide +kernel
theorem dX8_make_210 : decode cX8_make 210 = .ok (.aload_n 0, 1) := by decide +kernel
theorem dX8_make_211 : decode cX8_make 211 = .ok (.iload_n 2, 1) := by decide +kernel
theorem dX8_make_212 : decode cX8_make 212 = .ok (.invokevirtual 129, 3) := by decide +kernel
theorem dX8_make_215 : decode cX8_make 215 = .ok (.iinc 2 1, 3) := by decide +kernel
theorem dX8_make_218 : decode cX8_make 218 = .ok (.goto (-65), 3) := by decide +kernel
theorem dX8_make_221 : decode cX8_make 221 = .ok (.aload_n 0, 1) := by decide +kernel
theorem dX8_make_222 : decode cX8_make 222 = .ok (.getfield 56, 3) := by decide +kernel
theorem dX8_make_225 : decode cX8_make 225 = .ok (.iload_n 1, 1) := by decide +kernel
theorem dX8_make_226 : decode cX8_make 226 = .ok (.isub, 1) := by decide +kernel
theorem dX8_make_227 : decode cX8_make 227 = .ok (.istore_n 2, 1) := by decide +kernel
theorem dX8_make_228 : decode cX8_make 228 = .ok (.aload_n 0, 1) := by decide +kernel
theorem dX8_make_229 : decode cX8_make 229 = .ok (.iconst 5, 1) := by decide +kernel
theorem dX8_make_230 : decode cX8_make 230 = .ok (.bipush 6, 2) := by decide +kernel
theorem dX8_make_232 : decode cX8_make 232 = .ok (.invokevirtual 123, 3) := by decide +kernel
theorem dX8_make_235 : decode cX8_make 235 = .ok (.aload_n 0, 1) := by decide +kernel
theorem dX8_make_236 : decode cX8_make 236 = .ok (.iconst 0, 1) := by decide +kernel
theorem dX8_make_237 : decode cX8_make 237 = .ok (.iconst 4, 1) := by decide +kernel
theorem dX8_make_238 : decode cX8_make 238 = .ok (.invokevirtual 114, 3) := by decide +kernel
theorem dX8_make_241 : decode cX8_make 241 = .ok (.aload_n 0, 1) := by decide +kernel
theorem dX8_make_242 : decode cX8_make 242 = .ok (.aload_n 0, 1) := by decide +kernel
theorem dX8_make_243 : decode cX8_make 243 = .ok (.getfield 59, 3) := by decide +kernel
theorem dX8_make_246 : decode cX8_make 246 = .ok (.iconst 2, 1) := by decide +kernel
theorem dX8_make_247 : decode cX8_make 247 = .ok (.invokevirtual 114, 3) := by decide +kernel
theorem dX8_make_250 : decode cX8_make 250 = .ok (.aload_n 0, 1) := by decide +kernel
theorem dX8_make_251 : decode cX8_make 251 = .ok (.aload_n 0, 1) := by decide +kernel
theorem dX8_make_252 : decode cX8_make 252 = .ok (.getfield 59, 3) := by decide +kernel
theorem dX8_make_255 : decode cX8_make 255 = .ok (.iconst 2, 1) := by decide +kernel
theorem dX8_make_256 : decode cX8_make 256 = .ok (.invokevirtual 114, 3) := by decide +kernel
theorem dX8_make_259 : decode cX8_make 259 = .ok (.aload_n 0, 1) := by decide +kernel
theorem dX8_make_260 : decode cX8_make 260 = .ok (.iload_n 2, 1) := by decide +kernel
theorem dX8_make_261 : decode cX8_make 261 = .ok (.iconst 4, 1) := by decide +kernel
theorem dX8_make_262 : decode cX8_make 262 = .ok (.invokevirtual 114, 3) := by decide +kernel
theorem dX8_make_265 : decode cX8_make 265 = .ok (.aload_n 0, 1) := by decide +kernel
theorem dX8_make_266 : decode cX8_make 266 = .ok (.iload_n 1, 1) := by decide +kernel
theorem dX8_make_267 : decode cX8_make 267 = .ok (.iconst 4, 1) := by decide +kernel
theorem dX8_make_268 : decode cX8_make 268 = .ok (.invokevirtual 114, 3) := by decide +kernel
theorem dX8_make_271 : decode cX8_make 271 = .ok (.aload_n 0, 1) := by decide +kernel
theorem dX8_make_272 : decode cX8_make 272 = .ok (.iconst 0, 1) := by decide +kernel
theorem dX8_make_273 : decode cX8_make 273 = .ok (.iconst 2, 1) := by decide +kernel
theorem dX8_make_274 : decode cX8_make 274 = .ok (.invokevirtual 114, 3) := by decide +kernel
theorem dX8_make_277 : decode cX8_make 277 = .ok (.aload_n 0, 1) := by decide +kernel
theorem dX8_make_278 : decode cX8_make 278 = .ok (.getfield 56, 3) := by decide +kernel
theorem dX8_make_281 : decode cX8_make 281 = .ok (.ireturn, 1) := by decide +kernel
theorem dX8_number_0 : decode cX8_number 0 = .ok (.lconst 0, 1) := by decide +kernel
theorem dX8_number_1 : decode cX8_number 1 = .ok (.lstore_n 3, 1) := by decide +kernel
theorem dX8_number_2 : decode cX8_number 2 = .ok (.iload_n 2, 1) := by decide +kernel
theorem dX8_number_3 : decode cX8_number 3 = .ok (.iconst 1, 1) := by decide +kernel
theorem dX8_number_4 : decode cX8_number 4 = .ok (.isub, 1) := by decide +kernel
theorem dX8_number_5 : decode cX8_number 5 = .ok (.istore 5, 2) := by decide +kernel
theorem dX8_number_7 : decode cX8_number 7 = .ok (.iload 5, 2) := by decide +kernel
theorem dX8_number_9 : decode cX8_number 9 = .ok (.ifCond .lt 25, 3) := by decide +kernel
theorem dX8_number_12 : decode cX8_number 12 = .ok (.lload_n 3, 1) := by decide +kernel
theorem dX8_number_13 : decode cX8_number 13 = .ok (.bipush 8, 2) := by decide +kernel
theorem dX8_number_15 : decode cX8_number 15 = .ok (.lshl, 1) := by decide +kernel
theorem dX8_number_16 : decode cX8_number 16 = .ok (.aload_n 0, 1) := by decide +kernel
theorem dX8_number_17 : decode cX8_number 17 = .ok (.getfield 13, 3) := by decide +kernel
theorem dX8_number_20 : decode cX8_number 20 = .ok (.iload_n 1, 1) := by decide +kernel
theorem dX8_number_21 : decode cX8_number 21 = .ok (.iload 5, 2) := by decide +kernel
theorem dX8_number_23 : decode cX8_number 23 = .ok (.iadd, 1) := by decide +kernel
theorem dX8_number_24 : decode cX8_number 24 = .ok (.iaload, 1) := by decide +kernel
theorem dX8_number_25 : decode cX8_number 25 = .ok (.i2l, 1) := by decide +kernel
theorem dX8_number_26 : decode cX8_number 26 = .ok (.lor, 1) := by decide +kernel
theorem dX8_number_27 : decode cX8_number 27 = .ok (.lstore_n 3, 1) := by decide +kernel
theorem dX8_number_28 : decode cX8_number 28 = .ok (.iinc 5 (-1), 3) := by decide +kernel
theorem dX8_number_31 : decode cX8_number 31 = .ok (.goto (-24), 3) := by decide +kernel
theorem dX8_number_34 : decode cX8_number 34 = .ok (.lload_n 3, 1) := by decide +kernel
theorem dX8_number_35 : decode cX8_number 35 = .ok (.ldc2_w 132, 3) := by decide +kernel
theorem dX8_number_38 : decode cX8_number 38 = .ok (.lcmp, 1) := by decide +kernel
theorem dX8_number_39 : decode cX8_number 39 = .ok (.ifCond .le 8, 3) := by decide +kernel
theorem dX8_number_42 : decode cX8_number 42 = .ok (.ldc 134, 2) := by decide +kernel
theorem dX8_number_44 : decode cX8_number 44 = .ok (.goto 5, 3) := by decide +kernel
theorem dX8_number_47 : decode cX8_number 47 = .ok (.lload_n 3, 1) := by decide +kernel
theorem dX8_number_48 : decode cX8_number 48 = .ok (.l2i, 1) := by decide +kernel
theorem dX8_number_49 : decode cX8_number 49 = .ok (.ireturn, 1) := by decide +kernel
theorem dX8_is_0 : decode cX8_is 0 = .ok (.aload_n 0, 1) := by decide +kernel
theorem dX8_is_1 : decode cX8_is 1 = .ok (.iload_n 1, 1) := by decide +kernel
theorem dX8_is_2 : decode cX8_is 2 = .ok (.iload_n 2, 1) := by decide +kernel
theorem dX8_is_3 : decode cX8_is 3 = .ok (.invokevirtual 135, 3) := by decide +kernel
theorem dX8_is_6 : decode cX8_is 6 = .ok (.iload_n 3, 1) := by decide +kernel
theorem dX8_is_7 : decode cX8_is 7 = .ok (.if_icmp .ne 7, 3) := by decide +kernel
theorem dX8_is_10 : decode cX8_is 10 = .ok (.iconst 1, 1) := by decide +kernel
theorem dX8_is_11 : decode cX8_is 11 = .ok (.goto 4, 3) := by decide +kernel
theorem dX8_is_14 : decode cX8_is 14 = .ok (.iconst 0, 1) := by decide +kernel
theorem dX8_is_15 : decode cX8_is 15 = .ok (.ireturn, 1) := by decide +kernel
theorem dX8_isSign_0 : decode cX8_isSign 0 = .ok (.aload_n 0, 1) := by decide +kernel
theorem dX8_isSign_1 : decode cX8_isSign 1 = .ok (.getfield 13, 3) := by decide +kernel
theorem dX8_isSign_4 : decode cX8_isSign 4 = .ok (.iload_n 1, 1) := by decide +kernel
theorem dX8_isSign_5 : decode cX8_isSign 5 = .ok (.iaload, 1) := by decide +kernel
theorem dX8_isSign_6 : decode cX8_isSign 6 = .ok (.bipush 80, 2) := by decide +kernel
theorem dX8_isSign_8 : decode cX8_isSign 8 = .ok (.if_icmp .ne 44, 3) := by decide +kernel
theorem dX8_isSign_11 : decode cX8_isSign 11 = .ok (.aload_n 0, 1) := by decide +kernel
theorem dX8_isSign_12 : decode cX8_isSign 12 = .ok (.getfield 13, 3) := by decide +kernel
theorem dX8_isSign_15 : decode cX8_isSign 15 = .ok (.iload_n 1, 1) := by decide +kernel
theorem dX8_isSign_16 : decode cX8_isSign 16 = .ok (.iconst 1, 1) := by decide +kernel
theorem dX8_isSign_17 : decode cX8_isSign 17 = .ok (.iadd, 1) := by decide +kernel
theorem dX8_isSign_18 : decode cX8_isSign 18 = .ok (.iaload, 1) := by decide +kernel
theorem dX8_isSign_19 : decode cX8_isSign 19 = .ok (.bipush 75, 2) := by decide +kernel
theorem dX8_isSign_21 : decode cX8_isSign 21 = .ok (.if_icmp .ne 31, 3) := by decide +kernel
theorem dX8_isSign_24 : decode cX8_isSign 24 = .ok (.aload_n 0, 1) := by decide +kernel
theorem dX8_isSign_25 : decode cX8_isSign 25 = .ok (.getfield 13, 3) := by decide +kernel
