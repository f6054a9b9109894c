theorem dX0_crc_0 : decode cX0_crc 0 = .ok (.iconst (-1), 1) := by decide +kernel
theorem dX0_crc_1 : decode cX0_crc 1 = .ok (.istore_n 3, 1) := by decide +kernel
theorem dX0_crc_2 : decode cX0_crc 2 = .ok (.iconst 0, 1) := by decide +kernel
theorem dX0_crc_3 : decode cX0_crc 3 = .ok (.istore 4, 2) := by decide +kernel
theorem dX0_crc_5 : decode cX0_crc 5 = .ok (.iload 4, 2) := by decide +kernel
theorem dX0_crc_7 : decode cX0_crc 7 = .ok (.iload_n 2, 1) := by decide +kernel
theorem dX0_crc_8 : decode cX0_crc 8 = .ok (.if_icmp .ge 46, 3) := by decide +kernel
theorem dX0_crc_11 : decode cX0_crc 11 = .ok (.iload_n 3, 1) := by decide +kernel
theorem dX0_crc_12 : decode cX0_crc 12 = .ok (.aload_n 0, 1) := by decide +kernel
theorem dX0_crc_13 : decode cX0_crc 13 = .ok (.iload_n 1, 1) := by decide +kernel
theorem dX0_crc_14 : decode cX0_crc 14 = .ok (.iload 4, 2) := by decide +kernel
theorem dX0_crc_16 : decode cX0_crc 16 = .ok (.iadd, 1) := by decide +kernel
theorem dX0_crc_17 : decode cX0_crc 17 = .ok (.invokevirtual 7, 3) := by decide +kernel
theorem dX0_crc_20 : decode cX0_crc 20 = .ok (.ixor, 1) := by decide +kernel
theorem dX0_crc_21 : decode cX0_crc 21 = .ok (.istore_n 3, 1) := by decide +kernel
theorem dX0_crc_22 : decode cX0_crc 22 = .ok (.iload_n 3, 1) := by decide +kernel
theorem dX0_crc_23 : decode cX0_crc 23 = .ok (.iconst 4, 1) := by decide +kernel
theorem dX0_crc_24 : decode cX0_crc 24 = .ok (.iushr, 1) := by decide +kernel
theorem dX0_crc_25 : decode cX0_crc 25 = .ok (.getstatic 13, 3) := by decide +kernel
theorem dX0_crc_28 : decode cX0_crc 28 = .ok (.iload_n 3, 1) := by decide +kernel
theorem dX0_crc_29 : decode cX0_crc 29 = .ok (.bipush 15, 2) := by decide +kernel
theorem dX0_crc_31 : decode cX0_crc 31 = .ok (.iand, 1) := by decide +kernel
theorem dX0_crc_32 : decode cX0_crc 32 = .ok (.iaload, 1) := by decide +kernel
theorem dX0_crc_33 : decode cX0_crc 33 = .ok (.ixor, 1) := by decide +kernel
theorem dX0_crc_34 : decode cX0_crc 34 = .ok (.istore_n 3, 1) := by decide +kernel
theorem dX0_crc_35 : decode cX0_crc 35 = .ok (.iload_n 3, 1) := by decide +kernel
theorem dX0_crc_36 : decode cX0_crc 36 = .ok (.iconst 4, 1) := by decide +kernel
theorem dX0_crc_37 : decode cX0_crc 37 = .ok (.iushr, 1) := by decide +kernel
theorem dX0_crc_38 : decode cX0_crc 38 = .ok (.getstatic 13, 3) := by decide +kernel
theorem dX0_crc_41 : decode cX0_crc 41 = .ok (.iload_n 3, 1) := by decide +kernel
theorem dX0_crc_42 : decode cX0_crc 42 = .ok (.bipush 15, 2) := by decide +kernel
theorem dX0_crc_44 : decode cX0_crc 44 = .ok (.iand, 1) := by decide +kernel
theorem dX0_crc_45 : decode cX0_crc 45 = .ok (.iaload, 1) := by decide +kernel
theorem dX0_crc_46 : decode cX0_crc 46 = .ok (.ixor, 1) := by decide +kernel
theorem dX0_crc_47 : decode cX0_crc 47 = .ok (.istore_n 3, 1) := by decide +kernel
theorem dX0_crc_48 : decode cX0_crc 48 = .ok (.iinc 4 1, 3) := by decide +kernel
theorem dX0_crc_51 : decode cX0_crc 51 = .ok (.goto (-46), 3) := by decide +kernel
theorem dX0_crc_54 : decode cX0_crc 54 = .ok (.iload_n 3, 1) := by decide +kernel
theorem dX0_crc_55 : decode cX0_crc 55 = .ok (.iconst (-1), 1) := by decide +kernel
theorem dX0_crc_56 : decode cX0_crc 56 = .ok (.ixor, 1) := by decide +kernel
theorem dX0_crc_57 : decode cX0_crc 57 = .ok (.ireturn, 1) := by decide +kernel
theorem dX0_foldedSize_0 : decode cX0_foldedSize 0 = .ok (.iload_n 1, 1) := by decide +kernel
theorem dX0_foldedSize_1 : decode cX0_foldedSize 1 = .ok (.iload_n 2, 1) := by decide +kernel
theorem dX0_foldedSize_2 : decode cX0_foldedSize 2 = .ok (.iadd, 1) := by decide +kernel
theorem dX0_foldedSize_3 : decode cX0_foldedSize 3 = .ok (.istore_n 3, 1) := by decide +kernel
theorem dX0_foldedSize_4 : decode cX0_foldedSize 4 = .ok (.iconst 0, 1) := by decide +kernel
theorem dX0_foldedSize_5 : decode cX0_foldedSize 5 = .ok (.istore 4, 2) := by decide +kernel
theorem dX0_foldedSize_7 : decode cX0_foldedSize 7 = .ok (.iload_n 1, 1) := by decide +kernel
theorem dX0_foldedSize_8 : decode cX0_foldedSize 8 = .ok (.istore 5, 2) := by decide +kernel
theorem dX0_foldedSize_10 : decode cX0_foldedSize 10 = .ok (.iload 5, 2) := by decide +kernel
theorem dX0_foldedSize_12 : decode cX0_foldedSize 12 = .ok (.iload_n 3, 1) := by decide +kernel
theorem dX0_foldedSize_13 : decode cX0_foldedSize 13 = .ok (.if_icmp .ge 47, 3) := by decide +kernel
theorem dX0_foldedSize_16 : decode cX0_foldedSize 16 = .ok (.aload_n 0, 1) := by decide +kernel
theorem dX0_foldedSize_17 : decode cX0_foldedSize 17 = .ok (.iload 5, 2) := by decide +kernel
theorem dX0_foldedSize_19 : decode cX0_foldedSize 19 = .ok (.iload_n 3, 1) := by decide +kernel
theorem dX0_foldedSize_20 : decode cX0_foldedSize 20 = .ok (.invokestatic 19, 3) := by decide +kernel
theorem dX0_foldedSize_23 : decode cX0_foldedSize 23 = .ok (.istore 6, 2) := by decide +kernel
theorem dX0_foldedSize_25 : decode cX0_foldedSize 25 = .ok (.iload 4, 2) := by decide +kernel
theorem dX0_foldedSize_27 : decode cX0_foldedSize 27 = .ok (.iload 6, 2) := by decide +kernel
theorem dX0_foldedSize_29 : decode cX0_foldedSize 29 = .ok (.ifCond .le 7, 3) := by decide +kernel
theorem dX0_foldedSize_32 : decode cX0_foldedSize 32 = .ok (.iconst 2, 1) := by decide +kernel
theorem dX0_foldedSize_33 : decode cX0_foldedSize 33 = .ok (.goto 7, 3) := by decide +kernel
theorem dX0_foldedSize_36 : decode cX0_foldedSize 36 = .ok (.iconst 1, 1) := by decide +kernel
theorem dX0_foldedSize_37 : decode cX0_foldedSize 37 = .ok (.iload 6, 2) := by decide +kernel
theorem dX0_foldedSize_39 : decode cX0_foldedSize 39 = .ok (.isub, 1) := by decide +kernel
theorem dX0_foldedSize_40 : decode cX0_foldedSize 40 = .ok (.iadd, 1) := by decide +kernel
theorem dX0_foldedSize_41 : decode cX0_foldedSize 41 = .ok (.istore 4, 2) := by decide +kernel
theorem dX0_foldedSize_43 : decode cX0_foldedSize 43 = .ok (.iload 5, 2) := by decide +kernel
theorem dX0_foldedSize_45 : decode cX0_foldedSize 45 = .ok (.iconst 1, 1) := by decide +kernel
theorem dX0_foldedSize_46 : decode cX0_foldedSize 46 = .ok (.iload 6, 2) := by decide +kernel
theorem dX0_foldedSize_48 : decode cX0_foldedSize 48 = .ok (.invokestatic 23, 3) := by decide +kernel
theorem dX0_foldedSize_51 : decode cX0_foldedSize 51 = .ok (.invokestatic 28, 3) := by decide +kernel
theorem dX0_foldedSize_54 : decode cX0_foldedSize 54 = .ok (.iadd, 1) := by decide +kernel
theorem dX0_foldedSize_55 : decode cX0_foldedSize 55 = .ok (.istore 5, 2) := by decide +kernel
theorem dX0_foldedSize_57 : decode cX0_foldedSize 57 = .ok (.goto (-47), 3) := by decide +kernel
theorem dX0_foldedSize_60 : decode cX0_foldedSize 60 = .ok (.iload 4, 2) := by decide +kernel
theorem dX0_foldedSize_62 : decode cX0_foldedSize 62 = .ok (.ireturn, 1) := by decide +kernel
theorem dX0_fold_0 : decode cX0_fold 0 = .ok (.iload_n 1, 1) := by decide +kernel
theorem dX0_fold_1 : decode cX0_fold 1 = .ok (.iload_n 2, 1) := by decide +kernel
theorem dX0_fold_2 : decode cX0_fold 2 = .ok (.iadd, 1) := by decide +kernel
theorem dX0_fold_3 : decode cX0_fold 3 = .ok (.istore 4, 2) := by decide +kernel
theorem dX0_fold_5 : decode cX0_fold 5 = .ok (.iload_n 1, 1) := by decide +kernel
theorem dX0_fold_6 : decode cX0_fold 6 = .ok (.istore 5, 2) := by decide +kernel
theorem dX0_fold_8 : decode cX0_fold 8 = .ok (.iload 5, 2) := by decide +kernel
theorem dX0_fold_10 : decode cX0_fold 10 = .ok (.iload 4, 2) := by decide +kernel
theorem dX0_fold_12 : decode cX0_fold 12 = .ok (.if_icmp .ge 77, 3) := by decide +kernel
theorem dX0_fold_15 : decode cX0_fold 15 = .ok (.aload_n 0, 1) := by decide +kernel
theorem dX0_fold_16 : decode cX0_fold 16 = .ok (.iload 5, 2) := by decide +kernel
theorem dX0_fold_18 : decode cX0_fold 18 = .ok (.iload 4, 2) := by decide +kernel
theorem dX0_fold_20 : decode cX0_fold 20 = .ok (.invokestatic 19, 3) := by decide +kernel
theorem dX0_fold_23 : decode cX0_fold 23 = .ok (.istore 6, 2) := by decide +kernel
theorem dX0_fold_25 : decode cX0_fold 25 = .ok (.iload 6, 2) := by decide +kernel
theorem dX0_fold_27 : decode cX0_fold 27 = .ok (.ifCond .le 26, 3) := by decide +kernel
theorem dX0_fold_30 : decode cX0_fold 30 = .ok (.aload_n 3, 1) := by decide +kernel
theorem dX0_fold_31 : decode cX0_fold 31 = .ok (.sipush 257, 3) := by decide +kernel
theorem dX0_fold_34 : decode cX0_fold 34 = .ok (.iload 6, 2) := by decide +kernel
theorem dX0_fold_36 : decode cX0_fold 36 = .ok (.isub, 1) := by decide +kernel
theorem dX0_fold_37 : decode cX0_fold 37 = .ok (.invokevirtual 32, 3) := by decide +kernel
theorem dX0_fold_40 : decode cX0_fold 40 = .ok (.aload_n 3, 1) := by decide +kernel
theorem dX0_fold_41 : decode cX0_fold 41 = .ok (.aload_n 0, 1) := by decide +kernel
theorem dX0_fold_42 : decode cX0_fold 42 = .ok (.iload 5, 2) := by decide +kernel
theorem dX0_fold_44 : decode cX0_fold 44 = .ok (.invokevirtual 7, 3) := by decide +kernel
theorem dX0_fold_47 : decode cX0_fold 47 = .ok (.invokevirtual 32, 3) := by decide +kernel
theorem dX0_fold_50 : decode cX0_fold 50 = .ok (.goto 22, 3) := by decide +kernel
theorem dX0_fold_53 : decode cX0_fold 53 = .ok (.aload_n 3, 1) := by decide +kernel
theorem dX0_fold_54 : decode cX0_fold 54 = .ok (.iload 6, 2) := by decide +kernel
theorem dX0_fold_56 : decode cX0_fold 56 = .ok (.ineg, 1) := by decide +kernel
theorem dX0_fold_57 : decode cX0_fold 57 = .ok (.iconst 1, 1) := by decide +kernel
theorem dX0_fold_58 : decode cX0_fold 58 = .ok (.isub, 1) := by decide +kernel
theorem dX0_fold_59 : decode cX0_fold 59 = .ok (.invokevirtual 32, 3) := by decide +kernel
theorem dX0_fold_62 : decode cX0_fold 62 = .ok (.aload_n 3, 1) := by decide +kernel
theorem dX0_fold_63 : decode cX0_fold 63 = .ok (.aload_n 0, 1) := by decide +kernel
theorem dX0_fold_64 : decode cX0_fold 64 = .ok (.iload 5, 2) := by decide +kernel
theorem dX0_fold_66 : decode cX0_fold 66 = .ok (.iload 6, 2) := by decide +kernel
theorem dX0_fold_68 : decode cX0_fold 68 = .ok (.ineg, 1) := by decide +kernel
theorem dX0_fold_69 : decode cX0_fold 69 = .ok (.invokevirtual 36, 3) := by decide +kernel
theorem dX0_fold_72 : decode cX0_fold 72 = .ok (.iload 5, 2) := by decide +kernel
theorem dX0_fold_74 : decode cX0_fold 74 = .ok (.iconst 1, 1) := by decide +kernel
theorem dX0_fold_75 : decode cX0_fold 75 = .ok (.iload 6, 2) := by decide +kernel
theorem dX0_fold_77 : decode cX0_fold 77 = .ok (.invokestatic 23, 3) := by decide +kernel
theorem dX0_fold_80 : decode cX0_fold 80 = .ok (.invokestatic 28, 3) := by decide +kernel
theorem dX0_fold_83 : decode cX0_fold 83 = .ok (.iadd, 1) := by decide +kernel
theorem dX0_fold_84 : decode cX0_fold 84 = .ok (.istore 5, 2) := by decide +kernel
theorem dX0_fold_86 : decode cX0_fold 86 = .ok (.goto (-78), 3) := by decide +kernel
theorem dX0_fold_89 : decode cX0_fold 89 = .ok (.return_, 1) := by decide +kernel
theorem dX0_nextGroup_0 : decode cX0_nextGroup 0 = .ok (.iload_n 2, 1) := by decide +kernel
theorem dX0_nextGroup_1 : decode cX0_nextGroup 1 = .ok (.iload_n 1, 1) := by decide +kernel
theorem dX0_nextGroup_2 : decode cX0_nextGroup 2 = .ok (.sipush 128, 3) := by decide +kernel
theorem dX0_nextGroup_5 : decode cX0_nextGroup 5 = .ok (.iadd, 1) := by decide +kernel
theorem dX0_nextGroup_6 : decode cX0_nextGroup 6 = .ok (.invokestatic 40, 3) := by decide +kernel
theorem dX0_nextGroup_9 : decode cX0_nextGroup 9 = .ok (.istore_n 3, 1) := by decide +kernel
theorem dX0_nextGroup_10 : decode cX0_nextGroup 10 = .ok (.iconst 1, 1) := by decide +kernel
theorem dX0_nextGroup_11 : decode cX0_nextGroup 11 = .ok (.istore 4, 2) := by decide +kernel
theorem dX0_nextGroup_13 : decode cX0_nextGroup 13 = .ok (.iload_n 1, 1) := by decide +kernel
theorem dX0_nextGroup_14 : decode cX0_nextGroup 14 = .ok (.iload 4, 2) := by decide +kernel
theorem dX0_nextGroup_16 : decode cX0_nextGroup 16 = .ok (.iadd, 1) := by decide +kernel
theorem dX0_nextGroup_17 : decode cX0_nextGroup 17 = .ok (.iload_n 3, 1) := by decide +kernel
theorem dX0_nextGroup_18 : decode cX0_nextGroup 18 = .ok (.if_icmp .ge 25, 3) := by decide +kernel
theorem dX0_nextGroup_21 : decode cX0_nextGroup 21 = .ok (.aload_n 0, 1) := by decide +kernel
theorem dX0_nextGroup_22 : decode cX0_nextGroup 22 = .ok (.iload_n 1, 1) := by decide +kernel
theorem dX0_nextGroup_23 : decode cX0_nextGroup 23 = .ok (.iload 4, 2) := by decide +kernel
theorem dX0_nextGroup_25 : decode cX0_nextGroup 25 = .ok (.iadd, 1) := by decide +kernel
theorem dX0_nextGroup_26 : decode cX0_nextGroup 26 = .ok (.invokevirtual 7, 3) := by decide +kernel
theorem dX0_nextGroup_29 : decode cX0_nextGroup 29 = .ok (.aload_n 0, 1) := by decide +kernel
theorem dX0_nextGroup_30 : decode cX0_nextGroup 30 = .ok (.iload_n 1, 1) := by decide +kernel
theorem dX0_nextGroup_31 : decode cX0_nextGroup 31 = .ok (.invokevirtual 7, 3) := by decide +kernel
theorem dX0_nextGroup_34 : decode cX0_nextGroup 34 = .ok (.if_icmp .ne 9, 3) := by decide +kernel
theorem dX0_nextGroup_37 : decode cX0_nextGroup 37 = .ok (.iinc 4 1, 3) := by decide +kernel
theorem dX0_nextGroup_40 : decode cX0_nextGroup 40 = .ok (.goto (-27), 3) := by decide +kernel
theorem dX0_nextGroup_43 : decode cX0_nextGroup 43 = .ok (.iload 4, 2) := by decide +kernel
theorem dX0_nextGroup_45 : decode cX0_nextGroup 45 = .ok (.iconst 3, 1) := by decide +kernel
theorem dX0_nextGroup_46 : decode cX0_nextGroup 46 = .ok (.if_icmp .lt 6, 3) := by decide +kernel
theorem dX0_nextGroup_49 : decode cX0_nextGroup 49 = .ok (.iload 4, 2) := by decide +kernel
theorem dX0_nextGroup_51 : decode cX0_nextGroup 51 = .ok (.ireturn, 1) := by decide +kernel
theorem dX0_nextGroup_52 : decode cX0_nextGroup 52 = .ok (.iload_n 1, 1) := by decide +kernel
theorem dX0_nextGroup_53 : decode cX0_nextGroup 53 = .ok (.iconst 1, 1) := by decide +kernel
theorem dX0_nextGroup_54 : decode cX0_nextGroup 54 = .ok (.iadd, 1) := by decide +kernel
theorem dX0_nextGroup_55 : decode cX0_nextGroup 55 = .ok (.istore 5, 2) := by decide +kernel
theorem dX0_nextGroup_57 : decode cX0_nextGroup 57 = .ok (.iload 5, 2) := by decide +kernel
theorem dX0_nextGroup_59 : decode cX0_nextGroup 59 = .ok (.iload_n 3, 1) := by decide +kernel
theorem dX0_nextGroup_60 : decode cX0_nextGroup 60 = .ok (.if_icmp .ge 56, 3) := by decide +kernel
theorem dX0_nextGroup_63 : decode cX0_nextGroup 63 = .ok (.iload 5, 2) := by decide +kernel
theorem dX0_nextGroup_65 : decode cX0_nextGroup 65 = .ok (.iconst 3, 1) := by decide +kernel
theorem dX0_nextGroup_66 : decode cX0_nextGroup 66 = .ok (.iadd, 1) := by decide +kernel
theorem dX0_nextGroup_67 : decode cX0_nextGroup 67 = .ok (.iload_n 2, 1) := by decide +kernel
theorem dX0_nextGroup_68 : decode cX0_nextGroup 68 = .ok (.if_icmp .gt 42, 3) := by decide +kernel
theorem dX0_nextGroup_71 : decode cX0_nextGroup 71 = .ok (.aload_n 0, 1) := by decide +kernel
theorem dX0_nextGroup_72 : decode cX0_nextGroup 72 = .ok (.iload 5, 2) := by decide +kernel
theorem dX0_nextGroup_74 : decode cX0_nextGroup 74 = .ok (.invokevirtual 7, 3) := by decide +kernel
theorem dX0_nextGroup_77 : decode cX0_nextGroup 77 = .ok (.aload_n 0, 1) := by decide +kernel
theorem dX0_nextGroup_78 : decode cX0_nextGroup 78 = .ok (.iload 5, 2) := by decide +kernel
theorem dX0_nextGroup_80 : decode cX0_nextGroup 80 = .ok (.iconst 1, 1) := by decide +kernel
theorem dX0_nextGroup_81 : decode cX0_nextGroup 81 = .ok (.iadd, 1) := by decide +kernel
theorem dX0_nextGroup_82 : decode cX0_nextGroup 82 = .ok (.invokevirtual 7, 3) := by decide +kernel
theorem dX0_nextGroup_85 : decode cX0_nextGroup 85 = .ok (.if_icmp .ne 25, 3) := by decide +kernel
theorem dX0_nextGroup_88 : decode cX0_nextGroup 88 = .ok (.aload_n 0, 1) := by decide +kernel
theorem dX0_nextGroup_89 : decode cX0_nextGroup 89 = .ok (.iload 5, 2) := by decide +kernel
theorem dX0_nextGroup_91 : decode cX0_nextGroup 91 = .ok (.invokevirtual 7, 3) := by decide +kernel
theorem dX0_nextGroup_94 : decode cX0_nextGroup 94 = .ok (.aload_n 0, 1) := by decide +kernel
theorem dX0_nextGroup_95 : decode cX0_nextGroup 95 = .ok (.iload 5, 2) := by decide +kernel
theorem dX0_nextGroup_97 : decode cX0_nextGroup 97 = .ok (.iconst 2, 1) := by decide +kernel
theorem dX0_nextGroup_98 : decode cX0_nextGroup 98 = .ok (.iadd, 1) := by decide +kernel
theorem dX0_nextGroup_99 : decode cX0_nextGroup 99 = .ok (.invokevirtual 7, 3) := by decide +kernel
theorem dX0_nextGroup_102 : decode cX0_nextGroup 102 = .ok (.if_icmp .ne 8, 3) := by decide +kernel
theorem dX0_nextGroup_105 : decode cX0_nextGroup 105 = .ok (.iload_n 1, 1) := by decide +kernel
theorem dX0_nextGroup_106 : decode cX0_nextGroup 106 = .ok (.iload 5, 2) := by decide +kernel
theorem dX0_nextGroup_108 : decode cX0_nextGroup 108 = .ok (.isub, 1) := by decide +kernel
theorem dX0_nextGroup_109 : decode cX0_nextGroup 109 = .ok (.ireturn, 1) := by decide +kernel
theorem dX0_nextGroup_110 : decode cX0_nextGroup 110 = .ok (.iinc 5 1, 3) := by decide +kernel
theorem dX0_nextGroup_113 : decode cX0_nextGroup 113 = .ok (.goto (-56), 3) := by decide +kernel
theorem dX0_nextGroup_116 : decode cX0_nextGroup 116 = .ok (.iload_n 1, 1) := by decide +kernel
theorem dX0_nextGroup_117 : decode cX0_nextGroup 117 = .ok (.iload_n 3, 1) := by decide +kernel
theorem dX0_nextGroup_118 : decode cX0_nextGroup 118 = .ok (.isub, 1) := by decide +kernel
theorem dX0_nextGroup_119 : decode cX0_nextGroup 119 = .ok (.ireturn, 1) := by decide +kernel
theorem dX0_unfold_0 : decode cX0_unfold 0 = .ok (.aload_n 0, 1) := by decide +kernel
theorem dX0_unfold_1 : decode cX0_unfold 1 = .ok (.iload_n 1, 1) := by decide +kernel
theorem dX0_unfold_2 : decode cX0_unfold 2 = .ok (.iload_n 2, 1) := by decide +kernel
theorem dX0_unfold_3 : decode cX0_unfold 3 = .ok (.invokevirtual 43, 3) := by decide +kernel
theorem dX0_unfold_6 : decode cX0_unfold 6 = .ok (.ifCond .ne 5, 3) := by decide +kernel
theorem dX0_unfold_9 : decode cX0_unfold 9 = .ok (.iconst 0, 1) := by decide +kernel
theorem dX0_unfold_10 : decode cX0_unfold 10 = .ok (.ireturn, 1) := by decide +kernel
theorem dX0_unfold_11 : decode cX0_unfold 11 = .ok (.iload_n 1, 1) := by decide +kernel
theorem dX0_unfold_12 : decode cX0_unfold 12 = .ok (.iload_n 2, 1) := by decide +kernel
theorem dX0_unfold_13 : decode cX0_unfold 13 = .ok (.iadd, 1) := by decide +kernel
theorem dX0_unfold_14 : decode cX0_unfold 14 = .ok (.istore 4, 2) := by decide +kernel
theorem dX0_unfold_16 : decode cX0_unfold 16 = .ok (.iload_n 1, 1) := by decide +kernel
theorem dX0_unfold_17 : decode cX0_unfold 17 = .ok (.istore 5, 2) := by decide +kernel
theorem dX0_unfold_19 : decode cX0_unfold 19 = .ok (.iload 5, 2) := by decide +kernel
theorem dX0_unfold_21 : decode cX0_unfold 21 = .ok (.iload 4, 2) := by decide +kernel
theorem dX0_unfold_23 : decode cX0_unfold 23 = .ok (.if_icmp .ge 148, 3) := by decide +kernel
theorem dX0_unfold_26 : decode cX0_unfold 26 = .ok (.aload_n 0, 1) := by decide +kernel
theorem dX0_unfold_27 : decode cX0_unfold 27 = .ok (.iload 5, 2) := by decide +kernel
theorem dX0_unfold_29 : decode cX0_unfold 29 = .ok (.invokevirtual 7, 3) := by decide +kernel
theorem dX0_unfold_32 : decode cX0_unfold 32 = .ok (.istore 6, 2) := by decide +kernel
theorem dX0_unfold_34 : decode cX0_unfold 34 = .ok (.iload 6, 2) := by decide +kernel
theorem dX0_unfold_36 : decode cX0_unfold 36 = .ok (.sipush 128, 3) := by decide +kernel
theorem dX0_unfold_39 : decode cX0_unfold 39 = .ok (.if_icmp .ge 10, 3) := by decide +kernel
theorem dX0_unfold_42 : decode cX0_unfold 42 = .ok (.iload 6, 2) := by decide +kernel
theorem dX0_unfold_44 : decode cX0_unfold 44 = .ok (.iconst 1, 1) := by decide +kernel
theorem dX0_unfold_45 : decode cX0_unfold 45 = .ok (.iadd, 1) := by decide +kernel
theorem dX0_unfold_46 : decode cX0_unfold 46 = .ok (.goto 16, 3) := by decide +kernel
theorem dX0_unfold_49 : decode cX0_unfold 49 = .ok (.iload 6, 2) := by decide +kernel
theorem dX0_unfold_51 : decode cX0_unfold 51 = .ok (.sipush 128, 3) := by decide +kernel
theorem dX0_unfold_54 : decode cX0_unfold 54 = .ok (.if_icmp .ne 7, 3) := by decide +kernel
theorem dX0_unfold_57 : decode cX0_unfold 57 = .ok (.iconst 0, 1) := by decide +kernel
theorem dX0_unfold_58 : decode cX0_unfold 58 = .ok (.goto 4, 3) := by decide +kernel
theorem dX0_unfold_61 : decode cX0_unfold 61 = .ok (.iconst 1, 1) := by decide +kernel
theorem dX0_unfold_62 : decode cX0_unfold 62 = .ok (.istore 7, 2) := by decide +kernel
theorem dX0_unfold_64 : decode cX0_unfold 64 = .ok (.iload 6, 2) := by decide +kernel
theorem dX0_unfold_66 : decode cX0_unfold 66 = .ok (.sipush 128, 3) := by decide +kernel
theorem dX0_unfold_69 : decode cX0_unfold 69 = .ok (.if_icmp .ge 10, 3) := by decide +kernel
theorem dX0_unfold_72 : decode cX0_unfold 72 = .ok (.iload 6, 2) := by decide +kernel
theorem dX0_unfold_74 : decode cX0_unfold 74 = .ok (.iconst 1, 1) := by decide +kernel
theorem dX0_unfold_75 : decode cX0_unfold 75 = .ok (.iadd, 1) := by decide +kernel
theorem dX0_unfold_76 : decode cX0_unfold 76 = .ok (.goto 21, 3) := by decide +kernel
theorem dX0_unfold_79 : decode cX0_unfold 79 = .ok (.iload 6, 2) := by decide +kernel
theorem dX0_unfold_81 : decode cX0_unfold 81 = .ok (.sipush 128, 3) := by decide +kernel
theorem dX0_unfold_84 : decode cX0_unfold 84 = .ok (.if_icmp .ne 7, 3) := by decide +kernel
theorem dX0_unfold_87 : decode cX0_unfold 87 = .ok (.iconst 0, 1) := by decide +kernel
theorem dX0_unfold_88 : decode cX0_unfold 88 = .ok (.goto 9, 3) := by decide +kernel
theorem dX0_unfold_91 : decode cX0_unfold 91 = .ok (.sipush 257, 3) := by decide +kernel
theorem dX0_unfold_94 : decode cX0_unfold 94 = .ok (.iload 6, 2) := by decide +kernel
theorem dX0_unfold_96 : decode cX0_unfold 96 = .ok (.isub, 1) := by decide +kernel
theorem dX0_unfold_97 : decode cX0_unfold 97 = .ok (.istore 8, 2) := by decide +kernel
theorem dX0_unfold_99 : decode cX0_unfold 99 = .ok (.iload 7, 2) := by decide +kernel
theorem dX0_unfold_101 : decode cX0_unfold 101 = .ok (.iload 4, 2) := by decide +kernel
theorem dX0_unfold_103 : decode cX0_unfold 103 = .ok (.iload 5, 2) := by decide +kernel
theorem dX0_unfold_105 : decode cX0_unfold 105 = .ok (.isub, 1) := by decide +kernel
theorem dX0_unfold_106 : decode cX0_unfold 106 = .ok (.iconst 1, 1) := by decide +kernel
theorem dX0_unfold_107 : decode cX0_unfold 107 = .ok (.isub, 1) := by decide +kernel
theorem dX0_unfold_108 : decode cX0_unfold 108 = .ok (.if_icmp .gt 12, 3) := by decide +kernel
theorem dX0_unfold_111 : decode cX0_unfold 111 = .ok (.iload 8, 2) := by decide +kernel
theorem dX0_unfold_113 : decode cX0_unfold 113 = .ok (.aload_n 3, 1) := by decide +kernel
theorem dX0_unfold_114 : decode cX0_unfold 114 = .ok (.invokevirtual 47, 3) := by decide +kernel
theorem dX0_unfold_117 : decode cX0_unfold 117 = .ok (.if_icmp .le 5, 3) := by decide +kernel
theorem dX0_unfold_120 : decode cX0_unfold 120 = .ok (.iconst 0, 1) := by decide +kernel
theorem dX0_unfold_121 : decode cX0_unfold 121 = .ok (.ireturn, 1) := by decide +kernel
theorem dX0_unfold_122 : decode cX0_unfold 122 = .ok (.iload 6, 2) := by decide +kernel
theorem dX0_unfold_124 : decode cX0_unfold 124 = .ok (.sipush 128, 3) := by decide +kernel
theorem dX0_unfold_127 : decode cX0_unfold 127 = .ok (.if_icmp .ge 17, 3) := by decide +kernel
theorem dX0_unfold_130 : decode cX0_unfold 130 = .ok (.aload_n 3, 1) := by decide +kernel
theorem dX0_unfold_131 : decode cX0_unfold 131 = .ok (.aload_n 0, 1) := by decide +kernel
theorem dX0_unfold_132 : decode cX0_unfold 132 = .ok (.iload 5, 2) := by decide +kernel
theorem dX0_unfold_134 : decode cX0_unfold 134 = .ok (.iconst 1, 1) := by decide +kernel
theorem dX0_unfold_135 : decode cX0_unfold 135 = .ok (.iadd, 1) := by decide +kernel
theorem dX0_unfold_136 : decode cX0_unfold 136 = .ok (.iload 7, 2) := by decide +kernel
theorem dX0_unfold_138 : decode cX0_unfold 138 = .ok (.invokevirtual 36, 3) := by decide +kernel
theorem dX0_unfold_141 : decode cX0_unfold 141 = .ok (.goto 17, 3) := by decide +kernel
theorem dX0_unfold_144 : decode cX0_unfold 144 = .ok (.aload_n 0, 1) := by decide +kernel
theorem dX0_unfold_145 : decode cX0_unfold 145 = .ok (.iload 5, 2) := by decide +kernel
theorem dX0_unfold_147 : decode cX0_unfold 147 = .ok (.iconst 1, 1) := by decide +kernel
theorem dX0_unfold_148 : decode cX0_unfold 148 = .ok (.iadd, 1) := by decide +kernel
theorem dX0_unfold_149 : decode cX0_unfold 149 = .ok (.invokevirtual 7, 3) := by decide +kernel
theorem dX0_unfold_152 : decode cX0_unfold 152 = .ok (.iload 8, 2) := by decide +kernel
theorem dX0_unfold_154 : decode cX0_unfold 154 = .ok (.aload_n 3, 1) := by decide +kernel
theorem dX0_unfold_155 : decode cX0_unfold 155 = .ok (.invokestatic 51, 3) := by decide +kernel
theorem dX0_unfold_158 : decode cX0_unfold 158 = .ok (.iload 5, 2) := by decide +kernel
theorem dX0_unfold_160 : decode cX0_unfold 160 = .ok (.iload 7, 2) := by decide +kernel
theorem dX0_unfold_162 : decode cX0_unfold 162 = .ok (.iadd, 1) := by decide +kernel
theorem dX0_unfold_163 : decode cX0_unfold 163 = .ok (.istore 5, 2) := by decide +kernel
theorem dX0_unfold_165 : decode cX0_unfold 165 = .ok (.iinc 5 1, 3) := by decide +kernel
theorem dX0_unfold_168 : decode cX0_unfold 168 = .ok (.goto (-149), 3) := by decide +kernel
theorem dX0_unfold_171 : decode cX0_unfold 171 = .ok (.iconst 1, 1) := by decide +kernel
theorem dX0_unfold_172 : decode cX0_unfold 172 = .ok (.ireturn, 1) := by decide +kernel
theorem dX0_repeat_0 : decode cX0_repeat 0 = .ok (.iconst 0, 1) := by decide +kernel
theorem dX0_repeat_1 : decode cX0_repeat 1 = .ok (.istore_n 3, 1) := by decide +kernel
theorem dX0_repeat_2 : decode cX0_repeat 2 = .ok (.iload_n 3, 1) := by decide +kernel
theorem dX0_repeat_3 : decode cX0_repeat 3 = .ok (.iload_n 1, 1) := by decide +kernel
theorem dX0_repeat_4 : decode cX0_repeat 4 = .ok (.if_icmp .ge 14, 3) := by decide +kernel
theorem dX0_repeat_7 : decode cX0_repeat 7 = .ok (.aload_n 2, 1) := by decide +kernel
theorem dX0_repeat_8 : decode cX0_repeat 8 = .ok (.iload_n 0, 1) := by decide +kernel
theorem dX0_repeat_9 : decode cX0_repeat 9 = .ok (.invokevirtual 32, 3) := by decide +kernel
theorem dX0_repeat_12 : decode cX0_repeat 12 = .ok (.iinc 3 1, 3) := by decide +kernel
theorem dX0_repeat_15 : decode cX0_repeat 15 = .ok (.goto (-13), 3) := by decide +kernel
theorem dX0_repeat_18 : decode cX0_repeat 18 = .ok (.return_, 1) := by decide +kernel
theorem dX1_init_0 : decode cX1_init 0 = .ok (.aload_n 0, 1) := by decide +kernel
theorem dX1_init_1 : decode cX1_init 1 = .ok (.invokespecial 3, 3) := by decide +kernel
theorem dX1_init_4 : decode cX1_init 4 = .ok (.aload_n 0, 1) := by decide +kernel
theorem dX1_init_5 : decode cX1_init 5 = .ok (.new 9, 3) := by decide +kernel
theorem dX1_init_8 : decode cX1_init 8 = .ok (.dup, 1) := by decide +kernel
theorem dX1_init_9 : decode cX1_init 9 = .ok (.bipush 30, 2) := by decide +kernel
theorem dX1_init_11 : decode cX1_init 11 = .ok (.invokespecial 11, 3) := by decide +kernel
theorem dX1_init_14 : decode cX1_init 14 = .ok (.putfield 14, 3) := by decide +kernel
theorem dX1_init_17 : decode cX1_init 17 = .ok (.return_, 1) := by decide +kernel
theorem dX1_method_0 : decode cX1_method 0 = .ok (.aload_n 0, 1) := by decide +kernel
theorem dX1_method_1 : decode cX1_method 1 = .ok (.getfield 20, 3) := by decide +kernel
theorem dX1_method_4 : decode cX1_method 4 = .ok (.aload_n 0, 1) := by decide +kernel
theorem dX1_method_5 : decode cX1_method 5 = .ok (.getfield 24, 3) := by decide +kernel
theorem dX1_method_8 : decode cX1_method 8 = .ok (.if_icmp .ge 8, 3) := by decide +kernel
theorem dX1_method_11 : decode cX1_method 11 = .ok (.bipush 99, 2) := by decide +kernel
theorem dX1_method_13 : decode cX1_method 13 = .ok (.goto 4, 3) := by decide +kernel
theorem dX1_method_16 : decode cX1_method 16 = .ok (.iconst 0, 1) := by decide +kernel
theorem dX1_method_17 : decode cX1_method 17 = .ok (.ireturn, 1) := by decide +kernel
theorem dX1_localSize_0 : decode cX1_localSize 0 = .ok (.bipush 30, 2) := by decide +kernel
theorem dX1_localSize_2 : decode cX1_localSize 2 = .ok (.aload_n 0, 1) := by decide +kernel
theorem dX1_localSize_3 : decode cX1_localSize 3 = .ok (.getfield 14, 3) := by decide +kernel
theorem dX1_localSize_6 : decode cX1_localSize 6 = .ok (.invokevirtual 27, 3) := by decide +kernel
theorem dX1_localSize_9 : decode cX1_localSize 9 = .ok (.iadd, 1) := by decide +kernel
theorem dX1_localSize_10 : decode cX1_localSize 10 = .ok (.aload_n 0, 1) := by decide +kernel
theorem dX1_localSize_11 : decode cX1_localSize 11 = .ok (.getfield 20, 3) := by decide +kernel
theorem dX1_localSize_14 : decode cX1_localSize 14 = .ok (.iadd, 1) := by decide +kernel
theorem dX1_localSize_15 : decode cX1_localSize 15 = .ok (.ireturn, 1) := by decide +kernel
theorem dX1_setName_0 : decode cX1_setName 0 = .ok (.aload_n 0, 1) := by decide +kernel
theorem dX1_setName_1 : decode cX1_setName 1 = .ok (.getfield 14, 3) := by decide +kernel
theorem dX1_setName_4 : decode cX1_setName 4 = .ok (.iconst 0, 1) := by decide +kernel
theorem dX1_setName_5 : decode cX1_setName 5 = .ok (.invokevirtual 30, 3) := by decide +kernel
theorem dX1_setName_8 : decode cX1_setName 8 = .ok (.pop, 1) := by decide +kernel
theorem dX1_setName_9 : decode cX1_setName 9 = .ok (.aload_n 0, 1) := by decide +kernel
theorem dX1_setName_10 : decode cX1_setName 10 = .ok (.getfield 14, 3) := by decide +kernel
theorem dX1_setName_13 : decode cX1_setName 13 = .ok (.aload_n 1, 1) := by decide +kernel
theorem dX1_setName_14 : decode cX1_setName 14 = .ok (.iload_n 2, 1) := by decide +kernel
theorem dX1_setName_15 : decode cX1_setName 15 = .ok (.iload_n 3, 1) := by decide +kernel
theorem dX1_setName_16 : decode cX1_setName 16 = .ok (.invokevirtual 34, 3) := by decide +kernel
theorem dX1_setName_19 : decode cX1_setName 19 = .ok (.return_, 1) := by decide +kernel
theorem dX2_init_0 : decode cX2_init 0 = .ok (.aload_n 0, 1) := by decide +kernel
theorem dX2_init_1 : decode cX2_init 1 = .ok (.invokespecial 3, 3) := by decide +kernel
theorem dX2_init_4 : decode cX2_init 4 = .ok (.return_, 1) := by decide +kernel
theorem dX2_parse_0 : decode cX2_parse 0 = .ok (.aload_n 1, 1) := by decide +kernel
theorem dX2_parse_1 : decode cX2_parse 1 = .ok (.iload_n 2, 1) := by decide +kernel
theorem dX2_parse_2 : decode cX2_parse 2 = .ok (.bipush 26, 2) := by decide +kernel
theorem dX2_parse_4 : decode cX2_parse 4 = .ok (.invokevirtual 9, 3) := by decide +kernel
theorem dX2_parse_7 : decode cX2_parse 7 = .ok (.ifCond .ne 5, 3) := by decide +kernel
theorem dX2_parse_10 : decode cX2_parse 10 = .ok (.iconst 0, 1) := by decide +kernel
theorem dX2_parse_11 : decode cX2_parse 11 = .ok (.ireturn, 1) := by decide +kernel
theorem dX2_parse_12 : decode cX2_parse 12 = .ok (.aload_n 0, 1) := by decide +kernel
theorem dX2_parse_13 : decode cX2_parse 13 = .ok (.aload_n 1, 1) := by decide +kernel
theorem dX2_parse_14 : decode cX2_parse 14 = .ok (.iload_n 2, 1) := by decide +kernel
theorem dX2_parse_15 : decode cX2_parse 15 = .ok (.iconst 4, 1) := by decide +kernel
theorem dX2_parse_16 : decode cX2_parse 16 = .ok (.iadd, 1) := by decide +kernel
theorem dX2_parse_17 : decode cX2_parse 17 = .ok (.invokevirtual 15, 3) := by decide +kernel
theorem dX2_parse_20 : decode cX2_parse 20 = .ok (.putfield 19, 3) := by decide +kernel
theorem dX2_parse_23 : decode cX2_parse 23 = .ok (.aload_n 0, 1) := by decide +kernel
theorem dX2_parse_24 : decode cX2_parse 24 = .ok (.aload_n 1, 1) := by decide +kernel
theorem dX2_parse_25 : decode cX2_parse 25 = .ok (.iload_n 2, 1) := by decide +kernel
theorem dX2_parse_26 : decode cX2_parse 26 = .ok (.bipush 10, 2) := by decide +kernel
theorem dX2_parse_28 : decode cX2_parse 28 = .ok (.iadd, 1) := by decide +kernel
theorem dX2_parse_29 : decode cX2_parse 29 = .ok (.invokevirtual 25, 3) := by decide +kernel
theorem dX2_parse_32 : decode cX2_parse 32 = .ok (.l2i, 1) := by decide +kernel
theorem dX2_parse_33 : decode cX2_parse 33 = .ok (.putfield 29, 3) := by decide +kernel
theorem dX2_parse_36 : decode cX2_parse 36 = .ok (.aload_n 0, 1) := by decide +kernel
theorem dX2_parse_37 : decode cX2_parse 37 = .ok (.aload_n 1, 1) := by decide +kernel
theorem dX2_parse_38 : decode cX2_parse 38 = .ok (.iload_n 2, 1) := by decide +kernel
theorem dX2_parse_39 : decode cX2_parse 39 = .ok (.bipush 14, 2) := by decide +kernel
theorem dX2_parse_41 : decode cX2_parse 41 = .ok (.iadd, 1) := by decide +kernel
theorem dX2_parse_42 : decode cX2_parse 42 = .ok (.invokevirtual 25, 3) := by decide +kernel
theorem dX2_parse_45 : decode cX2_parse 45 = .ok (.putfield 32, 3) := by decide +kernel
theorem dX2_parse_48 : decode cX2_parse 48 = .ok (.aload_n 0, 1) := by decide +kernel
theorem dX2_parse_49 : decode cX2_parse 49 = .ok (.aload_n 1, 1) := by decide +kernel
theorem dX2_parse_50 : decode cX2_parse 50 = .ok (.iload_n 2, 1) := by decide +kernel
theorem dX2_parse_51 : decode cX2_parse 51 = .ok (.bipush 18, 2) := by decide +kernel
theorem dX2_parse_53 : decode cX2_parse 53 = .ok (.iadd, 1) := by decide +kernel
theorem dX2_parse_54 : decode cX2_parse 54 = .ok (.invokevirtual 25, 3) := by decide +kernel
theorem dX2_parse_57 : decode cX2_parse 57 = .ok (.putfield 36, 3) := by decide +kernel
theorem dX2_parse_60 : decode cX2_parse 60 = .ok (.aload_n 0, 1) := by decide +kernel
theorem dX2_parse_61 : decode cX2_parse 61 = .ok (.aload_n 1, 1) := by decide +kernel
theorem dX2_parse_62 : decode cX2_parse 62 = .ok (.iload_n 2, 1) := by decide +kernel
theorem dX2_parse_63 : decode cX2_parse 63 = .ok (.bipush 22, 2) := by decide +kernel
theorem dX2_parse_65 : decode cX2_parse 65 = .ok (.iadd, 1) := by decide +kernel
theorem dX2_parse_66 : decode cX2_parse 66 = .ok (.invokevirtual 15, 3) := by decide +kernel
theorem dX2_parse_69 : decode cX2_parse 69 = .ok (.putfield 39, 3) := by decide +kernel
theorem dX2_parse_72 : decode cX2_parse 72 = .ok (.aload_n 1, 1) := by decide +kernel
theorem dX2_parse_73 : decode cX2_parse 73 = .ok (.iload_n 2, 1) := by decide +kernel
theorem dX2_parse_74 : decode cX2_parse 74 = .ok (.invokevirtual 15, 3) := by decide +kernel
theorem dX2_parse_77 : decode cX2_parse 77 = .ok (.bipush 20, 2) := by decide +kernel
theorem dX2_parse_79 : decode cX2_parse 79 = .ok (.if_icmp .ne 85, 3) := by decide +kernel
theorem dX2_parse_82 : decode cX2_parse 82 = .ok (.aload_n 1, 1) := by decide +kernel
theorem dX2_parse_83 : decode cX2_parse 83 = .ok (.iload_n 2, 1) := by decide +kernel
theorem dX2_parse_84 : decode cX2_parse 84 = .ok (.iconst 2, 1) := by decide +kernel
theorem dX2_parse_85 : decode cX2_parse 85 = .ok (.iadd, 1) := by decide +kernel
theorem dX2_parse_86 : decode cX2_parse 86 = .ok (.invokevirtual 15, 3) := by decide +kernel
theorem dX2_parse_89 : decode cX2_parse 89 = .ok (.ifCond .ne 75, 3) := by decide +kernel
theorem dX2_parse_92 : decode cX2_parse 92 = .ok (.aload_n 0, 1) := by decide +kernel
theorem dX2_parse_93 : decode cX2_parse 93 = .ok (.getfield 19, 3) := by decide +kernel
theorem dX2_parse_96 : decode cX2_parse 96 = .ok (.ifCond .eq 12, 3) := by decide +kernel
theorem dX2_parse_99 : decode cX2_parse 99 = .ok (.aload_n 0, 1) := by decide +kernel
theorem dX2_parse_100 : decode cX2_parse 100 = .ok (.getfield 19, 3) := by decide +kernel
theorem dX2_parse_103 : decode cX2_parse 103 = .ok (.bipush 99, 2) := by decide +kernel
theorem dX2_parse_105 : decode cX2_parse 105 = .ok (.if_icmp .ne 59, 3) := by decide +kernel
theorem dX2_parse_108 : decode cX2_parse 108 = .ok (.aload_n 1, 1) := by decide +kernel
theorem dX2_parse_109 : decode cX2_parse 109 = .ok (.iload_n 2, 1) := by decide +kernel
theorem dX2_parse_110 : decode cX2_parse 110 = .ok (.bipush 6, 2) := by decide +kernel
theorem dX2_parse_112 : decode cX2_parse 112 = .ok (.iadd, 1) := by decide +kernel
theorem dX2_parse_113 : decode cX2_parse 113 = .ok (.invokevirtual 15, 3) := by decide +kernel
theorem dX2_parse_116 : decode cX2_parse 116 = .ok (.ifCond .ne 48, 3) := by decide +kernel
theorem dX2_parse_119 : decode cX2_parse 119 = .ok (.aload_n 1, 1) := by decide +kernel
theorem dX2_parse_120 : decode cX2_parse 120 = .ok (.iload_n 2, 1) := by decide +kernel
theorem dX2_parse_121 : decode cX2_parse 121 = .ok (.bipush 8, 2) := by decide +kernel
theorem dX2_parse_123 : decode cX2_parse 123 = .ok (.iadd, 1) := by decide +kernel
theorem dX2_parse_124 : decode cX2_parse 124 = .ok (.invokevirtual 15, 3) := by decide +kernel
theorem dX2_parse_127 : decode cX2_parse 127 = .ok (.bipush 33, 2) := by decide +kernel
theorem dX2_parse_129 : decode cX2_parse 129 = .ok (.if_icmp .ne 35, 3) := by decide +kernel
theorem dX2_parse_132 : decode cX2_parse 132 = .ok (.aload_n 0, 1) := by decide +kernel
theorem dX2_parse_133 : decode cX2_parse 133 = .ok (.getfield 39, 3) := by decide +kernel
theorem dX2_parse_136 : decode cX2_parse 136 = .ok (.iconst 1, 1) := by decide +kernel
theorem dX2_parse_137 : decode cX2_parse 137 = .ok (.if_icmp .lt 27, 3) := by decide +kernel
theorem dX2_parse_140 : decode cX2_parse 140 = .ok (.aload_n 0, 1) := by decide +kernel
theorem dX2_parse_141 : decode cX2_parse 141 = .ok (.getfield 39, 3) := by decide +kernel
theorem dX2_parse_144 : decode cX2_parse 144 = .ok (.bipush 30, 2) := by decide +kernel
theorem dX2_parse_146 : decode cX2_parse 146 = .ok (.if_icmp .gt 18, 3) := by decide +kernel
theorem dX2_parse_149 : decode cX2_parse 149 = .ok (.aload_n 1, 1) := by decide +kernel
theorem dX2_parse_150 : decode cX2_parse 150 = .ok (.iload_n 2, 1) := by decide +kernel
theorem dX2_parse_151 : decode cX2_parse 151 = .ok (.bipush 24, 2) := by decide +kernel
theorem dX2_parse_153 : decode cX2_parse 153 = .ok (.iadd, 1) := by decide +kernel
theorem dX2_parse_154 : decode cX2_parse 154 = .ok (.invokevirtual 15, 3) := by decide +kernel
theorem dX2_parse_157 : decode cX2_parse 157 = .ok (.ifCond .ne 7, 3) := by decide +kernel
theorem dX2_parse_160 : decode cX2_parse 160 = .ok (.iconst 1, 1) := by decide +kernel
theorem dX2_parse_161 : decode cX2_parse 161 = .ok (.goto 4, 3) := by decide +kernel
theorem dX2_parse_164 : decode cX2_parse 164 = .ok (.iconst 0, 1) := by decide +kernel
theorem dX2_parse_165 : decode cX2_parse 165 = .ok (.ireturn, 1) := by decide +kernel
theorem dX2_sizesFit_0 : decode cX2_sizesFit 0 = .ok (.aload_n 0, 1) := by decide +kernel
theorem dX2_sizesFit_1 : decode cX2_sizesFit 1 = .ok (.getfield 36, 3) := by decide +kernel
theorem dX2_sizesFit_4 : decode cX2_sizesFit 4 = .ok (.ldc2_w 42, 3) := by decide +kernel
theorem dX2_sizesFit_7 : decode cX2_sizesFit 7 = .ok (.lcmp, 1) := by decide +kernel
theorem dX2_sizesFit_8 : decode cX2_sizesFit 8 = .ok (.ifCond .gt 26, 3) := by decide +kernel
theorem dX2_sizesFit_11 : decode cX2_sizesFit 11 = .ok (.aload_n 0, 1) := by decide +kernel
theorem dX2_sizesFit_12 : decode cX2_sizesFit 12 = .ok (.getfield 19, 3) := by decide +kernel
theorem dX2_sizesFit_15 : decode cX2_sizesFit 15 = .ok (.ifCond .ne 15, 3) := by decide +kernel
theorem dX2_sizesFit_18 : decode cX2_sizesFit 18 = .ok (.aload_n 0, 1) := by decide +kernel
theorem dX2_sizesFit_19 : decode cX2_sizesFit 19 = .ok (.getfield 32, 3) := by decide +kernel
theorem dX2_sizesFit_22 : decode cX2_sizesFit 22 = .ok (.aload_n 0, 1) := by decide +kernel
theorem dX2_sizesFit_23 : decode cX2_sizesFit 23 = .ok (.getfield 36, 3) := by decide +kernel
theorem dX2_sizesFit_26 : decode cX2_sizesFit 26 = .ok (.lcmp, 1) := by decide +kernel
theorem dX2_sizesFit_27 : decode cX2_sizesFit 27 = .ok (.ifCond .ne 7, 3) := by decide +kernel
theorem dX2_sizesFit_30 : decode cX2_sizesFit 30 = .ok (.iconst 1, 1) := by decide +kernel
theorem dX2_sizesFit_31 : decode cX2_sizesFit 31 = .ok (.goto 4, 3) := by decide +kernel
theorem dX2_sizesFit_34 : decode cX2_sizesFit 34 = .ok (.iconst 0, 1) := by decide +kernel
theorem dX2_sizesFit_35 : decode cX2_sizesFit 35 = .ok (.ireturn, 1) := by decide +kernel
theorem dX3_init_0 : decode cX3_init 0 = .ok (.aload_n 0, 1) := by decide +kernel
theorem dX3_init_1 : decode cX3_init 1 = .ok (.invokespecial 3, 3) := by decide +kernel
theorem dX3_init_4 : decode cX3_init 4 = .ok (.aload_n 0, 1) := by decide +kernel
theorem dX3_init_5 : decode cX3_init 5 = .ok (.bipush 20, 2) := by decide +kernel
theorem dX3_init_7 : decode cX3_init 7 = .ok (.newarray .int, 2) := by decide +kernel
theorem dX3_init_9 : decode cX3_init 9 = .ok (.putfield 9, 3) := by decide +kernel
theorem dX3_init_12 : decode cX3_init 12 = .ok (.aload_n 0, 1) := by decide +kernel
theorem dX3_init_13 : decode cX3_init 13 = .ok (.bipush 20, 2) := by decide +kernel
theorem dX3_init_15 : decode cX3_init 15 = .ok (.newarray .int, 2) := by decide +kernel
theorem dX3_init_17 : decode cX3_init 17 = .ok (.putfield 15, 3) := by decide +kernel
theorem dX3_init_20 : decode cX3_init 20 = .ok (.aload_n 0, 1) := by decide +kernel
theorem dX3_init_21 : decode cX3_init 21 = .ok (.new 18, 3) := by decide +kernel
theorem dX3_init_24 : decode cX3_init 24 = .ok (.dup, 1) := by decide +kernel
theorem dX3_init_25 : decode cX3_init 25 = .ok (.invokespecial 20, 3) := by decide +kernel
theorem dX3_init_28 : decode cX3_init 28 = .ok (.putfield 21, 3) := by decide +kernel
theorem dX3_init_31 : decode cX3_init 31 = .ok (.aload_n 0, 1) := by decide +kernel
theorem dX3_init_32 : decode cX3_init 32 = .ok (.new 25, 3) := by decide +kernel
theorem dX3_init_35 : decode cX3_init 35 = .ok (.dup, 1) := by decide +kernel
theorem dX3_init_36 : decode cX3_init 36 = .ok (.sipush 1500, 3) := by decide +kernel
theorem dX3_init_39 : decode cX3_init 39 = .ok (.invokespecial 27, 3) := by decide +kernel
theorem dX3_init_42 : decode cX3_init 42 = .ok (.putfield 30, 3) := by decide +kernel
theorem dX3_init_45 : decode cX3_init 45 = .ok (.aload_n 0, 1) := by decide +kernel
theorem dX3_init_46 : decode cX3_init 46 = .ok (.iconst (-1), 1) := by decide +kernel
theorem dX3_init_47 : decode cX3_init 47 = .ok (.putfield 34, 3) := by decide +kernel
theorem dX3_init_50 : decode cX3_init 50 = .ok (.aload_n 0, 1) := by decide +kernel
theorem dX3_init_51 : decode cX3_init 51 = .ok (.iconst (-1), 1) := by decide +kernel
theorem dX3_init_52 : decode cX3_init 52 = .ok (.putfield 38, 3) := by decide +kernel
theorem dX3_init_55 : decode cX3_init 55 = .ok (.aload_n 0, 1) := by decide +kernel
theorem dX3_init_56 : decode cX3_init 56 = .ok (.iconst (-1), 1) := by decide +kernel
theorem dX3_init_57 : decode cX3_init 57 = .ok (.putfield 41, 3) := by decide +kernel
theorem dX3_init_60 : decode cX3_init 60 = .ok (.return_, 1) := by decide +kernel
theorem dX3_faultNumber_0 : decode cX3_faultNumber 0 = .ok (.aload_n 0, 1) := by decide +kernel
theorem dX3_faultNumber_1 : decode cX3_faultNumber 1 = .ok (.getfield 34, 3) := by decide +kernel
theorem dX3_faultNumber_4 : decode cX3_faultNumber 4 = .ok (.ireturn, 1) := by decide +kernel
theorem dX3_faultFile_0 : decode cX3_faultFile 0 = .ok (.aload_n 0, 1) := by decide +kernel
theorem dX3_faultFile_1 : decode cX3_faultFile 1 = .ok (.getfield 38, 3) := by decide +kernel
theorem dX3_faultFile_4 : decode cX3_faultFile 4 = .ok (.ireturn, 1) := by decide +kernel
theorem dX3_faultPlace_0 : decode cX3_faultPlace 0 = .ok (.aload_n 0, 1) := by decide +kernel
theorem dX3_faultPlace_1 : decode cX3_faultPlace 1 = .ok (.getfield 41, 3) := by decide +kernel
theorem dX3_faultPlace_4 : decode cX3_faultPlace 4 = .ok (.ireturn, 1) := by decide +kernel
theorem dX3_nameSize_0 : decode cX3_nameSize 0 = .ok (.aload_n 0, 1) := by decide +kernel
theorem dX3_nameSize_1 : decode cX3_nameSize 1 = .ok (.getfield 21, 3) := by decide +kernel
theorem dX3_nameSize_4 : decode cX3_nameSize 4 = .ok (.getfield 44, 3) := by decide +kernel
theorem dX3_nameSize_7 : decode cX3_nameSize 7 = .ok (.ireturn, 1) := by decide +kernel
theorem dX3_packedSize_0 : decode cX3_packedSize 0 = .ok (.aload_n 0, 1) := by decide +kernel
theorem dX3_packedSize_1 : decode cX3_packedSize 1 = .ok (.getfield 21, 3) := by decide +kernel
theorem dX3_packedSize_4 : decode cX3_packedSize 4 = .ok (.getfield 47, 3) := by decide +kernel
theorem dX3_packedSize_7 : decode cX3_packedSize 7 = .ok (.l2i, 1) := by decide +kernel
theorem dX3_packedSize_8 : decode cX3_packedSize 8 = .ok (.ireturn, 1) := by decide +kernel
theorem dX3_unpacked_0 : decode cX3_unpacked 0 = .ok (.aload_n 0, 1) := by decide +kernel
theorem dX3_unpacked_1 : decode cX3_unpacked 1 = .ok (.getfield 30, 3) := by decide +kernel
theorem dX3_unpacked_4 : decode cX3_unpacked 4 = .ok (.areturn, 1) := by decide +kernel
theorem dX3_passes_0 : decode cX3_passes 0 = .ok (.aload_n 0, 1) := by decide +kernel
theorem dX3_passes_1 : decode cX3_passes 1 = .ok (.iconst 0, 1) := by decide +kernel
theorem dX3_passes_2 : decode cX3_passes 2 = .ok (.putfield 34, 3) := by decide +kernel
theorem dX3_passes_5 : decode cX3_passes 5 = .ok (.aload_n 0, 1) := by decide +kernel
theorem dX3_passes_6 : decode cX3_passes 6 = .ok (.iconst (-1), 1) := by decide +kernel
theorem dX3_passes_7 : decode cX3_passes 7 = .ok (.putfield 38, 3) := by decide +kernel
theorem dX3_passes_10 : decode cX3_passes 10 = .ok (.aload_n 0, 1) := by decide +kernel
theorem dX3_passes_11 : decode cX3_passes 11 = .ok (.iconst (-1), 1) := by decide +kernel
theorem dX3_passes_12 : decode cX3_passes 12 = .ok (.putfield 41, 3) := by decide +kernel
theorem dX3_passes_15 : decode cX3_passes 15 = .ok (.aload_n 0, 1) := by decide +kernel
theorem dX3_passes_16 : decode cX3_passes 16 = .ok (.aload_n 1, 1) := by decide +kernel
theorem dX3_passes_17 : decode cX3_passes 17 = .ok (.invokevirtual 51, 3) := by decide +kernel
theorem dX3_passes_20 : decode cX3_passes 20 = .ok (.ifCond .eq 31, 3) := by decide +kernel
theorem dX3_passes_23 : decode cX3_passes 23 = .ok (.aload_n 0, 1) := by decide +kernel
theorem dX3_passes_24 : decode cX3_passes 24 = .ok (.aload_n 1, 1) := by decide +kernel
theorem dX3_passes_25 : decode cX3_passes 25 = .ok (.invokevirtual 55, 3) := by decide +kernel
theorem dX3_passes_28 : decode cX3_passes 28 = .ok (.ifCond .eq 23, 3) := by decide +kernel
theorem dX3_passes_31 : decode cX3_passes 31 = .ok (.aload_n 0, 1) := by decide +kernel
theorem dX3_passes_32 : decode cX3_passes 32 = .ok (.aload_n 1, 1) := by decide +kernel
theorem dX3_passes_33 : decode cX3_passes 33 = .ok (.invokevirtual 58, 3) := by decide +kernel
theorem dX3_passes_36 : decode cX3_passes 36 = .ok (.ifCond .eq 15, 3) := by decide +kernel
theorem dX3_passes_39 : decode cX3_passes 39 = .ok (.aload_n 0, 1) := by decide +kernel
theorem dX3_passes_40 : decode cX3_passes 40 = .ok (.aload_n 1, 1) := by decide +kernel
theorem dX3_passes_41 : decode cX3_passes 41 = .ok (.invokevirtual 61, 3) := by decide +kernel
theorem dX3_passes_44 : decode cX3_passes 44 = .ok (.ifCond .eq 7, 3) := by decide +kernel
theorem dX3_passes_47 : decode cX3_passes 47 = .ok (.iconst 1, 1) := by decide +kernel
theorem dX3_passes_48 : decode cX3_passes 48 = .ok (.goto 4, 3) := by decide +kernel
theorem dX3_passes_51 : decode cX3_passes 51 = .ok (.iconst 0, 1) := by decide +kernel
theorem dX3_passes_52 : decode cX3_passes 52 = .ok (.ireturn, 1) := by decide +kernel
theorem dX3_fails_0 : decode cX3_fails 0 = .ok (.aload_n 0, 1) := by decide +kernel
theorem dX3_fails_1 : decode cX3_fails 1 = .ok (.iload_n 1, 1) := by decide +kernel
theorem dX3_fails_2 : decode cX3_fails 2 = .ok (.putfield 34, 3) := by decide +kernel
theorem dX3_fails_5 : decode cX3_fails 5 = .ok (.aload_n 0, 1) := by decide +kernel
theorem dX3_fails_6 : decode cX3_fails 6 = .ok (.iload_n 2, 1) := by decide +kernel
theorem dX3_fails_7 : decode cX3_fails 7 = .ok (.putfield 38, 3) := by decide +kernel
theorem dX3_fails_10 : decode cX3_fails 10 = .ok (.aload_n 0, 1) := by decide +kernel
theorem dX3_fails_11 : decode cX3_fails 11 = .ok (.iload_n 3, 1) := by decide +kernel
theorem dX3_fails_12 : decode cX3_fails 12 = .ok (.putfield 41, 3) := by decide +kernel
theorem dX3_fails_15 : decode cX3_fails 15 = .ok (.iconst 0, 1) := by decide +kernel
theorem dX3_fails_16 : decode cX3_fails 16 = .ok (.ireturn, 1) := by decide +kernel
theorem dX3_endPasses_0 : decode cX3_endPasses 0 = .ok (.aload_n 0, 1) := by decide +kernel
theorem dX3_endPasses_1 : decode cX3_endPasses 1 = .ok (.iconst 0, 1) := by decide +kernel
theorem dX3_endPasses_2 : decode cX3_endPasses 2 = .ok (.aload_n 1, 1) := by decide +kernel
theorem dX3_endPasses_3 : decode cX3_endPasses 3 = .ok (.invokevirtual 64, 3) := by decide +kernel
theorem dX3_endPasses_6 : decode cX3_endPasses 6 = .ok (.bipush 22, 2) := by decide +kernel
theorem dX3_endPasses_8 : decode cX3_endPasses 8 = .ok (.isub, 1) := by decide +kernel
theorem dX3_endPasses_9 : decode cX3_endPasses 9 = .ok (.invokestatic 68, 3) := by decide +kernel
theorem dX3_endPasses_12 : decode cX3_endPasses 12 = .ok (.putfield 74, 3) := by decide +kernel
theorem dX3_endPasses_15 : decode cX3_endPasses 15 = .ok (.aload_n 0, 1) := by decide +kernel
theorem dX3_endPasses_16 : decode cX3_endPasses 16 = .ok (.aload_n 1, 1) := by decide +kernel
theorem dX3_endPasses_17 : decode cX3_endPasses 17 = .ok (.aload_n 0, 1) := by decide +kernel
theorem dX3_endPasses_18 : decode cX3_endPasses 18 = .ok (.getfield 74, 3) := by decide +kernel
theorem dX3_endPasses_21 : decode cX3_endPasses 21 = .ok (.invokevirtual 77, 3) := by decide +kernel
theorem dX3_endPasses_24 : decode cX3_endPasses 24 = .ok (.ifCond .ne 16, 3) := by decide +kernel
theorem dX3_endPasses_27 : decode cX3_endPasses 27 = .ok (.aload_n 0, 1) := by decide +kernel
theorem dX3_endPasses_28 : decode cX3_endPasses 28 = .ok (.iconst 1, 1) := by decide +kernel
theorem dX3_endPasses_29 : decode cX3_endPasses 29 = .ok (.iconst (-1), 1) := by decide +kernel
theorem dX3_endPasses_30 : decode cX3_endPasses 30 = .ok (.aload_n 0, 1) := by decide +kernel
theorem dX3_endPasses_31 : decode cX3_endPasses 31 = .ok (.getfield 74, 3) := by decide +kernel
theorem dX3_endPasses_34 : decode cX3_endPasses 34 = .ok (.invokevirtual 81, 3) := by decide +kernel
theorem dX3_endPasses_37 : decode cX3_endPasses 37 = .ok (.ifCond .eq 7, 3) := by decide +kernel
theorem dX3_endPasses_40 : decode cX3_endPasses 40 = .ok (.iconst 1, 1) := by decide +kernel
theorem dX3_endPasses_41 : decode cX3_endPasses 41 = .ok (.goto 4, 3) := by decide +kernel
theorem dX3_endPasses_44 : decode cX3_endPasses 44 = .ok (.iconst 0, 1) := by decide +kernel
theorem dX3_endPasses_45 : decode cX3_endPasses 45 = .ok (.ireturn, 1) := by decide +kernel
theorem dX3_endStands_0 : decode cX3_endStands 0 = .ok (.aload_n 1, 1) := by decide +kernel
theorem dX3_endStands_1 : decode cX3_endStands 1 = .ok (.iload_n 2, 1) := by decide +kernel
theorem dX3_endStands_2 : decode cX3_endStands 2 = .ok (.bipush 22, 2) := by decide +kernel
theorem dX3_endStands_4 : decode cX3_endStands 4 = .ok (.invokevirtual 85, 3) := by decide +kernel
theorem dX3_endStands_7 : decode cX3_endStands 7 = .ok (.ifCond .eq 46, 3) := by decide +kernel
theorem dX3_endStands_10 : decode cX3_endStands 10 = .ok (.aload_n 1, 1) := by decide +kernel
theorem dX3_endStands_11 : decode cX3_endStands 11 = .ok (.iload_n 2, 1) := by decide +kernel
theorem dX3_endStands_12 : decode cX3_endStands 12 = .ok (.iconst 5, 1) := by decide +kernel
theorem dX3_endStands_13 : decode cX3_endStands 13 = .ok (.bipush 6, 2) := by decide +kernel
theorem dX3_endStands_15 : decode cX3_endStands 15 = .ok (.invokevirtual 89, 3) := by decide +kernel
theorem dX3_endStands_18 : decode cX3_endStands 18 = .ok (.ifCond .eq 35, 3) := by decide +kernel
theorem dX3_endStands_21 : decode cX3_endStands 21 = .ok (.aload_n 1, 1) := by decide +kernel
theorem dX3_endStands_22 : decode cX3_endStands 22 = .ok (.iload_n 2, 1) := by decide +kernel
theorem dX3_endStands_23 : decode cX3_endStands 23 = .ok (.iconst 4, 1) := by decide +kernel
theorem dX3_endStands_24 : decode cX3_endStands 24 = .ok (.iadd, 1) := by decide +kernel
theorem dX3_endStands_25 : decode cX3_endStands 25 = .ok (.invokevirtual 92, 3) := by decide +kernel
theorem dX3_endStands_28 : decode cX3_endStands 28 = .ok (.ifCond .ne 25, 3) := by decide +kernel
theorem dX3_endStands_31 : decode cX3_endStands 31 = .ok (.aload_n 1, 1) := by decide +kernel
theorem dX3_endStands_32 : decode cX3_endStands 32 = .ok (.iload_n 2, 1) := by decide +kernel
theorem dX3_endStands_33 : decode cX3_endStands 33 = .ok (.bipush 6, 2) := by decide +kernel
theorem dX3_endStands_35 : decode cX3_endStands 35 = .ok (.iadd, 1) := by decide +kernel
theorem dX3_endStands_36 : decode cX3_endStands 36 = .ok (.invokevirtual 92, 3) := by decide +kernel
theorem dX3_endStands_39 : decode cX3_endStands 39 = .ok (.ifCond .ne 14, 3) := by decide +kernel
theorem dX3_endStands_42 : decode cX3_endStands 42 = .ok (.aload_n 1, 1) := by decide +kernel
theorem dX3_endStands_43 : decode cX3_endStands 43 = .ok (.iload_n 2, 1) := by decide +kernel
theorem dX3_endStands_44 : decode cX3_endStands 44 = .ok (.bipush 20, 2) := by decide +kernel
theorem dX3_endStands_46 : decode cX3_endStands 46 = .ok (.iadd, 1) := by decide +kernel
theorem dX3_endStands_47 : decode cX3_endStands 47 = .ok (.invokevirtual 92, 3) := by decide +kernel
theorem dX3_endStands_50 : decode cX3_endStands 50 = .ok (.ifCond .eq 5, 3) := by decide +kernel
theorem dX3_endStands_53 : decode cX3_endStands 53 = .ok (.iconst 0, 1) := by decide +kernel
theorem dX3_endStands_54 : decode cX3_endStands 54 = .ok (.ireturn, 1) := by decide +kernel
theorem dX3_endStands_55 : decode cX3_endStands 55 = .ok (.aload_n 1, 1) := by decide +kernel
theorem dX3_endStands_56 : decode cX3_endStands 56 = .ok (.iload_n 2, 1) := by decide +kernel
theorem dX3_endStands_57 : decode cX3_endStands 57 = .ok (.bipush 8, 2) := by decide +kernel
theorem dX3_endStands_59 : decode cX3_endStands 59 = .ok (.iadd, 1) := by decide +kernel
theorem dX3_endStands_60 : decode cX3_endStands 60 = .ok (.invokevirtual 92, 3) := by decide +kernel
theorem dX3_endStands_63 : decode cX3_endStands 63 = .ok (.istore_n 3, 1) := by decide +kernel
theorem dX3_endStands_64 : decode cX3_endStands 64 = .ok (.aload_n 1, 1) := by decide +kernel
theorem dX3_endStands_65 : decode cX3_endStands 65 = .ok (.iload_n 2, 1) := by decide +kernel
theorem dX3_endStands_66 : decode cX3_endStands 66 = .ok (.bipush 12, 2) := by decide +kernel
theorem dX3_endStands_68 : decode cX3_endStands 68 = .ok (.iadd, 1) := by decide +kernel
theorem dX3_endStands_69 : decode cX3_endStands 69 = .ok (.invokevirtual 96, 3) := by decide +kernel
theorem dX3_endStands_72 : decode cX3_endStands 72 = .ok (.lstore 4, 2) := by decide +kernel
theorem dX3_endStands_74 : decode cX3_endStands 74 = .ok (.aload_n 1, 1) := by decide +kernel
theorem dX3_endStands_75 : decode cX3_endStands 75 = .ok (.iload_n 2, 1) := by decide +kernel
theorem dX3_endStands_76 : decode cX3_endStands 76 = .ok (.bipush 16, 2) := by decide +kernel
theorem dX3_endStands_78 : decode cX3_endStands 78 = .ok (.iadd, 1) := by decide +kernel
theorem dX3_endStands_79 : decode cX3_endStands 79 = .ok (.invokevirtual 96, 3) := by decide +kernel
theorem dX3_endStands_82 : decode cX3_endStands 82 = .ok (.lstore 6, 2) := by decide +kernel
theorem dX3_endStands_84 : decode cX3_endStands 84 = .ok (.iload_n 3, 1) := by decide +kernel
theorem dX3_endStands_85 : decode cX3_endStands 85 = .ok (.bipush 20, 2) := by decide +kernel
theorem dX3_endStands_87 : decode cX3_endStands 87 = .ok (.if_icmp .gt 26, 3) := by decide +kernel
theorem dX3_endStands_90 : decode cX3_endStands 90 = .ok (.iload_n 3, 1) := by decide +kernel
theorem dX3_endStands_91 : decode cX3_endStands 91 = .ok (.aload_n 1, 1) := by decide +kernel
theorem dX3_endStands_92 : decode cX3_endStands 92 = .ok (.iload_n 2, 1) := by decide +kernel
theorem dX3_endStands_93 : decode cX3_endStands 93 = .ok (.bipush 10, 2) := by decide +kernel
theorem dX3_endStands_95 : decode cX3_endStands 95 = .ok (.iadd, 1) := by decide +kernel
theorem dX3_endStands_96 : decode cX3_endStands 96 = .ok (.invokevirtual 92, 3) := by decide +kernel
theorem dX3_endStands_99 : decode cX3_endStands 99 = .ok (.if_icmp .ne 14, 3) := by decide +kernel
theorem dX3_endStands_102 : decode cX3_endStands 102 = .ok (.lload 6, 2) := by decide +kernel
theorem dX3_endStands_104 : decode cX3_endStands 104 = .ok (.lload 4, 2) := by decide +kernel
theorem dX3_endStands_106 : decode cX3_endStands 106 = .ok (.ladd, 1) := by decide +kernel
theorem dX3_endStands_107 : decode cX3_endStands 107 = .ok (.iload_n 2, 1) := by decide +kernel
theorem dX3_endStands_108 : decode cX3_endStands 108 = .ok (.i2l, 1) := by decide +kernel
theorem dX3_endStands_109 : decode cX3_endStands 109 = .ok (.lcmp, 1) := by decide +kernel
theorem dX3_endStands_110 : decode cX3_endStands 110 = .ok (.ifCond .eq 5, 3) := by decide +kernel
theorem dX3_endStands_113 : decode cX3_endStands 113 = .ok (.iconst 0, 1) := by decide +kernel
theorem dX3_endStands_114 : decode cX3_endStands 114 = .ok (.ireturn, 1) := by decide +kernel
theorem dX3_endStands_115 : decode cX3_endStands 115 = .ok (.aload_n 0, 1) := by decide +kernel
theorem dX3_endStands_116 : decode cX3_endStands 116 = .ok (.iload_n 3, 1) := by decide +kernel
theorem dX3_endStands_117 : decode cX3_endStands 117 = .ok (.putfield 100, 3) := by decide +kernel
theorem dX3_endStands_120 : decode cX3_endStands 120 = .ok (.aload_n 0, 1) := by decide +kernel
theorem dX3_endStands_121 : decode cX3_endStands 121 = .ok (.lload 6, 2) := by decide +kernel
theorem dX3_endStands_123 : decode cX3_endStands 123 = .ok (.l2i, 1) := by decide +kernel
theorem dX3_endStands_124 : decode cX3_endStands 124 = .ok (.putfield 103, 3) := by decide +kernel
theorem dX3_endStands_127 : decode cX3_endStands 127 = .ok (.iload_n 3, 1) := by decide +kernel
theorem dX3_endStands_128 : decode cX3_endStands 128 = .ok (.ifCond .gt 7, 3) := by decide +kernel
theorem dX3_endStands_131 : decode cX3_endStands 131 = .ok (.iload_n 2, 1) := by decide +kernel
theorem dX3_endStands_132 : decode cX3_endStands 132 = .ok (.ifCond .ne 7, 3) := by decide +kernel
theorem dX3_endStands_135 : decode cX3_endStands 135 = .ok (.iconst 1, 1) := by decide +kernel
theorem dX3_endStands_136 : decode cX3_endStands 136 = .ok (.goto 4, 3) := by decide +kernel
theorem dX3_endStands_139 : decode cX3_endStands 139 = .ok (.iconst 0, 1) := by decide +kernel
theorem dX3_endStands_140 : decode cX3_endStands 140 = .ok (.ireturn, 1) := by decide +kernel
theorem dX3_centralsPass_0 : decode cX3_centralsPass 0 = .ok (.aload_n 0, 1) := by decide +kernel
theorem dX3_centralsPass_1 : decode cX3_centralsPass 1 = .ok (.getfield 103, 3) := by decide +kernel
theorem dX3_centralsPass_4 : decode cX3_centralsPass 4 = .ok (.istore_n 2, 1) := by decide +kernel
theorem dX3_centralsPass_5 : decode cX3_centralsPass 5 = .ok (.iconst 0, 1) := by decide +kernel
theorem dX3_centralsPass_6 : decode cX3_centralsPass 6 = .ok (.istore_n 3, 1) := by decide +kernel
theorem dX3_centralsPass_7 : decode cX3_centralsPass 7 = .ok (.iload_n 3, 1) := by decide +kernel
theorem dX3_centralsPass_8 : decode cX3_centralsPass 8 = .ok (.aload_n 0, 1) := by decide +kernel
theorem dX3_centralsPass_9 : decode cX3_centralsPass 9 = .ok (.getfield 100, 3) := by decide +kernel
theorem dX3_centralsPass_12 : decode cX3_centralsPass 12 = .ok (.if_icmp .ge 78, 3) := by decide +kernel
theorem dX3_centralsPass_15 : decode cX3_centralsPass 15 = .ok (.aload_n 0, 1) := by decide +kernel
theorem dX3_centralsPass_16 : decode cX3_centralsPass 16 = .ok (.aload_n 1, 1) := by decide +kernel
theorem dX3_centralsPass_17 : decode cX3_centralsPass 17 = .ok (.iload_n 2, 1) := by decide +kernel
theorem dX3_centralsPass_18 : decode cX3_centralsPass 18 = .ok (.iload_n 3, 1) := by decide +kernel
theorem dX3_centralsPass_19 : decode cX3_centralsPass 19 = .ok (.invokevirtual 106, 3) := by decide +kernel
theorem dX3_centralsPass_22 : decode cX3_centralsPass 22 = .ok (.ifCond .ne 11, 3) := by decide +kernel
theorem dX3_centralsPass_25 : decode cX3_centralsPass 25 = .ok (.aload_n 0, 1) := by decide +kernel
theorem dX3_centralsPass_26 : decode cX3_centralsPass 26 = .ok (.iconst 2, 1) := by decide +kernel
theorem dX3_centralsPass_27 : decode cX3_centralsPass 27 = .ok (.iload_n 3, 1) := by decide +kernel
theorem dX3_centralsPass_28 : decode cX3_centralsPass 28 = .ok (.iload_n 2, 1) := by decide +kernel
theorem dX3_centralsPass_29 : decode cX3_centralsPass 29 = .ok (.invokevirtual 81, 3) := by decide +kernel
theorem dX3_centralsPass_32 : decode cX3_centralsPass 32 = .ok (.ireturn, 1) := by decide +kernel
theorem dX3_centralsPass_33 : decode cX3_centralsPass 33 = .ok (.iload_n 2, 1) := by decide +kernel
theorem dX3_centralsPass_34 : decode cX3_centralsPass 34 = .ok (.bipush 46, 2) := by decide +kernel
theorem dX3_centralsPass_36 : decode cX3_centralsPass 36 = .ok (.iadd, 1) := by decide +kernel
theorem dX3_centralsPass_37 : decode cX3_centralsPass 37 = .ok (.aload_n 0, 1) := by decide +kernel
theorem dX3_centralsPass_38 : decode cX3_centralsPass 38 = .ok (.getfield 21, 3) := by decide +kernel
theorem dX3_centralsPass_41 : decode cX3_centralsPass 41 = .ok (.getfield 44, 3) := by decide +kernel
theorem dX3_centralsPass_44 : decode cX3_centralsPass 44 = .ok (.iadd, 1) := by decide +kernel
theorem dX3_centralsPass_45 : decode cX3_centralsPass 45 = .ok (.istore 4, 2) := by decide +kernel
theorem dX3_centralsPass_47 : decode cX3_centralsPass 47 = .ok (.iload_n 3, 1) := by decide +kernel
theorem dX3_centralsPass_48 : decode cX3_centralsPass 48 = .ok (.aload_n 0, 1) := by decide +kernel
theorem dX3_centralsPass_49 : decode cX3_centralsPass 49 = .ok (.getfield 100, 3) := by decide +kernel
theorem dX3_centralsPass_52 : decode cX3_centralsPass 52 = .ok (.iconst 1, 1) := by decide +kernel
theorem dX3_centralsPass_53 : decode cX3_centralsPass 53 = .ok (.isub, 1) := by decide +kernel
theorem dX3_centralsPass_54 : decode cX3_centralsPass 54 = .ok (.if_icmp .ne 20, 3) := by decide +kernel
theorem dX3_centralsPass_57 : decode cX3_centralsPass 57 = .ok (.iload 4, 2) := by decide +kernel
theorem dX3_centralsPass_59 : decode cX3_centralsPass 59 = .ok (.aload_n 0, 1) := by decide +kernel
theorem dX3_centralsPass_60 : decode cX3_centralsPass 60 = .ok (.getfield 74, 3) := by decide +kernel
theorem dX3_centralsPass_63 : decode cX3_centralsPass 63 = .ok (.if_icmp .eq 11, 3) := by decide +kernel
theorem dX3_centralsPass_66 : decode cX3_centralsPass 66 = .ok (.aload_n 0, 1) := by decide +kernel
theorem dX3_centralsPass_67 : decode cX3_centralsPass 67 = .ok (.iconst 2, 1) := by decide +kernel
theorem dX3_centralsPass_68 : decode cX3_centralsPass 68 = .ok (.iload_n 3, 1) := by decide +kernel
theorem dX3_centralsPass_69 : decode cX3_centralsPass 69 = .ok (.iload_n 2, 1) := by decide +kernel
theorem dX3_centralsPass_70 : decode cX3_centralsPass 70 = .ok (.invokevirtual 81, 3) := by decide +kernel
theorem dX3_centralsPass_73 : decode cX3_centralsPass 73 = .ok (.ireturn, 1) := by decide +kernel
theorem dX3_centralsPass_74 : decode cX3_centralsPass 74 = .ok (.aload_n 0, 1) := by decide +kernel
theorem dX3_centralsPass_75 : decode cX3_centralsPass 75 = .ok (.getfield 9, 3) := by decide +kernel
theorem dX3_centralsPass_78 : decode cX3_centralsPass 78 = .ok (.iload_n 3, 1) := by decide +kernel
theorem dX3_centralsPass_79 : decode cX3_centralsPass 79 = .ok (.iload_n 2, 1) := by decide +kernel
theorem dX3_centralsPass_80 : decode cX3_centralsPass 80 = .ok (.iastore, 1) := by decide +kernel
theorem dX3_centralsPass_81 : decode cX3_centralsPass 81 = .ok (.iload 4, 2) := by decide +kernel
theorem dX3_centralsPass_83 : decode cX3_centralsPass 83 = .ok (.istore_n 2, 1) := by decide +kernel
theorem dX3_centralsPass_84 : decode cX3_centralsPass 84 = .ok (.iinc 3 1, 3) := by decide +kernel
