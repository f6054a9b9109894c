theorem dX8_init_99 : decode cX8_init 99 = .ok (.aload_n 0, 1) := by decide +kernel
theorem dX8_init_100 : decode cX8_init 100 = .ok (.bipush 21, 2) := by decide +kernel
theorem dX8_init_102 : decode cX8_init 102 = .ok (.newarray .int, 2) := by decide +kernel
theorem dX8_init_104 : decode cX8_init 104 = .ok (.putfield 47, 3) := by decide +kernel
theorem dX8_init_107 : decode cX8_init 107 = .ok (.return_, 1) := by decide +kernel
theorem dX8_feed_0 : decode cX8_feed 0 = .ok (.aload_n 0, 1) := by decide +kernel
theorem dX8_feed_1 : decode cX8_feed 1 = .ok (.iconst 0, 1) := by decide +kernel
theorem dX8_feed_2 : decode cX8_feed 2 = .ok (.putfield 50, 3) := by decide +kernel
theorem dX8_feed_5 : decode cX8_feed 5 = .ok (.iconst 0, 1) := by decide +kernel
theorem dX8_feed_6 : decode cX8_feed 6 = .ok (.istore 6, 2) := by decide +kernel
theorem dX8_feed_8 : decode cX8_feed 8 = .ok (.iload 6, 2) := by decide +kernel
theorem dX8_feed_10 : decode cX8_feed 10 = .ok (.bipush 20, 2) := by decide +kernel
theorem dX8_feed_12 : decode cX8_feed 12 = .ok (.if_icmp .ge 81, 3) := by decide +kernel
theorem dX8_feed_15 : decode cX8_feed 15 = .ok (.iload 6, 2) := by decide +kernel
theorem dX8_feed_17 : decode cX8_feed 17 = .ok (.iconst 4, 1) := by decide +kernel
theorem dX8_feed_18 : decode cX8_feed 18 = .ok (.if_icmp .ge 7, 3) := by decide +kernel
theorem dX8_feed_21 : decode cX8_feed 21 = .ok (.iload_n 1, 1) := by decide +kernel
theorem dX8_feed_22 : decode cX8_feed 22 = .ok (.goto 39, 3) := by decide +kernel
theorem dX8_feed_25 : decode cX8_feed 25 = .ok (.iload 6, 2) := by decide +kernel
theorem dX8_feed_27 : decode cX8_feed 27 = .ok (.bipush 8, 2) := by decide +kernel
theorem dX8_feed_29 : decode cX8_feed 29 = .ok (.if_icmp .ge 7, 3) := by decide +kernel
theorem dX8_feed_32 : decode cX8_feed 32 = .ok (.iload_n 2, 1) := by decide +kernel
theorem dX8_feed_33 : decode cX8_feed 33 = .ok (.goto 28, 3) := by decide +kernel
theorem dX8_feed_36 : decode cX8_feed 36 = .ok (.iload 6, 2) := by decide +kernel
theorem dX8_feed_38 : decode cX8_feed 38 = .ok (.bipush 12, 2) := by decide +kernel
theorem dX8_feed_40 : decode cX8_feed 40 = .ok (.if_icmp .ge 7, 3) := by decide +kernel
theorem dX8_feed_43 : decode cX8_feed 43 = .ok (.iload_n 3, 1) := by decide +kernel
theorem dX8_feed_44 : decode cX8_feed 44 = .ok (.goto 17, 3) := by decide +kernel
theorem dX8_feed_47 : decode cX8_feed 47 = .ok (.iload 6, 2) := by decide +kernel
theorem dX8_feed_49 : decode cX8_feed 49 = .ok (.bipush 16, 2) := by decide +kernel
theorem dX8_feed_51 : decode cX8_feed 51 = .ok (.if_icmp .ge 8, 3) := by decide +kernel
theorem dX8_feed_54 : decode cX8_feed 54 = .ok (.iload 4, 2) := by decide +kernel
theorem dX8_feed_56 : decode cX8_feed 56 = .ok (.goto 5, 3) := by decide +kernel
theorem dX8_feed_59 : decode cX8_feed 59 = .ok (.iload 5, 2) := by decide +kernel
theorem dX8_feed_61 : decode cX8_feed 61 = .ok (.istore 7, 2) := by decide +kernel
theorem dX8_feed_63 : decode cX8_feed 63 = .ok (.aload_n 0, 1) := by decide +kernel
theorem dX8_feed_64 : decode cX8_feed 64 = .ok (.getfield 7, 3) := by decide +kernel
theorem dX8_feed_67 : decode cX8_feed 67 = .ok (.iload 6, 2) := by decide +kernel
theorem dX8_feed_69 : decode cX8_feed 69 = .ok (.iload 7, 2) := by decide +kernel
theorem dX8_feed_71 : decode cX8_feed 71 = .ok (.bipush 24, 2) := by decide +kernel
theorem dX8_feed_73 : decode cX8_feed 73 = .ok (.bipush 8, 2) := by decide +kernel
theorem dX8_feed_75 : decode cX8_feed 75 = .ok (.iload 6, 2) := by decide +kernel
theorem dX8_feed_77 : decode cX8_feed 77 = .ok (.iconst 4, 1) := by decide +kernel
theorem dX8_feed_78 : decode cX8_feed 78 = .ok (.irem, 1) := by decide +kernel
theorem dX8_feed_79 : decode cX8_feed 79 = .ok (.imul, 1) := by decide +kernel
theorem dX8_feed_80 : decode cX8_feed 80 = .ok (.isub, 1) := by decide +kernel
theorem dX8_feed_81 : decode cX8_feed 81 = .ok (.ishr, 1) := by decide +kernel
theorem dX8_feed_82 : decode cX8_feed 82 = .ok (.sipush 255, 3) := by decide +kernel
theorem dX8_feed_85 : decode cX8_feed 85 = .ok (.iand, 1) := by decide +kernel
theorem dX8_feed_86 : decode cX8_feed 86 = .ok (.iastore, 1) := by decide +kernel
theorem dX8_feed_87 : decode cX8_feed 87 = .ok (.iinc 6 1, 3) := by decide +kernel
theorem dX8_feed_90 : decode cX8_feed 90 = .ok (.goto (-82), 3) := by decide +kernel
theorem dX8_feed_93 : decode cX8_feed 93 = .ok (.return_, 1) := by decide +kernel
theorem dX8_end_0 : decode cX8_end 0 = .ok (.aload_n 0, 1) := by decide +kernel
theorem dX8_end_1 : decode cX8_end 1 = .ok (.iconst 0, 1) := by decide +kernel
theorem dX8_end_2 : decode cX8_end 2 = .ok (.putfield 50, 3) := by decide +kernel
theorem dX8_end_5 : decode cX8_end 5 = .ok (.iload_n 1, 1) := by decide +kernel
theorem dX8_end_6 : decode cX8_end 6 = .ok (.ifCond .lt 34, 3) := by decide +kernel
theorem dX8_end_9 : decode cX8_end 9 = .ok (.iload_n 1, 1) := by decide +kernel
theorem dX8_end_10 : decode cX8_end 10 = .ok (.bipush 20, 2) := by decide +kernel
theorem dX8_end_12 : decode cX8_end 12 = .ok (.if_icmp .gt 28, 3) := by decide +kernel
theorem dX8_end_15 : decode cX8_end 15 = .ok (.iload_n 2, 1) := by decide +kernel
theorem dX8_end_16 : decode cX8_end 16 = .ok (.iconst 1, 1) := by decide +kernel
theorem dX8_end_17 : decode cX8_end 17 = .ok (.if_icmp .lt 23, 3) := by decide +kernel
theorem dX8_end_20 : decode cX8_end 20 = .ok (.iload_n 2, 1) := by decide +kernel
theorem dX8_end_21 : decode cX8_end 21 = .ok (.bipush 100, 2) := by decide +kernel
theorem dX8_end_23 : decode cX8_end 23 = .ok (.if_icmp .gt 17, 3) := by decide +kernel
theorem dX8_end_26 : decode cX8_end 26 = .ok (.aload_n 0, 1) := by decide +kernel
theorem dX8_end_27 : decode cX8_end 27 = .ok (.getfield 53, 3) := by decide +kernel
theorem dX8_end_30 : decode cX8_end 30 = .ok (.iload_n 1, 1) := by decide +kernel
theorem dX8_end_31 : decode cX8_end 31 = .ok (.iload_n 2, 1) := by decide +kernel
theorem dX8_end_32 : decode cX8_end 32 = .ok (.imul, 1) := by decide +kernel
theorem dX8_end_33 : decode cX8_end 33 = .ok (.iadd, 1) := by decide +kernel
theorem dX8_end_34 : decode cX8_end 34 = .ok (.sipush 9000, 3) := by decide +kernel
theorem dX8_end_37 : decode cX8_end 37 = .ok (.if_icmp .le 5, 3) := by decide +kernel
theorem dX8_end_40 : decode cX8_end 40 = .ok (.iconst (-1), 1) := by decide +kernel
theorem dX8_end_41 : decode cX8_end 41 = .ok (.ireturn, 1) := by decide +kernel
theorem dX8_end_42 : decode cX8_end 42 = .ok (.iconst 0, 1) := by decide +kernel
theorem dX8_end_43 : decode cX8_end 43 = .ok (.istore_n 3, 1) := by decide +kernel
theorem dX8_end_44 : decode cX8_end 44 = .ok (.iload_n 3, 1) := by decide +kernel
theorem dX8_end_45 : decode cX8_end 45 = .ok (.iload_n 2, 1) := by decide +kernel
theorem dX8_end_46 : decode cX8_end 46 = .ok (.if_icmp .ge 53, 3) := by decide +kernel
theorem dX8_end_49 : decode cX8_end 49 = .ok (.iconst 0, 1) := by decide +kernel
theorem dX8_end_50 : decode cX8_end 50 = .ok (.istore 4, 2) := by decide +kernel
theorem dX8_end_52 : decode cX8_end 52 = .ok (.iload 4, 2) := by decide +kernel
theorem dX8_end_54 : decode cX8_end 54 = .ok (.iload_n 1, 1) := by decide +kernel
theorem dX8_end_55 : decode cX8_end 55 = .ok (.if_icmp .ge 28, 3) := by decide +kernel
theorem dX8_end_58 : decode cX8_end 58 = .ok (.aload_n 0, 1) := by decide +kernel
theorem dX8_end_59 : decode cX8_end 59 = .ok (.getfield 13, 3) := by decide +kernel
theorem dX8_end_62 : decode cX8_end 62 = .ok (.aload_n 0, 1) := by decide +kernel
theorem dX8_end_63 : decode cX8_end 63 = .ok (.getfield 53, 3) := by decide +kernel
theorem dX8_end_66 : decode cX8_end 66 = .ok (.iload 4, 2) := by decide +kernel
theorem dX8_end_68 : decode cX8_end 68 = .ok (.iadd, 1) := by decide +kernel
theorem dX8_end_69 : decode cX8_end 69 = .ok (.aload_n 0, 1) := by decide +kernel
theorem dX8_end_70 : decode cX8_end 70 = .ok (.getfield 7, 3) := by decide +kernel
theorem dX8_end_73 : decode cX8_end 73 = .ok (.iload 4, 2) := by decide +kernel
theorem dX8_end_75 : decode cX8_end 75 = .ok (.iaload, 1) := by decide +kernel
theorem dX8_end_76 : decode cX8_end 76 = .ok (.iastore, 1) := by decide +kernel
theorem dX8_end_77 : decode cX8_end 77 = .ok (.iinc 4 1, 3) := by decide +kernel
theorem dX8_end_80 : decode cX8_end 80 = .ok (.goto (-28), 3) := by decide +kernel
theorem dX8_end_83 : decode cX8_end 83 = .ok (.aload_n 0, 1) := by decide +kernel
theorem dX8_end_84 : decode cX8_end 84 = .ok (.dup, 1) := by decide +kernel
theorem dX8_end_85 : decode cX8_end 85 = .ok (.getfield 53, 3) := by decide +kernel
theorem dX8_end_88 : decode cX8_end 88 = .ok (.iload_n 1, 1) := by decide +kernel
theorem dX8_end_89 : decode cX8_end 89 = .ok (.iadd, 1) := by decide +kernel
theorem dX8_end_90 : decode cX8_end 90 = .ok (.putfield 53, 3) := by decide +kernel
theorem dX8_end_93 : decode cX8_end 93 = .ok (.iinc 3 1, 3) := by decide +kernel
theorem dX8_end_96 : decode cX8_end 96 = .ok (.goto (-52), 3) := by decide +kernel
theorem dX8_end_99 : decode cX8_end 99 = .ok (.iconst 0, 1) := by decide +kernel
theorem dX8_end_100 : decode cX8_end 100 = .ok (.istore_n 3, 1) := by decide +kernel
theorem dX8_end_101 : decode cX8_end 101 = .ok (.iload_n 3, 1) := by decide +kernel
theorem dX8_end_102 : decode cX8_end 102 = .ok (.bipush 20, 2) := by decide +kernel
theorem dX8_end_104 : decode cX8_end 104 = .ok (.if_icmp .ge 16, 3) := by decide +kernel
theorem dX8_end_107 : decode cX8_end 107 = .ok (.aload_n 0, 1) := by decide +kernel
theorem dX8_end_108 : decode cX8_end 108 = .ok (.getfield 7, 3) := by decide +kernel
theorem dX8_end_111 : decode cX8_end 111 = .ok (.iload_n 3, 1) := by decide +kernel
theorem dX8_end_112 : decode cX8_end 112 = .ok (.iconst 0, 1) := by decide +kernel
theorem dX8_end_113 : decode cX8_end 113 = .ok (.iastore, 1) := by decide +kernel
theorem dX8_end_114 : decode cX8_end 114 = .ok (.iinc 3 1, 3) := by decide +kernel
theorem dX8_end_117 : decode cX8_end 117 = .ok (.goto (-16), 3) := by decide +kernel
theorem dX8_end_120 : decode cX8_end 120 = .ok (.aload_n 0, 1) := by decide +kernel
theorem dX8_end_121 : decode cX8_end 121 = .ok (.getfield 53, 3) := by decide +kernel
theorem dX8_end_124 : decode cX8_end 124 = .ok (.ireturn, 1) := by decide +kernel
theorem dX8_cut_0 : decode cX8_cut 0 = .ok (.aload_n 0, 1) := by decide +kernel
theorem dX8_cut_1 : decode cX8_cut 1 = .ok (.iconst 0, 1) := by decide +kernel
theorem dX8_cut_2 : decode cX8_cut 2 = .ok (.putfield 50, 3) := by decide +kernel
theorem dX8_cut_5 : decode cX8_cut 5 = .ok (.iload_n 1, 1) := by decide +kernel
theorem dX8_cut_6 : decode cX8_cut 6 = .ok (.ifCond .lt 11, 3) := by decide +kernel
theorem dX8_cut_9 : decode cX8_cut 9 = .ok (.iload_n 1, 1) := by decide +kernel
theorem dX8_cut_10 : decode cX8_cut 10 = .ok (.aload_n 0, 1) := by decide +kernel
theorem dX8_cut_11 : decode cX8_cut 11 = .ok (.getfield 53, 3) := by decide +kernel
theorem dX8_cut_14 : decode cX8_cut 14 = .ok (.if_icmp .le 5, 3) := by decide +kernel
theorem dX8_cut_17 : decode cX8_cut 17 = .ok (.iconst 0, 1) := by decide +kernel
theorem dX8_cut_18 : decode cX8_cut 18 = .ok (.ireturn, 1) := by decide +kernel
theorem dX8_cut_19 : decode cX8_cut 19 = .ok (.aload_n 0, 1) := by decide +kernel
theorem dX8_cut_20 : decode cX8_cut 20 = .ok (.iload_n 1, 1) := by decide +kernel
theorem dX8_cut_21 : decode cX8_cut 21 = .ok (.putfield 53, 3) := by decide +kernel
theorem dX8_cut_24 : decode cX8_cut 24 = .ok (.iconst 1, 1) := by decide +kernel
theorem dX8_cut_25 : decode cX8_cut 25 = .ok (.ireturn, 1) := by decide +kernel
theorem dX8_drop_0 : decode cX8_drop 0 = .ok (.aload_n 0, 1) := by decide +kernel
theorem dX8_drop_1 : decode cX8_drop 1 = .ok (.iconst 0, 1) := by decide +kernel
theorem dX8_drop_2 : decode cX8_drop 2 = .ok (.putfield 50, 3) := by decide +kernel
theorem dX8_drop_5 : decode cX8_drop 5 = .ok (.iload_n 1, 1) := by decide +kernel
theorem dX8_drop_6 : decode cX8_drop 6 = .ok (.ifCond .lt 11, 3) := by decide +kernel
theorem dX8_drop_9 : decode cX8_drop 9 = .ok (.iload_n 1, 1) := by decide +kernel
theorem dX8_drop_10 : decode cX8_drop 10 = .ok (.aload_n 0, 1) := by decide +kernel
theorem dX8_drop_11 : decode cX8_drop 11 = .ok (.getfield 53, 3) := by decide +kernel
theorem dX8_drop_14 : decode cX8_drop 14 = .ok (.if_icmp .le 5, 3) := by decide +kernel
theorem dX8_drop_17 : decode cX8_drop 17 = .ok (.iconst 0, 1) := by decide +kernel
theorem dX8_drop_18 : decode cX8_drop 18 = .ok (.ireturn, 1) := by decide +kernel
theorem dX8_drop_19 : decode cX8_drop 19 = .ok (.iload_n 1, 1) := by decide +kernel
theorem dX8_drop_20 : decode cX8_drop 20 = .ok (.istore_n 2, 1) := by decide +kernel
theorem dX8_drop_21 : decode cX8_drop 21 = .ok (.iload_n 2, 1) := by decide +kernel
theorem dX8_drop_22 : decode cX8_drop 22 = .ok (.aload_n 0, 1) := by decide +kernel
theorem dX8_drop_23 : decode cX8_drop 23 = .ok (.getfield 53, 3) := by decide +kernel
theorem dX8_drop_26 : decode cX8_drop 26 = .ok (.if_icmp .ge 23, 3) := by decide +kernel
theorem dX8_drop_29 : decode cX8_drop 29 = .ok (.aload_n 0, 1) := by decide +kernel
theorem dX8_drop_30 : decode cX8_drop 30 = .ok (.getfield 13, 3) := by decide +kernel
theorem dX8_drop_33 : decode cX8_drop 33 = .ok (.iload_n 2, 1) := by decide +kernel
theorem dX8_drop_34 : decode cX8_drop 34 = .ok (.iload_n 1, 1) := by decide +kernel
theorem dX8_drop_35 : decode cX8_drop 35 = .ok (.isub, 1) := by decide +kernel
theorem dX8_drop_36 : decode cX8_drop 36 = .ok (.aload_n 0, 1) := by decide +kernel
theorem dX8_drop_37 : decode cX8_drop 37 = .ok (.getfield 13, 3) := by decide +kernel
theorem dX8_drop_40 : decode cX8_drop 40 = .ok (.iload_n 2, 1) := by decide +kernel
theorem dX8_drop_41 : decode cX8_drop 41 = .ok (.iaload, 1) := by decide +kernel
theorem dX8_drop_42 : decode cX8_drop 42 = .ok (.iastore, 1) := by decide +kernel
theorem dX8_drop_43 : decode cX8_drop 43 = .ok (.iinc 2 1, 3) := by decide +kernel
theorem dX8_drop_46 : decode cX8_drop 46 = .ok (.goto (-25), 3) := by decide +kernel
theorem dX8_drop_49 : decode cX8_drop 49 = .ok (.aload_n 0, 1) := by decide +kernel
theorem dX8_drop_50 : decode cX8_drop 50 = .ok (.dup, 1) := by decide +kernel
theorem dX8_drop_51 : decode cX8_drop 51 = .ok (.getfield 53, 3) := by decide +kernel
theorem dX8_drop_54 : decode cX8_drop 54 = .ok (.iload_n 1, 1) := by decide +kernel
theorem dX8_drop_55 : decode cX8_drop 55 = .ok (.isub, 1) := by decide +kernel
theorem dX8_drop_56 : decode cX8_drop 56 = .ok (.putfield 53, 3) := by decide +kernel
theorem dX8_drop_59 : decode cX8_drop 59 = .ok (.iconst 1, 1) := by decide +kernel
theorem dX8_drop_60 : decode cX8_drop 60 = .ok (.ireturn, 1) := by decide +kernel
theorem dX8_flip_0 : decode cX8_flip 0 = .ok (.aload_n 0, 1) := by decide +kernel
theorem dX8_flip_1 : decode cX8_flip 1 = .ok (.iconst 0, 1) := by decide +kernel
theorem dX8_flip_2 : decode cX8_flip 2 = .ok (.putfield 50, 3) := by decide +kernel
theorem dX8_flip_5 : decode cX8_flip 5 = .ok (.iload_n 1, 1) := by decide +kernel
theorem dX8_flip_6 : decode cX8_flip 6 = .ok (.ifCond .lt 21, 3) := by decide +kernel
theorem dX8_flip_9 : decode cX8_flip 9 = .ok (.iload_n 1, 1) := by decide +kernel
theorem dX8_flip_10 : decode cX8_flip 10 = .ok (.aload_n 0, 1) := by decide +kernel
theorem dX8_flip_11 : decode cX8_flip 11 = .ok (.getfield 53, 3) := by decide +kernel
theorem dX8_flip_14 : decode cX8_flip 14 = .ok (.if_icmp .ge 13, 3) := by decide +kernel
theorem dX8_flip_17 : decode cX8_flip 17 = .ok (.iload_n 2, 1) := by decide +kernel
theorem dX8_flip_18 : decode cX8_flip 18 = .ok (.ifCond .lt 9, 3) := by decide +kernel
theorem dX8_flip_21 : decode cX8_flip 21 = .ok (.iload_n 2, 1) := by decide +kernel
theorem dX8_flip_22 : decode cX8_flip 22 = .ok (.bipush 7, 2) := by decide +kernel
theorem dX8_flip_24 : decode cX8_flip 24 = .ok (.if_icmp .le 5, 3) := by decide +kernel
theorem dX8_flip_27 : decode cX8_flip 27 = .ok (.iconst 0, 1) := by decide +kernel
theorem dX8_flip_28 : decode cX8_flip 28 = .ok (.ireturn, 1) := by decide +kernel
theorem dX8_flip_29 : decode cX8_flip 29 = .ok (.aload_n 0, 1) := by decide +kernel
theorem dX8_flip_30 : decode cX8_flip 30 = .ok (.getfield 13, 3) := by decide +kernel
theorem dX8_flip_33 : decode cX8_flip 33 = .ok (.iload_n 1, 1) := by decide +kernel
theorem dX8_flip_34 : decode cX8_flip 34 = .ok (.dup2, 1) := by decide +kernel
theorem dX8_flip_35 : decode cX8_flip 35 = .ok (.iaload, 1) := by decide +kernel
theorem dX8_flip_36 : decode cX8_flip 36 = .ok (.iconst 1, 1) := by decide +kernel
theorem dX8_flip_37 : decode cX8_flip 37 = .ok (.iload_n 2, 1) := by decide +kernel
theorem dX8_flip_38 : decode cX8_flip 38 = .ok (.ishl, 1) := by decide +kernel
theorem dX8_flip_39 : decode cX8_flip 39 = .ok (.ixor, 1) := by decide +kernel
theorem dX8_flip_40 : decode cX8_flip 40 = .ok (.iastore, 1) := by decide +kernel
theorem dX8_flip_41 : decode cX8_flip 41 = .ok (.iconst 1, 1) := by decide +kernel
theorem dX8_flip_42 : decode cX8_flip 42 = .ok (.ireturn, 1) := by decide +kernel
theorem dX8_take_0 : decode cX8_take 0 = .ok (.aload_n 0, 1) := by decide +kernel
theorem dX8_take_1 : decode cX8_take 1 = .ok (.aload_n 0, 1) := by decide +kernel
theorem dX8_take_2 : decode cX8_take 2 = .ok (.getfield 53, 3) := by decide +kernel
theorem dX8_take_5 : decode cX8_take 5 = .ok (.aload_n 0, 1) := by decide +kernel
theorem dX8_take_6 : decode cX8_take 6 = .ok (.getfield 56, 3) := by decide +kernel
theorem dX8_take_9 : decode cX8_take 9 = .ok (.iadd, 1) := by decide +kernel
theorem dX8_take_10 : decode cX8_take 10 = .ok (.sipush 9000, 3) := by decide +kernel
theorem dX8_take_13 : decode cX8_take 13 = .ok (.if_icmp .le 7, 3) := by decide +kernel
theorem dX8_take_16 : decode cX8_take 16 = .ok (.iconst 1, 1) := by decide +kernel
theorem dX8_take_17 : decode cX8_take 17 = .ok (.goto 4, 3) := by decide +kernel
theorem dX8_take_20 : decode cX8_take 20 = .ok (.iconst 0, 1) := by decide +kernel
theorem dX8_take_21 : decode cX8_take 21 = .ok (.putfield 50, 3) := by decide +kernel
theorem dX8_take_24 : decode cX8_take 24 = .ok (.aload_n 0, 1) := by decide +kernel
theorem dX8_take_25 : decode cX8_take 25 = .ok (.getfield 50, 3) := by decide +kernel
theorem dX8_take_28 : decode cX8_take 28 = .ok (.ifCond .le 5, 3) := by decide +kernel
theorem dX8_take_31 : decode cX8_take 31 = .ok (.iconst 0, 1) := by decide +kernel
theorem dX8_take_32 : decode cX8_take 32 = .ok (.ireturn, 1) := by decide +kernel
theorem dX8_take_33 : decode cX8_take 33 = .ok (.iconst 0, 1) := by decide +kernel
theorem dX8_take_34 : decode cX8_take 34 = .ok (.istore_n 1, 1) := by decide +kernel
theorem dX8_take_35 : decode cX8_take 35 = .ok (.iload_n 1, 1) := by decide +kernel
theorem dX8_take_36 : decode cX8_take 36 = .ok (.aload_n 0, 1) := by decide +kernel
theorem dX8_take_37 : decode cX8_take 37 = .ok (.getfield 56, 3) := by decide +kernel
theorem dX8_take_40 : decode cX8_take 40 = .ok (.if_icmp .ge 26, 3) := by decide +kernel
theorem dX8_take_43 : decode cX8_take 43 = .ok (.aload_n 0, 1) := by decide +kernel
theorem dX8_take_44 : decode cX8_take 44 = .ok (.getfield 13, 3) := by decide +kernel
theorem dX8_take_47 : decode cX8_take 47 = .ok (.aload_n 0, 1) := by decide +kernel
theorem dX8_take_48 : decode cX8_take 48 = .ok (.getfield 53, 3) := by decide +kernel
theorem dX8_take_51 : decode cX8_take 51 = .ok (.iload_n 1, 1) := by decide +kernel
theorem dX8_take_52 : decode cX8_take 52 = .ok (.iadd, 1) := by decide +kernel
theorem dX8_take_53 : decode cX8_take 53 = .ok (.aload_n 0, 1) := by decide +kernel
theorem dX8_take_54 : decode cX8_take 54 = .ok (.getfield 16, 3) := by decide +kernel
theorem dX8_take_57 : decode cX8_take 57 = .ok (.iload_n 1, 1) := by decide +kernel
theorem dX8_take_58 : decode cX8_take 58 = .ok (.iaload, 1) := by decide +kernel
theorem dX8_take_59 : decode cX8_take 59 = .ok (.iastore, 1) := by decide +kernel
theorem dX8_take_60 : decode cX8_take 60 = .ok (.iinc 1 1, 3) := by decide +kernel
theorem dX8_take_63 : decode cX8_take 63 = .ok (.goto (-28), 3) := by decide +kernel
theorem dX8_take_66 : decode cX8_take 66 = .ok (.aload_n 0, 1) := by decide +kernel
theorem dX8_take_67 : decode cX8_take 67 = .ok (.dup, 1) := by decide +kernel
theorem dX8_take_68 : decode cX8_take 68 = .ok (.getfield 53, 3) := by decide +kernel
theorem dX8_take_71 : decode cX8_take 71 = .ok (.aload_n 0, 1) := by decide +kernel
theorem dX8_take_72 : decode cX8_take 72 = .ok (.getfield 56, 3) := by decide +kernel
theorem dX8_take_75 : decode cX8_take 75 = .ok (.iadd, 1) := by decide +kernel
theorem dX8_take_76 : decode cX8_take 76 = .ok (.putfield 53, 3) := by decide +kernel
theorem dX8_take_79 : decode cX8_take 79 = .ok (.aload_n 0, 1) := by decide +kernel
theorem dX8_take_80 : decode cX8_take 80 = .ok (.getfield 53, 3) := by decide +kernel
theorem dX8_take_83 : decode cX8_take 83 = .ok (.ireturn, 1) := by decide +kernel
theorem dX8_isFile_0 : decode cX8_isFile 0 = .ok (.iload_n 1, 1) := by decide +kernel
theorem dX8_isFile_1 : decode cX8_isFile 1 = .ok (.ifCond .lt 15, 3) := by decide +kernel
theorem dX8_isFile_4 : decode cX8_isFile 4 = .ok (.iload_n 1, 1) := by decide +kernel
theorem dX8_isFile_5 : decode cX8_isFile 5 = .ok (.aload_n 0, 1) := by decide +kernel
theorem dX8_isFile_6 : decode cX8_isFile 6 = .ok (.getfield 59, 3) := by decide +kernel
theorem dX8_isFile_9 : decode cX8_isFile 9 = .ok (.if_icmp .ge 7, 3) := by decide +kernel
theorem dX8_isFile_12 : decode cX8_isFile 12 = .ok (.iconst 1, 1) := by decide +kernel
theorem dX8_isFile_13 : decode cX8_isFile 13 = .ok (.goto 4, 3) := by decide +kernel
theorem dX8_isFile_16 : decode cX8_isFile 16 = .ok (.iconst 0, 1) := by decide +kernel
theorem dX8_isFile_17 : decode cX8_isFile 17 = .ok (.ireturn, 1) := by decide +kernel
theorem dX8_isName_0 : decode cX8_isName 0 = .ok (.iload_n 2, 1) := by decide +kernel
theorem dX8_isName_1 : decode cX8_isName 1 = .ok (.ifCond .le 13, 3) := by decide +kernel
theorem dX8_isName_4 : decode cX8_isName 4 = .ok (.iload_n 2, 1) := by decide +kernel
theorem dX8_isName_5 : decode cX8_isName 5 = .ok (.bipush 30, 2) := by decide +kernel
theorem dX8_isName_7 : decode cX8_isName 7 = .ok (.if_icmp .gt 7, 3) := by decide +kernel
theorem dX8_isName_10 : decode cX8_isName 10 = .ok (.iconst 1, 1) := by decide +kernel
theorem dX8_isName_11 : decode cX8_isName 11 = .ok (.goto 4, 3) := by decide +kernel
theorem dX8_isName_14 : decode cX8_isName 14 = .ok (.iconst 0, 1) := by decide +kernel
theorem dX8_isName_15 : decode cX8_isName 15 = .ok (.istore_n 3, 1) := by decide +kernel
theorem dX8_isName_16 : decode cX8_isName 16 = .ok (.iconst 0, 1) := by decide +kernel
theorem dX8_isName_17 : decode cX8_isName 17 = .ok (.istore 4, 2) := by decide +kernel
theorem dX8_isName_19 : decode cX8_isName 19 = .ok (.iload 4, 2) := by decide +kernel
theorem dX8_isName_21 : decode cX8_isName 21 = .ok (.iload_n 2, 1) := by decide +kernel
theorem dX8_isName_22 : decode cX8_isName 22 = .ok (.if_icmp .ge 47, 3) := by decide +kernel
theorem dX8_isName_25 : decode cX8_isName 25 = .ok (.iload_n 3, 1) := by decide +kernel
theorem dX8_isName_26 : decode cX8_isName 26 = .ok (.ifCond .eq 43, 3) := by decide +kernel
theorem dX8_isName_29 : decode cX8_isName 29 = .ok (.aload_n 0, 1) := by decide +kernel
theorem dX8_isName_30 : decode cX8_isName 30 = .ok (.getfield 13, 3) := by decide +kernel
theorem dX8_isName_33 : decode cX8_isName 33 = .ok (.iload_n 1, 1) := by decide +kernel
theorem dX8_isName_34 : decode cX8_isName 34 = .ok (.iload 4, 2) := by decide +kernel
theorem dX8_isName_36 : decode cX8_isName 36 = .ok (.iadd, 1) := by decide +kernel
theorem dX8_isName_37 : decode cX8_isName 37 = .ok (.iaload, 1) := by decide +kernel
theorem dX8_isName_38 : decode cX8_isName 38 = .ok (.bipush 32, 2) := by decide +kernel
theorem dX8_isName_40 : decode cX8_isName 40 = .ok (.if_icmp .le 21, 3) := by decide +kernel
theorem dX8_isName_43 : decode cX8_isName 43 = .ok (.aload_n 0, 1) := by decide +kernel
theorem dX8_isName_44 : decode cX8_isName 44 = .ok (.getfield 13, 3) := by decide +kernel
theorem dX8_isName_47 : decode cX8_isName 47 = .ok (.iload_n 1, 1) := by decide +kernel
theorem dX8_isName_48 : decode cX8_isName 48 = .ok (.iload 4, 2) := by decide +kernel
theorem dX8_isName_50 : decode cX8_isName 50 = .ok (.iadd, 1) := by decide +kernel
theorem dX8_isName_51 : decode cX8_isName 51 = .ok (.iaload, 1) := by decide +kernel
theorem dX8_isName_52 : decode cX8_isName 52 = .ok (.bipush 127, 2) := by decide +kernel
theorem dX8_isName_54 : decode cX8_isName 54 = .ok (.if_icmp .ge 7, 3) := by decide +kernel
theorem dX8_isName_57 : decode cX8_isName 57 = .ok (.iconst 1, 1) := by decide +kernel
theorem dX8_isName_58 : decode cX8_isName 58 = .ok (.goto 4, 3) := by decide +kernel
theorem dX8_isName_61 : decode cX8_isName 61 = .ok (.iconst 0, 1) := by decide +kernel
theorem dX8_isName_62 : decode cX8_isName 62 = .ok (.istore_n 3, 1) := by decide +kernel
theorem dX8_isName_63 : decode cX8_isName 63 = .ok (.iinc 4 1, 3) := by decide +kernel
theorem dX8_isName_66 : decode cX8_isName 66 = .ok (.goto (-47), 3) := by decide +kernel
theorem dX8_isName_69 : decode cX8_isName 69 = .ok (.iload_n 3, 1) := by decide +kernel
theorem dX8_isName_70 : decode cX8_isName 70 = .ok (.ireturn, 1) := by decide +kernel
theorem dX8_named_0 : decode cX8_named 0 = .ok (.iconst 0, 1) := by decide +kernel
theorem dX8_named_1 : decode cX8_named 1 = .ok (.istore 4, 2) := by decide +kernel
theorem dX8_named_3 : decode cX8_named 3 = .ok (.iload 4, 2) := by decide +kernel
theorem dX8_named_5 : decode cX8_named 5 = .ok (.iload_n 3, 1) := by decide +kernel
theorem dX8_named_6 : decode cX8_named 6 = .ok (.if_icmp .ge 87, 3) := by decide +kernel
theorem dX8_named_9 : decode cX8_named 9 = .ok (.aload_n 0, 1) := by decide +kernel
theorem dX8_named_10 : decode cX8_named 10 = .ok (.getfield 22, 3) := by decide +kernel
theorem dX8_named_13 : decode cX8_named 13 = .ok (.iload 4, 2) := by decide +kernel
theorem dX8_named_15 : decode cX8_named 15 = .ok (.iaload, 1) := by decide +kernel
theorem dX8_named_16 : decode cX8_named 16 = .ok (.iload_n 2, 1) := by decide +kernel
theorem dX8_named_17 : decode cX8_named 17 = .ok (.if_icmp .ne 7, 3) := by decide +kernel
theorem dX8_named_20 : decode cX8_named 20 = .ok (.iconst 1, 1) := by decide +kernel
theorem dX8_named_21 : decode cX8_named 21 = .ok (.goto 4, 3) := by decide +kernel
theorem dX8_named_24 : decode cX8_named 24 = .ok (.iconst 0, 1) := by decide +kernel
theorem dX8_named_25 : decode cX8_named 25 = .ok (.istore 5, 2) := by decide +kernel
theorem dX8_named_27 : decode cX8_named 27 = .ok (.iconst 0, 1) := by decide +kernel
theorem dX8_named_28 : decode cX8_named 28 = .ok (.istore 6, 2) := by decide +kernel
theorem dX8_named_30 : decode cX8_named 30 = .ok (.iload 6, 2) := by decide +kernel
theorem dX8_named_32 : decode cX8_named 32 = .ok (.iload_n 2, 1) := by decide +kernel
theorem dX8_named_33 : decode cX8_named 33 = .ok (.if_icmp .ge 46, 3) := by decide +kernel
theorem dX8_named_36 : decode cX8_named 36 = .ok (.iload 5, 2) := by decide +kernel
theorem dX8_named_38 : decode cX8_named 38 = .ok (.ifCond .eq 41, 3) := by decide +kernel
theorem dX8_named_41 : decode cX8_named 41 = .ok (.aload_n 0, 1) := by decide +kernel
theorem dX8_named_42 : decode cX8_named 42 = .ok (.getfield 19, 3) := by decide +kernel
theorem dX8_named_45 : decode cX8_named 45 = .ok (.bipush 30, 2) := by decide +kernel
theorem dX8_named_47 : decode cX8_named 47 = .ok (.iload 4, 2) := by decide +kernel
theorem dX8_named_49 : decode cX8_named 49 = .ok (.imul, 1) := by decide +kernel
theorem dX8_named_50 : decode cX8_named 50 = .ok (.iload 6, 2) := by decide +kernel
theorem dX8_named_52 : decode cX8_named 52 = .ok (.iadd, 1) := by decide +kernel
theorem dX8_named_53 : decode cX8_named 53 = .ok (.iaload, 1) := by decide +kernel
theorem dX8_named_54 : decode cX8_named 54 = .ok (.aload_n 0, 1) := by decide +kernel
theorem dX8_named_55 : decode cX8_named 55 = .ok (.getfield 13, 3) := by decide +kernel
theorem dX8_named_58 : decode cX8_named 58 = .ok (.iload_n 1, 1) := by decide +kernel
theorem dX8_named_59 : decode cX8_named 59 = .ok (.iload 6, 2) := by decide +kernel
theorem dX8_named_61 : decode cX8_named 61 = .ok (.iadd, 1) := by decide +kernel
theorem dX8_named_62 : decode cX8_named 62 = .ok (.iaload, 1) := by decide +kernel
theorem dX8_named_63 : decode cX8_named 63 = .ok (.if_icmp .ne 7, 3) := by decide +kernel
theorem dX8_named_66 : decode cX8_named 66 = .ok (.iconst 1, 1) := by decide +kernel
theorem dX8_named_67 : decode cX8_named 67 = .ok (.goto 4, 3) := by decide +kernel
theorem dX8_named_70 : decode cX8_named 70 = .ok (.iconst 0, 1) := by decide +kernel
theorem dX8_named_71 : decode cX8_named 71 = .ok (.istore 5, 2) := by decide +kernel
theorem dX8_named_73 : decode cX8_named 73 = .ok (.iinc 6 1, 3) := by decide +kernel
theorem dX8_named_76 : decode cX8_named 76 = .ok (.goto (-46), 3) := by decide +kernel
theorem dX8_named_79 : decode cX8_named 79 = .ok (.iload 5, 2) := by decide +kernel
theorem dX8_named_81 : decode cX8_named 81 = .ok (.ifCond .eq 6, 3) := by decide +kernel
theorem dX8_named_84 : decode cX8_named 84 = .ok (.iload 4, 2) := by decide +kernel
theorem dX8_named_86 : decode cX8_named 86 = .ok (.ireturn, 1) := by decide +kernel
theorem dX8_named_87 : decode cX8_named 87 = .ok (.iinc 4 1, 3) := by decide +kernel
theorem dX8_named_90 : decode cX8_named 90 = .ok (.goto (-87), 3) := by decide +kernel
theorem dX8_named_93 : decode cX8_named 93 = .ok (.iconst (-1), 1) := by decide +kernel
theorem dX8_named_94 : decode cX8_named 94 = .ok (.ireturn, 1) := by decide +kernel
theorem dX8_total_0 : decode cX8_total 0 = .ok (.iconst 0, 1) := by decide +kernel
theorem dX8_total_1 : decode cX8_total 1 = .ok (.istore_n 1, 1) := by decide +kernel
theorem dX8_total_2 : decode cX8_total 2 = .ok (.iconst 0, 1) := by decide +kernel
theorem dX8_total_3 : decode cX8_total 3 = .ok (.istore_n 2, 1) := by decide +kernel
theorem dX8_total_4 : decode cX8_total 4 = .ok (.iload_n 2, 1) := by decide +kernel
theorem dX8_total_5 : decode cX8_total 5 = .ok (.aload_n 0, 1) := by decide +kernel
theorem dX8_total_6 : decode cX8_total 6 = .ok (.getfield 59, 3) := by decide +kernel
theorem dX8_total_9 : decode cX8_total 9 = .ok (.if_icmp .ge 18, 3) := by decide +kernel
theorem dX8_total_12 : decode cX8_total 12 = .ok (.iload_n 1, 1) := by decide +kernel
theorem dX8_total_13 : decode cX8_total 13 = .ok (.aload_n 0, 1) := by decide +kernel
theorem dX8_total_14 : decode cX8_total 14 = .ok (.getfield 28, 3) := by decide +kernel
theorem dX8_total_17 : decode cX8_total 17 = .ok (.iload_n 2, 1) := by decide +kernel
theorem dX8_total_18 : decode cX8_total 18 = .ok (.iaload, 1) := by decide +kernel
theorem dX8_total_19 : decode cX8_total 19 = .ok (.iadd, 1) := by decide +kernel
theorem dX8_total_20 : decode cX8_total 20 = .ok (.istore_n 1, 1) := by decide +kernel
theorem dX8_total_21 : decode cX8_total 21 = .ok (.iinc 2 1, 3) := by decide +kernel
theorem dX8_total_24 : decode cX8_total 24 = .ok (.goto (-20), 3) := by decide +kernel
theorem dX8_total_27 : decode cX8_total 27 = .ok (.iload_n 1, 1) := by decide +kernel
theorem dX8_total_28 : decode cX8_total 28 = .ok (.ireturn, 1) := by decide +kernel
theorem dX8_setName_0 : decode cX8_setName 0 = .ok (.iconst 0, 1) := by decide +kernel
theorem dX8_setName_1 : decode cX8_setName 1 = .ok (.istore 4, 2) := by decide +kernel
theorem dX8_setName_3 : decode cX8_setName 3 = .ok (.iload 4, 2) := by decide +kernel
theorem dX8_setName_5 : decode cX8_setName 5 = .ok (.iload_n 3, 1) := by decide +kernel
theorem dX8_setName_6 : decode cX8_setName 6 = .ok (.if_icmp .ge 30, 3) := by decide +kernel
theorem dX8_setName_9 : decode cX8_setName 9 = .ok (.aload_n 0, 1) := by decide +kernel
theorem dX8_setName_10 : decode cX8_setName 10 = .ok (.getfield 19, 3) := by decide +kernel
theorem dX8_setName_13 : decode cX8_setName 13 = .ok (.bipush 30, 2) := by decide +kernel
theorem dX8_setName_15 : decode cX8_setName 15 = .ok (.iload_n 1, 1) := by decide +kernel
theorem dX8_setName_16 : decode cX8_setName 16 = .ok (.imul, 1) := by decide +kernel
theorem dX8_setName_17 : decode cX8_setName 17 = .ok (.iload 4, 2) := by decide +kernel
theorem dX8_setName_19 : decode cX8_setName 19 = .ok (.iadd, 1) := by decide +kernel
theorem dX8_setName_20 : decode cX8_setName 20 = .ok (.aload_n 0, 1) := by decide +kernel
theorem dX8_setName_21 : decode cX8_setName 21 = .ok (.getfield 13, 3) := by decide +kernel
theorem dX8_setName_24 : decode cX8_setName 24 = .ok (.iload_n 2, 1) := by decide +kernel
theorem dX8_setName_25 : decode cX8_setName 25 = .ok (.iload 4, 2) := by decide +kernel
theorem dX8_setName_27 : decode cX8_setName 27 = .ok (.iadd, 1) := by decide +kernel
theorem dX8_setName_28 : decode cX8_setName 28 = .ok (.iaload, 1) := by decide +kernel
theorem dX8_setName_29 : decode cX8_setName 29 = .ok (.iastore, 1) := by decide +kernel
theorem dX8_setName_30 : decode cX8_setName 30 = .ok (.iinc 4 1, 3) := by decide +kernel
theorem dX8_setName_33 : decode cX8_setName 33 = .ok (.goto (-30), 3) := by decide +kernel
theorem dX8_setName_36 : decode cX8_setName 36 = .ok (.aload_n 0, 1) := by decide +kernel
theorem dX8_setName_37 : decode cX8_setName 37 = .ok (.getfield 22, 3) := by decide +kernel
theorem dX8_setName_40 : decode cX8_setName 40 = .ok (.iload_n 1, 1) := by decide +kernel
theorem dX8_setName_41 : decode cX8_setName 41 = .ok (.iload_n 3, 1) := by decide +kernel
theorem dX8_setName_42 : decode cX8_setName 42 = .ok (.iastore, 1) := by decide +kernel
theorem dX8_setName_43 : decode cX8_setName 43 = .ok (.return_, 1) := by decide +kernel
theorem dX8_setBytes_0 : decode cX8_setBytes 0 = .ok (.iconst 0, 1) := by decide +kernel
theorem dX8_setBytes_1 : decode cX8_setBytes 1 = .ok (.istore 4, 2) := by decide +kernel
theorem dX8_setBytes_3 : decode cX8_setBytes 3 = .ok (.iload 4, 2) := by decide +kernel
theorem dX8_setBytes_5 : decode cX8_setBytes 5 = .ok (.iload_n 3, 1) := by decide +kernel
theorem dX8_setBytes_6 : decode cX8_setBytes 6 = .ok (.if_icmp .ge 31, 3) := by decide +kernel
theorem dX8_setBytes_9 : decode cX8_setBytes 9 = .ok (.aload_n 0, 1) := by decide +kernel
theorem dX8_setBytes_10 : decode cX8_setBytes 10 = .ok (.getfield 25, 3) := by decide +kernel
theorem dX8_setBytes_13 : decode cX8_setBytes 13 = .ok (.sipush 1500, 3) := by decide +kernel
theorem dX8_setBytes_16 : decode cX8_setBytes 16 = .ok (.iload_n 1, 1) := by decide +kernel
theorem dX8_setBytes_17 : decode cX8_setBytes 17 = .ok (.imul, 1) := by decide +kernel
theorem dX8_setBytes_18 : decode cX8_setBytes 18 = .ok (.iload 4, 2) := by decide +kernel
theorem dX8_setBytes_20 : decode cX8_setBytes 20 = .ok (.iadd, 1) := by decide +kernel
theorem dX8_setBytes_21 : decode cX8_setBytes 21 = .ok (.aload_n 0, 1) := by decide +kernel
theorem dX8_setBytes_22 : decode cX8_setBytes 22 = .ok (.getfield 13, 3) := by decide +kernel
theorem dX8_setBytes_25 : decode cX8_setBytes 25 = .ok (.iload_n 2, 1) := by decide +kernel
theorem dX8_setBytes_26 : decode cX8_setBytes 26 = .ok (.iload 4, 2) := by decide +kernel
theorem dX8_setBytes_28 : decode cX8_setBytes 28 = .ok (.iadd, 1) := by decide +kernel
theorem dX8_setBytes_29 : decode cX8_setBytes 29 = .ok (.iaload, 1) := by decide +kernel
theorem dX8_setBytes_30 : decode cX8_setBytes 30 = .ok (.iastore, 1) := by decide +kernel
theorem dX8_setBytes_31 : decode cX8_setBytes 31 = .ok (.iinc 4 1, 3) := by decide +kernel
theorem dX8_setBytes_34 : decode cX8_setBytes 34 = .ok (.goto (-31), 3) := by decide +kernel
theorem dX8_setBytes_37 : decode cX8_setBytes 37 = .ok (.aload_n 0, 1) := by decide +kernel
theorem dX8_setBytes_38 : decode cX8_setBytes 38 = .ok (.getfield 28, 3) := by decide +kernel
theorem dX8_setBytes_41 : decode cX8_setBytes 41 = .ok (.iload_n 1, 1) := by decide +kernel
theorem dX8_setBytes_42 : decode cX8_setBytes 42 = .ok (.iload_n 3, 1) := by decide +kernel
theorem dX8_setBytes_43 : decode cX8_setBytes 43 = .ok (.iastore, 1) := by decide +kernel
theorem dX8_setBytes_44 : decode cX8_setBytes 44 = .ok (.return_, 1) := by decide +kernel
theorem dX8_copyFile_0 : decode cX8_copyFile 0 = .ok (.iconst 0, 1) := by decide +kernel
theorem dX8_copyFile_1 : decode cX8_copyFile 1 = .ok (.istore_n 3, 1) := by decide +kernel
theorem dX8_copyFile_2 : decode cX8_copyFile 2 = .ok (.iload_n 3, 1) := by decide +kernel
theorem dX8_copyFile_3 : decode cX8_copyFile 3 = .ok (.bipush 30, 2) := by decide +kernel
theorem dX8_copyFile_5 : decode cX8_copyFile 5 = .ok (.if_icmp .ge 31, 3) := by decide +kernel
theorem dX8_copyFile_8 : decode cX8_copyFile 8 = .ok (.aload_n 0, 1) := by decide +kernel
theorem dX8_copyFile_9 : decode cX8_copyFile 9 = .ok (.getfield 19, 3) := by decide +kernel
theorem dX8_copyFile_12 : decode cX8_copyFile 12 = .ok (.bipush 30, 2) := by decide +kernel
theorem dX8_copyFile_14 : decode cX8_copyFile 14 = .ok (.iload_n 2, 1) := by decide +kernel
theorem dX8_copyFile_15 : decode cX8_copyFile 15 = .ok (.imul, 1) := by decide +kernel
theorem dX8_copyFile_16 : decode cX8_copyFile 16 = .ok (.iload_n 3, 1) := by decide +kernel
theorem dX8_copyFile_17 : decode cX8_copyFile 17 = .ok (.iadd, 1) := by decide +kernel
theorem dX8_copyFile_18 : decode cX8_copyFile 18 = .ok (.aload_n 0, 1) := by decide +kernel
theorem dX8_copyFile_19 : decode cX8_copyFile 19 = .ok (.getfield 19, 3) := by decide +kernel
theorem dX8_copyFile_22 : decode cX8_copyFile 22 = .ok (.bipush 30, 2) := by decide +kernel
theorem dX8_copyFile_24 : decode cX8_copyFile 24 = .ok (.iload_n 1, 1) := by decide +kernel
theorem dX8_copyFile_25 : decode cX8_copyFile 25 = .ok (.imul, 1) := by decide +kernel
theorem dX8_copyFile_26 : decode cX8_copyFile 26 = .ok (.iload_n 3, 1) := by decide +kernel
theorem dX8_copyFile_27 : decode cX8_copyFile 27 = .ok (.iadd, 1) := by decide +kernel
theorem dX8_copyFile_28 : decode cX8_copyFile 28 = .ok (.iaload, 1) := by decide +kernel
theorem dX8_copyFile_29 : decode cX8_copyFile 29 = .ok (.iastore, 1) := by decide +kernel
theorem dX8_copyFile_30 : decode cX8_copyFile 30 = .ok (.iinc 3 1, 3) := by decide +kernel
theorem dX8_copyFile_33 : decode cX8_copyFile 33 = .ok (.goto (-31), 3) := by decide +kernel
theorem dX8_copyFile_36 : decode cX8_copyFile 36 = .ok (.aload_n 0, 1) := by decide +kernel
theorem dX8_copyFile_37 : decode cX8_copyFile 37 = .ok (.getfield 22, 3) := by decide +kernel
theorem dX8_copyFile_40 : decode cX8_copyFile 40 = .ok (.iload_n 2, 1) := by decide +kernel
theorem dX8_copyFile_41 : decode cX8_copyFile 41 = .ok (.aload_n 0, 1) := by decide +kernel
theorem dX8_copyFile_42 : decode cX8_copyFile 42 = .ok (.getfield 22, 3) := by decide +kernel
theorem dX8_copyFile_45 : decode cX8_copyFile 45 = .ok (.iload_n 1, 1) := by decide +kernel
theorem dX8_copyFile_46 : decode cX8_copyFile 46 = .ok (.iaload, 1) := by decide +kernel
theorem dX8_copyFile_47 : decode cX8_copyFile 47 = .ok (.iastore, 1) := by decide +kernel
theorem dX8_copyFile_48 : decode cX8_copyFile 48 = .ok (.iconst 0, 1) := by decide +kernel
theorem dX8_copyFile_49 : decode cX8_copyFile 49 = .ok (.istore_n 3, 1) := by decide +kernel
theorem dX8_copyFile_50 : decode cX8_copyFile 50 = .ok (.iload_n 3, 1) := by decide +kernel
theorem dX8_copyFile_51 : decode cX8_copyFile 51 = .ok (.aload_n 0, 1) := by decide +kernel
theorem dX8_copyFile_52 : decode cX8_copyFile 52 = .ok (.getfield 28, 3) := by decide +kernel
theorem dX8_copyFile_55 : decode cX8_copyFile 55 = .ok (.iload_n 1, 1) := by decide +kernel
theorem dX8_copyFile_56 : decode cX8_copyFile 56 = .ok (.iaload, 1) := by decide +kernel
theorem dX8_copyFile_57 : decode cX8_copyFile 57 = .ok (.if_icmp .ge 33, 3) := by decide +kernel
theorem dX8_copyFile_60 : decode cX8_copyFile 60 = .ok (.aload_n 0, 1) := by decide +kernel
theorem dX8_copyFile_61 : decode cX8_copyFile 61 = .ok (.getfield 25, 3) := by decide +kernel
theorem dX8_copyFile_64 : decode cX8_copyFile 64 = .ok (.sipush 1500, 3) := by decide +kernel
theorem dX8_copyFile_67 : decode cX8_copyFile 67 = .ok (.iload_n 2, 1) := by decide +kernel
theorem dX8_copyFile_68 : decode cX8_copyFile 68 = .ok (.imul, 1) := by decide +kernel
theorem dX8_copyFile_69 : decode cX8_copyFile 69 = .ok (.iload_n 3, 1) := by decide +kernel
theorem dX8_copyFile_70 : decode cX8_copyFile 70 = .ok (.iadd, 1) := by decide +kernel
theorem dX8_copyFile_71 : decode cX8_copyFile 71 = .ok (.aload_n 0, 1) := by decide +kernel
theorem dX8_copyFile_72 : decode cX8_copyFile 72 = .ok (.getfield 25, 3) := by decide +kernel
theorem dX8_copyFile_75 : decode cX8_copyFile 75 = .ok (.sipush 1500, 3) := by decide +kernel
theorem dX8_copyFile_78 : decode cX8_copyFile 78 = .ok (.iload_n 1, 1) := by decide +kernel
theorem dX8_copyFile_79 : decode cX8_copyFile 79 = .ok (.imul, 1) := by decide +kernel
theorem dX8_copyFile_80 : decode cX8_copyFile 80 = .ok (.iload_n 3, 1) := by decide +kernel
theorem dX8_copyFile_81 : decode cX8_copyFile 81 = .ok (.iadd, 1) := by decide +kernel
theorem dX8_copyFile_82 : decode cX8_copyFile 82 = .ok (.iaload, 1) := by decide +kernel
theorem dX8_copyFile_83 : decode cX8_copyFile 83 = .ok (.iastore, 1) := by decide +kernel
theorem dX8_copyFile_84 : decode cX8_copyFile 84 = .ok (.iinc 3 1, 3) := by decide +kernel
theorem dX8_copyFile_87 : decode cX8_copyFile 87 = .ok (.goto (-37), 3) := by decide +kernel
theorem dX8_copyFile_90 : decode cX8_copyFile 90 = .ok (.aload_n 0, 1) := by decide +kernel
theorem dX8_copyFile_91 : decode cX8_copyFile 91 = .ok (.getfield 28, 3) := by decide +kernel
theorem dX8_copyFile_94 : decode cX8_copyFile 94 = .ok (.iload_n 2, 1) := by decide +kernel
theorem dX8_copyFile_95 : decode cX8_copyFile 95 = .ok (.aload_n 0, 1) := by decide +kernel
theorem dX8_copyFile_96 : decode cX8_copyFile 96 = .ok (.getfield 28, 3) := by decide +kernel
theorem dX8_copyFile_99 : decode cX8_copyFile 99 = .ok (.iload_n 1, 1) := by decide +kernel
theorem dX8_copyFile_100 : decode cX8_copyFile 100 = .ok (.iaload, 1) := by decide +kernel
theorem dX8_copyFile_101 : decode cX8_copyFile 101 = .ok (.iastore, 1) := by decide +kernel
theorem dX8_copyFile_102 : decode cX8_copyFile 102 = .ok (.return_, 1) := by decide +kernel
theorem dX8_goes_0 : decode cX8_goes 0 = .ok (.iload_n 1, 1) := by decide +kernel
theorem dX8_goes_1 : decode cX8_goes 1 = .ok (.istore_n 2, 1) := by decide +kernel
theorem dX8_goes_2 : decode cX8_goes 2 = .ok (.iload_n 2, 1) := by decide +kernel
theorem dX8_goes_3 : decode cX8_goes 3 = .ok (.iconst 1, 1) := by decide +kernel
theorem dX8_goes_4 : decode cX8_goes 4 = .ok (.iadd, 1) := by decide +kernel
theorem dX8_goes_5 : decode cX8_goes 5 = .ok (.aload_n 0, 1) := by decide +kernel
theorem dX8_goes_6 : decode cX8_goes 6 = .ok (.getfield 59, 3) := by decide +kernel
theorem dX8_goes_9 : decode cX8_goes 9 = .ok (.if_icmp .ge 17, 3) := by decide +kernel
theorem dX8_goes_12 : decode cX8_goes 12 = .ok (.aload_n 0, 1) := by decide +kernel
theorem dX8_goes_13 : decode cX8_goes 13 = .ok (.iload_n 2, 1) := by decide +kernel
theorem dX8_goes_14 : decode cX8_goes 14 = .ok (.iconst 1, 1) := by decide +kernel
theorem dX8_goes_15 : decode cX8_goes 15 = .ok (.iadd, 1) := by decide +kernel
theorem dX8_goes_16 : decode cX8_goes 16 = .ok (.iload_n 2, 1) := by decide +kernel
theorem dX8_goes_17 : decode cX8_goes 17 = .ok (.invokevirtual 62, 3) := by decide +kernel
theorem dX8_goes_20 : decode cX8_goes 20 = .ok (.iinc 2 1, 3) := by decide +kernel
theorem dX8_goes_23 : decode cX8_goes 23 = .ok (.goto (-21), 3) := by decide +kernel
theorem dX8_goes_26 : decode cX8_goes 26 = .ok (.aload_n 0, 1) := by decide +kernel
theorem dX8_goes_27 : decode cX8_goes 27 = .ok (.dup, 1) := by decide +kernel
theorem dX8_goes_28 : decode cX8_goes 28 = .ok (.getfield 59, 3) := by decide +kernel
theorem dX8_goes_31 : decode cX8_goes 31 = .ok (.iconst 1, 1) := by decide +kernel
theorem dX8_goes_32 : decode cX8_goes 32 = .ok (.isub, 1) := by decide +kernel
theorem dX8_goes_33 : decode cX8_goes 33 = .ok (.putfield 59, 3) := by decide +kernel
theorem dX8_goes_36 : decode cX8_goes 36 = .ok (.return_, 1) := by decide +kernel
theorem dX8_add_0 : decode cX8_add 0 = .ok (.aload_n 0, 1) := by decide +kernel
theorem dX8_add_1 : decode cX8_add 1 = .ok (.iload_n 1, 1) := by decide +kernel
theorem dX8_add_2 : decode cX8_add 2 = .ok (.ifCond .lt 32, 3) := by decide +kernel
theorem dX8_add_5 : decode cX8_add 5 = .ok (.iload_n 1, 1) := by decide +kernel
theorem dX8_add_6 : decode cX8_add 6 = .ok (.aload_n 0, 1) := by decide +kernel
theorem dX8_add_7 : decode cX8_add 7 = .ok (.getfield 53, 3) := by decide +kernel
theorem dX8_add_10 : decode cX8_add 10 = .ok (.if_icmp .gt 24, 3) := by decide +kernel
theorem dX8_add_13 : decode cX8_add 13 = .ok (.aload_n 0, 1) := by decide +kernel
theorem dX8_add_14 : decode cX8_add 14 = .ok (.iconst 0, 1) := by decide +kernel
theorem dX8_add_15 : decode cX8_add 15 = .ok (.iload_n 1, 1) := by decide +kernel
theorem dX8_add_16 : decode cX8_add 16 = .ok (.invokevirtual 66, 3) := by decide +kernel
theorem dX8_add_19 : decode cX8_add 19 = .ok (.ifCond .eq 15, 3) := by decide +kernel
theorem dX8_add_22 : decode cX8_add 22 = .ok (.aload_n 0, 1) := by decide +kernel
theorem dX8_add_23 : decode cX8_add 23 = .ok (.getfield 53, 3) := by decide +kernel
theorem dX8_add_26 : decode cX8_add 26 = .ok (.iload_n 1, 1) := by decide +kernel
theorem dX8_add_27 : decode cX8_add 27 = .ok (.isub, 1) := by decide +kernel
theorem dX8_add_28 : decode cX8_add 28 = .ok (.sipush 1500, 3) := by decide +kernel
theorem dX8_add_31 : decode cX8_add 31 = .ok (.if_icmp .le 7, 3) := by decide +kernel
theorem dX8_add_34 : decode cX8_add 34 = .ok (.iconst 1, 1) := by decide +kernel
theorem dX8_add_35 : decode cX8_add 35 = .ok (.goto 4, 3) := by decide +kernel
theorem dX8_add_38 : decode cX8_add 38 = .ok (.iconst 0, 1) := by decide +kernel
theorem dX8_add_39 : decode cX8_add 39 = .ok (.putfield 50, 3) := by decide +kernel
theorem dX8_add_42 : decode cX8_add 42 = .ok (.aload_n 0, 1) := by decide +kernel
theorem dX8_add_43 : decode cX8_add 43 = .ok (.getfield 50, 3) := by decide +kernel
theorem dX8_add_46 : decode cX8_add 46 = .ok (.ifCond .ne 48, 3) := by decide +kernel
theorem dX8_add_49 : decode cX8_add 49 = .ok (.aload_n 0, 1) := by decide +kernel
theorem dX8_add_50 : decode cX8_add 50 = .ok (.iconst 0, 1) := by decide +kernel
theorem dX8_add_51 : decode cX8_add 51 = .ok (.iload_n 1, 1) := by decide +kernel
theorem dX8_add_52 : decode cX8_add 52 = .ok (.aload_n 0, 1) := by decide +kernel
theorem dX8_add_53 : decode cX8_add 53 = .ok (.getfield 59, 3) := by decide +kernel
theorem dX8_add_56 : decode cX8_add 56 = .ok (.invokevirtual 70, 3) := by decide +kernel
theorem dX8_add_59 : decode cX8_add 59 = .ok (.iconst (-1), 1) := by decide +kernel
theorem dX8_add_60 : decode cX8_add 60 = .ok (.if_icmp .ne 29, 3) := by decide +kernel
theorem dX8_add_63 : decode cX8_add 63 = .ok (.aload_n 0, 1) := by decide +kernel
theorem dX8_add_64 : decode cX8_add 64 = .ok (.getfield 59, 3) := by decide +kernel
theorem dX8_add_67 : decode cX8_add 67 = .ok (.bipush 20, 2) := by decide +kernel
theorem dX8_add_69 : decode cX8_add 69 = .ok (.if_icmp .eq 20, 3) := by decide +kernel
theorem dX8_add_72 : decode cX8_add 72 = .ok (.aload_n 0, 1) := by decide +kernel
theorem dX8_add_73 : decode cX8_add 73 = .ok (.invokevirtual 74, 3) := by decide +kernel
theorem dX8_add_76 : decode cX8_add 76 = .ok (.aload_n 0, 1) := by decide +kernel
theorem dX8_add_77 : decode cX8_add 77 = .ok (.getfield 53, 3) := by decide +kernel
theorem dX8_add_80 : decode cX8_add 80 = .ok (.iadd, 1) := by decide +kernel
theorem dX8_add_81 : decode cX8_add 81 = .ok (.iload_n 1, 1) := by decide +kernel
theorem dX8_add_82 : decode cX8_add 82 = .ok (.isub, 1) := by decide +kernel
theorem dX8_add_83 : decode cX8_add 83 = .ok (.sipush 6000, 3) := by decide +kernel
theorem dX8_add_86 : decode cX8_add 86 = .ok (.if_icmp .le 8, 3) := by decide +kernel
theorem dX8_add_89 : decode cX8_add 89 = .ok (.aload_n 0, 1) := by decide +kernel
theorem dX8_add_90 : decode cX8_add 90 = .ok (.iconst 2, 1) := by decide +kernel
theorem dX8_add_91 : decode cX8_add 91 = .ok (.putfield 50, 3) := by decide +kernel
theorem dX8_add_94 : decode cX8_add 94 = .ok (.aload_n 0, 1) := by decide +kernel
theorem dX8_add_95 : decode cX8_add 95 = .ok (.getfield 50, 3) := by decide +kernel
theorem dX8_add_98 : decode cX8_add 98 = .ok (.ifCond .le 5, 3) := by decide +kernel
theorem dX8_add_101 : decode cX8_add 101 = .ok (.iconst 0, 1) := by decide +kernel
theorem dX8_add_102 : decode cX8_add 102 = .ok (.ireturn, 1) := by decide +kernel
theorem dX8_add_103 : decode cX8_add 103 = .ok (.aload_n 0, 1) := by decide +kernel
theorem dX8_add_104 : decode cX8_add 104 = .ok (.aload_n 0, 1) := by decide +kernel
theorem dX8_add_105 : decode cX8_add 105 = .ok (.getfield 59, 3) := by decide +kernel
theorem dX8_add_108 : decode cX8_add 108 = .ok (.iconst 0, 1) := by decide +kernel
theorem dX8_add_109 : decode cX8_add 109 = .ok (.iload_n 1, 1) := by decide +kernel
theorem dX8_add_110 : decode cX8_add 110 = .ok (.invokevirtual 78, 3) := by decide +kernel
theorem dX8_add_113 : decode cX8_add 113 = .ok (.aload_n 0, 1) := by decide +kernel
theorem dX8_add_114 : decode cX8_add 114 = .ok (.aload_n 0, 1) := by decide +kernel
theorem dX8_add_115 : decode cX8_add 115 = .ok (.getfield 59, 3) := by decide +kernel
theorem dX8_add_118 : decode cX8_add 118 = .ok (.iload_n 1, 1) := by decide +kernel
theorem dX8_add_119 : decode cX8_add 119 = .ok (.aload_n 0, 1) := by decide +kernel
theorem dX8_add_120 : decode cX8_add 120 = .ok (.getfield 53, 3) := by decide +kernel
theorem dX8_add_123 : decode cX8_add 123 = .ok (.iload_n 1, 1) := by decide +kernel
theorem dX8_add_124 : decode cX8_add 124 = .ok (.isub, 1) := by decide +kernel
theorem dX8_add_125 : decode cX8_add 125 = .ok (.invokevirtual 82, 3) := by decide +kernel
theorem dX8_add_128 : decode cX8_add 128 = .ok (.aload_n 0, 1) := by decide +kernel
theorem dX8_add_129 : decode cX8_add 129 = .ok (.dup, 1) := by decide +kernel
theorem dX8_add_130 : decode cX8_add 130 = .ok (.getfield 59, 3) := by decide +kernel
theorem dX8_add_133 : decode cX8_add 133 = .ok (.iconst 1, 1) := by decide +kernel
theorem dX8_add_134 : decode cX8_add 134 = .ok (.iadd, 1) := by decide +kernel
theorem dX8_add_135 : decode cX8_add 135 = .ok (.putfield 59, 3) := by decide +kernel
theorem dX8_add_138 : decode cX8_add 138 = .ok (.aload_n 0, 1) := by decide +kernel
theorem dX8_add_139 : decode cX8_add 139 = .ok (.iconst 0, 1) := by decide +kernel
theorem dX8_add_140 : decode cX8_add 140 = .ok (.putfield 53, 3) := by decide +kernel
theorem dX8_add_143 : decode cX8_add 143 = .ok (.aload_n 0, 1) := by decide +kernel
theorem dX8_add_144 : decode cX8_add 144 = .ok (.getfield 59, 3) := by decide +kernel
theorem dX8_add_147 : decode cX8_add 147 = .ok (.iconst 1, 1) := by decide +kernel
theorem dX8_add_148 : decode cX8_add 148 = .ok (.isub, 1) := by decide +kernel
theorem dX8_add_149 : decode cX8_add 149 = .ok (.ireturn, 1) := by decide +kernel
theorem dX8_replace_0 : decode cX8_replace 0 = .ok (.aload_n 0, 1) := by decide +kernel
theorem dX8_replace_1 : decode cX8_replace 1 = .ok (.aload_n 0, 1) := by decide +kernel
theorem dX8_replace_2 : decode cX8_replace 2 = .ok (.iload_n 1, 1) := by decide +kernel
theorem dX8_replace_3 : decode cX8_replace 3 = .ok (.invokevirtual 85, 3) := by decide +kernel
theorem dX8_replace_6 : decode cX8_replace 6 = .ok (.ifCond .ne 7, 3) := by decide +kernel
theorem dX8_replace_9 : decode cX8_replace 9 = .ok (.iconst 1, 1) := by decide +kernel
theorem dX8_replace_10 : decode cX8_replace 10 = .ok (.goto 44, 3) := by decide +kernel
theorem dX8_replace_13 : decode cX8_replace 13 = .ok (.aload_n 0, 1) := by decide +kernel
theorem dX8_replace_14 : decode cX8_replace 14 = .ok (.getfield 53, 3) := by decide +kernel
theorem dX8_replace_17 : decode cX8_replace 17 = .ok (.sipush 1500, 3) := by decide +kernel
theorem dX8_replace_20 : decode cX8_replace 20 = .ok (.if_icmp .le 7, 3) := by decide +kernel
theorem dX8_replace_23 : decode cX8_replace 23 = .ok (.iconst 2, 1) := by decide +kernel
theorem dX8_replace_24 : decode cX8_replace 24 = .ok (.goto 30, 3) := by decide +kernel
theorem dX8_replace_27 : decode cX8_replace 27 = .ok (.aload_n 0, 1) := by decide +kernel
theorem dX8_replace_28 : decode cX8_replace 28 = .ok (.invokevirtual 74, 3) := by decide +kernel
theorem dX8_replace_31 : decode cX8_replace 31 = .ok (.aload_n 0, 1) := by decide +kernel
theorem dX8_replace_32 : decode cX8_replace 32 = .ok (.getfield 28, 3) := by decide +kernel
theorem dX8_replace_35 : decode cX8_replace 35 = .ok (.iload_n 1, 1) := by decide +kernel
theorem dX8_replace_36 : decode cX8_replace 36 = .ok (.iaload, 1) := by decide +kernel
theorem dX8_replace_37 : decode cX8_replace 37 = .ok (.isub, 1) := by decide +kernel
theorem dX8_replace_38 : decode cX8_replace 38 = .ok (.aload_n 0, 1) := by decide +kernel
theorem dX8_replace_39 : decode cX8_replace 39 = .ok (.getfield 53, 3) := by decide +kernel
theorem dX8_replace_42 : decode cX8_replace 42 = .ok (.iadd, 1) := by decide +kernel
theorem dX8_replace_43 : decode cX8_replace 43 = .ok (.sipush 6000, 3) := by decide +kernel
theorem dX8_replace_46 : decode cX8_replace 46 = .ok (.if_icmp .le 7, 3) := by decide +kernel
theorem dX8_replace_49 : decode cX8_replace 49 = .ok (.iconst 3, 1) := by decide +kernel
theorem dX8_replace_50 : decode cX8_replace 50 = .ok (.goto 4, 3) := by decide +kernel
theorem dX8_replace_53 : decode cX8_replace 53 = .ok (.iconst 0, 1) := by decide +kernel
theorem dX8_replace_54 : decode cX8_replace 54 = .ok (.putfield 50, 3) := by decide +kernel
theorem dX8_replace_57 : decode cX8_replace 57 = .ok (.aload_n 0, 1) := by decide +kernel
theorem dX8_replace_58 : decode cX8_replace 58 = .ok (.getfield 50, 3) := by decide +kernel
theorem dX8_replace_61 : decode cX8_replace 61 = .ok (.ifCond .le 4, 3) := by decide +kernel
theorem dX8_replace_64 : decode cX8_replace 64 = .ok (.return_, 1) := by decide +kernel
theorem dX8_replace_65 : decode cX8_replace 65 = .ok (.aload_n 0, 1) := by decide +kernel
theorem dX8_replace_66 : decode cX8_replace 66 = .ok (.iload_n 1, 1) := by decide +kernel
theorem dX8_replace_67 : decode cX8_replace 67 = .ok (.iconst 0, 1) := by decide +kernel
theorem dX8_replace_68 : decode cX8_replace 68 = .ok (.aload_n 0, 1) := by decide +kernel
theorem dX8_replace_69 : decode cX8_replace 69 = .ok (.getfield 53, 3) := by decide +kernel
theorem dX8_replace_72 : decode cX8_replace 72 = .ok (.invokevirtual 82, 3) := by decide +kernel
theorem dX8_replace_75 : decode cX8_replace 75 = .ok (.aload_n 0, 1) := by decide +kernel
theorem dX8_replace_76 : decode cX8_replace 76 = .ok (.iconst 0, 1) := by decide +kernel
theorem dX8_replace_77 : decode cX8_replace 77 = .ok (.putfield 53, 3) := by decide +kernel
theorem dX8_replace_80 : decode cX8_replace 80 = .ok (.return_, 1) := by decide +kernel
theorem dX8_rename_0 : decode cX8_rename 0 = .ok (.aload_n 0, 1) := by decide +kernel
theorem dX8_rename_1 : decode cX8_rename 1 = .ok (.aload_n 0, 1) := by decide +kernel
theorem dX8_rename_2 : decode cX8_rename 2 = .ok (.iload_n 1, 1) := by decide +kernel
theorem dX8_rename_3 : decode cX8_rename 3 = .ok (.invokevirtual 85, 3) := by decide +kernel
theorem dX8_rename_6 : decode cX8_rename 6 = .ok (.ifCond .ne 7, 3) := by decide +kernel
theorem dX8_rename_9 : decode cX8_rename 9 = .ok (.iconst 1, 1) := by decide +kernel
theorem dX8_rename_10 : decode cX8_rename 10 = .ok (.goto 20, 3) := by decide +kernel
theorem dX8_rename_13 : decode cX8_rename 13 = .ok (.aload_n 0, 1) := by decide +kernel
theorem dX8_rename_14 : decode cX8_rename 14 = .ok (.iconst 0, 1) := by decide +kernel
theorem dX8_rename_15 : decode cX8_rename 15 = .ok (.aload_n 0, 1) := by decide +kernel
theorem dX8_rename_16 : decode cX8_rename 16 = .ok (.getfield 53, 3) := by decide +kernel
theorem dX8_rename_19 : decode cX8_rename 19 = .ok (.invokevirtual 66, 3) := by decide +kernel
theorem dX8_rename_22 : decode cX8_rename 22 = .ok (.ifCond .ne 7, 3) := by decide +kernel
theorem dX8_rename_25 : decode cX8_rename 25 = .ok (.iconst 2, 1) := by decide +kernel
theorem dX8_rename_26 : decode cX8_rename 26 = .ok (.goto 4, 3) := by decide +kernel
theorem dX8_rename_29 : decode cX8_rename 29 = .ok (.iconst 0, 1) := by decide +kernel
theorem dX8_rename_30 : decode cX8_rename 30 = .ok (.putfield 50, 3) := by decide +kernel
theorem dX8_rename_33 : decode cX8_rename 33 = .ok (.aload_n 0, 1) := by decide +kernel
theorem dX8_rename_34 : decode cX8_rename 34 = .ok (.getfield 50, 3) := by decide +kernel
theorem dX8_rename_37 : decode cX8_rename 37 = .ok (.ifCond .le 4, 3) := by decide +kernel
theorem dX8_rename_40 : decode cX8_rename 40 = .ok (.return_, 1) := by decide +kernel
theorem dX8_rename_41 : decode cX8_rename 41 = .ok (.aload_n 0, 1) := by decide +kernel
theorem dX8_rename_42 : decode cX8_rename 42 = .ok (.iconst 0, 1) := by decide +kernel
theorem dX8_rename_43 : decode cX8_rename 43 = .ok (.aload_n 0, 1) := by decide +kernel
theorem dX8_rename_44 : decode cX8_rename 44 = .ok (.getfield 53, 3) := by decide +kernel
theorem dX8_rename_47 : decode cX8_rename 47 = .ok (.aload_n 0, 1) := by decide +kernel
theorem dX8_rename_48 : decode cX8_rename 48 = .ok (.getfield 59, 3) := by decide +kernel
theorem dX8_rename_51 : decode cX8_rename 51 = .ok (.invokevirtual 70, 3) := by decide +kernel
theorem dX8_rename_54 : decode cX8_rename 54 = .ok (.istore_n 2, 1) := by decide +kernel
theorem dX8_rename_55 : decode cX8_rename 55 = .ok (.aload_n 0, 1) := by decide +kernel
theorem dX8_rename_56 : decode cX8_rename 56 = .ok (.iload_n 2, 1) := by decide +kernel
theorem dX8_rename_57 : decode cX8_rename 57 = .ok (.iconst (-1), 1) := by decide +kernel
theorem dX8_rename_58 : decode cX8_rename 58 = .ok (.if_icmp .eq 12, 3) := by decide +kernel
theorem dX8_rename_61 : decode cX8_rename 61 = .ok (.iload_n 2, 1) := by decide +kernel
theorem dX8_rename_62 : decode cX8_rename 62 = .ok (.iload_n 1, 1) := by decide +kernel
theorem dX8_rename_63 : decode cX8_rename 63 = .ok (.if_icmp .eq 7, 3) := by decide +kernel
theorem dX8_rename_66 : decode cX8_rename 66 = .ok (.iconst 3, 1) := by decide +kernel
theorem dX8_rename_67 : decode cX8_rename 67 = .ok (.goto 4, 3) := by decide +kernel
theorem dX8_rename_70 : decode cX8_rename 70 = .ok (.iconst 0, 1) := by decide +kernel
theorem dX8_rename_71 : decode cX8_rename 71 = .ok (.putfield 50, 3) := by decide +kernel
theorem dX8_rename_74 : decode cX8_rename 74 = .ok (.aload_n 0, 1) := by decide +kernel
theorem dX8_rename_75 : decode cX8_rename 75 = .ok (.getfield 50, 3) := by decide +kernel
theorem dX8_rename_78 : decode cX8_rename 78 = .ok (.ifCond .le 4, 3) := by decide +kernel
theorem dX8_rename_81 : decode cX8_rename 81 = .ok (.return_, 1) := by decide +kernel
theorem dX8_rename_82 : decode cX8_rename 82 = .ok (.aload_n 0, 1) := by decide +kernel
theorem dX8_rename_83 : decode cX8_rename 83 = .ok (.iload_n 1, 1) := by decide +kernel
theorem dX8_rename_84 : decode cX8_rename 84 = .ok (.iconst 0, 1) := by decide +kernel
theorem dX8_rename_85 : decode cX8_rename 85 = .ok (.aload_n 0, 1) := by decide +kernel
theorem dX8_rename_86 : decode cX8_rename 86 = .ok (.getfield 53, 3) := by decide +kernel
theorem dX8_rename_89 : decode cX8_rename 89 = .ok (.invokevirtual 78, 3) := by decide +kernel
theorem dX8_rename_92 : decode cX8_rename 92 = .ok (.aload_n 0, 1) := by decide +kernel
theorem dX8_rename_93 : decode cX8_rename 93 = .ok (.iconst 0, 1) := by decide +kernel
theorem dX8_rename_94 : decode cX8_rename 94 = .ok (.putfield 53, 3) := by decide +kernel
theorem dX8_rename_97 : decode cX8_rename 97 = .ok (.return_, 1) := by decide +kernel
theorem dX8_remove_0 : decode cX8_remove 0 = .ok (.aload_n 0, 1) := by decide +kernel
theorem dX8_remove_1 : decode cX8_remove 1 = .ok (.aload_n 0, 1) := by decide +kernel
theorem dX8_remove_2 : decode cX8_remove 2 = .ok (.iload_n 1, 1) := by decide +kernel
theorem dX8_remove_3 : decode cX8_remove 3 = .ok (.invokevirtual 85, 3) := by decide +kernel
theorem dX8_remove_6 : decode cX8_remove 6 = .ok (.ifCond .eq 7, 3) := by decide +kernel
theorem dX8_remove_9 : decode cX8_remove 9 = .ok (.iconst 0, 1) := by decide +kernel
theorem dX8_remove_10 : decode cX8_remove 10 = .ok (.goto 4, 3) := by decide +kernel
