theorem dX6_writeShared_0 : decode cX6_writeShared 0 = .ok (.aload_n 0, 1) := by decide +kernel
theorem dX6_writeShared_1 : decode cX6_writeShared 1 = .ok (.bipush 20, 2) := by decide +kernel
theorem dX6_writeShared_3 : decode cX6_writeShared 3 = .ok (.invokevirtual 35, 3) := by decide +kernel
theorem dX6_writeShared_6 : decode cX6_writeShared 6 = .ok (.aload_n 0, 1) := by decide +kernel
theorem dX6_writeShared_7 : decode cX6_writeShared 7 = .ok (.iconst 0, 1) := by decide +kernel
theorem dX6_writeShared_8 : decode cX6_writeShared 8 = .ok (.invokevirtual 35, 3) := by decide +kernel
theorem dX6_writeShared_11 : decode cX6_writeShared 11 = .ok (.aload_n 0, 1) := by decide +kernel
theorem dX6_writeShared_12 : decode cX6_writeShared 12 = .ok (.aload_n 1, 1) := by decide +kernel
theorem dX6_writeShared_13 : decode cX6_writeShared 13 = .ok (.invokevirtual 42, 3) := by decide +kernel
theorem dX6_writeShared_16 : decode cX6_writeShared 16 = .ok (.invokevirtual 35, 3) := by decide +kernel
theorem dX6_writeShared_19 : decode cX6_writeShared 19 = .ok (.aload_n 0, 1) := by decide +kernel
theorem dX6_writeShared_20 : decode cX6_writeShared 20 = .ok (.iconst 0, 1) := by decide +kernel
theorem dX6_writeShared_21 : decode cX6_writeShared 21 = .ok (.invokevirtual 35, 3) := by decide +kernel
theorem dX6_writeShared_24 : decode cX6_writeShared 24 = .ok (.aload_n 0, 1) := by decide +kernel
theorem dX6_writeShared_25 : decode cX6_writeShared 25 = .ok (.bipush 33, 2) := by decide +kernel
theorem dX6_writeShared_27 : decode cX6_writeShared 27 = .ok (.invokevirtual 35, 3) := by decide +kernel
theorem dX6_writeShared_30 : decode cX6_writeShared 30 = .ok (.aload_n 0, 1) := by decide +kernel
theorem dX6_writeShared_31 : decode cX6_writeShared 31 = .ok (.aload_n 1, 1) := by decide +kernel
theorem dX6_writeShared_32 : decode cX6_writeShared 32 = .ok (.getfield 45, 3) := by decide +kernel
theorem dX6_writeShared_35 : decode cX6_writeShared 35 = .ok (.invokevirtual 39, 3) := by decide +kernel
theorem dX6_writeShared_38 : decode cX6_writeShared 38 = .ok (.aload_n 0, 1) := by decide +kernel
theorem dX6_writeShared_39 : decode cX6_writeShared 39 = .ok (.aload_n 1, 1) := by decide +kernel
theorem dX6_writeShared_40 : decode cX6_writeShared 40 = .ok (.getfield 49, 3) := by decide +kernel
theorem dX6_writeShared_43 : decode cX6_writeShared 43 = .ok (.invokevirtual 39, 3) := by decide +kernel
theorem dX6_writeShared_46 : decode cX6_writeShared 46 = .ok (.aload_n 0, 1) := by decide +kernel
theorem dX6_writeShared_47 : decode cX6_writeShared 47 = .ok (.aload_n 1, 1) := by decide +kernel
theorem dX6_writeShared_48 : decode cX6_writeShared 48 = .ok (.getfield 52, 3) := by decide +kernel
theorem dX6_writeShared_51 : decode cX6_writeShared 51 = .ok (.invokevirtual 39, 3) := by decide +kernel
theorem dX6_writeShared_54 : decode cX6_writeShared 54 = .ok (.aload_n 0, 1) := by decide +kernel
theorem dX6_writeShared_55 : decode cX6_writeShared 55 = .ok (.aload_n 1, 1) := by decide +kernel
theorem dX6_writeShared_56 : decode cX6_writeShared 56 = .ok (.getfield 21, 3) := by decide +kernel
theorem dX6_writeShared_59 : decode cX6_writeShared 59 = .ok (.invokevirtual 27, 3) := by decide +kernel
theorem dX6_writeShared_62 : decode cX6_writeShared 62 = .ok (.invokevirtual 35, 3) := by decide +kernel
theorem dX6_writeShared_65 : decode cX6_writeShared 65 = .ok (.aload_n 0, 1) := by decide +kernel
theorem dX6_writeShared_66 : decode cX6_writeShared 66 = .ok (.iconst 0, 1) := by decide +kernel
theorem dX6_writeShared_67 : decode cX6_writeShared 67 = .ok (.invokevirtual 35, 3) := by decide +kernel
theorem dX6_writeShared_70 : decode cX6_writeShared 70 = .ok (.return_, 1) := by decide +kernel
theorem dX6_writeEnd_0 : decode cX6_writeEnd 0 = .ok (.aload_n 0, 1) := by decide +kernel
theorem dX6_writeEnd_1 : decode cX6_writeEnd 1 = .ok (.iconst 5, 1) := by decide +kernel
theorem dX6_writeEnd_2 : decode cX6_writeEnd 2 = .ok (.bipush 6, 2) := by decide +kernel
theorem dX6_writeEnd_4 : decode cX6_writeEnd 4 = .ok (.invokevirtual 9, 3) := by decide +kernel
theorem dX6_writeEnd_7 : decode cX6_writeEnd 7 = .ok (.aload_n 0, 1) := by decide +kernel
theorem dX6_writeEnd_8 : decode cX6_writeEnd 8 = .ok (.iconst 0, 1) := by decide +kernel
theorem dX6_writeEnd_9 : decode cX6_writeEnd 9 = .ok (.invokevirtual 35, 3) := by decide +kernel
theorem dX6_writeEnd_12 : decode cX6_writeEnd 12 = .ok (.aload_n 0, 1) := by decide +kernel
theorem dX6_writeEnd_13 : decode cX6_writeEnd 13 = .ok (.iconst 0, 1) := by decide +kernel
theorem dX6_writeEnd_14 : decode cX6_writeEnd 14 = .ok (.invokevirtual 35, 3) := by decide +kernel
theorem dX6_writeEnd_17 : decode cX6_writeEnd 17 = .ok (.aload_n 0, 1) := by decide +kernel
theorem dX6_writeEnd_18 : decode cX6_writeEnd 18 = .ok (.iload_n 1, 1) := by decide +kernel
theorem dX6_writeEnd_19 : decode cX6_writeEnd 19 = .ok (.invokevirtual 35, 3) := by decide +kernel
theorem dX6_writeEnd_22 : decode cX6_writeEnd 22 = .ok (.aload_n 0, 1) := by decide +kernel
theorem dX6_writeEnd_23 : decode cX6_writeEnd 23 = .ok (.iload_n 1, 1) := by decide +kernel
theorem dX6_writeEnd_24 : decode cX6_writeEnd 24 = .ok (.invokevirtual 35, 3) := by decide +kernel
theorem dX6_writeEnd_27 : decode cX6_writeEnd 27 = .ok (.aload_n 0, 1) := by decide +kernel
theorem dX6_writeEnd_28 : decode cX6_writeEnd 28 = .ok (.iload_n 2, 1) := by decide +kernel
theorem dX6_writeEnd_29 : decode cX6_writeEnd 29 = .ok (.invokevirtual 39, 3) := by decide +kernel
theorem dX6_writeEnd_32 : decode cX6_writeEnd 32 = .ok (.aload_n 0, 1) := by decide +kernel
theorem dX6_writeEnd_33 : decode cX6_writeEnd 33 = .ok (.iload_n 3, 1) := by decide +kernel
theorem dX6_writeEnd_34 : decode cX6_writeEnd 34 = .ok (.invokevirtual 39, 3) := by decide +kernel
theorem dX6_writeEnd_37 : decode cX6_writeEnd 37 = .ok (.aload_n 0, 1) := by decide +kernel
theorem dX6_writeEnd_38 : decode cX6_writeEnd 38 = .ok (.iconst 0, 1) := by decide +kernel
theorem dX6_writeEnd_39 : decode cX6_writeEnd 39 = .ok (.invokevirtual 35, 3) := by decide +kernel
theorem dX6_writeEnd_42 : decode cX6_writeEnd 42 = .ok (.return_, 1) := by decide +kernel
theorem dX7_init_0 : decode cX7_init 0 = .ok (.aload_n 0, 1) := by decide +kernel
theorem dX7_init_1 : decode cX7_init 1 = .ok (.invokespecial 1, 3) := by decide +kernel
theorem dX7_init_4 : decode cX7_init 4 = .ok (.aload_n 0, 1) := by decide +kernel
theorem dX7_init_5 : decode cX7_init 5 = .ok (.new 7, 3) := by decide +kernel
theorem dX7_init_8 : decode cX7_init 8 = .ok (.dup, 1) := by decide +kernel
theorem dX7_init_9 : decode cX7_init 9 = .ok (.bipush 20, 2) := by decide +kernel
theorem dX7_init_11 : decode cX7_init 11 = .ok (.invokespecial 11, 3) := by decide +kernel
theorem dX7_init_14 : decode cX7_init 14 = .ok (.putfield 14, 3) := by decide +kernel
theorem dX7_init_17 : decode cX7_init 17 = .ok (.aload_n 0, 1) := by decide +kernel
theorem dX7_init_18 : decode cX7_init 18 = .ok (.new 7, 3) := by decide +kernel
theorem dX7_init_21 : decode cX7_init 21 = .ok (.dup, 1) := by decide +kernel
theorem dX7_init_22 : decode cX7_init 22 = .ok (.sipush 9000, 3) := by decide +kernel
theorem dX7_init_25 : decode cX7_init 25 = .ok (.invokespecial 11, 3) := by decide +kernel
theorem dX7_init_28 : decode cX7_init 28 = .ok (.putfield 18, 3) := by decide +kernel
theorem dX7_init_31 : decode cX7_init 31 = .ok (.aload_n 0, 1) := by decide +kernel
theorem dX7_init_32 : decode cX7_init 32 = .ok (.new 7, 3) := by decide +kernel
theorem dX7_init_35 : decode cX7_init 35 = .ok (.dup, 1) := by decide +kernel
theorem dX7_init_36 : decode cX7_init 36 = .ok (.sipush 9000, 3) := by decide +kernel
theorem dX7_init_39 : decode cX7_init 39 = .ok (.invokespecial 11, 3) := by decide +kernel
theorem dX7_init_42 : decode cX7_init 42 = .ok (.putfield 21, 3) := by decide +kernel
theorem dX7_init_45 : decode cX7_init 45 = .ok (.aload_n 0, 1) := by decide +kernel
theorem dX7_init_46 : decode cX7_init 46 = .ok (.new 24, 3) := by decide +kernel
theorem dX7_init_49 : decode cX7_init 49 = .ok (.dup, 1) := by decide +kernel
theorem dX7_init_50 : decode cX7_init 50 = .ok (.invokespecial 26, 3) := by decide +kernel
theorem dX7_init_53 : decode cX7_init 53 = .ok (.putfield 27, 3) := by decide +kernel
theorem dX7_init_56 : decode cX7_init 56 = .ok (.aload_n 0, 1) := by decide +kernel
theorem dX7_init_57 : decode cX7_init 57 = .ok (.new 31, 3) := by decide +kernel
theorem dX7_init_60 : decode cX7_init 60 = .ok (.dup, 1) := by decide +kernel
theorem dX7_init_61 : decode cX7_init 61 = .ok (.invokespecial 33, 3) := by decide +kernel
theorem dX7_init_64 : decode cX7_init 64 = .ok (.putfield 34, 3) := by decide +kernel
theorem dX7_init_67 : decode cX7_init 67 = .ok (.aload_n 0, 1) := by decide +kernel
theorem dX7_init_68 : decode cX7_init 68 = .ok (.getfield 14, 3) := by decide +kernel
theorem dX7_init_71 : decode cX7_init 71 = .ok (.invokevirtual 38, 3) := by decide +kernel
theorem dX7_init_74 : decode cX7_init 74 = .ok (.return_, 1) := by decide +kernel
theorem dX7_feed_0 : decode cX7_feed 0 = .ok (.aload_n 0, 1) := by decide +kernel
theorem dX7_feed_1 : decode cX7_feed 1 = .ok (.getfield 14, 3) := by decide +kernel
theorem dX7_feed_4 : decode cX7_feed 4 = .ok (.iconst 0, 1) := by decide +kernel
theorem dX7_feed_5 : decode cX7_feed 5 = .ok (.invokevirtual 41, 3) := by decide +kernel
theorem dX7_feed_8 : decode cX7_feed 8 = .ok (.pop, 1) := by decide +kernel
theorem dX7_feed_9 : decode cX7_feed 9 = .ok (.aload_n 0, 1) := by decide +kernel
theorem dX7_feed_10 : decode cX7_feed 10 = .ok (.getfield 14, 3) := by decide +kernel
theorem dX7_feed_13 : decode cX7_feed 13 = .ok (.iload_n 1, 1) := by decide +kernel
theorem dX7_feed_14 : decode cX7_feed 14 = .ok (.invokevirtual 45, 3) := by decide +kernel
theorem dX7_feed_17 : decode cX7_feed 17 = .ok (.aload_n 0, 1) := by decide +kernel
theorem dX7_feed_18 : decode cX7_feed 18 = .ok (.getfield 14, 3) := by decide +kernel
theorem dX7_feed_21 : decode cX7_feed 21 = .ok (.iload_n 2, 1) := by decide +kernel
theorem dX7_feed_22 : decode cX7_feed 22 = .ok (.invokevirtual 45, 3) := by decide +kernel
theorem dX7_feed_25 : decode cX7_feed 25 = .ok (.aload_n 0, 1) := by decide +kernel
theorem dX7_feed_26 : decode cX7_feed 26 = .ok (.getfield 14, 3) := by decide +kernel
theorem dX7_feed_29 : decode cX7_feed 29 = .ok (.iload_n 3, 1) := by decide +kernel
theorem dX7_feed_30 : decode cX7_feed 30 = .ok (.invokevirtual 45, 3) := by decide +kernel
theorem dX7_feed_33 : decode cX7_feed 33 = .ok (.aload_n 0, 1) := by decide +kernel
theorem dX7_feed_34 : decode cX7_feed 34 = .ok (.getfield 14, 3) := by decide +kernel
theorem dX7_feed_37 : decode cX7_feed 37 = .ok (.iload 4, 2) := by decide +kernel
theorem dX7_feed_39 : decode cX7_feed 39 = .ok (.invokevirtual 45, 3) := by decide +kernel
theorem dX7_feed_42 : decode cX7_feed 42 = .ok (.aload_n 0, 1) := by decide +kernel
theorem dX7_feed_43 : decode cX7_feed 43 = .ok (.getfield 14, 3) := by decide +kernel
theorem dX7_feed_46 : decode cX7_feed 46 = .ok (.iload 5, 2) := by decide +kernel
theorem dX7_feed_48 : decode cX7_feed 48 = .ok (.invokevirtual 45, 3) := by decide +kernel
theorem dX7_feed_51 : decode cX7_feed 51 = .ok (.return_, 1) := by decide +kernel
theorem dX7_end_0 : decode cX7_end 0 = .ok (.iload_n 1, 1) := by decide +kernel
theorem dX7_end_1 : decode cX7_end 1 = .ok (.ifCond .lt 33, 3) := by decide +kernel
theorem dX7_end_4 : decode cX7_end 4 = .ok (.iload_n 1, 1) := by decide +kernel
theorem dX7_end_5 : decode cX7_end 5 = .ok (.bipush 20, 2) := by decide +kernel
theorem dX7_end_7 : decode cX7_end 7 = .ok (.if_icmp .gt 27, 3) := by decide +kernel
theorem dX7_end_10 : decode cX7_end 10 = .ok (.iload_n 2, 1) := by decide +kernel
theorem dX7_end_11 : decode cX7_end 11 = .ok (.iconst 1, 1) := by decide +kernel
theorem dX7_end_12 : decode cX7_end 12 = .ok (.if_icmp .lt 22, 3) := by decide +kernel
theorem dX7_end_15 : decode cX7_end 15 = .ok (.iload_n 2, 1) := by decide +kernel
theorem dX7_end_16 : decode cX7_end 16 = .ok (.bipush 100, 2) := by decide +kernel
theorem dX7_end_18 : decode cX7_end 18 = .ok (.if_icmp .gt 16, 3) := by decide +kernel
theorem dX7_end_21 : decode cX7_end 21 = .ok (.iload_n 1, 1) := by decide +kernel
theorem dX7_end_22 : decode cX7_end 22 = .ok (.iload_n 2, 1) := by decide +kernel
theorem dX7_end_23 : decode cX7_end 23 = .ok (.imul, 1) := by decide +kernel
theorem dX7_end_24 : decode cX7_end 24 = .ok (.aload_n 0, 1) := by decide +kernel
theorem dX7_end_25 : decode cX7_end 25 = .ok (.getfield 18, 3) := by decide +kernel
theorem dX7_end_28 : decode cX7_end 28 = .ok (.invokevirtual 48, 3) := by decide +kernel
theorem dX7_end_31 : decode cX7_end 31 = .ok (.if_icmp .le 5, 3) := by decide +kernel
theorem dX7_end_34 : decode cX7_end 34 = .ok (.iconst (-1), 1) := by decide +kernel
theorem dX7_end_35 : decode cX7_end 35 = .ok (.ireturn, 1) := by decide +kernel
theorem dX7_end_36 : decode cX7_end 36 = .ok (.iconst 0, 1) := by decide +kernel
theorem dX7_end_37 : decode cX7_end 37 = .ok (.istore_n 3, 1) := by decide +kernel
theorem dX7_end_38 : decode cX7_end 38 = .ok (.iload_n 3, 1) := by decide +kernel
theorem dX7_end_39 : decode cX7_end 39 = .ok (.iload_n 2, 1) := by decide +kernel
theorem dX7_end_40 : decode cX7_end 40 = .ok (.if_icmp .ge 22, 3) := by decide +kernel
theorem dX7_end_43 : decode cX7_end 43 = .ok (.aload_n 0, 1) := by decide +kernel
theorem dX7_end_44 : decode cX7_end 44 = .ok (.getfield 18, 3) := by decide +kernel
theorem dX7_end_47 : decode cX7_end 47 = .ok (.aload_n 0, 1) := by decide +kernel
theorem dX7_end_48 : decode cX7_end 48 = .ok (.getfield 14, 3) := by decide +kernel
theorem dX7_end_51 : decode cX7_end 51 = .ok (.iconst 0, 1) := by decide +kernel
theorem dX7_end_52 : decode cX7_end 52 = .ok (.iload_n 1, 1) := by decide +kernel
theorem dX7_end_53 : decode cX7_end 53 = .ok (.invokevirtual 52, 3) := by decide +kernel
theorem dX7_end_56 : decode cX7_end 56 = .ok (.iinc 3 1, 3) := by decide +kernel
theorem dX7_end_59 : decode cX7_end 59 = .ok (.goto (-21), 3) := by decide +kernel
theorem dX7_end_62 : decode cX7_end 62 = .ok (.aload_n 0, 1) := by decide +kernel
theorem dX7_end_63 : decode cX7_end 63 = .ok (.getfield 14, 3) := by decide +kernel
theorem dX7_end_66 : decode cX7_end 66 = .ok (.invokevirtual 38, 3) := by decide +kernel
theorem dX7_end_69 : decode cX7_end 69 = .ok (.aload_n 0, 1) := by decide +kernel
theorem dX7_end_70 : decode cX7_end 70 = .ok (.getfield 18, 3) := by decide +kernel
theorem dX7_end_73 : decode cX7_end 73 = .ok (.invokevirtual 56, 3) := by decide +kernel
theorem dX7_end_76 : decode cX7_end 76 = .ok (.ireturn, 1) := by decide +kernel
theorem dX7_cut_0 : decode cX7_cut 0 = .ok (.aload_n 0, 1) := by decide +kernel
theorem dX7_cut_1 : decode cX7_cut 1 = .ok (.getfield 18, 3) := by decide +kernel
theorem dX7_cut_4 : decode cX7_cut 4 = .ok (.iload_n 1, 1) := by decide +kernel
theorem dX7_cut_5 : decode cX7_cut 5 = .ok (.invokevirtual 41, 3) := by decide +kernel
theorem dX7_cut_8 : decode cX7_cut 8 = .ok (.ireturn, 1) := by decide +kernel
theorem dX7_drop_0 : decode cX7_drop 0 = .ok (.aload_n 0, 1) := by decide +kernel
theorem dX7_drop_1 : decode cX7_drop 1 = .ok (.getfield 18, 3) := by decide +kernel
theorem dX7_drop_4 : decode cX7_drop 4 = .ok (.iconst 0, 1) := by decide +kernel
theorem dX7_drop_5 : decode cX7_drop 5 = .ok (.iload_n 1, 1) := by decide +kernel
theorem dX7_drop_6 : decode cX7_drop 6 = .ok (.invokevirtual 59, 3) := by decide +kernel
theorem dX7_drop_9 : decode cX7_drop 9 = .ok (.ireturn, 1) := by decide +kernel
theorem dX7_flip_0 : decode cX7_flip 0 = .ok (.aload_n 0, 1) := by decide +kernel
theorem dX7_flip_1 : decode cX7_flip 1 = .ok (.getfield 18, 3) := by decide +kernel
theorem dX7_flip_4 : decode cX7_flip 4 = .ok (.iload_n 1, 1) := by decide +kernel
theorem dX7_flip_5 : decode cX7_flip 5 = .ok (.iload_n 2, 1) := by decide +kernel
theorem dX7_flip_6 : decode cX7_flip 6 = .ok (.invokevirtual 63, 3) := by decide +kernel
theorem dX7_flip_9 : decode cX7_flip 9 = .ok (.ireturn, 1) := by decide +kernel
theorem dX7_take_0 : decode cX7_take 0 = .ok (.aload_n 0, 1) := by decide +kernel
theorem dX7_take_1 : decode cX7_take 1 = .ok (.getfield 21, 3) := by decide +kernel
theorem dX7_take_4 : decode cX7_take 4 = .ok (.invokevirtual 56, 3) := by decide +kernel
theorem dX7_take_7 : decode cX7_take 7 = .ok (.aload_n 0, 1) := by decide +kernel
theorem dX7_take_8 : decode cX7_take 8 = .ok (.getfield 18, 3) := by decide +kernel
theorem dX7_take_11 : decode cX7_take 11 = .ok (.invokevirtual 48, 3) := by decide +kernel
theorem dX7_take_14 : decode cX7_take 14 = .ok (.if_icmp .le 13, 3) := by decide +kernel
theorem dX7_take_17 : decode cX7_take 17 = .ok (.new 66, 3) := by decide +kernel
theorem dX7_take_20 : decode cX7_take 20 = .ok (.dup, 1) := by decide +kernel
theorem dX7_take_21 : decode cX7_take 21 = .ok (.ldc 68, 2) := by decide +kernel
theorem dX7_take_23 : decode cX7_take 23 = .ok (.invokespecial 70, 3) := by decide +kernel
theorem dX7_take_26 : decode cX7_take 26 = .ok (.athrow, 1) := by decide +kernel
theorem dX7_take_27 : decode cX7_take 27 = .ok (.aload_n 0, 1) := by decide +kernel
theorem dX7_take_28 : decode cX7_take 28 = .ok (.getfield 18, 3) := by decide +kernel
theorem dX7_take_31 : decode cX7_take 31 = .ok (.aload_n 0, 1) := by decide +kernel
theorem dX7_take_32 : decode cX7_take 32 = .ok (.getfield 21, 3) := by decide +kernel
theorem dX7_take_35 : decode cX7_take 35 = .ok (.iconst 0, 1) := by decide +kernel
theorem dX7_take_36 : decode cX7_take 36 = .ok (.aload_n 0, 1) := by decide +kernel
theorem dX7_take_37 : decode cX7_take 37 = .ok (.getfield 21, 3) := by decide +kernel
theorem dX7_take_40 : decode cX7_take 40 = .ok (.invokevirtual 56, 3) := by decide +kernel
theorem dX7_take_43 : decode cX7_take 43 = .ok (.invokevirtual 52, 3) := by decide +kernel
theorem dX7_take_46 : decode cX7_take 46 = .ok (.aload_n 0, 1) := by decide +kernel
theorem dX7_take_47 : decode cX7_take 47 = .ok (.getfield 18, 3) := by decide +kernel
theorem dX7_take_50 : decode cX7_take 50 = .ok (.invokevirtual 56, 3) := by decide +kernel
theorem dX7_take_53 : decode cX7_take 53 = .ok (.ireturn, 1) := by decide +kernel
theorem dX7_add_0 : decode cX7_add 0 = .ok (.aload_n 0, 1) := by decide +kernel
theorem dX7_add_1 : decode cX7_add 1 = .ok (.getfield 18, 3) := by decide +kernel
theorem dX7_add_4 : decode cX7_add 4 = .ok (.iconst 0, 1) := by decide +kernel
theorem dX7_add_5 : decode cX7_add 5 = .ok (.iload_n 1, 1) := by decide +kernel
theorem dX7_add_6 : decode cX7_add 6 = .ok (.invokevirtual 73, 3) := by decide +kernel
theorem dX7_add_9 : decode cX7_add 9 = .ok (.ifCond .ne 13, 3) := by decide +kernel
theorem dX7_add_12 : decode cX7_add 12 = .ok (.new 76, 3) := by decide +kernel
theorem dX7_add_15 : decode cX7_add 15 = .ok (.dup, 1) := by decide +kernel
theorem dX7_add_16 : decode cX7_add 16 = .ok (.ldc 78, 2) := by decide +kernel
theorem dX7_add_18 : decode cX7_add 18 = .ok (.invokespecial 80, 3) := by decide +kernel
theorem dX7_add_21 : decode cX7_add 21 = .ok (.athrow, 1) := by decide +kernel
theorem dX7_add_22 : decode cX7_add 22 = .ok (.aload_n 0, 1) := by decide +kernel
theorem dX7_add_23 : decode cX7_add 23 = .ok (.getfield 18, 3) := by decide +kernel
theorem dX7_add_26 : decode cX7_add 26 = .ok (.invokevirtual 56, 3) := by decide +kernel
theorem dX7_add_29 : decode cX7_add 29 = .ok (.iload_n 1, 1) := by decide +kernel
theorem dX7_add_30 : decode cX7_add 30 = .ok (.isub, 1) := by decide +kernel
theorem dX7_add_31 : decode cX7_add 31 = .ok (.istore_n 2, 1) := by decide +kernel
theorem dX7_add_32 : decode cX7_add 32 = .ok (.iload_n 2, 1) := by decide +kernel
theorem dX7_add_33 : decode cX7_add 33 = .ok (.sipush 1500, 3) := by decide +kernel
theorem dX7_add_36 : decode cX7_add 36 = .ok (.if_icmp .le 13, 3) := by decide +kernel
theorem dX7_add_39 : decode cX7_add 39 = .ok (.new 76, 3) := by decide +kernel
theorem dX7_add_42 : decode cX7_add 42 = .ok (.dup, 1) := by decide +kernel
theorem dX7_add_43 : decode cX7_add 43 = .ok (.ldc 81, 2) := by decide +kernel
theorem dX7_add_45 : decode cX7_add 45 = .ok (.invokespecial 80, 3) := by decide +kernel
theorem dX7_add_48 : decode cX7_add 48 = .ok (.athrow, 1) := by decide +kernel
theorem dX7_add_49 : decode cX7_add 49 = .ok (.aload_n 0, 1) := by decide +kernel
theorem dX7_add_50 : decode cX7_add 50 = .ok (.getfield 27, 3) := by decide +kernel
theorem dX7_add_53 : decode cX7_add 53 = .ok (.aload_n 0, 1) := by decide +kernel
theorem dX7_add_54 : decode cX7_add 54 = .ok (.getfield 18, 3) := by decide +kernel
theorem dX7_add_57 : decode cX7_add 57 = .ok (.iconst 0, 1) := by decide +kernel
theorem dX7_add_58 : decode cX7_add 58 = .ok (.iload_n 1, 1) := by decide +kernel
theorem dX7_add_59 : decode cX7_add 59 = .ok (.invokevirtual 83, 3) := by decide +kernel
theorem dX7_add_62 : decode cX7_add 62 = .ok (.iconst (-1), 1) := by decide +kernel
theorem dX7_add_63 : decode cX7_add 63 = .ok (.if_icmp .eq 13, 3) := by decide +kernel
theorem dX7_add_66 : decode cX7_add 66 = .ok (.new 66, 3) := by decide +kernel
theorem dX7_add_69 : decode cX7_add 69 = .ok (.dup, 1) := by decide +kernel
theorem dX7_add_70 : decode cX7_add 70 = .ok (.ldc 87, 2) := by decide +kernel
theorem dX7_add_72 : decode cX7_add 72 = .ok (.invokespecial 70, 3) := by decide +kernel
theorem dX7_add_75 : decode cX7_add 75 = .ok (.athrow, 1) := by decide +kernel
theorem dX7_add_76 : decode cX7_add 76 = .ok (.aload_n 0, 1) := by decide +kernel
theorem dX7_add_77 : decode cX7_add 77 = .ok (.getfield 27, 3) := by decide +kernel
theorem dX7_add_80 : decode cX7_add 80 = .ok (.iconst (-1), 1) := by decide +kernel
theorem dX7_add_81 : decode cX7_add 81 = .ok (.iload_n 2, 1) := by decide +kernel
theorem dX7_add_82 : decode cX7_add 82 = .ok (.invokevirtual 89, 3) := by decide +kernel
theorem dX7_add_85 : decode cX7_add 85 = .ok (.ifCond .ne 13, 3) := by decide +kernel
theorem dX7_add_88 : decode cX7_add 88 = .ok (.new 66, 3) := by decide +kernel
theorem dX7_add_91 : decode cX7_add 91 = .ok (.dup, 1) := by decide +kernel
theorem dX7_add_92 : decode cX7_add 92 = .ok (.ldc 92, 2) := by decide +kernel
theorem dX7_add_94 : decode cX7_add 94 = .ok (.invokespecial 70, 3) := by decide +kernel
theorem dX7_add_97 : decode cX7_add 97 = .ok (.athrow, 1) := by decide +kernel
theorem dX7_add_98 : decode cX7_add 98 = .ok (.aload_n 0, 1) := by decide +kernel
theorem dX7_add_99 : decode cX7_add 99 = .ok (.getfield 27, 3) := by decide +kernel
theorem dX7_add_102 : decode cX7_add 102 = .ok (.aload_n 0, 1) := by decide +kernel
theorem dX7_add_103 : decode cX7_add 103 = .ok (.getfield 18, 3) := by decide +kernel
theorem dX7_add_106 : decode cX7_add 106 = .ok (.iconst 0, 1) := by decide +kernel
theorem dX7_add_107 : decode cX7_add 107 = .ok (.iload_n 1, 1) := by decide +kernel
theorem dX7_add_108 : decode cX7_add 108 = .ok (.aload_n 0, 1) := by decide +kernel
theorem dX7_add_109 : decode cX7_add 109 = .ok (.getfield 18, 3) := by decide +kernel
theorem dX7_add_112 : decode cX7_add 112 = .ok (.iload_n 1, 1) := by decide +kernel
theorem dX7_add_113 : decode cX7_add 113 = .ok (.iload_n 2, 1) := by decide +kernel
theorem dX7_add_114 : decode cX7_add 114 = .ok (.invokevirtual 94, 3) := by decide +kernel
theorem dX7_add_117 : decode cX7_add 117 = .ok (.aload_n 0, 1) := by decide +kernel
theorem dX7_add_118 : decode cX7_add 118 = .ok (.getfield 18, 3) := by decide +kernel
theorem dX7_add_121 : decode cX7_add 121 = .ok (.iconst 0, 1) := by decide +kernel
theorem dX7_add_122 : decode cX7_add 122 = .ok (.invokevirtual 41, 3) := by decide +kernel
theorem dX7_add_125 : decode cX7_add 125 = .ok (.pop, 1) := by decide +kernel
theorem dX7_add_126 : decode cX7_add 126 = .ok (.aload_n 0, 1) := by decide +kernel
theorem dX7_add_127 : decode cX7_add 127 = .ok (.getfield 27, 3) := by decide +kernel
theorem dX7_add_130 : decode cX7_add 130 = .ok (.invokevirtual 98, 3) := by decide +kernel
theorem dX7_add_133 : decode cX7_add 133 = .ok (.iconst 1, 1) := by decide +kernel
theorem dX7_add_134 : decode cX7_add 134 = .ok (.isub, 1) := by decide +kernel
theorem dX7_add_135 : decode cX7_add 135 = .ok (.ireturn, 1) := by decide +kernel
theorem dX7_replace_0 : decode cX7_replace 0 = .ok (.aload_n 0, 1) := by decide +kernel
theorem dX7_replace_1 : decode cX7_replace 1 = .ok (.getfield 27, 3) := by decide +kernel
theorem dX7_replace_4 : decode cX7_replace 4 = .ok (.iload_n 1, 1) := by decide +kernel
theorem dX7_replace_5 : decode cX7_replace 5 = .ok (.invokevirtual 101, 3) := by decide +kernel
theorem dX7_replace_8 : decode cX7_replace 8 = .ok (.ifnonnull 13, 3) := by decide +kernel
theorem dX7_replace_11 : decode cX7_replace 11 = .ok (.new 105, 3) := by decide +kernel
theorem dX7_replace_14 : decode cX7_replace 14 = .ok (.dup, 1) := by decide +kernel
theorem dX7_replace_15 : decode cX7_replace 15 = .ok (.ldc 107, 2) := by decide +kernel
theorem dX7_replace_17 : decode cX7_replace 17 = .ok (.invokespecial 109, 3) := by decide +kernel
theorem dX7_replace_20 : decode cX7_replace 20 = .ok (.athrow, 1) := by decide +kernel
theorem dX7_replace_21 : decode cX7_replace 21 = .ok (.aload_n 0, 1) := by decide +kernel
theorem dX7_replace_22 : decode cX7_replace 22 = .ok (.getfield 18, 3) := by decide +kernel
theorem dX7_replace_25 : decode cX7_replace 25 = .ok (.invokevirtual 56, 3) := by decide +kernel
theorem dX7_replace_28 : decode cX7_replace 28 = .ok (.sipush 1500, 3) := by decide +kernel
theorem dX7_replace_31 : decode cX7_replace 31 = .ok (.if_icmp .le 13, 3) := by decide +kernel
theorem dX7_replace_34 : decode cX7_replace 34 = .ok (.new 76, 3) := by decide +kernel
theorem dX7_replace_37 : decode cX7_replace 37 = .ok (.dup, 1) := by decide +kernel
theorem dX7_replace_38 : decode cX7_replace 38 = .ok (.ldc 81, 2) := by decide +kernel
theorem dX7_replace_40 : decode cX7_replace 40 = .ok (.invokespecial 80, 3) := by decide +kernel
theorem dX7_replace_43 : decode cX7_replace 43 = .ok (.athrow, 1) := by decide +kernel
theorem dX7_replace_44 : decode cX7_replace 44 = .ok (.aload_n 0, 1) := by decide +kernel
theorem dX7_replace_45 : decode cX7_replace 45 = .ok (.getfield 27, 3) := by decide +kernel
theorem dX7_replace_48 : decode cX7_replace 48 = .ok (.iload_n 1, 1) := by decide +kernel
theorem dX7_replace_49 : decode cX7_replace 49 = .ok (.aload_n 0, 1) := by decide +kernel
theorem dX7_replace_50 : decode cX7_replace 50 = .ok (.getfield 18, 3) := by decide +kernel
theorem dX7_replace_53 : decode cX7_replace 53 = .ok (.invokevirtual 56, 3) := by decide +kernel
theorem dX7_replace_56 : decode cX7_replace 56 = .ok (.invokevirtual 89, 3) := by decide +kernel
theorem dX7_replace_59 : decode cX7_replace 59 = .ok (.ifCond .ne 13, 3) := by decide +kernel
theorem dX7_replace_62 : decode cX7_replace 62 = .ok (.new 66, 3) := by decide +kernel
theorem dX7_replace_65 : decode cX7_replace 65 = .ok (.dup, 1) := by decide +kernel
theorem dX7_replace_66 : decode cX7_replace 66 = .ok (.ldc 110, 2) := by decide +kernel
theorem dX7_replace_68 : decode cX7_replace 68 = .ok (.invokespecial 70, 3) := by decide +kernel
theorem dX7_replace_71 : decode cX7_replace 71 = .ok (.athrow, 1) := by decide +kernel
theorem dX7_replace_72 : decode cX7_replace 72 = .ok (.aload_n 0, 1) := by decide +kernel
theorem dX7_replace_73 : decode cX7_replace 73 = .ok (.getfield 27, 3) := by decide +kernel
theorem dX7_replace_76 : decode cX7_replace 76 = .ok (.iload_n 1, 1) := by decide +kernel
theorem dX7_replace_77 : decode cX7_replace 77 = .ok (.aload_n 0, 1) := by decide +kernel
theorem dX7_replace_78 : decode cX7_replace 78 = .ok (.getfield 18, 3) := by decide +kernel
theorem dX7_replace_81 : decode cX7_replace 81 = .ok (.invokevirtual 112, 3) := by decide +kernel
theorem dX7_replace_84 : decode cX7_replace 84 = .ok (.aload_n 0, 1) := by decide +kernel
theorem dX7_replace_85 : decode cX7_replace 85 = .ok (.getfield 18, 3) := by decide +kernel
theorem dX7_replace_88 : decode cX7_replace 88 = .ok (.iconst 0, 1) := by decide +kernel
theorem dX7_replace_89 : decode cX7_replace 89 = .ok (.invokevirtual 41, 3) := by decide +kernel
theorem dX7_replace_92 : decode cX7_replace 92 = .ok (.pop, 1) := by decide +kernel
theorem dX7_replace_93 : decode cX7_replace 93 = .ok (.return_, 1) := by decide +kernel
theorem dX7_rename_0 : decode cX7_rename 0 = .ok (.aload_n 0, 1) := by decide +kernel
theorem dX7_rename_1 : decode cX7_rename 1 = .ok (.getfield 27, 3) := by decide +kernel
theorem dX7_rename_4 : decode cX7_rename 4 = .ok (.iload_n 1, 1) := by decide +kernel
theorem dX7_rename_5 : decode cX7_rename 5 = .ok (.invokevirtual 101, 3) := by decide +kernel
theorem dX7_rename_8 : decode cX7_rename 8 = .ok (.ifnonnull 13, 3) := by decide +kernel
theorem dX7_rename_11 : decode cX7_rename 11 = .ok (.new 105, 3) := by decide +kernel
theorem dX7_rename_14 : decode cX7_rename 14 = .ok (.dup, 1) := by decide +kernel
theorem dX7_rename_15 : decode cX7_rename 15 = .ok (.ldc 107, 2) := by decide +kernel
theorem dX7_rename_17 : decode cX7_rename 17 = .ok (.invokespecial 109, 3) := by decide +kernel
theorem dX7_rename_20 : decode cX7_rename 20 = .ok (.athrow, 1) := by decide +kernel
theorem dX7_rename_21 : decode cX7_rename 21 = .ok (.aload_n 0, 1) := by decide +kernel
theorem dX7_rename_22 : decode cX7_rename 22 = .ok (.getfield 18, 3) := by decide +kernel
theorem dX7_rename_25 : decode cX7_rename 25 = .ok (.iconst 0, 1) := by decide +kernel
theorem dX7_rename_26 : decode cX7_rename 26 = .ok (.aload_n 0, 1) := by decide +kernel
theorem dX7_rename_27 : decode cX7_rename 27 = .ok (.getfield 18, 3) := by decide +kernel
theorem dX7_rename_30 : decode cX7_rename 30 = .ok (.invokevirtual 56, 3) := by decide +kernel
theorem dX7_rename_33 : decode cX7_rename 33 = .ok (.invokevirtual 73, 3) := by decide +kernel
theorem dX7_rename_36 : decode cX7_rename 36 = .ok (.ifCond .ne 13, 3) := by decide +kernel
theorem dX7_rename_39 : decode cX7_rename 39 = .ok (.new 76, 3) := by decide +kernel
theorem dX7_rename_42 : decode cX7_rename 42 = .ok (.dup, 1) := by decide +kernel
theorem dX7_rename_43 : decode cX7_rename 43 = .ok (.ldc 78, 2) := by decide +kernel
theorem dX7_rename_45 : decode cX7_rename 45 = .ok (.invokespecial 80, 3) := by decide +kernel
theorem dX7_rename_48 : decode cX7_rename 48 = .ok (.athrow, 1) := by decide +kernel
theorem dX7_rename_49 : decode cX7_rename 49 = .ok (.aload_n 0, 1) := by decide +kernel
theorem dX7_rename_50 : decode cX7_rename 50 = .ok (.getfield 27, 3) := by decide +kernel
theorem dX7_rename_53 : decode cX7_rename 53 = .ok (.aload_n 0, 1) := by decide +kernel
theorem dX7_rename_54 : decode cX7_rename 54 = .ok (.getfield 18, 3) := by decide +kernel
theorem dX7_rename_57 : decode cX7_rename 57 = .ok (.iconst 0, 1) := by decide +kernel
theorem dX7_rename_58 : decode cX7_rename 58 = .ok (.aload_n 0, 1) := by decide +kernel
theorem dX7_rename_59 : decode cX7_rename 59 = .ok (.getfield 18, 3) := by decide +kernel
theorem dX7_rename_62 : decode cX7_rename 62 = .ok (.invokevirtual 56, 3) := by decide +kernel
theorem dX7_rename_65 : decode cX7_rename 65 = .ok (.invokevirtual 83, 3) := by decide +kernel
theorem dX7_rename_68 : decode cX7_rename 68 = .ok (.istore_n 2, 1) := by decide +kernel
theorem dX7_rename_69 : decode cX7_rename 69 = .ok (.iload_n 2, 1) := by decide +kernel
theorem dX7_rename_70 : decode cX7_rename 70 = .ok (.iconst (-1), 1) := by decide +kernel
theorem dX7_rename_71 : decode cX7_rename 71 = .ok (.if_icmp .eq 18, 3) := by decide +kernel
theorem dX7_rename_74 : decode cX7_rename 74 = .ok (.iload_n 2, 1) := by decide +kernel
theorem dX7_rename_75 : decode cX7_rename 75 = .ok (.iload_n 1, 1) := by decide +kernel
theorem dX7_rename_76 : decode cX7_rename 76 = .ok (.if_icmp .eq 13, 3) := by decide +kernel
theorem dX7_rename_79 : decode cX7_rename 79 = .ok (.new 66, 3) := by decide +kernel
theorem dX7_rename_82 : decode cX7_rename 82 = .ok (.dup, 1) := by decide +kernel
theorem dX7_rename_83 : decode cX7_rename 83 = .ok (.ldc 87, 2) := by decide +kernel
theorem dX7_rename_85 : decode cX7_rename 85 = .ok (.invokespecial 70, 3) := by decide +kernel
theorem dX7_rename_88 : decode cX7_rename 88 = .ok (.athrow, 1) := by decide +kernel
theorem dX7_rename_89 : decode cX7_rename 89 = .ok (.aload_n 0, 1) := by decide +kernel
theorem dX7_rename_90 : decode cX7_rename 90 = .ok (.getfield 27, 3) := by decide +kernel
theorem dX7_rename_93 : decode cX7_rename 93 = .ok (.iload_n 1, 1) := by decide +kernel
theorem dX7_rename_94 : decode cX7_rename 94 = .ok (.aload_n 0, 1) := by decide +kernel
theorem dX7_rename_95 : decode cX7_rename 95 = .ok (.getfield 18, 3) := by decide +kernel
theorem dX7_rename_98 : decode cX7_rename 98 = .ok (.invokevirtual 116, 3) := by decide +kernel
theorem dX7_rename_101 : decode cX7_rename 101 = .ok (.aload_n 0, 1) := by decide +kernel
theorem dX7_rename_102 : decode cX7_rename 102 = .ok (.getfield 18, 3) := by decide +kernel
theorem dX7_rename_105 : decode cX7_rename 105 = .ok (.iconst 0, 1) := by decide +kernel
theorem dX7_rename_106 : decode cX7_rename 106 = .ok (.invokevirtual 41, 3) := by decide +kernel
theorem dX7_rename_109 : decode cX7_rename 109 = .ok (.pop, 1) := by decide +kernel
theorem dX7_rename_110 : decode cX7_rename 110 = .ok (.return_, 1) := by decide +kernel
theorem dX7_remove_0 : decode cX7_remove 0 = .ok (.aload_n 0, 1) := by decide +kernel
theorem dX7_remove_1 : decode cX7_remove 1 = .ok (.getfield 27, 3) := by decide +kernel
theorem dX7_remove_4 : decode cX7_remove 4 = .ok (.iload_n 1, 1) := by decide +kernel
theorem dX7_remove_5 : decode cX7_remove 5 = .ok (.invokevirtual 101, 3) := by decide +kernel
theorem dX7_remove_8 : decode cX7_remove 8 = .ok (.ifnonnull 13, 3) := by decide +kernel
theorem dX7_remove_11 : decode cX7_remove 11 = .ok (.new 105, 3) := by decide +kernel
theorem dX7_remove_14 : decode cX7_remove 14 = .ok (.dup, 1) := by decide +kernel
theorem dX7_remove_15 : decode cX7_remove 15 = .ok (.ldc 107, 2) := by decide +kernel
theorem dX7_remove_17 : decode cX7_remove 17 = .ok (.invokespecial 109, 3) := by decide +kernel
theorem dX7_remove_20 : decode cX7_remove 20 = .ok (.athrow, 1) := by decide +kernel
theorem dX7_remove_21 : decode cX7_remove 21 = .ok (.aload_n 0, 1) := by decide +kernel
theorem dX7_remove_22 : decode cX7_remove 22 = .ok (.getfield 27, 3) := by decide +kernel
theorem dX7_remove_25 : decode cX7_remove 25 = .ok (.iload_n 1, 1) := by decide +kernel
theorem dX7_remove_26 : decode cX7_remove 26 = .ok (.invokevirtual 119, 3) := by decide +kernel
theorem dX7_remove_29 : decode cX7_remove 29 = .ok (.return_, 1) := by decide +kernel
theorem dX7_sort_0 : decode cX7_sort 0 = .ok (.aload_n 0, 1) := by decide +kernel
theorem dX7_sort_1 : decode cX7_sort 1 = .ok (.getfield 27, 3) := by decide +kernel
theorem dX7_sort_4 : decode cX7_sort 4 = .ok (.invokevirtual 122, 3) := by decide +kernel
theorem dX7_sort_7 : decode cX7_sort 7 = .ok (.return_, 1) := by decide +kernel
theorem dX7_clear_0 : decode cX7_clear 0 = .ok (.aload_n 0, 1) := by decide +kernel
theorem dX7_clear_1 : decode cX7_clear 1 = .ok (.getfield 27, 3) := by decide +kernel
theorem dX7_clear_4 : decode cX7_clear 4 = .ok (.invokevirtual 125, 3) := by decide +kernel
theorem dX7_clear_7 : decode cX7_clear 7 = .ok (.return_, 1) := by decide +kernel
theorem dX7_make_0 : decode cX7_make 0 = .ok (.aload_n 0, 1) := by decide +kernel
theorem dX7_make_1 : decode cX7_make 1 = .ok (.getfield 21, 3) := by decide +kernel
theorem dX7_make_4 : decode cX7_make 4 = .ok (.iconst 0, 1) := by decide +kernel
theorem dX7_make_5 : decode cX7_make 5 = .ok (.invokevirtual 41, 3) := by decide +kernel
theorem dX7_make_8 : decode cX7_make 8 = .ok (.pop, 1) := by decide +kernel
theorem dX7_make_9 : decode cX7_make 9 = .ok (.aload_n 0, 1) := by decide +kernel
theorem dX7_make_10 : decode cX7_make 10 = .ok (.getfield 27, 3) := by decide +kernel
theorem dX7_make_13 : decode cX7_make 13 = .ok (.aload_n 0, 1) := by decide +kernel
theorem dX7_make_14 : decode cX7_make 14 = .ok (.getfield 21, 3) := by decide +kernel
theorem dX7_make_17 : decode cX7_make 17 = .ok (.invokevirtual 128, 3) := by decide +kernel
theorem dX7_make_20 : decode cX7_make 20 = .ok (.aload_n 0, 1) := by decide +kernel
theorem dX7_make_21 : decode cX7_make 21 = .ok (.getfield 21, 3) := by decide +kernel
theorem dX7_make_24 : decode cX7_make 24 = .ok (.invokevirtual 56, 3) := by decide +kernel
theorem dX7_make_27 : decode cX7_make 27 = .ok (.istore_n 1, 1) := by decide +kernel
theorem dX7_make_28 : decode cX7_make 28 = .ok (.aload_n 0, 1) := by decide +kernel
theorem dX7_make_29 : decode cX7_make 29 = .ok (.getfield 27, 3) := by decide +kernel
theorem dX7_make_32 : decode cX7_make 32 = .ok (.aload_n 0, 1) := by decide +kernel
theorem dX7_make_33 : decode cX7_make 33 = .ok (.getfield 21, 3) := by decide +kernel
theorem dX7_make_36 : decode cX7_make 36 = .ok (.invokevirtual 132, 3) := by decide +kernel
theorem dX7_make_39 : decode cX7_make 39 = .ok (.aload_n 0, 1) := by decide +kernel
theorem dX7_make_40 : decode cX7_make 40 = .ok (.getfield 21, 3) := by decide +kernel
theorem dX7_make_43 : decode cX7_make 43 = .ok (.invokevirtual 56, 3) := by decide +kernel
theorem dX7_make_46 : decode cX7_make 46 = .ok (.iload_n 1, 1) := by decide +kernel
theorem dX7_make_47 : decode cX7_make 47 = .ok (.isub, 1) := by decide +kernel
theorem dX7_make_48 : decode cX7_make 48 = .ok (.istore_n 2, 1) := by decide +kernel
theorem dX7_make_49 : decode cX7_make 49 = .ok (.aload_n 0, 1) := by decide +kernel
theorem dX7_make_50 : decode cX7_make 50 = .ok (.getfield 21, 3) := by decide +kernel
theorem dX7_make_53 : decode cX7_make 53 = .ok (.aload_n 0, 1) := by decide +kernel
theorem dX7_make_54 : decode cX7_make 54 = .ok (.getfield 27, 3) := by decide +kernel
theorem dX7_make_57 : decode cX7_make 57 = .ok (.invokevirtual 98, 3) := by decide +kernel
theorem dX7_make_60 : decode cX7_make 60 = .ok (.iload_n 2, 1) := by decide +kernel
theorem dX7_make_61 : decode cX7_make 61 = .ok (.iload_n 1, 1) := by decide +kernel
theorem dX7_make_62 : decode cX7_make 62 = .ok (.invokestatic 135, 3) := by decide +kernel
theorem dX7_make_65 : decode cX7_make 65 = .ok (.aload_n 0, 1) := by decide +kernel
theorem dX7_make_66 : decode cX7_make 66 = .ok (.getfield 21, 3) := by decide +kernel
theorem dX7_make_69 : decode cX7_make 69 = .ok (.invokevirtual 56, 3) := by decide +kernel
theorem dX7_make_72 : decode cX7_make 72 = .ok (.ireturn, 1) := by decide +kernel
theorem dX7_read_0 : decode cX7_read 0 = .ok (.aload_n 0, 1) := by decide +kernel
theorem dX7_read_1 : decode cX7_read 1 = .ok (.getfield 34, 3) := by decide +kernel
theorem dX7_read_4 : decode cX7_read 4 = .ok (.aload_n 0, 1) := by decide +kernel
theorem dX7_read_5 : decode cX7_read 5 = .ok (.getfield 18, 3) := by decide +kernel
theorem dX7_read_8 : decode cX7_read 8 = .ok (.invokevirtual 141, 3) := by decide +kernel
theorem dX7_read_11 : decode cX7_read 11 = .ok (.ifCond .ne 13, 3) := by decide +kernel
theorem dX7_read_14 : decode cX7_read 14 = .ok (.new 76, 3) := by decide +kernel
theorem dX7_read_17 : decode cX7_read 17 = .ok (.dup, 1) := by decide +kernel
theorem dX7_read_18 : decode cX7_read 18 = .ok (.ldc 145, 2) := by decide +kernel
theorem dX7_read_20 : decode cX7_read 20 = .ok (.invokespecial 80, 3) := by decide +kernel
theorem dX7_read_23 : decode cX7_read 23 = .ok (.athrow, 1) := by decide +kernel
theorem dX7_read_24 : decode cX7_read 24 = .ok (.aload_n 0, 1) := by decide +kernel
theorem dX7_read_25 : decode cX7_read 25 = .ok (.getfield 27, 3) := by decide +kernel
theorem dX7_read_28 : decode cX7_read 28 = .ok (.invokevirtual 125, 3) := by decide +kernel
theorem dX7_read_31 : decode cX7_read 31 = .ok (.aload_n 0, 1) := by decide +kernel
theorem dX7_read_32 : decode cX7_read 32 = .ok (.getfield 34, 3) := by decide +kernel
theorem dX7_read_35 : decode cX7_read 35 = .ok (.aload_n 0, 1) := by decide +kernel
theorem dX7_read_36 : decode cX7_read 36 = .ok (.getfield 18, 3) := by decide +kernel
theorem dX7_read_39 : decode cX7_read 39 = .ok (.aload_n 0, 1) := by decide +kernel
theorem dX7_read_40 : decode cX7_read 40 = .ok (.getfield 27, 3) := by decide +kernel
theorem dX7_read_43 : decode cX7_read 43 = .ok (.invokevirtual 147, 3) := by decide +kernel
theorem dX7_read_46 : decode cX7_read 46 = .ok (.aload_n 0, 1) := by decide +kernel
theorem dX7_read_47 : decode cX7_read 47 = .ok (.getfield 27, 3) := by decide +kernel
theorem dX7_read_50 : decode cX7_read 50 = .ok (.invokevirtual 98, 3) := by decide +kernel
theorem dX7_read_53 : decode cX7_read 53 = .ok (.ireturn, 1) := by decide +kernel
theorem dX7_fault_0 : decode cX7_fault 0 = .ok (.iload_n 1, 1) := by decide +kernel
theorem dX7_fault_1 : decode cX7_fault 1 = .ok (.tableswitch 51 0 2 #[27, 35, 43], 27) := by decide +kernel
theorem dX7_fault_28 : decode cX7_fault 28 = .ok (.aload_n 0, 1) := by decide +kernel
theorem dX7_fault_29 : decode cX7_fault 29 = .ok (.getfield 34, 3) := by decide +kernel
theorem dX7_fault_32 : decode cX7_fault 32 = .ok (.invokevirtual 151, 3) := by decide +kernel
theorem dX7_fault_35 : decode cX7_fault 35 = .ok (.ireturn, 1) := by decide +kernel
theorem dX7_fault_36 : decode cX7_fault 36 = .ok (.aload_n 0, 1) := by decide +kernel
theorem dX7_fault_37 : decode cX7_fault 37 = .ok (.getfield 34, 3) := by decide +kernel
theorem dX7_fault_40 : decode cX7_fault 40 = .ok (.invokevirtual 154, 3) := by decide +kernel
theorem dX7_fault_43 : decode cX7_fault 43 = .ok (.ireturn, 1) := by decide +kernel
theorem dX7_fault_44 : decode cX7_fault 44 = .ok (.aload_n 0, 1) := by decide +kernel
theorem dX7_fault_45 : decode cX7_fault 45 = .ok (.getfield 34, 3) := by decide +kernel
theorem dX7_fault_48 : decode cX7_fault 48 = .ok (.invokevirtual 157, 3) := by decide +kernel
theorem dX7_fault_51 : decode cX7_fault 51 = .ok (.ireturn, 1) := by decide +kernel
theorem dX7_fault_52 : decode cX7_fault 52 = .ok (.iconst (-1), 1) := by decide +kernel
theorem dX7_fault_53 : decode cX7_fault 53 = .ok (.ireturn, 1) := by decide +kernel
theorem dX7_save_0 : decode cX7_save 0 = .ok (.iconst 0, 1) := by decide +kernel
theorem dX7_save_1 : decode cX7_save 1 = .ok (.istore_n 1, 1) := by decide +kernel
theorem dX7_save_2 : decode cX7_save 2 = .ok (.iconst 0, 1) := by decide +kernel
theorem dX7_save_3 : decode cX7_save 3 = .ok (.istore_n 2, 1) := by decide +kernel
theorem dX7_save_4 : decode cX7_save 4 = .ok (.iload_n 2, 1) := by decide +kernel
theorem dX7_save_5 : decode cX7_save 5 = .ok (.aload_n 0, 1) := by decide +kernel
theorem dX7_save_6 : decode cX7_save 6 = .ok (.getfield 18, 3) := by decide +kernel
theorem dX7_save_9 : decode cX7_save 9 = .ok (.invokevirtual 56, 3) := by decide +kernel
theorem dX7_save_12 : decode cX7_save 12 = .ok (.if_icmp .ge 27, 3) := by decide +kernel
theorem dX7_save_15 : decode cX7_save 15 = .ok (.aload_n 0, 1) := by decide +kernel
theorem dX7_save_16 : decode cX7_save 16 = .ok (.iload_n 2, 1) := by decide +kernel
theorem dX7_save_17 : decode cX7_save 17 = .ok (.invokevirtual 160, 3) := by decide +kernel
theorem dX7_save_20 : decode cX7_save 20 = .ok (.istore_n 3, 1) := by decide +kernel
theorem dX7_save_21 : decode cX7_save 21 = .ok (.iload_n 3, 1) := by decide +kernel
theorem dX7_save_22 : decode cX7_save 22 = .ok (.iload_n 2, 1) := by decide +kernel
theorem dX7_save_23 : decode cX7_save 23 = .ok (.if_icmp .le 10, 3) := by decide +kernel
theorem dX7_save_26 : decode cX7_save 26 = .ok (.iinc 1 1, 3) := by decide +kernel
theorem dX7_save_29 : decode cX7_save 29 = .ok (.iload_n 3, 1) := by decide +kernel
theorem dX7_save_30 : decode cX7_save 30 = .ok (.iconst 1, 1) := by decide +kernel
theorem dX7_save_31 : decode cX7_save 31 = .ok (.isub, 1) := by decide +kernel
theorem dX7_save_32 : decode cX7_save 32 = .ok (.istore_n 2, 1) := by decide +kernel
theorem dX7_save_33 : decode cX7_save 33 = .ok (.iinc 2 1, 3) := by decide +kernel
theorem dX7_save_36 : decode cX7_save 36 = .ok (.goto (-32), 3) := by decide +kernel
theorem dX7_save_39 : decode cX7_save 39 = .ok (.iload_n 1, 1) := by decide +kernel
theorem dX7_save_40 : decode cX7_save 40 = .ok (.ireturn, 1) := by decide +kernel
theorem dX7_saveFrom_0 : decode cX7_saveFrom 0 = .ok (.aload_n 0, 1) := by decide +kernel
theorem dX7_saveFrom_1 : decode cX7_saveFrom 1 = .ok (.getfield 34, 3) := by decide +kernel
theorem dX7_saveFrom_4 : decode cX7_saveFrom 4 = .ok (.aload_n 0, 1) := by decide +kernel
theorem dX7_saveFrom_5 : decode cX7_saveFrom 5 = .ok (.getfield 18, 3) := by decide +kernel
theorem dX7_saveFrom_8 : decode cX7_saveFrom 8 = .ok (.iload_n 1, 1) := by decide +kernel
theorem dX7_saveFrom_9 : decode cX7_saveFrom 9 = .ok (.invokevirtual 164, 3) := by decide +kernel
theorem dX7_saveFrom_12 : decode cX7_saveFrom 12 = .ok (.ifCond .ne 5, 3) := by decide +kernel
theorem dX7_saveFrom_15 : decode cX7_saveFrom 15 = .ok (.iconst (-1), 1) := by decide +kernel
theorem dX7_saveFrom_16 : decode cX7_saveFrom 16 = .ok (.ireturn, 1) := by decide +kernel
theorem dX7_saveFrom_17 : decode cX7_saveFrom 17 = .ok (.iload_n 1, 1) := by decide +kernel
theorem dX7_saveFrom_18 : decode cX7_saveFrom 18 = .ok (.bipush 30, 2) := by decide +kernel
theorem dX7_saveFrom_20 : decode cX7_saveFrom 20 = .ok (.iadd, 1) := by decide +kernel
theorem dX7_saveFrom_21 : decode cX7_saveFrom 21 = .ok (.istore_n 2, 1) := by decide +kernel
theorem dX7_saveFrom_22 : decode cX7_saveFrom 22 = .ok (.aload_n 0, 1) := by decide +kernel
theorem dX7_saveFrom_23 : decode cX7_saveFrom 23 = .ok (.getfield 34, 3) := by decide +kernel
theorem dX7_saveFrom_26 : decode cX7_saveFrom 26 = .ok (.invokevirtual 168, 3) := by decide +kernel
theorem dX7_saveFrom_29 : decode cX7_saveFrom 29 = .ok (.istore_n 3, 1) := by decide +kernel
theorem dX7_saveFrom_30 : decode cX7_saveFrom 30 = .ok (.aload_n 0, 1) := by decide +kernel
theorem dX7_saveFrom_31 : decode cX7_saveFrom 31 = .ok (.getfield 34, 3) := by decide +kernel
theorem dX7_saveFrom_34 : decode cX7_saveFrom 34 = .ok (.invokevirtual 171, 3) := by decide +kernel
theorem dX7_saveFrom_37 : decode cX7_saveFrom 37 = .ok (.astore 4, 2) := by decide +kernel
theorem dX7_saveFrom_39 : decode cX7_saveFrom 39 = .ok (.aload_n 0, 1) := by decide +kernel
theorem dX7_saveFrom_40 : decode cX7_saveFrom 40 = .ok (.getfield 27, 3) := by decide +kernel
theorem dX7_saveFrom_43 : decode cX7_saveFrom 43 = .ok (.aload_n 0, 1) := by decide +kernel
theorem dX7_saveFrom_44 : decode cX7_saveFrom 44 = .ok (.getfield 18, 3) := by decide +kernel
theorem dX7_saveFrom_47 : decode cX7_saveFrom 47 = .ok (.iload_n 2, 1) := by decide +kernel
theorem dX7_saveFrom_48 : decode cX7_saveFrom 48 = .ok (.iload_n 3, 1) := by decide +kernel
theorem dX7_saveFrom_49 : decode cX7_saveFrom 49 = .ok (.invokevirtual 83, 3) := by decide +kernel
theorem dX7_saveFrom_52 : decode cX7_saveFrom 52 = .ok (.istore 5, 2) := by decide +kernel
theorem dX7_saveFrom_54 : decode cX7_saveFrom 54 = .ok (.aload_n 0, 1) := by decide +kernel
theorem dX7_saveFrom_55 : decode cX7_saveFrom 55 = .ok (.getfield 27, 3) := by decide +kernel
theorem dX7_saveFrom_58 : decode cX7_saveFrom 58 = .ok (.iload 5, 2) := by decide +kernel
theorem dX7_saveFrom_60 : decode cX7_saveFrom 60 = .ok (.aload 4, 2) := by decide +kernel
theorem dX7_saveFrom_62 : decode cX7_saveFrom 62 = .ok (.invokevirtual 56, 3) := by decide +kernel
theorem dX7_saveFrom_65 : decode cX7_saveFrom 65 = .ok (.invokevirtual 89, 3) := by decide +kernel
theorem dX7_saveFrom_68 : decode cX7_saveFrom 68 = .ok (.ifCond .ne 5, 3) := by decide +kernel
theorem dX7_saveFrom_71 : decode cX7_saveFrom 71 = .ok (.iconst (-1), 1) := by decide +kernel
theorem dX7_saveFrom_72 : decode cX7_saveFrom 72 = .ok (.ireturn, 1) := by decide +kernel
theorem dX7_saveFrom_73 : decode cX7_saveFrom 73 = .ok (.aload_n 0, 1) := by decide +kernel
theorem dX7_saveFrom_74 : decode cX7_saveFrom 74 = .ok (.getfield 27, 3) := by decide +kernel
theorem dX7_saveFrom_77 : decode cX7_saveFrom 77 = .ok (.iload 5, 2) := by decide +kernel
theorem dX7_saveFrom_79 : decode cX7_saveFrom 79 = .ok (.invokevirtual 119, 3) := by decide +kernel
theorem dX7_saveFrom_82 : decode cX7_saveFrom 82 = .ok (.aload_n 0, 1) := by decide +kernel
theorem dX7_saveFrom_83 : decode cX7_saveFrom 83 = .ok (.getfield 27, 3) := by decide +kernel
theorem dX7_saveFrom_86 : decode cX7_saveFrom 86 = .ok (.aload_n 0, 1) := by decide +kernel
theorem dX7_saveFrom_87 : decode cX7_saveFrom 87 = .ok (.getfield 18, 3) := by decide +kernel
theorem dX7_saveFrom_90 : decode cX7_saveFrom 90 = .ok (.iload_n 2, 1) := by decide +kernel
theorem dX7_saveFrom_91 : decode cX7_saveFrom 91 = .ok (.iload_n 3, 1) := by decide +kernel
theorem dX7_saveFrom_92 : decode cX7_saveFrom 92 = .ok (.aload 4, 2) := by decide +kernel
theorem dX7_saveFrom_94 : decode cX7_saveFrom 94 = .ok (.iconst 0, 1) := by decide +kernel
theorem dX7_saveFrom_95 : decode cX7_saveFrom 95 = .ok (.aload 4, 2) := by decide +kernel
theorem dX7_saveFrom_97 : decode cX7_saveFrom 97 = .ok (.invokevirtual 56, 3) := by decide +kernel
theorem dX7_saveFrom_100 : decode cX7_saveFrom 100 = .ok (.invokevirtual 94, 3) := by decide +kernel
theorem dX7_saveFrom_103 : decode cX7_saveFrom 103 = .ok (.iload_n 2, 1) := by decide +kernel
theorem dX7_saveFrom_104 : decode cX7_saveFrom 104 = .ok (.iload_n 3, 1) := by decide +kernel
theorem dX7_saveFrom_105 : decode cX7_saveFrom 105 = .ok (.iadd, 1) := by decide +kernel
theorem dX7_saveFrom_106 : decode cX7_saveFrom 106 = .ok (.aload_n 0, 1) := by decide +kernel
theorem dX7_saveFrom_107 : decode cX7_saveFrom 107 = .ok (.getfield 34, 3) := by decide +kernel
theorem dX7_saveFrom_110 : decode cX7_saveFrom 110 = .ok (.invokevirtual 175, 3) := by decide +kernel
theorem dX7_saveFrom_113 : decode cX7_saveFrom 113 = .ok (.iadd, 1) := by decide +kernel
theorem dX7_saveFrom_114 : decode cX7_saveFrom 114 = .ok (.ireturn, 1) := by decide +kernel
theorem dX7_file_0 : decode cX7_file 0 = .ok (.aload_n 0, 1) := by decide +kernel
theorem dX7_file_1 : decode cX7_file 1 = .ok (.getfield 27, 3) := by decide +kernel
theorem dX7_file_4 : decode cX7_file 4 = .ok (.iload_n 1, 1) := by decide +kernel
theorem dX7_file_5 : decode cX7_file 5 = .ok (.invokevirtual 101, 3) := by decide +kernel
theorem dX7_file_8 : decode cX7_file 8 = .ok (.astore_n 3, 1) := by decide +kernel
theorem dX7_file_9 : decode cX7_file 9 = .ok (.aload_n 3, 1) := by decide +kernel
theorem dX7_file_10 : decode cX7_file 10 = .ok (.ifnonnull 5, 3) := by decide +kernel
theorem dX7_file_13 : decode cX7_file 13 = .ok (.iconst (-1), 1) := by decide +kernel
theorem dX7_file_14 : decode cX7_file 14 = .ok (.ireturn, 1) := by decide +kernel
theorem dX7_file_15 : decode cX7_file 15 = .ok (.iload_n 2, 1) := by decide +kernel
theorem dX7_file_16 : decode cX7_file 16 = .ok (.tableswitch 64 0 4 #[36, 44, 49, 54, 59], 36) := by decide +kernel
theorem dX7_file_52 : decode cX7_file 52 = .ok (.aload_n 3, 1) := by decide +kernel
theorem dX7_file_53 : decode cX7_file 53 = .ok (.getfield 178, 3) := by decide +kernel
theorem dX7_file_56 : decode cX7_file 56 = .ok (.invokevirtual 56, 3) := by decide +kernel
theorem dX7_file_59 : decode cX7_file 59 = .ok (.ireturn, 1) := by decide +kernel
theorem dX7_file_60 : decode cX7_file 60 = .ok (.aload_n 3, 1) := by decide +kernel
theorem dX7_file_61 : decode cX7_file 61 = .ok (.getfield 183, 3) := by decide +kernel
theorem dX7_file_64 : decode cX7_file 64 = .ok (.ireturn, 1) := by decide +kernel
theorem dX7_file_65 : decode cX7_file 65 = .ok (.aload_n 3, 1) := by decide +kernel
theorem dX7_file_66 : decode cX7_file 66 = .ok (.getfield 186, 3) := by decide +kernel
theorem dX7_file_69 : decode cX7_file 69 = .ok (.ireturn, 1) := by decide +kernel
theorem dX7_file_70 : decode cX7_file 70 = .ok (.aload_n 3, 1) := by decide +kernel
theorem dX7_file_71 : decode cX7_file 71 = .ok (.invokevirtual 189, 3) := by decide +kernel
theorem dX7_file_74 : decode cX7_file 74 = .ok (.ireturn, 1) := by decide +kernel
theorem dX7_file_75 : decode cX7_file 75 = .ok (.aload_n 3, 1) := by decide +kernel
theorem dX7_file_76 : decode cX7_file 76 = .ok (.getfield 192, 3) := by decide +kernel
theorem dX7_file_79 : decode cX7_file 79 = .ok (.ireturn, 1) := by decide +kernel
theorem dX7_file_80 : decode cX7_file 80 = .ok (.iconst (-1), 1) := by decide +kernel
theorem dX7_file_81 : decode cX7_file 81 = .ok (.ireturn, 1) := by decide +kernel
theorem dX7_letter_0 : decode cX7_letter 0 = .ok (.aload_n 0, 1) := by decide +kernel
theorem dX7_letter_1 : decode cX7_letter 1 = .ok (.getfield 27, 3) := by decide +kernel
theorem dX7_letter_4 : decode cX7_letter 4 = .ok (.iload_n 1, 1) := by decide +kernel
theorem dX7_letter_5 : decode cX7_letter 5 = .ok (.invokevirtual 101, 3) := by decide +kernel
theorem dX7_letter_8 : decode cX7_letter 8 = .ok (.astore 4, 2) := by decide +kernel
theorem dX7_letter_10 : decode cX7_letter 10 = .ok (.aload 4, 2) := by decide +kernel
theorem dX7_letter_12 : decode cX7_letter 12 = .ok (.ifnonnull 5, 3) := by decide +kernel
theorem dX7_letter_15 : decode cX7_letter 15 = .ok (.iconst (-1), 1) := by decide +kernel
theorem dX7_letter_16 : decode cX7_letter 16 = .ok (.ireturn, 1) := by decide +kernel
theorem dX7_letter_17 : decode cX7_letter 17 = .ok (.iload_n 2, 1) := by decide +kernel
theorem dX7_letter_18 : decode cX7_letter 18 = .ok (.ifCond .eq 15, 3) := by decide +kernel
theorem dX7_letter_21 : decode cX7_letter 21 = .ok (.aload 4, 2) := by decide +kernel
theorem dX7_letter_23 : decode cX7_letter 23 = .ok (.getfield 178, 3) := by decide +kernel
theorem dX7_letter_26 : decode cX7_letter 26 = .ok (.iload_n 3, 1) := by decide +kernel
theorem dX7_letter_27 : decode cX7_letter 27 = .ok (.invokevirtual 195, 3) := by decide +kernel
theorem dX7_letter_30 : decode cX7_letter 30 = .ok (.goto 13, 3) := by decide +kernel
theorem dX7_letter_33 : decode cX7_letter 33 = .ok (.aload_n 0, 1) := by decide +kernel
theorem dX7_letter_34 : decode cX7_letter 34 = .ok (.getfield 27, 3) := by decide +kernel
theorem dX7_letter_37 : decode cX7_letter 37 = .ok (.aload 4, 2) := by decide +kernel
theorem dX7_letter_39 : decode cX7_letter 39 = .ok (.iload_n 3, 1) := by decide +kernel
theorem dX7_letter_40 : decode cX7_letter 40 = .ok (.invokevirtual 198, 3) := by decide +kernel
theorem dX7_letter_43 : decode cX7_letter 43 = .ok (.ireturn, 1) := by decide +kernel
theorem dX7_find_0 : decode cX7_find 0 = .ok (.aload_n 0, 1) := by decide +kernel
theorem dX7_find_1 : decode cX7_find 1 = .ok (.getfield 27, 3) := by decide +kernel
theorem dX7_find_4 : decode cX7_find 4 = .ok (.aload_n 0, 1) := by decide +kernel
theorem dX7_find_5 : decode cX7_find 5 = .ok (.getfield 18, 3) := by decide +kernel
theorem dX7_find_8 : decode cX7_find 8 = .ok (.iconst 0, 1) := by decide +kernel
theorem dX7_find_9 : decode cX7_find 9 = .ok (.aload_n 0, 1) := by decide +kernel
theorem dX7_find_10 : decode cX7_find 10 = .ok (.getfield 18, 3) := by decide +kernel
theorem dX7_find_13 : decode cX7_find 13 = .ok (.invokevirtual 56, 3) := by decide +kernel
theorem dX7_find_16 : decode cX7_find 16 = .ok (.invokevirtual 83, 3) := by decide +kernel
theorem dX7_find_19 : decode cX7_find 19 = .ok (.ireturn, 1) := by decide +kernel
theorem dX7_output_0 : decode cX7_output 0 = .ok (.aload_n 0, 1) := by decide +kernel
theorem dX7_output_1 : decode cX7_output 1 = .ok (.getfield 21, 3) := by decide +kernel
theorem dX7_output_4 : decode cX7_output 4 = .ok (.iload_n 1, 1) := by decide +kernel
theorem dX7_output_5 : decode cX7_output 5 = .ok (.invokevirtual 195, 3) := by decide +kernel
theorem dX7_output_8 : decode cX7_output 8 = .ok (.ireturn, 1) := by decide +kernel
theorem dX7_about_0 : decode cX7_about 0 = .ok (.iload_n 1, 1) := by decide +kernel
theorem dX7_about_1 : decode cX7_about 1 = .ok (.tableswitch 63 0 3 #[31, 39, 47, 55], 31) := by decide +kernel
theorem dX7_about_32 : decode cX7_about 32 = .ok (.aload_n 0, 1) := by decide +kernel
theorem dX7_about_33 : decode cX7_about 33 = .ok (.getfield 18, 3) := by decide +kernel
theorem dX7_about_36 : decode cX7_about 36 = .ok (.invokevirtual 56, 3) := by decide +kernel
theorem dX7_about_39 : decode cX7_about 39 = .ok (.ireturn, 1) := by decide +kernel
theorem dX7_about_40 : decode cX7_about 40 = .ok (.aload_n 0, 1) := by decide +kernel
theorem dX7_about_41 : decode cX7_about 41 = .ok (.getfield 21, 3) := by decide +kernel
theorem dX7_about_44 : decode cX7_about 44 = .ok (.invokevirtual 56, 3) := by decide +kernel
theorem dX7_about_47 : decode cX7_about 47 = .ok (.ireturn, 1) := by decide +kernel
theorem dX7_about_48 : decode cX7_about 48 = .ok (.aload_n 0, 1) := by decide +kernel
theorem dX7_about_49 : decode cX7_about 49 = .ok (.getfield 27, 3) := by decide +kernel
theorem dX7_about_52 : decode cX7_about 52 = .ok (.invokevirtual 98, 3) := by decide +kernel
theorem dX7_about_55 : decode cX7_about 55 = .ok (.ireturn, 1) := by decide +kernel
theorem dX7_about_56 : decode cX7_about 56 = .ok (.aload_n 0, 1) := by decide +kernel
theorem dX7_about_57 : decode cX7_about 57 = .ok (.getfield 27, 3) := by decide +kernel
theorem dX7_about_60 : decode cX7_about 60 = .ok (.invokevirtual 202, 3) := by decide +kernel
theorem dX7_about_63 : decode cX7_about 63 = .ok (.ireturn, 1) := by decide +kernel
theorem dX7_about_64 : decode cX7_about 64 = .ok (.iconst (-1), 1) := by decide +kernel
theorem dX7_about_65 : decode cX7_about 65 = .ok (.ireturn, 1) := by decide +kernel
theorem dX8_init_0 : decode cX8_init 0 = .ok (.aload_n 0, 1) := by decide +kernel
theorem dX8_init_1 : decode cX8_init 1 = .ok (.invokespecial 1, 3) := by decide +kernel
theorem dX8_init_4 : decode cX8_init 4 = .ok (.aload_n 0, 1) := by decide +kernel
theorem dX8_init_5 : decode cX8_init 5 = .ok (.bipush 20, 2) := by decide +kernel
theorem dX8_init_7 : decode cX8_init 7 = .ok (.newarray .int, 2) := by decide +kernel
theorem dX8_init_9 : decode cX8_init 9 = .ok (.putfield 7, 3) := by decide +kernel
theorem dX8_init_12 : decode cX8_init 12 = .ok (.aload_n 0, 1) := by decide +kernel
theorem dX8_init_13 : decode cX8_init 13 = .ok (.sipush 9000, 3) := by decide +kernel
theorem dX8_init_16 : decode cX8_init 16 = .ok (.newarray .int, 2) := by decide +kernel
theorem dX8_init_18 : decode cX8_init 18 = .ok (.putfield 13, 3) := by decide +kernel
theorem dX8_init_21 : decode cX8_init 21 = .ok (.aload_n 0, 1) := by decide +kernel
theorem dX8_init_22 : decode cX8_init 22 = .ok (.sipush 9000, 3) := by decide +kernel
theorem dX8_init_25 : decode cX8_init 25 = .ok (.newarray .int, 2) := by decide +kernel
theorem dX8_init_27 : decode cX8_init 27 = .ok (.putfield 16, 3) := by decide +kernel
theorem dX8_init_30 : decode cX8_init 30 = .ok (.aload_n 0, 1) := by decide +kernel
theorem dX8_init_31 : decode cX8_init 31 = .ok (.sipush 630, 3) := by decide +kernel
theorem dX8_init_34 : decode cX8_init 34 = .ok (.newarray .int, 2) := by decide +kernel
theorem dX8_init_36 : decode cX8_init 36 = .ok (.putfield 19, 3) := by decide +kernel
theorem dX8_init_39 : decode cX8_init 39 = .ok (.aload_n 0, 1) := by decide +kernel
theorem dX8_init_40 : decode cX8_init 40 = .ok (.bipush 21, 2) := by decide +kernel
theorem dX8_init_42 : decode cX8_init 42 = .ok (.newarray .int, 2) := by decide +kernel
theorem dX8_init_44 : decode cX8_init 44 = .ok (.putfield 22, 3) := by decide +kernel
theorem dX8_init_47 : decode cX8_init 47 = .ok (.aload_n 0, 1) := by decide +kernel
theorem dX8_init_48 : decode cX8_init 48 = .ok (.sipush 31500, 3) := by decide +kernel
theorem dX8_init_51 : decode cX8_init 51 = .ok (.newarray .int, 2) := by decide +kernel
theorem dX8_init_53 : decode cX8_init 53 = .ok (.putfield 25, 3) := by decide +kernel
theorem dX8_init_56 : decode cX8_init 56 = .ok (.aload_n 0, 1) := by decide +kernel
theorem dX8_init_57 : decode cX8_init 57 = .ok (.bipush 21, 2) := by decide +kernel
theorem dX8_init_59 : decode cX8_init 59 = .ok (.newarray .int, 2) := by decide +kernel
theorem dX8_init_61 : decode cX8_init 61 = .ok (.putfield 28, 3) := by decide +kernel
theorem dX8_init_64 : decode cX8_init 64 = .ok (.aload_n 0, 1) := by decide +kernel
theorem dX8_init_65 : decode cX8_init 65 = .ok (.iconst (-1), 1) := by decide +kernel
theorem dX8_init_66 : decode cX8_init 66 = .ok (.putfield 31, 3) := by decide +kernel
theorem dX8_init_69 : decode cX8_init 69 = .ok (.aload_n 0, 1) := by decide +kernel
theorem dX8_init_70 : decode cX8_init 70 = .ok (.iconst (-1), 1) := by decide +kernel
theorem dX8_init_71 : decode cX8_init 71 = .ok (.putfield 35, 3) := by decide +kernel
theorem dX8_init_74 : decode cX8_init 74 = .ok (.aload_n 0, 1) := by decide +kernel
theorem dX8_init_75 : decode cX8_init 75 = .ok (.sipush 1600, 3) := by decide +kernel
theorem dX8_init_78 : decode cX8_init 78 = .ok (.newarray .int, 2) := by decide +kernel
theorem dX8_init_80 : decode cX8_init 80 = .ok (.putfield 38, 3) := by decide +kernel
theorem dX8_init_83 : decode cX8_init 83 = .ok (.aload_n 0, 1) := by decide +kernel
theorem dX8_init_84 : decode cX8_init 84 = .ok (.bipush 20, 2) := by decide +kernel
theorem dX8_init_86 : decode cX8_init 86 = .ok (.newarray .int, 2) := by decide +kernel
theorem dX8_init_88 : decode cX8_init 88 = .ok (.putfield 41, 3) := by decide +kernel
theorem dX8_init_91 : decode cX8_init 91 = .ok (.aload_n 0, 1) := by decide +kernel
theorem dX8_init_92 : decode cX8_init 92 = .ok (.bipush 20, 2) := by decide +kernel
theorem dX8_init_94 : decode cX8_init 94 = .ok (.newarray .int, 2) := by decide +kernel
theorem dX8_init_96 : decode cX8_init 96 = .ok (.putfield 44, 3) := by decide +kernel
