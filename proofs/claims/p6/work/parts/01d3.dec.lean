theorem dX4_blank_0 : decode cX4_blank 0 = .ok (.iconst 0, 1) := by decide +kernel
theorem dX4_blank_1 : decode cX4_blank 1 = .ok (.istore_n 1, 1) := by decide +kernel
theorem dX4_blank_2 : decode cX4_blank 2 = .ok (.iload_n 1, 1) := by decide +kernel
theorem dX4_blank_3 : decode cX4_blank 3 = .ok (.aload_n 0, 1) := by decide +kernel
theorem dX4_blank_4 : decode cX4_blank 4 = .ok (.getfield 15, 3) := by decide +kernel
theorem dX4_blank_7 : decode cX4_blank 7 = .ok (.arraylength, 1) := by decide +kernel
theorem dX4_blank_8 : decode cX4_blank 8 = .ok (.if_icmp .ge 16, 3) := by decide +kernel
theorem dX4_blank_11 : decode cX4_blank 11 = .ok (.aload_n 0, 1) := by decide +kernel
theorem dX4_blank_12 : decode cX4_blank 12 = .ok (.getfield 15, 3) := by decide +kernel
theorem dX4_blank_15 : decode cX4_blank 15 = .ok (.iload_n 1, 1) := by decide +kernel
theorem dX4_blank_16 : decode cX4_blank 16 = .ok (.iconst 0, 1) := by decide +kernel
theorem dX4_blank_17 : decode cX4_blank 17 = .ok (.iastore, 1) := by decide +kernel
theorem dX4_blank_18 : decode cX4_blank 18 = .ok (.iinc 1 1, 3) := by decide +kernel
theorem dX4_blank_21 : decode cX4_blank 21 = .ok (.goto (-19), 3) := by decide +kernel
theorem dX4_blank_24 : decode cX4_blank 24 = .ok (.aload_n 0, 1) := by decide +kernel
theorem dX4_blank_25 : decode cX4_blank 25 = .ok (.aload_n 0, 1) := by decide +kernel
theorem dX4_blank_26 : decode cX4_blank 26 = .ok (.getfield 15, 3) := by decide +kernel
theorem dX4_blank_29 : decode cX4_blank 29 = .ok (.arraylength, 1) := by decide +kernel
theorem dX4_blank_30 : decode cX4_blank 30 = .ok (.putfield 21, 3) := by decide +kernel
theorem dX4_blank_33 : decode cX4_blank 33 = .ok (.return_, 1) := by decide +kernel
theorem dX4_shorten_0 : decode cX4_shorten 0 = .ok (.iload_n 1, 1) := by decide +kernel
theorem dX4_shorten_1 : decode cX4_shorten 1 = .ok (.ifCond .lt 11, 3) := by decide +kernel
theorem dX4_shorten_4 : decode cX4_shorten 4 = .ok (.iload_n 1, 1) := by decide +kernel
theorem dX4_shorten_5 : decode cX4_shorten 5 = .ok (.aload_n 0, 1) := by decide +kernel
theorem dX4_shorten_6 : decode cX4_shorten 6 = .ok (.getfield 21, 3) := by decide +kernel
theorem dX4_shorten_9 : decode cX4_shorten 9 = .ok (.if_icmp .le 5, 3) := by decide +kernel
theorem dX4_shorten_12 : decode cX4_shorten 12 = .ok (.iconst 0, 1) := by decide +kernel
theorem dX4_shorten_13 : decode cX4_shorten 13 = .ok (.ireturn, 1) := by decide +kernel
theorem dX4_shorten_14 : decode cX4_shorten 14 = .ok (.aload_n 0, 1) := by decide +kernel
theorem dX4_shorten_15 : decode cX4_shorten 15 = .ok (.iload_n 1, 1) := by decide +kernel
theorem dX4_shorten_16 : decode cX4_shorten 16 = .ok (.putfield 21, 3) := by decide +kernel
theorem dX4_shorten_19 : decode cX4_shorten 19 = .ok (.iconst 1, 1) := by decide +kernel
theorem dX4_shorten_20 : decode cX4_shorten 20 = .ok (.ireturn, 1) := by decide +kernel
theorem dX4_close_0 : decode cX4_close 0 = .ok (.aload_n 0, 1) := by decide +kernel
theorem dX4_close_1 : decode cX4_close 1 = .ok (.iload_n 1, 1) := by decide +kernel
theorem dX4_close_2 : decode cX4_close 2 = .ok (.iload_n 2, 1) := by decide +kernel
theorem dX4_close_3 : decode cX4_close 3 = .ok (.invokevirtual 25, 3) := by decide +kernel
theorem dX4_close_6 : decode cX4_close 6 = .ok (.ifCond .ne 5, 3) := by decide +kernel
theorem dX4_close_9 : decode cX4_close 9 = .ok (.iconst 0, 1) := by decide +kernel
theorem dX4_close_10 : decode cX4_close 10 = .ok (.ireturn, 1) := by decide +kernel
theorem dX4_close_11 : decode cX4_close 11 = .ok (.aload_n 0, 1) := by decide +kernel
theorem dX4_close_12 : decode cX4_close 12 = .ok (.getfield 15, 3) := by decide +kernel
theorem dX4_close_15 : decode cX4_close 15 = .ok (.iload_n 1, 1) := by decide +kernel
theorem dX4_close_16 : decode cX4_close 16 = .ok (.iload_n 2, 1) := by decide +kernel
theorem dX4_close_17 : decode cX4_close 17 = .ok (.iadd, 1) := by decide +kernel
theorem dX4_close_18 : decode cX4_close 18 = .ok (.aload_n 0, 1) := by decide +kernel
theorem dX4_close_19 : decode cX4_close 19 = .ok (.getfield 15, 3) := by decide +kernel
theorem dX4_close_22 : decode cX4_close 22 = .ok (.iload_n 1, 1) := by decide +kernel
theorem dX4_close_23 : decode cX4_close 23 = .ok (.aload_n 0, 1) := by decide +kernel
theorem dX4_close_24 : decode cX4_close 24 = .ok (.getfield 21, 3) := by decide +kernel
theorem dX4_close_27 : decode cX4_close 27 = .ok (.iload_n 1, 1) := by decide +kernel
theorem dX4_close_28 : decode cX4_close 28 = .ok (.isub, 1) := by decide +kernel
theorem dX4_close_29 : decode cX4_close 29 = .ok (.iload_n 2, 1) := by decide +kernel
theorem dX4_close_30 : decode cX4_close 30 = .ok (.isub, 1) := by decide +kernel
theorem dX4_close_31 : decode cX4_close 31 = .ok (.invokestatic 42, 3) := by decide +kernel
theorem dX4_close_34 : decode cX4_close 34 = .ok (.aload_n 0, 1) := by decide +kernel
theorem dX4_close_35 : decode cX4_close 35 = .ok (.dup, 1) := by decide +kernel
theorem dX4_close_36 : decode cX4_close 36 = .ok (.getfield 21, 3) := by decide +kernel
theorem dX4_close_39 : decode cX4_close 39 = .ok (.iload_n 2, 1) := by decide +kernel
theorem dX4_close_40 : decode cX4_close 40 = .ok (.isub, 1) := by decide +kernel
theorem dX4_close_41 : decode cX4_close 41 = .ok (.putfield 21, 3) := by decide +kernel
theorem dX4_close_44 : decode cX4_close 44 = .ok (.iconst 1, 1) := by decide +kernel
theorem dX4_close_45 : decode cX4_close 45 = .ok (.ireturn, 1) := by decide +kernel
theorem dX4_turn_0 : decode cX4_turn 0 = .ok (.iload_n 1, 1) := by decide +kernel
theorem dX4_turn_1 : decode cX4_turn 1 = .ok (.ifCond .lt 21, 3) := by decide +kernel
theorem dX4_turn_4 : decode cX4_turn 4 = .ok (.iload_n 1, 1) := by decide +kernel
theorem dX4_turn_5 : decode cX4_turn 5 = .ok (.aload_n 0, 1) := by decide +kernel
theorem dX4_turn_6 : decode cX4_turn 6 = .ok (.getfield 21, 3) := by decide +kernel
theorem dX4_turn_9 : decode cX4_turn 9 = .ok (.if_icmp .ge 13, 3) := by decide +kernel
theorem dX4_turn_12 : decode cX4_turn 12 = .ok (.iload_n 2, 1) := by decide +kernel
theorem dX4_turn_13 : decode cX4_turn 13 = .ok (.ifCond .lt 9, 3) := by decide +kernel
theorem dX4_turn_16 : decode cX4_turn 16 = .ok (.iload_n 2, 1) := by decide +kernel
theorem dX4_turn_17 : decode cX4_turn 17 = .ok (.bipush 7, 2) := by decide +kernel
theorem dX4_turn_19 : decode cX4_turn 19 = .ok (.if_icmp .le 5, 3) := by decide +kernel
theorem dX4_turn_22 : decode cX4_turn 22 = .ok (.iconst 0, 1) := by decide +kernel
theorem dX4_turn_23 : decode cX4_turn 23 = .ok (.ireturn, 1) := by decide +kernel
theorem dX4_turn_24 : decode cX4_turn 24 = .ok (.aload_n 0, 1) := by decide +kernel
theorem dX4_turn_25 : decode cX4_turn 25 = .ok (.getfield 15, 3) := by decide +kernel
theorem dX4_turn_28 : decode cX4_turn 28 = .ok (.iload_n 1, 1) := by decide +kernel
theorem dX4_turn_29 : decode cX4_turn 29 = .ok (.dup2, 1) := by decide +kernel
theorem dX4_turn_30 : decode cX4_turn 30 = .ok (.iaload, 1) := by decide +kernel
theorem dX4_turn_31 : decode cX4_turn 31 = .ok (.iconst 1, 1) := by decide +kernel
theorem dX4_turn_32 : decode cX4_turn 32 = .ok (.iload_n 2, 1) := by decide +kernel
theorem dX4_turn_33 : decode cX4_turn 33 = .ok (.ishl, 1) := by decide +kernel
theorem dX4_turn_34 : decode cX4_turn 34 = .ok (.ixor, 1) := by decide +kernel
theorem dX4_turn_35 : decode cX4_turn 35 = .ok (.iastore, 1) := by decide +kernel
theorem dX4_turn_36 : decode cX4_turn 36 = .ok (.iconst 1, 1) := by decide +kernel
theorem dX4_turn_37 : decode cX4_turn 37 = .ok (.ireturn, 1) := by decide +kernel
theorem dX4_hasSignature_0 : decode cX4_hasSignature 0 = .ok (.aload_n 0, 1) := by decide +kernel
theorem dX4_hasSignature_1 : decode cX4_hasSignature 1 = .ok (.iload_n 1, 1) := by decide +kernel
theorem dX4_hasSignature_2 : decode cX4_hasSignature 2 = .ok (.invokevirtual 48, 3) := by decide +kernel
theorem dX4_hasSignature_5 : decode cX4_hasSignature 5 = .ok (.bipush 80, 2) := by decide +kernel
theorem dX4_hasSignature_7 : decode cX4_hasSignature 7 = .ok (.if_icmp .ne 41, 3) := by decide +kernel
theorem dX4_hasSignature_10 : decode cX4_hasSignature 10 = .ok (.aload_n 0, 1) := by decide +kernel
theorem dX4_hasSignature_11 : decode cX4_hasSignature 11 = .ok (.iload_n 1, 1) := by decide +kernel
theorem dX4_hasSignature_12 : decode cX4_hasSignature 12 = .ok (.iconst 1, 1) := by decide +kernel
theorem dX4_hasSignature_13 : decode cX4_hasSignature 13 = .ok (.iadd, 1) := by decide +kernel
theorem dX4_hasSignature_14 : decode cX4_hasSignature 14 = .ok (.invokevirtual 48, 3) := by decide +kernel
theorem dX4_hasSignature_17 : decode cX4_hasSignature 17 = .ok (.bipush 75, 2) := by decide +kernel
theorem dX4_hasSignature_19 : decode cX4_hasSignature 19 = .ok (.if_icmp .ne 29, 3) := by decide +kernel
theorem dX4_hasSignature_22 : decode cX4_hasSignature 22 = .ok (.aload_n 0, 1) := by decide +kernel
theorem dX4_hasSignature_23 : decode cX4_hasSignature 23 = .ok (.iload_n 1, 1) := by decide +kernel
theorem dX4_hasSignature_24 : decode cX4_hasSignature 24 = .ok (.iconst 2, 1) := by decide +kernel
theorem dX4_hasSignature_25 : decode cX4_hasSignature 25 = .ok (.iadd, 1) := by decide +kernel
theorem dX4_hasSignature_26 : decode cX4_hasSignature 26 = .ok (.invokevirtual 48, 3) := by decide +kernel
theorem dX4_hasSignature_29 : decode cX4_hasSignature 29 = .ok (.iload_n 2, 1) := by decide +kernel
theorem dX4_hasSignature_30 : decode cX4_hasSignature 30 = .ok (.if_icmp .ne 18, 3) := by decide +kernel
theorem dX4_hasSignature_33 : decode cX4_hasSignature 33 = .ok (.aload_n 0, 1) := by decide +kernel
theorem dX4_hasSignature_34 : decode cX4_hasSignature 34 = .ok (.iload_n 1, 1) := by decide +kernel
theorem dX4_hasSignature_35 : decode cX4_hasSignature 35 = .ok (.iconst 3, 1) := by decide +kernel
theorem dX4_hasSignature_36 : decode cX4_hasSignature 36 = .ok (.iadd, 1) := by decide +kernel
theorem dX4_hasSignature_37 : decode cX4_hasSignature 37 = .ok (.invokevirtual 48, 3) := by decide +kernel
theorem dX4_hasSignature_40 : decode cX4_hasSignature 40 = .ok (.iload_n 3, 1) := by decide +kernel
theorem dX4_hasSignature_41 : decode cX4_hasSignature 41 = .ok (.if_icmp .ne 7, 3) := by decide +kernel
theorem dX4_hasSignature_44 : decode cX4_hasSignature 44 = .ok (.iconst 1, 1) := by decide +kernel
theorem dX4_hasSignature_45 : decode cX4_hasSignature 45 = .ok (.goto 4, 3) := by decide +kernel
theorem dX4_hasSignature_48 : decode cX4_hasSignature 48 = .ok (.iconst 0, 1) := by decide +kernel
theorem dX4_hasSignature_49 : decode cX4_hasSignature 49 = .ok (.ireturn, 1) := by decide +kernel
theorem dX4_isName_0 : decode cX4_isName 0 = .ok (.iload_n 2, 1) := by decide +kernel
theorem dX4_isName_1 : decode cX4_isName 1 = .ok (.iconst 1, 1) := by decide +kernel
theorem dX4_isName_2 : decode cX4_isName 2 = .ok (.if_icmp .lt 18, 3) := by decide +kernel
theorem dX4_isName_5 : decode cX4_isName 5 = .ok (.iload_n 2, 1) := by decide +kernel
theorem dX4_isName_6 : decode cX4_isName 6 = .ok (.bipush 30, 2) := by decide +kernel
theorem dX4_isName_8 : decode cX4_isName 8 = .ok (.if_icmp .gt 12, 3) := by decide +kernel
theorem dX4_isName_11 : decode cX4_isName 11 = .ok (.aload_n 0, 1) := by decide +kernel
theorem dX4_isName_12 : decode cX4_isName 12 = .ok (.iload_n 1, 1) := by decide +kernel
theorem dX4_isName_13 : decode cX4_isName 13 = .ok (.iload_n 2, 1) := by decide +kernel
theorem dX4_isName_14 : decode cX4_isName 14 = .ok (.invokevirtual 25, 3) := by decide +kernel
theorem dX4_isName_17 : decode cX4_isName 17 = .ok (.ifCond .ne 5, 3) := by decide +kernel
theorem dX4_isName_20 : decode cX4_isName 20 = .ok (.iconst 0, 1) := by decide +kernel
theorem dX4_isName_21 : decode cX4_isName 21 = .ok (.ireturn, 1) := by decide +kernel
theorem dX4_isName_22 : decode cX4_isName 22 = .ok (.iconst 0, 1) := by decide +kernel
theorem dX4_isName_23 : decode cX4_isName 23 = .ok (.istore_n 3, 1) := by decide +kernel
theorem dX4_isName_24 : decode cX4_isName 24 = .ok (.iload_n 3, 1) := by decide +kernel
theorem dX4_isName_25 : decode cX4_isName 25 = .ok (.iload_n 2, 1) := by decide +kernel
theorem dX4_isName_26 : decode cX4_isName 26 = .ok (.if_icmp .ge 34, 3) := by decide +kernel
theorem dX4_isName_29 : decode cX4_isName 29 = .ok (.aload_n 0, 1) := by decide +kernel
theorem dX4_isName_30 : decode cX4_isName 30 = .ok (.iload_n 1, 1) := by decide +kernel
theorem dX4_isName_31 : decode cX4_isName 31 = .ok (.iload_n 3, 1) := by decide +kernel
theorem dX4_isName_32 : decode cX4_isName 32 = .ok (.iadd, 1) := by decide +kernel
theorem dX4_isName_33 : decode cX4_isName 33 = .ok (.invokevirtual 48, 3) := by decide +kernel
theorem dX4_isName_36 : decode cX4_isName 36 = .ok (.istore 4, 2) := by decide +kernel
theorem dX4_isName_38 : decode cX4_isName 38 = .ok (.iload 4, 2) := by decide +kernel
theorem dX4_isName_40 : decode cX4_isName 40 = .ok (.bipush 33, 2) := by decide +kernel
theorem dX4_isName_42 : decode cX4_isName 42 = .ok (.if_icmp .lt 10, 3) := by decide +kernel
theorem dX4_isName_45 : decode cX4_isName 45 = .ok (.iload 4, 2) := by decide +kernel
theorem dX4_isName_47 : decode cX4_isName 47 = .ok (.bipush 126, 2) := by decide +kernel
theorem dX4_isName_49 : decode cX4_isName 49 = .ok (.if_icmp .le 5, 3) := by decide +kernel
theorem dX4_isName_52 : decode cX4_isName 52 = .ok (.iconst 0, 1) := by decide +kernel
theorem dX4_isName_53 : decode cX4_isName 53 = .ok (.ireturn, 1) := by decide +kernel
theorem dX4_isName_54 : decode cX4_isName 54 = .ok (.iinc 3 1, 3) := by decide +kernel
theorem dX4_isName_57 : decode cX4_isName 57 = .ok (.goto (-33), 3) := by decide +kernel
theorem dX4_isName_60 : decode cX4_isName 60 = .ok (.iconst 1, 1) := by decide +kernel
theorem dX4_isName_61 : decode cX4_isName 61 = .ok (.ireturn, 1) := by decide +kernel
theorem dX4_agrees_0 : decode cX4_agrees 0 = .ok (.aload_n 0, 1) := by decide +kernel
theorem dX4_agrees_1 : decode cX4_agrees 1 = .ok (.iload_n 1, 1) := by decide +kernel
theorem dX4_agrees_2 : decode cX4_agrees 2 = .ok (.iload 4, 2) := by decide +kernel
theorem dX4_agrees_4 : decode cX4_agrees 4 = .ok (.invokevirtual 25, 3) := by decide +kernel
theorem dX4_agrees_7 : decode cX4_agrees 7 = .ok (.ifCond .eq 13, 3) := by decide +kernel
theorem dX4_agrees_10 : decode cX4_agrees 10 = .ok (.aload_n 2, 1) := by decide +kernel
theorem dX4_agrees_11 : decode cX4_agrees 11 = .ok (.iload_n 3, 1) := by decide +kernel
theorem dX4_agrees_12 : decode cX4_agrees 12 = .ok (.iload 4, 2) := by decide +kernel
theorem dX4_agrees_14 : decode cX4_agrees 14 = .ok (.invokevirtual 25, 3) := by decide +kernel
theorem dX4_agrees_17 : decode cX4_agrees 17 = .ok (.ifCond .ne 5, 3) := by decide +kernel
theorem dX4_agrees_20 : decode cX4_agrees 20 = .ok (.iconst 0, 1) := by decide +kernel
theorem dX4_agrees_21 : decode cX4_agrees 21 = .ok (.ireturn, 1) := by decide +kernel
theorem dX4_agrees_22 : decode cX4_agrees 22 = .ok (.iconst 0, 1) := by decide +kernel
theorem dX4_agrees_23 : decode cX4_agrees 23 = .ok (.istore 5, 2) := by decide +kernel
theorem dX4_agrees_25 : decode cX4_agrees 25 = .ok (.iload 5, 2) := by decide +kernel
theorem dX4_agrees_27 : decode cX4_agrees 27 = .ok (.iload 4, 2) := by decide +kernel
theorem dX4_agrees_29 : decode cX4_agrees 29 = .ok (.if_icmp .ge 30, 3) := by decide +kernel
theorem dX4_agrees_32 : decode cX4_agrees 32 = .ok (.aload_n 0, 1) := by decide +kernel
theorem dX4_agrees_33 : decode cX4_agrees 33 = .ok (.iload_n 1, 1) := by decide +kernel
theorem dX4_agrees_34 : decode cX4_agrees 34 = .ok (.iload 5, 2) := by decide +kernel
theorem dX4_agrees_36 : decode cX4_agrees 36 = .ok (.iadd, 1) := by decide +kernel
theorem dX4_agrees_37 : decode cX4_agrees 37 = .ok (.invokevirtual 48, 3) := by decide +kernel
theorem dX4_agrees_40 : decode cX4_agrees 40 = .ok (.aload_n 2, 1) := by decide +kernel
theorem dX4_agrees_41 : decode cX4_agrees 41 = .ok (.iload_n 3, 1) := by decide +kernel
theorem dX4_agrees_42 : decode cX4_agrees 42 = .ok (.iload 5, 2) := by decide +kernel
theorem dX4_agrees_44 : decode cX4_agrees 44 = .ok (.iadd, 1) := by decide +kernel
theorem dX4_agrees_45 : decode cX4_agrees 45 = .ok (.invokevirtual 48, 3) := by decide +kernel
theorem dX4_agrees_48 : decode cX4_agrees 48 = .ok (.if_icmp .eq 5, 3) := by decide +kernel
theorem dX4_agrees_51 : decode cX4_agrees 51 = .ok (.iconst 0, 1) := by decide +kernel
theorem dX4_agrees_52 : decode cX4_agrees 52 = .ok (.ireturn, 1) := by decide +kernel
theorem dX4_agrees_53 : decode cX4_agrees 53 = .ok (.iinc 5 1, 3) := by decide +kernel
theorem dX4_agrees_56 : decode cX4_agrees 56 = .ok (.goto (-31), 3) := by decide +kernel
theorem dX4_agrees_59 : decode cX4_agrees 59 = .ok (.iconst 1, 1) := by decide +kernel
theorem dX4_agrees_60 : decode cX4_agrees 60 = .ok (.ireturn, 1) := by decide +kernel
theorem dX4_isNameAhead_0 : decode cX4_isNameAhead 0 = .ok (.iconst 0, 1) := by decide +kernel
theorem dX4_isNameAhead_1 : decode cX4_isNameAhead 1 = .ok (.istore_n 2, 1) := by decide +kernel
theorem dX4_isNameAhead_2 : decode cX4_isNameAhead 2 = .ok (.iload_n 2, 1) := by decide +kernel
theorem dX4_isNameAhead_3 : decode cX4_isNameAhead 3 = .ok (.bipush 30, 2) := by decide +kernel
theorem dX4_isNameAhead_5 : decode cX4_isNameAhead 5 = .ok (.if_icmp .ge 41, 3) := by decide +kernel
theorem dX4_isNameAhead_8 : decode cX4_isNameAhead 8 = .ok (.aload_n 0, 1) := by decide +kernel
theorem dX4_isNameAhead_9 : decode cX4_isNameAhead 9 = .ok (.iload_n 2, 1) := by decide +kernel
theorem dX4_isNameAhead_10 : decode cX4_isNameAhead 10 = .ok (.invokevirtual 48, 3) := by decide +kernel
theorem dX4_isNameAhead_13 : decode cX4_isNameAhead 13 = .ok (.aload_n 1, 1) := by decide +kernel
theorem dX4_isNameAhead_14 : decode cX4_isNameAhead 14 = .ok (.iload_n 2, 1) := by decide +kernel
theorem dX4_isNameAhead_15 : decode cX4_isNameAhead 15 = .ok (.invokevirtual 48, 3) := by decide +kernel
theorem dX4_isNameAhead_18 : decode cX4_isNameAhead 18 = .ok (.if_icmp .eq 22, 3) := by decide +kernel
theorem dX4_isNameAhead_21 : decode cX4_isNameAhead 21 = .ok (.aload_n 0, 1) := by decide +kernel
theorem dX4_isNameAhead_22 : decode cX4_isNameAhead 22 = .ok (.iload_n 2, 1) := by decide +kernel
theorem dX4_isNameAhead_23 : decode cX4_isNameAhead 23 = .ok (.invokevirtual 48, 3) := by decide +kernel
theorem dX4_isNameAhead_26 : decode cX4_isNameAhead 26 = .ok (.aload_n 1, 1) := by decide +kernel
theorem dX4_isNameAhead_27 : decode cX4_isNameAhead 27 = .ok (.iload_n 2, 1) := by decide +kernel
theorem dX4_isNameAhead_28 : decode cX4_isNameAhead 28 = .ok (.invokevirtual 48, 3) := by decide +kernel
theorem dX4_isNameAhead_31 : decode cX4_isNameAhead 31 = .ok (.if_icmp .ge 7, 3) := by decide +kernel
theorem dX4_isNameAhead_34 : decode cX4_isNameAhead 34 = .ok (.iconst 1, 1) := by decide +kernel
theorem dX4_isNameAhead_35 : decode cX4_isNameAhead 35 = .ok (.goto 4, 3) := by decide +kernel
theorem dX4_isNameAhead_38 : decode cX4_isNameAhead 38 = .ok (.iconst 0, 1) := by decide +kernel
theorem dX4_isNameAhead_39 : decode cX4_isNameAhead 39 = .ok (.ireturn, 1) := by decide +kernel
theorem dX4_isNameAhead_40 : decode cX4_isNameAhead 40 = .ok (.iinc 2 1, 3) := by decide +kernel
theorem dX4_isNameAhead_43 : decode cX4_isNameAhead 43 = .ok (.goto (-41), 3) := by decide +kernel
theorem dX4_isNameAhead_46 : decode cX4_isNameAhead 46 = .ok (.iconst 0, 1) := by decide +kernel
theorem dX4_isNameAhead_47 : decode cX4_isNameAhead 47 = .ok (.ireturn, 1) := by decide +kernel
theorem dX5_init_0 : decode cX5_init 0 = .ok (.aload_n 0, 1) := by decide +kernel
theorem dX5_init_1 : decode cX5_init 1 = .ok (.invokespecial 3, 3) := by decide +kernel
theorem dX5_init_4 : decode cX5_init 4 = .ok (.aload_n 0, 1) := by decide +kernel
theorem dX5_init_5 : decode cX5_init 5 = .ok (.bipush 20, 2) := by decide +kernel
theorem dX5_init_7 : decode cX5_init 7 = .ok (.anewarray 9, 3) := by decide +kernel
theorem dX5_init_10 : decode cX5_init 10 = .ok (.putfield 11, 3) := by decide +kernel
theorem dX5_init_13 : decode cX5_init 13 = .ok (.aload_n 0, 1) := by decide +kernel
theorem dX5_init_14 : decode cX5_init 14 = .ok (.new 17, 3) := by decide +kernel
theorem dX5_init_17 : decode cX5_init 17 = .ok (.dup, 1) := by decide +kernel
theorem dX5_init_18 : decode cX5_init 18 = .ok (.sipush 6000, 3) := by decide +kernel
theorem dX5_init_21 : decode cX5_init 21 = .ok (.invokespecial 19, 3) := by decide +kernel
theorem dX5_init_24 : decode cX5_init 24 = .ok (.putfield 22, 3) := by decide +kernel
theorem dX5_init_27 : decode cX5_init 27 = .ok (.iconst 0, 1) := by decide +kernel
theorem dX5_init_28 : decode cX5_init 28 = .ok (.istore_n 1, 1) := by decide +kernel
theorem dX5_init_29 : decode cX5_init 29 = .ok (.iload_n 1, 1) := by decide +kernel
theorem dX5_init_30 : decode cX5_init 30 = .ok (.aload_n 0, 1) := by decide +kernel
theorem dX5_init_31 : decode cX5_init 31 = .ok (.getfield 11, 3) := by decide +kernel
theorem dX5_init_34 : decode cX5_init 34 = .ok (.arraylength, 1) := by decide +kernel
theorem dX5_init_35 : decode cX5_init 35 = .ok (.if_icmp .ge 22, 3) := by decide +kernel
theorem dX5_init_38 : decode cX5_init 38 = .ok (.aload_n 0, 1) := by decide +kernel
theorem dX5_init_39 : decode cX5_init 39 = .ok (.getfield 11, 3) := by decide +kernel
theorem dX5_init_42 : decode cX5_init 42 = .ok (.iload_n 1, 1) := by decide +kernel
theorem dX5_init_43 : decode cX5_init 43 = .ok (.new 9, 3) := by decide +kernel
theorem dX5_init_46 : decode cX5_init 46 = .ok (.dup, 1) := by decide +kernel
theorem dX5_init_47 : decode cX5_init 47 = .ok (.invokespecial 26, 3) := by decide +kernel
theorem dX5_init_50 : decode cX5_init 50 = .ok (.aastore, 1) := by decide +kernel
theorem dX5_init_51 : decode cX5_init 51 = .ok (.iinc 1 1, 3) := by decide +kernel
theorem dX5_init_54 : decode cX5_init 54 = .ok (.goto (-25), 3) := by decide +kernel
theorem dX5_init_57 : decode cX5_init 57 = .ok (.return_, 1) := by decide +kernel
theorem dX5_count_0 : decode cX5_count 0 = .ok (.aload_n 0, 1) := by decide +kernel
theorem dX5_count_1 : decode cX5_count 1 = .ok (.getfield 27, 3) := by decide +kernel
theorem dX5_count_4 : decode cX5_count 4 = .ok (.ireturn, 1) := by decide +kernel
theorem dX5_together_0 : decode cX5_together 0 = .ok (.aload_n 0, 1) := by decide +kernel
theorem dX5_together_1 : decode cX5_together 1 = .ok (.getfield 22, 3) := by decide +kernel
theorem dX5_together_4 : decode cX5_together 4 = .ok (.invokevirtual 31, 3) := by decide +kernel
theorem dX5_together_7 : decode cX5_together 7 = .ok (.ireturn, 1) := by decide +kernel
theorem dX5_entry_0 : decode cX5_entry 0 = .ok (.iload_n 1, 1) := by decide +kernel
theorem dX5_entry_1 : decode cX5_entry 1 = .ok (.ifCond .lt 20, 3) := by decide +kernel
theorem dX5_entry_4 : decode cX5_entry 4 = .ok (.iload_n 1, 1) := by decide +kernel
theorem dX5_entry_5 : decode cX5_entry 5 = .ok (.aload_n 0, 1) := by decide +kernel
theorem dX5_entry_6 : decode cX5_entry 6 = .ok (.getfield 27, 3) := by decide +kernel
theorem dX5_entry_9 : decode cX5_entry 9 = .ok (.if_icmp .ge 12, 3) := by decide +kernel
theorem dX5_entry_12 : decode cX5_entry 12 = .ok (.aload_n 0, 1) := by decide +kernel
theorem dX5_entry_13 : decode cX5_entry 13 = .ok (.getfield 11, 3) := by decide +kernel
theorem dX5_entry_16 : decode cX5_entry 16 = .ok (.iload_n 1, 1) := by decide +kernel
theorem dX5_entry_17 : decode cX5_entry 17 = .ok (.aaload, 1) := by decide +kernel
theorem dX5_entry_18 : decode cX5_entry 18 = .ok (.goto 4, 3) := by decide +kernel
theorem dX5_entry_21 : decode cX5_entry 21 = .ok (.aconst_null, 1) := by decide +kernel
theorem dX5_entry_22 : decode cX5_entry 22 = .ok (.areturn, 1) := by decide +kernel
theorem dX5_byteOf_0 : decode cX5_byteOf 0 = .ok (.iload_n 2, 1) := by decide +kernel
theorem dX5_byteOf_1 : decode cX5_byteOf 1 = .ok (.ifCond .lt 27, 3) := by decide +kernel
theorem dX5_byteOf_4 : decode cX5_byteOf 4 = .ok (.iload_n 2, 1) := by decide +kernel
theorem dX5_byteOf_5 : decode cX5_byteOf 5 = .ok (.aload_n 1, 1) := by decide +kernel
theorem dX5_byteOf_6 : decode cX5_byteOf 6 = .ok (.getfield 35, 3) := by decide +kernel
theorem dX5_byteOf_9 : decode cX5_byteOf 9 = .ok (.if_icmp .ge 19, 3) := by decide +kernel
theorem dX5_byteOf_12 : decode cX5_byteOf 12 = .ok (.aload_n 0, 1) := by decide +kernel
theorem dX5_byteOf_13 : decode cX5_byteOf 13 = .ok (.getfield 22, 3) := by decide +kernel
theorem dX5_byteOf_16 : decode cX5_byteOf 16 = .ok (.aload_n 1, 1) := by decide +kernel
theorem dX5_byteOf_17 : decode cX5_byteOf 17 = .ok (.getfield 37, 3) := by decide +kernel
theorem dX5_byteOf_20 : decode cX5_byteOf 20 = .ok (.iload_n 2, 1) := by decide +kernel
theorem dX5_byteOf_21 : decode cX5_byteOf 21 = .ok (.iadd, 1) := by decide +kernel
theorem dX5_byteOf_22 : decode cX5_byteOf 22 = .ok (.invokevirtual 40, 3) := by decide +kernel
theorem dX5_byteOf_25 : decode cX5_byteOf 25 = .ok (.goto 4, 3) := by decide +kernel
theorem dX5_byteOf_28 : decode cX5_byteOf 28 = .ok (.iconst (-1), 1) := by decide +kernel
theorem dX5_byteOf_29 : decode cX5_byteOf 29 = .ok (.ireturn, 1) := by decide +kernel
theorem dX5_lookUp_0 : decode cX5_lookUp 0 = .ok (.iconst 0, 1) := by decide +kernel
theorem dX5_lookUp_1 : decode cX5_lookUp 1 = .ok (.istore 4, 2) := by decide +kernel
theorem dX5_lookUp_3 : decode cX5_lookUp 3 = .ok (.iload 4, 2) := by decide +kernel
theorem dX5_lookUp_5 : decode cX5_lookUp 5 = .ok (.aload_n 0, 1) := by decide +kernel
theorem dX5_lookUp_6 : decode cX5_lookUp 6 = .ok (.getfield 27, 3) := by decide +kernel
theorem dX5_lookUp_9 : decode cX5_lookUp 9 = .ok (.if_icmp .ge 45, 3) := by decide +kernel
theorem dX5_lookUp_12 : decode cX5_lookUp 12 = .ok (.aload_n 0, 1) := by decide +kernel
theorem dX5_lookUp_13 : decode cX5_lookUp 13 = .ok (.getfield 11, 3) := by decide +kernel
theorem dX5_lookUp_16 : decode cX5_lookUp 16 = .ok (.iload 4, 2) := by decide +kernel
theorem dX5_lookUp_18 : decode cX5_lookUp 18 = .ok (.aaload, 1) := by decide +kernel
theorem dX5_lookUp_19 : decode cX5_lookUp 19 = .ok (.getfield 44, 3) := by decide +kernel
theorem dX5_lookUp_22 : decode cX5_lookUp 22 = .ok (.astore 5, 2) := by decide +kernel
theorem dX5_lookUp_24 : decode cX5_lookUp 24 = .ok (.aload 5, 2) := by decide +kernel
theorem dX5_lookUp_26 : decode cX5_lookUp 26 = .ok (.invokevirtual 31, 3) := by decide +kernel
theorem dX5_lookUp_29 : decode cX5_lookUp 29 = .ok (.iload_n 3, 1) := by decide +kernel
theorem dX5_lookUp_30 : decode cX5_lookUp 30 = .ok (.if_icmp .ne 18, 3) := by decide +kernel
theorem dX5_lookUp_33 : decode cX5_lookUp 33 = .ok (.aload 5, 2) := by decide +kernel
theorem dX5_lookUp_35 : decode cX5_lookUp 35 = .ok (.iconst 0, 1) := by decide +kernel
theorem dX5_lookUp_36 : decode cX5_lookUp 36 = .ok (.aload_n 1, 1) := by decide +kernel
theorem dX5_lookUp_37 : decode cX5_lookUp 37 = .ok (.iload_n 2, 1) := by decide +kernel
theorem dX5_lookUp_38 : decode cX5_lookUp 38 = .ok (.iload_n 3, 1) := by decide +kernel
theorem dX5_lookUp_39 : decode cX5_lookUp 39 = .ok (.invokevirtual 47, 3) := by decide +kernel
theorem dX5_lookUp_42 : decode cX5_lookUp 42 = .ok (.ifCond .eq 6, 3) := by decide +kernel
theorem dX5_lookUp_45 : decode cX5_lookUp 45 = .ok (.iload 4, 2) := by decide +kernel
theorem dX5_lookUp_47 : decode cX5_lookUp 47 = .ok (.ireturn, 1) := by decide +kernel
theorem dX5_lookUp_48 : decode cX5_lookUp 48 = .ok (.iinc 4 1, 3) := by decide +kernel
theorem dX5_lookUp_51 : decode cX5_lookUp 51 = .ok (.goto (-48), 3) := by decide +kernel
theorem dX5_lookUp_54 : decode cX5_lookUp 54 = .ok (.iconst (-1), 1) := by decide +kernel
theorem dX5_lookUp_55 : decode cX5_lookUp 55 = .ok (.ireturn, 1) := by decide +kernel
theorem dX5_hasRoom_0 : decode cX5_hasRoom 0 = .ok (.aload_n 0, 1) := by decide +kernel
theorem dX5_hasRoom_1 : decode cX5_hasRoom 1 = .ok (.iload_n 1, 1) := by decide +kernel
theorem dX5_hasRoom_2 : decode cX5_hasRoom 2 = .ok (.invokevirtual 51, 3) := by decide +kernel
theorem dX5_hasRoom_5 : decode cX5_hasRoom 5 = .ok (.astore_n 3, 1) := by decide +kernel
theorem dX5_hasRoom_6 : decode cX5_hasRoom 6 = .ok (.aload_n 3, 1) := by decide +kernel
theorem dX5_hasRoom_7 : decode cX5_hasRoom 7 = .ok (.ifnonnull 10, 3) := by decide +kernel
theorem dX5_hasRoom_10 : decode cX5_hasRoom 10 = .ok (.aload_n 0, 1) := by decide +kernel
theorem dX5_hasRoom_11 : decode cX5_hasRoom 11 = .ok (.getfield 27, 3) := by decide +kernel
theorem dX5_hasRoom_14 : decode cX5_hasRoom 14 = .ok (.goto 9, 3) := by decide +kernel
theorem dX5_hasRoom_17 : decode cX5_hasRoom 17 = .ok (.aload_n 0, 1) := by decide +kernel
theorem dX5_hasRoom_18 : decode cX5_hasRoom 18 = .ok (.getfield 27, 3) := by decide +kernel
theorem dX5_hasRoom_21 : decode cX5_hasRoom 21 = .ok (.iconst 1, 1) := by decide +kernel
theorem dX5_hasRoom_22 : decode cX5_hasRoom 22 = .ok (.isub, 1) := by decide +kernel
theorem dX5_hasRoom_23 : decode cX5_hasRoom 23 = .ok (.istore 4, 2) := by decide +kernel
theorem dX5_hasRoom_25 : decode cX5_hasRoom 25 = .ok (.aload_n 3, 1) := by decide +kernel
theorem dX5_hasRoom_26 : decode cX5_hasRoom 26 = .ok (.ifnonnull 13, 3) := by decide +kernel
theorem dX5_hasRoom_29 : decode cX5_hasRoom 29 = .ok (.aload_n 0, 1) := by decide +kernel
theorem dX5_hasRoom_30 : decode cX5_hasRoom 30 = .ok (.getfield 22, 3) := by decide +kernel
theorem dX5_hasRoom_33 : decode cX5_hasRoom 33 = .ok (.invokevirtual 55, 3) := by decide +kernel
theorem dX5_hasRoom_36 : decode cX5_hasRoom 36 = .ok (.goto 15, 3) := by decide +kernel
theorem dX5_hasRoom_39 : decode cX5_hasRoom 39 = .ok (.aload_n 0, 1) := by decide +kernel
theorem dX5_hasRoom_40 : decode cX5_hasRoom 40 = .ok (.getfield 22, 3) := by decide +kernel
theorem dX5_hasRoom_43 : decode cX5_hasRoom 43 = .ok (.invokevirtual 55, 3) := by decide +kernel
theorem dX5_hasRoom_46 : decode cX5_hasRoom 46 = .ok (.aload_n 3, 1) := by decide +kernel
theorem dX5_hasRoom_47 : decode cX5_hasRoom 47 = .ok (.getfield 35, 3) := by decide +kernel
theorem dX5_hasRoom_50 : decode cX5_hasRoom 50 = .ok (.iadd, 1) := by decide +kernel
theorem dX5_hasRoom_51 : decode cX5_hasRoom 51 = .ok (.istore 5, 2) := by decide +kernel
theorem dX5_hasRoom_53 : decode cX5_hasRoom 53 = .ok (.iload 4, 2) := by decide +kernel
theorem dX5_hasRoom_55 : decode cX5_hasRoom 55 = .ok (.bipush 20, 2) := by decide +kernel
theorem dX5_hasRoom_57 : decode cX5_hasRoom 57 = .ok (.if_icmp .ge 13, 3) := by decide +kernel
theorem dX5_hasRoom_60 : decode cX5_hasRoom 60 = .ok (.iload_n 2, 1) := by decide +kernel
theorem dX5_hasRoom_61 : decode cX5_hasRoom 61 = .ok (.iload 5, 2) := by decide +kernel
theorem dX5_hasRoom_63 : decode cX5_hasRoom 63 = .ok (.if_icmp .gt 7, 3) := by decide +kernel
theorem dX5_hasRoom_66 : decode cX5_hasRoom 66 = .ok (.iconst 1, 1) := by decide +kernel
theorem dX5_hasRoom_67 : decode cX5_hasRoom 67 = .ok (.goto 4, 3) := by decide +kernel
theorem dX5_hasRoom_70 : decode cX5_hasRoom 70 = .ok (.iconst 0, 1) := by decide +kernel
theorem dX5_hasRoom_71 : decode cX5_hasRoom 71 = .ok (.ireturn, 1) := by decide +kernel
theorem dX5_put_0 : decode cX5_put 0 = .ok (.aload_n 0, 1) := by decide +kernel
theorem dX5_put_1 : decode cX5_put 1 = .ok (.getfield 27, 3) := by decide +kernel
theorem dX5_put_4 : decode cX5_put 4 = .ok (.bipush 20, 2) := by decide +kernel
theorem dX5_put_6 : decode cX5_put 6 = .ok (.if_icmp .lt 4, 3) := by decide +kernel
theorem dX5_put_9 : decode cX5_put 9 = .ok (.return_, 1) := by decide +kernel
theorem dX5_put_10 : decode cX5_put 10 = .ok (.aload_n 0, 1) := by decide +kernel
theorem dX5_put_11 : decode cX5_put 11 = .ok (.getfield 11, 3) := by decide +kernel
theorem dX5_put_14 : decode cX5_put 14 = .ok (.aload_n 0, 1) := by decide +kernel
theorem dX5_put_15 : decode cX5_put 15 = .ok (.getfield 27, 3) := by decide +kernel
theorem dX5_put_18 : decode cX5_put 18 = .ok (.aaload, 1) := by decide +kernel
theorem dX5_put_19 : decode cX5_put 19 = .ok (.astore 7, 2) := by decide +kernel
theorem dX5_put_21 : decode cX5_put 21 = .ok (.aload 7, 2) := by decide +kernel
theorem dX5_put_23 : decode cX5_put 23 = .ok (.aload_n 1, 1) := by decide +kernel
theorem dX5_put_24 : decode cX5_put 24 = .ok (.iload_n 2, 1) := by decide +kernel
theorem dX5_put_25 : decode cX5_put 25 = .ok (.iload_n 3, 1) := by decide +kernel
theorem dX5_put_26 : decode cX5_put 26 = .ok (.invokevirtual 58, 3) := by decide +kernel
theorem dX5_put_29 : decode cX5_put 29 = .ok (.aload_n 0, 1) := by decide +kernel
theorem dX5_put_30 : decode cX5_put 30 = .ok (.aload 7, 2) := by decide +kernel
theorem dX5_put_32 : decode cX5_put 32 = .ok (.aload 4, 2) := by decide +kernel
theorem dX5_put_34 : decode cX5_put 34 = .ok (.iload 5, 2) := by decide +kernel
theorem dX5_put_36 : decode cX5_put 36 = .ok (.iload 6, 2) := by decide +kernel
theorem dX5_put_38 : decode cX5_put 38 = .ok (.invokevirtual 62, 3) := by decide +kernel
theorem dX5_put_41 : decode cX5_put 41 = .ok (.aload_n 0, 1) := by decide +kernel
theorem dX5_put_42 : decode cX5_put 42 = .ok (.dup, 1) := by decide +kernel
theorem dX5_put_43 : decode cX5_put 43 = .ok (.getfield 27, 3) := by decide +kernel
theorem dX5_put_46 : decode cX5_put 46 = .ok (.iconst 1, 1) := by decide +kernel
theorem dX5_put_47 : decode cX5_put 47 = .ok (.iadd, 1) := by decide +kernel
theorem dX5_put_48 : decode cX5_put 48 = .ok (.putfield 27, 3) := by decide +kernel
theorem dX5_put_51 : decode cX5_put 51 = .ok (.return_, 1) := by decide +kernel
theorem dX5_fill_0 : decode cX5_fill 0 = .ok (.aload_n 1, 1) := by decide +kernel
theorem dX5_fill_1 : decode cX5_fill 1 = .ok (.aload_n 0, 1) := by decide +kernel
theorem dX5_fill_2 : decode cX5_fill 2 = .ok (.getfield 22, 3) := by decide +kernel
theorem dX5_fill_5 : decode cX5_fill 5 = .ok (.invokevirtual 31, 3) := by decide +kernel
theorem dX5_fill_8 : decode cX5_fill 8 = .ok (.putfield 37, 3) := by decide +kernel
theorem dX5_fill_11 : decode cX5_fill 11 = .ok (.aload_n 0, 1) := by decide +kernel
theorem dX5_fill_12 : decode cX5_fill 12 = .ok (.getfield 22, 3) := by decide +kernel
theorem dX5_fill_15 : decode cX5_fill 15 = .ok (.aload_n 2, 1) := by decide +kernel
theorem dX5_fill_16 : decode cX5_fill 16 = .ok (.iload_n 3, 1) := by decide +kernel
theorem dX5_fill_17 : decode cX5_fill 17 = .ok (.iload 4, 2) := by decide +kernel
theorem dX5_fill_19 : decode cX5_fill 19 = .ok (.invokevirtual 66, 3) := by decide +kernel
theorem dX5_fill_22 : decode cX5_fill 22 = .ok (.aload_n 1, 1) := by decide +kernel
theorem dX5_fill_23 : decode cX5_fill 23 = .ok (.aload_n 0, 1) := by decide +kernel
theorem dX5_fill_24 : decode cX5_fill 24 = .ok (.getfield 22, 3) := by decide +kernel
theorem dX5_fill_27 : decode cX5_fill 27 = .ok (.invokevirtual 31, 3) := by decide +kernel
theorem dX5_fill_30 : decode cX5_fill 30 = .ok (.aload_n 1, 1) := by decide +kernel
theorem dX5_fill_31 : decode cX5_fill 31 = .ok (.getfield 37, 3) := by decide +kernel
theorem dX5_fill_34 : decode cX5_fill 34 = .ok (.isub, 1) := by decide +kernel
theorem dX5_fill_35 : decode cX5_fill 35 = .ok (.putfield 35, 3) := by decide +kernel
theorem dX5_fill_38 : decode cX5_fill 38 = .ok (.aload_n 1, 1) := by decide +kernel
theorem dX5_fill_39 : decode cX5_fill 39 = .ok (.aload_n 0, 1) := by decide +kernel
theorem dX5_fill_40 : decode cX5_fill 40 = .ok (.getfield 22, 3) := by decide +kernel
theorem dX5_fill_43 : decode cX5_fill 43 = .ok (.aload_n 1, 1) := by decide +kernel
theorem dX5_fill_44 : decode cX5_fill 44 = .ok (.getfield 37, 3) := by decide +kernel
theorem dX5_fill_47 : decode cX5_fill 47 = .ok (.aload_n 1, 1) := by decide +kernel
theorem dX5_fill_48 : decode cX5_fill 48 = .ok (.getfield 35, 3) := by decide +kernel
theorem dX5_fill_51 : decode cX5_fill 51 = .ok (.invokestatic 69, 3) := by decide +kernel
theorem dX5_fill_54 : decode cX5_fill 54 = .ok (.putfield 75, 3) := by decide +kernel
theorem dX5_fill_57 : decode cX5_fill 57 = .ok (.aload_n 1, 1) := by decide +kernel
theorem dX5_fill_58 : decode cX5_fill 58 = .ok (.aload_n 1, 1) := by decide +kernel
theorem dX5_fill_59 : decode cX5_fill 59 = .ok (.getfield 35, 3) := by decide +kernel
theorem dX5_fill_62 : decode cX5_fill 62 = .ok (.aload_n 0, 1) := by decide +kernel
theorem dX5_fill_63 : decode cX5_fill 63 = .ok (.getfield 22, 3) := by decide +kernel
theorem dX5_fill_66 : decode cX5_fill 66 = .ok (.aload_n 1, 1) := by decide +kernel
theorem dX5_fill_67 : decode cX5_fill 67 = .ok (.getfield 37, 3) := by decide +kernel
theorem dX5_fill_70 : decode cX5_fill 70 = .ok (.aload_n 1, 1) := by decide +kernel
theorem dX5_fill_71 : decode cX5_fill 71 = .ok (.getfield 35, 3) := by decide +kernel
theorem dX5_fill_74 : decode cX5_fill 74 = .ok (.invokestatic 77, 3) := by decide +kernel
theorem dX5_fill_77 : decode cX5_fill 77 = .ok (.invokestatic 80, 3) := by decide +kernel
theorem dX5_fill_80 : decode cX5_fill 80 = .ok (.putfield 86, 3) := by decide +kernel
theorem dX5_fill_83 : decode cX5_fill 83 = .ok (.return_, 1) := by decide +kernel
theorem dX5_changeName_0 : decode cX5_changeName 0 = .ok (.aload_n 0, 1) := by decide +kernel
theorem dX5_changeName_1 : decode cX5_changeName 1 = .ok (.iload_n 1, 1) := by decide +kernel
theorem dX5_changeName_2 : decode cX5_changeName 2 = .ok (.invokevirtual 51, 3) := by decide +kernel
theorem dX5_changeName_5 : decode cX5_changeName 5 = .ok (.astore_n 3, 1) := by decide +kernel
theorem dX5_changeName_6 : decode cX5_changeName 6 = .ok (.aload_n 3, 1) := by decide +kernel
theorem dX5_changeName_7 : decode cX5_changeName 7 = .ok (.ifnull 13, 3) := by decide +kernel
theorem dX5_changeName_10 : decode cX5_changeName 10 = .ok (.aload_n 3, 1) := by decide +kernel
theorem dX5_changeName_11 : decode cX5_changeName 11 = .ok (.aload_n 2, 1) := by decide +kernel
theorem dX5_changeName_12 : decode cX5_changeName 12 = .ok (.iconst 0, 1) := by decide +kernel
theorem dX5_changeName_13 : decode cX5_changeName 13 = .ok (.aload_n 2, 1) := by decide +kernel
theorem dX5_changeName_14 : decode cX5_changeName 14 = .ok (.invokevirtual 31, 3) := by decide +kernel
theorem dX5_changeName_17 : decode cX5_changeName 17 = .ok (.invokevirtual 58, 3) := by decide +kernel
theorem dX5_changeName_20 : decode cX5_changeName 20 = .ok (.return_, 1) := by decide +kernel
theorem dX5_changeBytes_0 : decode cX5_changeBytes 0 = .ok (.aload_n 0, 1) := by decide +kernel
theorem dX5_changeBytes_1 : decode cX5_changeBytes 1 = .ok (.iload_n 1, 1) := by decide +kernel
theorem dX5_changeBytes_2 : decode cX5_changeBytes 2 = .ok (.invokevirtual 51, 3) := by decide +kernel
theorem dX5_changeBytes_5 : decode cX5_changeBytes 5 = .ok (.astore_n 3, 1) := by decide +kernel
theorem dX5_changeBytes_6 : decode cX5_changeBytes 6 = .ok (.aload_n 3, 1) := by decide +kernel
theorem dX5_changeBytes_7 : decode cX5_changeBytes 7 = .ok (.ifnull 19, 3) := by decide +kernel
theorem dX5_changeBytes_10 : decode cX5_changeBytes 10 = .ok (.aload_n 0, 1) := by decide +kernel
theorem dX5_changeBytes_11 : decode cX5_changeBytes 11 = .ok (.aload_n 3, 1) := by decide +kernel
theorem dX5_changeBytes_12 : decode cX5_changeBytes 12 = .ok (.invokevirtual 89, 3) := by decide +kernel
theorem dX5_changeBytes_15 : decode cX5_changeBytes 15 = .ok (.aload_n 0, 1) := by decide +kernel
theorem dX5_changeBytes_16 : decode cX5_changeBytes 16 = .ok (.aload_n 3, 1) := by decide +kernel
theorem dX5_changeBytes_17 : decode cX5_changeBytes 17 = .ok (.aload_n 2, 1) := by decide +kernel
theorem dX5_changeBytes_18 : decode cX5_changeBytes 18 = .ok (.iconst 0, 1) := by decide +kernel
theorem dX5_changeBytes_19 : decode cX5_changeBytes 19 = .ok (.aload_n 2, 1) := by decide +kernel
theorem dX5_changeBytes_20 : decode cX5_changeBytes 20 = .ok (.invokevirtual 31, 3) := by decide +kernel
theorem dX5_changeBytes_23 : decode cX5_changeBytes 23 = .ok (.invokevirtual 62, 3) := by decide +kernel
theorem dX5_changeBytes_26 : decode cX5_changeBytes 26 = .ok (.return_, 1) := by decide +kernel
theorem dX5_release_0 : decode cX5_release 0 = .ok (.aload_n 0, 1) := by decide +kernel
theorem dX5_release_1 : decode cX5_release 1 = .ok (.getfield 22, 3) := by decide +kernel
theorem dX5_release_4 : decode cX5_release 4 = .ok (.aload_n 1, 1) := by decide +kernel
theorem dX5_release_5 : decode cX5_release 5 = .ok (.getfield 37, 3) := by decide +kernel
theorem dX5_release_8 : decode cX5_release 8 = .ok (.aload_n 1, 1) := by decide +kernel
theorem dX5_release_9 : decode cX5_release 9 = .ok (.getfield 35, 3) := by decide +kernel
theorem dX5_release_12 : decode cX5_release 12 = .ok (.invokevirtual 93, 3) := by decide +kernel
theorem dX5_release_15 : decode cX5_release 15 = .ok (.pop, 1) := by decide +kernel
theorem dX5_release_16 : decode cX5_release 16 = .ok (.iconst 0, 1) := by decide +kernel
theorem dX5_release_17 : decode cX5_release 17 = .ok (.istore_n 2, 1) := by decide +kernel
theorem dX5_release_18 : decode cX5_release 18 = .ok (.iload_n 2, 1) := by decide +kernel
theorem dX5_release_19 : decode cX5_release 19 = .ok (.aload_n 0, 1) := by decide +kernel
theorem dX5_release_20 : decode cX5_release 20 = .ok (.getfield 27, 3) := by decide +kernel
theorem dX5_release_23 : decode cX5_release 23 = .ok (.if_icmp .ge 43, 3) := by decide +kernel
theorem dX5_release_26 : decode cX5_release 26 = .ok (.aload_n 0, 1) := by decide +kernel
theorem dX5_release_27 : decode cX5_release 27 = .ok (.getfield 11, 3) := by decide +kernel
theorem dX5_release_30 : decode cX5_release 30 = .ok (.iload_n 2, 1) := by decide +kernel
theorem dX5_release_31 : decode cX5_release 31 = .ok (.aaload, 1) := by decide +kernel
theorem dX5_release_32 : decode cX5_release 32 = .ok (.getfield 37, 3) := by decide +kernel
theorem dX5_release_35 : decode cX5_release 35 = .ok (.aload_n 1, 1) := by decide +kernel
theorem dX5_release_36 : decode cX5_release 36 = .ok (.getfield 37, 3) := by decide +kernel
theorem dX5_release_39 : decode cX5_release 39 = .ok (.if_icmp .le 21, 3) := by decide +kernel
theorem dX5_release_42 : decode cX5_release 42 = .ok (.aload_n 0, 1) := by decide +kernel
theorem dX5_release_43 : decode cX5_release 43 = .ok (.getfield 11, 3) := by decide +kernel
theorem dX5_release_46 : decode cX5_release 46 = .ok (.iload_n 2, 1) := by decide +kernel
theorem dX5_release_47 : decode cX5_release 47 = .ok (.aaload, 1) := by decide +kernel
theorem dX5_release_48 : decode cX5_release 48 = .ok (.dup, 1) := by decide +kernel
theorem dX5_release_49 : decode cX5_release 49 = .ok (.getfield 37, 3) := by decide +kernel
theorem dX5_release_52 : decode cX5_release 52 = .ok (.aload_n 1, 1) := by decide +kernel
theorem dX5_release_53 : decode cX5_release 53 = .ok (.getfield 35, 3) := by decide +kernel
theorem dX5_release_56 : decode cX5_release 56 = .ok (.isub, 1) := by decide +kernel
theorem dX5_release_57 : decode cX5_release 57 = .ok (.putfield 37, 3) := by decide +kernel
theorem dX5_release_60 : decode cX5_release 60 = .ok (.iinc 2 1, 3) := by decide +kernel
theorem dX5_release_63 : decode cX5_release 63 = .ok (.goto (-45), 3) := by decide +kernel
theorem dX5_release_66 : decode cX5_release 66 = .ok (.return_, 1) := by decide +kernel
theorem dX5_takeOut_0 : decode cX5_takeOut 0 = .ok (.aload_n 0, 1) := by decide +kernel
theorem dX5_takeOut_1 : decode cX5_takeOut 1 = .ok (.iload_n 1, 1) := by decide +kernel
theorem dX5_takeOut_2 : decode cX5_takeOut 2 = .ok (.invokevirtual 51, 3) := by decide +kernel
theorem dX5_takeOut_5 : decode cX5_takeOut 5 = .ok (.astore_n 2, 1) := by decide +kernel
theorem dX5_takeOut_6 : decode cX5_takeOut 6 = .ok (.aload_n 2, 1) := by decide +kernel
theorem dX5_takeOut_7 : decode cX5_takeOut 7 = .ok (.ifnonnull 4, 3) := by decide +kernel
theorem dX5_takeOut_10 : decode cX5_takeOut 10 = .ok (.return_, 1) := by decide +kernel
theorem dX5_takeOut_11 : decode cX5_takeOut 11 = .ok (.aload_n 0, 1) := by decide +kernel
theorem dX5_takeOut_12 : decode cX5_takeOut 12 = .ok (.aload_n 2, 1) := by decide +kernel
theorem dX5_takeOut_13 : decode cX5_takeOut 13 = .ok (.invokevirtual 89, 3) := by decide +kernel
theorem dX5_takeOut_16 : decode cX5_takeOut 16 = .ok (.iload_n 1, 1) := by decide +kernel
theorem dX5_takeOut_17 : decode cX5_takeOut 17 = .ok (.iconst 1, 1) := by decide +kernel
theorem dX5_takeOut_18 : decode cX5_takeOut 18 = .ok (.iadd, 1) := by decide +kernel
theorem dX5_takeOut_19 : decode cX5_takeOut 19 = .ok (.istore_n 3, 1) := by decide +kernel
theorem dX5_takeOut_20 : decode cX5_takeOut 20 = .ok (.iload_n 3, 1) := by decide +kernel
theorem dX5_takeOut_21 : decode cX5_takeOut 21 = .ok (.aload_n 0, 1) := by decide +kernel
theorem dX5_takeOut_22 : decode cX5_takeOut 22 = .ok (.getfield 27, 3) := by decide +kernel
theorem dX5_takeOut_25 : decode cX5_takeOut 25 = .ok (.if_icmp .ge 23, 3) := by decide +kernel
theorem dX5_takeOut_28 : decode cX5_takeOut 28 = .ok (.aload_n 0, 1) := by decide +kernel
theorem dX5_takeOut_29 : decode cX5_takeOut 29 = .ok (.getfield 11, 3) := by decide +kernel
theorem dX5_takeOut_32 : decode cX5_takeOut 32 = .ok (.iload_n 3, 1) := by decide +kernel
theorem dX5_takeOut_33 : decode cX5_takeOut 33 = .ok (.iconst 1, 1) := by decide +kernel
theorem dX5_takeOut_34 : decode cX5_takeOut 34 = .ok (.isub, 1) := by decide +kernel
theorem dX5_takeOut_35 : decode cX5_takeOut 35 = .ok (.aload_n 0, 1) := by decide +kernel
theorem dX5_takeOut_36 : decode cX5_takeOut 36 = .ok (.getfield 11, 3) := by decide +kernel
theorem dX5_takeOut_39 : decode cX5_takeOut 39 = .ok (.iload_n 3, 1) := by decide +kernel
theorem dX5_takeOut_40 : decode cX5_takeOut 40 = .ok (.aaload, 1) := by decide +kernel
theorem dX5_takeOut_41 : decode cX5_takeOut 41 = .ok (.aastore, 1) := by decide +kernel
theorem dX5_takeOut_42 : decode cX5_takeOut 42 = .ok (.iinc 3 1, 3) := by decide +kernel
theorem dX5_takeOut_45 : decode cX5_takeOut 45 = .ok (.goto (-25), 3) := by decide +kernel
theorem dX5_takeOut_48 : decode cX5_takeOut 48 = .ok (.aload_n 0, 1) := by decide +kernel
theorem dX5_takeOut_49 : decode cX5_takeOut 49 = .ok (.getfield 11, 3) := by decide +kernel
theorem dX5_takeOut_52 : decode cX5_takeOut 52 = .ok (.aload_n 0, 1) := by decide +kernel
theorem dX5_takeOut_53 : decode cX5_takeOut 53 = .ok (.getfield 27, 3) := by decide +kernel
theorem dX5_takeOut_56 : decode cX5_takeOut 56 = .ok (.iconst 1, 1) := by decide +kernel
theorem dX5_takeOut_57 : decode cX5_takeOut 57 = .ok (.isub, 1) := by decide +kernel
theorem dX5_takeOut_58 : decode cX5_takeOut 58 = .ok (.aload_n 2, 1) := by decide +kernel
theorem dX5_takeOut_59 : decode cX5_takeOut 59 = .ok (.aastore, 1) := by decide +kernel
theorem dX5_takeOut_60 : decode cX5_takeOut 60 = .ok (.aload_n 0, 1) := by decide +kernel
theorem dX5_takeOut_61 : decode cX5_takeOut 61 = .ok (.dup, 1) := by decide +kernel
theorem dX5_takeOut_62 : decode cX5_takeOut 62 = .ok (.getfield 27, 3) := by decide +kernel
theorem dX5_takeOut_65 : decode cX5_takeOut 65 = .ok (.iconst 1, 1) := by decide +kernel
theorem dX5_takeOut_66 : decode cX5_takeOut 66 = .ok (.isub, 1) := by decide +kernel
theorem dX5_takeOut_67 : decode cX5_takeOut 67 = .ok (.putfield 27, 3) := by decide +kernel
theorem dX5_takeOut_70 : decode cX5_takeOut 70 = .ok (.return_, 1) := by decide +kernel
theorem dX5_takeOutAll_0 : decode cX5_takeOutAll 0 = .ok (.aload_n 0, 1) := by decide +kernel
theorem dX5_takeOutAll_1 : decode cX5_takeOutAll 1 = .ok (.iconst 0, 1) := by decide +kernel
theorem dX5_takeOutAll_2 : decode cX5_takeOutAll 2 = .ok (.putfield 27, 3) := by decide +kernel
theorem dX5_takeOutAll_5 : decode cX5_takeOutAll 5 = .ok (.aload_n 0, 1) := by decide +kernel
theorem dX5_takeOutAll_6 : decode cX5_takeOutAll 6 = .ok (.getfield 22, 3) := by decide +kernel
theorem dX5_takeOutAll_9 : decode cX5_takeOutAll 9 = .ok (.iconst 0, 1) := by decide +kernel
theorem dX5_takeOutAll_10 : decode cX5_takeOutAll 10 = .ok (.invokevirtual 97, 3) := by decide +kernel
theorem dX5_takeOutAll_13 : decode cX5_takeOutAll 13 = .ok (.pop, 1) := by decide +kernel
theorem dX5_takeOutAll_14 : decode cX5_takeOutAll 14 = .ok (.return_, 1) := by decide +kernel
theorem dX5_putInOrder_0 : decode cX5_putInOrder 0 = .ok (.iconst 1, 1) := by decide +kernel
theorem dX5_putInOrder_1 : decode cX5_putInOrder 1 = .ok (.istore_n 1, 1) := by decide +kernel
theorem dX5_putInOrder_2 : decode cX5_putInOrder 2 = .ok (.iload_n 1, 1) := by decide +kernel
theorem dX5_putInOrder_3 : decode cX5_putInOrder 3 = .ok (.aload_n 0, 1) := by decide +kernel
theorem dX5_putInOrder_4 : decode cX5_putInOrder 4 = .ok (.getfield 27, 3) := by decide +kernel
theorem dX5_putInOrder_7 : decode cX5_putInOrder 7 = .ok (.if_icmp .ge 77, 3) := by decide +kernel
theorem dX5_putInOrder_10 : decode cX5_putInOrder 10 = .ok (.iload_n 1, 1) := by decide +kernel
theorem dX5_putInOrder_11 : decode cX5_putInOrder 11 = .ok (.istore_n 2, 1) := by decide +kernel
theorem dX5_putInOrder_12 : decode cX5_putInOrder 12 = .ok (.iload_n 2, 1) := by decide +kernel
theorem dX5_putInOrder_13 : decode cX5_putInOrder 13 = .ok (.ifCond .le 65, 3) := by decide +kernel
theorem dX5_putInOrder_16 : decode cX5_putInOrder 16 = .ok (.aload_n 0, 1) := by decide +kernel
theorem dX5_putInOrder_17 : decode cX5_putInOrder 17 = .ok (.getfield 11, 3) := by decide +kernel
theorem dX5_putInOrder_20 : decode cX5_putInOrder 20 = .ok (.iload_n 2, 1) := by decide +kernel
theorem dX5_putInOrder_21 : decode cX5_putInOrder 21 = .ok (.aaload, 1) := by decide +kernel
theorem dX5_putInOrder_22 : decode cX5_putInOrder 22 = .ok (.getfield 44, 3) := by decide +kernel
theorem dX5_putInOrder_25 : decode cX5_putInOrder 25 = .ok (.aload_n 0, 1) := by decide +kernel
theorem dX5_putInOrder_26 : decode cX5_putInOrder 26 = .ok (.getfield 11, 3) := by decide +kernel
theorem dX5_putInOrder_29 : decode cX5_putInOrder 29 = .ok (.iload_n 2, 1) := by decide +kernel
theorem dX5_putInOrder_30 : decode cX5_putInOrder 30 = .ok (.iconst 1, 1) := by decide +kernel
theorem dX5_putInOrder_31 : decode cX5_putInOrder 31 = .ok (.isub, 1) := by decide +kernel
theorem dX5_putInOrder_32 : decode cX5_putInOrder 32 = .ok (.aaload, 1) := by decide +kernel
theorem dX5_putInOrder_33 : decode cX5_putInOrder 33 = .ok (.getfield 44, 3) := by decide +kernel
theorem dX5_putInOrder_36 : decode cX5_putInOrder 36 = .ok (.invokevirtual 101, 3) := by decide +kernel
theorem dX5_putInOrder_39 : decode cX5_putInOrder 39 = .ok (.ifCond .eq 39, 3) := by decide +kernel
theorem dX5_putInOrder_42 : decode cX5_putInOrder 42 = .ok (.aload_n 0, 1) := by decide +kernel
theorem dX5_putInOrder_43 : decode cX5_putInOrder 43 = .ok (.getfield 11, 3) := by decide +kernel
theorem dX5_putInOrder_46 : decode cX5_putInOrder 46 = .ok (.iload_n 2, 1) := by decide +kernel
theorem dX5_putInOrder_47 : decode cX5_putInOrder 47 = .ok (.iconst 1, 1) := by decide +kernel
theorem dX5_putInOrder_48 : decode cX5_putInOrder 48 = .ok (.isub, 1) := by decide +kernel
theorem dX5_putInOrder_49 : decode cX5_putInOrder 49 = .ok (.aaload, 1) := by decide +kernel
theorem dX5_putInOrder_50 : decode cX5_putInOrder 50 = .ok (.astore_n 3, 1) := by decide +kernel
theorem dX5_putInOrder_51 : decode cX5_putInOrder 51 = .ok (.aload_n 0, 1) := by decide +kernel
theorem dX5_putInOrder_52 : decode cX5_putInOrder 52 = .ok (.getfield 11, 3) := by decide +kernel
theorem dX5_putInOrder_55 : decode cX5_putInOrder 55 = .ok (.iload_n 2, 1) := by decide +kernel
theorem dX5_putInOrder_56 : decode cX5_putInOrder 56 = .ok (.iconst 1, 1) := by decide +kernel
theorem dX5_putInOrder_57 : decode cX5_putInOrder 57 = .ok (.isub, 1) := by decide +kernel
theorem dX5_putInOrder_58 : decode cX5_putInOrder 58 = .ok (.aload_n 0, 1) := by decide +kernel
theorem dX5_putInOrder_59 : decode cX5_putInOrder 59 = .ok (.getfield 11, 3) := by decide +kernel
theorem dX5_putInOrder_62 : decode cX5_putInOrder 62 = .ok (.iload_n 2, 1) := by decide +kernel
theorem dX5_putInOrder_63 : decode cX5_putInOrder 63 = .ok (.aaload, 1) := by decide +kernel
theorem dX5_putInOrder_64 : decode cX5_putInOrder 64 = .ok (.aastore, 1) := by decide +kernel
theorem dX5_putInOrder_65 : decode cX5_putInOrder 65 = .ok (.aload_n 0, 1) := by decide +kernel
theorem dX5_putInOrder_66 : decode cX5_putInOrder 66 = .ok (.getfield 11, 3) := by decide +kernel
theorem dX5_putInOrder_69 : decode cX5_putInOrder 69 = .ok (.iload_n 2, 1) := by decide +kernel
theorem dX5_putInOrder_70 : decode cX5_putInOrder 70 = .ok (.aload_n 3, 1) := by decide +kernel
theorem dX5_putInOrder_71 : decode cX5_putInOrder 71 = .ok (.aastore, 1) := by decide +kernel
theorem dX5_putInOrder_72 : decode cX5_putInOrder 72 = .ok (.iinc 2 (-1), 3) := by decide +kernel
theorem dX5_putInOrder_75 : decode cX5_putInOrder 75 = .ok (.goto (-63), 3) := by decide +kernel
theorem dX5_putInOrder_78 : decode cX5_putInOrder 78 = .ok (.iinc 1 1, 3) := by decide +kernel
theorem dX5_putInOrder_81 : decode cX5_putInOrder 81 = .ok (.goto (-79), 3) := by decide +kernel
theorem dX5_putInOrder_84 : decode cX5_putInOrder 84 = .ok (.return_, 1) := by decide +kernel
theorem dX5_writeLocals_0 : decode cX5_writeLocals 0 = .ok (.iconst 0, 1) := by decide +kernel
theorem dX5_writeLocals_1 : decode cX5_writeLocals 1 = .ok (.istore_n 2, 1) := by decide +kernel
theorem dX5_writeLocals_2 : decode cX5_writeLocals 2 = .ok (.iload_n 2, 1) := by decide +kernel
theorem dX5_writeLocals_3 : decode cX5_writeLocals 3 = .ok (.aload_n 0, 1) := by decide +kernel
theorem dX5_writeLocals_4 : decode cX5_writeLocals 4 = .ok (.getfield 27, 3) := by decide +kernel
theorem dX5_writeLocals_7 : decode cX5_writeLocals 7 = .ok (.if_icmp .ge 65, 3) := by decide +kernel
theorem dX5_writeLocals_10 : decode cX5_writeLocals 10 = .ok (.aload_n 0, 1) := by decide +kernel
theorem dX5_writeLocals_11 : decode cX5_writeLocals 11 = .ok (.getfield 11, 3) := by decide +kernel
theorem dX5_writeLocals_14 : decode cX5_writeLocals 14 = .ok (.iload_n 2, 1) := by decide +kernel
theorem dX5_writeLocals_15 : decode cX5_writeLocals 15 = .ok (.aaload, 1) := by decide +kernel
theorem dX5_writeLocals_16 : decode cX5_writeLocals 16 = .ok (.astore_n 3, 1) := by decide +kernel
theorem dX5_writeLocals_17 : decode cX5_writeLocals 17 = .ok (.aload_n 1, 1) := by decide +kernel
theorem dX5_writeLocals_18 : decode cX5_writeLocals 18 = .ok (.aload_n 3, 1) := by decide +kernel
theorem dX5_writeLocals_19 : decode cX5_writeLocals 19 = .ok (.invokestatic 105, 3) := by decide +kernel
theorem dX5_writeLocals_22 : decode cX5_writeLocals 22 = .ok (.aload_n 3, 1) := by decide +kernel
theorem dX5_writeLocals_23 : decode cX5_writeLocals 23 = .ok (.invokevirtual 111, 3) := by decide +kernel
theorem dX5_writeLocals_26 : decode cX5_writeLocals 26 = .ok (.bipush 99, 2) := by decide +kernel
theorem dX5_writeLocals_28 : decode cX5_writeLocals 28 = .ok (.if_icmp .ne 22, 3) := by decide +kernel
theorem dX5_writeLocals_31 : decode cX5_writeLocals 31 = .ok (.aload_n 0, 1) := by decide +kernel
theorem dX5_writeLocals_32 : decode cX5_writeLocals 32 = .ok (.getfield 22, 3) := by decide +kernel
theorem dX5_writeLocals_35 : decode cX5_writeLocals 35 = .ok (.aload_n 3, 1) := by decide +kernel
theorem dX5_writeLocals_36 : decode cX5_writeLocals 36 = .ok (.getfield 37, 3) := by decide +kernel
theorem dX5_writeLocals_39 : decode cX5_writeLocals 39 = .ok (.aload_n 3, 1) := by decide +kernel
theorem dX5_writeLocals_40 : decode cX5_writeLocals 40 = .ok (.getfield 35, 3) := by decide +kernel
theorem dX5_writeLocals_43 : decode cX5_writeLocals 43 = .ok (.aload_n 1, 1) := by decide +kernel
theorem dX5_writeLocals_44 : decode cX5_writeLocals 44 = .ok (.invokestatic 114, 3) := by decide +kernel
theorem dX5_writeLocals_47 : decode cX5_writeLocals 47 = .ok (.goto 19, 3) := by decide +kernel
theorem dX5_writeLocals_50 : decode cX5_writeLocals 50 = .ok (.aload_n 1, 1) := by decide +kernel
theorem dX5_writeLocals_51 : decode cX5_writeLocals 51 = .ok (.aload_n 0, 1) := by decide +kernel
theorem dX5_writeLocals_52 : decode cX5_writeLocals 52 = .ok (.getfield 22, 3) := by decide +kernel
theorem dX5_writeLocals_55 : decode cX5_writeLocals 55 = .ok (.aload_n 3, 1) := by decide +kernel
theorem dX5_writeLocals_56 : decode cX5_writeLocals 56 = .ok (.getfield 37, 3) := by decide +kernel
theorem dX5_writeLocals_59 : decode cX5_writeLocals 59 = .ok (.aload_n 3, 1) := by decide +kernel
theorem dX5_writeLocals_60 : decode cX5_writeLocals 60 = .ok (.getfield 35, 3) := by decide +kernel
theorem dX5_writeLocals_63 : decode cX5_writeLocals 63 = .ok (.invokevirtual 66, 3) := by decide +kernel
theorem dX5_writeLocals_66 : decode cX5_writeLocals 66 = .ok (.iinc 2 1, 3) := by decide +kernel
theorem dX5_writeLocals_69 : decode cX5_writeLocals 69 = .ok (.goto (-67), 3) := by decide +kernel
theorem dX5_writeLocals_72 : decode cX5_writeLocals 72 = .ok (.return_, 1) := by decide +kernel
theorem dX5_writeCentrals_0 : decode cX5_writeCentrals 0 = .ok (.iconst 0, 1) := by decide +kernel
theorem dX5_writeCentrals_1 : decode cX5_writeCentrals 1 = .ok (.istore_n 2, 1) := by decide +kernel
theorem dX5_writeCentrals_2 : decode cX5_writeCentrals 2 = .ok (.iconst 0, 1) := by decide +kernel
theorem dX5_writeCentrals_3 : decode cX5_writeCentrals 3 = .ok (.istore_n 3, 1) := by decide +kernel
theorem dX5_writeCentrals_4 : decode cX5_writeCentrals 4 = .ok (.iload_n 3, 1) := by decide +kernel
theorem dX5_writeCentrals_5 : decode cX5_writeCentrals 5 = .ok (.aload_n 0, 1) := by decide +kernel
theorem dX5_writeCentrals_6 : decode cX5_writeCentrals 6 = .ok (.getfield 27, 3) := by decide +kernel
theorem dX5_writeCentrals_9 : decode cX5_writeCentrals 9 = .ok (.if_icmp .ge 32, 3) := by decide +kernel
theorem dX5_writeCentrals_12 : decode cX5_writeCentrals 12 = .ok (.aload_n 1, 1) := by decide +kernel
theorem dX5_writeCentrals_13 : decode cX5_writeCentrals 13 = .ok (.aload_n 0, 1) := by decide +kernel
theorem dX5_writeCentrals_14 : decode cX5_writeCentrals 14 = .ok (.getfield 11, 3) := by decide +kernel
theorem dX5_writeCentrals_17 : decode cX5_writeCentrals 17 = .ok (.iload_n 3, 1) := by decide +kernel
theorem dX5_writeCentrals_18 : decode cX5_writeCentrals 18 = .ok (.aaload, 1) := by decide +kernel
theorem dX5_writeCentrals_19 : decode cX5_writeCentrals 19 = .ok (.iload_n 2, 1) := by decide +kernel
theorem dX5_writeCentrals_20 : decode cX5_writeCentrals 20 = .ok (.invokestatic 118, 3) := by decide +kernel
theorem dX5_writeCentrals_23 : decode cX5_writeCentrals 23 = .ok (.iload_n 2, 1) := by decide +kernel
theorem dX5_writeCentrals_24 : decode cX5_writeCentrals 24 = .ok (.aload_n 0, 1) := by decide +kernel
theorem dX5_writeCentrals_25 : decode cX5_writeCentrals 25 = .ok (.getfield 11, 3) := by decide +kernel
theorem dX5_writeCentrals_28 : decode cX5_writeCentrals 28 = .ok (.iload_n 3, 1) := by decide +kernel
theorem dX5_writeCentrals_29 : decode cX5_writeCentrals 29 = .ok (.aaload, 1) := by decide +kernel
theorem dX5_writeCentrals_30 : decode cX5_writeCentrals 30 = .ok (.invokevirtual 122, 3) := by decide +kernel
theorem dX5_writeCentrals_33 : decode cX5_writeCentrals 33 = .ok (.iadd, 1) := by decide +kernel
theorem dX5_writeCentrals_34 : decode cX5_writeCentrals 34 = .ok (.istore_n 2, 1) := by decide +kernel
theorem dX5_writeCentrals_35 : decode cX5_writeCentrals 35 = .ok (.iinc 3 1, 3) := by decide +kernel
theorem dX5_writeCentrals_38 : decode cX5_writeCentrals 38 = .ok (.goto (-34), 3) := by decide +kernel
theorem dX5_writeCentrals_41 : decode cX5_writeCentrals 41 = .ok (.return_, 1) := by decide +kernel
theorem dX6_writeLocal_0 : decode cX6_writeLocal 0 = .ok (.aload_n 0, 1) := by decide +kernel
theorem dX6_writeLocal_1 : decode cX6_writeLocal 1 = .ok (.iconst 3, 1) := by decide +kernel
theorem dX6_writeLocal_2 : decode cX6_writeLocal 2 = .ok (.iconst 4, 1) := by decide +kernel
theorem dX6_writeLocal_3 : decode cX6_writeLocal 3 = .ok (.invokevirtual 9, 3) := by decide +kernel
theorem dX6_writeLocal_6 : decode cX6_writeLocal 6 = .ok (.aload_n 0, 1) := by decide +kernel
theorem dX6_writeLocal_7 : decode cX6_writeLocal 7 = .ok (.aload_n 1, 1) := by decide +kernel
theorem dX6_writeLocal_8 : decode cX6_writeLocal 8 = .ok (.invokestatic 15, 3) := by decide +kernel
theorem dX6_writeLocal_11 : decode cX6_writeLocal 11 = .ok (.aload_n 0, 1) := by decide +kernel
theorem dX6_writeLocal_12 : decode cX6_writeLocal 12 = .ok (.aload_n 1, 1) := by decide +kernel
theorem dX6_writeLocal_13 : decode cX6_writeLocal 13 = .ok (.getfield 21, 3) := by decide +kernel
theorem dX6_writeLocal_16 : decode cX6_writeLocal 16 = .ok (.iconst 0, 1) := by decide +kernel
theorem dX6_writeLocal_17 : decode cX6_writeLocal 17 = .ok (.aload_n 1, 1) := by decide +kernel
theorem dX6_writeLocal_18 : decode cX6_writeLocal 18 = .ok (.getfield 21, 3) := by decide +kernel
theorem dX6_writeLocal_21 : decode cX6_writeLocal 21 = .ok (.invokevirtual 27, 3) := by decide +kernel
theorem dX6_writeLocal_24 : decode cX6_writeLocal 24 = .ok (.invokevirtual 31, 3) := by decide +kernel
theorem dX6_writeLocal_27 : decode cX6_writeLocal 27 = .ok (.return_, 1) := by decide +kernel
theorem dX6_writeCentral_0 : decode cX6_writeCentral 0 = .ok (.aload_n 0, 1) := by decide +kernel
theorem dX6_writeCentral_1 : decode cX6_writeCentral 1 = .ok (.iconst 1, 1) := by decide +kernel
theorem dX6_writeCentral_2 : decode cX6_writeCentral 2 = .ok (.iconst 2, 1) := by decide +kernel
theorem dX6_writeCentral_3 : decode cX6_writeCentral 3 = .ok (.invokevirtual 9, 3) := by decide +kernel
theorem dX6_writeCentral_6 : decode cX6_writeCentral 6 = .ok (.aload_n 0, 1) := by decide +kernel
theorem dX6_writeCentral_7 : decode cX6_writeCentral 7 = .ok (.bipush 20, 2) := by decide +kernel
theorem dX6_writeCentral_9 : decode cX6_writeCentral 9 = .ok (.invokevirtual 35, 3) := by decide +kernel
theorem dX6_writeCentral_12 : decode cX6_writeCentral 12 = .ok (.aload_n 0, 1) := by decide +kernel
theorem dX6_writeCentral_13 : decode cX6_writeCentral 13 = .ok (.aload_n 1, 1) := by decide +kernel
theorem dX6_writeCentral_14 : decode cX6_writeCentral 14 = .ok (.invokestatic 15, 3) := by decide +kernel
theorem dX6_writeCentral_17 : decode cX6_writeCentral 17 = .ok (.aload_n 0, 1) := by decide +kernel
theorem dX6_writeCentral_18 : decode cX6_writeCentral 18 = .ok (.iconst 0, 1) := by decide +kernel
theorem dX6_writeCentral_19 : decode cX6_writeCentral 19 = .ok (.invokevirtual 35, 3) := by decide +kernel
theorem dX6_writeCentral_22 : decode cX6_writeCentral 22 = .ok (.aload_n 0, 1) := by decide +kernel
theorem dX6_writeCentral_23 : decode cX6_writeCentral 23 = .ok (.iconst 0, 1) := by decide +kernel
theorem dX6_writeCentral_24 : decode cX6_writeCentral 24 = .ok (.invokevirtual 35, 3) := by decide +kernel
theorem dX6_writeCentral_27 : decode cX6_writeCentral 27 = .ok (.aload_n 0, 1) := by decide +kernel
theorem dX6_writeCentral_28 : decode cX6_writeCentral 28 = .ok (.iconst 0, 1) := by decide +kernel
theorem dX6_writeCentral_29 : decode cX6_writeCentral 29 = .ok (.invokevirtual 35, 3) := by decide +kernel
theorem dX6_writeCentral_32 : decode cX6_writeCentral 32 = .ok (.aload_n 0, 1) := by decide +kernel
theorem dX6_writeCentral_33 : decode cX6_writeCentral 33 = .ok (.iconst 0, 1) := by decide +kernel
theorem dX6_writeCentral_34 : decode cX6_writeCentral 34 = .ok (.invokevirtual 39, 3) := by decide +kernel
theorem dX6_writeCentral_37 : decode cX6_writeCentral 37 = .ok (.aload_n 0, 1) := by decide +kernel
theorem dX6_writeCentral_38 : decode cX6_writeCentral 38 = .ok (.iload_n 2, 1) := by decide +kernel
theorem dX6_writeCentral_39 : decode cX6_writeCentral 39 = .ok (.invokevirtual 39, 3) := by decide +kernel
theorem dX6_writeCentral_42 : decode cX6_writeCentral 42 = .ok (.aload_n 0, 1) := by decide +kernel
theorem dX6_writeCentral_43 : decode cX6_writeCentral 43 = .ok (.aload_n 1, 1) := by decide +kernel
theorem dX6_writeCentral_44 : decode cX6_writeCentral 44 = .ok (.getfield 21, 3) := by decide +kernel
theorem dX6_writeCentral_47 : decode cX6_writeCentral 47 = .ok (.iconst 0, 1) := by decide +kernel
theorem dX6_writeCentral_48 : decode cX6_writeCentral 48 = .ok (.aload_n 1, 1) := by decide +kernel
theorem dX6_writeCentral_49 : decode cX6_writeCentral 49 = .ok (.getfield 21, 3) := by decide +kernel
theorem dX6_writeCentral_52 : decode cX6_writeCentral 52 = .ok (.invokevirtual 27, 3) := by decide +kernel
theorem dX6_writeCentral_55 : decode cX6_writeCentral 55 = .ok (.invokevirtual 31, 3) := by decide +kernel
theorem dX6_writeCentral_58 : decode cX6_writeCentral 58 = .ok (.return_, 1) := by decide +kernel
