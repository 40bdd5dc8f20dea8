theorem dJ7_fill_d0a16_0 : decode cJ7_fill_d0a16 0 = .ok (.iconst 0, 1) := by decide +kernel
theorem dJ7_fill_d0a16_1 : decode cJ7_fill_d0a16 1 = .ok (.istore_n 3, 1) := by decide +kernel
theorem dJ7_fill_d0a16_2 : decode cJ7_fill_d0a16 2 = .ok (.aload_n 0, 1) := by decide +kernel
theorem dJ7_fill_d0a16_3 : decode cJ7_fill_d0a16 3 = .ok (.arraylength, 1) := by decide +kernel
theorem dJ7_fill_d0a16_4 : decode cJ7_fill_d0a16 4 = .ok (.istore 4, 2) := by decide +kernel
theorem dJ7_fill_d0a16_6 : decode cJ7_fill_d0a16 6 = .ok (.iload_n 3, 1) := by decide +kernel
theorem dJ7_fill_d0a16_7 : decode cJ7_fill_d0a16 7 = .ok (.iload 4, 2) := by decide +kernel
theorem dJ7_fill_d0a16_9 : decode cJ7_fill_d0a16 9 = .ok (.if_icmp .ge 13, 3) := by decide +kernel
theorem dJ7_fill_d0a16_12 : decode cJ7_fill_d0a16 12 = .ok (.aload_n 0, 1) := by decide +kernel
theorem dJ7_fill_d0a16_13 : decode cJ7_fill_d0a16 13 = .ok (.iload_n 3, 1) := by decide +kernel
theorem dJ7_fill_d0a16_14 : decode cJ7_fill_d0a16 14 = .ok (.lload_n 1, 1) := by decide +kernel
theorem dJ7_fill_d0a16_15 : decode cJ7_fill_d0a16 15 = .ok (.lastore, 1) := by decide +kernel
theorem dJ7_fill_d0a16_16 : decode cJ7_fill_d0a16 16 = .ok (.iinc 3 1, 3) := by decide +kernel
theorem dJ7_fill_d0a16_19 : decode cJ7_fill_d0a16 19 = .ok (.goto (-13), 3) := by decide +kernel
theorem dJ7_fill_d0a16_22 : decode cJ7_fill_d0a16 22 = .ok (.return_, 1) := by decide +kernel
theorem dJ6_bitCount_0f7a4_0 : decode cJ6_bitCount_0f7a4 0 = .ok (.iload_n 0, 1) := by decide +kernel
theorem dJ6_bitCount_0f7a4_1 : decode cJ6_bitCount_0f7a4 1 = .ok (.iload_n 0, 1) := by decide +kernel
theorem dJ6_bitCount_0f7a4_2 : decode cJ6_bitCount_0f7a4 2 = .ok (.iconst 1, 1) := by decide +kernel
theorem dJ6_bitCount_0f7a4_3 : decode cJ6_bitCount_0f7a4 3 = .ok (.iushr, 1) := by decide +kernel
theorem dJ6_bitCount_0f7a4_4 : decode cJ6_bitCount_0f7a4 4 = .ok (.ldc_w 265, 3) := by decide +kernel
theorem dJ6_bitCount_0f7a4_7 : decode cJ6_bitCount_0f7a4 7 = .ok (.iand, 1) := by decide +kernel
theorem dJ6_bitCount_0f7a4_8 : decode cJ6_bitCount_0f7a4 8 = .ok (.isub, 1) := by decide +kernel
theorem dJ6_bitCount_0f7a4_9 : decode cJ6_bitCount_0f7a4 9 = .ok (.istore_n 0, 1) := by decide +kernel
theorem dJ6_bitCount_0f7a4_10 : decode cJ6_bitCount_0f7a4 10 = .ok (.iload_n 0, 1) := by decide +kernel
theorem dJ6_bitCount_0f7a4_11 : decode cJ6_bitCount_0f7a4 11 = .ok (.ldc_w 266, 3) := by decide +kernel
theorem dJ6_bitCount_0f7a4_14 : decode cJ6_bitCount_0f7a4 14 = .ok (.iand, 1) := by decide +kernel
theorem dJ6_bitCount_0f7a4_15 : decode cJ6_bitCount_0f7a4 15 = .ok (.iload_n 0, 1) := by decide +kernel
theorem dJ6_bitCount_0f7a4_16 : decode cJ6_bitCount_0f7a4 16 = .ok (.iconst 2, 1) := by decide +kernel
theorem dJ6_bitCount_0f7a4_17 : decode cJ6_bitCount_0f7a4 17 = .ok (.iushr, 1) := by decide +kernel
theorem dJ6_bitCount_0f7a4_18 : decode cJ6_bitCount_0f7a4 18 = .ok (.ldc_w 266, 3) := by decide +kernel
theorem dJ6_bitCount_0f7a4_21 : decode cJ6_bitCount_0f7a4 21 = .ok (.iand, 1) := by decide +kernel
theorem dJ6_bitCount_0f7a4_22 : decode cJ6_bitCount_0f7a4 22 = .ok (.iadd, 1) := by decide +kernel
theorem dJ6_bitCount_0f7a4_23 : decode cJ6_bitCount_0f7a4 23 = .ok (.istore_n 0, 1) := by decide +kernel
theorem dJ6_bitCount_0f7a4_24 : decode cJ6_bitCount_0f7a4 24 = .ok (.iload_n 0, 1) := by decide +kernel
theorem dJ6_bitCount_0f7a4_25 : decode cJ6_bitCount_0f7a4 25 = .ok (.iload_n 0, 1) := by decide +kernel
theorem dJ6_bitCount_0f7a4_26 : decode cJ6_bitCount_0f7a4 26 = .ok (.iconst 4, 1) := by decide +kernel
theorem dJ6_bitCount_0f7a4_27 : decode cJ6_bitCount_0f7a4 27 = .ok (.iushr, 1) := by decide +kernel
theorem dJ6_bitCount_0f7a4_28 : decode cJ6_bitCount_0f7a4 28 = .ok (.iadd, 1) := by decide +kernel
theorem dJ6_bitCount_0f7a4_29 : decode cJ6_bitCount_0f7a4 29 = .ok (.ldc_w 267, 3) := by decide +kernel
theorem dJ6_bitCount_0f7a4_32 : decode cJ6_bitCount_0f7a4 32 = .ok (.iand, 1) := by decide +kernel
theorem dJ6_bitCount_0f7a4_33 : decode cJ6_bitCount_0f7a4 33 = .ok (.istore_n 0, 1) := by decide +kernel
theorem dJ6_bitCount_0f7a4_34 : decode cJ6_bitCount_0f7a4 34 = .ok (.iload_n 0, 1) := by decide +kernel
theorem dJ6_bitCount_0f7a4_35 : decode cJ6_bitCount_0f7a4 35 = .ok (.iload_n 0, 1) := by decide +kernel
theorem dJ6_bitCount_0f7a4_36 : decode cJ6_bitCount_0f7a4 36 = .ok (.bipush 8, 2) := by decide +kernel
theorem dJ6_bitCount_0f7a4_38 : decode cJ6_bitCount_0f7a4 38 = .ok (.iushr, 1) := by decide +kernel
theorem dJ6_bitCount_0f7a4_39 : decode cJ6_bitCount_0f7a4 39 = .ok (.iadd, 1) := by decide +kernel
theorem dJ6_bitCount_0f7a4_40 : decode cJ6_bitCount_0f7a4 40 = .ok (.istore_n 0, 1) := by decide +kernel
theorem dJ6_bitCount_0f7a4_41 : decode cJ6_bitCount_0f7a4 41 = .ok (.iload_n 0, 1) := by decide +kernel
theorem dJ6_bitCount_0f7a4_42 : decode cJ6_bitCount_0f7a4 42 = .ok (.iload_n 0, 1) := by decide +kernel
theorem dJ6_bitCount_0f7a4_43 : decode cJ6_bitCount_0f7a4 43 = .ok (.bipush 16, 2) := by decide +kernel
theorem dJ6_bitCount_0f7a4_45 : decode cJ6_bitCount_0f7a4 45 = .ok (.iushr, 1) := by decide +kernel
theorem dJ6_bitCount_0f7a4_46 : decode cJ6_bitCount_0f7a4 46 = .ok (.iadd, 1) := by decide +kernel
theorem dJ6_bitCount_0f7a4_47 : decode cJ6_bitCount_0f7a4 47 = .ok (.istore_n 0, 1) := by decide +kernel
theorem dJ6_bitCount_0f7a4_48 : decode cJ6_bitCount_0f7a4 48 = .ok (.iload_n 0, 1) := by decide +kernel
theorem dJ6_bitCount_0f7a4_49 : decode cJ6_bitCount_0f7a4 49 = .ok (.bipush 63, 2) := by decide +kernel
theorem dJ6_bitCount_0f7a4_51 : decode cJ6_bitCount_0f7a4 51 = .ok (.iand, 1) := by decide +kernel
theorem dJ6_bitCount_0f7a4_52 : decode cJ6_bitCount_0f7a4 52 = .ok (.ireturn, 1) := by decide +kernel
theorem dJ13_bitCount_95d88_0 : decode cJ13_bitCount_95d88 0 = .ok (.lload_n 0, 1) := by decide +kernel
theorem dJ13_bitCount_95d88_1 : decode cJ13_bitCount_95d88 1 = .ok (.lload_n 0, 1) := by decide +kernel
theorem dJ13_bitCount_95d88_2 : decode cJ13_bitCount_95d88 2 = .ok (.iconst 1, 1) := by decide +kernel
theorem dJ13_bitCount_95d88_3 : decode cJ13_bitCount_95d88 3 = .ok (.lushr, 1) := by decide +kernel
theorem dJ13_bitCount_95d88_4 : decode cJ13_bitCount_95d88 4 = .ok (.ldc2_w 314, 3) := by decide +kernel
theorem dJ13_bitCount_95d88_7 : decode cJ13_bitCount_95d88 7 = .ok (.land, 1) := by decide +kernel
theorem dJ13_bitCount_95d88_8 : decode cJ13_bitCount_95d88 8 = .ok (.lsub, 1) := by decide +kernel
theorem dJ13_bitCount_95d88_9 : decode cJ13_bitCount_95d88 9 = .ok (.lstore_n 0, 1) := by decide +kernel
theorem dJ13_bitCount_95d88_10 : decode cJ13_bitCount_95d88 10 = .ok (.lload_n 0, 1) := by decide +kernel
theorem dJ13_bitCount_95d88_11 : decode cJ13_bitCount_95d88 11 = .ok (.ldc2_w 316, 3) := by decide +kernel
theorem dJ13_bitCount_95d88_14 : decode cJ13_bitCount_95d88 14 = .ok (.land, 1) := by decide +kernel
theorem dJ13_bitCount_95d88_15 : decode cJ13_bitCount_95d88 15 = .ok (.lload_n 0, 1) := by decide +kernel
theorem dJ13_bitCount_95d88_16 : decode cJ13_bitCount_95d88 16 = .ok (.iconst 2, 1) := by decide +kernel
theorem dJ13_bitCount_95d88_17 : decode cJ13_bitCount_95d88 17 = .ok (.lushr, 1) := by decide +kernel
theorem dJ13_bitCount_95d88_18 : decode cJ13_bitCount_95d88 18 = .ok (.ldc2_w 316, 3) := by decide +kernel
theorem dJ13_bitCount_95d88_21 : decode cJ13_bitCount_95d88 21 = .ok (.land, 1) := by decide +kernel
theorem dJ13_bitCount_95d88_22 : decode cJ13_bitCount_95d88 22 = .ok (.ladd, 1) := by decide +kernel
theorem dJ13_bitCount_95d88_23 : decode cJ13_bitCount_95d88 23 = .ok (.lstore_n 0, 1) := by decide +kernel
theorem dJ13_bitCount_95d88_24 : decode cJ13_bitCount_95d88 24 = .ok (.lload_n 0, 1) := by decide +kernel
theorem dJ13_bitCount_95d88_25 : decode cJ13_bitCount_95d88 25 = .ok (.lload_n 0, 1) := by decide +kernel
theorem dJ13_bitCount_95d88_26 : decode cJ13_bitCount_95d88 26 = .ok (.iconst 4, 1) := by decide +kernel
theorem dJ13_bitCount_95d88_27 : decode cJ13_bitCount_95d88 27 = .ok (.lushr, 1) := by decide +kernel
theorem dJ13_bitCount_95d88_28 : decode cJ13_bitCount_95d88 28 = .ok (.ladd, 1) := by decide +kernel
theorem dJ13_bitCount_95d88_29 : decode cJ13_bitCount_95d88 29 = .ok (.ldc2_w 318, 3) := by decide +kernel
theorem dJ13_bitCount_95d88_32 : decode cJ13_bitCount_95d88 32 = .ok (.land, 1) := by decide +kernel
theorem dJ13_bitCount_95d88_33 : decode cJ13_bitCount_95d88 33 = .ok (.lstore_n 0, 1) := by decide +kernel
theorem dJ13_bitCount_95d88_34 : decode cJ13_bitCount_95d88 34 = .ok (.lload_n 0, 1) := by decide +kernel
theorem dJ13_bitCount_95d88_35 : decode cJ13_bitCount_95d88 35 = .ok (.lload_n 0, 1) := by decide +kernel
theorem dJ13_bitCount_95d88_36 : decode cJ13_bitCount_95d88 36 = .ok (.bipush 8, 2) := by decide +kernel
theorem dJ13_bitCount_95d88_38 : decode cJ13_bitCount_95d88 38 = .ok (.lushr, 1) := by decide +kernel
theorem dJ13_bitCount_95d88_39 : decode cJ13_bitCount_95d88 39 = .ok (.ladd, 1) := by decide +kernel
theorem dJ13_bitCount_95d88_40 : decode cJ13_bitCount_95d88 40 = .ok (.lstore_n 0, 1) := by decide +kernel
theorem dJ13_bitCount_95d88_41 : decode cJ13_bitCount_95d88 41 = .ok (.lload_n 0, 1) := by decide +kernel
theorem dJ13_bitCount_95d88_42 : decode cJ13_bitCount_95d88 42 = .ok (.lload_n 0, 1) := by decide +kernel
theorem dJ13_bitCount_95d88_43 : decode cJ13_bitCount_95d88 43 = .ok (.bipush 16, 2) := by decide +kernel
theorem dJ13_bitCount_95d88_45 : decode cJ13_bitCount_95d88 45 = .ok (.lushr, 1) := by decide +kernel
theorem dJ13_bitCount_95d88_46 : decode cJ13_bitCount_95d88 46 = .ok (.ladd, 1) := by decide +kernel
theorem dJ13_bitCount_95d88_47 : decode cJ13_bitCount_95d88 47 = .ok (.lstore_n 0, 1) := by decide +kernel
theorem dJ13_bitCount_95d88_48 : decode cJ13_bitCount_95d88 48 = .ok (.lload_n 0, 1) := by decide +kernel
theorem dJ13_bitCount_95d88_49 : decode cJ13_bitCount_95d88 49 = .ok (.lload_n 0, 1) := by decide +kernel
theorem dJ13_bitCount_95d88_50 : decode cJ13_bitCount_95d88 50 = .ok (.bipush 32, 2) := by decide +kernel
theorem dJ13_bitCount_95d88_52 : decode cJ13_bitCount_95d88 52 = .ok (.lushr, 1) := by decide +kernel
theorem dJ13_bitCount_95d88_53 : decode cJ13_bitCount_95d88 53 = .ok (.ladd, 1) := by decide +kernel
theorem dJ13_bitCount_95d88_54 : decode cJ13_bitCount_95d88 54 = .ok (.lstore_n 0, 1) := by decide +kernel
theorem dJ13_bitCount_95d88_55 : decode cJ13_bitCount_95d88 55 = .ok (.lload_n 0, 1) := by decide +kernel
theorem dJ13_bitCount_95d88_56 : decode cJ13_bitCount_95d88 56 = .ok (.l2i, 1) := by decide +kernel
theorem dJ13_bitCount_95d88_57 : decode cJ13_bitCount_95d88 57 = .ok (.bipush 127, 2) := by decide +kernel
theorem dJ13_bitCount_95d88_59 : decode cJ13_bitCount_95d88 59 = .ok (.iand, 1) := by decide +kernel
theorem dJ13_bitCount_95d88_60 : decode cJ13_bitCount_95d88 60 = .ok (.ireturn, 1) := by decide +kernel
theorem dX10_areWords_0 : decode cX10_areWords 0 = .ok (.aload_n 0, 1) := by decide +kernel
theorem dX10_areWords_1 : decode cX10_areWords 1 = .ok (.getfield 19, 3) := by decide +kernel
theorem dX10_areWords_4 : decode cX10_areWords 4 = .ok (.iload_n 1, 1) := by decide +kernel
theorem dX10_areWords_5 : decode cX10_areWords 5 = .ok (.invokevirtual 134, 3) := by decide +kernel
theorem dX10_areWords_8 : decode cX10_areWords 8 = .ok (.ifCond .eq 18, 3) := by decide +kernel
theorem dX10_areWords_11 : decode cX10_areWords 11 = .ok (.aload_n 0, 1) := by decide +kernel
theorem dX10_areWords_12 : decode cX10_areWords 12 = .ok (.getfield 19, 3) := by decide +kernel
theorem dX10_areWords_15 : decode cX10_areWords 15 = .ok (.iload_n 2, 1) := by decide +kernel
theorem dX10_areWords_16 : decode cX10_areWords 16 = .ok (.invokevirtual 134, 3) := by decide +kernel
theorem dX10_areWords_19 : decode cX10_areWords 19 = .ok (.ifCond .eq 7, 3) := by decide +kernel
theorem dX10_areWords_22 : decode cX10_areWords 22 = .ok (.iconst 1, 1) := by decide +kernel
theorem dX10_areWords_23 : decode cX10_areWords 23 = .ok (.goto 4, 3) := by decide +kernel
theorem dX10_areWords_26 : decode cX10_areWords 26 = .ok (.iconst 0, 1) := by decide +kernel
theorem dX10_areWords_27 : decode cX10_areWords 27 = .ok (.ireturn, 1) := by decide +kernel
theorem dX10_bar_0 : decode cX10_bar 0 = .ok (.aload_n 0, 1) := by decide +kernel
theorem dX10_bar_1 : decode cX10_bar 1 = .ok (.getfield 19, 3) := by decide +kernel
theorem dX10_bar_4 : decode cX10_bar 4 = .ok (.iload_n 1, 1) := by decide +kernel
theorem dX10_bar_5 : decode cX10_bar 5 = .ok (.invokevirtual 134, 3) := by decide +kernel
theorem dX10_bar_8 : decode cX10_bar 8 = .ok (.ifCond .eq 19, 3) := by decide +kernel
theorem dX10_bar_11 : decode cX10_bar 11 = .ok (.aload_n 0, 1) := by decide +kernel
theorem dX10_bar_12 : decode cX10_bar 12 = .ok (.getfield 19, 3) := by decide +kernel
theorem dX10_bar_15 : decode cX10_bar 15 = .ok (.iload_n 1, 1) := by decide +kernel
theorem dX10_bar_16 : decode cX10_bar 16 = .ok (.iload_n 2, 1) := by decide +kernel
theorem dX10_bar_17 : decode cX10_bar 17 = .ok (.invokevirtual 137, 3) := by decide +kernel
theorem dX10_bar_20 : decode cX10_bar 20 = .ok (.ifCond .eq 7, 3) := by decide +kernel
theorem dX10_bar_23 : decode cX10_bar 23 = .ok (.iconst 1, 1) := by decide +kernel
theorem dX10_bar_24 : decode cX10_bar 24 = .ok (.goto 4, 3) := by decide +kernel
theorem dX10_bar_27 : decode cX10_bar 27 = .ok (.iconst 0, 1) := by decide +kernel
theorem dX10_bar_28 : decode cX10_bar 28 = .ok (.ireturn, 1) := by decide +kernel
theorem dX10_between_0 : decode cX10_between 0 = .ok (.iload_n 1, 1) := by decide +kernel
theorem dX10_between_1 : decode cX10_between 1 = .ok (.ifCond .lt 8, 3) := by decide +kernel
theorem dX10_between_4 : decode cX10_between 4 = .ok (.iload_n 1, 1) := by decide +kernel
theorem dX10_between_5 : decode cX10_between 5 = .ok (.iconst 1, 1) := by decide +kernel
theorem dX10_between_6 : decode cX10_between 6 = .ok (.if_icmp .le 5, 3) := by decide +kernel
theorem dX10_between_9 : decode cX10_between 9 = .ok (.iconst (-1), 1) := by decide +kernel
theorem dX10_between_10 : decode cX10_between 10 = .ok (.ireturn, 1) := by decide +kernel
theorem dX10_between_11 : decode cX10_between 11 = .ok (.aload_n 0, 1) := by decide +kernel
theorem dX10_between_12 : decode cX10_between 12 = .ok (.getfield 19, 3) := by decide +kernel
theorem dX10_between_15 : decode cX10_between 15 = .ok (.getfield 232, 3) := by decide +kernel
theorem dX10_between_18 : decode cX10_between 18 = .ok (.lconst 0, 1) := by decide +kernel
theorem dX10_between_19 : decode cX10_between 19 = .ok (.lcmp, 1) := by decide +kernel
theorem dX10_between_20 : decode cX10_between 20 = .ok (.ifCond .ne 6, 3) := by decide +kernel
theorem dX10_between_23 : decode cX10_between 23 = .ok (.bipush (-2), 2) := by decide +kernel
theorem dX10_between_25 : decode cX10_between 25 = .ok (.ireturn, 1) := by decide +kernel
theorem dX10_between_26 : decode cX10_between 26 = .ok (.aload_n 0, 1) := by decide +kernel
theorem dX10_between_27 : decode cX10_between 27 = .ok (.getfield 44, 3) := by decide +kernel
theorem dX10_between_30 : decode cX10_between 30 = .ok (.invokevirtual 171, 3) := by decide +kernel
theorem dX10_between_33 : decode cX10_between 33 = .ok (.aload_n 0, 1) := by decide +kernel
theorem dX10_between_34 : decode cX10_between 34 = .ok (.getfield 53, 3) := by decide +kernel
theorem dX10_between_37 : decode cX10_between 37 = .ok (.invokevirtual 184, 3) := by decide +kernel
theorem dX10_between_40 : decode cX10_between 40 = .ok (.aload_n 0, 1) := by decide +kernel
theorem dX10_between_41 : decode cX10_between 41 = .ok (.getfield 53, 3) := by decide +kernel
theorem dX10_between_44 : decode cX10_between 44 = .ok (.invokevirtual 236, 3) := by decide +kernel
theorem dX10_between_47 : decode cX10_between 47 = .ok (.iload_n 1, 1) := by decide +kernel
theorem dX10_between_48 : decode cX10_between 48 = .ok (.ifCond .ne 13, 3) := by decide +kernel
theorem dX10_between_51 : decode cX10_between 51 = .ok (.aload_n 0, 1) := by decide +kernel
theorem dX10_between_52 : decode cX10_between 52 = .ok (.getfield 53, 3) := by decide +kernel
theorem dX10_between_55 : decode cX10_between 55 = .ok (.getfield 239, 3) := by decide +kernel
theorem dX10_between_58 : decode cX10_between 58 = .ok (.goto 10, 3) := by decide +kernel
theorem dX10_between_61 : decode cX10_between 61 = .ok (.aload_n 0, 1) := by decide +kernel
theorem dX10_between_62 : decode cX10_between 62 = .ok (.getfield 53, 3) := by decide +kernel
theorem dX10_between_65 : decode cX10_between 65 = .ok (.getfield 242, 3) := by decide +kernel
theorem dX10_between_68 : decode cX10_between 68 = .ok (.ireturn, 1) := by decide +kernel
theorem dX10_check_0 : decode cX10_check 0 = .ok (.aload_n 0, 1) := by decide +kernel
theorem dX10_check_1 : decode cX10_check 1 = .ok (.getfield 19, 3) := by decide +kernel
theorem dX10_check_4 : decode cX10_check 4 = .ok (.iload_n 1, 1) := by decide +kernel
theorem dX10_check_5 : decode cX10_check 5 = .ok (.invokevirtual 134, 3) := by decide +kernel
theorem dX10_check_8 : decode cX10_check 8 = .ok (.ifCond .eq 26, 3) := by decide +kernel
theorem dX10_check_11 : decode cX10_check 11 = .ok (.iload_n 2, 1) := by decide +kernel
theorem dX10_check_12 : decode cX10_check 12 = .ok (.ifCond .lt 22, 3) := by decide +kernel
theorem dX10_check_15 : decode cX10_check 15 = .ok (.iload_n 2, 1) := by decide +kernel
theorem dX10_check_16 : decode cX10_check 16 = .ok (.bipush 8, 2) := by decide +kernel
theorem dX10_check_18 : decode cX10_check 18 = .ok (.if_icmp .gt 16, 3) := by decide +kernel
theorem dX10_check_21 : decode cX10_check 21 = .ok (.aload_n 0, 1) := by decide +kernel
theorem dX10_check_22 : decode cX10_check 22 = .ok (.getfield 10, 3) := by decide +kernel
theorem dX10_check_25 : decode cX10_check 25 = .ok (.iconst 4, 1) := by decide +kernel
theorem dX10_check_26 : decode cX10_check 26 = .ok (.iload_n 2, 1) := by decide +kernel
theorem dX10_check_27 : decode cX10_check 27 = .ok (.imul, 1) := by decide +kernel
theorem dX10_check_28 : decode cX10_check 28 = .ok (.invokevirtual 113, 3) := by decide +kernel
theorem dX10_check_31 : decode cX10_check 31 = .ok (.ifCond .ne 6, 3) := by decide +kernel
theorem dX10_check_34 : decode cX10_check 34 = .ok (.bipush (-2), 2) := by decide +kernel
theorem dX10_check_36 : decode cX10_check 36 = .ok (.ireturn, 1) := by decide +kernel
theorem dX10_check_37 : decode cX10_check 37 = .ok (.aload_n 0, 1) := by decide +kernel
theorem dX10_check_38 : decode cX10_check 38 = .ok (.getfield 19, 3) := by decide +kernel
theorem dX10_check_41 : decode cX10_check 41 = .ok (.getfield 335, 3) := by decide +kernel
theorem dX10_check_44 : decode cX10_check 44 = .ok (.iload_n 1, 1) := by decide +kernel
theorem dX10_check_45 : decode cX10_check 45 = .ok (.iaload, 1) := by decide +kernel
theorem dX10_check_46 : decode cX10_check 46 = .ok (.istore_n 3, 1) := by decide +kernel
theorem dX10_check_47 : decode cX10_check 47 = .ok (.iconst 0, 1) := by decide +kernel
theorem dX10_check_48 : decode cX10_check 48 = .ok (.istore 4, 2) := by decide +kernel
theorem dX10_check_50 : decode cX10_check 50 = .ok (.iload 4, 2) := by decide +kernel
theorem dX10_check_52 : decode cX10_check 52 = .ok (.iload_n 2, 1) := by decide +kernel
theorem dX10_check_53 : decode cX10_check 53 = .ok (.if_icmp .ge 42, 3) := by decide +kernel
theorem dX10_check_56 : decode cX10_check 56 = .ok (.iload 4, 2) := by decide +kernel
theorem dX10_check_58 : decode cX10_check 58 = .ok (.iload_n 3, 1) := by decide +kernel
theorem dX10_check_59 : decode cX10_check 59 = .ok (.if_icmp .ge 36, 3) := by decide +kernel
theorem dX10_check_62 : decode cX10_check 62 = .ok (.aload_n 0, 1) := by decide +kernel
theorem dX10_check_63 : decode cX10_check 63 = .ok (.getfield 10, 3) := by decide +kernel
theorem dX10_check_66 : decode cX10_check 66 = .ok (.iload 4, 2) := by decide +kernel
theorem dX10_check_68 : decode cX10_check 68 = .ok (.invokevirtual 338, 3) := by decide +kernel
theorem dX10_check_71 : decode cX10_check 71 = .ok (.aload_n 0, 1) := by decide +kernel
theorem dX10_check_72 : decode cX10_check 72 = .ok (.getfield 19, 3) := by decide +kernel
theorem dX10_check_75 : decode cX10_check 75 = .ok (.getfield 341, 3) := by decide +kernel
theorem dX10_check_78 : decode cX10_check 78 = .ok (.iload_n 1, 1) := by decide +kernel
theorem dX10_check_79 : decode cX10_check 79 = .ok (.aaload, 1) := by decide +kernel
theorem dX10_check_80 : decode cX10_check 80 = .ok (.iload 4, 2) := by decide +kernel
theorem dX10_check_82 : decode cX10_check 82 = .ok (.iaload, 1) := by decide +kernel
theorem dX10_check_83 : decode cX10_check 83 = .ok (.if_icmp .eq 6, 3) := by decide +kernel
theorem dX10_check_86 : decode cX10_check 86 = .ok (.iload 4, 2) := by decide +kernel
theorem dX10_check_88 : decode cX10_check 88 = .ok (.ireturn, 1) := by decide +kernel
theorem dX10_check_89 : decode cX10_check 89 = .ok (.iinc 4 1, 3) := by decide +kernel
theorem dX10_check_92 : decode cX10_check 92 = .ok (.goto (-42), 3) := by decide +kernel
theorem dX10_check_95 : decode cX10_check 95 = .ok (.iload_n 2, 1) := by decide +kernel
theorem dX10_check_96 : decode cX10_check 96 = .ok (.iload_n 3, 1) := by decide +kernel
theorem dX10_check_97 : decode cX10_check 97 = .ok (.if_icmp .ne 7, 3) := by decide +kernel
theorem dX10_check_100 : decode cX10_check 100 = .ok (.iconst (-1), 1) := by decide +kernel
theorem dX10_check_101 : decode cX10_check 101 = .ok (.goto 8, 3) := by decide +kernel
theorem dX10_check_104 : decode cX10_check 104 = .ok (.iload_n 2, 1) := by decide +kernel
theorem dX10_check_105 : decode cX10_check 105 = .ok (.iload_n 3, 1) := by decide +kernel
theorem dX10_check_106 : decode cX10_check 106 = .ok (.invokestatic 345, 3) := by decide +kernel
theorem dX10_check_109 : decode cX10_check 109 = .ok (.ireturn, 1) := by decide +kernel
theorem dX10_clear_0 : decode cX10_clear 0 = .ok (.iload_n 1, 1) := by decide +kernel
theorem dX10_clear_1 : decode cX10_clear 1 = .ok (.iconst 1, 1) := by decide +kernel
theorem dX10_clear_2 : decode cX10_clear 2 = .ok (.if_icmp .lt 33, 3) := by decide +kernel
theorem dX10_clear_5 : decode cX10_clear 5 = .ok (.iload_n 1, 1) := by decide +kernel
theorem dX10_clear_6 : decode cX10_clear 6 = .ok (.bipush 14, 2) := by decide +kernel
theorem dX10_clear_8 : decode cX10_clear 8 = .ok (.if_icmp .gt 27, 3) := by decide +kernel
theorem dX10_clear_11 : decode cX10_clear 11 = .ok (.iload_n 2, 1) := by decide +kernel
theorem dX10_clear_12 : decode cX10_clear 12 = .ok (.iconst 1, 1) := by decide +kernel
theorem dX10_clear_13 : decode cX10_clear 13 = .ok (.if_icmp .lt 22, 3) := by decide +kernel
theorem dX10_clear_16 : decode cX10_clear 16 = .ok (.iload_n 2, 1) := by decide +kernel
theorem dX10_clear_17 : decode cX10_clear 17 = .ok (.bipush 9, 2) := by decide +kernel
theorem dX10_clear_19 : decode cX10_clear 19 = .ok (.if_icmp .gt 16, 3) := by decide +kernel
theorem dX10_clear_22 : decode cX10_clear 22 = .ok (.iload_n 3, 1) := by decide +kernel
theorem dX10_clear_23 : decode cX10_clear 23 = .ok (.ifCond .lt 12, 3) := by decide +kernel
theorem dX10_clear_26 : decode cX10_clear 26 = .ok (.iload_n 3, 1) := by decide +kernel
theorem dX10_clear_27 : decode cX10_clear 27 = .ok (.iconst 1, 1) := by decide +kernel
theorem dX10_clear_28 : decode cX10_clear 28 = .ok (.if_icmp .gt 7, 3) := by decide +kernel
theorem dX10_clear_31 : decode cX10_clear 31 = .ok (.iconst 1, 1) := by decide +kernel
theorem dX10_clear_32 : decode cX10_clear 32 = .ok (.goto 4, 3) := by decide +kernel
theorem dX10_clear_35 : decode cX10_clear 35 = .ok (.iconst 0, 1) := by decide +kernel
theorem dX10_clear_36 : decode cX10_clear 36 = .ok (.istore 4, 2) := by decide +kernel
theorem dX10_clear_38 : decode cX10_clear 38 = .ok (.iload 4, 2) := by decide +kernel
theorem dX10_clear_40 : decode cX10_clear 40 = .ok (.ifCond .eq 14, 3) := by decide +kernel
theorem dX10_clear_43 : decode cX10_clear 43 = .ok (.aload_n 0, 1) := by decide +kernel
theorem dX10_clear_44 : decode cX10_clear 44 = .ok (.getfield 10, 3) := by decide +kernel
theorem dX10_clear_47 : decode cX10_clear 47 = .ok (.iload_n 1, 1) := by decide +kernel
theorem dX10_clear_48 : decode cX10_clear 48 = .ok (.invokevirtual 113, 3) := by decide +kernel
theorem dX10_clear_51 : decode cX10_clear 51 = .ok (.ifCond .ne 5, 3) := by decide +kernel
theorem dX10_clear_54 : decode cX10_clear 54 = .ok (.iconst (-1), 1) := by decide +kernel
theorem dX10_clear_55 : decode cX10_clear 55 = .ok (.ireturn, 1) := by decide +kernel
theorem dX10_clear_56 : decode cX10_clear 56 = .ok (.aload_n 0, 1) := by decide +kernel
theorem dX10_clear_57 : decode cX10_clear 57 = .ok (.getfield 80, 3) := by decide +kernel
theorem dX10_clear_60 : decode cX10_clear 60 = .ok (.iload_n 1, 1) := by decide +kernel
theorem dX10_clear_61 : decode cX10_clear 61 = .ok (.invokevirtual 267, 3) := by decide +kernel
theorem dX10_clear_64 : decode cX10_clear 64 = .ok (.ifCond .ne 6, 3) := by decide +kernel
theorem dX10_clear_67 : decode cX10_clear 67 = .ok (.bipush (-3), 2) := by decide +kernel
theorem dX10_clear_69 : decode cX10_clear 69 = .ok (.ireturn, 1) := by decide +kernel
theorem dX10_clear_70 : decode cX10_clear 70 = .ok (.aload_n 0, 1) := by decide +kernel
theorem dX10_clear_71 : decode cX10_clear 71 = .ok (.getfield 80, 3) := by decide +kernel
theorem dX10_clear_74 : decode cX10_clear 74 = .ok (.iload_n 2, 1) := by decide +kernel
theorem dX10_clear_75 : decode cX10_clear 75 = .ok (.invokevirtual 301, 3) := by decide +kernel
theorem dX10_clear_78 : decode cX10_clear 78 = .ok (.istore 5, 2) := by decide +kernel
theorem dX10_clear_80 : decode cX10_clear 80 = .ok (.iload_n 3, 1) := by decide +kernel
theorem dX10_clear_81 : decode cX10_clear 81 = .ok (.ifCond .ne 11, 3) := by decide +kernel
theorem dX10_clear_84 : decode cX10_clear 84 = .ok (.iload 5, 2) := by decide +kernel
theorem dX10_clear_86 : decode cX10_clear 86 = .ok (.invokestatic 304, 3) := by decide +kernel
theorem dX10_clear_89 : decode cX10_clear 89 = .ok (.goto 5, 3) := by decide +kernel
theorem dX10_clear_92 : decode cX10_clear 92 = .ok (.iload 5, 2) := by decide +kernel
theorem dX10_clear_94 : decode cX10_clear 94 = .ok (.ireturn, 1) := by decide +kernel
theorem dX10_count_0 : decode cX10_count 0 = .ok (.iload_n 1, 1) := by decide +kernel
theorem dX10_count_1 : decode cX10_count 1 = .ok (.tableswitch 87 0 5 #[39, 47, 58, 66, 74, 79], 39) := by decide +kernel
theorem dX10_count_40 : decode cX10_count 40 = .ok (.aload_n 0, 1) := by decide +kernel
theorem dX10_count_41 : decode cX10_count 41 = .ok (.getfield 19, 3) := by decide +kernel
theorem dX10_count_44 : decode cX10_count 44 = .ok (.getfield 112, 3) := by decide +kernel
theorem dX10_count_47 : decode cX10_count 47 = .ok (.ireturn, 1) := by decide +kernel
theorem dX10_count_48 : decode cX10_count 48 = .ok (.aload_n 0, 1) := by decide +kernel
theorem dX10_count_49 : decode cX10_count 49 = .ok (.getfield 19, 3) := by decide +kernel
theorem dX10_count_52 : decode cX10_count 52 = .ok (.getfield 232, 3) := by decide +kernel
theorem dX10_count_55 : decode cX10_count 55 = .ok (.invokestatic 328, 3) := by decide +kernel
theorem dX10_count_58 : decode cX10_count 58 = .ok (.ireturn, 1) := by decide +kernel
theorem dX10_count_59 : decode cX10_count 59 = .ok (.aload_n 0, 1) := by decide +kernel
theorem dX10_count_60 : decode cX10_count 60 = .ok (.getfield 26, 3) := by decide +kernel
theorem dX10_count_63 : decode cX10_count 63 = .ok (.getfield 164, 3) := by decide +kernel
theorem dX10_count_66 : decode cX10_count 66 = .ok (.ireturn, 1) := by decide +kernel
theorem dX10_count_67 : decode cX10_count 67 = .ok (.aload_n 0, 1) := by decide +kernel
theorem dX10_count_68 : decode cX10_count 68 = .ok (.getfield 10, 3) := by decide +kernel
theorem dX10_count_71 : decode cX10_count 71 = .ok (.getfield 105, 3) := by decide +kernel
theorem dX10_count_74 : decode cX10_count 74 = .ok (.ireturn, 1) := by decide +kernel
theorem dX10_count_75 : decode cX10_count 75 = .ok (.aload_n 0, 1) := by decide +kernel
theorem dX10_count_76 : decode cX10_count 76 = .ok (.getfield 93, 3) := by decide +kernel
theorem dX10_count_79 : decode cX10_count 79 = .ok (.ireturn, 1) := by decide +kernel
theorem dX10_count_80 : decode cX10_count 80 = .ok (.aload_n 0, 1) := by decide +kernel
theorem dX10_count_81 : decode cX10_count 81 = .ok (.getfield 19, 3) := by decide +kernel
theorem dX10_count_84 : decode cX10_count 84 = .ok (.getfield 350, 3) := by decide +kernel
theorem dX10_count_87 : decode cX10_count 87 = .ok (.ireturn, 1) := by decide +kernel
theorem dX10_count_88 : decode cX10_count 88 = .ok (.aload_n 0, 1) := by decide +kernel
theorem dX10_count_89 : decode cX10_count 89 = .ok (.iload_n 1, 1) := by decide +kernel
theorem dX10_count_90 : decode cX10_count 90 = .ok (.invokevirtual 353, 3) := by decide +kernel
theorem dX10_count_93 : decode cX10_count 93 = .ok (.ireturn, 1) := by decide +kernel
theorem dX10_countOfWord_0 : decode cX10_countOfWord 0 = .ok (.iload_n 1, 1) := by decide +kernel
theorem dX10_countOfWord_1 : decode cX10_countOfWord 1 = .ok (.bipush 20, 2) := by decide +kernel
theorem dX10_countOfWord_3 : decode cX10_countOfWord 3 = .ok (.if_icmp .lt 40, 3) := by decide +kernel
theorem dX10_countOfWord_6 : decode cX10_countOfWord 6 = .ok (.iload_n 1, 1) := by decide +kernel
theorem dX10_countOfWord_7 : decode cX10_countOfWord 7 = .ok (.bipush 60, 2) := by decide +kernel
theorem dX10_countOfWord_9 : decode cX10_countOfWord 9 = .ok (.if_icmp .ge 34, 3) := by decide +kernel
theorem dX10_countOfWord_12 : decode cX10_countOfWord 12 = .ok (.aload_n 0, 1) := by decide +kernel
theorem dX10_countOfWord_13 : decode cX10_countOfWord 13 = .ok (.getfield 19, 3) := by decide +kernel
theorem dX10_countOfWord_16 : decode cX10_countOfWord 16 = .ok (.iload_n 1, 1) := by decide +kernel
theorem dX10_countOfWord_17 : decode cX10_countOfWord 17 = .ok (.bipush 20, 2) := by decide +kernel
theorem dX10_countOfWord_19 : decode cX10_countOfWord 19 = .ok (.isub, 1) := by decide +kernel
theorem dX10_countOfWord_20 : decode cX10_countOfWord 20 = .ok (.invokevirtual 134, 3) := by decide +kernel
theorem dX10_countOfWord_23 : decode cX10_countOfWord 23 = .ok (.ifCond .eq 18, 3) := by decide +kernel
theorem dX10_countOfWord_26 : decode cX10_countOfWord 26 = .ok (.aload_n 0, 1) := by decide +kernel
theorem dX10_countOfWord_27 : decode cX10_countOfWord 27 = .ok (.getfield 19, 3) := by decide +kernel
theorem dX10_countOfWord_30 : decode cX10_countOfWord 30 = .ok (.getfield 335, 3) := by decide +kernel
theorem dX10_countOfWord_33 : decode cX10_countOfWord 33 = .ok (.iload_n 1, 1) := by decide +kernel
theorem dX10_countOfWord_34 : decode cX10_countOfWord 34 = .ok (.bipush 20, 2) := by decide +kernel
theorem dX10_countOfWord_36 : decode cX10_countOfWord 36 = .ok (.isub, 1) := by decide +kernel
theorem dX10_countOfWord_37 : decode cX10_countOfWord 37 = .ok (.iaload, 1) := by decide +kernel
theorem dX10_countOfWord_38 : decode cX10_countOfWord 38 = .ok (.goto 4, 3) := by decide +kernel
theorem dX10_countOfWord_41 : decode cX10_countOfWord 41 = .ok (.iconst (-1), 1) := by decide +kernel
theorem dX10_countOfWord_42 : decode cX10_countOfWord 42 = .ok (.ireturn, 1) := by decide +kernel
theorem dX10_countOfWord_43 : decode cX10_countOfWord 43 = .ok (.iload_n 1, 1) := by decide +kernel
theorem dX10_countOfWord_44 : decode cX10_countOfWord 44 = .ok (.bipush 60, 2) := by decide +kernel
theorem dX10_countOfWord_46 : decode cX10_countOfWord 46 = .ok (.if_icmp .lt 40, 3) := by decide +kernel
theorem dX10_countOfWord_49 : decode cX10_countOfWord 49 = .ok (.iload_n 1, 1) := by decide +kernel
theorem dX10_countOfWord_50 : decode cX10_countOfWord 50 = .ok (.bipush 100, 2) := by decide +kernel
theorem dX10_countOfWord_52 : decode cX10_countOfWord 52 = .ok (.if_icmp .ge 34, 3) := by decide +kernel
theorem dX10_countOfWord_55 : decode cX10_countOfWord 55 = .ok (.aload_n 0, 1) := by decide +kernel
theorem dX10_countOfWord_56 : decode cX10_countOfWord 56 = .ok (.getfield 19, 3) := by decide +kernel
theorem dX10_countOfWord_59 : decode cX10_countOfWord 59 = .ok (.iload_n 1, 1) := by decide +kernel
theorem dX10_countOfWord_60 : decode cX10_countOfWord 60 = .ok (.bipush 60, 2) := by decide +kernel
theorem dX10_countOfWord_62 : decode cX10_countOfWord 62 = .ok (.isub, 1) := by decide +kernel
theorem dX10_countOfWord_63 : decode cX10_countOfWord 63 = .ok (.invokevirtual 134, 3) := by decide +kernel
theorem dX10_countOfWord_66 : decode cX10_countOfWord 66 = .ok (.ifCond .eq 18, 3) := by decide +kernel
theorem dX10_countOfWord_69 : decode cX10_countOfWord 69 = .ok (.aload_n 0, 1) := by decide +kernel
theorem dX10_countOfWord_70 : decode cX10_countOfWord 70 = .ok (.getfield 19, 3) := by decide +kernel
theorem dX10_countOfWord_73 : decode cX10_countOfWord 73 = .ok (.getfield 356, 3) := by decide +kernel
theorem dX10_countOfWord_76 : decode cX10_countOfWord 76 = .ok (.iload_n 1, 1) := by decide +kernel
theorem dX10_countOfWord_77 : decode cX10_countOfWord 77 = .ok (.bipush 60, 2) := by decide +kernel
theorem dX10_countOfWord_79 : decode cX10_countOfWord 79 = .ok (.isub, 1) := by decide +kernel
theorem dX10_countOfWord_80 : decode cX10_countOfWord 80 = .ok (.iaload, 1) := by decide +kernel
theorem dX10_countOfWord_81 : decode cX10_countOfWord 81 = .ok (.goto 4, 3) := by decide +kernel
theorem dX10_countOfWord_84 : decode cX10_countOfWord 84 = .ok (.iconst (-1), 1) := by decide +kernel
theorem dX10_countOfWord_85 : decode cX10_countOfWord 85 = .ok (.ireturn, 1) := by decide +kernel
theorem dX10_countOfWord_86 : decode cX10_countOfWord 86 = .ok (.iload_n 1, 1) := by decide +kernel
theorem dX10_countOfWord_87 : decode cX10_countOfWord 87 = .ok (.bipush 100, 2) := by decide +kernel
theorem dX10_countOfWord_89 : decode cX10_countOfWord 89 = .ok (.if_icmp .lt 17, 3) := by decide +kernel
theorem dX10_countOfWord_92 : decode cX10_countOfWord 92 = .ok (.aload_n 0, 1) := by decide +kernel
theorem dX10_countOfWord_93 : decode cX10_countOfWord 93 = .ok (.getfield 19, 3) := by decide +kernel
theorem dX10_countOfWord_96 : decode cX10_countOfWord 96 = .ok (.iload_n 1, 1) := by decide +kernel
theorem dX10_countOfWord_97 : decode cX10_countOfWord 97 = .ok (.bipush 100, 2) := by decide +kernel
theorem dX10_countOfWord_99 : decode cX10_countOfWord 99 = .ok (.isub, 1) := by decide +kernel
theorem dX10_countOfWord_100 : decode cX10_countOfWord 100 = .ok (.invokevirtual 134, 3) := by decide +kernel
theorem dX10_countOfWord_103 : decode cX10_countOfWord 103 = .ok (.ifCond .ne 5, 3) := by decide +kernel
theorem dX10_countOfWord_106 : decode cX10_countOfWord 106 = .ok (.iconst (-1), 1) := by decide +kernel
theorem dX10_countOfWord_107 : decode cX10_countOfWord 107 = .ok (.ireturn, 1) := by decide +kernel
theorem dX10_countOfWord_108 : decode cX10_countOfWord 108 = .ok (.aload_n 0, 1) := by decide +kernel
theorem dX10_countOfWord_109 : decode cX10_countOfWord 109 = .ok (.getfield 19, 3) := by decide +kernel
theorem dX10_countOfWord_112 : decode cX10_countOfWord 112 = .ok (.iload_n 1, 1) := by decide +kernel
theorem dX10_countOfWord_113 : decode cX10_countOfWord 113 = .ok (.bipush 100, 2) := by decide +kernel
theorem dX10_countOfWord_115 : decode cX10_countOfWord 115 = .ok (.isub, 1) := by decide +kernel
theorem dX10_countOfWord_116 : decode cX10_countOfWord 116 = .ok (.invokevirtual 213, 3) := by decide +kernel
theorem dX10_countOfWord_119 : decode cX10_countOfWord 119 = .ok (.ifCond .eq 7, 3) := by decide +kernel
theorem dX10_countOfWord_122 : decode cX10_countOfWord 122 = .ok (.iconst 1, 1) := by decide +kernel
theorem dX10_countOfWord_123 : decode cX10_countOfWord 123 = .ok (.goto 4, 3) := by decide +kernel
theorem dX10_countOfWord_126 : decode cX10_countOfWord 126 = .ok (.iconst 0, 1) := by decide +kernel
theorem dX10_countOfWord_127 : decode cX10_countOfWord 127 = .ok (.ireturn, 1) := by decide +kernel
theorem dX10_draw_0 : decode cX10_draw 0 = .ok (.aload_n 0, 1) := by decide +kernel
theorem dX10_draw_1 : decode cX10_draw 1 = .ok (.getfield 19, 3) := by decide +kernel
theorem dX10_draw_4 : decode cX10_draw 4 = .ok (.iload_n 1, 1) := by decide +kernel
theorem dX10_draw_5 : decode cX10_draw 5 = .ok (.invokevirtual 134, 3) := by decide +kernel
theorem dX10_draw_8 : decode cX10_draw 8 = .ok (.ifCond .eq 23, 3) := by decide +kernel
theorem dX10_draw_11 : decode cX10_draw 11 = .ok (.iload_n 2, 1) := by decide +kernel
theorem dX10_draw_12 : decode cX10_draw 12 = .ok (.iconst 1, 1) := by decide +kernel
theorem dX10_draw_13 : decode cX10_draw 13 = .ok (.if_icmp .lt 18, 3) := by decide +kernel
theorem dX10_draw_16 : decode cX10_draw 16 = .ok (.iload_n 2, 1) := by decide +kernel
theorem dX10_draw_17 : decode cX10_draw 17 = .ok (.bipush 60, 2) := by decide +kernel
theorem dX10_draw_19 : decode cX10_draw 19 = .ok (.if_icmp .gt 12, 3) := by decide +kernel
theorem dX10_draw_22 : decode cX10_draw 22 = .ok (.iload_n 3, 1) := by decide +kernel
theorem dX10_draw_23 : decode cX10_draw 23 = .ok (.ifCond .lt 8, 3) := by decide +kernel
theorem dX10_draw_26 : decode cX10_draw 26 = .ok (.iload_n 3, 1) := by decide +kernel
theorem dX10_draw_27 : decode cX10_draw 27 = .ok (.iconst 1, 1) := by decide +kernel
theorem dX10_draw_28 : decode cX10_draw 28 = .ok (.if_icmp .le 5, 3) := by decide +kernel
theorem dX10_draw_31 : decode cX10_draw 31 = .ok (.iconst (-1), 1) := by decide +kernel
theorem dX10_draw_32 : decode cX10_draw 32 = .ok (.ireturn, 1) := by decide +kernel
theorem dX10_draw_33 : decode cX10_draw 33 = .ok (.aload_n 0, 1) := by decide +kernel
theorem dX10_draw_34 : decode cX10_draw 34 = .ok (.getfield 19, 3) := by decide +kernel
theorem dX10_draw_37 : decode cX10_draw 37 = .ok (.iload_n 1, 1) := by decide +kernel
theorem dX10_draw_38 : decode cX10_draw 38 = .ok (.invokevirtual 213, 3) := by decide +kernel
theorem dX10_draw_41 : decode cX10_draw 41 = .ok (.ifCond .ne 6, 3) := by decide +kernel
theorem dX10_draw_44 : decode cX10_draw 44 = .ok (.bipush (-2), 2) := by decide +kernel
theorem dX10_draw_46 : decode cX10_draw 46 = .ok (.ireturn, 1) := by decide +kernel
theorem dX10_draw_47 : decode cX10_draw 47 = .ok (.aload_n 0, 1) := by decide +kernel
theorem dX10_draw_48 : decode cX10_draw 48 = .ok (.getfield 44, 3) := by decide +kernel
theorem dX10_draw_51 : decode cX10_draw 51 = .ok (.invokevirtual 171, 3) := by decide +kernel
theorem dX10_draw_54 : decode cX10_draw 54 = .ok (.iload_n 1, 1) := by decide +kernel
theorem dX10_draw_55 : decode cX10_draw 55 = .ok (.istore 4, 2) := by decide +kernel
theorem dX10_draw_57 : decode cX10_draw 57 = .ok (.lconst 1, 1) := by decide +kernel
theorem dX10_draw_58 : decode cX10_draw 58 = .ok (.iload_n 1, 1) := by decide +kernel
theorem dX10_draw_59 : decode cX10_draw 59 = .ok (.lshl, 1) := by decide +kernel
theorem dX10_draw_60 : decode cX10_draw 60 = .ok (.lstore 5, 2) := by decide +kernel
theorem dX10_draw_62 : decode cX10_draw 62 = .ok (.iconst 0, 1) := by decide +kernel
theorem dX10_draw_63 : decode cX10_draw 63 = .ok (.istore 7, 2) := by decide +kernel
theorem dX10_draw_65 : decode cX10_draw 65 = .ok (.iload 7, 2) := by decide +kernel
theorem dX10_draw_67 : decode cX10_draw 67 = .ok (.iload_n 2, 1) := by decide +kernel
theorem dX10_draw_68 : decode cX10_draw 68 = .ok (.if_icmp .ge 53, 3) := by decide +kernel
theorem dX10_draw_71 : decode cX10_draw 71 = .ok (.aload_n 0, 1) := by decide +kernel
theorem dX10_draw_72 : decode cX10_draw 72 = .ok (.sipush 25173, 3) := by decide +kernel
theorem dX10_draw_75 : decode cX10_draw 75 = .ok (.aload_n 0, 1) := by decide +kernel
theorem dX10_draw_76 : decode cX10_draw 76 = .ok (.getfield 93, 3) := by decide +kernel
theorem dX10_draw_79 : decode cX10_draw 79 = .ok (.imul, 1) := by decide +kernel
theorem dX10_draw_80 : decode cX10_draw 80 = .ok (.sipush 13849, 3) := by decide +kernel
theorem dX10_draw_83 : decode cX10_draw 83 = .ok (.iadd, 1) := by decide +kernel
theorem dX10_draw_84 : decode cX10_draw 84 = .ok (.ldc_w 324, 3) := by decide +kernel
theorem dX10_draw_87 : decode cX10_draw 87 = .ok (.iand, 1) := by decide +kernel
theorem dX10_draw_88 : decode cX10_draw 88 = .ok (.putfield 93, 3) := by decide +kernel
theorem dX10_draw_91 : decode cX10_draw 91 = .ok (.aload_n 0, 1) := by decide +kernel
theorem dX10_draw_92 : decode cX10_draw 92 = .ok (.getfield 44, 3) := by decide +kernel
theorem dX10_draw_95 : decode cX10_draw 95 = .ok (.iload 4, 2) := by decide +kernel
theorem dX10_draw_97 : decode cX10_draw 97 = .ok (.aload_n 0, 1) := by decide +kernel
theorem dX10_draw_98 : decode cX10_draw 98 = .ok (.getfield 93, 3) := by decide +kernel
theorem dX10_draw_101 : decode cX10_draw 101 = .ok (.invokevirtual 325, 3) := by decide +kernel
theorem dX10_draw_104 : decode cX10_draw 104 = .ok (.istore 4, 2) := by decide +kernel
theorem dX10_draw_106 : decode cX10_draw 106 = .ok (.lload 5, 2) := by decide +kernel
theorem dX10_draw_108 : decode cX10_draw 108 = .ok (.lconst 1, 1) := by decide +kernel
theorem dX10_draw_109 : decode cX10_draw 109 = .ok (.iload 4, 2) := by decide +kernel
theorem dX10_draw_111 : decode cX10_draw 111 = .ok (.lshl, 1) := by decide +kernel
theorem dX10_draw_112 : decode cX10_draw 112 = .ok (.lor, 1) := by decide +kernel
theorem dX10_draw_113 : decode cX10_draw 113 = .ok (.lstore 5, 2) := by decide +kernel
theorem dX10_draw_115 : decode cX10_draw 115 = .ok (.iinc 7 1, 3) := by decide +kernel
theorem dX10_draw_118 : decode cX10_draw 118 = .ok (.goto (-53), 3) := by decide +kernel
theorem dX10_draw_121 : decode cX10_draw 121 = .ok (.iload_n 3, 1) := by decide +kernel
theorem dX10_draw_122 : decode cX10_draw 122 = .ok (.ifCond .ne 8, 3) := by decide +kernel
theorem dX10_draw_125 : decode cX10_draw 125 = .ok (.iload 4, 2) := by decide +kernel
theorem dX10_draw_127 : decode cX10_draw 127 = .ok (.goto 8, 3) := by decide +kernel
theorem dX10_draw_130 : decode cX10_draw 130 = .ok (.lload 5, 2) := by decide +kernel
theorem dX10_draw_132 : decode cX10_draw 132 = .ok (.invokestatic 328, 3) := by decide +kernel
theorem dX10_draw_135 : decode cX10_draw 135 = .ok (.ireturn, 1) := by decide +kernel
theorem dX10_far_0 : decode cX10_far 0 = .ok (.iload_n 1, 1) := by decide +kernel
theorem dX10_far_1 : decode cX10_far 1 = .ok (.ifCond .lt 8, 3) := by decide +kernel
theorem dX10_far_4 : decode cX10_far 4 = .ok (.iload_n 1, 1) := by decide +kernel
theorem dX10_far_5 : decode cX10_far 5 = .ok (.iconst 2, 1) := by decide +kernel
theorem dX10_far_6 : decode cX10_far 6 = .ok (.if_icmp .le 5, 3) := by decide +kernel
theorem dX10_far_9 : decode cX10_far 9 = .ok (.iconst (-1), 1) := by decide +kernel
theorem dX10_far_10 : decode cX10_far 10 = .ok (.ireturn, 1) := by decide +kernel
theorem dX10_far_11 : decode cX10_far 11 = .ok (.aload_n 0, 1) := by decide +kernel
theorem dX10_far_12 : decode cX10_far 12 = .ok (.getfield 44, 3) := by decide +kernel
theorem dX10_far_15 : decode cX10_far 15 = .ok (.invokevirtual 171, 3) := by decide +kernel
theorem dX10_far_18 : decode cX10_far 18 = .ok (.aload_n 0, 1) := by decide +kernel
theorem dX10_far_19 : decode cX10_far 19 = .ok (.getfield 53, 3) := by decide +kernel
theorem dX10_far_22 : decode cX10_far 22 = .ok (.invokevirtual 184, 3) := by decide +kernel
theorem dX10_far_25 : decode cX10_far 25 = .ok (.aload_n 0, 1) := by decide +kernel
theorem dX10_far_26 : decode cX10_far 26 = .ok (.getfield 53, 3) := by decide +kernel
theorem dX10_far_29 : decode cX10_far 29 = .ok (.getfield 223, 3) := by decide +kernel
theorem dX10_far_32 : decode cX10_far 32 = .ok (.iconst (-1), 1) := by decide +kernel
theorem dX10_far_33 : decode cX10_far 33 = .ok (.if_icmp .ne 6, 3) := by decide +kernel
theorem dX10_far_36 : decode cX10_far 36 = .ok (.bipush (-2), 2) := by decide +kernel
theorem dX10_far_38 : decode cX10_far 38 = .ok (.ireturn, 1) := by decide +kernel
theorem dX10_far_39 : decode cX10_far 39 = .ok (.iload_n 1, 1) := by decide +kernel
theorem dX10_far_40 : decode cX10_far 40 = .ok (.ifCond .ne 11, 3) := by decide +kernel
theorem dX10_far_43 : decode cX10_far 43 = .ok (.aload_n 0, 1) := by decide +kernel
theorem dX10_far_44 : decode cX10_far 44 = .ok (.getfield 53, 3) := by decide +kernel
theorem dX10_far_47 : decode cX10_far 47 = .ok (.getfield 226, 3) := by decide +kernel
theorem dX10_far_50 : decode cX10_far 50 = .ok (.ireturn, 1) := by decide +kernel
theorem dX10_far_51 : decode cX10_far 51 = .ok (.iload_n 1, 1) := by decide +kernel
theorem dX10_far_52 : decode cX10_far 52 = .ok (.iconst 1, 1) := by decide +kernel
theorem dX10_far_53 : decode cX10_far 53 = .ok (.if_icmp .ne 13, 3) := by decide +kernel
theorem dX10_far_56 : decode cX10_far 56 = .ok (.aload_n 0, 1) := by decide +kernel
theorem dX10_far_57 : decode cX10_far 57 = .ok (.getfield 53, 3) := by decide +kernel
theorem dX10_far_60 : decode cX10_far 60 = .ok (.getfield 223, 3) := by decide +kernel
theorem dX10_far_63 : decode cX10_far 63 = .ok (.goto 10, 3) := by decide +kernel
theorem dX10_far_66 : decode cX10_far 66 = .ok (.aload_n 0, 1) := by decide +kernel
theorem dX10_far_67 : decode cX10_far 67 = .ok (.getfield 53, 3) := by decide +kernel
theorem dX10_far_70 : decode cX10_far 70 = .ok (.getfield 229, 3) := by decide +kernel
theorem dX10_far_73 : decode cX10_far 73 = .ok (.ireturn, 1) := by decide +kernel
theorem dX10_farBy_0 : decode cX10_farBy 0 = .ok (.aload_n 0, 1) := by decide +kernel
theorem dX10_farBy_1 : decode cX10_farBy 1 = .ok (.iload_n 1, 1) := by decide +kernel
theorem dX10_farBy_2 : decode cX10_farBy 2 = .ok (.iload_n 2, 1) := by decide +kernel
theorem dX10_farBy_3 : decode cX10_farBy 3 = .ok (.invokevirtual 167, 3) := by decide +kernel
theorem dX10_farBy_6 : decode cX10_farBy 6 = .ok (.ifCond .eq 15, 3) := by decide +kernel
theorem dX10_farBy_9 : decode cX10_farBy 9 = .ok (.aload_n 0, 1) := by decide +kernel
theorem dX10_farBy_10 : decode cX10_farBy 10 = .ok (.getfield 71, 3) := by decide +kernel
theorem dX10_farBy_13 : decode cX10_farBy 13 = .ok (.iload_n 1, 1) := by decide +kernel
theorem dX10_farBy_14 : decode cX10_farBy 14 = .ok (.iload_n 2, 1) := by decide +kernel
theorem dX10_farBy_15 : decode cX10_farBy 15 = .ok (.invokevirtual 286, 3) := by decide +kernel
theorem dX10_farBy_18 : decode cX10_farBy 18 = .ok (.goto 4, 3) := by decide +kernel
theorem dX10_farBy_21 : decode cX10_farBy 21 = .ok (.iconst (-1), 1) := by decide +kernel
theorem dX10_farBy_22 : decode cX10_farBy 22 = .ok (.ireturn, 1) := by decide +kernel
theorem dX10_feed_0 : decode cX10_feed 0 = .ok (.aload_n 0, 1) := by decide +kernel
theorem dX10_feed_1 : decode cX10_feed 1 = .ok (.getfield 10, 3) := by decide +kernel
theorem dX10_feed_4 : decode cX10_feed 4 = .ok (.invokevirtual 97, 3) := by decide +kernel
theorem dX10_feed_7 : decode cX10_feed 7 = .ok (.ifCond .ne 5, 3) := by decide +kernel
theorem dX10_feed_10 : decode cX10_feed 10 = .ok (.iconst (-1), 1) := by decide +kernel
theorem dX10_feed_11 : decode cX10_feed 11 = .ok (.ireturn, 1) := by decide +kernel
theorem dX10_feed_12 : decode cX10_feed 12 = .ok (.aload_n 0, 1) := by decide +kernel
theorem dX10_feed_13 : decode cX10_feed 13 = .ok (.getfield 10, 3) := by decide +kernel
theorem dX10_feed_16 : decode cX10_feed 16 = .ok (.iload_n 1, 1) := by decide +kernel
theorem dX10_feed_17 : decode cX10_feed 17 = .ok (.invokevirtual 101, 3) := by decide +kernel
theorem dX10_feed_20 : decode cX10_feed 20 = .ok (.aload_n 0, 1) := by decide +kernel
theorem dX10_feed_21 : decode cX10_feed 21 = .ok (.getfield 10, 3) := by decide +kernel
theorem dX10_feed_24 : decode cX10_feed 24 = .ok (.iload_n 2, 1) := by decide +kernel
theorem dX10_feed_25 : decode cX10_feed 25 = .ok (.invokevirtual 101, 3) := by decide +kernel
theorem dX10_feed_28 : decode cX10_feed 28 = .ok (.aload_n 0, 1) := by decide +kernel
theorem dX10_feed_29 : decode cX10_feed 29 = .ok (.getfield 10, 3) := by decide +kernel
theorem dX10_feed_32 : decode cX10_feed 32 = .ok (.iload_n 3, 1) := by decide +kernel
theorem dX10_feed_33 : decode cX10_feed 33 = .ok (.invokevirtual 101, 3) := by decide +kernel
theorem dX10_feed_36 : decode cX10_feed 36 = .ok (.aload_n 0, 1) := by decide +kernel
theorem dX10_feed_37 : decode cX10_feed 37 = .ok (.getfield 10, 3) := by decide +kernel
theorem dX10_feed_40 : decode cX10_feed 40 = .ok (.iload 4, 2) := by decide +kernel
theorem dX10_feed_42 : decode cX10_feed 42 = .ok (.invokevirtual 101, 3) := by decide +kernel
theorem dX10_feed_45 : decode cX10_feed 45 = .ok (.aload_n 0, 1) := by decide +kernel
theorem dX10_feed_46 : decode cX10_feed 46 = .ok (.getfield 10, 3) := by decide +kernel
theorem dX10_feed_49 : decode cX10_feed 49 = .ok (.iload 5, 2) := by decide +kernel
theorem dX10_feed_51 : decode cX10_feed 51 = .ok (.invokevirtual 101, 3) := by decide +kernel
theorem dX10_feed_54 : decode cX10_feed 54 = .ok (.aload_n 0, 1) := by decide +kernel
theorem dX10_feed_55 : decode cX10_feed 55 = .ok (.getfield 10, 3) := by decide +kernel
theorem dX10_feed_58 : decode cX10_feed 58 = .ok (.getfield 105, 3) := by decide +kernel
theorem dX10_feed_61 : decode cX10_feed 61 = .ok (.ireturn, 1) := by decide +kernel
theorem dX10_game_0 : decode cX10_game 0 = .ok (.iload_n 1, 1) := by decide +kernel
theorem dX10_game_1 : decode cX10_game 1 = .ok (.iconst 2, 1) := by decide +kernel
theorem dX10_game_2 : decode cX10_game 2 = .ok (.if_icmp .lt 29, 3) := by decide +kernel
theorem dX10_game_5 : decode cX10_game 5 = .ok (.iload_n 1, 1) := by decide +kernel
theorem dX10_game_6 : decode cX10_game 6 = .ok (.bipush 12, 2) := by decide +kernel
theorem dX10_game_8 : decode cX10_game 8 = .ok (.if_icmp .gt 23, 3) := by decide +kernel
theorem dX10_game_11 : decode cX10_game 11 = .ok (.iload_n 2, 1) := by decide +kernel
theorem dX10_game_12 : decode cX10_game 12 = .ok (.ifCond .lt 19, 3) := by decide +kernel
theorem dX10_game_15 : decode cX10_game 15 = .ok (.iload_n 2, 1) := by decide +kernel
theorem dX10_game_16 : decode cX10_game 16 = .ok (.iconst 1, 1) := by decide +kernel
theorem dX10_game_17 : decode cX10_game 17 = .ok (.if_icmp .gt 14, 3) := by decide +kernel
theorem dX10_game_20 : decode cX10_game 20 = .ok (.aload_n 0, 1) := by decide +kernel
theorem dX10_game_21 : decode cX10_game 21 = .ok (.getfield 10, 3) := by decide +kernel
theorem dX10_game_24 : decode cX10_game 24 = .ok (.iload_n 1, 1) := by decide +kernel
theorem dX10_game_25 : decode cX10_game 25 = .ok (.invokevirtual 113, 3) := by decide +kernel
theorem dX10_game_28 : decode cX10_game 28 = .ok (.ifCond .ne 5, 3) := by decide +kernel
theorem dX10_game_31 : decode cX10_game 31 = .ok (.iconst (-1), 1) := by decide +kernel
theorem dX10_game_32 : decode cX10_game 32 = .ok (.ireturn, 1) := by decide +kernel
theorem dX10_game_33 : decode cX10_game 33 = .ok (.aload_n 0, 1) := by decide +kernel
theorem dX10_game_34 : decode cX10_game 34 = .ok (.getfield 80, 3) := by decide +kernel
theorem dX10_game_37 : decode cX10_game 37 = .ok (.iload_n 1, 1) := by decide +kernel
theorem dX10_game_38 : decode cX10_game 38 = .ok (.invokevirtual 267, 3) := by decide +kernel
theorem dX10_game_41 : decode cX10_game 41 = .ok (.ifCond .eq 13, 3) := by decide +kernel
theorem dX10_game_44 : decode cX10_game 44 = .ok (.aload_n 0, 1) := by decide +kernel
theorem dX10_game_45 : decode cX10_game 45 = .ok (.getfield 80, 3) := by decide +kernel
theorem dX10_game_48 : decode cX10_game 48 = .ok (.invokevirtual 270, 3) := by decide +kernel
theorem dX10_game_51 : decode cX10_game 51 = .ok (.ifCond .ne 6, 3) := by decide +kernel
theorem dX10_game_54 : decode cX10_game 54 = .ok (.bipush (-3), 2) := by decide +kernel
theorem dX10_game_56 : decode cX10_game 56 = .ok (.ireturn, 1) := by decide +kernel
theorem dX10_game_57 : decode cX10_game 57 = .ok (.aload_n 0, 1) := by decide +kernel
theorem dX10_game_58 : decode cX10_game 58 = .ok (.getfield 44, 3) := by decide +kernel
theorem dX10_game_61 : decode cX10_game 61 = .ok (.invokevirtual 171, 3) := by decide +kernel
theorem dX10_game_64 : decode cX10_game 64 = .ok (.aload_n 0, 1) := by decide +kernel
theorem dX10_game_65 : decode cX10_game 65 = .ok (.getfield 80, 3) := by decide +kernel
theorem dX10_game_68 : decode cX10_game 68 = .ok (.invokevirtual 282, 3) := by decide +kernel
theorem dX10_game_71 : decode cX10_game 71 = .ok (.istore_n 3, 1) := by decide +kernel
theorem dX10_game_72 : decode cX10_game 72 = .ok (.iload_n 2, 1) := by decide +kernel
theorem dX10_game_73 : decode cX10_game 73 = .ok (.iconst 1, 1) := by decide +kernel
theorem dX10_game_74 : decode cX10_game 74 = .ok (.if_icmp .ne 15, 3) := by decide +kernel
theorem dX10_game_77 : decode cX10_game 77 = .ok (.iload_n 3, 1) := by decide +kernel
theorem dX10_game_78 : decode cX10_game 78 = .ok (.iconst (-1), 1) := by decide +kernel
theorem dX10_game_79 : decode cX10_game 79 = .ok (.if_icmp .ne 8, 3) := by decide +kernel
theorem dX10_game_82 : decode cX10_game 82 = .ok (.bipush (-2), 2) := by decide +kernel
theorem dX10_game_84 : decode cX10_game 84 = .ok (.goto 4, 3) := by decide +kernel
theorem dX10_game_87 : decode cX10_game 87 = .ok (.iload_n 3, 1) := by decide +kernel
theorem dX10_game_88 : decode cX10_game 88 = .ok (.ireturn, 1) := by decide +kernel
theorem dX10_game_89 : decode cX10_game 89 = .ok (.iload_n 3, 1) := by decide +kernel
theorem dX10_game_90 : decode cX10_game 90 = .ok (.iconst (-1), 1) := by decide +kernel
theorem dX10_game_91 : decode cX10_game 91 = .ok (.if_icmp .ne 7, 3) := by decide +kernel
theorem dX10_game_94 : decode cX10_game 94 = .ok (.iconst 0, 1) := by decide +kernel
theorem dX10_game_95 : decode cX10_game 95 = .ok (.goto 4, 3) := by decide +kernel
theorem dX10_game_98 : decode cX10_game 98 = .ok (.iconst 1, 1) := by decide +kernel
theorem dX10_game_99 : decode cX10_game 99 = .ok (.ireturn, 1) := by decide +kernel
theorem dX10_heap_0 : decode cX10_heap 0 = .ok (.aload_n 0, 1) := by decide +kernel
theorem dX10_heap_1 : decode cX10_heap 1 = .ok (.getfield 19, 3) := by decide +kernel
theorem dX10_heap_4 : decode cX10_heap 4 = .ok (.iload_n 1, 1) := by decide +kernel
theorem dX10_heap_5 : decode cX10_heap 5 = .ok (.invokevirtual 134, 3) := by decide +kernel
theorem dX10_heap_8 : decode cX10_heap 8 = .ok (.ifCond .ne 5, 3) := by decide +kernel
theorem dX10_heap_11 : decode cX10_heap 11 = .ok (.iconst (-1), 1) := by decide +kernel
theorem dX10_heap_12 : decode cX10_heap 12 = .ok (.ireturn, 1) := by decide +kernel
theorem dX10_heap_13 : decode cX10_heap 13 = .ok (.aload_n 0, 1) := by decide +kernel
theorem dX10_heap_14 : decode cX10_heap 14 = .ok (.getfield 19, 3) := by decide +kernel
theorem dX10_heap_17 : decode cX10_heap 17 = .ok (.iload_n 1, 1) := by decide +kernel
theorem dX10_heap_18 : decode cX10_heap 18 = .ok (.invokevirtual 213, 3) := by decide +kernel
theorem dX10_heap_21 : decode cX10_heap 21 = .ok (.ifCond .ne 6, 3) := by decide +kernel
theorem dX10_heap_24 : decode cX10_heap 24 = .ok (.bipush (-2), 2) := by decide +kernel
theorem dX10_heap_26 : decode cX10_heap 26 = .ok (.ireturn, 1) := by decide +kernel
theorem dX10_heap_27 : decode cX10_heap 27 = .ok (.aload_n 0, 1) := by decide +kernel
theorem dX10_heap_28 : decode cX10_heap 28 = .ok (.getfield 44, 3) := by decide +kernel
theorem dX10_heap_31 : decode cX10_heap 31 = .ok (.invokevirtual 171, 3) := by decide +kernel
theorem dX10_heap_34 : decode cX10_heap 34 = .ok (.aload_n 0, 1) := by decide +kernel
theorem dX10_heap_35 : decode cX10_heap 35 = .ok (.getfield 53, 3) := by decide +kernel
theorem dX10_heap_38 : decode cX10_heap 38 = .ok (.invokevirtual 202, 3) := by decide +kernel
theorem dX10_heap_41 : decode cX10_heap 41 = .ok (.aload_n 0, 1) := by decide +kernel
theorem dX10_heap_42 : decode cX10_heap 42 = .ok (.getfield 53, 3) := by decide +kernel
theorem dX10_heap_45 : decode cX10_heap 45 = .ok (.getfield 216, 3) := by decide +kernel
theorem dX10_heap_48 : decode cX10_heap 48 = .ok (.iload_n 1, 1) := by decide +kernel
theorem dX10_heap_49 : decode cX10_heap 49 = .ok (.iaload, 1) := by decide +kernel
theorem dX10_heap_50 : decode cX10_heap 50 = .ok (.ireturn, 1) := by decide +kernel
theorem dX10_heaps_0 : decode cX10_heaps 0 = .ok (.aload_n 0, 1) := by decide +kernel
theorem dX10_heaps_1 : decode cX10_heaps 1 = .ok (.getfield 44, 3) := by decide +kernel
theorem dX10_heaps_4 : decode cX10_heaps 4 = .ok (.invokevirtual 171, 3) := by decide +kernel
theorem dX10_heaps_7 : decode cX10_heaps 7 = .ok (.aload_n 0, 1) := by decide +kernel
theorem dX10_heaps_8 : decode cX10_heaps 8 = .ok (.getfield 53, 3) := by decide +kernel
theorem dX10_heaps_11 : decode cX10_heaps 11 = .ok (.invokevirtual 202, 3) := by decide +kernel
theorem dX10_heaps_14 : decode cX10_heaps 14 = .ok (.aload_n 0, 1) := by decide +kernel
theorem dX10_heaps_15 : decode cX10_heaps 15 = .ok (.getfield 53, 3) := by decide +kernel
theorem dX10_heaps_18 : decode cX10_heaps 18 = .ok (.getfield 220, 3) := by decide +kernel
theorem dX10_heaps_21 : decode cX10_heaps 21 = .ok (.ireturn, 1) := by decide +kernel
theorem dX10_howMany_0 : decode cX10_howMany 0 = .ok (.aload_n 0, 1) := by decide +kernel
theorem dX10_howMany_1 : decode cX10_howMany 1 = .ok (.iload_n 1, 1) := by decide +kernel
theorem dX10_howMany_2 : decode cX10_howMany 2 = .ok (.iload_n 2, 1) := by decide +kernel
theorem dX10_howMany_3 : decode cX10_howMany 3 = .ok (.invokevirtual 167, 3) := by decide +kernel
theorem dX10_howMany_6 : decode cX10_howMany 6 = .ok (.ifCond .ne 7, 3) := by decide +kernel
theorem dX10_howMany_9 : decode cX10_howMany 9 = .ok (.ldc2_w 196, 3) := by decide +kernel
theorem dX10_howMany_12 : decode cX10_howMany 12 = .ok (.lreturn, 1) := by decide +kernel
theorem dX10_howMany_13 : decode cX10_howMany 13 = .ok (.aload_n 0, 1) := by decide +kernel
theorem dX10_howMany_14 : decode cX10_howMany 14 = .ok (.getfield 44, 3) := by decide +kernel
theorem dX10_howMany_17 : decode cX10_howMany 17 = .ok (.invokevirtual 171, 3) := by decide +kernel
theorem dX10_howMany_20 : decode cX10_howMany 20 = .ok (.aload_n 0, 1) := by decide +kernel
theorem dX10_howMany_21 : decode cX10_howMany 21 = .ok (.getfield 53, 3) := by decide +kernel
theorem dX10_howMany_24 : decode cX10_howMany 24 = .ok (.invokevirtual 184, 3) := by decide +kernel
theorem dX10_howMany_27 : decode cX10_howMany 27 = .ok (.aload_n 0, 1) := by decide +kernel
theorem dX10_howMany_28 : decode cX10_howMany 28 = .ok (.getfield 53, 3) := by decide +kernel
theorem dX10_howMany_31 : decode cX10_howMany 31 = .ok (.iload_n 1, 1) := by decide +kernel
theorem dX10_howMany_32 : decode cX10_howMany 32 = .ok (.iload_n 2, 1) := by decide +kernel
theorem dX10_howMany_33 : decode cX10_howMany 33 = .ok (.invokevirtual 185, 3) := by decide +kernel
theorem dX10_howMany_36 : decode cX10_howMany 36 = .ok (.ifCond .eq 15, 3) := by decide +kernel
theorem dX10_howMany_39 : decode cX10_howMany 39 = .ok (.aload_n 0, 1) := by decide +kernel
theorem dX10_howMany_40 : decode cX10_howMany 40 = .ok (.getfield 53, 3) := by decide +kernel
theorem dX10_howMany_43 : decode cX10_howMany 43 = .ok (.iload_n 1, 1) := by decide +kernel
theorem dX10_howMany_44 : decode cX10_howMany 44 = .ok (.iload_n 2, 1) := by decide +kernel
theorem dX10_howMany_45 : decode cX10_howMany 45 = .ok (.invokevirtual 198, 3) := by decide +kernel
theorem dX10_howMany_48 : decode cX10_howMany 48 = .ok (.goto 4, 3) := by decide +kernel
theorem dX10_howMany_51 : decode cX10_howMany 51 = .ok (.lconst 0, 1) := by decide +kernel
theorem dX10_howMany_52 : decode cX10_howMany 52 = .ok (.lreturn, 1) := by decide +kernel
theorem dX10_isKnownLevel_0 : decode cX10_isKnownLevel 0 = .ok (.iload_n 0, 1) := by decide +kernel
theorem dX10_isKnownLevel_1 : decode cX10_isKnownLevel 1 = .ok (.ifCond .lt 13, 3) := by decide +kernel
theorem dX10_isKnownLevel_4 : decode cX10_isKnownLevel 4 = .ok (.iload_n 0, 1) := by decide +kernel
theorem dX10_isKnownLevel_5 : decode cX10_isKnownLevel 5 = .ok (.bipush 99, 2) := by decide +kernel
theorem dX10_isKnownLevel_7 : decode cX10_isKnownLevel 7 = .ok (.if_icmp .gt 7, 3) := by decide +kernel
theorem dX10_isKnownLevel_10 : decode cX10_isKnownLevel 10 = .ok (.iconst 1, 1) := by decide +kernel
theorem dX10_isKnownLevel_11 : decode cX10_isKnownLevel 11 = .ok (.goto 4, 3) := by decide +kernel
theorem dX10_isKnownLevel_14 : decode cX10_isKnownLevel 14 = .ok (.iconst 0, 1) := by decide +kernel
theorem dX10_isKnownLevel_15 : decode cX10_isKnownLevel 15 = .ok (.ireturn, 1) := by decide +kernel
theorem dX10_know_0 : decode cX10_know 0 = .ok (.aload_n 0, 1) := by decide +kernel
theorem dX10_know_1 : decode cX10_know 1 = .ok (.getfield 19, 3) := by decide +kernel
theorem dX10_know_4 : decode cX10_know 4 = .ok (.iload_n 1, 1) := by decide +kernel
theorem dX10_know_5 : decode cX10_know 5 = .ok (.invokevirtual 134, 3) := by decide +kernel
theorem dX10_know_8 : decode cX10_know 8 = .ok (.ifCond .eq 10, 3) := by decide +kernel
theorem dX10_know_11 : decode cX10_know 11 = .ok (.iload_n 2, 1) := by decide +kernel
theorem dX10_know_12 : decode cX10_know 12 = .ok (.invokestatic 108, 3) := by decide +kernel
theorem dX10_know_15 : decode cX10_know 15 = .ok (.ifCond .ne 5, 3) := by decide +kernel
theorem dX10_know_18 : decode cX10_know 18 = .ok (.iconst 0, 1) := by decide +kernel
theorem dX10_know_19 : decode cX10_know 19 = .ok (.ireturn, 1) := by decide +kernel
theorem dX10_know_20 : decode cX10_know 20 = .ok (.aload_n 0, 1) := by decide +kernel
theorem dX10_know_21 : decode cX10_know 21 = .ok (.getfield 19, 3) := by decide +kernel
theorem dX10_know_24 : decode cX10_know 24 = .ok (.iload_n 1, 1) := by decide +kernel
theorem dX10_know_25 : decode cX10_know 25 = .ok (.iload_n 2, 1) := by decide +kernel
theorem dX10_know_26 : decode cX10_know 26 = .ok (.invokevirtual 141, 3) := by decide +kernel
theorem dX10_know_29 : decode cX10_know 29 = .ok (.iconst 1, 1) := by decide +kernel
theorem dX10_know_30 : decode cX10_know 30 = .ok (.ireturn, 1) := by decide +kernel
theorem dX10_law_0 : decode cX10_law 0 = .ok (.iload_n 1, 1) := by decide +kernel
theorem dX10_law_1 : decode cX10_law 1 = .ok (.iconst 1, 1) := by decide +kernel
theorem dX10_law_2 : decode cX10_law 2 = .ok (.if_icmp .lt 21, 3) := by decide +kernel
theorem dX10_law_5 : decode cX10_law 5 = .ok (.iload_n 1, 1) := by decide +kernel
theorem dX10_law_6 : decode cX10_law 6 = .ok (.sipush 160, 3) := by decide +kernel
theorem dX10_law_9 : decode cX10_law 9 = .ok (.if_icmp .gt 14, 3) := by decide +kernel
theorem dX10_law_12 : decode cX10_law 12 = .ok (.aload_n 0, 1) := by decide +kernel
theorem dX10_law_13 : decode cX10_law 13 = .ok (.getfield 10, 3) := by decide +kernel
theorem dX10_law_16 : decode cX10_law 16 = .ok (.iload_n 1, 1) := by decide +kernel
theorem dX10_law_17 : decode cX10_law 17 = .ok (.invokevirtual 113, 3) := by decide +kernel
theorem dX10_law_20 : decode cX10_law 20 = .ok (.ifCond .ne 5, 3) := by decide +kernel
theorem dX10_law_23 : decode cX10_law 23 = .ok (.iconst (-1), 1) := by decide +kernel
theorem dX10_law_24 : decode cX10_law 24 = .ok (.ireturn, 1) := by decide +kernel
theorem dX10_law_25 : decode cX10_law 25 = .ok (.aload_n 0, 1) := by decide +kernel
theorem dX10_law_26 : decode cX10_law 26 = .ok (.getfield 35, 3) := by decide +kernel
theorem dX10_law_29 : decode cX10_law 29 = .ok (.iload_n 1, 1) := by decide +kernel
theorem dX10_law_30 : decode cX10_law 30 = .ok (.invokevirtual 148, 3) := by decide +kernel
theorem dX10_law_33 : decode cX10_law 33 = .ok (.ifCond .ne 23, 3) := by decide +kernel
theorem dX10_law_36 : decode cX10_law 36 = .ok (.sipush (-1000), 3) := by decide +kernel
theorem dX10_law_39 : decode cX10_law 39 = .ok (.aload_n 0, 1) := by decide +kernel
theorem dX10_law_40 : decode cX10_law 40 = .ok (.getfield 35, 3) := by decide +kernel
theorem dX10_law_43 : decode cX10_law 43 = .ok (.getfield 151, 3) := by decide +kernel
theorem dX10_law_46 : decode cX10_law 46 = .ok (.imul, 1) := by decide +kernel
theorem dX10_law_47 : decode cX10_law 47 = .ok (.aload_n 0, 1) := by decide +kernel
theorem dX10_law_48 : decode cX10_law 48 = .ok (.getfield 35, 3) := by decide +kernel
theorem dX10_law_51 : decode cX10_law 51 = .ok (.getfield 154, 3) := by decide +kernel
theorem dX10_law_54 : decode cX10_law 54 = .ok (.isub, 1) := by decide +kernel
theorem dX10_law_55 : decode cX10_law 55 = .ok (.ireturn, 1) := by decide +kernel
theorem dX10_law_56 : decode cX10_law 56 = .ok (.aload_n 0, 1) := by decide +kernel
theorem dX10_law_57 : decode cX10_law 57 = .ok (.getfield 26, 3) := by decide +kernel
theorem dX10_law_60 : decode cX10_law 60 = .ok (.aload_n 0, 1) := by decide +kernel
theorem dX10_law_61 : decode cX10_law 61 = .ok (.getfield 35, 3) := by decide +kernel
theorem dX10_law_64 : decode cX10_law 64 = .ok (.getfield 157, 3) := by decide +kernel
theorem dX10_law_67 : decode cX10_law 67 = .ok (.invokevirtual 160, 3) := by decide +kernel
theorem dX10_law_70 : decode cX10_law 70 = .ok (.aload_n 0, 1) := by decide +kernel
theorem dX10_law_71 : decode cX10_law 71 = .ok (.getfield 26, 3) := by decide +kernel
theorem dX10_law_74 : decode cX10_law 74 = .ok (.getfield 164, 3) := by decide +kernel
theorem dX10_law_77 : decode cX10_law 77 = .ok (.ireturn, 1) := by decide +kernel
theorem dX10_least_0 : decode cX10_least 0 = .ok (.aload_n 0, 1) := by decide +kernel
theorem dX10_least_1 : decode cX10_least 1 = .ok (.iload_n 1, 1) := by decide +kernel
theorem dX10_least_2 : decode cX10_least 2 = .ok (.iload_n 2, 1) := by decide +kernel
theorem dX10_least_3 : decode cX10_least 3 = .ok (.invokevirtual 167, 3) := by decide +kernel
theorem dX10_least_6 : decode cX10_least 6 = .ok (.ifCond .eq 14, 3) := by decide +kernel
theorem dX10_least_9 : decode cX10_least 9 = .ok (.iload_n 3, 1) := by decide +kernel
theorem dX10_least_10 : decode cX10_least 10 = .ok (.iconst (-1), 1) := by decide +kernel
theorem dX10_least_11 : decode cX10_least 11 = .ok (.if_icmp .lt 9, 3) := by decide +kernel
theorem dX10_least_14 : decode cX10_least 14 = .ok (.iload_n 3, 1) := by decide +kernel
theorem dX10_least_15 : decode cX10_least 15 = .ok (.bipush 40, 2) := by decide +kernel
theorem dX10_least_17 : decode cX10_least 17 = .ok (.if_icmp .le 5, 3) := by decide +kernel
theorem dX10_least_20 : decode cX10_least 20 = .ok (.iconst (-1), 1) := by decide +kernel
theorem dX10_least_21 : decode cX10_least 21 = .ok (.ireturn, 1) := by decide +kernel
theorem dX10_least_22 : decode cX10_least 22 = .ok (.aload_n 0, 1) := by decide +kernel
theorem dX10_least_23 : decode cX10_least 23 = .ok (.getfield 44, 3) := by decide +kernel
theorem dX10_least_26 : decode cX10_least 26 = .ok (.invokevirtual 171, 3) := by decide +kernel
theorem dX10_least_29 : decode cX10_least 29 = .ok (.aload_n 0, 1) := by decide +kernel
theorem dX10_least_30 : decode cX10_least 30 = .ok (.getfield 53, 3) := by decide +kernel
theorem dX10_least_33 : decode cX10_least 33 = .ok (.invokevirtual 184, 3) := by decide +kernel
theorem dX10_least_36 : decode cX10_least 36 = .ok (.aload_n 0, 1) := by decide +kernel
theorem dX10_least_37 : decode cX10_least 37 = .ok (.getfield 53, 3) := by decide +kernel
theorem dX10_least_40 : decode cX10_least 40 = .ok (.iload_n 1, 1) := by decide +kernel
theorem dX10_least_41 : decode cX10_least 41 = .ok (.iload_n 2, 1) := by decide +kernel
theorem dX10_least_42 : decode cX10_least 42 = .ok (.invokevirtual 185, 3) := by decide +kernel
theorem dX10_least_45 : decode cX10_least 45 = .ok (.ifCond .ne 6, 3) := by decide +kernel
theorem dX10_least_48 : decode cX10_least 48 = .ok (.bipush (-2), 2) := by decide +kernel
theorem dX10_least_50 : decode cX10_least 50 = .ok (.ireturn, 1) := by decide +kernel
theorem dX10_least_51 : decode cX10_least 51 = .ok (.iload_n 3, 1) := by decide +kernel
theorem dX10_least_52 : decode cX10_least 52 = .ok (.iconst (-1), 1) := by decide +kernel
theorem dX10_least_53 : decode cX10_least 53 = .ok (.if_icmp .ne 13, 3) := by decide +kernel
theorem dX10_least_56 : decode cX10_least 56 = .ok (.aload_n 0, 1) := by decide +kernel
theorem dX10_least_57 : decode cX10_least 57 = .ok (.getfield 53, 3) := by decide +kernel
theorem dX10_least_60 : decode cX10_least 60 = .ok (.iload_n 1, 1) := by decide +kernel
theorem dX10_least_61 : decode cX10_least 61 = .ok (.iload_n 2, 1) := by decide +kernel
theorem dX10_least_62 : decode cX10_least 62 = .ok (.invokevirtual 188, 3) := by decide +kernel
theorem dX10_least_65 : decode cX10_least 65 = .ok (.ireturn, 1) := by decide +kernel
theorem dX10_least_66 : decode cX10_least 66 = .ok (.aload_n 0, 1) := by decide +kernel
theorem dX10_least_67 : decode cX10_least 67 = .ok (.getfield 53, 3) := by decide +kernel
theorem dX10_least_70 : decode cX10_least 70 = .ok (.iload_n 1, 1) := by decide +kernel
theorem dX10_least_71 : decode cX10_least 71 = .ok (.iload_n 2, 1) := by decide +kernel
theorem dX10_least_72 : decode cX10_least 72 = .ok (.invokevirtual 189, 3) := by decide +kernel
theorem dX10_least_75 : decode cX10_least 75 = .ok (.istore 4, 2) := by decide +kernel
theorem dX10_least_77 : decode cX10_least 77 = .ok (.iload_n 3, 1) := by decide +kernel
theorem dX10_least_78 : decode cX10_least 78 = .ok (.bipush 40, 2) := by decide +kernel
theorem dX10_least_80 : decode cX10_least 80 = .ok (.if_icmp .ne 6, 3) := by decide +kernel
theorem dX10_least_83 : decode cX10_least 83 = .ok (.iload 4, 2) := by decide +kernel
theorem dX10_least_85 : decode cX10_least 85 = .ok (.ireturn, 1) := by decide +kernel
theorem dX10_least_86 : decode cX10_least 86 = .ok (.iload_n 3, 1) := by decide +kernel
theorem dX10_least_87 : decode cX10_least 87 = .ok (.iload 4, 2) := by decide +kernel
theorem dX10_least_89 : decode cX10_least 89 = .ok (.if_icmp .le 7, 3) := by decide +kernel
theorem dX10_least_92 : decode cX10_least 92 = .ok (.iconst (-1), 1) := by decide +kernel
theorem dX10_least_93 : decode cX10_least 93 = .ok (.goto 13, 3) := by decide +kernel
theorem dX10_least_96 : decode cX10_least 96 = .ok (.aload_n 0, 1) := by decide +kernel
theorem dX10_least_97 : decode cX10_least 97 = .ok (.getfield 53, 3) := by decide +kernel
theorem dX10_least_100 : decode cX10_least 100 = .ok (.iload_n 1, 1) := by decide +kernel
theorem dX10_least_101 : decode cX10_least 101 = .ok (.iload_n 2, 1) := by decide +kernel
theorem dX10_least_102 : decode cX10_least 102 = .ok (.iload_n 3, 1) := by decide +kernel
theorem dX10_least_103 : decode cX10_least 103 = .ok (.invokevirtual 192, 3) := by decide +kernel
theorem dX10_least_106 : decode cX10_least 106 = .ok (.ireturn, 1) := by decide +kernel
theorem dX10_near_0 : decode cX10_near 0 = .ok (.iload_n 1, 1) := by decide +kernel
theorem dX10_near_1 : decode cX10_near 1 = .ok (.iconst 1, 1) := by decide +kernel
theorem dX10_near_2 : decode cX10_near 2 = .ok (.if_icmp .lt 29, 3) := by decide +kernel
theorem dX10_near_5 : decode cX10_near 5 = .ok (.iload_n 1, 1) := by decide +kernel
theorem dX10_near_6 : decode cX10_near 6 = .ok (.bipush 12, 2) := by decide +kernel
theorem dX10_near_8 : decode cX10_near 8 = .ok (.if_icmp .gt 23, 3) := by decide +kernel
theorem dX10_near_11 : decode cX10_near 11 = .ok (.iload_n 2, 1) := by decide +kernel
theorem dX10_near_12 : decode cX10_near 12 = .ok (.ifCond .lt 19, 3) := by decide +kernel
theorem dX10_near_15 : decode cX10_near 15 = .ok (.iload_n 2, 1) := by decide +kernel
theorem dX10_near_16 : decode cX10_near 16 = .ok (.iconst 2, 1) := by decide +kernel
theorem dX10_near_17 : decode cX10_near 17 = .ok (.if_icmp .gt 14, 3) := by decide +kernel
theorem dX10_near_20 : decode cX10_near 20 = .ok (.aload_n 0, 1) := by decide +kernel
theorem dX10_near_21 : decode cX10_near 21 = .ok (.getfield 10, 3) := by decide +kernel
theorem dX10_near_24 : decode cX10_near 24 = .ok (.iload_n 1, 1) := by decide +kernel
theorem dX10_near_25 : decode cX10_near 25 = .ok (.invokevirtual 113, 3) := by decide +kernel
theorem dX10_near_28 : decode cX10_near 28 = .ok (.ifCond .ne 5, 3) := by decide +kernel
theorem dX10_near_31 : decode cX10_near 31 = .ok (.iconst (-1), 1) := by decide +kernel
theorem dX10_near_32 : decode cX10_near 32 = .ok (.ireturn, 1) := by decide +kernel
theorem dX10_near_33 : decode cX10_near 33 = .ok (.aload_n 0, 1) := by decide +kernel
theorem dX10_near_34 : decode cX10_near 34 = .ok (.getfield 19, 3) := by decide +kernel
theorem dX10_near_37 : decode cX10_near 37 = .ok (.getfield 232, 3) := by decide +kernel
theorem dX10_near_40 : decode cX10_near 40 = .ok (.lconst 0, 1) := by decide +kernel
theorem dX10_near_41 : decode cX10_near 41 = .ok (.lcmp, 1) := by decide +kernel
theorem dX10_near_42 : decode cX10_near 42 = .ok (.ifCond .eq 13, 3) := by decide +kernel
theorem dX10_near_45 : decode cX10_near 45 = .ok (.aload_n 0, 1) := by decide +kernel
theorem dX10_near_46 : decode cX10_near 46 = .ok (.getfield 10, 3) := by decide +kernel
theorem dX10_near_49 : decode cX10_near 49 = .ok (.invokevirtual 116, 3) := by decide +kernel
theorem dX10_near_52 : decode cX10_near 52 = .ok (.ifCond .ne 6, 3) := by decide +kernel
theorem dX10_near_55 : decode cX10_near 55 = .ok (.bipush (-2), 2) := by decide +kernel
theorem dX10_near_57 : decode cX10_near 57 = .ok (.ireturn, 1) := by decide +kernel
theorem dX10_near_58 : decode cX10_near 58 = .ok (.aload_n 0, 1) := by decide +kernel
theorem dX10_near_59 : decode cX10_near 59 = .ok (.getfield 71, 3) := by decide +kernel
theorem dX10_near_62 : decode cX10_near 62 = .ok (.iload_n 1, 1) := by decide +kernel
theorem dX10_near_63 : decode cX10_near 63 = .ok (.invokevirtual 289, 3) := by decide +kernel
theorem dX10_near_66 : decode cX10_near 66 = .ok (.iload_n 2, 1) := by decide +kernel
theorem dX10_near_67 : decode cX10_near 67 = .ok (.ifCond .ne 11, 3) := by decide +kernel
theorem dX10_near_70 : decode cX10_near 70 = .ok (.aload_n 0, 1) := by decide +kernel
theorem dX10_near_71 : decode cX10_near 71 = .ok (.getfield 71, 3) := by decide +kernel
theorem dX10_near_74 : decode cX10_near 74 = .ok (.getfield 292, 3) := by decide +kernel
theorem dX10_near_77 : decode cX10_near 77 = .ok (.ireturn, 1) := by decide +kernel
theorem dX10_near_78 : decode cX10_near 78 = .ok (.iload_n 2, 1) := by decide +kernel
theorem dX10_near_79 : decode cX10_near 79 = .ok (.iconst 1, 1) := by decide +kernel
theorem dX10_near_80 : decode cX10_near 80 = .ok (.if_icmp .ne 13, 3) := by decide +kernel
theorem dX10_near_83 : decode cX10_near 83 = .ok (.aload_n 0, 1) := by decide +kernel
theorem dX10_near_84 : decode cX10_near 84 = .ok (.getfield 71, 3) := by decide +kernel
theorem dX10_near_87 : decode cX10_near 87 = .ok (.getfield 295, 3) := by decide +kernel
theorem dX10_near_90 : decode cX10_near 90 = .ok (.goto 10, 3) := by decide +kernel
theorem dX10_near_93 : decode cX10_near 93 = .ok (.aload_n 0, 1) := by decide +kernel
theorem dX10_near_94 : decode cX10_near 94 = .ok (.getfield 71, 3) := by decide +kernel
theorem dX10_near_97 : decode cX10_near 97 = .ok (.getfield 298, 3) := by decide +kernel
theorem dX10_near_100 : decode cX10_near 100 = .ok (.ireturn, 1) := by decide +kernel
theorem dX10_newWord_0 : decode cX10_newWord 0 = .ok (.iload_n 1, 1) := by decide +kernel
theorem dX10_newWord_1 : decode cX10_newWord 1 = .ok (.bipush 10, 2) := by decide +kernel
theorem dX10_newWord_3 : decode cX10_newWord 3 = .ok (.if_icmp .lt 13, 3) := by decide +kernel
theorem dX10_newWord_6 : decode cX10_newWord 6 = .ok (.iload_n 1, 1) := by decide +kernel
theorem dX10_newWord_7 : decode cX10_newWord 7 = .ok (.bipush 18, 2) := by decide +kernel
theorem dX10_newWord_9 : decode cX10_newWord 9 = .ok (.if_icmp .ge 7, 3) := by decide +kernel
theorem dX10_newWord_12 : decode cX10_newWord 12 = .ok (.iconst 1, 1) := by decide +kernel
theorem dX10_newWord_13 : decode cX10_newWord 13 = .ok (.goto 4, 3) := by decide +kernel
theorem dX10_newWord_16 : decode cX10_newWord 16 = .ok (.iconst 0, 1) := by decide +kernel
theorem dX10_newWord_17 : decode cX10_newWord 17 = .ok (.istore_n 2, 1) := by decide +kernel
theorem dX10_newWord_18 : decode cX10_newWord 18 = .ok (.iload_n 2, 1) := by decide +kernel
theorem dX10_newWord_19 : decode cX10_newWord 19 = .ok (.ifCond .ne 14, 3) := by decide +kernel
theorem dX10_newWord_22 : decode cX10_newWord 22 = .ok (.iload_n 1, 1) := by decide +kernel
theorem dX10_newWord_23 : decode cX10_newWord 23 = .ok (.ifCond .lt 8, 3) := by decide +kernel
theorem dX10_newWord_26 : decode cX10_newWord 26 = .ok (.iload_n 1, 1) := by decide +kernel
theorem dX10_newWord_27 : decode cX10_newWord 27 = .ok (.iconst 2, 1) := by decide +kernel
theorem dX10_newWord_28 : decode cX10_newWord 28 = .ok (.if_icmp .le 5, 3) := by decide +kernel
theorem dX10_newWord_31 : decode cX10_newWord 31 = .ok (.iconst (-1), 1) := by decide +kernel
theorem dX10_newWord_32 : decode cX10_newWord 32 = .ok (.ireturn, 1) := by decide +kernel
theorem dX10_newWord_33 : decode cX10_newWord 33 = .ok (.aload_n 0, 1) := by decide +kernel
theorem dX10_newWord_34 : decode cX10_newWord 34 = .ok (.getfield 19, 3) := by decide +kernel
theorem dX10_newWord_37 : decode cX10_newWord 37 = .ok (.getfield 232, 3) := by decide +kernel
theorem dX10_newWord_40 : decode cX10_newWord 40 = .ok (.lconst 0, 1) := by decide +kernel
theorem dX10_newWord_41 : decode cX10_newWord 41 = .ok (.lcmp, 1) := by decide +kernel
theorem dX10_newWord_42 : decode cX10_newWord 42 = .ok (.ifCond .ne 6, 3) := by decide +kernel
theorem dX10_newWord_45 : decode cX10_newWord 45 = .ok (.bipush (-2), 2) := by decide +kernel
theorem dX10_newWord_47 : decode cX10_newWord 47 = .ok (.ireturn, 1) := by decide +kernel
theorem dX10_newWord_48 : decode cX10_newWord 48 = .ok (.aload_n 0, 1) := by decide +kernel
theorem dX10_newWord_49 : decode cX10_newWord 49 = .ok (.getfield 44, 3) := by decide +kernel
theorem dX10_newWord_52 : decode cX10_newWord 52 = .ok (.invokevirtual 171, 3) := by decide +kernel
theorem dX10_newWord_55 : decode cX10_newWord 55 = .ok (.aload_n 0, 1) := by decide +kernel
theorem dX10_newWord_56 : decode cX10_newWord 56 = .ok (.getfield 53, 3) := by decide +kernel
theorem dX10_newWord_59 : decode cX10_newWord 59 = .ok (.invokevirtual 202, 3) := by decide +kernel
theorem dX10_newWord_62 : decode cX10_newWord 62 = .ok (.aload_n 0, 1) := by decide +kernel
theorem dX10_newWord_63 : decode cX10_newWord 63 = .ok (.getfield 62, 3) := by decide +kernel
theorem dX10_newWord_66 : decode cX10_newWord 66 = .ok (.invokevirtual 245, 3) := by decide +kernel
theorem dX10_newWord_69 : decode cX10_newWord 69 = .ok (.iload_n 2, 1) := by decide +kernel
theorem dX10_newWord_70 : decode cX10_newWord 70 = .ok (.ifCond .eq 15, 3) := by decide +kernel
theorem dX10_newWord_73 : decode cX10_newWord 73 = .ok (.aload_n 0, 1) := by decide +kernel
theorem dX10_newWord_74 : decode cX10_newWord 74 = .ok (.getfield 62, 3) := by decide +kernel
theorem dX10_newWord_77 : decode cX10_newWord 77 = .ok (.iload_n 1, 1) := by decide +kernel
theorem dX10_newWord_78 : decode cX10_newWord 78 = .ok (.bipush 10, 2) := by decide +kernel
theorem dX10_newWord_80 : decode cX10_newWord 80 = .ok (.isub, 1) := by decide +kernel
theorem dX10_newWord_81 : decode cX10_newWord 81 = .ok (.invokevirtual 246, 3) := by decide +kernel
theorem dX10_newWord_84 : decode cX10_newWord 84 = .ok (.ireturn, 1) := by decide +kernel
theorem dX10_newWord_85 : decode cX10_newWord 85 = .ok (.iload_n 1, 1) := by decide +kernel
theorem dX10_newWord_86 : decode cX10_newWord 86 = .ok (.ifCond .ne 11, 3) := by decide +kernel
theorem dX10_newWord_89 : decode cX10_newWord 89 = .ok (.aload_n 0, 1) := by decide +kernel
theorem dX10_newWord_90 : decode cX10_newWord 90 = .ok (.getfield 62, 3) := by decide +kernel
theorem dX10_newWord_93 : decode cX10_newWord 93 = .ok (.getfield 250, 3) := by decide +kernel
theorem dX10_newWord_96 : decode cX10_newWord 96 = .ok (.ireturn, 1) := by decide +kernel
theorem dX10_newWord_97 : decode cX10_newWord 97 = .ok (.iload_n 1, 1) := by decide +kernel
theorem dX10_newWord_98 : decode cX10_newWord 98 = .ok (.iconst 1, 1) := by decide +kernel
theorem dX10_newWord_99 : decode cX10_newWord 99 = .ok (.if_icmp .ne 13, 3) := by decide +kernel
theorem dX10_newWord_102 : decode cX10_newWord 102 = .ok (.aload_n 0, 1) := by decide +kernel
theorem dX10_newWord_103 : decode cX10_newWord 103 = .ok (.getfield 62, 3) := by decide +kernel
theorem dX10_newWord_106 : decode cX10_newWord 106 = .ok (.getfield 253, 3) := by decide +kernel
theorem dX10_newWord_109 : decode cX10_newWord 109 = .ok (.goto 13, 3) := by decide +kernel
theorem dX10_newWord_112 : decode cX10_newWord 112 = .ok (.aload_n 0, 1) := by decide +kernel
theorem dX10_newWord_113 : decode cX10_newWord 113 = .ok (.getfield 62, 3) := by decide +kernel
theorem dX10_newWord_116 : decode cX10_newWord 116 = .ok (.getfield 256, 3) := by decide +kernel
theorem dX10_newWord_119 : decode cX10_newWord 119 = .ok (.invokestatic 259, 3) := by decide +kernel
theorem dX10_newWord_122 : decode cX10_newWord 122 = .ok (.ireturn, 1) := by decide +kernel
theorem dX10_off_0 : decode cX10_off 0 = .ok (.aload_n 0, 1) := by decide +kernel
theorem dX10_off_1 : decode cX10_off 1 = .ok (.getfield 19, 3) := by decide +kernel
theorem dX10_off_4 : decode cX10_off 4 = .ok (.getfield 112, 3) := by decide +kernel
theorem dX10_off_7 : decode cX10_off 7 = .ok (.ifCond .ne 7, 3) := by decide +kernel
theorem dX10_off_10 : decode cX10_off 10 = .ok (.iconst (-1), 1) := by decide +kernel
theorem dX10_off_11 : decode cX10_off 11 = .ok (.goto 10, 3) := by decide +kernel
theorem dX10_off_14 : decode cX10_off 14 = .ok (.aload_n 0, 1) := by decide +kernel
theorem dX10_off_15 : decode cX10_off 15 = .ok (.getfield 19, 3) := by decide +kernel
theorem dX10_off_18 : decode cX10_off 18 = .ok (.invokevirtual 332, 3) := by decide +kernel
theorem dX10_off_21 : decode cX10_off 21 = .ok (.ireturn, 1) := by decide +kernel
theorem dX10_row_0 : decode cX10_row 0 = .ok (.iload_n 1, 1) := by decide +kernel
theorem dX10_row_1 : decode cX10_row 1 = .ok (.iconst 2, 1) := by decide +kernel
theorem dX10_row_2 : decode cX10_row 2 = .ok (.if_icmp .lt 30, 3) := by decide +kernel
theorem dX10_row_5 : decode cX10_row 5 = .ok (.iload_n 1, 1) := by decide +kernel
theorem dX10_row_6 : decode cX10_row 6 = .ok (.bipush 10, 2) := by decide +kernel
theorem dX10_row_8 : decode cX10_row 8 = .ok (.if_icmp .gt 24, 3) := by decide +kernel
theorem dX10_row_11 : decode cX10_row 11 = .ok (.iload_n 2, 1) := by decide +kernel
theorem dX10_row_12 : decode cX10_row 12 = .ok (.iconst (-1), 1) := by decide +kernel
theorem dX10_row_13 : decode cX10_row 13 = .ok (.if_icmp .lt 19, 3) := by decide +kernel
theorem dX10_row_16 : decode cX10_row 16 = .ok (.iload_n 2, 1) := by decide +kernel
theorem dX10_row_17 : decode cX10_row 17 = .ok (.iload_n 1, 1) := by decide +kernel
theorem dX10_row_18 : decode cX10_row 18 = .ok (.if_icmp .ge 14, 3) := by decide +kernel
theorem dX10_row_21 : decode cX10_row 21 = .ok (.aload_n 0, 1) := by decide +kernel
theorem dX10_row_22 : decode cX10_row 22 = .ok (.getfield 10, 3) := by decide +kernel
theorem dX10_row_25 : decode cX10_row 25 = .ok (.iload_n 1, 1) := by decide +kernel
theorem dX10_row_26 : decode cX10_row 26 = .ok (.invokevirtual 113, 3) := by decide +kernel
theorem dX10_row_29 : decode cX10_row 29 = .ok (.ifCond .ne 5, 3) := by decide +kernel
theorem dX10_row_32 : decode cX10_row 32 = .ok (.iconst (-1), 1) := by decide +kernel
theorem dX10_row_33 : decode cX10_row 33 = .ok (.ireturn, 1) := by decide +kernel
theorem dX10_row_34 : decode cX10_row 34 = .ok (.aload_n 0, 1) := by decide +kernel
theorem dX10_row_35 : decode cX10_row 35 = .ok (.getfield 80, 3) := by decide +kernel
theorem dX10_row_38 : decode cX10_row 38 = .ok (.iload_n 1, 1) := by decide +kernel
theorem dX10_row_39 : decode cX10_row 39 = .ok (.invokevirtual 267, 3) := by decide +kernel
theorem dX10_row_42 : decode cX10_row 42 = .ok (.ifCond .eq 13, 3) := by decide +kernel
theorem dX10_row_45 : decode cX10_row 45 = .ok (.aload_n 0, 1) := by decide +kernel
theorem dX10_row_46 : decode cX10_row 46 = .ok (.getfield 80, 3) := by decide +kernel
theorem dX10_row_49 : decode cX10_row 49 = .ok (.invokevirtual 270, 3) := by decide +kernel
theorem dX10_row_52 : decode cX10_row 52 = .ok (.ifCond .ne 6, 3) := by decide +kernel
theorem dX10_row_55 : decode cX10_row 55 = .ok (.bipush (-3), 2) := by decide +kernel
theorem dX10_row_57 : decode cX10_row 57 = .ok (.ireturn, 1) := by decide +kernel
theorem dX10_row_58 : decode cX10_row 58 = .ok (.aload_n 0, 1) := by decide +kernel
theorem dX10_row_59 : decode cX10_row 59 = .ok (.getfield 44, 3) := by decide +kernel
theorem dX10_row_62 : decode cX10_row 62 = .ok (.invokevirtual 171, 3) := by decide +kernel
theorem dX10_row_65 : decode cX10_row 65 = .ok (.aload_n 0, 1) := by decide +kernel
theorem dX10_row_66 : decode cX10_row 66 = .ok (.getfield 80, 3) := by decide +kernel
theorem dX10_row_69 : decode cX10_row 69 = .ok (.invokevirtual 273, 3) := by decide +kernel
theorem dX10_row_72 : decode cX10_row 72 = .ok (.ifCond .ne 6, 3) := by decide +kernel
theorem dX10_row_75 : decode cX10_row 75 = .ok (.bipush (-2), 2) := by decide +kernel
theorem dX10_row_77 : decode cX10_row 77 = .ok (.ireturn, 1) := by decide +kernel
theorem dX10_row_78 : decode cX10_row 78 = .ok (.iload_n 2, 1) := by decide +kernel
theorem dX10_row_79 : decode cX10_row 79 = .ok (.iconst (-1), 1) := by decide +kernel
theorem dX10_row_80 : decode cX10_row 80 = .ok (.if_icmp .ne 13, 3) := by decide +kernel
theorem dX10_row_83 : decode cX10_row 83 = .ok (.aload_n 0, 1) := by decide +kernel
theorem dX10_row_84 : decode cX10_row 84 = .ok (.getfield 80, 3) := by decide +kernel
theorem dX10_row_87 : decode cX10_row 87 = .ok (.getfield 276, 3) := by decide +kernel
theorem dX10_row_90 : decode cX10_row 90 = .ok (.goto 11, 3) := by decide +kernel
theorem dX10_row_93 : decode cX10_row 93 = .ok (.aload_n 0, 1) := by decide +kernel
theorem dX10_row_94 : decode cX10_row 94 = .ok (.getfield 80, 3) := by decide +kernel
theorem dX10_row_97 : decode cX10_row 97 = .ok (.iload_n 2, 1) := by decide +kernel
theorem dX10_row_98 : decode cX10_row 98 = .ok (.invokevirtual 279, 3) := by decide +kernel
theorem dX10_row_101 : decode cX10_row 101 = .ok (.ireturn, 1) := by decide +kernel
theorem dX10_rubbed_0 : decode cX10_rubbed 0 = .ok (.iload_n 1, 1) := by decide +kernel
theorem dX10_rubbed_1 : decode cX10_rubbed 1 = .ok (.iconst 1, 1) := by decide +kernel
theorem dX10_rubbed_2 : decode cX10_rubbed 2 = .ok (.if_icmp .lt 20, 3) := by decide +kernel
theorem dX10_rubbed_5 : decode cX10_rubbed 5 = .ok (.iload_n 1, 1) := by decide +kernel
theorem dX10_rubbed_6 : decode cX10_rubbed 6 = .ok (.bipush 8, 2) := by decide +kernel
theorem dX10_rubbed_8 : decode cX10_rubbed 8 = .ok (.if_icmp .gt 14, 3) := by decide +kernel
theorem dX10_rubbed_11 : decode cX10_rubbed 11 = .ok (.aload_n 0, 1) := by decide +kernel
theorem dX10_rubbed_12 : decode cX10_rubbed 12 = .ok (.getfield 10, 3) := by decide +kernel
theorem dX10_rubbed_15 : decode cX10_rubbed 15 = .ok (.iload_n 1, 1) := by decide +kernel
theorem dX10_rubbed_16 : decode cX10_rubbed 16 = .ok (.invokevirtual 113, 3) := by decide +kernel
theorem dX10_rubbed_19 : decode cX10_rubbed 19 = .ok (.ifCond .ne 7, 3) := by decide +kernel
theorem dX10_rubbed_22 : decode cX10_rubbed 22 = .ok (.ldc2_w 196, 3) := by decide +kernel
theorem dX10_rubbed_25 : decode cX10_rubbed 25 = .ok (.lreturn, 1) := by decide +kernel
theorem dX10_rubbed_26 : decode cX10_rubbed 26 = .ok (.aload_n 0, 1) := by decide +kernel
theorem dX10_rubbed_27 : decode cX10_rubbed 27 = .ok (.getfield 10, 3) := by decide +kernel
theorem dX10_rubbed_30 : decode cX10_rubbed 30 = .ok (.invokevirtual 309, 3) := by decide +kernel
theorem dX10_rubbed_33 : decode cX10_rubbed 33 = .ok (.ifCond .eq 14, 3) := by decide +kernel
theorem dX10_rubbed_36 : decode cX10_rubbed 36 = .ok (.aload_n 0, 1) := by decide +kernel
theorem dX10_rubbed_37 : decode cX10_rubbed 37 = .ok (.getfield 71, 3) := by decide +kernel
theorem dX10_rubbed_40 : decode cX10_rubbed 40 = .ok (.iload_n 1, 1) := by decide +kernel
theorem dX10_rubbed_41 : decode cX10_rubbed 41 = .ok (.invokevirtual 312, 3) := by decide +kernel
theorem dX10_rubbed_44 : decode cX10_rubbed 44 = .ok (.goto 6, 3) := by decide +kernel
theorem dX10_rubbed_47 : decode cX10_rubbed 47 = .ok (.ldc2_w 211, 3) := by decide +kernel
theorem dX10_rubbed_50 : decode cX10_rubbed 50 = .ok (.lreturn, 1) := by decide +kernel
theorem dX10_seed_0 : decode cX10_seed 0 = .ok (.iload_n 1, 1) := by decide +kernel
theorem dX10_seed_1 : decode cX10_seed 1 = .ok (.ifCond .lt 10, 3) := by decide +kernel
theorem dX10_seed_4 : decode cX10_seed 4 = .ok (.iload_n 1, 1) := by decide +kernel
theorem dX10_seed_5 : decode cX10_seed 5 = .ok (.ldc_w 324, 3) := by decide +kernel
theorem dX10_seed_8 : decode cX10_seed 8 = .ok (.if_icmp .le 5, 3) := by decide +kernel
theorem dX10_seed_11 : decode cX10_seed 11 = .ok (.iconst 0, 1) := by decide +kernel
theorem dX10_seed_12 : decode cX10_seed 12 = .ok (.ireturn, 1) := by decide +kernel
theorem dX10_seed_13 : decode cX10_seed 13 = .ok (.aload_n 0, 1) := by decide +kernel
theorem dX10_seed_14 : decode cX10_seed 14 = .ok (.iload_n 1, 1) := by decide +kernel
theorem dX10_seed_15 : decode cX10_seed 15 = .ok (.putfield 93, 3) := by decide +kernel
theorem dX10_seed_18 : decode cX10_seed 18 = .ok (.iconst 1, 1) := by decide +kernel
theorem dX10_seed_19 : decode cX10_seed 19 = .ok (.ireturn, 1) := by decide +kernel
theorem dX10_speak_0 : decode cX10_speak 0 = .ok (.iload_n 1, 1) := by decide +kernel
theorem dX10_speak_1 : decode cX10_speak 1 = .ok (.iconst (-1), 1) := by decide +kernel
theorem dX10_speak_2 : decode cX10_speak 2 = .ok (.if_icmp .lt 8, 3) := by decide +kernel
theorem dX10_speak_5 : decode cX10_speak 5 = .ok (.iload_n 1, 1) := by decide +kernel
theorem dX10_speak_6 : decode cX10_speak 6 = .ok (.iconst 3, 1) := by decide +kernel
theorem dX10_speak_7 : decode cX10_speak 7 = .ok (.if_icmp .le 5, 3) := by decide +kernel
theorem dX10_speak_10 : decode cX10_speak 10 = .ok (.iconst 0, 1) := by decide +kernel
theorem dX10_speak_11 : decode cX10_speak 11 = .ok (.ireturn, 1) := by decide +kernel
theorem dX10_speak_12 : decode cX10_speak 12 = .ok (.aload_n 0, 1) := by decide +kernel
theorem dX10_speak_13 : decode cX10_speak 13 = .ok (.getfield 19, 3) := by decide +kernel
theorem dX10_speak_16 : decode cX10_speak 16 = .ok (.iload_n 1, 1) := by decide +kernel
theorem dX10_speak_17 : decode cX10_speak 17 = .ok (.invokevirtual 145, 3) := by decide +kernel
theorem dX10_speak_20 : decode cX10_speak 20 = .ok (.iconst 1, 1) := by decide +kernel
theorem dX10_speak_21 : decode cX10_speak 21 = .ok (.ireturn, 1) := by decide +kernel
theorem dX10_square_0 : decode cX10_square 0 = .ok (.iload_n 1, 1) := by decide +kernel
theorem dX10_square_1 : decode cX10_square 1 = .ok (.iconst 2, 1) := by decide +kernel
theorem dX10_square_2 : decode cX10_square 2 = .ok (.if_icmp .lt 18, 3) := by decide +kernel
theorem dX10_square_5 : decode cX10_square 5 = .ok (.iload_n 1, 1) := by decide +kernel
theorem dX10_square_6 : decode cX10_square 6 = .ok (.iconst 4, 1) := by decide +kernel
theorem dX10_square_7 : decode cX10_square 7 = .ok (.if_icmp .gt 13, 3) := by decide +kernel
theorem dX10_square_10 : decode cX10_square 10 = .ok (.iload_n 2, 1) := by decide +kernel
theorem dX10_square_11 : decode cX10_square 11 = .ok (.iconst (-1), 1) := by decide +kernel
theorem dX10_square_12 : decode cX10_square 12 = .ok (.if_icmp .lt 8, 3) := by decide +kernel
theorem dX10_square_15 : decode cX10_square 15 = .ok (.iload_n 2, 1) := by decide +kernel
theorem dX10_square_16 : decode cX10_square 16 = .ok (.iload_n 1, 1) := by decide +kernel
theorem dX10_square_17 : decode cX10_square 17 = .ok (.if_icmp .lt 5, 3) := by decide +kernel
theorem dX10_square_20 : decode cX10_square 20 = .ok (.iconst (-1), 1) := by decide +kernel
theorem dX10_square_21 : decode cX10_square 21 = .ok (.ireturn, 1) := by decide +kernel
theorem dX10_square_22 : decode cX10_square 22 = .ok (.aload_n 0, 1) := by decide +kernel
theorem dX10_square_23 : decode cX10_square 23 = .ok (.getfield 89, 3) := by decide +kernel
theorem dX10_square_26 : decode cX10_square 26 = .ok (.iload_n 1, 1) := by decide +kernel
theorem dX10_square_27 : decode cX10_square 27 = .ok (.invokevirtual 316, 3) := by decide +kernel
theorem dX10_square_30 : decode cX10_square 30 = .ok (.iload_n 2, 1) := by decide +kernel
theorem dX10_square_31 : decode cX10_square 31 = .ok (.iconst (-1), 1) := by decide +kernel
theorem dX10_square_32 : decode cX10_square 32 = .ok (.if_icmp .ne 11, 3) := by decide +kernel
theorem dX10_square_35 : decode cX10_square 35 = .ok (.aload_n 0, 1) := by decide +kernel
theorem dX10_square_36 : decode cX10_square 36 = .ok (.getfield 89, 3) := by decide +kernel
theorem dX10_square_39 : decode cX10_square 39 = .ok (.getfield 318, 3) := by decide +kernel
theorem dX10_square_42 : decode cX10_square 42 = .ok (.ireturn, 1) := by decide +kernel
theorem dX10_square_43 : decode cX10_square 43 = .ok (.aload_n 0, 1) := by decide +kernel
theorem dX10_square_44 : decode cX10_square 44 = .ok (.getfield 89, 3) := by decide +kernel
theorem dX10_square_47 : decode cX10_square 47 = .ok (.getfield 318, 3) := by decide +kernel
theorem dX10_square_50 : decode cX10_square 50 = .ok (.ifCond .ne 8, 3) := by decide +kernel
theorem dX10_square_53 : decode cX10_square 53 = .ok (.bipush (-2), 2) := by decide +kernel
theorem dX10_square_55 : decode cX10_square 55 = .ok (.goto 12, 3) := by decide +kernel
theorem dX10_square_58 : decode cX10_square 58 = .ok (.aload_n 0, 1) := by decide +kernel
theorem dX10_square_59 : decode cX10_square 59 = .ok (.getfield 89, 3) := by decide +kernel
theorem dX10_square_62 : decode cX10_square 62 = .ok (.getfield 321, 3) := by decide +kernel
theorem dX10_square_65 : decode cX10_square 65 = .ok (.iload_n 2, 1) := by decide +kernel
theorem dX10_square_66 : decode cX10_square 66 = .ok (.iaload, 1) := by decide +kernel
theorem dX10_square_67 : decode cX10_square 67 = .ok (.ireturn, 1) := by decide +kernel
theorem dX10_step_0 : decode cX10_step 0 = .ok (.aload_n 0, 1) := by decide +kernel
theorem dX10_step_1 : decode cX10_step 1 = .ok (.iload_n 1, 1) := by decide +kernel
theorem dX10_step_2 : decode cX10_step 2 = .ok (.iload_n 2, 1) := by decide +kernel
theorem dX10_step_3 : decode cX10_step 3 = .ok (.invokevirtual 167, 3) := by decide +kernel
theorem dX10_step_6 : decode cX10_step 6 = .ok (.ifCond .eq 12, 3) := by decide +kernel
theorem dX10_step_9 : decode cX10_step 9 = .ok (.iload_n 3, 1) := by decide +kernel
theorem dX10_step_10 : decode cX10_step 10 = .ok (.ifCond .lt 8, 3) := by decide +kernel
theorem dX10_step_13 : decode cX10_step 13 = .ok (.iload_n 3, 1) := by decide +kernel
theorem dX10_step_14 : decode cX10_step 14 = .ok (.iconst 2, 1) := by decide +kernel
theorem dX10_step_15 : decode cX10_step 15 = .ok (.if_icmp .le 5, 3) := by decide +kernel
theorem dX10_step_18 : decode cX10_step 18 = .ok (.iconst (-1), 1) := by decide +kernel
theorem dX10_step_19 : decode cX10_step 19 = .ok (.ireturn, 1) := by decide +kernel
theorem dX10_step_20 : decode cX10_step 20 = .ok (.aload_n 0, 1) := by decide +kernel
theorem dX10_step_21 : decode cX10_step 21 = .ok (.getfield 44, 3) := by decide +kernel
theorem dX10_step_24 : decode cX10_step 24 = .ok (.invokevirtual 171, 3) := by decide +kernel
theorem dX10_step_27 : decode cX10_step 27 = .ok (.aload_n 0, 1) := by decide +kernel
theorem dX10_step_28 : decode cX10_step 28 = .ok (.getfield 44, 3) := by decide +kernel
theorem dX10_step_31 : decode cX10_step 31 = .ok (.iload_n 1, 1) := by decide +kernel
theorem dX10_step_32 : decode cX10_step 32 = .ok (.iload_n 2, 1) := by decide +kernel
theorem dX10_step_33 : decode cX10_step 33 = .ok (.invokevirtual 174, 3) := by decide +kernel
theorem dX10_step_36 : decode cX10_step 36 = .ok (.ifCond .ne 6, 3) := by decide +kernel
theorem dX10_step_39 : decode cX10_step 39 = .ok (.bipush (-2), 2) := by decide +kernel
theorem dX10_step_41 : decode cX10_step 41 = .ok (.ireturn, 1) := by decide +kernel
theorem dX10_step_42 : decode cX10_step 42 = .ok (.iload_n 3, 1) := by decide +kernel
theorem dX10_step_43 : decode cX10_step 43 = .ok (.ifCond .ne 13, 3) := by decide +kernel
theorem dX10_step_46 : decode cX10_step 46 = .ok (.aload_n 0, 1) := by decide +kernel
theorem dX10_step_47 : decode cX10_step 47 = .ok (.getfield 44, 3) := by decide +kernel
theorem dX10_step_50 : decode cX10_step 50 = .ok (.iload_n 1, 1) := by decide +kernel
theorem dX10_step_51 : decode cX10_step 51 = .ok (.iload_n 2, 1) := by decide +kernel
theorem dX10_step_52 : decode cX10_step 52 = .ok (.invokevirtual 174, 3) := by decide +kernel
theorem dX10_step_55 : decode cX10_step 55 = .ok (.ireturn, 1) := by decide +kernel
theorem dX10_step_56 : decode cX10_step 56 = .ok (.iload_n 3, 1) := by decide +kernel
theorem dX10_step_57 : decode cX10_step 57 = .ok (.iconst 1, 1) := by decide +kernel
theorem dX10_step_58 : decode cX10_step 58 = .ok (.if_icmp .ne 15, 3) := by decide +kernel
theorem dX10_step_61 : decode cX10_step 61 = .ok (.aload_n 0, 1) := by decide +kernel
theorem dX10_step_62 : decode cX10_step 62 = .ok (.getfield 44, 3) := by decide +kernel
theorem dX10_step_65 : decode cX10_step 65 = .ok (.iload_n 1, 1) := by decide +kernel
theorem dX10_step_66 : decode cX10_step 66 = .ok (.iload_n 2, 1) := by decide +kernel
theorem dX10_step_67 : decode cX10_step 67 = .ok (.invokevirtual 178, 3) := by decide +kernel
theorem dX10_step_70 : decode cX10_step 70 = .ok (.goto 12, 3) := by decide +kernel
theorem dX10_step_73 : decode cX10_step 73 = .ok (.aload_n 0, 1) := by decide +kernel
theorem dX10_step_74 : decode cX10_step 74 = .ok (.getfield 44, 3) := by decide +kernel
theorem dX10_step_77 : decode cX10_step 77 = .ok (.iload_n 1, 1) := by decide +kernel
theorem dX10_step_78 : decode cX10_step 78 = .ok (.iload_n 2, 1) := by decide +kernel
theorem dX10_step_79 : decode cX10_step 79 = .ok (.invokevirtual 181, 3) := by decide +kernel
theorem dX10_step_82 : decode cX10_step 82 = .ok (.ireturn, 1) := by decide +kernel
theorem dX10_walks_0 : decode cX10_walks 0 = .ok (.aload_n 0, 1) := by decide +kernel
theorem dX10_walks_1 : decode cX10_walks 1 = .ok (.iload_n 1, 1) := by decide +kernel
theorem dX10_walks_2 : decode cX10_walks 2 = .ok (.iload_n 2, 1) := by decide +kernel
theorem dX10_walks_3 : decode cX10_walks 3 = .ok (.invokevirtual 167, 3) := by decide +kernel
theorem dX10_walks_6 : decode cX10_walks 6 = .ok (.ifCond .eq 13, 3) := by decide +kernel
theorem dX10_walks_9 : decode cX10_walks 9 = .ok (.iload_n 3, 1) := by decide +kernel
theorem dX10_walks_10 : decode cX10_walks 10 = .ok (.ifCond .lt 9, 3) := by decide +kernel
theorem dX10_walks_13 : decode cX10_walks 13 = .ok (.iload_n 3, 1) := by decide +kernel
theorem dX10_walks_14 : decode cX10_walks 14 = .ok (.bipush 10, 2) := by decide +kernel
theorem dX10_walks_16 : decode cX10_walks 16 = .ok (.if_icmp .le 7, 3) := by decide +kernel
theorem dX10_walks_19 : decode cX10_walks 19 = .ok (.ldc2_w 196, 3) := by decide +kernel
theorem dX10_walks_22 : decode cX10_walks 22 = .ok (.lreturn, 1) := by decide +kernel
theorem dX10_walks_23 : decode cX10_walks 23 = .ok (.aload_n 0, 1) := by decide +kernel
theorem dX10_walks_24 : decode cX10_walks 24 = .ok (.getfield 19, 3) := by decide +kernel
theorem dX10_walks_27 : decode cX10_walks 27 = .ok (.iload_n 1, 1) := by decide +kernel
theorem dX10_walks_28 : decode cX10_walks 28 = .ok (.invokevirtual 213, 3) := by decide +kernel
theorem dX10_walks_31 : decode cX10_walks 31 = .ok (.ifCond .eq 14, 3) := by decide +kernel
theorem dX10_walks_34 : decode cX10_walks 34 = .ok (.aload_n 0, 1) := by decide +kernel
theorem dX10_walks_35 : decode cX10_walks 35 = .ok (.getfield 19, 3) := by decide +kernel
theorem dX10_walks_38 : decode cX10_walks 38 = .ok (.iload_n 2, 1) := by decide +kernel
theorem dX10_walks_39 : decode cX10_walks 39 = .ok (.invokevirtual 213, 3) := by decide +kernel
theorem dX10_walks_42 : decode cX10_walks 42 = .ok (.ifCond .ne 5, 3) := by decide +kernel
theorem dX10_walks_45 : decode cX10_walks 45 = .ok (.lconst 0, 1) := by decide +kernel
theorem dX10_walks_46 : decode cX10_walks 46 = .ok (.lreturn, 1) := by decide +kernel
theorem dX10_walks_47 : decode cX10_walks 47 = .ok (.aload_n 0, 1) := by decide +kernel
theorem dX10_walks_48 : decode cX10_walks 48 = .ok (.getfield 44, 3) := by decide +kernel
theorem dX10_walks_51 : decode cX10_walks 51 = .ok (.invokevirtual 171, 3) := by decide +kernel
theorem dX10_walks_54 : decode cX10_walks 54 = .ok (.aload_n 0, 1) := by decide +kernel
theorem dX10_walks_55 : decode cX10_walks 55 = .ok (.getfield 53, 3) := by decide +kernel
theorem dX10_walks_58 : decode cX10_walks 58 = .ok (.iload_n 1, 1) := by decide +kernel
theorem dX10_walks_59 : decode cX10_walks 59 = .ok (.iload_n 2, 1) := by decide +kernel
theorem dX10_walks_60 : decode cX10_walks 60 = .ok (.iload_n 3, 1) := by decide +kernel
theorem dX10_walks_61 : decode cX10_walks 61 = .ok (.invokevirtual 263, 3) := by decide +kernel
theorem dX10_walks_64 : decode cX10_walks 64 = .ok (.lreturn, 1) := by decide +kernel
theorem dX10_without_0 : decode cX10_without 0 = .ok (.aload_n 0, 1) := by decide +kernel
theorem dX10_without_1 : decode cX10_without 1 = .ok (.iload_n 1, 1) := by decide +kernel
theorem dX10_without_2 : decode cX10_without 2 = .ok (.iload_n 2, 1) := by decide +kernel
theorem dX10_without_3 : decode cX10_without 3 = .ok (.invokevirtual 167, 3) := by decide +kernel
theorem dX10_without_6 : decode cX10_without 6 = .ok (.ifCond .ne 7, 3) := by decide +kernel
theorem dX10_without_9 : decode cX10_without 9 = .ok (.ldc2_w 196, 3) := by decide +kernel
theorem dX10_without_12 : decode cX10_without 12 = .ok (.lreturn, 1) := by decide +kernel
theorem dX10_without_13 : decode cX10_without 13 = .ok (.aload_n 0, 1) := by decide +kernel
theorem dX10_without_14 : decode cX10_without 14 = .ok (.getfield 44, 3) := by decide +kernel
theorem dX10_without_17 : decode cX10_without 17 = .ok (.invokevirtual 171, 3) := by decide +kernel
theorem dX10_without_20 : decode cX10_without 20 = .ok (.aload_n 0, 1) := by decide +kernel
theorem dX10_without_21 : decode cX10_without 21 = .ok (.getfield 53, 3) := by decide +kernel
theorem dX10_without_24 : decode cX10_without 24 = .ok (.invokevirtual 202, 3) := by decide +kernel
theorem dX10_without_27 : decode cX10_without 27 = .ok (.aload_n 0, 1) := by decide +kernel
theorem dX10_without_28 : decode cX10_without 28 = .ok (.getfield 53, 3) := by decide +kernel
theorem dX10_without_31 : decode cX10_without 31 = .ok (.iload_n 1, 1) := by decide +kernel
theorem dX10_without_32 : decode cX10_without 32 = .ok (.iload_n 2, 1) := by decide +kernel
theorem dX10_without_33 : decode cX10_without 33 = .ok (.invokevirtual 205, 3) := by decide +kernel
theorem dX10_without_36 : decode cX10_without 36 = .ok (.ifCond .eq 15, 3) := by decide +kernel
theorem dX10_without_39 : decode cX10_without 39 = .ok (.aload_n 0, 1) := by decide +kernel
theorem dX10_without_40 : decode cX10_without 40 = .ok (.getfield 53, 3) := by decide +kernel
theorem dX10_without_43 : decode cX10_without 43 = .ok (.iload_n 1, 1) := by decide +kernel
theorem dX10_without_44 : decode cX10_without 44 = .ok (.iload_n 2, 1) := by decide +kernel
theorem dX10_without_45 : decode cX10_without 45 = .ok (.invokevirtual 208, 3) := by decide +kernel
theorem dX10_without_48 : decode cX10_without 48 = .ok (.goto 6, 3) := by decide +kernel
theorem dX10_without_51 : decode cX10_without 51 = .ok (.ldc2_w 211, 3) := by decide +kernel
theorem dX10_without_54 : decode cX10_without 54 = .ok (.lreturn, 1) := by decide +kernel
theorem dX10_word_0 : decode cX10_word 0 = .ok (.iload_n 1, 1) := by decide +kernel
theorem dX10_word_1 : decode cX10_word 1 = .ok (.iconst 1, 1) := by decide +kernel
theorem dX10_word_2 : decode cX10_word 2 = .ok (.if_icmp .lt 31, 3) := by decide +kernel
theorem dX10_word_5 : decode cX10_word 5 = .ok (.iload_n 1, 1) := by decide +kernel
theorem dX10_word_6 : decode cX10_word 6 = .ok (.bipush 8, 2) := by decide +kernel
theorem dX10_word_8 : decode cX10_word 8 = .ok (.if_icmp .gt 25, 3) := by decide +kernel
theorem dX10_word_11 : decode cX10_word 11 = .ok (.iload_n 2, 1) := by decide +kernel
theorem dX10_word_12 : decode cX10_word 12 = .ok (.invokestatic 108, 3) := by decide +kernel
theorem dX10_word_15 : decode cX10_word 15 = .ok (.ifCond .eq 18, 3) := by decide +kernel
theorem dX10_word_18 : decode cX10_word 18 = .ok (.iload_n 3, 1) := by decide +kernel
theorem dX10_word_19 : decode cX10_word 19 = .ok (.iconst 1, 1) := by decide +kernel
theorem dX10_word_20 : decode cX10_word 20 = .ok (.if_icmp .lt 13, 3) := by decide +kernel
theorem dX10_word_23 : decode cX10_word 23 = .ok (.iload_n 3, 1) := by decide +kernel
theorem dX10_word_24 : decode cX10_word 24 = .ok (.bipush 15, 2) := by decide +kernel
theorem dX10_word_26 : decode cX10_word 26 = .ok (.if_icmp .gt 7, 3) := by decide +kernel
theorem dX10_word_29 : decode cX10_word 29 = .ok (.iconst 1, 1) := by decide +kernel
theorem dX10_word_30 : decode cX10_word 30 = .ok (.goto 4, 3) := by decide +kernel
theorem dX10_word_33 : decode cX10_word 33 = .ok (.iconst 0, 1) := by decide +kernel
theorem dX10_word_34 : decode cX10_word 34 = .ok (.istore 4, 2) := by decide +kernel
theorem dX10_word_36 : decode cX10_word 36 = .ok (.iload 4, 2) := by decide +kernel
theorem dX10_word_38 : decode cX10_word 38 = .ok (.ifCond .eq 26, 3) := by decide +kernel
theorem dX10_word_41 : decode cX10_word 41 = .ok (.aload_n 0, 1) := by decide +kernel
theorem dX10_word_42 : decode cX10_word 42 = .ok (.getfield 19, 3) := by decide +kernel
theorem dX10_word_45 : decode cX10_word 45 = .ok (.getfield 112, 3) := by decide +kernel
theorem dX10_word_48 : decode cX10_word 48 = .ok (.bipush 40, 2) := by decide +kernel
theorem dX10_word_50 : decode cX10_word 50 = .ok (.if_icmp .ge 14, 3) := by decide +kernel
theorem dX10_word_53 : decode cX10_word 53 = .ok (.aload_n 0, 1) := by decide +kernel
theorem dX10_word_54 : decode cX10_word 54 = .ok (.getfield 10, 3) := by decide +kernel
theorem dX10_word_57 : decode cX10_word 57 = .ok (.iload_n 1, 1) := by decide +kernel
theorem dX10_word_58 : decode cX10_word 58 = .ok (.invokevirtual 113, 3) := by decide +kernel
theorem dX10_word_61 : decode cX10_word 61 = .ok (.ifCond .ne 5, 3) := by decide +kernel
theorem dX10_word_64 : decode cX10_word 64 = .ok (.iconst (-1), 1) := by decide +kernel
theorem dX10_word_65 : decode cX10_word 65 = .ok (.ireturn, 1) := by decide +kernel
theorem dX10_word_66 : decode cX10_word 66 = .ok (.aload_n 0, 1) := by decide +kernel
theorem dX10_word_67 : decode cX10_word 67 = .ok (.getfield 10, 3) := by decide +kernel
theorem dX10_word_70 : decode cX10_word 70 = .ok (.invokevirtual 116, 3) := by decide +kernel
theorem dX10_word_73 : decode cX10_word 73 = .ok (.ifCond .ne 6, 3) := by decide +kernel
theorem dX10_word_76 : decode cX10_word 76 = .ok (.bipush (-2), 2) := by decide +kernel
theorem dX10_word_78 : decode cX10_word 78 = .ok (.ireturn, 1) := by decide +kernel
theorem dX10_word_79 : decode cX10_word 79 = .ok (.aload_n 0, 1) := by decide +kernel
theorem dX10_word_80 : decode cX10_word 80 = .ok (.getfield 10, 3) := by decide +kernel
theorem dX10_word_83 : decode cX10_word 83 = .ok (.invokevirtual 119, 3) := by decide +kernel
theorem dX10_word_86 : decode cX10_word 86 = .ok (.lstore 5, 2) := by decide +kernel
theorem dX10_word_88 : decode cX10_word 88 = .ok (.aload_n 0, 1) := by decide +kernel
theorem dX10_word_89 : decode cX10_word 89 = .ok (.getfield 19, 3) := by decide +kernel
theorem dX10_word_92 : decode cX10_word 92 = .ok (.lload 5, 2) := by decide +kernel
theorem dX10_word_94 : decode cX10_word 94 = .ok (.invokevirtual 123, 3) := by decide +kernel
theorem dX10_word_97 : decode cX10_word 97 = .ok (.ifCond .eq 6, 3) := by decide +kernel
theorem dX10_word_100 : decode cX10_word 100 = .ok (.bipush (-2), 2) := by decide +kernel
theorem dX10_word_102 : decode cX10_word 102 = .ok (.ireturn, 1) := by decide +kernel
theorem dX10_word_103 : decode cX10_word 103 = .ok (.aload_n 0, 1) := by decide +kernel
theorem dX10_word_104 : decode cX10_word 104 = .ok (.getfield 19, 3) := by decide +kernel
theorem dX10_word_107 : decode cX10_word 107 = .ok (.lload 5, 2) := by decide +kernel
theorem dX10_word_109 : decode cX10_word 109 = .ok (.iload_n 2, 1) := by decide +kernel
theorem dX10_word_110 : decode cX10_word 110 = .ok (.iload_n 3, 1) := by decide +kernel
theorem dX10_word_111 : decode cX10_word 111 = .ok (.invokevirtual 127, 3) := by decide +kernel
theorem dX10_word_114 : decode cX10_word 114 = .ok (.istore 7, 2) := by decide +kernel
theorem dX10_word_116 : decode cX10_word 116 = .ok (.aload_n 0, 1) := by decide +kernel
theorem dX10_word_117 : decode cX10_word 117 = .ok (.getfield 44, 3) := by decide +kernel
theorem dX10_word_120 : decode cX10_word 120 = .ok (.invokevirtual 131, 3) := by decide +kernel
theorem dX10_word_123 : decode cX10_word 123 = .ok (.iload 7, 2) := by decide +kernel
theorem dX10_word_125 : decode cX10_word 125 = .ok (.ireturn, 1) := by decide +kernel
theorem dX0_addClause_0 : decode cX0_addClause 0 = .ok (.aload_n 0, 1) := by decide +kernel
theorem dX0_addClause_1 : decode cX0_addClause 1 = .ok (.getfield 31, 3) := by decide +kernel
theorem dX0_addClause_4 : decode cX0_addClause 4 = .ok (.bipush 12, 2) := by decide +kernel
theorem dX0_addClause_6 : decode cX0_addClause 6 = .ok (.if_icmp .ge 33, 3) := by decide +kernel
theorem dX0_addClause_9 : decode cX0_addClause 9 = .ok (.aload_n 0, 1) := by decide +kernel
theorem dX0_addClause_10 : decode cX0_addClause 10 = .ok (.getfield 15, 3) := by decide +kernel
theorem dX0_addClause_13 : decode cX0_addClause 13 = .ok (.aload_n 0, 1) := by decide +kernel
theorem dX0_addClause_14 : decode cX0_addClause 14 = .ok (.getfield 31, 3) := by decide +kernel
theorem dX0_addClause_17 : decode cX0_addClause 17 = .ok (.iload_n 1, 1) := by decide +kernel
theorem dX0_addClause_18 : decode cX0_addClause 18 = .ok (.iastore, 1) := by decide +kernel
theorem dX0_addClause_19 : decode cX0_addClause 19 = .ok (.aload_n 0, 1) := by decide +kernel
theorem dX0_addClause_20 : decode cX0_addClause 20 = .ok (.getfield 18, 3) := by decide +kernel
theorem dX0_addClause_23 : decode cX0_addClause 23 = .ok (.aload_n 0, 1) := by decide +kernel
theorem dX0_addClause_24 : decode cX0_addClause 24 = .ok (.getfield 31, 3) := by decide +kernel
theorem dX0_addClause_27 : decode cX0_addClause 27 = .ok (.iload_n 2, 1) := by decide +kernel
theorem dX0_addClause_28 : decode cX0_addClause 28 = .ok (.iastore, 1) := by decide +kernel
theorem dX0_addClause_29 : decode cX0_addClause 29 = .ok (.aload_n 0, 1) := by decide +kernel
theorem dX0_addClause_30 : decode cX0_addClause 30 = .ok (.dup, 1) := by decide +kernel
theorem dX0_addClause_31 : decode cX0_addClause 31 = .ok (.getfield 31, 3) := by decide +kernel
theorem dX0_addClause_34 : decode cX0_addClause 34 = .ok (.iconst 1, 1) := by decide +kernel
theorem dX0_addClause_35 : decode cX0_addClause 35 = .ok (.iadd, 1) := by decide +kernel
theorem dX0_addClause_36 : decode cX0_addClause 36 = .ok (.putfield 31, 3) := by decide +kernel
theorem dX0_addClause_39 : decode cX0_addClause 39 = .ok (.return_, 1) := by decide +kernel
theorem dX0_become_0 : decode cX0_become 0 = .ok (.aload_n 1, 1) := by decide +kernel
theorem dX0_become_1 : decode cX0_become 1 = .ok (.getfield 11, 3) := by decide +kernel
theorem dX0_become_4 : decode cX0_become 4 = .ok (.iconst 0, 1) := by decide +kernel
theorem dX0_become_5 : decode cX0_become 5 = .ok (.aload_n 0, 1) := by decide +kernel
theorem dX0_become_6 : decode cX0_become 6 = .ok (.getfield 11, 3) := by decide +kernel
theorem dX0_become_9 : decode cX0_become 9 = .ok (.iconst 0, 1) := by decide +kernel
theorem dX0_become_10 : decode cX0_become 10 = .ok (.sipush 400, 3) := by decide +kernel
theorem dX0_become_13 : decode cX0_become 13 = .ok (.invokestatic 34, 3) := by decide +kernel
theorem dX0_become_16 : decode cX0_become 16 = .ok (.aload_n 1, 1) := by decide +kernel
theorem dX0_become_17 : decode cX0_become 17 = .ok (.getfield 15, 3) := by decide +kernel
theorem dX0_become_20 : decode cX0_become 20 = .ok (.iconst 0, 1) := by decide +kernel
theorem dX0_become_21 : decode cX0_become 21 = .ok (.aload_n 0, 1) := by decide +kernel
theorem dX0_become_22 : decode cX0_become 22 = .ok (.getfield 15, 3) := by decide +kernel
theorem dX0_become_25 : decode cX0_become 25 = .ok (.iconst 0, 1) := by decide +kernel
theorem dX0_become_26 : decode cX0_become 26 = .ok (.bipush 12, 2) := by decide +kernel
theorem dX0_become_28 : decode cX0_become 28 = .ok (.invokestatic 34, 3) := by decide +kernel
theorem dX0_become_31 : decode cX0_become 31 = .ok (.aload_n 1, 1) := by decide +kernel
theorem dX0_become_32 : decode cX0_become 32 = .ok (.getfield 18, 3) := by decide +kernel
theorem dX0_become_35 : decode cX0_become 35 = .ok (.iconst 0, 1) := by decide +kernel
theorem dX0_become_36 : decode cX0_become 36 = .ok (.aload_n 0, 1) := by decide +kernel
theorem dX0_become_37 : decode cX0_become 37 = .ok (.getfield 18, 3) := by decide +kernel
theorem dX0_become_40 : decode cX0_become 40 = .ok (.iconst 0, 1) := by decide +kernel
theorem dX0_become_41 : decode cX0_become 41 = .ok (.bipush 12, 2) := by decide +kernel
theorem dX0_become_43 : decode cX0_become 43 = .ok (.invokestatic 34, 3) := by decide +kernel
theorem dX0_become_46 : decode cX0_become 46 = .ok (.aload_n 0, 1) := by decide +kernel
theorem dX0_become_47 : decode cX0_become 47 = .ok (.aload_n 1, 1) := by decide +kernel
theorem dX0_become_48 : decode cX0_become 48 = .ok (.getfield 27, 3) := by decide +kernel
theorem dX0_become_51 : decode cX0_become 51 = .ok (.putfield 27, 3) := by decide +kernel
theorem dX0_become_54 : decode cX0_become 54 = .ok (.aload_n 0, 1) := by decide +kernel
theorem dX0_become_55 : decode cX0_become 55 = .ok (.aload_n 1, 1) := by decide +kernel
theorem dX0_become_56 : decode cX0_become 56 = .ok (.getfield 31, 3) := by decide +kernel
theorem dX0_become_59 : decode cX0_become 59 = .ok (.putfield 31, 3) := by decide +kernel
theorem dX0_become_62 : decode cX0_become 62 = .ok (.aload_n 0, 1) := by decide +kernel
theorem dX0_become_63 : decode cX0_become 63 = .ok (.dup, 1) := by decide +kernel
theorem dX0_become_64 : decode cX0_become 64 = .ok (.getfield 40, 3) := by decide +kernel
theorem dX0_become_67 : decode cX0_become 67 = .ok (.iconst 1, 1) := by decide +kernel
theorem dX0_become_68 : decode cX0_become 68 = .ok (.iadd, 1) := by decide +kernel
theorem dX0_become_69 : decode cX0_become 69 = .ok (.putfield 40, 3) := by decide +kernel
theorem dX0_become_72 : decode cX0_become 72 = .ok (.return_, 1) := by decide +kernel
theorem dX0_costOfNamed_0 : decode cX0_costOfNamed 0 = .ok (.iconst 0, 1) := by decide +kernel
theorem dX0_costOfNamed_1 : decode cX0_costOfNamed 1 = .ok (.istore_n 1, 1) := by decide +kernel
theorem dX0_costOfNamed_2 : decode cX0_costOfNamed 2 = .ok (.iconst 0, 1) := by decide +kernel
theorem dX0_costOfNamed_3 : decode cX0_costOfNamed 3 = .ok (.istore_n 2, 1) := by decide +kernel
theorem dX0_costOfNamed_4 : decode cX0_costOfNamed 4 = .ok (.iload_n 2, 1) := by decide +kernel
theorem dX0_costOfNamed_5 : decode cX0_costOfNamed 5 = .ok (.aload_n 0, 1) := by decide +kernel
theorem dX0_costOfNamed_6 : decode cX0_costOfNamed 6 = .ok (.getfield 31, 3) := by decide +kernel
theorem dX0_costOfNamed_9 : decode cX0_costOfNamed 9 = .ok (.if_icmp .ge 103, 3) := by decide +kernel
theorem dX0_costOfNamed_12 : decode cX0_costOfNamed 12 = .ok (.aload_n 0, 1) := by decide +kernel
theorem dX0_costOfNamed_13 : decode cX0_costOfNamed 13 = .ok (.getfield 15, 3) := by decide +kernel
theorem dX0_costOfNamed_16 : decode cX0_costOfNamed 16 = .ok (.iload_n 2, 1) := by decide +kernel
theorem dX0_costOfNamed_17 : decode cX0_costOfNamed 17 = .ok (.iaload, 1) := by decide +kernel
theorem dX0_costOfNamed_18 : decode cX0_costOfNamed 18 = .ok (.iconst (-1), 1) := by decide +kernel
theorem dX0_costOfNamed_19 : decode cX0_costOfNamed 19 = .ok (.if_icmp .ne 7, 3) := by decide +kernel
theorem dX0_costOfNamed_22 : decode cX0_costOfNamed 22 = .ok (.iconst 1, 1) := by decide +kernel
theorem dX0_costOfNamed_23 : decode cX0_costOfNamed 23 = .ok (.goto 4, 3) := by decide +kernel
theorem dX0_costOfNamed_26 : decode cX0_costOfNamed 26 = .ok (.iconst 0, 1) := by decide +kernel
theorem dX0_costOfNamed_27 : decode cX0_costOfNamed 27 = .ok (.istore_n 3, 1) := by decide +kernel
theorem dX0_costOfNamed_28 : decode cX0_costOfNamed 28 = .ok (.iload_n 3, 1) := by decide +kernel
theorem dX0_costOfNamed_29 : decode cX0_costOfNamed 29 = .ok (.ifCond .ne 7, 3) := by decide +kernel
theorem dX0_costOfNamed_32 : decode cX0_costOfNamed 32 = .ok (.iload_n 1, 1) := by decide +kernel
theorem dX0_costOfNamed_33 : decode cX0_costOfNamed 33 = .ok (.ifCond .ne 73, 3) := by decide +kernel
theorem dX0_costOfNamed_36 : decode cX0_costOfNamed 36 = .ok (.aload_n 0, 1) := by decide +kernel
theorem dX0_costOfNamed_37 : decode cX0_costOfNamed 37 = .ok (.aload_n 0, 1) := by decide +kernel
theorem dX0_costOfNamed_38 : decode cX0_costOfNamed 38 = .ok (.getfield 18, 3) := by decide +kernel
theorem dX0_costOfNamed_41 : decode cX0_costOfNamed 41 = .ok (.iload_n 2, 1) := by decide +kernel
theorem dX0_costOfNamed_42 : decode cX0_costOfNamed 42 = .ok (.iaload, 1) := by decide +kernel
theorem dX0_costOfNamed_43 : decode cX0_costOfNamed 43 = .ok (.invokevirtual 43, 3) := by decide +kernel
theorem dX0_costOfNamed_46 : decode cX0_costOfNamed 46 = .ok (.ifCond .eq 60, 3) := by decide +kernel
theorem dX0_costOfNamed_49 : decode cX0_costOfNamed 49 = .ok (.aload_n 0, 1) := by decide +kernel
theorem dX0_costOfNamed_50 : decode cX0_costOfNamed 50 = .ok (.getfield 47, 3) := by decide +kernel
theorem dX0_costOfNamed_53 : decode cX0_costOfNamed 53 = .ok (.ifCond .eq 53, 3) := by decide +kernel
theorem dX0_costOfNamed_56 : decode cX0_costOfNamed 56 = .ok (.iload_n 3, 1) := by decide +kernel
theorem dX0_costOfNamed_57 : decode cX0_costOfNamed 57 = .ok (.ifCond .eq 5, 3) := by decide +kernel
theorem dX0_costOfNamed_60 : decode cX0_costOfNamed 60 = .ok (.iconst 0, 1) := by decide +kernel
theorem dX0_costOfNamed_61 : decode cX0_costOfNamed 61 = .ok (.ireturn, 1) := by decide +kernel
theorem dX0_costOfNamed_62 : decode cX0_costOfNamed 62 = .ok (.aload_n 0, 1) := by decide +kernel
theorem dX0_costOfNamed_63 : decode cX0_costOfNamed 63 = .ok (.aload_n 0, 1) := by decide +kernel
theorem dX0_costOfNamed_64 : decode cX0_costOfNamed 64 = .ok (.getfield 15, 3) := by decide +kernel
theorem dX0_costOfNamed_67 : decode cX0_costOfNamed 67 = .ok (.iload_n 2, 1) := by decide +kernel
theorem dX0_costOfNamed_68 : decode cX0_costOfNamed 68 = .ok (.iaload, 1) := by decide +kernel
theorem dX0_costOfNamed_69 : decode cX0_costOfNamed 69 = .ok (.invokevirtual 43, 3) := by decide +kernel
theorem dX0_costOfNamed_72 : decode cX0_costOfNamed 72 = .ok (.ifCond .eq 19, 3) := by decide +kernel
theorem dX0_costOfNamed_75 : decode cX0_costOfNamed 75 = .ok (.aload_n 0, 1) := by decide +kernel
theorem dX0_costOfNamed_76 : decode cX0_costOfNamed 76 = .ok (.getfield 51, 3) := by decide +kernel
theorem dX0_costOfNamed_79 : decode cX0_costOfNamed 79 = .ok (.ifCond .le 12, 3) := by decide +kernel
theorem dX0_costOfNamed_82 : decode cX0_costOfNamed 82 = .ok (.aload_n 0, 1) := by decide +kernel
theorem dX0_costOfNamed_83 : decode cX0_costOfNamed 83 = .ok (.getfield 24, 3) := by decide +kernel
theorem dX0_costOfNamed_86 : decode cX0_costOfNamed 86 = .ok (.iconst 0, 1) := by decide +kernel
theorem dX0_costOfNamed_87 : decode cX0_costOfNamed 87 = .ok (.iaload, 1) := by decide +kernel
theorem dX0_costOfNamed_88 : decode cX0_costOfNamed 88 = .ok (.goto 4, 3) := by decide +kernel
theorem dX0_costOfNamed_91 : decode cX0_costOfNamed 91 = .ok (.iconst 0, 1) := by decide +kernel
theorem dX0_costOfNamed_92 : decode cX0_costOfNamed 92 = .ok (.istore 4, 2) := by decide +kernel
theorem dX0_costOfNamed_94 : decode cX0_costOfNamed 94 = .ok (.iconst 1, 1) := by decide +kernel
theorem dX0_costOfNamed_95 : decode cX0_costOfNamed 95 = .ok (.bipush 99, 2) := by decide +kernel
theorem dX0_costOfNamed_97 : decode cX0_costOfNamed 97 = .ok (.iload 4, 2) := by decide +kernel
theorem dX0_costOfNamed_99 : decode cX0_costOfNamed 99 = .ok (.invokestatic 54, 3) := by decide +kernel
theorem dX0_costOfNamed_102 : decode cX0_costOfNamed 102 = .ok (.invokestatic 60, 3) := by decide +kernel
theorem dX0_costOfNamed_105 : decode cX0_costOfNamed 105 = .ok (.istore_n 1, 1) := by decide +kernel
theorem dX0_costOfNamed_106 : decode cX0_costOfNamed 106 = .ok (.iinc 2 1, 3) := by decide +kernel
theorem dX0_costOfNamed_109 : decode cX0_costOfNamed 109 = .ok (.goto (-105), 3) := by decide +kernel
theorem dX0_costOfNamed_112 : decode cX0_costOfNamed 112 = .ok (.iload_n 1, 1) := by decide +kernel
theorem dX0_costOfNamed_113 : decode cX0_costOfNamed 113 = .ok (.ifCond .ne 7, 3) := by decide +kernel
theorem dX0_costOfNamed_116 : decode cX0_costOfNamed 116 = .ok (.iconst 1, 1) := by decide +kernel
theorem dX0_costOfNamed_117 : decode cX0_costOfNamed 117 = .ok (.goto 4, 3) := by decide +kernel
theorem dX0_costOfNamed_120 : decode cX0_costOfNamed 120 = .ok (.iload_n 1, 1) := by decide +kernel
theorem dX0_costOfNamed_121 : decode cX0_costOfNamed 121 = .ok (.ireturn, 1) := by decide +kernel
theorem dX0_joinsTwo_0 : decode cX0_joinsTwo 0 = .ok (.aload_n 0, 1) := by decide +kernel
theorem dX0_joinsTwo_1 : decode cX0_joinsTwo 1 = .ok (.getfield 51, 3) := by decide +kernel
theorem dX0_joinsTwo_4 : decode cX0_joinsTwo 4 = .ok (.iconst 2, 1) := by decide +kernel
theorem dX0_joinsTwo_5 : decode cX0_joinsTwo 5 = .ok (.if_icmp .lt 12, 3) := by decide +kernel
theorem dX0_joinsTwo_8 : decode cX0_joinsTwo 8 = .ok (.aload_n 0, 1) := by decide +kernel
theorem dX0_joinsTwo_9 : decode cX0_joinsTwo 9 = .ok (.getfield 51, 3) := by decide +kernel
theorem dX0_joinsTwo_12 : decode cX0_joinsTwo 12 = .ok (.bipush 32, 2) := by decide +kernel
theorem dX0_joinsTwo_14 : decode cX0_joinsTwo 14 = .ok (.if_icmp .le 5, 3) := by decide +kernel
theorem dX0_joinsTwo_17 : decode cX0_joinsTwo 17 = .ok (.iconst 0, 1) := by decide +kernel
theorem dX0_joinsTwo_18 : decode cX0_joinsTwo 18 = .ok (.ireturn, 1) := by decide +kernel
theorem dX0_joinsTwo_19 : decode cX0_joinsTwo 19 = .ok (.aload_n 0, 1) := by decide +kernel
theorem dX0_joinsTwo_20 : decode cX0_joinsTwo 20 = .ok (.getfield 24, 3) := by decide +kernel
theorem dX0_joinsTwo_23 : decode cX0_joinsTwo 23 = .ok (.aload_n 0, 1) := by decide +kernel
theorem dX0_joinsTwo_24 : decode cX0_joinsTwo 24 = .ok (.getfield 51, 3) := by decide +kernel
theorem dX0_joinsTwo_27 : decode cX0_joinsTwo 27 = .ok (.iconst 2, 1) := by decide +kernel
theorem dX0_joinsTwo_28 : decode cX0_joinsTwo 28 = .ok (.isub, 1) := by decide +kernel
theorem dX0_joinsTwo_29 : decode cX0_joinsTwo 29 = .ok (.iaload, 1) := by decide +kernel
theorem dX0_joinsTwo_30 : decode cX0_joinsTwo 30 = .ok (.istore_n 2, 1) := by decide +kernel
theorem dX0_joinsTwo_31 : decode cX0_joinsTwo 31 = .ok (.aload_n 0, 1) := by decide +kernel
theorem dX0_joinsTwo_32 : decode cX0_joinsTwo 32 = .ok (.getfield 24, 3) := by decide +kernel
theorem dX0_joinsTwo_35 : decode cX0_joinsTwo 35 = .ok (.aload_n 0, 1) := by decide +kernel
theorem dX0_joinsTwo_36 : decode cX0_joinsTwo 36 = .ok (.getfield 51, 3) := by decide +kernel
theorem dX0_joinsTwo_39 : decode cX0_joinsTwo 39 = .ok (.iconst 1, 1) := by decide +kernel
theorem dX0_joinsTwo_40 : decode cX0_joinsTwo 40 = .ok (.isub, 1) := by decide +kernel
theorem dX0_joinsTwo_41 : decode cX0_joinsTwo 41 = .ok (.iaload, 1) := by decide +kernel
theorem dX0_joinsTwo_42 : decode cX0_joinsTwo 42 = .ok (.istore_n 3, 1) := by decide +kernel
theorem dX0_joinsTwo_43 : decode cX0_joinsTwo 43 = .ok (.iload_n 1, 1) := by decide +kernel
theorem dX0_joinsTwo_44 : decode cX0_joinsTwo 44 = .ok (.bipush 60, 2) := by decide +kernel
theorem dX0_joinsTwo_46 : decode cX0_joinsTwo 46 = .ok (.if_icmp .eq 15, 3) := by decide +kernel
theorem dX0_joinsTwo_49 : decode cX0_joinsTwo 49 = .ok (.iload_n 1, 1) := by decide +kernel
theorem dX0_joinsTwo_50 : decode cX0_joinsTwo 50 = .ok (.bipush 62, 2) := by decide +kernel
theorem dX0_joinsTwo_52 : decode cX0_joinsTwo 52 = .ok (.if_icmp .eq 9, 3) := by decide +kernel
theorem dX0_joinsTwo_55 : decode cX0_joinsTwo 55 = .ok (.iload_n 1, 1) := by decide +kernel
theorem dX0_joinsTwo_56 : decode cX0_joinsTwo 56 = .ok (.bipush 61, 2) := by decide +kernel
theorem dX0_joinsTwo_58 : decode cX0_joinsTwo 58 = .ok (.if_icmp .ne 67, 3) := by decide +kernel
theorem dX0_joinsTwo_61 : decode cX0_joinsTwo 61 = .ok (.aload_n 0, 1) := by decide +kernel
theorem dX0_joinsTwo_62 : decode cX0_joinsTwo 62 = .ok (.dup, 1) := by decide +kernel
theorem dX0_joinsTwo_63 : decode cX0_joinsTwo 63 = .ok (.getfield 51, 3) := by decide +kernel
theorem dX0_joinsTwo_66 : decode cX0_joinsTwo 66 = .ok (.iconst 2, 1) := by decide +kernel
theorem dX0_joinsTwo_67 : decode cX0_joinsTwo 67 = .ok (.isub, 1) := by decide +kernel
theorem dX0_joinsTwo_68 : decode cX0_joinsTwo 68 = .ok (.putfield 51, 3) := by decide +kernel
theorem dX0_joinsTwo_71 : decode cX0_joinsTwo 71 = .ok (.aload_n 0, 1) := by decide +kernel
theorem dX0_joinsTwo_72 : decode cX0_joinsTwo 72 = .ok (.iload_n 1, 1) := by decide +kernel
theorem dX0_joinsTwo_73 : decode cX0_joinsTwo 73 = .ok (.bipush 60, 2) := by decide +kernel
theorem dX0_joinsTwo_75 : decode cX0_joinsTwo 75 = .ok (.if_icmp .ne 16, 3) := by decide +kernel
theorem dX0_joinsTwo_78 : decode cX0_joinsTwo 78 = .ok (.iload_n 2, 1) := by decide +kernel
theorem dX0_joinsTwo_79 : decode cX0_joinsTwo 79 = .ok (.iload_n 3, 1) := by decide +kernel
theorem dX0_joinsTwo_80 : decode cX0_joinsTwo 80 = .ok (.if_icmp .ge 7, 3) := by decide +kernel
theorem dX0_joinsTwo_83 : decode cX0_joinsTwo 83 = .ok (.iconst 1, 1) := by decide +kernel
theorem dX0_joinsTwo_84 : decode cX0_joinsTwo 84 = .ok (.goto 36, 3) := by decide +kernel
theorem dX0_joinsTwo_87 : decode cX0_joinsTwo 87 = .ok (.iconst 0, 1) := by decide +kernel
theorem dX0_joinsTwo_88 : decode cX0_joinsTwo 88 = .ok (.goto 32, 3) := by decide +kernel
theorem dX0_joinsTwo_91 : decode cX0_joinsTwo 91 = .ok (.iload_n 1, 1) := by decide +kernel
theorem dX0_joinsTwo_92 : decode cX0_joinsTwo 92 = .ok (.bipush 62, 2) := by decide +kernel
theorem dX0_joinsTwo_94 : decode cX0_joinsTwo 94 = .ok (.if_icmp .ne 16, 3) := by decide +kernel
theorem dX0_joinsTwo_97 : decode cX0_joinsTwo 97 = .ok (.iload_n 2, 1) := by decide +kernel
theorem dX0_joinsTwo_98 : decode cX0_joinsTwo 98 = .ok (.iload_n 3, 1) := by decide +kernel
theorem dX0_joinsTwo_99 : decode cX0_joinsTwo 99 = .ok (.if_icmp .le 7, 3) := by decide +kernel
theorem dX0_joinsTwo_102 : decode cX0_joinsTwo 102 = .ok (.iconst 1, 1) := by decide +kernel
theorem dX0_joinsTwo_103 : decode cX0_joinsTwo 103 = .ok (.goto 17, 3) := by decide +kernel
theorem dX0_joinsTwo_106 : decode cX0_joinsTwo 106 = .ok (.iconst 0, 1) := by decide +kernel
theorem dX0_joinsTwo_107 : decode cX0_joinsTwo 107 = .ok (.goto 13, 3) := by decide +kernel
theorem dX0_joinsTwo_110 : decode cX0_joinsTwo 110 = .ok (.iload_n 2, 1) := by decide +kernel
theorem dX0_joinsTwo_111 : decode cX0_joinsTwo 111 = .ok (.iload_n 3, 1) := by decide +kernel
theorem dX0_joinsTwo_112 : decode cX0_joinsTwo 112 = .ok (.if_icmp .ne 7, 3) := by decide +kernel
theorem dX0_joinsTwo_115 : decode cX0_joinsTwo 115 = .ok (.iconst 1, 1) := by decide +kernel
theorem dX0_joinsTwo_116 : decode cX0_joinsTwo 116 = .ok (.goto 4, 3) := by decide +kernel
theorem dX0_joinsTwo_119 : decode cX0_joinsTwo 119 = .ok (.iconst 0, 1) := by decide +kernel
theorem dX0_joinsTwo_120 : decode cX0_joinsTwo 120 = .ok (.putfield 47, 3) := by decide +kernel
theorem dX0_joinsTwo_123 : decode cX0_joinsTwo 123 = .ok (.iconst 1, 1) := by decide +kernel
theorem dX0_joinsTwo_124 : decode cX0_joinsTwo 124 = .ok (.ireturn, 1) := by decide +kernel
theorem dX0_joinsTwo_125 : decode cX0_joinsTwo 125 = .ok (.iload_n 1, 1) := by decide +kernel
theorem dX0_joinsTwo_126 : decode cX0_joinsTwo 126 = .ok (.bipush 43, 2) := by decide +kernel
theorem dX0_joinsTwo_128 : decode cX0_joinsTwo 128 = .ok (.if_icmp .eq 9, 3) := by decide +kernel
theorem dX0_joinsTwo_131 : decode cX0_joinsTwo 131 = .ok (.iload_n 1, 1) := by decide +kernel
theorem dX0_joinsTwo_132 : decode cX0_joinsTwo 132 = .ok (.bipush 45, 2) := by decide +kernel
theorem dX0_joinsTwo_134 : decode cX0_joinsTwo 134 = .ok (.if_icmp .ne 23, 3) := by decide +kernel
theorem dX0_joinsTwo_137 : decode cX0_joinsTwo 137 = .ok (.iload_n 1, 1) := by decide +kernel
theorem dX0_joinsTwo_138 : decode cX0_joinsTwo 138 = .ok (.bipush 43, 2) := by decide +kernel
theorem dX0_joinsTwo_140 : decode cX0_joinsTwo 140 = .ok (.if_icmp .ne 9, 3) := by decide +kernel
theorem dX0_joinsTwo_143 : decode cX0_joinsTwo 143 = .ok (.iload_n 2, 1) := by decide +kernel
theorem dX0_joinsTwo_144 : decode cX0_joinsTwo 144 = .ok (.iload_n 3, 1) := by decide +kernel
theorem dX0_joinsTwo_145 : decode cX0_joinsTwo 145 = .ok (.iadd, 1) := by decide +kernel
theorem dX0_joinsTwo_146 : decode cX0_joinsTwo 146 = .ok (.goto 6, 3) := by decide +kernel
theorem dX0_joinsTwo_149 : decode cX0_joinsTwo 149 = .ok (.iload_n 2, 1) := by decide +kernel
theorem dX0_joinsTwo_150 : decode cX0_joinsTwo 150 = .ok (.iload_n 3, 1) := by decide +kernel
theorem dX0_joinsTwo_151 : decode cX0_joinsTwo 151 = .ok (.isub, 1) := by decide +kernel
theorem dX0_joinsTwo_152 : decode cX0_joinsTwo 152 = .ok (.istore 4, 2) := by decide +kernel
theorem dX0_joinsTwo_154 : decode cX0_joinsTwo 154 = .ok (.goto 40, 3) := by decide +kernel
theorem dX0_joinsTwo_157 : decode cX0_joinsTwo 157 = .ok (.iload_n 1, 1) := by decide +kernel
theorem dX0_joinsTwo_158 : decode cX0_joinsTwo 158 = .ok (.bipush 42, 2) := by decide +kernel
theorem dX0_joinsTwo_160 : decode cX0_joinsTwo 160 = .ok (.if_icmp .ne 11, 3) := by decide +kernel
theorem dX0_joinsTwo_163 : decode cX0_joinsTwo 163 = .ok (.iload_n 2, 1) := by decide +kernel
theorem dX0_joinsTwo_164 : decode cX0_joinsTwo 164 = .ok (.iload_n 3, 1) := by decide +kernel
theorem dX0_joinsTwo_165 : decode cX0_joinsTwo 165 = .ok (.imul, 1) := by decide +kernel
theorem dX0_joinsTwo_166 : decode cX0_joinsTwo 166 = .ok (.istore 4, 2) := by decide +kernel
theorem dX0_joinsTwo_168 : decode cX0_joinsTwo 168 = .ok (.goto 26, 3) := by decide +kernel
theorem dX0_joinsTwo_171 : decode cX0_joinsTwo 171 = .ok (.iload_n 3, 1) := by decide +kernel
theorem dX0_joinsTwo_172 : decode cX0_joinsTwo 172 = .ok (.ifCond .ne 5, 3) := by decide +kernel
theorem dX0_joinsTwo_175 : decode cX0_joinsTwo 175 = .ok (.iconst 0, 1) := by decide +kernel
theorem dX0_joinsTwo_176 : decode cX0_joinsTwo 176 = .ok (.ireturn, 1) := by decide +kernel
theorem dX0_joinsTwo_177 : decode cX0_joinsTwo 177 = .ok (.iload_n 1, 1) := by decide +kernel
theorem dX0_joinsTwo_178 : decode cX0_joinsTwo 178 = .ok (.bipush 47, 2) := by decide +kernel
theorem dX0_joinsTwo_180 : decode cX0_joinsTwo 180 = .ok (.if_icmp .ne 9, 3) := by decide +kernel
theorem dX0_joinsTwo_183 : decode cX0_joinsTwo 183 = .ok (.iload_n 2, 1) := by decide +kernel
theorem dX0_joinsTwo_184 : decode cX0_joinsTwo 184 = .ok (.iload_n 3, 1) := by decide +kernel
theorem dX0_joinsTwo_185 : decode cX0_joinsTwo 185 = .ok (.idiv, 1) := by decide +kernel
theorem dX0_joinsTwo_186 : decode cX0_joinsTwo 186 = .ok (.goto 6, 3) := by decide +kernel
theorem dX0_joinsTwo_189 : decode cX0_joinsTwo 189 = .ok (.iload_n 2, 1) := by decide +kernel
theorem dX0_joinsTwo_190 : decode cX0_joinsTwo 190 = .ok (.iload_n 3, 1) := by decide +kernel
theorem dX0_joinsTwo_191 : decode cX0_joinsTwo 191 = .ok (.irem, 1) := by decide +kernel
theorem dX0_joinsTwo_192 : decode cX0_joinsTwo 192 = .ok (.istore 4, 2) := by decide +kernel
theorem dX0_joinsTwo_194 : decode cX0_joinsTwo 194 = .ok (.aload_n 0, 1) := by decide +kernel
theorem dX0_joinsTwo_195 : decode cX0_joinsTwo 195 = .ok (.dup, 1) := by decide +kernel
theorem dX0_joinsTwo_196 : decode cX0_joinsTwo 196 = .ok (.getfield 51, 3) := by decide +kernel
theorem dX0_joinsTwo_199 : decode cX0_joinsTwo 199 = .ok (.iconst 1, 1) := by decide +kernel
theorem dX0_joinsTwo_200 : decode cX0_joinsTwo 200 = .ok (.isub, 1) := by decide +kernel
theorem dX0_joinsTwo_201 : decode cX0_joinsTwo 201 = .ok (.putfield 51, 3) := by decide +kernel
theorem dX0_joinsTwo_204 : decode cX0_joinsTwo 204 = .ok (.aload_n 0, 1) := by decide +kernel
theorem dX0_joinsTwo_205 : decode cX0_joinsTwo 205 = .ok (.getfield 24, 3) := by decide +kernel
theorem dX0_joinsTwo_208 : decode cX0_joinsTwo 208 = .ok (.aload_n 0, 1) := by decide +kernel
theorem dX0_joinsTwo_209 : decode cX0_joinsTwo 209 = .ok (.getfield 51, 3) := by decide +kernel
theorem dX0_joinsTwo_212 : decode cX0_joinsTwo 212 = .ok (.iconst 1, 1) := by decide +kernel
theorem dX0_joinsTwo_213 : decode cX0_joinsTwo 213 = .ok (.isub, 1) := by decide +kernel
theorem dX0_joinsTwo_214 : decode cX0_joinsTwo 214 = .ok (.iload 4, 2) := by decide +kernel
theorem dX0_joinsTwo_216 : decode cX0_joinsTwo 216 = .ok (.iastore, 1) := by decide +kernel
theorem dX0_joinsTwo_217 : decode cX0_joinsTwo 217 = .ok (.iconst 1, 1) := by decide +kernel
theorem dX0_joinsTwo_218 : decode cX0_joinsTwo 218 = .ok (.ireturn, 1) := by decide +kernel
theorem dX0_landHere_0 : decode cX0_landHere 0 = .ok (.iload_n 1, 1) := by decide +kernel
theorem dX0_landHere_1 : decode cX0_landHere 1 = .ok (.istore_n 2, 1) := by decide +kernel
theorem dX0_landHere_2 : decode cX0_landHere 2 = .ok (.iconst 0, 1) := by decide +kernel
theorem dX0_landHere_3 : decode cX0_landHere 3 = .ok (.istore_n 3, 1) := by decide +kernel
theorem dX0_landHere_4 : decode cX0_landHere 4 = .ok (.iload_n 3, 1) := by decide +kernel
theorem dX0_landHere_5 : decode cX0_landHere 5 = .ok (.sipush 400, 3) := by decide +kernel
theorem dX0_landHere_8 : decode cX0_landHere 8 = .ok (.if_icmp .ge 47, 3) := by decide +kernel
theorem dX0_landHere_11 : decode cX0_landHere 11 = .ok (.iload_n 2, 1) := by decide +kernel
theorem dX0_landHere_12 : decode cX0_landHere 12 = .ok (.ifCond .lt 43, 3) := by decide +kernel
theorem dX0_landHere_15 : decode cX0_landHere 15 = .ok (.iload_n 2, 1) := by decide +kernel
theorem dX0_landHere_16 : decode cX0_landHere 16 = .ok (.iconst 1, 1) := by decide +kernel
theorem dX0_landHere_17 : decode cX0_landHere 17 = .ok (.iadd, 1) := by decide +kernel
theorem dX0_landHere_18 : decode cX0_landHere 18 = .ok (.sipush 400, 3) := by decide +kernel
theorem dX0_landHere_21 : decode cX0_landHere 21 = .ok (.if_icmp .ge 34, 3) := by decide +kernel
theorem dX0_landHere_24 : decode cX0_landHere 24 = .ok (.aload_n 0, 1) := by decide +kernel
theorem dX0_landHere_25 : decode cX0_landHere 25 = .ok (.getfield 11, 3) := by decide +kernel
theorem dX0_landHere_28 : decode cX0_landHere 28 = .ok (.iload_n 2, 1) := by decide +kernel
theorem dX0_landHere_29 : decode cX0_landHere 29 = .ok (.iconst 1, 1) := by decide +kernel
theorem dX0_landHere_30 : decode cX0_landHere 30 = .ok (.iadd, 1) := by decide +kernel
theorem dX0_landHere_31 : decode cX0_landHere 31 = .ok (.iaload, 1) := by decide +kernel
theorem dX0_landHere_32 : decode cX0_landHere 32 = .ok (.istore 4, 2) := by decide +kernel
theorem dX0_landHere_34 : decode cX0_landHere 34 = .ok (.aload_n 0, 1) := by decide +kernel
theorem dX0_landHere_35 : decode cX0_landHere 35 = .ok (.getfield 11, 3) := by decide +kernel
theorem dX0_landHere_38 : decode cX0_landHere 38 = .ok (.iload_n 2, 1) := by decide +kernel
theorem dX0_landHere_39 : decode cX0_landHere 39 = .ok (.iconst 1, 1) := by decide +kernel
theorem dX0_landHere_40 : decode cX0_landHere 40 = .ok (.iadd, 1) := by decide +kernel
theorem dX0_landHere_41 : decode cX0_landHere 41 = .ok (.aload_n 0, 1) := by decide +kernel
theorem dX0_landHere_42 : decode cX0_landHere 42 = .ok (.getfield 27, 3) := by decide +kernel
theorem dX0_landHere_45 : decode cX0_landHere 45 = .ok (.iastore, 1) := by decide +kernel
theorem dX0_landHere_46 : decode cX0_landHere 46 = .ok (.iload 4, 2) := by decide +kernel
theorem dX0_landHere_48 : decode cX0_landHere 48 = .ok (.istore_n 2, 1) := by decide +kernel
theorem dX0_landHere_49 : decode cX0_landHere 49 = .ok (.iinc 3 1, 3) := by decide +kernel
theorem dX0_landHere_52 : decode cX0_landHere 52 = .ok (.goto (-48), 3) := by decide +kernel
theorem dX0_landHere_55 : decode cX0_landHere 55 = .ok (.return_, 1) := by decide +kernel
theorem dX0_put_0 : decode cX0_put 0 = .ok (.aload_n 0, 1) := by decide +kernel
theorem dX0_put_1 : decode cX0_put 1 = .ok (.getfield 27, 3) := by decide +kernel
theorem dX0_put_4 : decode cX0_put 4 = .ok (.istore_n 3, 1) := by decide +kernel
theorem dX0_put_5 : decode cX0_put 5 = .ok (.iload_n 3, 1) := by decide +kernel
theorem dX0_put_6 : decode cX0_put 6 = .ok (.iconst 2, 1) := by decide +kernel
theorem dX0_put_7 : decode cX0_put 7 = .ok (.iadd, 1) := by decide +kernel
theorem dX0_put_8 : decode cX0_put 8 = .ok (.sipush 400, 3) := by decide +kernel
theorem dX0_put_11 : decode cX0_put 11 = .ok (.if_icmp .le 5, 3) := by decide +kernel
theorem dX0_put_14 : decode cX0_put 14 = .ok (.iconst (-1), 1) := by decide +kernel
theorem dX0_put_15 : decode cX0_put 15 = .ok (.ireturn, 1) := by decide +kernel
theorem dX0_put_16 : decode cX0_put 16 = .ok (.aload_n 0, 1) := by decide +kernel
theorem dX0_put_17 : decode cX0_put 17 = .ok (.getfield 11, 3) := by decide +kernel
theorem dX0_put_20 : decode cX0_put 20 = .ok (.iload_n 3, 1) := by decide +kernel
theorem dX0_put_21 : decode cX0_put 21 = .ok (.iload_n 1, 1) := by decide +kernel
theorem dX0_put_22 : decode cX0_put 22 = .ok (.iastore, 1) := by decide +kernel
theorem dX0_put_23 : decode cX0_put 23 = .ok (.aload_n 0, 1) := by decide +kernel
theorem dX0_put_24 : decode cX0_put 24 = .ok (.getfield 11, 3) := by decide +kernel
theorem dX0_put_27 : decode cX0_put 27 = .ok (.iload_n 3, 1) := by decide +kernel
theorem dX0_put_28 : decode cX0_put 28 = .ok (.iconst 1, 1) := by decide +kernel
theorem dX0_put_29 : decode cX0_put 29 = .ok (.iadd, 1) := by decide +kernel
theorem dX0_put_30 : decode cX0_put 30 = .ok (.iload_n 2, 1) := by decide +kernel
theorem dX0_put_31 : decode cX0_put 31 = .ok (.iastore, 1) := by decide +kernel
theorem dX0_put_32 : decode cX0_put 32 = .ok (.aload_n 0, 1) := by decide +kernel
theorem dX0_put_33 : decode cX0_put 33 = .ok (.dup, 1) := by decide +kernel
theorem dX0_put_34 : decode cX0_put 34 = .ok (.getfield 27, 3) := by decide +kernel
theorem dX0_put_37 : decode cX0_put 37 = .ok (.iconst 2, 1) := by decide +kernel
theorem dX0_put_38 : decode cX0_put 38 = .ok (.iadd, 1) := by decide +kernel
theorem dX0_put_39 : decode cX0_put 39 = .ok (.putfield 27, 3) := by decide +kernel
theorem dX0_put_42 : decode cX0_put 42 = .ok (.iload_n 3, 1) := by decide +kernel
theorem dX0_put_43 : decode cX0_put 43 = .ok (.ireturn, 1) := by decide +kernel
theorem dX0_reckons_0 : decode cX0_reckons 0 = .ok (.iload_n 1, 1) := by decide +kernel
theorem dX0_reckons_1 : decode cX0_reckons 1 = .ok (.iconst 1, 1) := by decide +kernel
theorem dX0_reckons_2 : decode cX0_reckons 2 = .ok (.if_icmp .eq 14, 3) := by decide +kernel
theorem dX0_reckons_5 : decode cX0_reckons 5 = .ok (.iload_n 1, 1) := by decide +kernel
theorem dX0_reckons_6 : decode cX0_reckons 6 = .ok (.iconst 2, 1) := by decide +kernel
theorem dX0_reckons_7 : decode cX0_reckons 7 = .ok (.if_icmp .eq 9, 3) := by decide +kernel
theorem dX0_reckons_10 : decode cX0_reckons 10 = .ok (.aload_n 0, 1) := by decide +kernel
theorem dX0_reckons_11 : decode cX0_reckons 11 = .ok (.iload_n 1, 1) := by decide +kernel
theorem dX0_reckons_12 : decode cX0_reckons 12 = .ok (.invokevirtual 67, 3) := by decide +kernel
theorem dX0_reckons_15 : decode cX0_reckons 15 = .ok (.ireturn, 1) := by decide +kernel
theorem dX0_reckons_16 : decode cX0_reckons 16 = .ok (.aload_n 0, 1) := by decide +kernel
theorem dX0_reckons_17 : decode cX0_reckons 17 = .ok (.getfield 51, 3) := by decide +kernel
theorem dX0_reckons_20 : decode cX0_reckons 20 = .ok (.ifCond .lt 27, 3) := by decide +kernel
theorem dX0_reckons_23 : decode cX0_reckons 23 = .ok (.aload_n 0, 1) := by decide +kernel
theorem dX0_reckons_24 : decode cX0_reckons 24 = .ok (.getfield 51, 3) := by decide +kernel
theorem dX0_reckons_27 : decode cX0_reckons 27 = .ok (.bipush 32, 2) := by decide +kernel
theorem dX0_reckons_29 : decode cX0_reckons 29 = .ok (.if_icmp .ge 18, 3) := by decide +kernel
theorem dX0_reckons_32 : decode cX0_reckons 32 = .ok (.iload_n 1, 1) := by decide +kernel
theorem dX0_reckons_33 : decode cX0_reckons 33 = .ok (.iconst 2, 1) := by decide +kernel
theorem dX0_reckons_34 : decode cX0_reckons 34 = .ok (.if_icmp .ne 15, 3) := by decide +kernel
theorem dX0_reckons_37 : decode cX0_reckons 37 = .ok (.iload_n 2, 1) := by decide +kernel
theorem dX0_reckons_38 : decode cX0_reckons 38 = .ok (.ifCond .lt 9, 3) := by decide +kernel
theorem dX0_reckons_41 : decode cX0_reckons 41 = .ok (.iload_n 2, 1) := by decide +kernel
theorem dX0_reckons_42 : decode cX0_reckons 42 = .ok (.bipush 9, 2) := by decide +kernel
theorem dX0_reckons_44 : decode cX0_reckons 44 = .ok (.if_icmp .lt 5, 3) := by decide +kernel
theorem dX0_reckons_47 : decode cX0_reckons 47 = .ok (.iconst 0, 1) := by decide +kernel
theorem dX0_reckons_48 : decode cX0_reckons 48 = .ok (.ireturn, 1) := by decide +kernel
theorem dX0_reckons_49 : decode cX0_reckons 49 = .ok (.aload_n 0, 1) := by decide +kernel
theorem dX0_reckons_50 : decode cX0_reckons 50 = .ok (.getfield 24, 3) := by decide +kernel
theorem dX0_reckons_53 : decode cX0_reckons 53 = .ok (.aload_n 0, 1) := by decide +kernel
theorem dX0_reckons_54 : decode cX0_reckons 54 = .ok (.getfield 51, 3) := by decide +kernel
theorem dX0_reckons_57 : decode cX0_reckons 57 = .ok (.iload_n 1, 1) := by decide +kernel
theorem dX0_reckons_58 : decode cX0_reckons 58 = .ok (.iconst 1, 1) := by decide +kernel
theorem dX0_reckons_59 : decode cX0_reckons 59 = .ok (.if_icmp .ne 7, 3) := by decide +kernel
theorem dX0_reckons_62 : decode cX0_reckons 62 = .ok (.iload_n 2, 1) := by decide +kernel
theorem dX0_reckons_63 : decode cX0_reckons 63 = .ok (.goto 9, 3) := by decide +kernel
theorem dX0_reckons_66 : decode cX0_reckons 66 = .ok (.aload_n 0, 1) := by decide +kernel
theorem dX0_reckons_67 : decode cX0_reckons 67 = .ok (.getfield 21, 3) := by decide +kernel
theorem dX0_reckons_70 : decode cX0_reckons 70 = .ok (.iload_n 2, 1) := by decide +kernel
theorem dX0_reckons_71 : decode cX0_reckons 71 = .ok (.iaload, 1) := by decide +kernel
theorem dX0_reckons_72 : decode cX0_reckons 72 = .ok (.iastore, 1) := by decide +kernel
theorem dX0_reckons_73 : decode cX0_reckons 73 = .ok (.aload_n 0, 1) := by decide +kernel
theorem dX0_reckons_74 : decode cX0_reckons 74 = .ok (.dup, 1) := by decide +kernel
theorem dX0_reckons_75 : decode cX0_reckons 75 = .ok (.getfield 51, 3) := by decide +kernel
theorem dX0_reckons_78 : decode cX0_reckons 78 = .ok (.iconst 1, 1) := by decide +kernel
theorem dX0_reckons_79 : decode cX0_reckons 79 = .ok (.iadd, 1) := by decide +kernel
theorem dX0_reckons_80 : decode cX0_reckons 80 = .ok (.putfield 51, 3) := by decide +kernel
theorem dX0_reckons_83 : decode cX0_reckons 83 = .ok (.iconst 1, 1) := by decide +kernel
theorem dX0_reckons_84 : decode cX0_reckons 84 = .ok (.ireturn, 1) := by decide +kernel
theorem dX0_restart_0 : decode cX0_restart 0 = .ok (.aload_n 0, 1) := by decide +kernel
theorem dX0_restart_1 : decode cX0_restart 1 = .ok (.iconst 0, 1) := by decide +kernel
theorem dX0_restart_2 : decode cX0_restart 2 = .ok (.putfield 27, 3) := by decide +kernel
theorem dX0_restart_5 : decode cX0_restart 5 = .ok (.aload_n 0, 1) := by decide +kernel
theorem dX0_restart_6 : decode cX0_restart 6 = .ok (.iconst 0, 1) := by decide +kernel
theorem dX0_restart_7 : decode cX0_restart 7 = .ok (.putfield 31, 3) := by decide +kernel
theorem dX0_restart_10 : decode cX0_restart 10 = .ok (.return_, 1) := by decide +kernel
theorem dX0_runsThrough_0 : decode cX0_runsThrough 0 = .ok (.iload_n 1, 1) := by decide +kernel
theorem dX0_runsThrough_1 : decode cX0_runsThrough 1 = .ok (.istore_n 2, 1) := by decide +kernel
theorem dX0_runsThrough_2 : decode cX0_runsThrough 2 = .ok (.aload_n 0, 1) := by decide +kernel
theorem dX0_runsThrough_3 : decode cX0_runsThrough 3 = .ok (.iconst 0, 1) := by decide +kernel
theorem dX0_runsThrough_4 : decode cX0_runsThrough 4 = .ok (.putfield 51, 3) := by decide +kernel
theorem dX0_runsThrough_7 : decode cX0_runsThrough 7 = .ok (.aload_n 0, 1) := by decide +kernel
theorem dX0_runsThrough_8 : decode cX0_runsThrough 8 = .ok (.iconst 0, 1) := by decide +kernel
theorem dX0_runsThrough_9 : decode cX0_runsThrough 9 = .ok (.putfield 47, 3) := by decide +kernel
theorem dX0_runsThrough_12 : decode cX0_runsThrough 12 = .ok (.iconst 0, 1) := by decide +kernel
theorem dX0_runsThrough_13 : decode cX0_runsThrough 13 = .ok (.istore_n 3, 1) := by decide +kernel
theorem dX0_runsThrough_14 : decode cX0_runsThrough 14 = .ok (.iload_n 3, 1) := by decide +kernel
theorem dX0_runsThrough_15 : decode cX0_runsThrough 15 = .ok (.sipush 400, 3) := by decide +kernel
theorem dX0_runsThrough_18 : decode cX0_runsThrough 18 = .ok (.if_icmp .ge 130, 3) := by decide +kernel
theorem dX0_runsThrough_21 : decode cX0_runsThrough 21 = .ok (.iload_n 2, 1) := by decide +kernel
theorem dX0_runsThrough_22 : decode cX0_runsThrough 22 = .ok (.ifCond .lt 12, 3) := by decide +kernel
theorem dX0_runsThrough_25 : decode cX0_runsThrough 25 = .ok (.iload_n 2, 1) := by decide +kernel
theorem dX0_runsThrough_26 : decode cX0_runsThrough 26 = .ok (.iconst 1, 1) := by decide +kernel
theorem dX0_runsThrough_27 : decode cX0_runsThrough 27 = .ok (.iadd, 1) := by decide +kernel
theorem dX0_runsThrough_28 : decode cX0_runsThrough 28 = .ok (.sipush 400, 3) := by decide +kernel
theorem dX0_runsThrough_31 : decode cX0_runsThrough 31 = .ok (.if_icmp .lt 5, 3) := by decide +kernel
theorem dX0_runsThrough_34 : decode cX0_runsThrough 34 = .ok (.iconst 0, 1) := by decide +kernel
theorem dX0_runsThrough_35 : decode cX0_runsThrough 35 = .ok (.ireturn, 1) := by decide +kernel
theorem dX0_runsThrough_36 : decode cX0_runsThrough 36 = .ok (.aload_n 0, 1) := by decide +kernel
theorem dX0_runsThrough_37 : decode cX0_runsThrough 37 = .ok (.getfield 11, 3) := by decide +kernel
theorem dX0_runsThrough_40 : decode cX0_runsThrough 40 = .ok (.iload_n 2, 1) := by decide +kernel
theorem dX0_runsThrough_41 : decode cX0_runsThrough 41 = .ok (.iaload, 1) := by decide +kernel
theorem dX0_runsThrough_42 : decode cX0_runsThrough 42 = .ok (.istore 4, 2) := by decide +kernel
theorem dX0_runsThrough_44 : decode cX0_runsThrough 44 = .ok (.aload_n 0, 1) := by decide +kernel
theorem dX0_runsThrough_45 : decode cX0_runsThrough 45 = .ok (.getfield 11, 3) := by decide +kernel
theorem dX0_runsThrough_48 : decode cX0_runsThrough 48 = .ok (.iload_n 2, 1) := by decide +kernel
theorem dX0_runsThrough_49 : decode cX0_runsThrough 49 = .ok (.iconst 1, 1) := by decide +kernel
theorem dX0_runsThrough_50 : decode cX0_runsThrough 50 = .ok (.iadd, 1) := by decide +kernel
theorem dX0_runsThrough_51 : decode cX0_runsThrough 51 = .ok (.iaload, 1) := by decide +kernel
theorem dX0_runsThrough_52 : decode cX0_runsThrough 52 = .ok (.istore 5, 2) := by decide +kernel
theorem dX0_runsThrough_54 : decode cX0_runsThrough 54 = .ok (.iinc 2 2, 3) := by decide +kernel
theorem dX0_runsThrough_57 : decode cX0_runsThrough 57 = .ok (.iload 4, 2) := by decide +kernel
theorem dX0_runsThrough_59 : decode cX0_runsThrough 59 = .ok (.ifCond .ne 5, 3) := by decide +kernel
theorem dX0_runsThrough_62 : decode cX0_runsThrough 62 = .ok (.iconst 1, 1) := by decide +kernel
theorem dX0_runsThrough_63 : decode cX0_runsThrough 63 = .ok (.ireturn, 1) := by decide +kernel
theorem dX0_runsThrough_64 : decode cX0_runsThrough 64 = .ok (.iload 4, 2) := by decide +kernel
theorem dX0_runsThrough_66 : decode cX0_runsThrough 66 = .ok (.iconst 3, 1) := by decide +kernel
theorem dX0_runsThrough_67 : decode cX0_runsThrough 67 = .ok (.if_icmp .ne 22, 3) := by decide +kernel
theorem dX0_runsThrough_70 : decode cX0_runsThrough 70 = .ok (.aload_n 0, 1) := by decide +kernel
theorem dX0_runsThrough_71 : decode cX0_runsThrough 71 = .ok (.aload_n 0, 1) := by decide +kernel
theorem dX0_runsThrough_72 : decode cX0_runsThrough 72 = .ok (.getfield 47, 3) := by decide +kernel
theorem dX0_runsThrough_75 : decode cX0_runsThrough 75 = .ok (.ifCond .ne 7, 3) := by decide +kernel
theorem dX0_runsThrough_78 : decode cX0_runsThrough 78 = .ok (.iconst 1, 1) := by decide +kernel
theorem dX0_runsThrough_79 : decode cX0_runsThrough 79 = .ok (.goto 4, 3) := by decide +kernel
theorem dX0_runsThrough_82 : decode cX0_runsThrough 82 = .ok (.iconst 0, 1) := by decide +kernel
theorem dX0_runsThrough_83 : decode cX0_runsThrough 83 = .ok (.putfield 47, 3) := by decide +kernel
theorem dX0_runsThrough_86 : decode cX0_runsThrough 86 = .ok (.goto 56, 3) := by decide +kernel
theorem dX0_runsThrough_89 : decode cX0_runsThrough 89 = .ok (.iload 4, 2) := by decide +kernel
theorem dX0_runsThrough_91 : decode cX0_runsThrough 91 = .ok (.iconst 4, 1) := by decide +kernel
theorem dX0_runsThrough_92 : decode cX0_runsThrough 92 = .ok (.if_icmp .eq 9, 3) := by decide +kernel
theorem dX0_runsThrough_95 : decode cX0_runsThrough 95 = .ok (.iload 4, 2) := by decide +kernel
theorem dX0_runsThrough_97 : decode cX0_runsThrough 97 = .ok (.iconst 5, 1) := by decide +kernel
theorem dX0_runsThrough_98 : decode cX0_runsThrough 98 = .ok (.if_icmp .ne 31, 3) := by decide +kernel
theorem dX0_runsThrough_101 : decode cX0_runsThrough 101 = .ok (.aload_n 0, 1) := by decide +kernel
theorem dX0_runsThrough_102 : decode cX0_runsThrough 102 = .ok (.getfield 47, 3) := by decide +kernel
theorem dX0_runsThrough_105 : decode cX0_runsThrough 105 = .ok (.iload 4, 2) := by decide +kernel
theorem dX0_runsThrough_107 : decode cX0_runsThrough 107 = .ok (.iconst 4, 1) := by decide +kernel
theorem dX0_runsThrough_108 : decode cX0_runsThrough 108 = .ok (.if_icmp .ne 7, 3) := by decide +kernel
theorem dX0_runsThrough_111 : decode cX0_runsThrough 111 = .ok (.iconst 1, 1) := by decide +kernel
theorem dX0_runsThrough_112 : decode cX0_runsThrough 112 = .ok (.goto 4, 3) := by decide +kernel
theorem dX0_runsThrough_115 : decode cX0_runsThrough 115 = .ok (.iconst 0, 1) := by decide +kernel
theorem dX0_runsThrough_116 : decode cX0_runsThrough 116 = .ok (.if_icmp .ne 8, 3) := by decide +kernel
theorem dX0_runsThrough_119 : decode cX0_runsThrough 119 = .ok (.iload 5, 2) := by decide +kernel
theorem dX0_runsThrough_121 : decode cX0_runsThrough 121 = .ok (.goto 4, 3) := by decide +kernel
theorem dX0_runsThrough_124 : decode cX0_runsThrough 124 = .ok (.iload_n 2, 1) := by decide +kernel
theorem dX0_runsThrough_125 : decode cX0_runsThrough 125 = .ok (.istore_n 2, 1) := by decide +kernel
theorem dX0_runsThrough_126 : decode cX0_runsThrough 126 = .ok (.goto 16, 3) := by decide +kernel
theorem dX0_runsThrough_129 : decode cX0_runsThrough 129 = .ok (.aload_n 0, 1) := by decide +kernel
theorem dX0_runsThrough_130 : decode cX0_runsThrough 130 = .ok (.iload 4, 2) := by decide +kernel
theorem dX0_runsThrough_132 : decode cX0_runsThrough 132 = .ok (.iload 5, 2) := by decide +kernel
theorem dX0_runsThrough_134 : decode cX0_runsThrough 134 = .ok (.invokevirtual 63, 3) := by decide +kernel
theorem dX0_runsThrough_137 : decode cX0_runsThrough 137 = .ok (.ifCond .ne 5, 3) := by decide +kernel
theorem dX0_runsThrough_140 : decode cX0_runsThrough 140 = .ok (.iconst 0, 1) := by decide +kernel
theorem dX0_runsThrough_141 : decode cX0_runsThrough 141 = .ok (.ireturn, 1) := by decide +kernel
theorem dX0_runsThrough_142 : decode cX0_runsThrough 142 = .ok (.iinc 3 1, 3) := by decide +kernel
theorem dX0_runsThrough_145 : decode cX0_runsThrough 145 = .ok (.goto (-131), 3) := by decide +kernel
theorem dX0_runsThrough_148 : decode cX0_runsThrough 148 = .ok (.iconst 0, 1) := by decide +kernel
theorem dX0_runsThrough_149 : decode cX0_runsThrough 149 = .ok (.ireturn, 1) := by decide +kernel
theorem dX2_addRow_0 : decode cX2_addRow 0 = .ok (.aload_n 0, 1) := by decide +kernel
theorem dX2_addRow_1 : decode cX2_addRow 1 = .ok (.getfield 70, 3) := by decide +kernel
theorem dX2_addRow_4 : decode cX2_addRow 4 = .ok (.sipush 16000, 3) := by decide +kernel
theorem dX2_addRow_7 : decode cX2_addRow 7 = .ok (.if_icmp .ge 57, 3) := by decide +kernel
theorem dX2_addRow_10 : decode cX2_addRow 10 = .ok (.aload_n 0, 1) := by decide +kernel
theorem dX2_addRow_11 : decode cX2_addRow 11 = .ok (.getfield 19, 3) := by decide +kernel
theorem dX2_addRow_14 : decode cX2_addRow 14 = .ok (.aload_n 0, 1) := by decide +kernel
theorem dX2_addRow_15 : decode cX2_addRow 15 = .ok (.getfield 70, 3) := by decide +kernel
theorem dX2_addRow_18 : decode cX2_addRow 18 = .ok (.lload_n 1, 1) := by decide +kernel
theorem dX2_addRow_19 : decode cX2_addRow 19 = .ok (.lastore, 1) := by decide +kernel
theorem dX2_addRow_20 : decode cX2_addRow 20 = .ok (.aload_n 0, 1) := by decide +kernel
theorem dX2_addRow_21 : decode cX2_addRow 21 = .ok (.getfield 23, 3) := by decide +kernel
theorem dX2_addRow_24 : decode cX2_addRow 24 = .ok (.aload_n 0, 1) := by decide +kernel
theorem dX2_addRow_25 : decode cX2_addRow 25 = .ok (.getfield 70, 3) := by decide +kernel
theorem dX2_addRow_28 : decode cX2_addRow 28 = .ok (.lconst 1, 1) := by decide +kernel
theorem dX2_addRow_29 : decode cX2_addRow 29 = .ok (.iload_n 3, 1) := by decide +kernel
theorem dX2_addRow_30 : decode cX2_addRow 30 = .ok (.lshl, 1) := by decide +kernel
theorem dX2_addRow_31 : decode cX2_addRow 31 = .ok (.lastore, 1) := by decide +kernel
theorem dX2_addRow_32 : decode cX2_addRow 32 = .ok (.aload_n 0, 1) := by decide +kernel
theorem dX2_addRow_33 : decode cX2_addRow 33 = .ok (.getfield 16, 3) := by decide +kernel
theorem dX2_addRow_36 : decode cX2_addRow 36 = .ok (.aload_n 0, 1) := by decide +kernel
theorem dX2_addRow_37 : decode cX2_addRow 37 = .ok (.getfield 70, 3) := by decide +kernel
theorem dX2_addRow_40 : decode cX2_addRow 40 = .ok (.iload 4, 2) := by decide +kernel
theorem dX2_addRow_42 : decode cX2_addRow 42 = .ok (.iastore, 1) := by decide +kernel
theorem dX2_addRow_43 : decode cX2_addRow 43 = .ok (.aload_n 0, 1) := by decide +kernel
theorem dX2_addRow_44 : decode cX2_addRow 44 = .ok (.dup, 1) := by decide +kernel
theorem dX2_addRow_45 : decode cX2_addRow 45 = .ok (.getfield 70, 3) := by decide +kernel
theorem dX2_addRow_48 : decode cX2_addRow 48 = .ok (.iconst 1, 1) := by decide +kernel
theorem dX2_addRow_49 : decode cX2_addRow 49 = .ok (.iadd, 1) := by decide +kernel
theorem dX2_addRow_50 : decode cX2_addRow 50 = .ok (.putfield 70, 3) := by decide +kernel
theorem dX2_addRow_53 : decode cX2_addRow 53 = .ok (.aload_n 0, 1) := by decide +kernel
theorem dX2_addRow_54 : decode cX2_addRow 54 = .ok (.getfield 12, 3) := by decide +kernel
theorem dX2_addRow_57 : decode cX2_addRow 57 = .ok (.iload 4, 2) := by decide +kernel
theorem dX2_addRow_59 : decode cX2_addRow 59 = .ok (.aload_n 0, 1) := by decide +kernel
theorem dX2_addRow_60 : decode cX2_addRow 60 = .ok (.getfield 70, 3) := by decide +kernel
theorem dX2_addRow_63 : decode cX2_addRow 63 = .ok (.iastore, 1) := by decide +kernel
theorem dX2_addRow_64 : decode cX2_addRow 64 = .ok (.return_, 1) := by decide +kernel
theorem dX2_emptyRows_0 : decode cX2_emptyRows 0 = .ok (.iconst 0, 1) := by decide +kernel
theorem dX2_emptyRows_1 : decode cX2_emptyRows 1 = .ok (.istore_n 1, 1) := by decide +kernel
theorem dX2_emptyRows_2 : decode cX2_emptyRows 2 = .ok (.iload_n 1, 1) := by decide +kernel
theorem dX2_emptyRows_3 : decode cX2_emptyRows 3 = .ok (.aload_n 0, 1) := by decide +kernel
theorem dX2_emptyRows_4 : decode cX2_emptyRows 4 = .ok (.getfield 70, 3) := by decide +kernel
theorem dX2_emptyRows_7 : decode cX2_emptyRows 7 = .ok (.if_icmp .ge 28, 3) := by decide +kernel
theorem dX2_emptyRows_10 : decode cX2_emptyRows 10 = .ok (.iload_n 1, 1) := by decide +kernel
theorem dX2_emptyRows_11 : decode cX2_emptyRows 11 = .ok (.sipush 16000, 3) := by decide +kernel
theorem dX2_emptyRows_14 : decode cX2_emptyRows 14 = .ok (.if_icmp .ge 21, 3) := by decide +kernel
theorem dX2_emptyRows_17 : decode cX2_emptyRows 17 = .ok (.aload_n 0, 1) := by decide +kernel
theorem dX2_emptyRows_18 : decode cX2_emptyRows 18 = .ok (.getfield 12, 3) := by decide +kernel
theorem dX2_emptyRows_21 : decode cX2_emptyRows 21 = .ok (.aload_n 0, 1) := by decide +kernel
theorem dX2_emptyRows_22 : decode cX2_emptyRows 22 = .ok (.getfield 16, 3) := by decide +kernel
theorem dX2_emptyRows_25 : decode cX2_emptyRows 25 = .ok (.iload_n 1, 1) := by decide +kernel
theorem dX2_emptyRows_26 : decode cX2_emptyRows 26 = .ok (.iaload, 1) := by decide +kernel
theorem dX2_emptyRows_27 : decode cX2_emptyRows 27 = .ok (.iconst 0, 1) := by decide +kernel
theorem dX2_emptyRows_28 : decode cX2_emptyRows 28 = .ok (.iastore, 1) := by decide +kernel
theorem dX2_emptyRows_29 : decode cX2_emptyRows 29 = .ok (.iinc 1 1, 3) := by decide +kernel
theorem dX2_emptyRows_32 : decode cX2_emptyRows 32 = .ok (.goto (-30), 3) := by decide +kernel
theorem dX2_emptyRows_35 : decode cX2_emptyRows 35 = .ok (.aload_n 0, 1) := by decide +kernel
theorem dX2_emptyRows_36 : decode cX2_emptyRows 36 = .ok (.iconst 0, 1) := by decide +kernel
theorem dX2_emptyRows_37 : decode cX2_emptyRows 37 = .ok (.putfield 70, 3) := by decide +kernel
theorem dX2_emptyRows_40 : decode cX2_emptyRows 40 = .ok (.return_, 1) := by decide +kernel
theorem dX2_findBest_0 : decode cX2_findBest 0 = .ok (.aload_n 0, 1) := by decide +kernel
theorem dX2_findBest_1 : decode cX2_findBest 1 = .ok (.iconst 0, 1) := by decide +kernel
theorem dX2_findBest_2 : decode cX2_findBest 2 = .ok (.putfield 113, 3) := by decide +kernel
theorem dX2_findBest_5 : decode cX2_findBest 5 = .ok (.aload_n 0, 1) := by decide +kernel
theorem dX2_findBest_6 : decode cX2_findBest 6 = .ok (.iconst 0, 1) := by decide +kernel
theorem dX2_findBest_7 : decode cX2_findBest 7 = .ok (.putfield 116, 3) := by decide +kernel
theorem dX2_findBest_10 : decode cX2_findBest 10 = .ok (.aload_n 0, 1) := by decide +kernel
theorem dX2_findBest_11 : decode cX2_findBest 11 = .ok (.lconst 0, 1) := by decide +kernel
theorem dX2_findBest_12 : decode cX2_findBest 12 = .ok (.putfield 73, 3) := by decide +kernel
theorem dX2_findBest_15 : decode cX2_findBest 15 = .ok (.iconst 0, 1) := by decide +kernel
theorem dX2_findBest_16 : decode cX2_findBest 16 = .ok (.istore_n 1, 1) := by decide +kernel
theorem dX2_findBest_17 : decode cX2_findBest 17 = .ok (.iload_n 1, 1) := by decide +kernel
theorem dX2_findBest_18 : decode cX2_findBest 18 = .ok (.aload_n 0, 1) := by decide +kernel
theorem dX2_findBest_19 : decode cX2_findBest 19 = .ok (.getfield 70, 3) := by decide +kernel
theorem dX2_findBest_22 : decode cX2_findBest 22 = .ok (.if_icmp .ge 48, 3) := by decide +kernel
theorem dX2_findBest_25 : decode cX2_findBest 25 = .ok (.iload_n 1, 1) := by decide +kernel
theorem dX2_findBest_26 : decode cX2_findBest 26 = .ok (.sipush 16000, 3) := by decide +kernel
theorem dX2_findBest_29 : decode cX2_findBest 29 = .ok (.if_icmp .ge 41, 3) := by decide +kernel
theorem dX2_findBest_32 : decode cX2_findBest 32 = .ok (.aload_n 0, 1) := by decide +kernel
theorem dX2_findBest_33 : decode cX2_findBest 33 = .ok (.getfield 23, 3) := by decide +kernel
theorem dX2_findBest_36 : decode cX2_findBest 36 = .ok (.iload_n 1, 1) := by decide +kernel
theorem dX2_findBest_37 : decode cX2_findBest 37 = .ok (.laload, 1) := by decide +kernel
theorem dX2_findBest_38 : decode cX2_findBest 38 = .ok (.invokestatic 119, 3) := by decide +kernel
theorem dX2_findBest_41 : decode cX2_findBest 41 = .ok (.aload_n 0, 1) := by decide +kernel
theorem dX2_findBest_42 : decode cX2_findBest 42 = .ok (.getfield 113, 3) := by decide +kernel
theorem dX2_findBest_45 : decode cX2_findBest 45 = .ok (.if_icmp .lt 19, 3) := by decide +kernel
theorem dX2_findBest_48 : decode cX2_findBest 48 = .ok (.aload_n 0, 1) := by decide +kernel
theorem dX2_findBest_49 : decode cX2_findBest 49 = .ok (.aload_n 0, 1) := by decide +kernel
theorem dX2_findBest_50 : decode cX2_findBest 50 = .ok (.getfield 19, 3) := by decide +kernel
theorem dX2_findBest_53 : decode cX2_findBest 53 = .ok (.iload_n 1, 1) := by decide +kernel
theorem dX2_findBest_54 : decode cX2_findBest 54 = .ok (.laload, 1) := by decide +kernel
theorem dX2_findBest_55 : decode cX2_findBest 55 = .ok (.aload_n 0, 1) := by decide +kernel
theorem dX2_findBest_56 : decode cX2_findBest 56 = .ok (.getfield 23, 3) := by decide +kernel
theorem dX2_findBest_59 : decode cX2_findBest 59 = .ok (.iload_n 1, 1) := by decide +kernel
theorem dX2_findBest_60 : decode cX2_findBest 60 = .ok (.laload, 1) := by decide +kernel
theorem dX2_findBest_61 : decode cX2_findBest 61 = .ok (.invokevirtual 124, 3) := by decide +kernel
theorem dX2_findBest_64 : decode cX2_findBest 64 = .ok (.iinc 1 1, 3) := by decide +kernel
theorem dX2_findBest_67 : decode cX2_findBest 67 = .ok (.goto (-50), 3) := by decide +kernel
theorem dX2_findBest_70 : decode cX2_findBest 70 = .ok (.return_, 1) := by decide +kernel
theorem dX2_heapsOf_0 : decode cX2_heapsOf 0 = .ok (.lconst 0, 1) := by decide +kernel
theorem dX2_heapsOf_1 : decode cX2_heapsOf 1 = .ok (.lstore_n 3, 1) := by decide +kernel
theorem dX2_heapsOf_2 : decode cX2_heapsOf 2 = .ok (.iconst 0, 1) := by decide +kernel
theorem dX2_heapsOf_3 : decode cX2_heapsOf 3 = .ok (.istore 5, 2) := by decide +kernel
theorem dX2_heapsOf_5 : decode cX2_heapsOf 5 = .ok (.iload 5, 2) := by decide +kernel
theorem dX2_heapsOf_7 : decode cX2_heapsOf 7 = .ok (.aload_n 0, 1) := by decide +kernel
theorem dX2_heapsOf_8 : decode cX2_heapsOf 8 = .ok (.getfield 30, 3) := by decide +kernel
theorem dX2_heapsOf_11 : decode cX2_heapsOf 11 = .ok (.getfield 48, 3) := by decide +kernel
theorem dX2_heapsOf_14 : decode cX2_heapsOf 14 = .ok (.if_icmp .ge 35, 3) := by decide +kernel
theorem dX2_heapsOf_17 : decode cX2_heapsOf 17 = .ok (.lload_n 1, 1) := by decide +kernel
theorem dX2_heapsOf_18 : decode cX2_heapsOf 18 = .ok (.iload 5, 2) := by decide +kernel
theorem dX2_heapsOf_20 : decode cX2_heapsOf 20 = .ok (.lushr, 1) := by decide +kernel
theorem dX2_heapsOf_21 : decode cX2_heapsOf 21 = .ok (.lconst 1, 1) := by decide +kernel
theorem dX2_heapsOf_22 : decode cX2_heapsOf 22 = .ok (.land, 1) := by decide +kernel
theorem dX2_heapsOf_23 : decode cX2_heapsOf 23 = .ok (.lconst 0, 1) := by decide +kernel
theorem dX2_heapsOf_24 : decode cX2_heapsOf 24 = .ok (.lcmp, 1) := by decide +kernel
theorem dX2_heapsOf_25 : decode cX2_heapsOf 25 = .ok (.ifCond .eq 18, 3) := by decide +kernel
theorem dX2_heapsOf_28 : decode cX2_heapsOf 28 = .ok (.lload_n 3, 1) := by decide +kernel
theorem dX2_heapsOf_29 : decode cX2_heapsOf 29 = .ok (.lconst 1, 1) := by decide +kernel
theorem dX2_heapsOf_30 : decode cX2_heapsOf 30 = .ok (.aload_n 0, 1) := by decide +kernel
theorem dX2_heapsOf_31 : decode cX2_heapsOf 31 = .ok (.getfield 38, 3) := by decide +kernel
theorem dX2_heapsOf_34 : decode cX2_heapsOf 34 = .ok (.getfield 135, 3) := by decide +kernel
theorem dX2_heapsOf_37 : decode cX2_heapsOf 37 = .ok (.iload 5, 2) := by decide +kernel
theorem dX2_heapsOf_39 : decode cX2_heapsOf 39 = .ok (.iaload, 1) := by decide +kernel
theorem dX2_heapsOf_40 : decode cX2_heapsOf 40 = .ok (.lshl, 1) := by decide +kernel
theorem dX2_heapsOf_41 : decode cX2_heapsOf 41 = .ok (.lor, 1) := by decide +kernel
theorem dX2_heapsOf_42 : decode cX2_heapsOf 42 = .ok (.lstore_n 3, 1) := by decide +kernel
theorem dX2_heapsOf_43 : decode cX2_heapsOf 43 = .ok (.iinc 5 1, 3) := by decide +kernel
theorem dX2_heapsOf_46 : decode cX2_heapsOf 46 = .ok (.goto (-41), 3) := by decide +kernel
theorem dX2_heapsOf_49 : decode cX2_heapsOf 49 = .ok (.lload_n 3, 1) := by decide +kernel
theorem dX2_heapsOf_50 : decode cX2_heapsOf 50 = .ok (.invokestatic 119, 3) := by decide +kernel
theorem dX2_heapsOf_53 : decode cX2_heapsOf 53 = .ok (.ireturn, 1) := by decide +kernel
theorem dX2_join_0 : decode cX2_join 0 = .ok (.lload_n 1, 1) := by decide +kernel
theorem dX2_join_1 : decode cX2_join 1 = .ok (.ldc2_w 107, 3) := by decide +kernel
theorem dX2_join_4 : decode cX2_join 4 = .ok (.lmul, 1) := by decide +kernel
theorem dX2_join_5 : decode cX2_join 5 = .ok (.bipush 49, 2) := by decide +kernel
theorem dX2_join_7 : decode cX2_join 7 = .ok (.lushr, 1) := by decide +kernel
theorem dX2_join_8 : decode cX2_join 8 = .ok (.l2i, 1) := by decide +kernel
theorem dX2_join_9 : decode cX2_join 9 = .ok (.sipush 32767, 3) := by decide +kernel
theorem dX2_join_12 : decode cX2_join 12 = .ok (.iand, 1) := by decide +kernel
theorem dX2_join_13 : decode cX2_join 13 = .ok (.istore 4, 2) := by decide +kernel
theorem dX2_join_15 : decode cX2_join 15 = .ok (.iconst 0, 1) := by decide +kernel
theorem dX2_join_16 : decode cX2_join 16 = .ok (.istore 5, 2) := by decide +kernel
theorem dX2_join_18 : decode cX2_join 18 = .ok (.iload 5, 2) := by decide +kernel
theorem dX2_join_20 : decode cX2_join 20 = .ok (.ldc 11, 2) := by decide +kernel
theorem dX2_join_22 : decode cX2_join 22 = .ok (.if_icmp .ge 70, 3) := by decide +kernel
theorem dX2_join_25 : decode cX2_join 25 = .ok (.aload_n 0, 1) := by decide +kernel
theorem dX2_join_26 : decode cX2_join 26 = .ok (.getfield 12, 3) := by decide +kernel
theorem dX2_join_29 : decode cX2_join 29 = .ok (.iload 4, 2) := by decide +kernel
theorem dX2_join_31 : decode cX2_join 31 = .ok (.iaload, 1) := by decide +kernel
theorem dX2_join_32 : decode cX2_join 32 = .ok (.iconst 1, 1) := by decide +kernel
theorem dX2_join_33 : decode cX2_join 33 = .ok (.isub, 1) := by decide +kernel
theorem dX2_join_34 : decode cX2_join 34 = .ok (.istore 6, 2) := by decide +kernel
theorem dX2_join_36 : decode cX2_join 36 = .ok (.iload 6, 2) := by decide +kernel
theorem dX2_join_38 : decode cX2_join 38 = .ok (.ifCond .ge 12, 3) := by decide +kernel
theorem dX2_join_41 : decode cX2_join 41 = .ok (.aload_n 0, 1) := by decide +kernel
theorem dX2_join_42 : decode cX2_join 42 = .ok (.lload_n 1, 1) := by decide +kernel
theorem dX2_join_43 : decode cX2_join 43 = .ok (.iload_n 3, 1) := by decide +kernel
theorem dX2_join_44 : decode cX2_join 44 = .ok (.iload 4, 2) := by decide +kernel
theorem dX2_join_46 : decode cX2_join 46 = .ok (.invokevirtual 109, 3) := by decide +kernel
theorem dX2_join_49 : decode cX2_join 49 = .ok (.return_, 1) := by decide +kernel
theorem dX2_join_50 : decode cX2_join 50 = .ok (.aload_n 0, 1) := by decide +kernel
theorem dX2_join_51 : decode cX2_join 51 = .ok (.getfield 19, 3) := by decide +kernel
theorem dX2_join_54 : decode cX2_join 54 = .ok (.iload 6, 2) := by decide +kernel
theorem dX2_join_56 : decode cX2_join 56 = .ok (.laload, 1) := by decide +kernel
theorem dX2_join_57 : decode cX2_join 57 = .ok (.lload_n 1, 1) := by decide +kernel
theorem dX2_join_58 : decode cX2_join 58 = .ok (.lcmp, 1) := by decide +kernel
theorem dX2_join_59 : decode cX2_join 59 = .ok (.ifCond .ne 17, 3) := by decide +kernel
theorem dX2_join_62 : decode cX2_join 62 = .ok (.aload_n 0, 1) := by decide +kernel
theorem dX2_join_63 : decode cX2_join 63 = .ok (.getfield 23, 3) := by decide +kernel
theorem dX2_join_66 : decode cX2_join 66 = .ok (.iload 6, 2) := by decide +kernel
theorem dX2_join_68 : decode cX2_join 68 = .ok (.dup2, 1) := by decide +kernel
theorem dX2_join_69 : decode cX2_join 69 = .ok (.laload, 1) := by decide +kernel
theorem dX2_join_70 : decode cX2_join 70 = .ok (.lconst 1, 1) := by decide +kernel
theorem dX2_join_71 : decode cX2_join 71 = .ok (.iload_n 3, 1) := by decide +kernel
theorem dX2_join_72 : decode cX2_join 72 = .ok (.lshl, 1) := by decide +kernel
theorem dX2_join_73 : decode cX2_join 73 = .ok (.lor, 1) := by decide +kernel
theorem dX2_join_74 : decode cX2_join 74 = .ok (.lastore, 1) := by decide +kernel
theorem dX2_join_75 : decode cX2_join 75 = .ok (.return_, 1) := by decide +kernel
theorem dX2_join_76 : decode cX2_join 76 = .ok (.iload 4, 2) := by decide +kernel
theorem dX2_join_78 : decode cX2_join 78 = .ok (.iconst 1, 1) := by decide +kernel
theorem dX2_join_79 : decode cX2_join 79 = .ok (.iadd, 1) := by decide +kernel
theorem dX2_join_80 : decode cX2_join 80 = .ok (.sipush 32767, 3) := by decide +kernel
theorem dX2_join_83 : decode cX2_join 83 = .ok (.iand, 1) := by decide +kernel
theorem dX2_join_84 : decode cX2_join 84 = .ok (.istore 4, 2) := by decide +kernel
theorem dX2_join_86 : decode cX2_join 86 = .ok (.iinc 5 1, 3) := by decide +kernel
theorem dX2_join_89 : decode cX2_join 89 = .ok (.goto (-71), 3) := by decide +kernel
theorem dX2_join_92 : decode cX2_join 92 = .ok (.return_, 1) := by decide +kernel
theorem dX2_joinOtherLetters_0 : decode cX2_joinOtherLetters 0 = .ok (.iconst 0, 1) := by decide +kernel
theorem dX2_joinOtherLetters_1 : decode cX2_joinOtherLetters 1 = .ok (.istore_n 2, 1) := by decide +kernel
theorem dX2_joinOtherLetters_2 : decode cX2_joinOtherLetters 2 = .ok (.iload_n 2, 1) := by decide +kernel
theorem dX2_joinOtherLetters_3 : decode cX2_joinOtherLetters 3 = .ok (.aload_n 0, 1) := by decide +kernel
theorem dX2_joinOtherLetters_4 : decode cX2_joinOtherLetters 4 = .ok (.getfield 30, 3) := by decide +kernel
theorem dX2_joinOtherLetters_7 : decode cX2_joinOtherLetters 7 = .ok (.getfield 85, 3) := by decide +kernel
theorem dX2_joinOtherLetters_10 : decode cX2_joinOtherLetters 10 = .ok (.iload_n 1, 1) := by decide +kernel
theorem dX2_joinOtherLetters_11 : decode cX2_joinOtherLetters 11 = .ok (.iaload, 1) := by decide +kernel
theorem dX2_joinOtherLetters_12 : decode cX2_joinOtherLetters 12 = .ok (.if_icmp .ge 75, 3) := by decide +kernel
theorem dX2_joinOtherLetters_15 : decode cX2_joinOtherLetters 15 = .ok (.iconst 5, 1) := by decide +kernel
theorem dX2_joinOtherLetters_16 : decode cX2_joinOtherLetters 16 = .ok (.aload_n 0, 1) := by decide +kernel
theorem dX2_joinOtherLetters_17 : decode cX2_joinOtherLetters 17 = .ok (.getfield 30, 3) := by decide +kernel
theorem dX2_joinOtherLetters_20 : decode cX2_joinOtherLetters 20 = .ok (.getfield 85, 3) := by decide +kernel
theorem dX2_joinOtherLetters_23 : decode cX2_joinOtherLetters 23 = .ok (.iload_n 1, 1) := by decide +kernel
theorem dX2_joinOtherLetters_24 : decode cX2_joinOtherLetters 24 = .ok (.iaload, 1) := by decide +kernel
theorem dX2_joinOtherLetters_25 : decode cX2_joinOtherLetters 25 = .ok (.iconst 1, 1) := by decide +kernel
theorem dX2_joinOtherLetters_26 : decode cX2_joinOtherLetters 26 = .ok (.isub, 1) := by decide +kernel
theorem dX2_joinOtherLetters_27 : decode cX2_joinOtherLetters 27 = .ok (.iload_n 2, 1) := by decide +kernel
theorem dX2_joinOtherLetters_28 : decode cX2_joinOtherLetters 28 = .ok (.isub, 1) := by decide +kernel
theorem dX2_joinOtherLetters_29 : decode cX2_joinOtherLetters 29 = .ok (.imul, 1) := by decide +kernel
theorem dX2_joinOtherLetters_30 : decode cX2_joinOtherLetters 30 = .ok (.istore_n 3, 1) := by decide +kernel
theorem dX2_joinOtherLetters_31 : decode cX2_joinOtherLetters 31 = .ok (.aload_n 0, 1) := by decide +kernel
theorem dX2_joinOtherLetters_32 : decode cX2_joinOtherLetters 32 = .ok (.getfield 30, 3) := by decide +kernel
theorem dX2_joinOtherLetters_35 : decode cX2_joinOtherLetters 35 = .ok (.getfield 88, 3) := by decide +kernel
theorem dX2_joinOtherLetters_38 : decode cX2_joinOtherLetters 38 = .ok (.iload_n 1, 1) := by decide +kernel
theorem dX2_joinOtherLetters_39 : decode cX2_joinOtherLetters 39 = .ok (.laload, 1) := by decide +kernel
theorem dX2_joinOtherLetters_40 : decode cX2_joinOtherLetters 40 = .ok (.ldc2_w 89, 3) := by decide +kernel
theorem dX2_joinOtherLetters_43 : decode cX2_joinOtherLetters 43 = .ok (.iload_n 3, 1) := by decide +kernel
theorem dX2_joinOtherLetters_44 : decode cX2_joinOtherLetters 44 = .ok (.lshl, 1) := by decide +kernel
theorem dX2_joinOtherLetters_45 : decode cX2_joinOtherLetters 45 = .ok (.ldc2_w 91, 3) := by decide +kernel
theorem dX2_joinOtherLetters_48 : decode cX2_joinOtherLetters 48 = .ok (.lxor, 1) := by decide +kernel
theorem dX2_joinOtherLetters_49 : decode cX2_joinOtherLetters 49 = .ok (.land, 1) := by decide +kernel
theorem dX2_joinOtherLetters_50 : decode cX2_joinOtherLetters 50 = .ok (.lstore 4, 2) := by decide +kernel
theorem dX2_joinOtherLetters_52 : decode cX2_joinOtherLetters 52 = .ok (.iconst 0, 1) := by decide +kernel
theorem dX2_joinOtherLetters_53 : decode cX2_joinOtherLetters 53 = .ok (.istore 6, 2) := by decide +kernel
theorem dX2_joinOtherLetters_55 : decode cX2_joinOtherLetters 55 = .ok (.iload 6, 2) := by decide +kernel
theorem dX2_joinOtherLetters_57 : decode cX2_joinOtherLetters 57 = .ok (.bipush 26, 2) := by decide +kernel
theorem dX2_joinOtherLetters_59 : decode cX2_joinOtherLetters 59 = .ok (.if_icmp .ge 22, 3) := by decide +kernel
theorem dX2_joinOtherLetters_62 : decode cX2_joinOtherLetters 62 = .ok (.aload_n 0, 1) := by decide +kernel
theorem dX2_joinOtherLetters_63 : decode cX2_joinOtherLetters 63 = .ok (.lload 4, 2) := by decide +kernel
theorem dX2_joinOtherLetters_65 : decode cX2_joinOtherLetters 65 = .ok (.iload 6, 2) := by decide +kernel
theorem dX2_joinOtherLetters_67 : decode cX2_joinOtherLetters 67 = .ok (.i2l, 1) := by decide +kernel
theorem dX2_joinOtherLetters_68 : decode cX2_joinOtherLetters 68 = .ok (.iload_n 3, 1) := by decide +kernel
theorem dX2_joinOtherLetters_69 : decode cX2_joinOtherLetters 69 = .ok (.lshl, 1) := by decide +kernel
theorem dX2_joinOtherLetters_70 : decode cX2_joinOtherLetters 70 = .ok (.lor, 1) := by decide +kernel
theorem dX2_joinOtherLetters_71 : decode cX2_joinOtherLetters 71 = .ok (.iload_n 1, 1) := by decide +kernel
theorem dX2_joinOtherLetters_72 : decode cX2_joinOtherLetters 72 = .ok (.invokevirtual 93, 3) := by decide +kernel
theorem dX2_joinOtherLetters_75 : decode cX2_joinOtherLetters 75 = .ok (.iinc 6 1, 3) := by decide +kernel
theorem dX2_joinOtherLetters_78 : decode cX2_joinOtherLetters 78 = .ok (.goto (-23), 3) := by decide +kernel
theorem dX2_joinOtherLetters_81 : decode cX2_joinOtherLetters 81 = .ok (.iinc 2 1, 3) := by decide +kernel
theorem dX2_joinOtherLetters_84 : decode cX2_joinOtherLetters 84 = .ok (.goto (-82), 3) := by decide +kernel
theorem dX2_joinOtherLetters_87 : decode cX2_joinOtherLetters 87 = .ok (.return_, 1) := by decide +kernel
theorem dX2_joinPutIn_0 : decode cX2_joinPutIn 0 = .ok (.aload_n 0, 1) := by decide +kernel
theorem dX2_joinPutIn_1 : decode cX2_joinPutIn 1 = .ok (.getfield 30, 3) := by decide +kernel
theorem dX2_joinPutIn_4 : decode cX2_joinPutIn 4 = .ok (.getfield 85, 3) := by decide +kernel
theorem dX2_joinPutIn_7 : decode cX2_joinPutIn 7 = .ok (.iload_n 1, 1) := by decide +kernel
theorem dX2_joinPutIn_8 : decode cX2_joinPutIn 8 = .ok (.iaload, 1) := by decide +kernel
theorem dX2_joinPutIn_9 : decode cX2_joinPutIn 9 = .ok (.istore_n 2, 1) := by decide +kernel
theorem dX2_joinPutIn_10 : decode cX2_joinPutIn 10 = .ok (.iload_n 2, 1) := by decide +kernel
theorem dX2_joinPutIn_11 : decode cX2_joinPutIn 11 = .ok (.bipush 8, 2) := by decide +kernel
theorem dX2_joinPutIn_13 : decode cX2_joinPutIn 13 = .ok (.if_icmp .lt 4, 3) := by decide +kernel
theorem dX2_joinPutIn_16 : decode cX2_joinPutIn 16 = .ok (.return_, 1) := by decide +kernel
theorem dX2_joinPutIn_17 : decode cX2_joinPutIn 17 = .ok (.iconst 0, 1) := by decide +kernel
theorem dX2_joinPutIn_18 : decode cX2_joinPutIn 18 = .ok (.istore_n 3, 1) := by decide +kernel
theorem dX2_joinPutIn_19 : decode cX2_joinPutIn 19 = .ok (.iload_n 3, 1) := by decide +kernel
theorem dX2_joinPutIn_20 : decode cX2_joinPutIn 20 = .ok (.iload_n 2, 1) := by decide +kernel
theorem dX2_joinPutIn_21 : decode cX2_joinPutIn 21 = .ok (.if_icmp .gt 85, 3) := by decide +kernel
theorem dX2_joinPutIn_24 : decode cX2_joinPutIn 24 = .ok (.iconst 5, 1) := by decide +kernel
theorem dX2_joinPutIn_25 : decode cX2_joinPutIn 25 = .ok (.iload_n 2, 1) := by decide +kernel
theorem dX2_joinPutIn_26 : decode cX2_joinPutIn 26 = .ok (.iload_n 3, 1) := by decide +kernel
theorem dX2_joinPutIn_27 : decode cX2_joinPutIn 27 = .ok (.isub, 1) := by decide +kernel
theorem dX2_joinPutIn_28 : decode cX2_joinPutIn 28 = .ok (.imul, 1) := by decide +kernel
theorem dX2_joinPutIn_29 : decode cX2_joinPutIn 29 = .ok (.istore 4, 2) := by decide +kernel
theorem dX2_joinPutIn_31 : decode cX2_joinPutIn 31 = .ok (.aload_n 0, 1) := by decide +kernel
theorem dX2_joinPutIn_32 : decode cX2_joinPutIn 32 = .ok (.iload_n 1, 1) := by decide +kernel
theorem dX2_joinPutIn_33 : decode cX2_joinPutIn 33 = .ok (.invokevirtual 97, 3) := by decide +kernel
theorem dX2_joinPutIn_36 : decode cX2_joinPutIn 36 = .ok (.lconst 1, 1) := by decide +kernel
theorem dX2_joinPutIn_37 : decode cX2_joinPutIn 37 = .ok (.iload 4, 2) := by decide +kernel
theorem dX2_joinPutIn_39 : decode cX2_joinPutIn 39 = .ok (.lshl, 1) := by decide +kernel
theorem dX2_joinPutIn_40 : decode cX2_joinPutIn 40 = .ok (.lconst 1, 1) := by decide +kernel
theorem dX2_joinPutIn_41 : decode cX2_joinPutIn 41 = .ok (.lsub, 1) := by decide +kernel
theorem dX2_joinPutIn_42 : decode cX2_joinPutIn 42 = .ok (.land, 1) := by decide +kernel
theorem dX2_joinPutIn_43 : decode cX2_joinPutIn 43 = .ok (.lstore 5, 2) := by decide +kernel
theorem dX2_joinPutIn_45 : decode cX2_joinPutIn 45 = .ok (.aload_n 0, 1) := by decide +kernel
theorem dX2_joinPutIn_46 : decode cX2_joinPutIn 46 = .ok (.iload_n 1, 1) := by decide +kernel
theorem dX2_joinPutIn_47 : decode cX2_joinPutIn 47 = .ok (.invokevirtual 97, 3) := by decide +kernel
theorem dX2_joinPutIn_50 : decode cX2_joinPutIn 50 = .ok (.iload 4, 2) := by decide +kernel
theorem dX2_joinPutIn_52 : decode cX2_joinPutIn 52 = .ok (.lushr, 1) := by decide +kernel
theorem dX2_joinPutIn_53 : decode cX2_joinPutIn 53 = .ok (.lstore 7, 2) := by decide +kernel
theorem dX2_joinPutIn_55 : decode cX2_joinPutIn 55 = .ok (.iconst 0, 1) := by decide +kernel
theorem dX2_joinPutIn_56 : decode cX2_joinPutIn 56 = .ok (.istore 9, 2) := by decide +kernel
theorem dX2_joinPutIn_58 : decode cX2_joinPutIn 58 = .ok (.iload 9, 2) := by decide +kernel
theorem dX2_joinPutIn_60 : decode cX2_joinPutIn 60 = .ok (.bipush 26, 2) := by decide +kernel
theorem dX2_joinPutIn_62 : decode cX2_joinPutIn 62 = .ok (.if_icmp .ge 38, 3) := by decide +kernel
theorem dX2_joinPutIn_65 : decode cX2_joinPutIn 65 = .ok (.lload 7, 2) := by decide +kernel
theorem dX2_joinPutIn_67 : decode cX2_joinPutIn 67 = .ok (.iconst 5, 1) := by decide +kernel
theorem dX2_joinPutIn_68 : decode cX2_joinPutIn 68 = .ok (.lshl, 1) := by decide +kernel
theorem dX2_joinPutIn_69 : decode cX2_joinPutIn 69 = .ok (.iload 9, 2) := by decide +kernel
theorem dX2_joinPutIn_71 : decode cX2_joinPutIn 71 = .ok (.i2l, 1) := by decide +kernel
theorem dX2_joinPutIn_72 : decode cX2_joinPutIn 72 = .ok (.lor, 1) := by decide +kernel
theorem dX2_joinPutIn_73 : decode cX2_joinPutIn 73 = .ok (.iload 4, 2) := by decide +kernel
theorem dX2_joinPutIn_75 : decode cX2_joinPutIn 75 = .ok (.lshl, 1) := by decide +kernel
theorem dX2_joinPutIn_76 : decode cX2_joinPutIn 76 = .ok (.lload 5, 2) := by decide +kernel
theorem dX2_joinPutIn_78 : decode cX2_joinPutIn 78 = .ok (.lor, 1) := by decide +kernel
theorem dX2_joinPutIn_79 : decode cX2_joinPutIn 79 = .ok (.lstore 10, 2) := by decide +kernel
theorem dX2_joinPutIn_81 : decode cX2_joinPutIn 81 = .ok (.aload_n 0, 1) := by decide +kernel
theorem dX2_joinPutIn_82 : decode cX2_joinPutIn 82 = .ok (.lload 10, 2) := by decide +kernel
theorem dX2_joinPutIn_84 : decode cX2_joinPutIn 84 = .ok (.iload_n 2, 1) := by decide +kernel
theorem dX2_joinPutIn_85 : decode cX2_joinPutIn 85 = .ok (.iconst 1, 1) := by decide +kernel
theorem dX2_joinPutIn_86 : decode cX2_joinPutIn 86 = .ok (.iadd, 1) := by decide +kernel
theorem dX2_joinPutIn_87 : decode cX2_joinPutIn 87 = .ok (.invokestatic 101, 3) := by decide +kernel
theorem dX2_joinPutIn_90 : decode cX2_joinPutIn 90 = .ok (.iload_n 1, 1) := by decide +kernel
theorem dX2_joinPutIn_91 : decode cX2_joinPutIn 91 = .ok (.invokevirtual 93, 3) := by decide +kernel
theorem dX2_joinPutIn_94 : decode cX2_joinPutIn 94 = .ok (.iinc 9 1, 3) := by decide +kernel
theorem dX2_joinPutIn_97 : decode cX2_joinPutIn 97 = .ok (.goto (-39), 3) := by decide +kernel
theorem dX2_joinPutIn_100 : decode cX2_joinPutIn 100 = .ok (.iinc 3 1, 3) := by decide +kernel
theorem dX2_joinPutIn_103 : decode cX2_joinPutIn 103 = .ok (.goto (-84), 3) := by decide +kernel
theorem dX2_joinPutIn_106 : decode cX2_joinPutIn 106 = .ok (.return_, 1) := by decide +kernel
theorem dX2_joinShorterAndChangedAbout_0 : decode cX2_joinShorterAndChangedAbout 0 = .ok (.aload_n 0, 1) := by decide +kernel
theorem dX2_joinShorterAndChangedAbout_1 : decode cX2_joinShorterAndChangedAbout 1 = .ok (.getfield 30, 3) := by decide +kernel
theorem dX2_joinShorterAndChangedAbout_4 : decode cX2_joinShorterAndChangedAbout 4 = .ok (.getfield 85, 3) := by decide +kernel
theorem dX2_joinShorterAndChangedAbout_7 : decode cX2_joinShorterAndChangedAbout 7 = .ok (.iload_n 1, 1) := by decide +kernel
theorem dX2_joinShorterAndChangedAbout_8 : decode cX2_joinShorterAndChangedAbout 8 = .ok (.iaload, 1) := by decide +kernel
theorem dX2_joinShorterAndChangedAbout_9 : decode cX2_joinShorterAndChangedAbout 9 = .ok (.istore_n 2, 1) := by decide +kernel
theorem dX2_joinShorterAndChangedAbout_10 : decode cX2_joinShorterAndChangedAbout 10 = .ok (.iconst 0, 1) := by decide +kernel
theorem dX2_joinShorterAndChangedAbout_11 : decode cX2_joinShorterAndChangedAbout 11 = .ok (.istore_n 3, 1) := by decide +kernel
theorem dX2_joinShorterAndChangedAbout_12 : decode cX2_joinShorterAndChangedAbout 12 = .ok (.iload_n 3, 1) := by decide +kernel
theorem dX2_joinShorterAndChangedAbout_13 : decode cX2_joinShorterAndChangedAbout 13 = .ok (.iload_n 2, 1) := by decide +kernel
theorem dX2_joinShorterAndChangedAbout_14 : decode cX2_joinShorterAndChangedAbout 14 = .ok (.if_icmp .ge 128, 3) := by decide +kernel
theorem dX2_joinShorterAndChangedAbout_17 : decode cX2_joinShorterAndChangedAbout 17 = .ok (.iconst 5, 1) := by decide +kernel
theorem dX2_joinShorterAndChangedAbout_18 : decode cX2_joinShorterAndChangedAbout 18 = .ok (.iload_n 2, 1) := by decide +kernel
theorem dX2_joinShorterAndChangedAbout_19 : decode cX2_joinShorterAndChangedAbout 19 = .ok (.iconst 1, 1) := by decide +kernel
theorem dX2_joinShorterAndChangedAbout_20 : decode cX2_joinShorterAndChangedAbout 20 = .ok (.isub, 1) := by decide +kernel
theorem dX2_joinShorterAndChangedAbout_21 : decode cX2_joinShorterAndChangedAbout 21 = .ok (.iload_n 3, 1) := by decide +kernel
theorem dX2_joinShorterAndChangedAbout_22 : decode cX2_joinShorterAndChangedAbout 22 = .ok (.isub, 1) := by decide +kernel
theorem dX2_joinShorterAndChangedAbout_23 : decode cX2_joinShorterAndChangedAbout 23 = .ok (.imul, 1) := by decide +kernel
theorem dX2_joinShorterAndChangedAbout_24 : decode cX2_joinShorterAndChangedAbout 24 = .ok (.istore 4, 2) := by decide +kernel
theorem dX2_joinShorterAndChangedAbout_26 : decode cX2_joinShorterAndChangedAbout 26 = .ok (.aload_n 0, 1) := by decide +kernel
theorem dX2_joinShorterAndChangedAbout_27 : decode cX2_joinShorterAndChangedAbout 27 = .ok (.iload_n 1, 1) := by decide +kernel
theorem dX2_joinShorterAndChangedAbout_28 : decode cX2_joinShorterAndChangedAbout 28 = .ok (.invokevirtual 97, 3) := by decide +kernel
theorem dX2_joinShorterAndChangedAbout_31 : decode cX2_joinShorterAndChangedAbout 31 = .ok (.lconst 1, 1) := by decide +kernel
theorem dX2_joinShorterAndChangedAbout_32 : decode cX2_joinShorterAndChangedAbout 32 = .ok (.iload 4, 2) := by decide +kernel
theorem dX2_joinShorterAndChangedAbout_34 : decode cX2_joinShorterAndChangedAbout 34 = .ok (.lshl, 1) := by decide +kernel
theorem dX2_joinShorterAndChangedAbout_35 : decode cX2_joinShorterAndChangedAbout 35 = .ok (.lconst 1, 1) := by decide +kernel
theorem dX2_joinShorterAndChangedAbout_36 : decode cX2_joinShorterAndChangedAbout 36 = .ok (.lsub, 1) := by decide +kernel
theorem dX2_joinShorterAndChangedAbout_37 : decode cX2_joinShorterAndChangedAbout 37 = .ok (.land, 1) := by decide +kernel
theorem dX2_joinShorterAndChangedAbout_38 : decode cX2_joinShorterAndChangedAbout 38 = .ok (.lstore 5, 2) := by decide +kernel
theorem dX2_joinShorterAndChangedAbout_40 : decode cX2_joinShorterAndChangedAbout 40 = .ok (.aload_n 0, 1) := by decide +kernel
theorem dX2_joinShorterAndChangedAbout_41 : decode cX2_joinShorterAndChangedAbout 41 = .ok (.iload_n 1, 1) := by decide +kernel
theorem dX2_joinShorterAndChangedAbout_42 : decode cX2_joinShorterAndChangedAbout 42 = .ok (.invokevirtual 97, 3) := by decide +kernel
theorem dX2_joinShorterAndChangedAbout_45 : decode cX2_joinShorterAndChangedAbout 45 = .ok (.iload 4, 2) := by decide +kernel
theorem dX2_joinShorterAndChangedAbout_47 : decode cX2_joinShorterAndChangedAbout 47 = .ok (.iconst 5, 1) := by decide +kernel
theorem dX2_joinShorterAndChangedAbout_48 : decode cX2_joinShorterAndChangedAbout 48 = .ok (.iadd, 1) := by decide +kernel
theorem dX2_joinShorterAndChangedAbout_49 : decode cX2_joinShorterAndChangedAbout 49 = .ok (.lushr, 1) := by decide +kernel
theorem dX2_joinShorterAndChangedAbout_50 : decode cX2_joinShorterAndChangedAbout 50 = .ok (.lstore 7, 2) := by decide +kernel
theorem dX2_joinShorterAndChangedAbout_52 : decode cX2_joinShorterAndChangedAbout 52 = .ok (.iload_n 2, 1) := by decide +kernel
theorem dX2_joinShorterAndChangedAbout_53 : decode cX2_joinShorterAndChangedAbout 53 = .ok (.iconst 1, 1) := by decide +kernel
theorem dX2_joinShorterAndChangedAbout_54 : decode cX2_joinShorterAndChangedAbout 54 = .ok (.if_icmp .le 22, 3) := by decide +kernel
theorem dX2_joinShorterAndChangedAbout_57 : decode cX2_joinShorterAndChangedAbout 57 = .ok (.aload_n 0, 1) := by decide +kernel
theorem dX2_joinShorterAndChangedAbout_58 : decode cX2_joinShorterAndChangedAbout 58 = .ok (.lload 7, 2) := by decide +kernel
theorem dX2_joinShorterAndChangedAbout_60 : decode cX2_joinShorterAndChangedAbout 60 = .ok (.iload 4, 2) := by decide +kernel
theorem dX2_joinShorterAndChangedAbout_62 : decode cX2_joinShorterAndChangedAbout 62 = .ok (.lshl, 1) := by decide +kernel
theorem dX2_joinShorterAndChangedAbout_63 : decode cX2_joinShorterAndChangedAbout 63 = .ok (.lload 5, 2) := by decide +kernel
theorem dX2_joinShorterAndChangedAbout_65 : decode cX2_joinShorterAndChangedAbout 65 = .ok (.lor, 1) := by decide +kernel
theorem dX2_joinShorterAndChangedAbout_66 : decode cX2_joinShorterAndChangedAbout 66 = .ok (.iload_n 2, 1) := by decide +kernel
theorem dX2_joinShorterAndChangedAbout_67 : decode cX2_joinShorterAndChangedAbout 67 = .ok (.iconst 1, 1) := by decide +kernel
theorem dX2_joinShorterAndChangedAbout_68 : decode cX2_joinShorterAndChangedAbout 68 = .ok (.isub, 1) := by decide +kernel
theorem dX2_joinShorterAndChangedAbout_69 : decode cX2_joinShorterAndChangedAbout 69 = .ok (.invokestatic 101, 3) := by decide +kernel
theorem dX2_joinShorterAndChangedAbout_72 : decode cX2_joinShorterAndChangedAbout 72 = .ok (.iload_n 1, 1) := by decide +kernel
theorem dX2_joinShorterAndChangedAbout_73 : decode cX2_joinShorterAndChangedAbout 73 = .ok (.invokevirtual 93, 3) := by decide +kernel
theorem dX2_joinShorterAndChangedAbout_76 : decode cX2_joinShorterAndChangedAbout 76 = .ok (.iload_n 3, 1) := by decide +kernel
theorem dX2_joinShorterAndChangedAbout_77 : decode cX2_joinShorterAndChangedAbout 77 = .ok (.iconst 1, 1) := by decide +kernel
theorem dX2_joinShorterAndChangedAbout_78 : decode cX2_joinShorterAndChangedAbout 78 = .ok (.iadd, 1) := by decide +kernel
theorem dX2_joinShorterAndChangedAbout_79 : decode cX2_joinShorterAndChangedAbout 79 = .ok (.iload_n 2, 1) := by decide +kernel
theorem dX2_joinShorterAndChangedAbout_80 : decode cX2_joinShorterAndChangedAbout 80 = .ok (.if_icmp .ge 56, 3) := by decide +kernel
theorem dX2_joinShorterAndChangedAbout_83 : decode cX2_joinShorterAndChangedAbout 83 = .ok (.aload_n 0, 1) := by decide +kernel
theorem dX2_joinShorterAndChangedAbout_84 : decode cX2_joinShorterAndChangedAbout 84 = .ok (.iload_n 1, 1) := by decide +kernel
theorem dX2_joinShorterAndChangedAbout_85 : decode cX2_joinShorterAndChangedAbout 85 = .ok (.invokevirtual 97, 3) := by decide +kernel
theorem dX2_joinShorterAndChangedAbout_88 : decode cX2_joinShorterAndChangedAbout 88 = .ok (.iload 4, 2) := by decide +kernel
theorem dX2_joinShorterAndChangedAbout_90 : decode cX2_joinShorterAndChangedAbout 90 = .ok (.lushr, 1) := by decide +kernel
theorem dX2_joinShorterAndChangedAbout_91 : decode cX2_joinShorterAndChangedAbout 91 = .ok (.aload_n 0, 1) := by decide +kernel
theorem dX2_joinShorterAndChangedAbout_92 : decode cX2_joinShorterAndChangedAbout 92 = .ok (.iload_n 1, 1) := by decide +kernel
theorem dX2_joinShorterAndChangedAbout_93 : decode cX2_joinShorterAndChangedAbout 93 = .ok (.invokevirtual 97, 3) := by decide +kernel
theorem dX2_joinShorterAndChangedAbout_96 : decode cX2_joinShorterAndChangedAbout 96 = .ok (.iload 4, 2) := by decide +kernel
theorem dX2_joinShorterAndChangedAbout_98 : decode cX2_joinShorterAndChangedAbout 98 = .ok (.iconst 5, 1) := by decide +kernel
theorem dX2_joinShorterAndChangedAbout_99 : decode cX2_joinShorterAndChangedAbout 99 = .ok (.isub, 1) := by decide +kernel
theorem dX2_joinShorterAndChangedAbout_100 : decode cX2_joinShorterAndChangedAbout 100 = .ok (.lushr, 1) := by decide +kernel
theorem dX2_joinShorterAndChangedAbout_101 : decode cX2_joinShorterAndChangedAbout 101 = .ok (.lxor, 1) := by decide +kernel
theorem dX2_joinShorterAndChangedAbout_102 : decode cX2_joinShorterAndChangedAbout 102 = .ok (.ldc2_w 89, 3) := by decide +kernel
theorem dX2_joinShorterAndChangedAbout_105 : decode cX2_joinShorterAndChangedAbout 105 = .ok (.land, 1) := by decide +kernel
theorem dX2_joinShorterAndChangedAbout_106 : decode cX2_joinShorterAndChangedAbout 106 = .ok (.lstore 9, 2) := by decide +kernel
theorem dX2_joinShorterAndChangedAbout_108 : decode cX2_joinShorterAndChangedAbout 108 = .ok (.aload_n 0, 1) := by decide +kernel
theorem dX2_joinShorterAndChangedAbout_109 : decode cX2_joinShorterAndChangedAbout 109 = .ok (.aload_n 0, 1) := by decide +kernel
theorem dX2_joinShorterAndChangedAbout_110 : decode cX2_joinShorterAndChangedAbout 110 = .ok (.getfield 30, 3) := by decide +kernel
theorem dX2_joinShorterAndChangedAbout_113 : decode cX2_joinShorterAndChangedAbout 113 = .ok (.getfield 88, 3) := by decide +kernel
theorem dX2_joinShorterAndChangedAbout_116 : decode cX2_joinShorterAndChangedAbout 116 = .ok (.iload_n 1, 1) := by decide +kernel
theorem dX2_joinShorterAndChangedAbout_117 : decode cX2_joinShorterAndChangedAbout 117 = .ok (.laload, 1) := by decide +kernel
theorem dX2_joinShorterAndChangedAbout_118 : decode cX2_joinShorterAndChangedAbout 118 = .ok (.lload 9, 2) := by decide +kernel
theorem dX2_joinShorterAndChangedAbout_120 : decode cX2_joinShorterAndChangedAbout 120 = .ok (.iload 4, 2) := by decide +kernel
theorem dX2_joinShorterAndChangedAbout_122 : decode cX2_joinShorterAndChangedAbout 122 = .ok (.lshl, 1) := by decide +kernel
theorem dX2_joinShorterAndChangedAbout_123 : decode cX2_joinShorterAndChangedAbout 123 = .ok (.lxor, 1) := by decide +kernel
theorem dX2_joinShorterAndChangedAbout_124 : decode cX2_joinShorterAndChangedAbout 124 = .ok (.lload 9, 2) := by decide +kernel
theorem dX2_joinShorterAndChangedAbout_126 : decode cX2_joinShorterAndChangedAbout 126 = .ok (.iload 4, 2) := by decide +kernel
theorem dX2_joinShorterAndChangedAbout_128 : decode cX2_joinShorterAndChangedAbout 128 = .ok (.iconst 5, 1) := by decide +kernel
theorem dX2_joinShorterAndChangedAbout_129 : decode cX2_joinShorterAndChangedAbout 129 = .ok (.isub, 1) := by decide +kernel
theorem dX2_joinShorterAndChangedAbout_130 : decode cX2_joinShorterAndChangedAbout 130 = .ok (.lshl, 1) := by decide +kernel
theorem dX2_joinShorterAndChangedAbout_131 : decode cX2_joinShorterAndChangedAbout 131 = .ok (.lxor, 1) := by decide +kernel
theorem dX2_joinShorterAndChangedAbout_132 : decode cX2_joinShorterAndChangedAbout 132 = .ok (.iload_n 1, 1) := by decide +kernel
theorem dX2_joinShorterAndChangedAbout_133 : decode cX2_joinShorterAndChangedAbout 133 = .ok (.invokevirtual 93, 3) := by decide +kernel
theorem dX2_joinShorterAndChangedAbout_136 : decode cX2_joinShorterAndChangedAbout 136 = .ok (.iinc 3 1, 3) := by decide +kernel
theorem dX2_joinShorterAndChangedAbout_139 : decode cX2_joinShorterAndChangedAbout 139 = .ok (.goto (-127), 3) := by decide +kernel
theorem dX2_joinShorterAndChangedAbout_142 : decode cX2_joinShorterAndChangedAbout 142 = .ok (.return_, 1) := by decide +kernel
theorem dX2_letterAt_0 : decode cX2_letterAt 0 = .ok (.iload_n 1, 1) := by decide +kernel
theorem dX2_letterAt_1 : decode cX2_letterAt 1 = .ok (.aload_n 0, 1) := by decide +kernel
theorem dX2_letterAt_2 : decode cX2_letterAt 2 = .ok (.getfield 73, 3) := by decide +kernel
theorem dX2_letterAt_5 : decode cX2_letterAt 5 = .ok (.invokestatic 77, 3) := by decide +kernel
theorem dX2_letterAt_8 : decode cX2_letterAt 8 = .ok (.if_icmp .ge 14, 3) := by decide +kernel
theorem dX2_letterAt_11 : decode cX2_letterAt 11 = .ok (.aload_n 0, 1) := by decide +kernel
theorem dX2_letterAt_12 : decode cX2_letterAt 12 = .ok (.getfield 73, 3) := by decide +kernel
theorem dX2_letterAt_15 : decode cX2_letterAt 15 = .ok (.iload_n 1, 1) := by decide +kernel
theorem dX2_letterAt_16 : decode cX2_letterAt 16 = .ok (.invokestatic 81, 3) := by decide +kernel
theorem dX2_letterAt_19 : decode cX2_letterAt 19 = .ok (.goto 4, 3) := by decide +kernel
theorem dX2_letterAt_22 : decode cX2_letterAt 22 = .ok (.iconst (-1), 1) := by decide +kernel
theorem dX2_letterAt_23 : decode cX2_letterAt 23 = .ok (.ireturn, 1) := by decide +kernel
theorem dX2_lettersOf_0 : decode cX2_lettersOf 0 = .ok (.aload_n 0, 1) := by decide +kernel
theorem dX2_lettersOf_1 : decode cX2_lettersOf 1 = .ok (.getfield 30, 3) := by decide +kernel
theorem dX2_lettersOf_4 : decode cX2_lettersOf 4 = .ok (.getfield 88, 3) := by decide +kernel
theorem dX2_lettersOf_7 : decode cX2_lettersOf 7 = .ok (.iload_n 1, 1) := by decide +kernel
theorem dX2_lettersOf_8 : decode cX2_lettersOf 8 = .ok (.laload, 1) := by decide +kernel
theorem dX2_lettersOf_9 : decode cX2_lettersOf 9 = .ok (.ldc2_w 105, 3) := by decide +kernel
theorem dX2_lettersOf_12 : decode cX2_lettersOf 12 = .ok (.land, 1) := by decide +kernel
theorem dX2_lettersOf_13 : decode cX2_lettersOf 13 = .ok (.lreturn, 1) := by decide +kernel
theorem dX2_refresh_0 : decode cX2_refresh 0 = .ok (.aload_n 0, 1) := by decide +kernel
theorem dX2_refresh_1 : decode cX2_refresh 1 = .ok (.getfield 26, 3) := by decide +kernel
theorem dX2_refresh_4 : decode cX2_refresh 4 = .ok (.aload_n 0, 1) := by decide +kernel
theorem dX2_refresh_5 : decode cX2_refresh 5 = .ok (.getfield 34, 3) := by decide +kernel
theorem dX2_refresh_8 : decode cX2_refresh 8 = .ok (.getfield 42, 3) := by decide +kernel
theorem dX2_refresh_11 : decode cX2_refresh 11 = .ok (.if_icmp .ne 4, 3) := by decide +kernel
theorem dX2_refresh_14 : decode cX2_refresh 14 = .ok (.return_, 1) := by decide +kernel
theorem dX2_refresh_15 : decode cX2_refresh 15 = .ok (.aload_n 0, 1) := by decide +kernel
theorem dX2_refresh_16 : decode cX2_refresh 16 = .ok (.aload_n 0, 1) := by decide +kernel
theorem dX2_refresh_17 : decode cX2_refresh 17 = .ok (.getfield 34, 3) := by decide +kernel
theorem dX2_refresh_20 : decode cX2_refresh 20 = .ok (.getfield 42, 3) := by decide +kernel
theorem dX2_refresh_23 : decode cX2_refresh 23 = .ok (.putfield 26, 3) := by decide +kernel
theorem dX2_refresh_26 : decode cX2_refresh 26 = .ok (.aload_n 0, 1) := by decide +kernel
theorem dX2_refresh_27 : decode cX2_refresh 27 = .ok (.invokevirtual 45, 3) := by decide +kernel
theorem dX2_refresh_30 : decode cX2_refresh 30 = .ok (.iconst 0, 1) := by decide +kernel
theorem dX2_refresh_31 : decode cX2_refresh 31 = .ok (.istore_n 1, 1) := by decide +kernel
theorem dX2_refresh_32 : decode cX2_refresh 32 = .ok (.iload_n 1, 1) := by decide +kernel
theorem dX2_refresh_33 : decode cX2_refresh 33 = .ok (.aload_n 0, 1) := by decide +kernel
theorem dX2_refresh_34 : decode cX2_refresh 34 = .ok (.getfield 30, 3) := by decide +kernel
theorem dX2_refresh_37 : decode cX2_refresh 37 = .ok (.getfield 48, 3) := by decide +kernel
theorem dX2_refresh_40 : decode cX2_refresh 40 = .ok (.if_icmp .ge 35, 3) := by decide +kernel
theorem dX2_refresh_43 : decode cX2_refresh 43 = .ok (.aload_n 0, 1) := by decide +kernel
theorem dX2_refresh_44 : decode cX2_refresh 44 = .ok (.getfield 30, 3) := by decide +kernel
theorem dX2_refresh_47 : decode cX2_refresh 47 = .ok (.iload_n 1, 1) := by decide +kernel
theorem dX2_refresh_48 : decode cX2_refresh 48 = .ok (.invokevirtual 53, 3) := by decide +kernel
theorem dX2_refresh_51 : decode cX2_refresh 51 = .ok (.ifCond .eq 18, 3) := by decide +kernel
theorem dX2_refresh_54 : decode cX2_refresh 54 = .ok (.aload_n 0, 1) := by decide +kernel
theorem dX2_refresh_55 : decode cX2_refresh 55 = .ok (.iload_n 1, 1) := by decide +kernel
theorem dX2_refresh_56 : decode cX2_refresh 56 = .ok (.invokevirtual 57, 3) := by decide +kernel
theorem dX2_refresh_59 : decode cX2_refresh 59 = .ok (.aload_n 0, 1) := by decide +kernel
theorem dX2_refresh_60 : decode cX2_refresh 60 = .ok (.iload_n 1, 1) := by decide +kernel
theorem dX2_refresh_61 : decode cX2_refresh 61 = .ok (.invokevirtual 61, 3) := by decide +kernel
theorem dX2_refresh_64 : decode cX2_refresh 64 = .ok (.aload_n 0, 1) := by decide +kernel
theorem dX2_refresh_65 : decode cX2_refresh 65 = .ok (.iload_n 1, 1) := by decide +kernel
theorem dX2_refresh_66 : decode cX2_refresh 66 = .ok (.invokevirtual 64, 3) := by decide +kernel
theorem dX2_refresh_69 : decode cX2_refresh 69 = .ok (.iinc 1 1, 3) := by decide +kernel
theorem dX2_refresh_72 : decode cX2_refresh 72 = .ok (.goto (-40), 3) := by decide +kernel
theorem dX2_refresh_75 : decode cX2_refresh 75 = .ok (.aload_n 0, 1) := by decide +kernel
theorem dX2_refresh_76 : decode cX2_refresh 76 = .ok (.invokevirtual 67, 3) := by decide +kernel
theorem dX2_refresh_79 : decode cX2_refresh 79 = .ok (.return_, 1) := by decide +kernel
theorem dX2_weigh_0 : decode cX2_weigh 0 = .ok (.lload_n 3, 1) := by decide +kernel
theorem dX2_weigh_1 : decode cX2_weigh 1 = .ok (.invokestatic 119, 3) := by decide +kernel
theorem dX2_weigh_4 : decode cX2_weigh 4 = .ok (.istore 5, 2) := by decide +kernel
theorem dX2_weigh_6 : decode cX2_weigh 6 = .ok (.iload 5, 2) := by decide +kernel
theorem dX2_weigh_8 : decode cX2_weigh 8 = .ok (.iconst 1, 1) := by decide +kernel
theorem dX2_weigh_9 : decode cX2_weigh 9 = .ok (.if_icmp .ne 7, 3) := by decide +kernel
theorem dX2_weigh_12 : decode cX2_weigh 12 = .ok (.iconst 1, 1) := by decide +kernel
theorem dX2_weigh_13 : decode cX2_weigh 13 = .ok (.goto 8, 3) := by decide +kernel
theorem dX2_weigh_16 : decode cX2_weigh 16 = .ok (.aload_n 0, 1) := by decide +kernel
theorem dX2_weigh_17 : decode cX2_weigh 17 = .ok (.lload_n 3, 1) := by decide +kernel
theorem dX2_weigh_18 : decode cX2_weigh 18 = .ok (.invokevirtual 128, 3) := by decide +kernel
theorem dX2_weigh_21 : decode cX2_weigh 21 = .ok (.istore 6, 2) := by decide +kernel
theorem dX2_weigh_23 : decode cX2_weigh 23 = .ok (.iload 6, 2) := by decide +kernel
theorem dX2_weigh_25 : decode cX2_weigh 25 = .ok (.aload_n 0, 1) := by decide +kernel
theorem dX2_weigh_26 : decode cX2_weigh 26 = .ok (.getfield 113, 3) := by decide +kernel
theorem dX2_weigh_29 : decode cX2_weigh 29 = .ok (.if_icmp .gt 48, 3) := by decide +kernel
theorem dX2_weigh_32 : decode cX2_weigh 32 = .ok (.iload 6, 2) := by decide +kernel
theorem dX2_weigh_34 : decode cX2_weigh 34 = .ok (.aload_n 0, 1) := by decide +kernel
theorem dX2_weigh_35 : decode cX2_weigh 35 = .ok (.getfield 113, 3) := by decide +kernel
theorem dX2_weigh_38 : decode cX2_weigh 38 = .ok (.if_icmp .ne 12, 3) := by decide +kernel
theorem dX2_weigh_41 : decode cX2_weigh 41 = .ok (.iload 5, 2) := by decide +kernel
theorem dX2_weigh_43 : decode cX2_weigh 43 = .ok (.aload_n 0, 1) := by decide +kernel
theorem dX2_weigh_44 : decode cX2_weigh 44 = .ok (.getfield 116, 3) := by decide +kernel
theorem dX2_weigh_47 : decode cX2_weigh 47 = .ok (.if_icmp .gt 30, 3) := by decide +kernel
theorem dX2_weigh_50 : decode cX2_weigh 50 = .ok (.iload 6, 2) := by decide +kernel
theorem dX2_weigh_52 : decode cX2_weigh 52 = .ok (.aload_n 0, 1) := by decide +kernel
theorem dX2_weigh_53 : decode cX2_weigh 53 = .ok (.getfield 113, 3) := by decide +kernel
theorem dX2_weigh_56 : decode cX2_weigh 56 = .ok (.if_icmp .ne 25, 3) := by decide +kernel
theorem dX2_weigh_59 : decode cX2_weigh 59 = .ok (.iload 5, 2) := by decide +kernel
theorem dX2_weigh_61 : decode cX2_weigh 61 = .ok (.aload_n 0, 1) := by decide +kernel
theorem dX2_weigh_62 : decode cX2_weigh 62 = .ok (.getfield 116, 3) := by decide +kernel
theorem dX2_weigh_65 : decode cX2_weigh 65 = .ok (.if_icmp .ne 16, 3) := by decide +kernel
theorem dX2_weigh_68 : decode cX2_weigh 68 = .ok (.lload_n 1, 1) := by decide +kernel
theorem dX2_weigh_69 : decode cX2_weigh 69 = .ok (.aload_n 0, 1) := by decide +kernel
theorem dX2_weigh_70 : decode cX2_weigh 70 = .ok (.getfield 73, 3) := by decide +kernel
theorem dX2_weigh_73 : decode cX2_weigh 73 = .ok (.lcmp, 1) := by decide +kernel
theorem dX2_weigh_74 : decode cX2_weigh 74 = .ok (.ifCond .ge 7, 3) := by decide +kernel
theorem dX2_weigh_77 : decode cX2_weigh 77 = .ok (.iconst 1, 1) := by decide +kernel
theorem dX2_weigh_78 : decode cX2_weigh 78 = .ok (.goto 4, 3) := by decide +kernel
theorem dX2_weigh_81 : decode cX2_weigh 81 = .ok (.iconst 0, 1) := by decide +kernel
theorem dX2_weigh_82 : decode cX2_weigh 82 = .ok (.istore 7, 2) := by decide +kernel
theorem dX2_weigh_84 : decode cX2_weigh 84 = .ok (.iload 7, 2) := by decide +kernel
theorem dX2_weigh_86 : decode cX2_weigh 86 = .ok (.ifCond .eq 31, 3) := by decide +kernel
theorem dX2_weigh_89 : decode cX2_weigh 89 = .ok (.aload_n 0, 1) := by decide +kernel
theorem dX2_weigh_90 : decode cX2_weigh 90 = .ok (.getfield 30, 3) := by decide +kernel
theorem dX2_weigh_93 : decode cX2_weigh 93 = .ok (.lload_n 1, 1) := by decide +kernel
theorem dX2_weigh_94 : decode cX2_weigh 94 = .ok (.invokevirtual 131, 3) := by decide +kernel
theorem dX2_weigh_97 : decode cX2_weigh 97 = .ok (.ifCond .ne 20, 3) := by decide +kernel
theorem dX2_weigh_100 : decode cX2_weigh 100 = .ok (.aload_n 0, 1) := by decide +kernel
theorem dX2_weigh_101 : decode cX2_weigh 101 = .ok (.iload 6, 2) := by decide +kernel
theorem dX2_weigh_103 : decode cX2_weigh 103 = .ok (.putfield 113, 3) := by decide +kernel
theorem dX2_weigh_106 : decode cX2_weigh 106 = .ok (.aload_n 0, 1) := by decide +kernel
theorem dX2_weigh_107 : decode cX2_weigh 107 = .ok (.iload 5, 2) := by decide +kernel
theorem dX2_weigh_109 : decode cX2_weigh 109 = .ok (.putfield 116, 3) := by decide +kernel
theorem dX2_weigh_112 : decode cX2_weigh 112 = .ok (.aload_n 0, 1) := by decide +kernel
theorem dX2_weigh_113 : decode cX2_weigh 113 = .ok (.lload_n 1, 1) := by decide +kernel
theorem dX2_weigh_114 : decode cX2_weigh 114 = .ok (.putfield 73, 3) := by decide +kernel
theorem dX2_weigh_117 : decode cX2_weigh 117 = .ok (.return_, 1) := by decide +kernel
theorem dX1_fails_0 : decode cX1_fails 0 = .ok (.aload_n 0, 1) := by decide +kernel
theorem dX1_fails_1 : decode cX1_fails 1 = .ok (.iload_n 1, 1) := by decide +kernel
theorem dX1_fails_2 : decode cX1_fails 2 = .ok (.putfield 29, 3) := by decide +kernel
theorem dX1_fails_5 : decode cX1_fails 5 = .ok (.iconst 0, 1) := by decide +kernel
theorem dX1_fails_6 : decode cX1_fails 6 = .ok (.ireturn, 1) := by decide +kernel
theorem dX1_isDigit_0 : decode cX1_isDigit 0 = .ok (.iload_n 0, 1) := by decide +kernel
theorem dX1_isDigit_1 : decode cX1_isDigit 1 = .ok (.bipush 48, 2) := by decide +kernel
theorem dX1_isDigit_3 : decode cX1_isDigit 3 = .ok (.if_icmp .lt 13, 3) := by decide +kernel
theorem dX1_isDigit_6 : decode cX1_isDigit 6 = .ok (.iload_n 0, 1) := by decide +kernel
theorem dX1_isDigit_7 : decode cX1_isDigit 7 = .ok (.bipush 57, 2) := by decide +kernel
theorem dX1_isDigit_9 : decode cX1_isDigit 9 = .ok (.if_icmp .gt 7, 3) := by decide +kernel
theorem dX1_isDigit_12 : decode cX1_isDigit 12 = .ok (.iconst 1, 1) := by decide +kernel
theorem dX1_isDigit_13 : decode cX1_isDigit 13 = .ok (.goto 4, 3) := by decide +kernel
theorem dX1_isDigit_16 : decode cX1_isDigit 16 = .ok (.iconst 0, 1) := by decide +kernel
theorem dX1_isDigit_17 : decode cX1_isDigit 17 = .ok (.ireturn, 1) := by decide +kernel
theorem dX1_next_0 : decode cX1_next 0 = .ok (.aload_n 0, 1) := by decide +kernel
theorem dX1_next_1 : decode cX1_next 1 = .ok (.getfield 26, 3) := by decide +kernel
theorem dX1_next_4 : decode cX1_next 4 = .ok (.aload_n 0, 1) := by decide +kernel
theorem dX1_next_5 : decode cX1_next 5 = .ok (.getfield 22, 3) := by decide +kernel
theorem dX1_next_8 : decode cX1_next 8 = .ok (.if_icmp .ge 17, 3) := by decide +kernel
theorem dX1_next_11 : decode cX1_next 11 = .ok (.aload_n 0, 1) := by decide +kernel
theorem dX1_next_12 : decode cX1_next 12 = .ok (.getfield 18, 3) := by decide +kernel
theorem dX1_next_15 : decode cX1_next 15 = .ok (.aload_n 0, 1) := by decide +kernel
theorem dX1_next_16 : decode cX1_next 16 = .ok (.getfield 26, 3) := by decide +kernel
theorem dX1_next_19 : decode cX1_next 19 = .ok (.invokevirtual 110, 3) := by decide +kernel
theorem dX1_next_22 : decode cX1_next 22 = .ok (.goto 4, 3) := by decide +kernel
theorem dX1_next_25 : decode cX1_next 25 = .ok (.iconst (-1), 1) := by decide +kernel
theorem dX1_next_26 : decode cX1_next 26 = .ok (.ireturn, 1) := by decide +kernel
theorem dX1_opens_0 : decode cX1_opens 0 = .ok (.iload_n 1, 1) := by decide +kernel
theorem dX1_opens_1 : decode cX1_opens 1 = .ok (.bipush 6, 2) := by decide +kernel
theorem dX1_opens_3 : decode cX1_opens 3 = .ok (.if_icmp .lt 9, 3) := by decide +kernel
theorem dX1_opens_6 : decode cX1_opens 6 = .ok (.aload_n 0, 1) := by decide +kernel
theorem dX1_opens_7 : decode cX1_opens 7 = .ok (.iconst 5, 1) := by decide +kernel
theorem dX1_opens_8 : decode cX1_opens 8 = .ok (.invokevirtual 39, 3) := by decide +kernel
theorem dX1_opens_11 : decode cX1_opens 11 = .ok (.ireturn, 1) := by decide +kernel
theorem dX1_opens_12 : decode cX1_opens 12 = .ok (.aload_n 0, 1) := by decide +kernel
theorem dX1_opens_13 : decode cX1_opens 13 = .ok (.dup, 1) := by decide +kernel
theorem dX1_opens_14 : decode cX1_opens 14 = .ok (.getfield 26, 3) := by decide +kernel
theorem dX1_opens_17 : decode cX1_opens 17 = .ok (.iconst 1, 1) := by decide +kernel
theorem dX1_opens_18 : decode cX1_opens 18 = .ok (.iadd, 1) := by decide +kernel
theorem dX1_opens_19 : decode cX1_opens 19 = .ok (.putfield 26, 3) := by decide +kernel
theorem dX1_opens_22 : decode cX1_opens 22 = .ok (.iconst 1, 1) := by decide +kernel
theorem dX1_opens_23 : decode cX1_opens 23 = .ok (.ireturn, 1) := by decide +kernel
theorem dX1_passes_0 : decode cX1_passes 0 = .ok (.aload_n 0, 1) := by decide +kernel
theorem dX1_passes_1 : decode cX1_passes 1 = .ok (.invokevirtual 35, 3) := by decide +kernel
theorem dX1_passes_4 : decode cX1_passes 4 = .ok (.iload_n 1, 1) := by decide +kernel
theorem dX1_passes_5 : decode cX1_passes 5 = .ok (.if_icmp .eq 9, 3) := by decide +kernel
theorem dX1_passes_8 : decode cX1_passes 8 = .ok (.aload_n 0, 1) := by decide +kernel
theorem dX1_passes_9 : decode cX1_passes 9 = .ok (.iconst 1, 1) := by decide +kernel
theorem dX1_passes_10 : decode cX1_passes 10 = .ok (.invokevirtual 39, 3) := by decide +kernel
theorem dX1_passes_13 : decode cX1_passes 13 = .ok (.ireturn, 1) := by decide +kernel
theorem dX1_passes_14 : decode cX1_passes 14 = .ok (.aload_n 0, 1) := by decide +kernel
theorem dX1_passes_15 : decode cX1_passes 15 = .ok (.dup, 1) := by decide +kernel
theorem dX1_passes_16 : decode cX1_passes 16 = .ok (.getfield 26, 3) := by decide +kernel
theorem dX1_passes_19 : decode cX1_passes 19 = .ok (.iconst 1, 1) := by decide +kernel
theorem dX1_passes_20 : decode cX1_passes 20 = .ok (.iadd, 1) := by decide +kernel
theorem dX1_passes_21 : decode cX1_passes 21 = .ok (.putfield 26, 3) := by decide +kernel
theorem dX1_passes_24 : decode cX1_passes 24 = .ok (.iconst 1, 1) := by decide +kernel
theorem dX1_passes_25 : decode cX1_passes 25 = .ok (.ireturn, 1) := by decide +kernel
theorem dX1_readBrackets_0 : decode cX1_readBrackets 0 = .ok (.aload_n 0, 1) := by decide +kernel
theorem dX1_readBrackets_1 : decode cX1_readBrackets 1 = .ok (.invokevirtual 35, 3) := by decide +kernel
theorem dX1_readBrackets_4 : decode cX1_readBrackets 4 = .ok (.bipush 40, 2) := by decide +kernel
theorem dX1_readBrackets_6 : decode cX1_readBrackets 6 = .ok (.if_icmp .eq 9, 3) := by decide +kernel
theorem dX1_readBrackets_9 : decode cX1_readBrackets 9 = .ok (.aload_n 0, 1) := by decide +kernel
theorem dX1_readBrackets_10 : decode cX1_readBrackets 10 = .ok (.iconst 1, 1) := by decide +kernel
theorem dX1_readBrackets_11 : decode cX1_readBrackets 11 = .ok (.invokevirtual 39, 3) := by decide +kernel
theorem dX1_readBrackets_14 : decode cX1_readBrackets 14 = .ok (.ireturn, 1) := by decide +kernel
theorem dX1_readBrackets_15 : decode cX1_readBrackets 15 = .ok (.aload_n 0, 1) := by decide +kernel
theorem dX1_readBrackets_16 : decode cX1_readBrackets 16 = .ok (.iload_n 1, 1) := by decide +kernel
theorem dX1_readBrackets_17 : decode cX1_readBrackets 17 = .ok (.invokevirtual 67, 3) := by decide +kernel
theorem dX1_readBrackets_20 : decode cX1_readBrackets 20 = .ok (.ifCond .eq 26, 3) := by decide +kernel
theorem dX1_readBrackets_23 : decode cX1_readBrackets 23 = .ok (.aload_n 0, 1) := by decide +kernel
theorem dX1_readBrackets_24 : decode cX1_readBrackets 24 = .ok (.iload_n 1, 1) := by decide +kernel
theorem dX1_readBrackets_25 : decode cX1_readBrackets 25 = .ok (.iconst 1, 1) := by decide +kernel
theorem dX1_readBrackets_26 : decode cX1_readBrackets 26 = .ok (.iadd, 1) := by decide +kernel
theorem dX1_readBrackets_27 : decode cX1_readBrackets 27 = .ok (.invokevirtual 70, 3) := by decide +kernel
theorem dX1_readBrackets_30 : decode cX1_readBrackets 30 = .ok (.ifCond .eq 16, 3) := by decide +kernel
theorem dX1_readBrackets_33 : decode cX1_readBrackets 33 = .ok (.aload_n 0, 1) := by decide +kernel
theorem dX1_readBrackets_34 : decode cX1_readBrackets 34 = .ok (.bipush 41, 2) := by decide +kernel
theorem dX1_readBrackets_36 : decode cX1_readBrackets 36 = .ok (.invokevirtual 47, 3) := by decide +kernel
theorem dX1_readBrackets_39 : decode cX1_readBrackets 39 = .ok (.ifCond .eq 7, 3) := by decide +kernel
theorem dX1_readBrackets_42 : decode cX1_readBrackets 42 = .ok (.iconst 1, 1) := by decide +kernel
theorem dX1_readBrackets_43 : decode cX1_readBrackets 43 = .ok (.goto 4, 3) := by decide +kernel
theorem dX1_readBrackets_46 : decode cX1_readBrackets 46 = .ok (.iconst 0, 1) := by decide +kernel
theorem dX1_readBrackets_47 : decode cX1_readBrackets 47 = .ok (.ireturn, 1) := by decide +kernel
theorem dX1_readClause_0 : decode cX1_readClause 0 = .ok (.iconst (-1), 1) := by decide +kernel
theorem dX1_readClause_1 : decode cX1_readClause 1 = .ok (.istore_n 2, 1) := by decide +kernel
theorem dX1_readClause_2 : decode cX1_readClause 2 = .ok (.iload_n 1, 1) := by decide +kernel
theorem dX1_readClause_3 : decode cX1_readClause 3 = .ok (.ifCond .eq 31, 3) := by decide +kernel
theorem dX1_readClause_6 : decode cX1_readClause 6 = .ok (.aload_n 0, 1) := by decide +kernel
theorem dX1_readClause_7 : decode cX1_readClause 7 = .ok (.getfield 12, 3) := by decide +kernel
theorem dX1_readClause_10 : decode cX1_readClause 10 = .ok (.getfield 50, 3) := by decide +kernel
theorem dX1_readClause_13 : decode cX1_readClause 13 = .ok (.istore_n 2, 1) := by decide +kernel
theorem dX1_readClause_14 : decode cX1_readClause 14 = .ok (.aload_n 0, 1) := by decide +kernel
theorem dX1_readClause_15 : decode cX1_readClause 15 = .ok (.iconst 0, 1) := by decide +kernel
theorem dX1_readClause_16 : decode cX1_readClause 16 = .ok (.invokevirtual 53, 3) := by decide +kernel
theorem dX1_readClause_19 : decode cX1_readClause 19 = .ok (.ifCond .ne 5, 3) := by decide +kernel
theorem dX1_readClause_22 : decode cX1_readClause 22 = .ok (.iconst 0, 1) := by decide +kernel
theorem dX1_readClause_23 : decode cX1_readClause 23 = .ok (.ireturn, 1) := by decide +kernel
theorem dX1_readClause_24 : decode cX1_readClause 24 = .ok (.aload_n 0, 1) := by decide +kernel
theorem dX1_readClause_25 : decode cX1_readClause 25 = .ok (.getfield 12, 3) := by decide +kernel
theorem dX1_readClause_28 : decode cX1_readClause 28 = .ok (.iconst 0, 1) := by decide +kernel
theorem dX1_readClause_29 : decode cX1_readClause 29 = .ok (.iconst 0, 1) := by decide +kernel
theorem dX1_readClause_30 : decode cX1_readClause 30 = .ok (.invokevirtual 56, 3) := by decide +kernel
theorem dX1_readClause_33 : decode cX1_readClause 33 = .ok (.pop, 1) := by decide +kernel
theorem dX1_readClause_34 : decode cX1_readClause 34 = .ok (.aload_n 0, 1) := by decide +kernel
theorem dX1_readClause_35 : decode cX1_readClause 35 = .ok (.getfield 12, 3) := by decide +kernel
theorem dX1_readClause_38 : decode cX1_readClause 38 = .ok (.getfield 50, 3) := by decide +kernel
theorem dX1_readClause_41 : decode cX1_readClause 41 = .ok (.istore_n 3, 1) := by decide +kernel
theorem dX1_readClause_42 : decode cX1_readClause 42 = .ok (.aload_n 0, 1) := by decide +kernel
theorem dX1_readClause_43 : decode cX1_readClause 43 = .ok (.iconst 0, 1) := by decide +kernel
theorem dX1_readClause_44 : decode cX1_readClause 44 = .ok (.invokevirtual 60, 3) := by decide +kernel
theorem dX1_readClause_47 : decode cX1_readClause 47 = .ok (.ifCond .ne 5, 3) := by decide +kernel
theorem dX1_readClause_50 : decode cX1_readClause 50 = .ok (.iconst 0, 1) := by decide +kernel
theorem dX1_readClause_51 : decode cX1_readClause 51 = .ok (.ireturn, 1) := by decide +kernel
theorem dX1_readClause_52 : decode cX1_readClause 52 = .ok (.aload_n 0, 1) := by decide +kernel
theorem dX1_readClause_53 : decode cX1_readClause 53 = .ok (.getfield 12, 3) := by decide +kernel
theorem dX1_readClause_56 : decode cX1_readClause 56 = .ok (.iconst 0, 1) := by decide +kernel
theorem dX1_readClause_57 : decode cX1_readClause 57 = .ok (.iconst 0, 1) := by decide +kernel
theorem dX1_readClause_58 : decode cX1_readClause 58 = .ok (.invokevirtual 56, 3) := by decide +kernel
theorem dX1_readClause_61 : decode cX1_readClause 61 = .ok (.pop, 1) := by decide +kernel
theorem dX1_readClause_62 : decode cX1_readClause 62 = .ok (.aload_n 0, 1) := by decide +kernel
theorem dX1_readClause_63 : decode cX1_readClause 63 = .ok (.getfield 12, 3) := by decide +kernel
theorem dX1_readClause_66 : decode cX1_readClause 66 = .ok (.iload_n 2, 1) := by decide +kernel
theorem dX1_readClause_67 : decode cX1_readClause 67 = .ok (.iload_n 3, 1) := by decide +kernel
theorem dX1_readClause_68 : decode cX1_readClause 68 = .ok (.invokevirtual 63, 3) := by decide +kernel
theorem dX1_readClause_71 : decode cX1_readClause 71 = .ok (.iconst 1, 1) := by decide +kernel
theorem dX1_readClause_72 : decode cX1_readClause 72 = .ok (.ireturn, 1) := by decide +kernel
theorem dX1_readCompared_0 : decode cX1_readCompared 0 = .ok (.aload_n 0, 1) := by decide +kernel
theorem dX1_readCompared_1 : decode cX1_readCompared 1 = .ok (.iload_n 1, 1) := by decide +kernel
theorem dX1_readCompared_2 : decode cX1_readCompared 2 = .ok (.invokevirtual 53, 3) := by decide +kernel
theorem dX1_readCompared_5 : decode cX1_readCompared 5 = .ok (.ifCond .ne 5, 3) := by decide +kernel
theorem dX1_readCompared_8 : decode cX1_readCompared 8 = .ok (.iconst 0, 1) := by decide +kernel
theorem dX1_readCompared_9 : decode cX1_readCompared 9 = .ok (.ireturn, 1) := by decide +kernel
theorem dX1_readCompared_10 : decode cX1_readCompared 10 = .ok (.aload_n 0, 1) := by decide +kernel
theorem dX1_readCompared_11 : decode cX1_readCompared 11 = .ok (.invokevirtual 35, 3) := by decide +kernel
theorem dX1_readCompared_14 : decode cX1_readCompared 14 = .ok (.istore_n 2, 1) := by decide +kernel
theorem dX1_readCompared_15 : decode cX1_readCompared 15 = .ok (.iload_n 2, 1) := by decide +kernel
theorem dX1_readCompared_16 : decode cX1_readCompared 16 = .ok (.bipush 60, 2) := by decide +kernel
theorem dX1_readCompared_18 : decode cX1_readCompared 18 = .ok (.if_icmp .eq 21, 3) := by decide +kernel
theorem dX1_readCompared_21 : decode cX1_readCompared 21 = .ok (.iload_n 2, 1) := by decide +kernel
theorem dX1_readCompared_22 : decode cX1_readCompared 22 = .ok (.bipush 62, 2) := by decide +kernel
theorem dX1_readCompared_24 : decode cX1_readCompared 24 = .ok (.if_icmp .eq 15, 3) := by decide +kernel
theorem dX1_readCompared_27 : decode cX1_readCompared 27 = .ok (.iload_n 2, 1) := by decide +kernel
theorem dX1_readCompared_28 : decode cX1_readCompared 28 = .ok (.bipush 61, 2) := by decide +kernel
theorem dX1_readCompared_30 : decode cX1_readCompared 30 = .ok (.if_icmp .eq 9, 3) := by decide +kernel
theorem dX1_readCompared_33 : decode cX1_readCompared 33 = .ok (.aload_n 0, 1) := by decide +kernel
theorem dX1_readCompared_34 : decode cX1_readCompared 34 = .ok (.iconst 1, 1) := by decide +kernel
theorem dX1_readCompared_35 : decode cX1_readCompared 35 = .ok (.invokevirtual 39, 3) := by decide +kernel
theorem dX1_readCompared_38 : decode cX1_readCompared 38 = .ok (.ireturn, 1) := by decide +kernel
theorem dX1_readCompared_39 : decode cX1_readCompared 39 = .ok (.aload_n 0, 1) := by decide +kernel
theorem dX1_readCompared_40 : decode cX1_readCompared 40 = .ok (.dup, 1) := by decide +kernel
theorem dX1_readCompared_41 : decode cX1_readCompared 41 = .ok (.getfield 26, 3) := by decide +kernel
theorem dX1_readCompared_44 : decode cX1_readCompared 44 = .ok (.iconst 1, 1) := by decide +kernel
theorem dX1_readCompared_45 : decode cX1_readCompared 45 = .ok (.iadd, 1) := by decide +kernel
theorem dX1_readCompared_46 : decode cX1_readCompared 46 = .ok (.putfield 26, 3) := by decide +kernel
theorem dX1_readCompared_49 : decode cX1_readCompared 49 = .ok (.aload_n 0, 1) := by decide +kernel
theorem dX1_readCompared_50 : decode cX1_readCompared 50 = .ok (.iload_n 1, 1) := by decide +kernel
theorem dX1_readCompared_51 : decode cX1_readCompared 51 = .ok (.invokevirtual 53, 3) := by decide +kernel
theorem dX1_readCompared_54 : decode cX1_readCompared 54 = .ok (.ifCond .ne 5, 3) := by decide +kernel
theorem dX1_readCompared_57 : decode cX1_readCompared 57 = .ok (.iconst 0, 1) := by decide +kernel
theorem dX1_readCompared_58 : decode cX1_readCompared 58 = .ok (.ireturn, 1) := by decide +kernel
theorem dX1_readCompared_59 : decode cX1_readCompared 59 = .ok (.aload_n 0, 1) := by decide +kernel
theorem dX1_readCompared_60 : decode cX1_readCompared 60 = .ok (.getfield 12, 3) := by decide +kernel
theorem dX1_readCompared_63 : decode cX1_readCompared 63 = .ok (.iload_n 2, 1) := by decide +kernel
theorem dX1_readCompared_64 : decode cX1_readCompared 64 = .ok (.iconst 0, 1) := by decide +kernel
theorem dX1_readCompared_65 : decode cX1_readCompared 65 = .ok (.invokevirtual 56, 3) := by decide +kernel
theorem dX1_readCompared_68 : decode cX1_readCompared 68 = .ok (.pop, 1) := by decide +kernel
theorem dX1_readCompared_69 : decode cX1_readCompared 69 = .ok (.iconst 1, 1) := by decide +kernel
theorem dX1_readCompared_70 : decode cX1_readCompared 70 = .ok (.ireturn, 1) := by decide +kernel
theorem dX1_readDenied_0 : decode cX1_readDenied 0 = .ok (.aload_n 0, 1) := by decide +kernel
theorem dX1_readDenied_1 : decode cX1_readDenied 1 = .ok (.iload_n 1, 1) := by decide +kernel
theorem dX1_readDenied_2 : decode cX1_readDenied 2 = .ok (.invokevirtual 67, 3) := by decide +kernel
theorem dX1_readDenied_5 : decode cX1_readDenied 5 = .ok (.ifCond .eq 13, 3) := by decide +kernel
theorem dX1_readDenied_8 : decode cX1_readDenied 8 = .ok (.aload_n 0, 1) := by decide +kernel
theorem dX1_readDenied_9 : decode cX1_readDenied 9 = .ok (.iload_n 1, 1) := by decide +kernel
theorem dX1_readDenied_10 : decode cX1_readDenied 10 = .ok (.iconst 1, 1) := by decide +kernel
theorem dX1_readDenied_11 : decode cX1_readDenied 11 = .ok (.iadd, 1) := by decide +kernel
theorem dX1_readDenied_12 : decode cX1_readDenied 12 = .ok (.invokevirtual 80, 3) := by decide +kernel
theorem dX1_readDenied_15 : decode cX1_readDenied 15 = .ok (.ifCond .ne 5, 3) := by decide +kernel
theorem dX1_readDenied_18 : decode cX1_readDenied 18 = .ok (.iconst 0, 1) := by decide +kernel
theorem dX1_readDenied_19 : decode cX1_readDenied 19 = .ok (.ireturn, 1) := by decide +kernel
theorem dX1_readDenied_20 : decode cX1_readDenied 20 = .ok (.aload_n 0, 1) := by decide +kernel
theorem dX1_readDenied_21 : decode cX1_readDenied 21 = .ok (.getfield 12, 3) := by decide +kernel
theorem dX1_readDenied_24 : decode cX1_readDenied 24 = .ok (.iconst 3, 1) := by decide +kernel
theorem dX1_readDenied_25 : decode cX1_readDenied 25 = .ok (.iconst 0, 1) := by decide +kernel
theorem dX1_readDenied_26 : decode cX1_readDenied 26 = .ok (.invokevirtual 56, 3) := by decide +kernel
theorem dX1_readDenied_29 : decode cX1_readDenied 29 = .ok (.pop, 1) := by decide +kernel
theorem dX1_readDenied_30 : decode cX1_readDenied 30 = .ok (.iconst 1, 1) := by decide +kernel
theorem dX1_readDenied_31 : decode cX1_readDenied 31 = .ok (.ireturn, 1) := by decide +kernel
theorem dX1_readFactor_0 : decode cX1_readFactor 0 = .ok (.aload_n 0, 1) := by decide +kernel
theorem dX1_readFactor_1 : decode cX1_readFactor 1 = .ok (.invokevirtual 35, 3) := by decide +kernel
theorem dX1_readFactor_4 : decode cX1_readFactor 4 = .ok (.istore_n 2, 1) := by decide +kernel
theorem dX1_readFactor_5 : decode cX1_readFactor 5 = .ok (.iload_n 2, 1) := by decide +kernel
theorem dX1_readFactor_6 : decode cX1_readFactor 6 = .ok (.bipush 91, 2) := by decide +kernel
theorem dX1_readFactor_8 : decode cX1_readFactor 8 = .ok (.if_icmp .ne 36, 3) := by decide +kernel
theorem dX1_readFactor_11 : decode cX1_readFactor 11 = .ok (.aload_n 0, 1) := by decide +kernel
theorem dX1_readFactor_12 : decode cX1_readFactor 12 = .ok (.iload_n 1, 1) := by decide +kernel
theorem dX1_readFactor_13 : decode cX1_readFactor 13 = .ok (.invokevirtual 67, 3) := by decide +kernel
theorem dX1_readFactor_16 : decode cX1_readFactor 16 = .ok (.ifCond .eq 26, 3) := by decide +kernel
theorem dX1_readFactor_19 : decode cX1_readFactor 19 = .ok (.aload_n 0, 1) := by decide +kernel
theorem dX1_readFactor_20 : decode cX1_readFactor 20 = .ok (.iload_n 1, 1) := by decide +kernel
theorem dX1_readFactor_21 : decode cX1_readFactor 21 = .ok (.iconst 1, 1) := by decide +kernel
theorem dX1_readFactor_22 : decode cX1_readFactor 22 = .ok (.iadd, 1) := by decide +kernel
theorem dX1_readFactor_23 : decode cX1_readFactor 23 = .ok (.invokevirtual 53, 3) := by decide +kernel
theorem dX1_readFactor_26 : decode cX1_readFactor 26 = .ok (.ifCond .eq 16, 3) := by decide +kernel
theorem dX1_readFactor_29 : decode cX1_readFactor 29 = .ok (.aload_n 0, 1) := by decide +kernel
theorem dX1_readFactor_30 : decode cX1_readFactor 30 = .ok (.bipush 93, 2) := by decide +kernel
theorem dX1_readFactor_32 : decode cX1_readFactor 32 = .ok (.invokevirtual 47, 3) := by decide +kernel
theorem dX1_readFactor_35 : decode cX1_readFactor 35 = .ok (.ifCond .eq 7, 3) := by decide +kernel
theorem dX1_readFactor_38 : decode cX1_readFactor 38 = .ok (.iconst 1, 1) := by decide +kernel
theorem dX1_readFactor_39 : decode cX1_readFactor 39 = .ok (.goto 4, 3) := by decide +kernel
theorem dX1_readFactor_42 : decode cX1_readFactor 42 = .ok (.iconst 0, 1) := by decide +kernel
theorem dX1_readFactor_43 : decode cX1_readFactor 43 = .ok (.ireturn, 1) := by decide +kernel
theorem dX1_readFactor_44 : decode cX1_readFactor 44 = .ok (.iload_n 2, 1) := by decide +kernel
theorem dX1_readFactor_45 : decode cX1_readFactor 45 = .ok (.invokestatic 95, 3) := by decide +kernel
theorem dX1_readFactor_48 : decode cX1_readFactor 48 = .ok (.ifCond .eq 8, 3) := by decide +kernel
theorem dX1_readFactor_51 : decode cX1_readFactor 51 = .ok (.aload_n 0, 1) := by decide +kernel
theorem dX1_readFactor_52 : decode cX1_readFactor 52 = .ok (.invokevirtual 98, 3) := by decide +kernel
theorem dX1_readFactor_55 : decode cX1_readFactor 55 = .ok (.ireturn, 1) := by decide +kernel
theorem dX1_readFactor_56 : decode cX1_readFactor 56 = .ok (.iload_n 2, 1) := by decide +kernel
theorem dX1_readFactor_57 : decode cX1_readFactor 57 = .ok (.bipush 97, 2) := by decide +kernel
theorem dX1_readFactor_59 : decode cX1_readFactor 59 = .ok (.if_icmp .lt 9, 3) := by decide +kernel
theorem dX1_readFactor_62 : decode cX1_readFactor 62 = .ok (.iload_n 2, 1) := by decide +kernel
theorem dX1_readFactor_63 : decode cX1_readFactor 63 = .ok (.bipush 122, 2) := by decide +kernel
theorem dX1_readFactor_65 : decode cX1_readFactor 65 = .ok (.if_icmp .le 7, 3) := by decide +kernel
theorem dX1_readFactor_68 : decode cX1_readFactor 68 = .ok (.iconst (-1), 1) := by decide +kernel
theorem dX1_readFactor_69 : decode cX1_readFactor 69 = .ok (.goto 10, 3) := by decide +kernel
theorem dX1_readFactor_72 : decode cX1_readFactor 72 = .ok (.ldc 102, 2) := by decide +kernel
theorem dX1_readFactor_74 : decode cX1_readFactor 74 = .ok (.iload_n 2, 1) := by decide +kernel
theorem dX1_readFactor_75 : decode cX1_readFactor 75 = .ok (.i2c, 1) := by decide +kernel
theorem dX1_readFactor_76 : decode cX1_readFactor 76 = .ok (.invokevirtual 104, 3) := by decide +kernel
theorem dX1_readFactor_79 : decode cX1_readFactor 79 = .ok (.istore_n 3, 1) := by decide +kernel
theorem dX1_readFactor_80 : decode cX1_readFactor 80 = .ok (.iload_n 3, 1) := by decide +kernel
theorem dX1_readFactor_81 : decode cX1_readFactor 81 = .ok (.ifCond .ge 9, 3) := by decide +kernel
theorem dX1_readFactor_84 : decode cX1_readFactor 84 = .ok (.aload_n 0, 1) := by decide +kernel
theorem dX1_readFactor_85 : decode cX1_readFactor 85 = .ok (.iconst 1, 1) := by decide +kernel
theorem dX1_readFactor_86 : decode cX1_readFactor 86 = .ok (.invokevirtual 39, 3) := by decide +kernel
theorem dX1_readFactor_89 : decode cX1_readFactor 89 = .ok (.ireturn, 1) := by decide +kernel
theorem dX1_readFactor_90 : decode cX1_readFactor 90 = .ok (.aload_n 0, 1) := by decide +kernel
theorem dX1_readFactor_91 : decode cX1_readFactor 91 = .ok (.dup, 1) := by decide +kernel
theorem dX1_readFactor_92 : decode cX1_readFactor 92 = .ok (.getfield 26, 3) := by decide +kernel
theorem dX1_readFactor_95 : decode cX1_readFactor 95 = .ok (.iconst 1, 1) := by decide +kernel
theorem dX1_readFactor_96 : decode cX1_readFactor 96 = .ok (.iadd, 1) := by decide +kernel
theorem dX1_readFactor_97 : decode cX1_readFactor 97 = .ok (.putfield 26, 3) := by decide +kernel
theorem dX1_readFactor_100 : decode cX1_readFactor 100 = .ok (.aload_n 0, 1) := by decide +kernel
theorem dX1_readFactor_101 : decode cX1_readFactor 101 = .ok (.getfield 12, 3) := by decide +kernel
theorem dX1_readFactor_104 : decode cX1_readFactor 104 = .ok (.iconst 2, 1) := by decide +kernel
theorem dX1_readFactor_105 : decode cX1_readFactor 105 = .ok (.iload_n 3, 1) := by decide +kernel
theorem dX1_readFactor_106 : decode cX1_readFactor 106 = .ok (.invokevirtual 56, 3) := by decide +kernel
theorem dX1_readFactor_109 : decode cX1_readFactor 109 = .ok (.pop, 1) := by decide +kernel
theorem dX1_readFactor_110 : decode cX1_readFactor 110 = .ok (.iconst 1, 1) := by decide +kernel
theorem dX1_readFactor_111 : decode cX1_readFactor 111 = .ok (.ireturn, 1) := by decide +kernel
theorem dX1_readNumber_0 : decode cX1_readNumber 0 = .ok (.iconst 0, 1) := by decide +kernel
theorem dX1_readNumber_1 : decode cX1_readNumber 1 = .ok (.istore_n 1, 1) := by decide +kernel
theorem dX1_readNumber_2 : decode cX1_readNumber 2 = .ok (.iconst 0, 1) := by decide +kernel
theorem dX1_readNumber_3 : decode cX1_readNumber 3 = .ok (.istore_n 2, 1) := by decide +kernel
theorem dX1_readNumber_4 : decode cX1_readNumber 4 = .ok (.iload_n 2, 1) := by decide +kernel
theorem dX1_readNumber_5 : decode cX1_readNumber 5 = .ok (.iconst 5, 1) := by decide +kernel
theorem dX1_readNumber_6 : decode cX1_readNumber 6 = .ok (.if_icmp .ge 45, 3) := by decide +kernel
theorem dX1_readNumber_9 : decode cX1_readNumber 9 = .ok (.aload_n 0, 1) := by decide +kernel
theorem dX1_readNumber_10 : decode cX1_readNumber 10 = .ok (.invokevirtual 35, 3) := by decide +kernel
theorem dX1_readNumber_13 : decode cX1_readNumber 13 = .ok (.invokestatic 95, 3) := by decide +kernel
theorem dX1_readNumber_16 : decode cX1_readNumber 16 = .ok (.ifCond .ne 6, 3) := by decide +kernel
theorem dX1_readNumber_19 : decode cX1_readNumber 19 = .ok (.goto 32, 3) := by decide +kernel
theorem dX1_readNumber_22 : decode cX1_readNumber 22 = .ok (.bipush 10, 2) := by decide +kernel
theorem dX1_readNumber_24 : decode cX1_readNumber 24 = .ok (.iload_n 1, 1) := by decide +kernel
theorem dX1_readNumber_25 : decode cX1_readNumber 25 = .ok (.imul, 1) := by decide +kernel
theorem dX1_readNumber_26 : decode cX1_readNumber 26 = .ok (.aload_n 0, 1) := by decide +kernel
theorem dX1_readNumber_27 : decode cX1_readNumber 27 = .ok (.invokevirtual 35, 3) := by decide +kernel
theorem dX1_readNumber_30 : decode cX1_readNumber 30 = .ok (.iadd, 1) := by decide +kernel
theorem dX1_readNumber_31 : decode cX1_readNumber 31 = .ok (.bipush 48, 2) := by decide +kernel
theorem dX1_readNumber_33 : decode cX1_readNumber 33 = .ok (.isub, 1) := by decide +kernel
theorem dX1_readNumber_34 : decode cX1_readNumber 34 = .ok (.istore_n 1, 1) := by decide +kernel
theorem dX1_readNumber_35 : decode cX1_readNumber 35 = .ok (.aload_n 0, 1) := by decide +kernel
theorem dX1_readNumber_36 : decode cX1_readNumber 36 = .ok (.dup, 1) := by decide +kernel
theorem dX1_readNumber_37 : decode cX1_readNumber 37 = .ok (.getfield 26, 3) := by decide +kernel
theorem dX1_readNumber_40 : decode cX1_readNumber 40 = .ok (.iconst 1, 1) := by decide +kernel
theorem dX1_readNumber_41 : decode cX1_readNumber 41 = .ok (.iadd, 1) := by decide +kernel
theorem dX1_readNumber_42 : decode cX1_readNumber 42 = .ok (.putfield 26, 3) := by decide +kernel
theorem dX1_readNumber_45 : decode cX1_readNumber 45 = .ok (.iinc 2 1, 3) := by decide +kernel
theorem dX1_readNumber_48 : decode cX1_readNumber 48 = .ok (.goto (-44), 3) := by decide +kernel
theorem dX1_readNumber_51 : decode cX1_readNumber 51 = .ok (.aload_n 0, 1) := by decide +kernel
theorem dX1_readNumber_52 : decode cX1_readNumber 52 = .ok (.invokevirtual 35, 3) := by decide +kernel
theorem dX1_readNumber_55 : decode cX1_readNumber 55 = .ok (.invokestatic 95, 3) := by decide +kernel
theorem dX1_readNumber_58 : decode cX1_readNumber 58 = .ok (.ifCond .eq 9, 3) := by decide +kernel
theorem dX1_readNumber_61 : decode cX1_readNumber 61 = .ok (.aload_n 0, 1) := by decide +kernel
theorem dX1_readNumber_62 : decode cX1_readNumber 62 = .ok (.iconst 2, 1) := by decide +kernel
theorem dX1_readNumber_63 : decode cX1_readNumber 63 = .ok (.invokevirtual 39, 3) := by decide +kernel
theorem dX1_readNumber_66 : decode cX1_readNumber 66 = .ok (.ireturn, 1) := by decide +kernel
theorem dX1_readNumber_67 : decode cX1_readNumber 67 = .ok (.aload_n 0, 1) := by decide +kernel
theorem dX1_readNumber_68 : decode cX1_readNumber 68 = .ok (.getfield 12, 3) := by decide +kernel
theorem dX1_readNumber_71 : decode cX1_readNumber 71 = .ok (.iconst 1, 1) := by decide +kernel
theorem dX1_readNumber_72 : decode cX1_readNumber 72 = .ok (.iload_n 1, 1) := by decide +kernel
theorem dX1_readNumber_73 : decode cX1_readNumber 73 = .ok (.invokevirtual 56, 3) := by decide +kernel
theorem dX1_readNumber_76 : decode cX1_readNumber 76 = .ok (.pop, 1) := by decide +kernel
theorem dX1_readNumber_77 : decode cX1_readNumber 77 = .ok (.iconst 1, 1) := by decide +kernel
theorem dX1_readNumber_78 : decode cX1_readNumber 78 = .ok (.ireturn, 1) := by decide +kernel
theorem dX1_readParts_0 : decode cX1_readParts 0 = .ok (.iconst (-1), 1) := by decide +kernel
theorem dX1_readParts_1 : decode cX1_readParts 1 = .ok (.istore_n 2, 1) := by decide +kernel
theorem dX1_readParts_2 : decode cX1_readParts 2 = .ok (.iconst 0, 1) := by decide +kernel
theorem dX1_readParts_3 : decode cX1_readParts 3 = .ok (.istore_n 3, 1) := by decide +kernel
theorem dX1_readParts_4 : decode cX1_readParts 4 = .ok (.iload_n 3, 1) := by decide +kernel
theorem dX1_readParts_5 : decode cX1_readParts 5 = .ok (.sipush 160, 3) := by decide +kernel
theorem dX1_readParts_8 : decode cX1_readParts 8 = .ok (.if_icmp .gt 58, 3) := by decide +kernel
theorem dX1_readParts_11 : decode cX1_readParts 11 = .ok (.aload_n 0, 1) := by decide +kernel
theorem dX1_readParts_12 : decode cX1_readParts 12 = .ok (.iload_n 1, 1) := by decide +kernel
theorem dX1_readParts_13 : decode cX1_readParts 13 = .ok (.invokevirtual 73, 3) := by decide +kernel
theorem dX1_readParts_16 : decode cX1_readParts 16 = .ok (.ifCond .ne 5, 3) := by decide +kernel
theorem dX1_readParts_19 : decode cX1_readParts 19 = .ok (.iconst 0, 1) := by decide +kernel
theorem dX1_readParts_20 : decode cX1_readParts 20 = .ok (.ireturn, 1) := by decide +kernel
theorem dX1_readParts_21 : decode cX1_readParts 21 = .ok (.aload_n 0, 1) := by decide +kernel
theorem dX1_readParts_22 : decode cX1_readParts 22 = .ok (.invokevirtual 35, 3) := by decide +kernel
theorem dX1_readParts_25 : decode cX1_readParts 25 = .ok (.bipush 124, 2) := by decide +kernel
theorem dX1_readParts_27 : decode cX1_readParts 27 = .ok (.if_icmp .eq 13, 3) := by decide +kernel
theorem dX1_readParts_30 : decode cX1_readParts 30 = .ok (.aload_n 0, 1) := by decide +kernel
theorem dX1_readParts_31 : decode cX1_readParts 31 = .ok (.getfield 12, 3) := by decide +kernel
theorem dX1_readParts_34 : decode cX1_readParts 34 = .ok (.iload_n 2, 1) := by decide +kernel
theorem dX1_readParts_35 : decode cX1_readParts 35 = .ok (.invokevirtual 76, 3) := by decide +kernel
theorem dX1_readParts_38 : decode cX1_readParts 38 = .ok (.iconst 1, 1) := by decide +kernel
theorem dX1_readParts_39 : decode cX1_readParts 39 = .ok (.ireturn, 1) := by decide +kernel
theorem dX1_readParts_40 : decode cX1_readParts 40 = .ok (.aload_n 0, 1) := by decide +kernel
theorem dX1_readParts_41 : decode cX1_readParts 41 = .ok (.dup, 1) := by decide +kernel
theorem dX1_readParts_42 : decode cX1_readParts 42 = .ok (.getfield 26, 3) := by decide +kernel
theorem dX1_readParts_45 : decode cX1_readParts 45 = .ok (.iconst 1, 1) := by decide +kernel
theorem dX1_readParts_46 : decode cX1_readParts 46 = .ok (.iadd, 1) := by decide +kernel
theorem dX1_readParts_47 : decode cX1_readParts 47 = .ok (.putfield 26, 3) := by decide +kernel
theorem dX1_readParts_50 : decode cX1_readParts 50 = .ok (.aload_n 0, 1) := by decide +kernel
theorem dX1_readParts_51 : decode cX1_readParts 51 = .ok (.getfield 12, 3) := by decide +kernel
theorem dX1_readParts_54 : decode cX1_readParts 54 = .ok (.iconst 4, 1) := by decide +kernel
theorem dX1_readParts_55 : decode cX1_readParts 55 = .ok (.iload_n 2, 1) := by decide +kernel
theorem dX1_readParts_56 : decode cX1_readParts 56 = .ok (.invokevirtual 56, 3) := by decide +kernel
theorem dX1_readParts_59 : decode cX1_readParts 59 = .ok (.istore_n 2, 1) := by decide +kernel
theorem dX1_readParts_60 : decode cX1_readParts 60 = .ok (.iinc 3 1, 3) := by decide +kernel
theorem dX1_readParts_63 : decode cX1_readParts 63 = .ok (.goto (-59), 3) := by decide +kernel
theorem dX1_readParts_66 : decode cX1_readParts 66 = .ok (.aload_n 0, 1) := by decide +kernel
theorem dX1_readParts_67 : decode cX1_readParts 67 = .ok (.iconst 1, 1) := by decide +kernel
theorem dX1_readParts_68 : decode cX1_readParts 68 = .ok (.invokevirtual 39, 3) := by decide +kernel
theorem dX1_readParts_71 : decode cX1_readParts 71 = .ok (.ireturn, 1) := by decide +kernel
theorem dX1_readPiece_0 : decode cX1_readPiece 0 = .ok (.aload_n 0, 1) := by decide +kernel
theorem dX1_readPiece_1 : decode cX1_readPiece 1 = .ok (.invokevirtual 35, 3) := by decide +kernel
theorem dX1_readPiece_4 : decode cX1_readPiece 4 = .ok (.istore_n 2, 1) := by decide +kernel
theorem dX1_readPiece_5 : decode cX1_readPiece 5 = .ok (.iload_n 2, 1) := by decide +kernel
theorem dX1_readPiece_6 : decode cX1_readPiece 6 = .ok (.bipush 40, 2) := by decide +kernel
theorem dX1_readPiece_8 : decode cX1_readPiece 8 = .ok (.if_icmp .ne 9, 3) := by decide +kernel
theorem dX1_readPiece_11 : decode cX1_readPiece 11 = .ok (.aload_n 0, 1) := by decide +kernel
theorem dX1_readPiece_12 : decode cX1_readPiece 12 = .ok (.iload_n 1, 1) := by decide +kernel
theorem dX1_readPiece_13 : decode cX1_readPiece 13 = .ok (.invokevirtual 60, 3) := by decide +kernel
theorem dX1_readPiece_16 : decode cX1_readPiece 16 = .ok (.ireturn, 1) := by decide +kernel
theorem dX1_readPiece_17 : decode cX1_readPiece 17 = .ok (.iload_n 2, 1) := by decide +kernel
theorem dX1_readPiece_18 : decode cX1_readPiece 18 = .ok (.bipush 33, 2) := by decide +kernel
theorem dX1_readPiece_20 : decode cX1_readPiece 20 = .ok (.if_icmp .ne 11, 3) := by decide +kernel
theorem dX1_readPiece_23 : decode cX1_readPiece 23 = .ok (.aload_n 0, 1) := by decide +kernel
theorem dX1_readPiece_24 : decode cX1_readPiece 24 = .ok (.iload_n 1, 1) := by decide +kernel
theorem dX1_readPiece_25 : decode cX1_readPiece 25 = .ok (.invokevirtual 83, 3) := by decide +kernel
theorem dX1_readPiece_28 : decode cX1_readPiece 28 = .ok (.goto 8, 3) := by decide +kernel
theorem dX1_readPiece_31 : decode cX1_readPiece 31 = .ok (.aload_n 0, 1) := by decide +kernel
theorem dX1_readPiece_32 : decode cX1_readPiece 32 = .ok (.iload_n 1, 1) := by decide +kernel
theorem dX1_readPiece_33 : decode cX1_readPiece 33 = .ok (.invokevirtual 86, 3) := by decide +kernel
theorem dX1_readPiece_36 : decode cX1_readPiece 36 = .ok (.ireturn, 1) := by decide +kernel
theorem dX1_readPieces_0 : decode cX1_readPieces 0 = .ok (.iconst (-1), 1) := by decide +kernel
theorem dX1_readPieces_1 : decode cX1_readPieces 1 = .ok (.istore_n 2, 1) := by decide +kernel
theorem dX1_readPieces_2 : decode cX1_readPieces 2 = .ok (.iconst 0, 1) := by decide +kernel
theorem dX1_readPieces_3 : decode cX1_readPieces 3 = .ok (.istore_n 3, 1) := by decide +kernel
theorem dX1_readPieces_4 : decode cX1_readPieces 4 = .ok (.iload_n 3, 1) := by decide +kernel
theorem dX1_readPieces_5 : decode cX1_readPieces 5 = .ok (.sipush 160, 3) := by decide +kernel
theorem dX1_readPieces_8 : decode cX1_readPieces 8 = .ok (.if_icmp .gt 58, 3) := by decide +kernel
theorem dX1_readPieces_11 : decode cX1_readPieces 11 = .ok (.aload_n 0, 1) := by decide +kernel
theorem dX1_readPieces_12 : decode cX1_readPieces 12 = .ok (.iload_n 1, 1) := by decide +kernel
theorem dX1_readPieces_13 : decode cX1_readPieces 13 = .ok (.invokevirtual 80, 3) := by decide +kernel
theorem dX1_readPieces_16 : decode cX1_readPieces 16 = .ok (.ifCond .ne 5, 3) := by decide +kernel
theorem dX1_readPieces_19 : decode cX1_readPieces 19 = .ok (.iconst 0, 1) := by decide +kernel
theorem dX1_readPieces_20 : decode cX1_readPieces 20 = .ok (.ireturn, 1) := by decide +kernel
theorem dX1_readPieces_21 : decode cX1_readPieces 21 = .ok (.aload_n 0, 1) := by decide +kernel
theorem dX1_readPieces_22 : decode cX1_readPieces 22 = .ok (.invokevirtual 35, 3) := by decide +kernel
theorem dX1_readPieces_25 : decode cX1_readPieces 25 = .ok (.bipush 38, 2) := by decide +kernel
theorem dX1_readPieces_27 : decode cX1_readPieces 27 = .ok (.if_icmp .eq 13, 3) := by decide +kernel
theorem dX1_readPieces_30 : decode cX1_readPieces 30 = .ok (.aload_n 0, 1) := by decide +kernel
theorem dX1_readPieces_31 : decode cX1_readPieces 31 = .ok (.getfield 12, 3) := by decide +kernel
theorem dX1_readPieces_34 : decode cX1_readPieces 34 = .ok (.iload_n 2, 1) := by decide +kernel
theorem dX1_readPieces_35 : decode cX1_readPieces 35 = .ok (.invokevirtual 76, 3) := by decide +kernel
theorem dX1_readPieces_38 : decode cX1_readPieces 38 = .ok (.iconst 1, 1) := by decide +kernel
theorem dX1_readPieces_39 : decode cX1_readPieces 39 = .ok (.ireturn, 1) := by decide +kernel
theorem dX1_readPieces_40 : decode cX1_readPieces 40 = .ok (.aload_n 0, 1) := by decide +kernel
theorem dX1_readPieces_41 : decode cX1_readPieces 41 = .ok (.dup, 1) := by decide +kernel
theorem dX1_readPieces_42 : decode cX1_readPieces 42 = .ok (.getfield 26, 3) := by decide +kernel
theorem dX1_readPieces_45 : decode cX1_readPieces 45 = .ok (.iconst 1, 1) := by decide +kernel
theorem dX1_readPieces_46 : decode cX1_readPieces 46 = .ok (.iadd, 1) := by decide +kernel
theorem dX1_readPieces_47 : decode cX1_readPieces 47 = .ok (.putfield 26, 3) := by decide +kernel
theorem dX1_readPieces_50 : decode cX1_readPieces 50 = .ok (.aload_n 0, 1) := by decide +kernel
theorem dX1_readPieces_51 : decode cX1_readPieces 51 = .ok (.getfield 12, 3) := by decide +kernel
theorem dX1_readPieces_54 : decode cX1_readPieces 54 = .ok (.iconst 5, 1) := by decide +kernel
theorem dX1_readPieces_55 : decode cX1_readPieces 55 = .ok (.iload_n 2, 1) := by decide +kernel
theorem dX1_readPieces_56 : decode cX1_readPieces 56 = .ok (.invokevirtual 56, 3) := by decide +kernel
theorem dX1_readPieces_59 : decode cX1_readPieces 59 = .ok (.istore_n 2, 1) := by decide +kernel
theorem dX1_readPieces_60 : decode cX1_readPieces 60 = .ok (.iinc 3 1, 3) := by decide +kernel
theorem dX1_readPieces_63 : decode cX1_readPieces 63 = .ok (.goto (-59), 3) := by decide +kernel
theorem dX1_readPieces_66 : decode cX1_readPieces 66 = .ok (.aload_n 0, 1) := by decide +kernel
theorem dX1_readPieces_67 : decode cX1_readPieces 67 = .ok (.iconst 1, 1) := by decide +kernel
theorem dX1_readPieces_68 : decode cX1_readPieces 68 = .ok (.invokevirtual 39, 3) := by decide +kernel
theorem dX1_readPieces_71 : decode cX1_readPieces 71 = .ok (.ireturn, 1) := by decide +kernel
theorem dX1_readProduct_0 : decode cX1_readProduct 0 = .ok (.iconst 0, 1) := by decide +kernel
theorem dX1_readProduct_1 : decode cX1_readProduct 1 = .ok (.istore_n 2, 1) := by decide +kernel
theorem dX1_readProduct_2 : decode cX1_readProduct 2 = .ok (.iconst 0, 1) := by decide +kernel
theorem dX1_readProduct_3 : decode cX1_readProduct 3 = .ok (.istore_n 3, 1) := by decide +kernel
theorem dX1_readProduct_4 : decode cX1_readProduct 4 = .ok (.iload_n 3, 1) := by decide +kernel
theorem dX1_readProduct_5 : decode cX1_readProduct 5 = .ok (.sipush 160, 3) := by decide +kernel
theorem dX1_readProduct_8 : decode cX1_readProduct 8 = .ok (.if_icmp .gt 68, 3) := by decide +kernel
theorem dX1_readProduct_11 : decode cX1_readProduct 11 = .ok (.aload_n 0, 1) := by decide +kernel
theorem dX1_readProduct_12 : decode cX1_readProduct 12 = .ok (.iload_n 1, 1) := by decide +kernel
theorem dX1_readProduct_13 : decode cX1_readProduct 13 = .ok (.invokevirtual 92, 3) := by decide +kernel
theorem dX1_readProduct_16 : decode cX1_readProduct 16 = .ok (.ifCond .ne 5, 3) := by decide +kernel
theorem dX1_readProduct_19 : decode cX1_readProduct 19 = .ok (.iconst 0, 1) := by decide +kernel
theorem dX1_readProduct_20 : decode cX1_readProduct 20 = .ok (.ireturn, 1) := by decide +kernel
theorem dX1_readProduct_21 : decode cX1_readProduct 21 = .ok (.iload_n 2, 1) := by decide +kernel
theorem dX1_readProduct_22 : decode cX1_readProduct 22 = .ok (.ifCond .eq 13, 3) := by decide +kernel
theorem dX1_readProduct_25 : decode cX1_readProduct 25 = .ok (.aload_n 0, 1) := by decide +kernel
theorem dX1_readProduct_26 : decode cX1_readProduct 26 = .ok (.getfield 12, 3) := by decide +kernel
theorem dX1_readProduct_29 : decode cX1_readProduct 29 = .ok (.iload_n 2, 1) := by decide +kernel
theorem dX1_readProduct_30 : decode cX1_readProduct 30 = .ok (.iconst 0, 1) := by decide +kernel
theorem dX1_readProduct_31 : decode cX1_readProduct 31 = .ok (.invokevirtual 56, 3) := by decide +kernel
theorem dX1_readProduct_34 : decode cX1_readProduct 34 = .ok (.pop, 1) := by decide +kernel
theorem dX1_readProduct_35 : decode cX1_readProduct 35 = .ok (.aload_n 0, 1) := by decide +kernel
theorem dX1_readProduct_36 : decode cX1_readProduct 36 = .ok (.invokevirtual 35, 3) := by decide +kernel
theorem dX1_readProduct_39 : decode cX1_readProduct 39 = .ok (.istore_n 2, 1) := by decide +kernel
theorem dX1_readProduct_40 : decode cX1_readProduct 40 = .ok (.iload_n 2, 1) := by decide +kernel
theorem dX1_readProduct_41 : decode cX1_readProduct 41 = .ok (.bipush 42, 2) := by decide +kernel
theorem dX1_readProduct_43 : decode cX1_readProduct 43 = .ok (.if_icmp .eq 17, 3) := by decide +kernel
theorem dX1_readProduct_46 : decode cX1_readProduct 46 = .ok (.iload_n 2, 1) := by decide +kernel
theorem dX1_readProduct_47 : decode cX1_readProduct 47 = .ok (.bipush 47, 2) := by decide +kernel
theorem dX1_readProduct_49 : decode cX1_readProduct 49 = .ok (.if_icmp .eq 11, 3) := by decide +kernel
theorem dX1_readProduct_52 : decode cX1_readProduct 52 = .ok (.iload_n 2, 1) := by decide +kernel
theorem dX1_readProduct_53 : decode cX1_readProduct 53 = .ok (.bipush 37, 2) := by decide +kernel
theorem dX1_readProduct_55 : decode cX1_readProduct 55 = .ok (.if_icmp .eq 5, 3) := by decide +kernel
theorem dX1_readProduct_58 : decode cX1_readProduct 58 = .ok (.iconst 1, 1) := by decide +kernel
theorem dX1_readProduct_59 : decode cX1_readProduct 59 = .ok (.ireturn, 1) := by decide +kernel
theorem dX1_readProduct_60 : decode cX1_readProduct 60 = .ok (.aload_n 0, 1) := by decide +kernel
theorem dX1_readProduct_61 : decode cX1_readProduct 61 = .ok (.dup, 1) := by decide +kernel
theorem dX1_readProduct_62 : decode cX1_readProduct 62 = .ok (.getfield 26, 3) := by decide +kernel
theorem dX1_readProduct_65 : decode cX1_readProduct 65 = .ok (.iconst 1, 1) := by decide +kernel
theorem dX1_readProduct_66 : decode cX1_readProduct 66 = .ok (.iadd, 1) := by decide +kernel
theorem dX1_readProduct_67 : decode cX1_readProduct 67 = .ok (.putfield 26, 3) := by decide +kernel
theorem dX1_readProduct_70 : decode cX1_readProduct 70 = .ok (.iinc 3 1, 3) := by decide +kernel
theorem dX1_readProduct_73 : decode cX1_readProduct 73 = .ok (.goto (-69), 3) := by decide +kernel
theorem dX1_readProduct_76 : decode cX1_readProduct 76 = .ok (.aload_n 0, 1) := by decide +kernel
theorem dX1_readProduct_77 : decode cX1_readProduct 77 = .ok (.iconst 1, 1) := by decide +kernel
theorem dX1_readProduct_78 : decode cX1_readProduct 78 = .ok (.invokevirtual 39, 3) := by decide +kernel
theorem dX1_readProduct_81 : decode cX1_readProduct 81 = .ok (.ireturn, 1) := by decide +kernel
theorem dX1_readSum_0 : decode cX1_readSum 0 = .ok (.iconst 0, 1) := by decide +kernel
theorem dX1_readSum_1 : decode cX1_readSum 1 = .ok (.istore_n 2, 1) := by decide +kernel
theorem dX1_readSum_2 : decode cX1_readSum 2 = .ok (.iconst 0, 1) := by decide +kernel
theorem dX1_readSum_3 : decode cX1_readSum 3 = .ok (.istore_n 3, 1) := by decide +kernel
theorem dX1_readSum_4 : decode cX1_readSum 4 = .ok (.iload_n 3, 1) := by decide +kernel
theorem dX1_readSum_5 : decode cX1_readSum 5 = .ok (.sipush 160, 3) := by decide +kernel
theorem dX1_readSum_8 : decode cX1_readSum 8 = .ok (.if_icmp .gt 62, 3) := by decide +kernel
theorem dX1_readSum_11 : decode cX1_readSum 11 = .ok (.aload_n 0, 1) := by decide +kernel
theorem dX1_readSum_12 : decode cX1_readSum 12 = .ok (.iload_n 1, 1) := by decide +kernel
theorem dX1_readSum_13 : decode cX1_readSum 13 = .ok (.invokevirtual 89, 3) := by decide +kernel
theorem dX1_readSum_16 : decode cX1_readSum 16 = .ok (.ifCond .ne 5, 3) := by decide +kernel
theorem dX1_readSum_19 : decode cX1_readSum 19 = .ok (.iconst 0, 1) := by decide +kernel
theorem dX1_readSum_20 : decode cX1_readSum 20 = .ok (.ireturn, 1) := by decide +kernel
theorem dX1_readSum_21 : decode cX1_readSum 21 = .ok (.iload_n 2, 1) := by decide +kernel
theorem dX1_readSum_22 : decode cX1_readSum 22 = .ok (.ifCond .eq 13, 3) := by decide +kernel
theorem dX1_readSum_25 : decode cX1_readSum 25 = .ok (.aload_n 0, 1) := by decide +kernel
theorem dX1_readSum_26 : decode cX1_readSum 26 = .ok (.getfield 12, 3) := by decide +kernel
theorem dX1_readSum_29 : decode cX1_readSum 29 = .ok (.iload_n 2, 1) := by decide +kernel
theorem dX1_readSum_30 : decode cX1_readSum 30 = .ok (.iconst 0, 1) := by decide +kernel
theorem dX1_readSum_31 : decode cX1_readSum 31 = .ok (.invokevirtual 56, 3) := by decide +kernel
theorem dX1_readSum_34 : decode cX1_readSum 34 = .ok (.pop, 1) := by decide +kernel
theorem dX1_readSum_35 : decode cX1_readSum 35 = .ok (.aload_n 0, 1) := by decide +kernel
theorem dX1_readSum_36 : decode cX1_readSum 36 = .ok (.invokevirtual 35, 3) := by decide +kernel
theorem dX1_readSum_39 : decode cX1_readSum 39 = .ok (.istore_n 2, 1) := by decide +kernel
theorem dX1_readSum_40 : decode cX1_readSum 40 = .ok (.iload_n 2, 1) := by decide +kernel
theorem dX1_readSum_41 : decode cX1_readSum 41 = .ok (.bipush 43, 2) := by decide +kernel
theorem dX1_readSum_43 : decode cX1_readSum 43 = .ok (.if_icmp .eq 11, 3) := by decide +kernel
theorem dX1_readSum_46 : decode cX1_readSum 46 = .ok (.iload_n 2, 1) := by decide +kernel
theorem dX1_readSum_47 : decode cX1_readSum 47 = .ok (.bipush 45, 2) := by decide +kernel
theorem dX1_readSum_49 : decode cX1_readSum 49 = .ok (.if_icmp .eq 5, 3) := by decide +kernel
theorem dX1_readSum_52 : decode cX1_readSum 52 = .ok (.iconst 1, 1) := by decide +kernel
theorem dX1_readSum_53 : decode cX1_readSum 53 = .ok (.ireturn, 1) := by decide +kernel
theorem dX1_readSum_54 : decode cX1_readSum 54 = .ok (.aload_n 0, 1) := by decide +kernel
theorem dX1_readSum_55 : decode cX1_readSum 55 = .ok (.dup, 1) := by decide +kernel
theorem dX1_readSum_56 : decode cX1_readSum 56 = .ok (.getfield 26, 3) := by decide +kernel
theorem dX1_readSum_59 : decode cX1_readSum 59 = .ok (.iconst 1, 1) := by decide +kernel
theorem dX1_readSum_60 : decode cX1_readSum 60 = .ok (.iadd, 1) := by decide +kernel
theorem dX1_readSum_61 : decode cX1_readSum 61 = .ok (.putfield 26, 3) := by decide +kernel
theorem dX1_readSum_64 : decode cX1_readSum 64 = .ok (.iinc 3 1, 3) := by decide +kernel
theorem dX1_readSum_67 : decode cX1_readSum 67 = .ok (.goto (-63), 3) := by decide +kernel
theorem dX1_readSum_70 : decode cX1_readSum 70 = .ok (.aload_n 0, 1) := by decide +kernel
theorem dX1_readSum_71 : decode cX1_readSum 71 = .ok (.iconst 1, 1) := by decide +kernel
theorem dX1_readSum_72 : decode cX1_readSum 72 = .ok (.invokevirtual 39, 3) := by decide +kernel
theorem dX1_readSum_75 : decode cX1_readSum 75 = .ok (.ireturn, 1) := by decide +kernel
theorem dX1_readText_0 : decode cX1_readText 0 = .ok (.aload_n 0, 1) := by decide +kernel
theorem dX1_readText_1 : decode cX1_readText 1 = .ok (.iload_n 1, 1) := by decide +kernel
theorem dX1_readText_2 : decode cX1_readText 2 = .ok (.putfield 22, 3) := by decide +kernel
theorem dX1_readText_5 : decode cX1_readText 5 = .ok (.aload_n 0, 1) := by decide +kernel
theorem dX1_readText_6 : decode cX1_readText 6 = .ok (.iconst 0, 1) := by decide +kernel
theorem dX1_readText_7 : decode cX1_readText 7 = .ok (.putfield 26, 3) := by decide +kernel
theorem dX1_readText_10 : decode cX1_readText 10 = .ok (.aload_n 0, 1) := by decide +kernel
theorem dX1_readText_11 : decode cX1_readText 11 = .ok (.iconst 0, 1) := by decide +kernel
theorem dX1_readText_12 : decode cX1_readText 12 = .ok (.putfield 29, 3) := by decide +kernel
theorem dX1_readText_15 : decode cX1_readText 15 = .ok (.aload_n 0, 1) := by decide +kernel
theorem dX1_readText_16 : decode cX1_readText 16 = .ok (.getfield 12, 3) := by decide +kernel
theorem dX1_readText_19 : decode cX1_readText 19 = .ok (.invokevirtual 32, 3) := by decide +kernel
theorem dX1_readText_22 : decode cX1_readText 22 = .ok (.iconst 0, 1) := by decide +kernel
theorem dX1_readText_23 : decode cX1_readText 23 = .ok (.istore_n 2, 1) := by decide +kernel
theorem dX1_readText_24 : decode cX1_readText 24 = .ok (.iload_n 2, 1) := by decide +kernel
theorem dX1_readText_25 : decode cX1_readText 25 = .ok (.bipush 12, 2) := by decide +kernel
theorem dX1_readText_27 : decode cX1_readText 27 = .ok (.if_icmp .gt 98, 3) := by decide +kernel
theorem dX1_readText_30 : decode cX1_readText 30 = .ok (.aload_n 0, 1) := by decide +kernel
theorem dX1_readText_31 : decode cX1_readText 31 = .ok (.invokevirtual 35, 3) := by decide +kernel
theorem dX1_readText_34 : decode cX1_readText 34 = .ok (.istore_n 3, 1) := by decide +kernel
theorem dX1_readText_35 : decode cX1_readText 35 = .ok (.iload_n 3, 1) := by decide +kernel
theorem dX1_readText_36 : decode cX1_readText 36 = .ok (.bipush 110, 2) := by decide +kernel
theorem dX1_readText_38 : decode cX1_readText 38 = .ok (.if_icmp .eq 15, 3) := by decide +kernel
theorem dX1_readText_41 : decode cX1_readText 41 = .ok (.iload_n 3, 1) := by decide +kernel
theorem dX1_readText_42 : decode cX1_readText 42 = .ok (.bipush 99, 2) := by decide +kernel
theorem dX1_readText_44 : decode cX1_readText 44 = .ok (.if_icmp .eq 9, 3) := by decide +kernel
theorem dX1_readText_47 : decode cX1_readText 47 = .ok (.aload_n 0, 1) := by decide +kernel
theorem dX1_readText_48 : decode cX1_readText 48 = .ok (.iconst 1, 1) := by decide +kernel
theorem dX1_readText_49 : decode cX1_readText 49 = .ok (.invokevirtual 39, 3) := by decide +kernel
theorem dX1_readText_52 : decode cX1_readText 52 = .ok (.ireturn, 1) := by decide +kernel
theorem dX1_readText_53 : decode cX1_readText 53 = .ok (.iload_n 2, 1) := by decide +kernel
theorem dX1_readText_54 : decode cX1_readText 54 = .ok (.bipush 12, 2) := by decide +kernel
theorem dX1_readText_56 : decode cX1_readText 56 = .ok (.if_icmp .ne 9, 3) := by decide +kernel
theorem dX1_readText_59 : decode cX1_readText 59 = .ok (.aload_n 0, 1) := by decide +kernel
theorem dX1_readText_60 : decode cX1_readText 60 = .ok (.iconst 4, 1) := by decide +kernel
theorem dX1_readText_61 : decode cX1_readText 61 = .ok (.invokevirtual 39, 3) := by decide +kernel
theorem dX1_readText_64 : decode cX1_readText 64 = .ok (.ireturn, 1) := by decide +kernel
theorem dX1_readText_65 : decode cX1_readText 65 = .ok (.aload_n 0, 1) := by decide +kernel
theorem dX1_readText_66 : decode cX1_readText 66 = .ok (.dup, 1) := by decide +kernel
theorem dX1_readText_67 : decode cX1_readText 67 = .ok (.getfield 26, 3) := by decide +kernel
theorem dX1_readText_70 : decode cX1_readText 70 = .ok (.iconst 1, 1) := by decide +kernel
theorem dX1_readText_71 : decode cX1_readText 71 = .ok (.iadd, 1) := by decide +kernel
theorem dX1_readText_72 : decode cX1_readText 72 = .ok (.putfield 26, 3) := by decide +kernel
theorem dX1_readText_75 : decode cX1_readText 75 = .ok (.aload_n 0, 1) := by decide +kernel
theorem dX1_readText_76 : decode cX1_readText 76 = .ok (.iload_n 3, 1) := by decide +kernel
theorem dX1_readText_77 : decode cX1_readText 77 = .ok (.bipush 99, 2) := by decide +kernel
theorem dX1_readText_79 : decode cX1_readText 79 = .ok (.if_icmp .ne 7, 3) := by decide +kernel
theorem dX1_readText_82 : decode cX1_readText 82 = .ok (.iconst 1, 1) := by decide +kernel
theorem dX1_readText_83 : decode cX1_readText 83 = .ok (.goto 4, 3) := by decide +kernel
theorem dX1_readText_86 : decode cX1_readText 86 = .ok (.iconst 0, 1) := by decide +kernel
theorem dX1_readText_87 : decode cX1_readText 87 = .ok (.invokevirtual 43, 3) := by decide +kernel
theorem dX1_readText_90 : decode cX1_readText 90 = .ok (.ifCond .ne 5, 3) := by decide +kernel
theorem dX1_readText_93 : decode cX1_readText 93 = .ok (.iconst 0, 1) := by decide +kernel
theorem dX1_readText_94 : decode cX1_readText 94 = .ok (.ireturn, 1) := by decide +kernel
theorem dX1_readText_95 : decode cX1_readText 95 = .ok (.aload_n 0, 1) := by decide +kernel
theorem dX1_readText_96 : decode cX1_readText 96 = .ok (.getfield 26, 3) := by decide +kernel
theorem dX1_readText_99 : decode cX1_readText 99 = .ok (.aload_n 0, 1) := by decide +kernel
theorem dX1_readText_100 : decode cX1_readText 100 = .ok (.getfield 22, 3) := by decide +kernel
theorem dX1_readText_103 : decode cX1_readText 103 = .ok (.if_icmp .lt 5, 3) := by decide +kernel
theorem dX1_readText_106 : decode cX1_readText 106 = .ok (.iconst 1, 1) := by decide +kernel
theorem dX1_readText_107 : decode cX1_readText 107 = .ok (.ireturn, 1) := by decide +kernel
theorem dX1_readText_108 : decode cX1_readText 108 = .ok (.aload_n 0, 1) := by decide +kernel
theorem dX1_readText_109 : decode cX1_readText 109 = .ok (.bipush 59, 2) := by decide +kernel
theorem dX1_readText_111 : decode cX1_readText 111 = .ok (.invokevirtual 47, 3) := by decide +kernel
theorem dX1_readText_114 : decode cX1_readText 114 = .ok (.ifCond .ne 5, 3) := by decide +kernel
theorem dX1_readText_117 : decode cX1_readText 117 = .ok (.iconst 0, 1) := by decide +kernel
theorem dX1_readText_118 : decode cX1_readText 118 = .ok (.ireturn, 1) := by decide +kernel
theorem dX1_readText_119 : decode cX1_readText 119 = .ok (.iinc 2 1, 3) := by decide +kernel
theorem dX1_readText_122 : decode cX1_readText 122 = .ok (.goto (-98), 3) := by decide +kernel
theorem dX1_readText_125 : decode cX1_readText 125 = .ok (.aload_n 0, 1) := by decide +kernel
theorem dX1_readText_126 : decode cX1_readText 126 = .ok (.iconst 1, 1) := by decide +kernel
theorem dX1_readText_127 : decode cX1_readText 127 = .ok (.invokevirtual 39, 3) := by decide +kernel
theorem dX1_readText_130 : decode cX1_readText 130 = .ok (.ireturn, 1) := by decide +kernel
theorem dX3_apart_0 : decode cX3_apart 0 = .ok (.aload_n 0, 1) := by decide +kernel
theorem dX3_apart_1 : decode cX3_apart 1 = .ok (.aload_n 0, 1) := by decide +kernel
theorem dX3_apart_2 : decode cX3_apart 2 = .ok (.getfield 18, 3) := by decide +kernel
theorem dX3_apart_5 : decode cX3_apart 5 = .ok (.getfield 26, 3) := by decide +kernel
theorem dX3_apart_8 : decode cX3_apart 8 = .ok (.iload_n 1, 1) := by decide +kernel
theorem dX3_apart_9 : decode cX3_apart 9 = .ok (.aaload, 1) := by decide +kernel
theorem dX3_apart_10 : decode cX3_apart 10 = .ok (.aload_n 0, 1) := by decide +kernel
theorem dX3_apart_11 : decode cX3_apart 11 = .ok (.getfield 18, 3) := by decide +kernel
theorem dX3_apart_14 : decode cX3_apart 14 = .ok (.getfield 32, 3) := by decide +kernel
theorem dX3_apart_17 : decode cX3_apart 17 = .ok (.iload_n 1, 1) := by decide +kernel
theorem dX3_apart_18 : decode cX3_apart 18 = .ok (.iaload, 1) := by decide +kernel
theorem dX3_apart_19 : decode cX3_apart 19 = .ok (.iload_n 2, 1) := by decide +kernel
theorem dX3_apart_20 : decode cX3_apart 20 = .ok (.invokevirtual 35, 3) := by decide +kernel
theorem dX3_apart_23 : decode cX3_apart 23 = .ok (.ireturn, 1) := by decide +kernel
theorem dX3_apartFrom_0 : decode cX3_apartFrom 0 = .ok (.aload_n 0, 1) := by decide +kernel
theorem dX3_apartFrom_1 : decode cX3_apartFrom 1 = .ok (.getfield 18, 3) := by decide +kernel
theorem dX3_apartFrom_4 : decode cX3_apartFrom 4 = .ok (.getfield 26, 3) := by decide +kernel
theorem dX3_apartFrom_7 : decode cX3_apartFrom 7 = .ok (.iload_n 3, 1) := by decide +kernel
theorem dX3_apartFrom_8 : decode cX3_apartFrom 8 = .ok (.aaload, 1) := by decide +kernel
theorem dX3_apartFrom_9 : decode cX3_apartFrom 9 = .ok (.astore 4, 2) := by decide +kernel
theorem dX3_apartFrom_11 : decode cX3_apartFrom 11 = .ok (.aload_n 0, 1) := by decide +kernel
theorem dX3_apartFrom_12 : decode cX3_apartFrom 12 = .ok (.getfield 18, 3) := by decide +kernel
theorem dX3_apartFrom_15 : decode cX3_apartFrom 15 = .ok (.getfield 32, 3) := by decide +kernel
theorem dX3_apartFrom_18 : decode cX3_apartFrom 18 = .ok (.iload_n 3, 1) := by decide +kernel
theorem dX3_apartFrom_19 : decode cX3_apartFrom 19 = .ok (.iaload, 1) := by decide +kernel
theorem dX3_apartFrom_20 : decode cX3_apartFrom 20 = .ok (.istore 5, 2) := by decide +kernel
theorem dX3_apartFrom_22 : decode cX3_apartFrom 22 = .ok (.iconst 0, 1) := by decide +kernel
theorem dX3_apartFrom_23 : decode cX3_apartFrom 23 = .ok (.istore 6, 2) := by decide +kernel
theorem dX3_apartFrom_25 : decode cX3_apartFrom 25 = .ok (.iload 6, 2) := by decide +kernel
theorem dX3_apartFrom_27 : decode cX3_apartFrom 27 = .ok (.iload 5, 2) := by decide +kernel
theorem dX3_apartFrom_29 : decode cX3_apartFrom 29 = .ok (.if_icmp .gt 25, 3) := by decide +kernel
theorem dX3_apartFrom_32 : decode cX3_apartFrom 32 = .ok (.iload 6, 2) := by decide +kernel
theorem dX3_apartFrom_34 : decode cX3_apartFrom 34 = .ok (.bipush 8, 2) := by decide +kernel
theorem dX3_apartFrom_36 : decode cX3_apartFrom 36 = .ok (.if_icmp .gt 18, 3) := by decide +kernel
theorem dX3_apartFrom_39 : decode cX3_apartFrom 39 = .ok (.aload_n 0, 1) := by decide +kernel
theorem dX3_apartFrom_40 : decode cX3_apartFrom 40 = .ok (.getfield 15, 3) := by decide +kernel
theorem dX3_apartFrom_43 : decode cX3_apartFrom 43 = .ok (.iload 6, 2) := by decide +kernel
theorem dX3_apartFrom_45 : decode cX3_apartFrom 45 = .ok (.iload 6, 2) := by decide +kernel
theorem dX3_apartFrom_47 : decode cX3_apartFrom 47 = .ok (.iastore, 1) := by decide +kernel
theorem dX3_apartFrom_48 : decode cX3_apartFrom 48 = .ok (.iinc 6 1, 3) := by decide +kernel
theorem dX3_apartFrom_51 : decode cX3_apartFrom 51 = .ok (.goto (-26), 3) := by decide +kernel
theorem dX3_apartFrom_54 : decode cX3_apartFrom 54 = .ok (.iconst 0, 1) := by decide +kernel
theorem dX3_apartFrom_55 : decode cX3_apartFrom 55 = .ok (.istore 6, 2) := by decide +kernel
theorem dX3_apartFrom_57 : decode cX3_apartFrom 57 = .ok (.iload 6, 2) := by decide +kernel
theorem dX3_apartFrom_59 : decode cX3_apartFrom 59 = .ok (.iload_n 2, 1) := by decide +kernel
theorem dX3_apartFrom_60 : decode cX3_apartFrom 60 = .ok (.if_icmp .ge 119, 3) := by decide +kernel
theorem dX3_apartFrom_63 : decode cX3_apartFrom 63 = .ok (.iload 6, 2) := by decide +kernel
theorem dX3_apartFrom_65 : decode cX3_apartFrom 65 = .ok (.aload_n 1, 1) := by decide +kernel
theorem dX3_apartFrom_66 : decode cX3_apartFrom 66 = .ok (.arraylength, 1) := by decide +kernel
theorem dX3_apartFrom_67 : decode cX3_apartFrom 67 = .ok (.if_icmp .ge 112, 3) := by decide +kernel
theorem dX3_apartFrom_70 : decode cX3_apartFrom 70 = .ok (.aload_n 0, 1) := by decide +kernel
theorem dX3_apartFrom_71 : decode cX3_apartFrom 71 = .ok (.getfield 15, 3) := by decide +kernel
theorem dX3_apartFrom_74 : decode cX3_apartFrom 74 = .ok (.iconst 0, 1) := by decide +kernel
theorem dX3_apartFrom_75 : decode cX3_apartFrom 75 = .ok (.iaload, 1) := by decide +kernel
theorem dX3_apartFrom_76 : decode cX3_apartFrom 76 = .ok (.istore 7, 2) := by decide +kernel
theorem dX3_apartFrom_78 : decode cX3_apartFrom 78 = .ok (.aload_n 0, 1) := by decide +kernel
theorem dX3_apartFrom_79 : decode cX3_apartFrom 79 = .ok (.getfield 15, 3) := by decide +kernel
theorem dX3_apartFrom_82 : decode cX3_apartFrom 82 = .ok (.iconst 0, 1) := by decide +kernel
theorem dX3_apartFrom_83 : decode cX3_apartFrom 83 = .ok (.iload 6, 2) := by decide +kernel
theorem dX3_apartFrom_85 : decode cX3_apartFrom 85 = .ok (.iconst 1, 1) := by decide +kernel
theorem dX3_apartFrom_86 : decode cX3_apartFrom 86 = .ok (.iadd, 1) := by decide +kernel
theorem dX3_apartFrom_87 : decode cX3_apartFrom 87 = .ok (.iastore, 1) := by decide +kernel
theorem dX3_apartFrom_88 : decode cX3_apartFrom 88 = .ok (.iconst 1, 1) := by decide +kernel
theorem dX3_apartFrom_89 : decode cX3_apartFrom 89 = .ok (.istore 8, 2) := by decide +kernel
theorem dX3_apartFrom_91 : decode cX3_apartFrom 91 = .ok (.iload 8, 2) := by decide +kernel
theorem dX3_apartFrom_93 : decode cX3_apartFrom 93 = .ok (.iload 5, 2) := by decide +kernel
theorem dX3_apartFrom_95 : decode cX3_apartFrom 95 = .ok (.if_icmp .gt 78, 3) := by decide +kernel
theorem dX3_apartFrom_98 : decode cX3_apartFrom 98 = .ok (.iload 8, 2) := by decide +kernel
theorem dX3_apartFrom_100 : decode cX3_apartFrom 100 = .ok (.bipush 8, 2) := by decide +kernel
theorem dX3_apartFrom_102 : decode cX3_apartFrom 102 = .ok (.if_icmp .gt 71, 3) := by decide +kernel
theorem dX3_apartFrom_105 : decode cX3_apartFrom 105 = .ok (.aload_n 1, 1) := by decide +kernel
theorem dX3_apartFrom_106 : decode cX3_apartFrom 106 = .ok (.iload 6, 2) := by decide +kernel
theorem dX3_apartFrom_108 : decode cX3_apartFrom 108 = .ok (.iaload, 1) := by decide +kernel
theorem dX3_apartFrom_109 : decode cX3_apartFrom 109 = .ok (.aload 4, 2) := by decide +kernel
theorem dX3_apartFrom_111 : decode cX3_apartFrom 111 = .ok (.iload 8, 2) := by decide +kernel
theorem dX3_apartFrom_113 : decode cX3_apartFrom 113 = .ok (.iconst 1, 1) := by decide +kernel
theorem dX3_apartFrom_114 : decode cX3_apartFrom 114 = .ok (.isub, 1) := by decide +kernel
theorem dX3_apartFrom_115 : decode cX3_apartFrom 115 = .ok (.iaload, 1) := by decide +kernel
theorem dX3_apartFrom_116 : decode cX3_apartFrom 116 = .ok (.if_icmp .ne 8, 3) := by decide +kernel
theorem dX3_apartFrom_119 : decode cX3_apartFrom 119 = .ok (.iload 7, 2) := by decide +kernel
theorem dX3_apartFrom_121 : decode cX3_apartFrom 121 = .ok (.goto 7, 3) := by decide +kernel
theorem dX3_apartFrom_124 : decode cX3_apartFrom 124 = .ok (.iload 7, 2) := by decide +kernel
theorem dX3_apartFrom_126 : decode cX3_apartFrom 126 = .ok (.iconst 1, 1) := by decide +kernel
theorem dX3_apartFrom_127 : decode cX3_apartFrom 127 = .ok (.iadd, 1) := by decide +kernel
theorem dX3_apartFrom_128 : decode cX3_apartFrom 128 = .ok (.istore 9, 2) := by decide +kernel
theorem dX3_apartFrom_130 : decode cX3_apartFrom 130 = .ok (.aload_n 0, 1) := by decide +kernel
theorem dX3_apartFrom_131 : decode cX3_apartFrom 131 = .ok (.getfield 15, 3) := by decide +kernel
theorem dX3_apartFrom_134 : decode cX3_apartFrom 134 = .ok (.iload 8, 2) := by decide +kernel
theorem dX3_apartFrom_136 : decode cX3_apartFrom 136 = .ok (.iaload, 1) := by decide +kernel
theorem dX3_apartFrom_137 : decode cX3_apartFrom 137 = .ok (.istore 7, 2) := by decide +kernel
theorem dX3_apartFrom_139 : decode cX3_apartFrom 139 = .ok (.aload_n 0, 1) := by decide +kernel
theorem dX3_apartFrom_140 : decode cX3_apartFrom 140 = .ok (.getfield 15, 3) := by decide +kernel
theorem dX3_apartFrom_143 : decode cX3_apartFrom 143 = .ok (.iload 8, 2) := by decide +kernel
theorem dX3_apartFrom_145 : decode cX3_apartFrom 145 = .ok (.iload 9, 2) := by decide +kernel
theorem dX3_apartFrom_147 : decode cX3_apartFrom 147 = .ok (.iconst 1, 1) := by decide +kernel
theorem dX3_apartFrom_148 : decode cX3_apartFrom 148 = .ok (.iload 7, 2) := by decide +kernel
theorem dX3_apartFrom_150 : decode cX3_apartFrom 150 = .ok (.aload_n 0, 1) := by decide +kernel
theorem dX3_apartFrom_151 : decode cX3_apartFrom 151 = .ok (.getfield 15, 3) := by decide +kernel
theorem dX3_apartFrom_154 : decode cX3_apartFrom 154 = .ok (.iload 8, 2) := by decide +kernel
theorem dX3_apartFrom_156 : decode cX3_apartFrom 156 = .ok (.iconst 1, 1) := by decide +kernel
theorem dX3_apartFrom_157 : decode cX3_apartFrom 157 = .ok (.isub, 1) := by decide +kernel
theorem dX3_apartFrom_158 : decode cX3_apartFrom 158 = .ok (.iaload, 1) := by decide +kernel
theorem dX3_apartFrom_159 : decode cX3_apartFrom 159 = .ok (.invokestatic 39, 3) := by decide +kernel
theorem dX3_apartFrom_162 : decode cX3_apartFrom 162 = .ok (.iadd, 1) := by decide +kernel
theorem dX3_apartFrom_163 : decode cX3_apartFrom 163 = .ok (.invokestatic 39, 3) := by decide +kernel
theorem dX3_apartFrom_166 : decode cX3_apartFrom 166 = .ok (.iastore, 1) := by decide +kernel
theorem dX3_apartFrom_167 : decode cX3_apartFrom 167 = .ok (.iinc 8 1, 3) := by decide +kernel
theorem dX3_apartFrom_170 : decode cX3_apartFrom 170 = .ok (.goto (-79), 3) := by decide +kernel
theorem dX3_apartFrom_173 : decode cX3_apartFrom 173 = .ok (.iinc 6 1, 3) := by decide +kernel
theorem dX3_apartFrom_176 : decode cX3_apartFrom 176 = .ok (.goto (-119), 3) := by decide +kernel
theorem dX3_apartFrom_179 : decode cX3_apartFrom 179 = .ok (.aload_n 0, 1) := by decide +kernel
theorem dX3_apartFrom_180 : decode cX3_apartFrom 180 = .ok (.getfield 15, 3) := by decide +kernel
theorem dX3_apartFrom_183 : decode cX3_apartFrom 183 = .ok (.iload 5, 2) := by decide +kernel
theorem dX3_apartFrom_185 : decode cX3_apartFrom 185 = .ok (.iaload, 1) := by decide +kernel
theorem dX3_apartFrom_186 : decode cX3_apartFrom 186 = .ok (.ireturn, 1) := by decide +kernel
theorem dX3_findNearest_0 : decode cX3_findNearest 0 = .ok (.iconst 0, 1) := by decide +kernel
theorem dX3_findNearest_1 : decode cX3_findNearest 1 = .ok (.istore_n 2, 1) := by decide +kernel
theorem dX3_findNearest_2 : decode cX3_findNearest 2 = .ok (.iload_n 2, 1) := by decide +kernel
theorem dX3_findNearest_3 : decode cX3_findNearest 3 = .ok (.iload_n 1, 1) := by decide +kernel
theorem dX3_findNearest_4 : decode cX3_findNearest 4 = .ok (.if_icmp .ge 29, 3) := by decide +kernel
theorem dX3_findNearest_7 : decode cX3_findNearest 7 = .ok (.iload_n 2, 1) := by decide +kernel
theorem dX3_findNearest_8 : decode cX3_findNearest 8 = .ok (.bipush 12, 2) := by decide +kernel
theorem dX3_findNearest_10 : decode cX3_findNearest 10 = .ok (.if_icmp .ge 23, 3) := by decide +kernel
theorem dX3_findNearest_13 : decode cX3_findNearest 13 = .ok (.aload_n 0, 1) := by decide +kernel
theorem dX3_findNearest_14 : decode cX3_findNearest 14 = .ok (.getfield 9, 3) := by decide +kernel
theorem dX3_findNearest_17 : decode cX3_findNearest 17 = .ok (.iload_n 2, 1) := by decide +kernel
theorem dX3_findNearest_18 : decode cX3_findNearest 18 = .ok (.aload_n 0, 1) := by decide +kernel
theorem dX3_findNearest_19 : decode cX3_findNearest 19 = .ok (.getfield 22, 3) := by decide +kernel
theorem dX3_findNearest_22 : decode cX3_findNearest 22 = .ok (.iload_n 2, 1) := by decide +kernel
theorem dX3_findNearest_23 : decode cX3_findNearest 23 = .ok (.invokevirtual 45, 3) := by decide +kernel
theorem dX3_findNearest_26 : decode cX3_findNearest 26 = .ok (.iastore, 1) := by decide +kernel
theorem dX3_findNearest_27 : decode cX3_findNearest 27 = .ok (.iinc 2 1, 3) := by decide +kernel
theorem dX3_findNearest_30 : decode cX3_findNearest 30 = .ok (.goto (-28), 3) := by decide +kernel
theorem dX3_findNearest_33 : decode cX3_findNearest 33 = .ok (.aload_n 0, 1) := by decide +kernel
theorem dX3_findNearest_34 : decode cX3_findNearest 34 = .ok (.iconst (-1), 1) := by decide +kernel
theorem dX3_findNearest_35 : decode cX3_findNearest 35 = .ok (.putfield 51, 3) := by decide +kernel
theorem dX3_findNearest_38 : decode cX3_findNearest 38 = .ok (.aload_n 0, 1) := by decide +kernel
theorem dX3_findNearest_39 : decode cX3_findNearest 39 = .ok (.iconst 0, 1) := by decide +kernel
theorem dX3_findNearest_40 : decode cX3_findNearest 40 = .ok (.putfield 55, 3) := by decide +kernel
theorem dX3_findNearest_43 : decode cX3_findNearest 43 = .ok (.aload_n 0, 1) := by decide +kernel
theorem dX3_findNearest_44 : decode cX3_findNearest 44 = .ok (.iconst 0, 1) := by decide +kernel
theorem dX3_findNearest_45 : decode cX3_findNearest 45 = .ok (.putfield 58, 3) := by decide +kernel
theorem dX3_findNearest_48 : decode cX3_findNearest 48 = .ok (.iconst 0, 1) := by decide +kernel
theorem dX3_findNearest_49 : decode cX3_findNearest 49 = .ok (.istore_n 2, 1) := by decide +kernel
theorem dX3_findNearest_50 : decode cX3_findNearest 50 = .ok (.iload_n 2, 1) := by decide +kernel
theorem dX3_findNearest_51 : decode cX3_findNearest 51 = .ok (.aload_n 0, 1) := by decide +kernel
theorem dX3_findNearest_52 : decode cX3_findNearest 52 = .ok (.getfield 18, 3) := by decide +kernel
theorem dX3_findNearest_55 : decode cX3_findNearest 55 = .ok (.getfield 61, 3) := by decide +kernel
theorem dX3_findNearest_58 : decode cX3_findNearest 58 = .ok (.if_icmp .ge 83, 3) := by decide +kernel
theorem dX3_findNearest_61 : decode cX3_findNearest 61 = .ok (.aload_n 0, 1) := by decide +kernel
theorem dX3_findNearest_62 : decode cX3_findNearest 62 = .ok (.getfield 18, 3) := by decide +kernel
theorem dX3_findNearest_65 : decode cX3_findNearest 65 = .ok (.iload_n 2, 1) := by decide +kernel
theorem dX3_findNearest_66 : decode cX3_findNearest 66 = .ok (.invokevirtual 64, 3) := by decide +kernel
theorem dX3_findNearest_69 : decode cX3_findNearest 69 = .ok (.ifCond .ne 6, 3) := by decide +kernel
theorem dX3_findNearest_72 : decode cX3_findNearest 72 = .ok (.goto 63, 3) := by decide +kernel
theorem dX3_findNearest_75 : decode cX3_findNearest 75 = .ok (.aload_n 0, 1) := by decide +kernel
theorem dX3_findNearest_76 : decode cX3_findNearest 76 = .ok (.aload_n 0, 1) := by decide +kernel
theorem dX3_findNearest_77 : decode cX3_findNearest 77 = .ok (.getfield 9, 3) := by decide +kernel
theorem dX3_findNearest_80 : decode cX3_findNearest 80 = .ok (.iload_n 1, 1) := by decide +kernel
theorem dX3_findNearest_81 : decode cX3_findNearest 81 = .ok (.iload_n 2, 1) := by decide +kernel
theorem dX3_findNearest_82 : decode cX3_findNearest 82 = .ok (.invokevirtual 35, 3) := by decide +kernel
theorem dX3_findNearest_85 : decode cX3_findNearest 85 = .ok (.istore_n 3, 1) := by decide +kernel
theorem dX3_findNearest_86 : decode cX3_findNearest 86 = .ok (.aload_n 0, 1) := by decide +kernel
theorem dX3_findNearest_87 : decode cX3_findNearest 87 = .ok (.getfield 51, 3) := by decide +kernel
theorem dX3_findNearest_90 : decode cX3_findNearest 90 = .ok (.iconst (-1), 1) := by decide +kernel
theorem dX3_findNearest_91 : decode cX3_findNearest 91 = .ok (.if_icmp .eq 11, 3) := by decide +kernel
theorem dX3_findNearest_94 : decode cX3_findNearest 94 = .ok (.iload_n 3, 1) := by decide +kernel
theorem dX3_findNearest_95 : decode cX3_findNearest 95 = .ok (.aload_n 0, 1) := by decide +kernel
theorem dX3_findNearest_96 : decode cX3_findNearest 96 = .ok (.getfield 55, 3) := by decide +kernel
theorem dX3_findNearest_99 : decode cX3_findNearest 99 = .ok (.if_icmp .ge 18, 3) := by decide +kernel
theorem dX3_findNearest_102 : decode cX3_findNearest 102 = .ok (.aload_n 0, 1) := by decide +kernel
theorem dX3_findNearest_103 : decode cX3_findNearest 103 = .ok (.iload_n 2, 1) := by decide +kernel
theorem dX3_findNearest_104 : decode cX3_findNearest 104 = .ok (.putfield 51, 3) := by decide +kernel
theorem dX3_findNearest_107 : decode cX3_findNearest 107 = .ok (.aload_n 0, 1) := by decide +kernel
theorem dX3_findNearest_108 : decode cX3_findNearest 108 = .ok (.iload_n 3, 1) := by decide +kernel
theorem dX3_findNearest_109 : decode cX3_findNearest 109 = .ok (.putfield 55, 3) := by decide +kernel
theorem dX3_findNearest_112 : decode cX3_findNearest 112 = .ok (.aload_n 0, 1) := by decide +kernel
theorem dX3_findNearest_113 : decode cX3_findNearest 113 = .ok (.iconst 0, 1) := by decide +kernel
theorem dX3_findNearest_114 : decode cX3_findNearest 114 = .ok (.putfield 58, 3) := by decide +kernel
theorem dX3_findNearest_117 : decode cX3_findNearest 117 = .ok (.iload_n 3, 1) := by decide +kernel
theorem dX3_findNearest_118 : decode cX3_findNearest 118 = .ok (.aload_n 0, 1) := by decide +kernel
theorem dX3_findNearest_119 : decode cX3_findNearest 119 = .ok (.getfield 55, 3) := by decide +kernel
theorem dX3_findNearest_122 : decode cX3_findNearest 122 = .ok (.if_icmp .ne 13, 3) := by decide +kernel
theorem dX3_findNearest_125 : decode cX3_findNearest 125 = .ok (.aload_n 0, 1) := by decide +kernel
theorem dX3_findNearest_126 : decode cX3_findNearest 126 = .ok (.dup, 1) := by decide +kernel
theorem dX3_findNearest_127 : decode cX3_findNearest 127 = .ok (.getfield 58, 3) := by decide +kernel
theorem dX3_findNearest_130 : decode cX3_findNearest 130 = .ok (.iconst 1, 1) := by decide +kernel
theorem dX3_findNearest_131 : decode cX3_findNearest 131 = .ok (.iadd, 1) := by decide +kernel
theorem dX3_findNearest_132 : decode cX3_findNearest 132 = .ok (.putfield 58, 3) := by decide +kernel
theorem dX3_findNearest_135 : decode cX3_findNearest 135 = .ok (.iinc 2 1, 3) := by decide +kernel
theorem dX3_findNearest_138 : decode cX3_findNearest 138 = .ok (.goto (-88), 3) := by decide +kernel
theorem dX3_findNearest_141 : decode cX3_findNearest 141 = .ok (.return_, 1) := by decide +kernel
theorem dX3_fits_0 : decode cX3_fits 0 = .ok (.iconst 0, 1) := by decide +kernel
theorem dX3_fits_1 : decode cX3_fits 1 = .ok (.istore_n 2, 1) := by decide +kernel
theorem dX3_fits_2 : decode cX3_fits 2 = .ok (.iload_n 2, 1) := by decide +kernel
theorem dX3_fits_3 : decode cX3_fits 3 = .ok (.aload_n 0, 1) := by decide +kernel
theorem dX3_fits_4 : decode cX3_fits 4 = .ok (.getfield 18, 3) := by decide +kernel
theorem dX3_fits_7 : decode cX3_fits 7 = .ok (.getfield 32, 3) := by decide +kernel
theorem dX3_fits_10 : decode cX3_fits 10 = .ok (.iload_n 1, 1) := by decide +kernel
theorem dX3_fits_11 : decode cX3_fits 11 = .ok (.iaload, 1) := by decide +kernel
theorem dX3_fits_12 : decode cX3_fits 12 = .ok (.if_icmp .ge 46, 3) := by decide +kernel
theorem dX3_fits_15 : decode cX3_fits 15 = .ok (.aload_n 0, 1) := by decide +kernel
theorem dX3_fits_16 : decode cX3_fits 16 = .ok (.getfield 22, 3) := by decide +kernel
theorem dX3_fits_19 : decode cX3_fits 19 = .ok (.iload_n 2, 1) := by decide +kernel
theorem dX3_fits_20 : decode cX3_fits 20 = .ok (.invokevirtual 71, 3) := by decide +kernel
theorem dX3_fits_23 : decode cX3_fits 23 = .ok (.bipush 63, 2) := by decide +kernel
theorem dX3_fits_25 : decode cX3_fits 25 = .ok (.if_icmp .eq 27, 3) := by decide +kernel
theorem dX3_fits_28 : decode cX3_fits 28 = .ok (.aload_n 0, 1) := by decide +kernel
theorem dX3_fits_29 : decode cX3_fits 29 = .ok (.getfield 22, 3) := by decide +kernel
theorem dX3_fits_32 : decode cX3_fits 32 = .ok (.iload_n 2, 1) := by decide +kernel
theorem dX3_fits_33 : decode cX3_fits 33 = .ok (.invokevirtual 45, 3) := by decide +kernel
theorem dX3_fits_36 : decode cX3_fits 36 = .ok (.aload_n 0, 1) := by decide +kernel
theorem dX3_fits_37 : decode cX3_fits 37 = .ok (.getfield 18, 3) := by decide +kernel
theorem dX3_fits_40 : decode cX3_fits 40 = .ok (.getfield 26, 3) := by decide +kernel
theorem dX3_fits_43 : decode cX3_fits 43 = .ok (.iload_n 1, 1) := by decide +kernel
theorem dX3_fits_44 : decode cX3_fits 44 = .ok (.aaload, 1) := by decide +kernel
theorem dX3_fits_45 : decode cX3_fits 45 = .ok (.iload_n 2, 1) := by decide +kernel
theorem dX3_fits_46 : decode cX3_fits 46 = .ok (.iaload, 1) := by decide +kernel
theorem dX3_fits_47 : decode cX3_fits 47 = .ok (.if_icmp .eq 5, 3) := by decide +kernel
theorem dX3_fits_50 : decode cX3_fits 50 = .ok (.iconst 0, 1) := by decide +kernel
theorem dX3_fits_51 : decode cX3_fits 51 = .ok (.ireturn, 1) := by decide +kernel
theorem dX3_fits_52 : decode cX3_fits 52 = .ok (.iinc 2 1, 3) := by decide +kernel
theorem dX3_fits_55 : decode cX3_fits 55 = .ok (.goto (-53), 3) := by decide +kernel
theorem dX3_fits_58 : decode cX3_fits 58 = .ok (.iconst 1, 1) := by decide +kernel
theorem dX3_fits_59 : decode cX3_fits 59 = .ok (.ireturn, 1) := by decide +kernel
theorem dX3_fitting_0 : decode cX3_fitting 0 = .ok (.lconst 0, 1) := by decide +kernel
theorem dX3_fitting_1 : decode cX3_fitting 1 = .ok (.lstore_n 2, 1) := by decide +kernel
theorem dX3_fitting_2 : decode cX3_fitting 2 = .ok (.iconst 0, 1) := by decide +kernel
theorem dX3_fitting_3 : decode cX3_fitting 3 = .ok (.istore 4, 2) := by decide +kernel
theorem dX3_fitting_5 : decode cX3_fitting 5 = .ok (.iload 4, 2) := by decide +kernel
theorem dX3_fitting_7 : decode cX3_fitting 7 = .ok (.aload_n 0, 1) := by decide +kernel
theorem dX3_fitting_8 : decode cX3_fitting 8 = .ok (.getfield 18, 3) := by decide +kernel
theorem dX3_fitting_11 : decode cX3_fitting 11 = .ok (.getfield 61, 3) := by decide +kernel
theorem dX3_fitting_14 : decode cX3_fitting 14 = .ok (.if_icmp .ge 51, 3) := by decide +kernel
theorem dX3_fitting_17 : decode cX3_fitting 17 = .ok (.aload_n 0, 1) := by decide +kernel
theorem dX3_fitting_18 : decode cX3_fitting 18 = .ok (.getfield 18, 3) := by decide +kernel
theorem dX3_fitting_21 : decode cX3_fitting 21 = .ok (.iload 4, 2) := by decide +kernel
theorem dX3_fitting_23 : decode cX3_fitting 23 = .ok (.invokevirtual 64, 3) := by decide +kernel
theorem dX3_fitting_26 : decode cX3_fitting 26 = .ok (.ifCond .eq 33, 3) := by decide +kernel
theorem dX3_fitting_29 : decode cX3_fitting 29 = .ok (.aload_n 0, 1) := by decide +kernel
theorem dX3_fitting_30 : decode cX3_fitting 30 = .ok (.getfield 18, 3) := by decide +kernel
theorem dX3_fitting_33 : decode cX3_fitting 33 = .ok (.getfield 32, 3) := by decide +kernel
theorem dX3_fitting_36 : decode cX3_fitting 36 = .ok (.iload 4, 2) := by decide +kernel
theorem dX3_fitting_38 : decode cX3_fitting 38 = .ok (.iaload, 1) := by decide +kernel
theorem dX3_fitting_39 : decode cX3_fitting 39 = .ok (.iload_n 1, 1) := by decide +kernel
theorem dX3_fitting_40 : decode cX3_fitting 40 = .ok (.if_icmp .ne 19, 3) := by decide +kernel
theorem dX3_fitting_43 : decode cX3_fitting 43 = .ok (.aload_n 0, 1) := by decide +kernel
theorem dX3_fitting_44 : decode cX3_fitting 44 = .ok (.iload 4, 2) := by decide +kernel
theorem dX3_fitting_46 : decode cX3_fitting 46 = .ok (.invokevirtual 68, 3) := by decide +kernel
theorem dX3_fitting_49 : decode cX3_fitting 49 = .ok (.ifCond .eq 10, 3) := by decide +kernel
theorem dX3_fitting_52 : decode cX3_fitting 52 = .ok (.lload_n 2, 1) := by decide +kernel
theorem dX3_fitting_53 : decode cX3_fitting 53 = .ok (.lconst 1, 1) := by decide +kernel
theorem dX3_fitting_54 : decode cX3_fitting 54 = .ok (.iload 4, 2) := by decide +kernel
theorem dX3_fitting_56 : decode cX3_fitting 56 = .ok (.lshl, 1) := by decide +kernel
theorem dX3_fitting_57 : decode cX3_fitting 57 = .ok (.lor, 1) := by decide +kernel
theorem dX3_fitting_58 : decode cX3_fitting 58 = .ok (.lstore_n 2, 1) := by decide +kernel
theorem dX3_fitting_59 : decode cX3_fitting 59 = .ok (.iinc 4 1, 3) := by decide +kernel
theorem dX3_fitting_62 : decode cX3_fitting 62 = .ok (.goto (-57), 3) := by decide +kernel
theorem dX3_fitting_65 : decode cX3_fitting 65 = .ok (.lload_n 2, 1) := by decide +kernel
theorem dX3_fitting_66 : decode cX3_fitting 66 = .ok (.lreturn, 1) := by decide +kernel
theorem dX4_findWords_0 : decode cX4_findWords 0 = .ok (.aload_n 0, 1) := by decide +kernel
theorem dX4_findWords_1 : decode cX4_findWords 1 = .ok (.lconst 0, 1) := by decide +kernel
theorem dX4_findWords_2 : decode cX4_findWords 2 = .ok (.putfield 45, 3) := by decide +kernel
theorem dX4_findWords_5 : decode cX4_findWords 5 = .ok (.aload_n 0, 1) := by decide +kernel
theorem dX4_findWords_6 : decode cX4_findWords 6 = .ok (.getfield 9, 3) := by decide +kernel
theorem dX4_findWords_9 : decode cX4_findWords 9 = .ok (.lconst 0, 1) := by decide +kernel
theorem dX4_findWords_10 : decode cX4_findWords 10 = .ok (.invokestatic 53, 3) := by decide +kernel
theorem dX4_findWords_13 : decode cX4_findWords 13 = .ok (.iconst 0, 1) := by decide +kernel
theorem dX4_findWords_14 : decode cX4_findWords 14 = .ok (.istore_n 1, 1) := by decide +kernel
theorem dX4_findWords_15 : decode cX4_findWords 15 = .ok (.iload_n 1, 1) := by decide +kernel
theorem dX4_findWords_16 : decode cX4_findWords 16 = .ok (.aload_n 0, 1) := by decide +kernel
theorem dX4_findWords_17 : decode cX4_findWords 17 = .ok (.getfield 29, 3) := by decide +kernel
theorem dX4_findWords_20 : decode cX4_findWords 20 = .ok (.getfield 59, 3) := by decide +kernel
theorem dX4_findWords_23 : decode cX4_findWords 23 = .ok (.if_icmp .ge 96, 3) := by decide +kernel
theorem dX4_findWords_26 : decode cX4_findWords 26 = .ok (.aload_n 0, 1) := by decide +kernel
theorem dX4_findWords_27 : decode cX4_findWords 27 = .ok (.getfield 29, 3) := by decide +kernel
theorem dX4_findWords_30 : decode cX4_findWords 30 = .ok (.iload_n 1, 1) := by decide +kernel
theorem dX4_findWords_31 : decode cX4_findWords 31 = .ok (.invokevirtual 62, 3) := by decide +kernel
theorem dX4_findWords_34 : decode cX4_findWords 34 = .ok (.ifCond .eq 79, 3) := by decide +kernel
theorem dX4_findWords_37 : decode cX4_findWords 37 = .ok (.aload_n 0, 1) := by decide +kernel
theorem dX4_findWords_38 : decode cX4_findWords 38 = .ok (.getfield 29, 3) := by decide +kernel
theorem dX4_findWords_41 : decode cX4_findWords 41 = .ok (.getfield 66, 3) := by decide +kernel
theorem dX4_findWords_44 : decode cX4_findWords 44 = .ok (.iload_n 1, 1) := by decide +kernel
theorem dX4_findWords_45 : decode cX4_findWords 45 = .ok (.iaload, 1) := by decide +kernel
theorem dX4_findWords_46 : decode cX4_findWords 46 = .ok (.aload_n 0, 1) := by decide +kernel
theorem dX4_findWords_47 : decode cX4_findWords 47 = .ok (.getfield 36, 3) := by decide +kernel
theorem dX4_findWords_50 : decode cX4_findWords 50 = .ok (.if_icmp .ne 63, 3) := by decide +kernel
theorem dX4_findWords_53 : decode cX4_findWords 53 = .ok (.aload_n 0, 1) := by decide +kernel
theorem dX4_findWords_54 : decode cX4_findWords 54 = .ok (.dup, 1) := by decide +kernel
theorem dX4_findWords_55 : decode cX4_findWords 55 = .ok (.getfield 45, 3) := by decide +kernel
theorem dX4_findWords_58 : decode cX4_findWords 58 = .ok (.lconst 1, 1) := by decide +kernel
theorem dX4_findWords_59 : decode cX4_findWords 59 = .ok (.iload_n 1, 1) := by decide +kernel
theorem dX4_findWords_60 : decode cX4_findWords 60 = .ok (.lshl, 1) := by decide +kernel
theorem dX4_findWords_61 : decode cX4_findWords 61 = .ok (.lor, 1) := by decide +kernel
theorem dX4_findWords_62 : decode cX4_findWords 62 = .ok (.putfield 45, 3) := by decide +kernel
theorem dX4_findWords_65 : decode cX4_findWords 65 = .ok (.iconst 0, 1) := by decide +kernel
theorem dX4_findWords_66 : decode cX4_findWords 66 = .ok (.istore_n 2, 1) := by decide +kernel
theorem dX4_findWords_67 : decode cX4_findWords 67 = .ok (.iload_n 2, 1) := by decide +kernel
theorem dX4_findWords_68 : decode cX4_findWords 68 = .ok (.aload_n 0, 1) := by decide +kernel
theorem dX4_findWords_69 : decode cX4_findWords 69 = .ok (.getfield 36, 3) := by decide +kernel
theorem dX4_findWords_72 : decode cX4_findWords 72 = .ok (.if_icmp .ge 41, 3) := by decide +kernel
theorem dX4_findWords_75 : decode cX4_findWords 75 = .ok (.iload_n 2, 1) := by decide +kernel
theorem dX4_findWords_76 : decode cX4_findWords 76 = .ok (.iconst 4, 1) := by decide +kernel
theorem dX4_findWords_77 : decode cX4_findWords 77 = .ok (.if_icmp .ge 36, 3) := by decide +kernel
theorem dX4_findWords_80 : decode cX4_findWords 80 = .ok (.aload_n 0, 1) := by decide +kernel
theorem dX4_findWords_81 : decode cX4_findWords 81 = .ok (.getfield 9, 3) := by decide +kernel
theorem dX4_findWords_84 : decode cX4_findWords 84 = .ok (.iload_n 2, 1) := by decide +kernel
theorem dX4_findWords_85 : decode cX4_findWords 85 = .ok (.bipush 26, 2) := by decide +kernel
theorem dX4_findWords_87 : decode cX4_findWords 87 = .ok (.imul, 1) := by decide +kernel
theorem dX4_findWords_88 : decode cX4_findWords 88 = .ok (.aload_n 0, 1) := by decide +kernel
theorem dX4_findWords_89 : decode cX4_findWords 89 = .ok (.getfield 29, 3) := by decide +kernel
theorem dX4_findWords_92 : decode cX4_findWords 92 = .ok (.getfield 69, 3) := by decide +kernel
theorem dX4_findWords_95 : decode cX4_findWords 95 = .ok (.iload_n 1, 1) := by decide +kernel
theorem dX4_findWords_96 : decode cX4_findWords 96 = .ok (.aaload, 1) := by decide +kernel
theorem dX4_findWords_97 : decode cX4_findWords 97 = .ok (.iload_n 2, 1) := by decide +kernel
theorem dX4_findWords_98 : decode cX4_findWords 98 = .ok (.iaload, 1) := by decide +kernel
theorem dX4_findWords_99 : decode cX4_findWords 99 = .ok (.iadd, 1) := by decide +kernel
theorem dX4_findWords_100 : decode cX4_findWords 100 = .ok (.dup2, 1) := by decide +kernel
theorem dX4_findWords_101 : decode cX4_findWords 101 = .ok (.laload, 1) := by decide +kernel
theorem dX4_findWords_102 : decode cX4_findWords 102 = .ok (.lconst 1, 1) := by decide +kernel
theorem dX4_findWords_103 : decode cX4_findWords 103 = .ok (.iload_n 1, 1) := by decide +kernel
theorem dX4_findWords_104 : decode cX4_findWords 104 = .ok (.lshl, 1) := by decide +kernel
theorem dX4_findWords_105 : decode cX4_findWords 105 = .ok (.lor, 1) := by decide +kernel
theorem dX4_findWords_106 : decode cX4_findWords 106 = .ok (.lastore, 1) := by decide +kernel
theorem dX4_findWords_107 : decode cX4_findWords 107 = .ok (.iinc 2 1, 3) := by decide +kernel
theorem dX4_findWords_110 : decode cX4_findWords 110 = .ok (.goto (-43), 3) := by decide +kernel
theorem dX4_findWords_113 : decode cX4_findWords 113 = .ok (.iinc 1 1, 3) := by decide +kernel
theorem dX4_findWords_116 : decode cX4_findWords 116 = .ok (.goto (-101), 3) := by decide +kernel
theorem dX4_findWords_119 : decode cX4_findWords 119 = .ok (.return_, 1) := by decide +kernel
theorem dX4_keepSquare_0 : decode cX4_keepSquare 0 = .ok (.aload_n 0, 1) := by decide +kernel
theorem dX4_keepSquare_1 : decode cX4_keepSquare 1 = .ok (.getfield 39, 3) := by decide +kernel
theorem dX4_keepSquare_4 : decode cX4_keepSquare 4 = .ok (.ifCond .ne 17, 3) := by decide +kernel
theorem dX4_keepSquare_7 : decode cX4_keepSquare 7 = .ok (.aload_n 0, 1) := by decide +kernel
theorem dX4_keepSquare_8 : decode cX4_keepSquare 8 = .ok (.getfield 18, 3) := by decide +kernel
theorem dX4_keepSquare_11 : decode cX4_keepSquare 11 = .ok (.iconst 0, 1) := by decide +kernel
theorem dX4_keepSquare_12 : decode cX4_keepSquare 12 = .ok (.aload_n 0, 1) := by decide +kernel
theorem dX4_keepSquare_13 : decode cX4_keepSquare 13 = .ok (.getfield 22, 3) := by decide +kernel
theorem dX4_keepSquare_16 : decode cX4_keepSquare 16 = .ok (.iconst 0, 1) := by decide +kernel
theorem dX4_keepSquare_17 : decode cX4_keepSquare 17 = .ok (.iconst 4, 1) := by decide +kernel
theorem dX4_keepSquare_18 : decode cX4_keepSquare 18 = .ok (.invokestatic 84, 3) := by decide +kernel
theorem dX4_keepSquare_21 : decode cX4_keepSquare 21 = .ok (.aload_n 0, 1) := by decide +kernel
theorem dX4_keepSquare_22 : decode cX4_keepSquare 22 = .ok (.dup, 1) := by decide +kernel
theorem dX4_keepSquare_23 : decode cX4_keepSquare 23 = .ok (.getfield 39, 3) := by decide +kernel
theorem dX4_keepSquare_26 : decode cX4_keepSquare 26 = .ok (.iconst 1, 1) := by decide +kernel
theorem dX4_keepSquare_27 : decode cX4_keepSquare 27 = .ok (.iadd, 1) := by decide +kernel
theorem dX4_keepSquare_28 : decode cX4_keepSquare 28 = .ok (.putfield 39, 3) := by decide +kernel
theorem dX4_keepSquare_31 : decode cX4_keepSquare 31 = .ok (.return_, 1) := by decide +kernel
theorem dX4_keepsColumnsOpen_0 : decode cX4_keepsColumnsOpen 0 = .ok (.aload_n 0, 1) := by decide +kernel
theorem dX4_keepsColumnsOpen_1 : decode cX4_keepsColumnsOpen 1 = .ok (.getfield 29, 3) := by decide +kernel
theorem dX4_keepsColumnsOpen_4 : decode cX4_keepsColumnsOpen 4 = .ok (.getfield 69, 3) := by decide +kernel
theorem dX4_keepsColumnsOpen_7 : decode cX4_keepsColumnsOpen 7 = .ok (.iload_n 2, 1) := by decide +kernel
theorem dX4_keepsColumnsOpen_8 : decode cX4_keepsColumnsOpen 8 = .ok (.aaload, 1) := by decide +kernel
theorem dX4_keepsColumnsOpen_9 : decode cX4_keepsColumnsOpen 9 = .ok (.astore_n 3, 1) := by decide +kernel
theorem dX4_keepsColumnsOpen_10 : decode cX4_keepsColumnsOpen 10 = .ok (.iconst 0, 1) := by decide +kernel
theorem dX4_keepsColumnsOpen_11 : decode cX4_keepsColumnsOpen 11 = .ok (.istore 4, 2) := by decide +kernel
theorem dX4_keepsColumnsOpen_13 : decode cX4_keepsColumnsOpen 13 = .ok (.iload 4, 2) := by decide +kernel
theorem dX4_keepsColumnsOpen_15 : decode cX4_keepsColumnsOpen 15 = .ok (.aload_n 0, 1) := by decide +kernel
theorem dX4_keepsColumnsOpen_16 : decode cX4_keepsColumnsOpen 16 = .ok (.getfield 36, 3) := by decide +kernel
theorem dX4_keepsColumnsOpen_19 : decode cX4_keepsColumnsOpen 19 = .ok (.if_icmp .ge 61, 3) := by decide +kernel
theorem dX4_keepsColumnsOpen_22 : decode cX4_keepsColumnsOpen 22 = .ok (.aload_n 0, 1) := by decide +kernel
theorem dX4_keepsColumnsOpen_23 : decode cX4_keepsColumnsOpen 23 = .ok (.getfield 15, 3) := by decide +kernel
theorem dX4_keepsColumnsOpen_26 : decode cX4_keepsColumnsOpen 26 = .ok (.iload_n 1, 1) := by decide +kernel
theorem dX4_keepsColumnsOpen_27 : decode cX4_keepsColumnsOpen 27 = .ok (.iconst 4, 1) := by decide +kernel
theorem dX4_keepsColumnsOpen_28 : decode cX4_keepsColumnsOpen 28 = .ok (.imul, 1) := by decide +kernel
theorem dX4_keepsColumnsOpen_29 : decode cX4_keepsColumnsOpen 29 = .ok (.iload 4, 2) := by decide +kernel
theorem dX4_keepsColumnsOpen_31 : decode cX4_keepsColumnsOpen 31 = .ok (.iadd, 1) := by decide +kernel
theorem dX4_keepsColumnsOpen_32 : decode cX4_keepsColumnsOpen 32 = .ok (.laload, 1) := by decide +kernel
theorem dX4_keepsColumnsOpen_33 : decode cX4_keepsColumnsOpen 33 = .ok (.aload_n 0, 1) := by decide +kernel
theorem dX4_keepsColumnsOpen_34 : decode cX4_keepsColumnsOpen 34 = .ok (.getfield 9, 3) := by decide +kernel
theorem dX4_keepsColumnsOpen_37 : decode cX4_keepsColumnsOpen 37 = .ok (.iload_n 1, 1) := by decide +kernel
theorem dX4_keepsColumnsOpen_38 : decode cX4_keepsColumnsOpen 38 = .ok (.bipush 26, 2) := by decide +kernel
theorem dX4_keepsColumnsOpen_40 : decode cX4_keepsColumnsOpen 40 = .ok (.imul, 1) := by decide +kernel
theorem dX4_keepsColumnsOpen_41 : decode cX4_keepsColumnsOpen 41 = .ok (.aload_n 3, 1) := by decide +kernel
theorem dX4_keepsColumnsOpen_42 : decode cX4_keepsColumnsOpen 42 = .ok (.iload 4, 2) := by decide +kernel
theorem dX4_keepsColumnsOpen_44 : decode cX4_keepsColumnsOpen 44 = .ok (.iaload, 1) := by decide +kernel
theorem dX4_keepsColumnsOpen_45 : decode cX4_keepsColumnsOpen 45 = .ok (.iadd, 1) := by decide +kernel
theorem dX4_keepsColumnsOpen_46 : decode cX4_keepsColumnsOpen 46 = .ok (.laload, 1) := by decide +kernel
theorem dX4_keepsColumnsOpen_47 : decode cX4_keepsColumnsOpen 47 = .ok (.land, 1) := by decide +kernel
theorem dX4_keepsColumnsOpen_48 : decode cX4_keepsColumnsOpen 48 = .ok (.lstore 5, 2) := by decide +kernel
theorem dX4_keepsColumnsOpen_50 : decode cX4_keepsColumnsOpen 50 = .ok (.lload 5, 2) := by decide +kernel
theorem dX4_keepsColumnsOpen_52 : decode cX4_keepsColumnsOpen 52 = .ok (.lconst 0, 1) := by decide +kernel
theorem dX4_keepsColumnsOpen_53 : decode cX4_keepsColumnsOpen 53 = .ok (.lcmp, 1) := by decide +kernel
theorem dX4_keepsColumnsOpen_54 : decode cX4_keepsColumnsOpen 54 = .ok (.ifCond .ne 5, 3) := by decide +kernel
theorem dX4_keepsColumnsOpen_57 : decode cX4_keepsColumnsOpen 57 = .ok (.iconst 0, 1) := by decide +kernel
theorem dX4_keepsColumnsOpen_58 : decode cX4_keepsColumnsOpen 58 = .ok (.ireturn, 1) := by decide +kernel
theorem dX4_keepsColumnsOpen_59 : decode cX4_keepsColumnsOpen 59 = .ok (.aload_n 0, 1) := by decide +kernel
theorem dX4_keepsColumnsOpen_60 : decode cX4_keepsColumnsOpen 60 = .ok (.getfield 15, 3) := by decide +kernel
theorem dX4_keepsColumnsOpen_63 : decode cX4_keepsColumnsOpen 63 = .ok (.iload_n 1, 1) := by decide +kernel
theorem dX4_keepsColumnsOpen_64 : decode cX4_keepsColumnsOpen 64 = .ok (.iconst 1, 1) := by decide +kernel
theorem dX4_keepsColumnsOpen_65 : decode cX4_keepsColumnsOpen 65 = .ok (.iadd, 1) := by decide +kernel
theorem dX4_keepsColumnsOpen_66 : decode cX4_keepsColumnsOpen 66 = .ok (.iconst 4, 1) := by decide +kernel
theorem dX4_keepsColumnsOpen_67 : decode cX4_keepsColumnsOpen 67 = .ok (.imul, 1) := by decide +kernel
theorem dX4_keepsColumnsOpen_68 : decode cX4_keepsColumnsOpen 68 = .ok (.iload 4, 2) := by decide +kernel
theorem dX4_keepsColumnsOpen_70 : decode cX4_keepsColumnsOpen 70 = .ok (.iadd, 1) := by decide +kernel
theorem dX4_keepsColumnsOpen_71 : decode cX4_keepsColumnsOpen 71 = .ok (.lload 5, 2) := by decide +kernel
theorem dX4_keepsColumnsOpen_73 : decode cX4_keepsColumnsOpen 73 = .ok (.lastore, 1) := by decide +kernel
theorem dX4_keepsColumnsOpen_74 : decode cX4_keepsColumnsOpen 74 = .ok (.iinc 4 1, 3) := by decide +kernel
theorem dX4_keepsColumnsOpen_77 : decode cX4_keepsColumnsOpen 77 = .ok (.goto (-64), 3) := by decide +kernel
theorem dX4_keepsColumnsOpen_80 : decode cX4_keepsColumnsOpen 80 = .ok (.iconst 1, 1) := by decide +kernel
theorem dX4_keepsColumnsOpen_81 : decode cX4_keepsColumnsOpen 81 = .ok (.ireturn, 1) := by decide +kernel
theorem dX4_putRow_0 : decode cX4_putRow 0 = .ok (.iload_n 1, 1) := by decide +kernel
theorem dX4_putRow_1 : decode cX4_putRow 1 = .ok (.aload_n 0, 1) := by decide +kernel
theorem dX4_putRow_2 : decode cX4_putRow 2 = .ok (.getfield 36, 3) := by decide +kernel
theorem dX4_putRow_5 : decode cX4_putRow 5 = .ok (.if_icmp .ge 8, 3) := by decide +kernel
theorem dX4_putRow_8 : decode cX4_putRow 8 = .ok (.iload_n 1, 1) := by decide +kernel
theorem dX4_putRow_9 : decode cX4_putRow 9 = .ok (.iconst 4, 1) := by decide +kernel
theorem dX4_putRow_10 : decode cX4_putRow 10 = .ok (.if_icmp .lt 8, 3) := by decide +kernel
theorem dX4_putRow_13 : decode cX4_putRow 13 = .ok (.aload_n 0, 1) := by decide +kernel
theorem dX4_putRow_14 : decode cX4_putRow 14 = .ok (.invokevirtual 73, 3) := by decide +kernel
theorem dX4_putRow_17 : decode cX4_putRow 17 = .ok (.return_, 1) := by decide +kernel
theorem dX4_putRow_18 : decode cX4_putRow 18 = .ok (.iconst 0, 1) := by decide +kernel
theorem dX4_putRow_19 : decode cX4_putRow 19 = .ok (.istore_n 2, 1) := by decide +kernel
theorem dX4_putRow_20 : decode cX4_putRow 20 = .ok (.iload_n 2, 1) := by decide +kernel
theorem dX4_putRow_21 : decode cX4_putRow 21 = .ok (.aload_n 0, 1) := by decide +kernel
theorem dX4_putRow_22 : decode cX4_putRow 22 = .ok (.getfield 29, 3) := by decide +kernel
theorem dX4_putRow_25 : decode cX4_putRow 25 = .ok (.getfield 59, 3) := by decide +kernel
theorem dX4_putRow_28 : decode cX4_putRow 28 = .ok (.if_icmp .ge 28, 3) := by decide +kernel
theorem dX4_putRow_31 : decode cX4_putRow 31 = .ok (.aload_n 0, 1) := by decide +kernel
theorem dX4_putRow_32 : decode cX4_putRow 32 = .ok (.getfield 45, 3) := by decide +kernel
theorem dX4_putRow_35 : decode cX4_putRow 35 = .ok (.iload_n 2, 1) := by decide +kernel
theorem dX4_putRow_36 : decode cX4_putRow 36 = .ok (.lushr, 1) := by decide +kernel
theorem dX4_putRow_37 : decode cX4_putRow 37 = .ok (.lconst 1, 1) := by decide +kernel
theorem dX4_putRow_38 : decode cX4_putRow 38 = .ok (.land, 1) := by decide +kernel
theorem dX4_putRow_39 : decode cX4_putRow 39 = .ok (.lconst 0, 1) := by decide +kernel
theorem dX4_putRow_40 : decode cX4_putRow 40 = .ok (.lcmp, 1) := by decide +kernel
theorem dX4_putRow_41 : decode cX4_putRow 41 = .ok (.ifCond .eq 9, 3) := by decide +kernel
theorem dX4_putRow_44 : decode cX4_putRow 44 = .ok (.aload_n 0, 1) := by decide +kernel
theorem dX4_putRow_45 : decode cX4_putRow 45 = .ok (.iload_n 1, 1) := by decide +kernel
theorem dX4_putRow_46 : decode cX4_putRow 46 = .ok (.iload_n 2, 1) := by decide +kernel
theorem dX4_putRow_47 : decode cX4_putRow 47 = .ok (.invokevirtual 76, 3) := by decide +kernel
theorem dX4_putRow_50 : decode cX4_putRow 50 = .ok (.iinc 2 1, 3) := by decide +kernel
theorem dX4_putRow_53 : decode cX4_putRow 53 = .ok (.goto (-33), 3) := by decide +kernel
theorem dX4_putRow_56 : decode cX4_putRow 56 = .ok (.return_, 1) := by decide +kernel
theorem dX4_refresh_0 : decode cX4_refresh 0 = .ok (.aload_n 0, 1) := by decide +kernel
theorem dX4_refresh_1 : decode cX4_refresh 1 = .ok (.getfield 25, 3) := by decide +kernel
theorem dX4_refresh_4 : decode cX4_refresh 4 = .ok (.aload_n 0, 1) := by decide +kernel
theorem dX4_refresh_5 : decode cX4_refresh 5 = .ok (.getfield 29, 3) := by decide +kernel
theorem dX4_refresh_8 : decode cX4_refresh 8 = .ok (.getfield 33, 3) := by decide +kernel
theorem dX4_refresh_11 : decode cX4_refresh 11 = .ok (.if_icmp .ne 12, 3) := by decide +kernel
theorem dX4_refresh_14 : decode cX4_refresh 14 = .ok (.aload_n 0, 1) := by decide +kernel
theorem dX4_refresh_15 : decode cX4_refresh 15 = .ok (.getfield 36, 3) := by decide +kernel
theorem dX4_refresh_18 : decode cX4_refresh 18 = .ok (.iload_n 1, 1) := by decide +kernel
theorem dX4_refresh_19 : decode cX4_refresh 19 = .ok (.if_icmp .ne 4, 3) := by decide +kernel
theorem dX4_refresh_22 : decode cX4_refresh 22 = .ok (.return_, 1) := by decide +kernel
theorem dX4_refresh_23 : decode cX4_refresh 23 = .ok (.aload_n 0, 1) := by decide +kernel
theorem dX4_refresh_24 : decode cX4_refresh 24 = .ok (.aload_n 0, 1) := by decide +kernel
theorem dX4_refresh_25 : decode cX4_refresh 25 = .ok (.getfield 29, 3) := by decide +kernel
theorem dX4_refresh_28 : decode cX4_refresh 28 = .ok (.getfield 33, 3) := by decide +kernel
theorem dX4_refresh_31 : decode cX4_refresh 31 = .ok (.putfield 25, 3) := by decide +kernel
theorem dX4_refresh_34 : decode cX4_refresh 34 = .ok (.aload_n 0, 1) := by decide +kernel
theorem dX4_refresh_35 : decode cX4_refresh 35 = .ok (.iload_n 1, 1) := by decide +kernel
theorem dX4_refresh_36 : decode cX4_refresh 36 = .ok (.putfield 36, 3) := by decide +kernel
theorem dX4_refresh_39 : decode cX4_refresh 39 = .ok (.aload_n 0, 1) := by decide +kernel
theorem dX4_refresh_40 : decode cX4_refresh 40 = .ok (.iconst 0, 1) := by decide +kernel
theorem dX4_refresh_41 : decode cX4_refresh 41 = .ok (.putfield 39, 3) := by decide +kernel
theorem dX4_refresh_44 : decode cX4_refresh 44 = .ok (.aload_n 0, 1) := by decide +kernel
theorem dX4_refresh_45 : decode cX4_refresh 45 = .ok (.invokevirtual 42, 3) := by decide +kernel
theorem dX4_refresh_48 : decode cX4_refresh 48 = .ok (.iconst 0, 1) := by decide +kernel
theorem dX4_refresh_49 : decode cX4_refresh 49 = .ok (.istore_n 2, 1) := by decide +kernel
theorem dX4_refresh_50 : decode cX4_refresh 50 = .ok (.iload_n 2, 1) := by decide +kernel
theorem dX4_refresh_51 : decode cX4_refresh 51 = .ok (.aload_n 0, 1) := by decide +kernel
theorem dX4_refresh_52 : decode cX4_refresh 52 = .ok (.getfield 36, 3) := by decide +kernel
theorem dX4_refresh_55 : decode cX4_refresh 55 = .ok (.if_icmp .ge 19, 3) := by decide +kernel
theorem dX4_refresh_58 : decode cX4_refresh 58 = .ok (.aload_n 0, 1) := by decide +kernel
theorem dX4_refresh_59 : decode cX4_refresh 59 = .ok (.getfield 15, 3) := by decide +kernel
theorem dX4_refresh_62 : decode cX4_refresh 62 = .ok (.iload_n 2, 1) := by decide +kernel
theorem dX4_refresh_63 : decode cX4_refresh 63 = .ok (.aload_n 0, 1) := by decide +kernel
theorem dX4_refresh_64 : decode cX4_refresh 64 = .ok (.getfield 45, 3) := by decide +kernel
theorem dX4_refresh_67 : decode cX4_refresh 67 = .ok (.lastore, 1) := by decide +kernel
theorem dX4_refresh_68 : decode cX4_refresh 68 = .ok (.iinc 2 1, 3) := by decide +kernel
theorem dX4_refresh_71 : decode cX4_refresh 71 = .ok (.goto (-21), 3) := by decide +kernel
theorem dX4_refresh_74 : decode cX4_refresh 74 = .ok (.aload_n 0, 1) := by decide +kernel
theorem dX4_refresh_75 : decode cX4_refresh 75 = .ok (.iconst 0, 1) := by decide +kernel
theorem dX4_refresh_76 : decode cX4_refresh 76 = .ok (.invokevirtual 49, 3) := by decide +kernel
theorem dX4_refresh_79 : decode cX4_refresh 79 = .ok (.return_, 1) := by decide +kernel
theorem dX4_tryRow_0 : decode cX4_tryRow 0 = .ok (.aload_n 0, 1) := by decide +kernel
theorem dX4_tryRow_1 : decode cX4_tryRow 1 = .ok (.iload_n 1, 1) := by decide +kernel
theorem dX4_tryRow_2 : decode cX4_tryRow 2 = .ok (.iload_n 2, 1) := by decide +kernel
theorem dX4_tryRow_3 : decode cX4_tryRow 3 = .ok (.invokevirtual 80, 3) := by decide +kernel
theorem dX4_tryRow_6 : decode cX4_tryRow 6 = .ok (.ifCond .eq 17, 3) := by decide +kernel
theorem dX4_tryRow_9 : decode cX4_tryRow 9 = .ok (.aload_n 0, 1) := by decide +kernel
theorem dX4_tryRow_10 : decode cX4_tryRow 10 = .ok (.getfield 18, 3) := by decide +kernel
theorem dX4_tryRow_13 : decode cX4_tryRow 13 = .ok (.iload_n 1, 1) := by decide +kernel
theorem dX4_tryRow_14 : decode cX4_tryRow 14 = .ok (.iload_n 2, 1) := by decide +kernel
theorem dX4_tryRow_15 : decode cX4_tryRow 15 = .ok (.iastore, 1) := by decide +kernel
theorem dX4_tryRow_16 : decode cX4_tryRow 16 = .ok (.aload_n 0, 1) := by decide +kernel
theorem dX4_tryRow_17 : decode cX4_tryRow 17 = .ok (.iload_n 1, 1) := by decide +kernel
theorem dX4_tryRow_18 : decode cX4_tryRow 18 = .ok (.iconst 1, 1) := by decide +kernel
theorem dX4_tryRow_19 : decode cX4_tryRow 19 = .ok (.iadd, 1) := by decide +kernel
theorem dX4_tryRow_20 : decode cX4_tryRow 20 = .ok (.invokevirtual 49, 3) := by decide +kernel
theorem dX4_tryRow_23 : decode cX4_tryRow 23 = .ok (.return_, 1) := by decide +kernel
theorem dX5_alikeAhead_0 : decode cX5_alikeAhead 0 = .ok (.iconst 0, 1) := by decide +kernel
theorem dX5_alikeAhead_1 : decode cX5_alikeAhead 1 = .ok (.istore_n 3, 1) := by decide +kernel
theorem dX5_alikeAhead_2 : decode cX5_alikeAhead 2 = .ok (.iload_n 3, 1) := by decide +kernel
theorem dX5_alikeAhead_3 : decode cX5_alikeAhead 3 = .ok (.iload_n 2, 1) := by decide +kernel
theorem dX5_alikeAhead_4 : decode cX5_alikeAhead 4 = .ok (.if_icmp .ge 24, 3) := by decide +kernel
theorem dX5_alikeAhead_7 : decode cX5_alikeAhead 7 = .ok (.iload_n 3, 1) := by decide +kernel
theorem dX5_alikeAhead_8 : decode cX5_alikeAhead 8 = .ok (.bipush 8, 2) := by decide +kernel
theorem dX5_alikeAhead_10 : decode cX5_alikeAhead 10 = .ok (.if_icmp .ge 18, 3) := by decide +kernel
theorem dX5_alikeAhead_13 : decode cX5_alikeAhead 13 = .ok (.aload_n 0, 1) := by decide +kernel
theorem dX5_alikeAhead_14 : decode cX5_alikeAhead 14 = .ok (.iload_n 3, 1) := by decide +kernel
theorem dX5_alikeAhead_15 : decode cX5_alikeAhead 15 = .ok (.iaload, 1) := by decide +kernel
theorem dX5_alikeAhead_16 : decode cX5_alikeAhead 16 = .ok (.aload_n 1, 1) := by decide +kernel
theorem dX5_alikeAhead_17 : decode cX5_alikeAhead 17 = .ok (.iload_n 3, 1) := by decide +kernel
theorem dX5_alikeAhead_18 : decode cX5_alikeAhead 18 = .ok (.iaload, 1) := by decide +kernel
theorem dX5_alikeAhead_19 : decode cX5_alikeAhead 19 = .ok (.if_icmp .ne 9, 3) := by decide +kernel
theorem dX5_alikeAhead_22 : decode cX5_alikeAhead 22 = .ok (.iinc 3 1, 3) := by decide +kernel
theorem dX5_alikeAhead_25 : decode cX5_alikeAhead 25 = .ok (.goto (-23), 3) := by decide +kernel
theorem dX5_alikeAhead_28 : decode cX5_alikeAhead 28 = .ok (.iload_n 3, 1) := by decide +kernel
theorem dX5_alikeAhead_29 : decode cX5_alikeAhead 29 = .ok (.ireturn, 1) := by decide +kernel
theorem dX5_alikeBehind_0 : decode cX5_alikeBehind 0 = .ok (.aload_n 0, 1) := by decide +kernel
theorem dX5_alikeBehind_1 : decode cX5_alikeBehind 1 = .ok (.getfield 39, 3) := by decide +kernel
theorem dX5_alikeBehind_4 : decode cX5_alikeBehind 4 = .ok (.getfield 56, 3) := by decide +kernel
theorem dX5_alikeBehind_7 : decode cX5_alikeBehind 7 = .ok (.iload_n 1, 1) := by decide +kernel
theorem dX5_alikeBehind_8 : decode cX5_alikeBehind 8 = .ok (.iaload, 1) := by decide +kernel
theorem dX5_alikeBehind_9 : decode cX5_alikeBehind 9 = .ok (.iconst 1, 1) := by decide +kernel
theorem dX5_alikeBehind_10 : decode cX5_alikeBehind 10 = .ok (.isub, 1) := by decide +kernel
theorem dX5_alikeBehind_11 : decode cX5_alikeBehind 11 = .ok (.istore 4, 2) := by decide +kernel
theorem dX5_alikeBehind_13 : decode cX5_alikeBehind 13 = .ok (.aload_n 0, 1) := by decide +kernel
theorem dX5_alikeBehind_14 : decode cX5_alikeBehind 14 = .ok (.getfield 39, 3) := by decide +kernel
theorem dX5_alikeBehind_17 : decode cX5_alikeBehind 17 = .ok (.getfield 56, 3) := by decide +kernel
theorem dX5_alikeBehind_20 : decode cX5_alikeBehind 20 = .ok (.iload_n 2, 1) := by decide +kernel
theorem dX5_alikeBehind_21 : decode cX5_alikeBehind 21 = .ok (.iaload, 1) := by decide +kernel
theorem dX5_alikeBehind_22 : decode cX5_alikeBehind 22 = .ok (.iconst 1, 1) := by decide +kernel
theorem dX5_alikeBehind_23 : decode cX5_alikeBehind 23 = .ok (.isub, 1) := by decide +kernel
theorem dX5_alikeBehind_24 : decode cX5_alikeBehind 24 = .ok (.istore 5, 2) := by decide +kernel
theorem dX5_alikeBehind_26 : decode cX5_alikeBehind 26 = .ok (.iconst 0, 1) := by decide +kernel
theorem dX5_alikeBehind_27 : decode cX5_alikeBehind 27 = .ok (.istore 6, 2) := by decide +kernel
theorem dX5_alikeBehind_29 : decode cX5_alikeBehind 29 = .ok (.iload 6, 2) := by decide +kernel
theorem dX5_alikeBehind_31 : decode cX5_alikeBehind 31 = .ok (.iload_n 3, 1) := by decide +kernel
theorem dX5_alikeBehind_32 : decode cX5_alikeBehind 32 = .ok (.if_icmp .ge 56, 3) := by decide +kernel
theorem dX5_alikeBehind_35 : decode cX5_alikeBehind 35 = .ok (.iload 6, 2) := by decide +kernel
theorem dX5_alikeBehind_37 : decode cX5_alikeBehind 37 = .ok (.iload 4, 2) := by decide +kernel
theorem dX5_alikeBehind_39 : decode cX5_alikeBehind 39 = .ok (.if_icmp .gt 49, 3) := by decide +kernel
theorem dX5_alikeBehind_42 : decode cX5_alikeBehind 42 = .ok (.iload 6, 2) := by decide +kernel
theorem dX5_alikeBehind_44 : decode cX5_alikeBehind 44 = .ok (.iload 5, 2) := by decide +kernel
theorem dX5_alikeBehind_46 : decode cX5_alikeBehind 46 = .ok (.if_icmp .gt 42, 3) := by decide +kernel
theorem dX5_alikeBehind_49 : decode cX5_alikeBehind 49 = .ok (.aload_n 0, 1) := by decide +kernel
theorem dX5_alikeBehind_50 : decode cX5_alikeBehind 50 = .ok (.getfield 39, 3) := by decide +kernel
theorem dX5_alikeBehind_53 : decode cX5_alikeBehind 53 = .ok (.getfield 67, 3) := by decide +kernel
theorem dX5_alikeBehind_56 : decode cX5_alikeBehind 56 = .ok (.iload_n 1, 1) := by decide +kernel
theorem dX5_alikeBehind_57 : decode cX5_alikeBehind 57 = .ok (.aaload, 1) := by decide +kernel
theorem dX5_alikeBehind_58 : decode cX5_alikeBehind 58 = .ok (.iload 4, 2) := by decide +kernel
theorem dX5_alikeBehind_60 : decode cX5_alikeBehind 60 = .ok (.iload 6, 2) := by decide +kernel
theorem dX5_alikeBehind_62 : decode cX5_alikeBehind 62 = .ok (.isub, 1) := by decide +kernel
theorem dX5_alikeBehind_63 : decode cX5_alikeBehind 63 = .ok (.iaload, 1) := by decide +kernel
theorem dX5_alikeBehind_64 : decode cX5_alikeBehind 64 = .ok (.aload_n 0, 1) := by decide +kernel
theorem dX5_alikeBehind_65 : decode cX5_alikeBehind 65 = .ok (.getfield 39, 3) := by decide +kernel
theorem dX5_alikeBehind_68 : decode cX5_alikeBehind 68 = .ok (.getfield 67, 3) := by decide +kernel
theorem dX5_alikeBehind_71 : decode cX5_alikeBehind 71 = .ok (.iload_n 2, 1) := by decide +kernel
theorem dX5_alikeBehind_72 : decode cX5_alikeBehind 72 = .ok (.aaload, 1) := by decide +kernel
theorem dX5_alikeBehind_73 : decode cX5_alikeBehind 73 = .ok (.iload 5, 2) := by decide +kernel
theorem dX5_alikeBehind_75 : decode cX5_alikeBehind 75 = .ok (.iload 6, 2) := by decide +kernel
theorem dX5_alikeBehind_77 : decode cX5_alikeBehind 77 = .ok (.isub, 1) := by decide +kernel
theorem dX5_alikeBehind_78 : decode cX5_alikeBehind 78 = .ok (.iaload, 1) := by decide +kernel
theorem dX5_alikeBehind_79 : decode cX5_alikeBehind 79 = .ok (.if_icmp .ne 9, 3) := by decide +kernel
theorem dX5_alikeBehind_82 : decode cX5_alikeBehind 82 = .ok (.iinc 6 1, 3) := by decide +kernel
theorem dX5_alikeBehind_85 : decode cX5_alikeBehind 85 = .ok (.goto (-56), 3) := by decide +kernel
theorem dX5_alikeBehind_88 : decode cX5_alikeBehind 88 = .ok (.iload 6, 2) := by decide +kernel
theorem dX5_alikeBehind_90 : decode cX5_alikeBehind 90 = .ok (.ireturn, 1) := by decide +kernel
theorem dX5_costOf_0 : decode cX5_costOf 0 = .ok (.aload_n 0, 1) := by decide +kernel
theorem dX5_costOf_1 : decode cX5_costOf 1 = .ok (.getfield 39, 3) := by decide +kernel
theorem dX5_costOf_4 : decode cX5_costOf 4 = .ok (.iload_n 1, 1) := by decide +kernel
theorem dX5_costOf_5 : decode cX5_costOf 5 = .ok (.invokevirtual 118, 3) := by decide +kernel
theorem dX5_costOf_8 : decode cX5_costOf 8 = .ok (.ifCond .eq 25, 3) := by decide +kernel
theorem dX5_costOf_11 : decode cX5_costOf 11 = .ok (.aload_n 0, 1) := by decide +kernel
theorem dX5_costOf_12 : decode cX5_costOf 12 = .ok (.getfield 39, 3) := by decide +kernel
theorem dX5_costOf_15 : decode cX5_costOf 15 = .ok (.iload_n 2, 1) := by decide +kernel
theorem dX5_costOf_16 : decode cX5_costOf 16 = .ok (.invokevirtual 118, 3) := by decide +kernel
theorem dX5_costOf_19 : decode cX5_costOf 19 = .ok (.ifCond .eq 14, 3) := by decide +kernel
theorem dX5_costOf_22 : decode cX5_costOf 22 = .ok (.aload_n 0, 1) := by decide +kernel
theorem dX5_costOf_23 : decode cX5_costOf 23 = .ok (.getfield 22, 3) := by decide +kernel
theorem dX5_costOf_26 : decode cX5_costOf 26 = .ok (.iload_n 1, 1) := by decide +kernel
theorem dX5_costOf_27 : decode cX5_costOf 27 = .ok (.aaload, 1) := by decide +kernel
theorem dX5_costOf_28 : decode cX5_costOf 28 = .ok (.iload_n 2, 1) := by decide +kernel
theorem dX5_costOf_29 : decode cX5_costOf 29 = .ok (.iaload, 1) := by decide +kernel
theorem dX5_costOf_30 : decode cX5_costOf 30 = .ok (.goto 4, 3) := by decide +kernel
theorem dX5_costOf_33 : decode cX5_costOf 33 = .ok (.iconst 0, 1) := by decide +kernel
theorem dX5_costOf_34 : decode cX5_costOf 34 = .ok (.ireturn, 1) := by decide +kernel
theorem dX5_findChange_0 : decode cX5_findChange 0 = .ok (.aload_n 0, 1) := by decide +kernel
theorem dX5_findChange_1 : decode cX5_findChange 1 = .ok (.getfield 11, 3) := by decide +kernel
theorem dX5_findChange_4 : decode cX5_findChange 4 = .ok (.iload_n 1, 1) := by decide +kernel
theorem dX5_findChange_5 : decode cX5_findChange 5 = .ok (.aaload, 1) := by decide +kernel
theorem dX5_findChange_6 : decode cX5_findChange 6 = .ok (.iload_n 2, 1) := by decide +kernel
theorem dX5_findChange_7 : decode cX5_findChange 7 = .ok (.iconst (-1), 1) := by decide +kernel
theorem dX5_findChange_8 : decode cX5_findChange 8 = .ok (.iastore, 1) := by decide +kernel
theorem dX5_findChange_9 : decode cX5_findChange 9 = .ok (.aload_n 0, 1) := by decide +kernel
theorem dX5_findChange_10 : decode cX5_findChange 10 = .ok (.getfield 39, 3) := by decide +kernel
theorem dX5_findChange_13 : decode cX5_findChange 13 = .ok (.getfield 56, 3) := by decide +kernel
theorem dX5_findChange_16 : decode cX5_findChange 16 = .ok (.iload_n 2, 1) := by decide +kernel
theorem dX5_findChange_17 : decode cX5_findChange 17 = .ok (.iaload, 1) := by decide +kernel
theorem dX5_findChange_18 : decode cX5_findChange 18 = .ok (.aload_n 0, 1) := by decide +kernel
theorem dX5_findChange_19 : decode cX5_findChange 19 = .ok (.getfield 39, 3) := by decide +kernel
theorem dX5_findChange_22 : decode cX5_findChange 22 = .ok (.getfield 56, 3) := by decide +kernel
theorem dX5_findChange_25 : decode cX5_findChange 25 = .ok (.iload_n 1, 1) := by decide +kernel
theorem dX5_findChange_26 : decode cX5_findChange 26 = .ok (.iaload, 1) := by decide +kernel
theorem dX5_findChange_27 : decode cX5_findChange 27 = .ok (.isub, 1) := by decide +kernel
theorem dX5_findChange_28 : decode cX5_findChange 28 = .ok (.istore_n 3, 1) := by decide +kernel
theorem dX5_findChange_29 : decode cX5_findChange 29 = .ok (.iload_n 3, 1) := by decide +kernel
theorem dX5_findChange_30 : decode cX5_findChange 30 = .ok (.ifCond .ne 12, 3) := by decide +kernel
theorem dX5_findChange_33 : decode cX5_findChange 33 = .ok (.aload_n 0, 1) := by decide +kernel
theorem dX5_findChange_34 : decode cX5_findChange 34 = .ok (.iload_n 1, 1) := by decide +kernel
theorem dX5_findChange_35 : decode cX5_findChange 35 = .ok (.iload_n 2, 1) := by decide +kernel
theorem dX5_findChange_36 : decode cX5_findChange 36 = .ok (.invokevirtual 60, 3) := by decide +kernel
theorem dX5_findChange_39 : decode cX5_findChange 39 = .ok (.goto 20, 3) := by decide +kernel
theorem dX5_findChange_42 : decode cX5_findChange 42 = .ok (.iload_n 3, 1) := by decide +kernel
theorem dX5_findChange_43 : decode cX5_findChange 43 = .ok (.iconst 1, 1) := by decide +kernel
theorem dX5_findChange_44 : decode cX5_findChange 44 = .ok (.if_icmp .eq 8, 3) := by decide +kernel
theorem dX5_findChange_47 : decode cX5_findChange 47 = .ok (.iload_n 3, 1) := by decide +kernel
theorem dX5_findChange_48 : decode cX5_findChange 48 = .ok (.iconst (-1), 1) := by decide +kernel
theorem dX5_findChange_49 : decode cX5_findChange 49 = .ok (.if_icmp .ne 10, 3) := by decide +kernel
theorem dX5_findChange_52 : decode cX5_findChange 52 = .ok (.aload_n 0, 1) := by decide +kernel
theorem dX5_findChange_53 : decode cX5_findChange 53 = .ok (.iload_n 1, 1) := by decide +kernel
theorem dX5_findChange_54 : decode cX5_findChange 54 = .ok (.iload_n 2, 1) := by decide +kernel
theorem dX5_findChange_55 : decode cX5_findChange 55 = .ok (.iload_n 3, 1) := by decide +kernel
theorem dX5_findChange_56 : decode cX5_findChange 56 = .ok (.invokevirtual 63, 3) := by decide +kernel
theorem dX5_findChange_59 : decode cX5_findChange 59 = .ok (.return_, 1) := by decide +kernel
theorem dX5_findChangeOfLength_0 : decode cX5_findChangeOfLength 0 = .ok (.aload_n 0, 1) := by decide +kernel
theorem dX5_findChangeOfLength_1 : decode cX5_findChangeOfLength 1 = .ok (.getfield 39, 3) := by decide +kernel
theorem dX5_findChangeOfLength_4 : decode cX5_findChangeOfLength 4 = .ok (.getfield 56, 3) := by decide +kernel
theorem dX5_findChangeOfLength_7 : decode cX5_findChangeOfLength 7 = .ok (.iload_n 1, 1) := by decide +kernel
theorem dX5_findChangeOfLength_8 : decode cX5_findChangeOfLength 8 = .ok (.iaload, 1) := by decide +kernel
theorem dX5_findChangeOfLength_9 : decode cX5_findChangeOfLength 9 = .ok (.aload_n 0, 1) := by decide +kernel
theorem dX5_findChangeOfLength_10 : decode cX5_findChangeOfLength 10 = .ok (.getfield 39, 3) := by decide +kernel
theorem dX5_findChangeOfLength_13 : decode cX5_findChangeOfLength 13 = .ok (.getfield 56, 3) := by decide +kernel
theorem dX5_findChangeOfLength_16 : decode cX5_findChangeOfLength 16 = .ok (.iload_n 2, 1) := by decide +kernel
theorem dX5_findChangeOfLength_17 : decode cX5_findChangeOfLength 17 = .ok (.iaload, 1) := by decide +kernel
theorem dX5_findChangeOfLength_18 : decode cX5_findChangeOfLength 18 = .ok (.invokestatic 82, 3) := by decide +kernel
theorem dX5_findChangeOfLength_21 : decode cX5_findChangeOfLength 21 = .ok (.istore 4, 2) := by decide +kernel
theorem dX5_findChangeOfLength_23 : decode cX5_findChangeOfLength 23 = .ok (.aload_n 0, 1) := by decide +kernel
theorem dX5_findChangeOfLength_24 : decode cX5_findChangeOfLength 24 = .ok (.getfield 39, 3) := by decide +kernel
theorem dX5_findChangeOfLength_27 : decode cX5_findChangeOfLength 27 = .ok (.getfield 67, 3) := by decide +kernel
theorem dX5_findChangeOfLength_30 : decode cX5_findChangeOfLength 30 = .ok (.iload_n 1, 1) := by decide +kernel
theorem dX5_findChangeOfLength_31 : decode cX5_findChangeOfLength 31 = .ok (.aaload, 1) := by decide +kernel
theorem dX5_findChangeOfLength_32 : decode cX5_findChangeOfLength 32 = .ok (.aload_n 0, 1) := by decide +kernel
theorem dX5_findChangeOfLength_33 : decode cX5_findChangeOfLength 33 = .ok (.getfield 39, 3) := by decide +kernel
theorem dX5_findChangeOfLength_36 : decode cX5_findChangeOfLength 36 = .ok (.getfield 67, 3) := by decide +kernel
theorem dX5_findChangeOfLength_39 : decode cX5_findChangeOfLength 39 = .ok (.iload_n 2, 1) := by decide +kernel
theorem dX5_findChangeOfLength_40 : decode cX5_findChangeOfLength 40 = .ok (.aaload, 1) := by decide +kernel
theorem dX5_findChangeOfLength_41 : decode cX5_findChangeOfLength 41 = .ok (.iload 4, 2) := by decide +kernel
theorem dX5_findChangeOfLength_43 : decode cX5_findChangeOfLength 43 = .ok (.invokestatic 70, 3) := by decide +kernel
theorem dX5_findChangeOfLength_46 : decode cX5_findChangeOfLength 46 = .ok (.istore 5, 2) := by decide +kernel
theorem dX5_findChangeOfLength_48 : decode cX5_findChangeOfLength 48 = .ok (.iload 4, 2) := by decide +kernel
theorem dX5_findChangeOfLength_50 : decode cX5_findChangeOfLength 50 = .ok (.aload_n 0, 1) := by decide +kernel
theorem dX5_findChangeOfLength_51 : decode cX5_findChangeOfLength 51 = .ok (.iload_n 1, 1) := by decide +kernel
theorem dX5_findChangeOfLength_52 : decode cX5_findChangeOfLength 52 = .ok (.iload_n 2, 1) := by decide +kernel
theorem dX5_findChangeOfLength_53 : decode cX5_findChangeOfLength 53 = .ok (.iload 4, 2) := by decide +kernel
theorem dX5_findChangeOfLength_55 : decode cX5_findChangeOfLength 55 = .ok (.invokevirtual 74, 3) := by decide +kernel
theorem dX5_findChangeOfLength_58 : decode cX5_findChangeOfLength 58 = .ok (.isub, 1) := by decide +kernel
theorem dX5_findChangeOfLength_59 : decode cX5_findChangeOfLength 59 = .ok (.istore 6, 2) := by decide +kernel
theorem dX5_findChangeOfLength_61 : decode cX5_findChangeOfLength 61 = .ok (.iload 6, 2) := by decide +kernel
theorem dX5_findChangeOfLength_63 : decode cX5_findChangeOfLength 63 = .ok (.iload 5, 2) := by decide +kernel
theorem dX5_findChangeOfLength_65 : decode cX5_findChangeOfLength 65 = .ok (.if_icmp .gt 23, 3) := by decide +kernel
theorem dX5_findChangeOfLength_68 : decode cX5_findChangeOfLength 68 = .ok (.aload_n 0, 1) := by decide +kernel
theorem dX5_findChangeOfLength_69 : decode cX5_findChangeOfLength 69 = .ok (.iload_n 1, 1) := by decide +kernel
theorem dX5_findChangeOfLength_70 : decode cX5_findChangeOfLength 70 = .ok (.iload_n 2, 1) := by decide +kernel
theorem dX5_findChangeOfLength_71 : decode cX5_findChangeOfLength 71 = .ok (.iload_n 3, 1) := by decide +kernel
theorem dX5_findChangeOfLength_72 : decode cX5_findChangeOfLength 72 = .ok (.iconst 1, 1) := by decide +kernel
theorem dX5_findChangeOfLength_73 : decode cX5_findChangeOfLength 73 = .ok (.if_icmp .ne 7, 3) := by decide +kernel
theorem dX5_findChangeOfLength_76 : decode cX5_findChangeOfLength 76 = .ok (.iconst 1, 1) := by decide +kernel
theorem dX5_findChangeOfLength_77 : decode cX5_findChangeOfLength 77 = .ok (.goto 4, 3) := by decide +kernel
theorem dX5_findChangeOfLength_80 : decode cX5_findChangeOfLength 80 = .ok (.iconst 2, 1) := by decide +kernel
theorem dX5_findChangeOfLength_81 : decode cX5_findChangeOfLength 81 = .ok (.iload 6, 2) := by decide +kernel
theorem dX5_findChangeOfLength_83 : decode cX5_findChangeOfLength 83 = .ok (.iload 5, 2) := by decide +kernel
theorem dX5_findChangeOfLength_85 : decode cX5_findChangeOfLength 85 = .ok (.invokevirtual 78, 3) := by decide +kernel
theorem dX5_findChangeOfLength_88 : decode cX5_findChangeOfLength 88 = .ok (.return_, 1) := by decide +kernel
theorem dX5_findChangeOfLike_0 : decode cX5_findChangeOfLike 0 = .ok (.aload_n 0, 1) := by decide +kernel
theorem dX5_findChangeOfLike_1 : decode cX5_findChangeOfLike 1 = .ok (.getfield 39, 3) := by decide +kernel
theorem dX5_findChangeOfLike_4 : decode cX5_findChangeOfLike 4 = .ok (.getfield 67, 3) := by decide +kernel
theorem dX5_findChangeOfLike_7 : decode cX5_findChangeOfLike 7 = .ok (.iload_n 1, 1) := by decide +kernel
theorem dX5_findChangeOfLike_8 : decode cX5_findChangeOfLike 8 = .ok (.aaload, 1) := by decide +kernel
theorem dX5_findChangeOfLike_9 : decode cX5_findChangeOfLike 9 = .ok (.astore_n 3, 1) := by decide +kernel
theorem dX5_findChangeOfLike_10 : decode cX5_findChangeOfLike 10 = .ok (.aload_n 0, 1) := by decide +kernel
theorem dX5_findChangeOfLike_11 : decode cX5_findChangeOfLike 11 = .ok (.getfield 39, 3) := by decide +kernel
theorem dX5_findChangeOfLike_14 : decode cX5_findChangeOfLike 14 = .ok (.getfield 67, 3) := by decide +kernel
theorem dX5_findChangeOfLike_17 : decode cX5_findChangeOfLike 17 = .ok (.iload_n 2, 1) := by decide +kernel
theorem dX5_findChangeOfLike_18 : decode cX5_findChangeOfLike 18 = .ok (.aaload, 1) := by decide +kernel
theorem dX5_findChangeOfLike_19 : decode cX5_findChangeOfLike 19 = .ok (.astore 4, 2) := by decide +kernel
theorem dX5_findChangeOfLike_21 : decode cX5_findChangeOfLike 21 = .ok (.aload_n 0, 1) := by decide +kernel
theorem dX5_findChangeOfLike_22 : decode cX5_findChangeOfLike 22 = .ok (.getfield 39, 3) := by decide +kernel
theorem dX5_findChangeOfLike_25 : decode cX5_findChangeOfLike 25 = .ok (.getfield 56, 3) := by decide +kernel
theorem dX5_findChangeOfLike_28 : decode cX5_findChangeOfLike 28 = .ok (.iload_n 1, 1) := by decide +kernel
theorem dX5_findChangeOfLike_29 : decode cX5_findChangeOfLike 29 = .ok (.iaload, 1) := by decide +kernel
theorem dX5_findChangeOfLike_30 : decode cX5_findChangeOfLike 30 = .ok (.istore 5, 2) := by decide +kernel
theorem dX5_findChangeOfLike_32 : decode cX5_findChangeOfLike 32 = .ok (.aload_n 3, 1) := by decide +kernel
theorem dX5_findChangeOfLike_33 : decode cX5_findChangeOfLike 33 = .ok (.aload 4, 2) := by decide +kernel
theorem dX5_findChangeOfLike_35 : decode cX5_findChangeOfLike 35 = .ok (.iload 5, 2) := by decide +kernel
theorem dX5_findChangeOfLike_37 : decode cX5_findChangeOfLike 37 = .ok (.invokestatic 70, 3) := by decide +kernel
theorem dX5_findChangeOfLike_40 : decode cX5_findChangeOfLike 40 = .ok (.istore 6, 2) := by decide +kernel
theorem dX5_findChangeOfLike_42 : decode cX5_findChangeOfLike 42 = .ok (.iload 5, 2) := by decide +kernel
theorem dX5_findChangeOfLike_44 : decode cX5_findChangeOfLike 44 = .ok (.iconst 1, 1) := by decide +kernel
theorem dX5_findChangeOfLike_45 : decode cX5_findChangeOfLike 45 = .ok (.isub, 1) := by decide +kernel
theorem dX5_findChangeOfLike_46 : decode cX5_findChangeOfLike 46 = .ok (.aload_n 0, 1) := by decide +kernel
theorem dX5_findChangeOfLike_47 : decode cX5_findChangeOfLike 47 = .ok (.iload_n 1, 1) := by decide +kernel
theorem dX5_findChangeOfLike_48 : decode cX5_findChangeOfLike 48 = .ok (.iload_n 2, 1) := by decide +kernel
theorem dX5_findChangeOfLike_49 : decode cX5_findChangeOfLike 49 = .ok (.iload 5, 2) := by decide +kernel
theorem dX5_findChangeOfLike_51 : decode cX5_findChangeOfLike 51 = .ok (.invokevirtual 74, 3) := by decide +kernel
theorem dX5_findChangeOfLike_54 : decode cX5_findChangeOfLike 54 = .ok (.isub, 1) := by decide +kernel
theorem dX5_findChangeOfLike_55 : decode cX5_findChangeOfLike 55 = .ok (.istore 7, 2) := by decide +kernel
theorem dX5_findChangeOfLike_57 : decode cX5_findChangeOfLike 57 = .ok (.iload 6, 2) := by decide +kernel
theorem dX5_findChangeOfLike_59 : decode cX5_findChangeOfLike 59 = .ok (.iload 7, 2) := by decide +kernel
theorem dX5_findChangeOfLike_61 : decode cX5_findChangeOfLike 61 = .ok (.if_icmp .ne 17, 3) := by decide +kernel
theorem dX5_findChangeOfLike_64 : decode cX5_findChangeOfLike 64 = .ok (.aload_n 0, 1) := by decide +kernel
theorem dX5_findChangeOfLike_65 : decode cX5_findChangeOfLike 65 = .ok (.iload_n 1, 1) := by decide +kernel
theorem dX5_findChangeOfLike_66 : decode cX5_findChangeOfLike 66 = .ok (.iload_n 2, 1) := by decide +kernel
theorem dX5_findChangeOfLike_67 : decode cX5_findChangeOfLike 67 = .ok (.iconst 0, 1) := by decide +kernel
theorem dX5_findChangeOfLike_68 : decode cX5_findChangeOfLike 68 = .ok (.iload 6, 2) := by decide +kernel
theorem dX5_findChangeOfLike_70 : decode cX5_findChangeOfLike 70 = .ok (.iload 6, 2) := by decide +kernel
theorem dX5_findChangeOfLike_72 : decode cX5_findChangeOfLike 72 = .ok (.invokevirtual 78, 3) := by decide +kernel
theorem dX5_findChangeOfLike_75 : decode cX5_findChangeOfLike 75 = .ok (.goto 47, 3) := by decide +kernel
theorem dX5_findChangeOfLike_78 : decode cX5_findChangeOfLike 78 = .ok (.iload 6, 2) := by decide +kernel
theorem dX5_findChangeOfLike_80 : decode cX5_findChangeOfLike 80 = .ok (.iconst 1, 1) := by decide +kernel
theorem dX5_findChangeOfLike_81 : decode cX5_findChangeOfLike 81 = .ok (.iadd, 1) := by decide +kernel
theorem dX5_findChangeOfLike_82 : decode cX5_findChangeOfLike 82 = .ok (.iload 7, 2) := by decide +kernel
theorem dX5_findChangeOfLike_84 : decode cX5_findChangeOfLike 84 = .ok (.if_icmp .ne 38, 3) := by decide +kernel
theorem dX5_findChangeOfLike_87 : decode cX5_findChangeOfLike 87 = .ok (.aload_n 3, 1) := by decide +kernel
theorem dX5_findChangeOfLike_88 : decode cX5_findChangeOfLike 88 = .ok (.iload 6, 2) := by decide +kernel
theorem dX5_findChangeOfLike_90 : decode cX5_findChangeOfLike 90 = .ok (.iaload, 1) := by decide +kernel
theorem dX5_findChangeOfLike_91 : decode cX5_findChangeOfLike 91 = .ok (.aload 4, 2) := by decide +kernel
theorem dX5_findChangeOfLike_93 : decode cX5_findChangeOfLike 93 = .ok (.iload 7, 2) := by decide +kernel
theorem dX5_findChangeOfLike_95 : decode cX5_findChangeOfLike 95 = .ok (.iaload, 1) := by decide +kernel
theorem dX5_findChangeOfLike_96 : decode cX5_findChangeOfLike 96 = .ok (.if_icmp .ne 26, 3) := by decide +kernel
theorem dX5_findChangeOfLike_99 : decode cX5_findChangeOfLike 99 = .ok (.aload_n 3, 1) := by decide +kernel
theorem dX5_findChangeOfLike_100 : decode cX5_findChangeOfLike 100 = .ok (.iload 7, 2) := by decide +kernel
theorem dX5_findChangeOfLike_102 : decode cX5_findChangeOfLike 102 = .ok (.iaload, 1) := by decide +kernel
theorem dX5_findChangeOfLike_103 : decode cX5_findChangeOfLike 103 = .ok (.aload 4, 2) := by decide +kernel
theorem dX5_findChangeOfLike_105 : decode cX5_findChangeOfLike 105 = .ok (.iload 6, 2) := by decide +kernel
theorem dX5_findChangeOfLike_107 : decode cX5_findChangeOfLike 107 = .ok (.iaload, 1) := by decide +kernel
theorem dX5_findChangeOfLike_108 : decode cX5_findChangeOfLike 108 = .ok (.if_icmp .ne 14, 3) := by decide +kernel
theorem dX5_findChangeOfLike_111 : decode cX5_findChangeOfLike 111 = .ok (.aload_n 0, 1) := by decide +kernel
theorem dX5_findChangeOfLike_112 : decode cX5_findChangeOfLike 112 = .ok (.iload_n 1, 1) := by decide +kernel
theorem dX5_findChangeOfLike_113 : decode cX5_findChangeOfLike 113 = .ok (.iload_n 2, 1) := by decide +kernel
theorem dX5_findChangeOfLike_114 : decode cX5_findChangeOfLike 114 = .ok (.iconst 3, 1) := by decide +kernel
theorem dX5_findChangeOfLike_115 : decode cX5_findChangeOfLike 115 = .ok (.iload 6, 2) := by decide +kernel
theorem dX5_findChangeOfLike_117 : decode cX5_findChangeOfLike 117 = .ok (.iload 6, 2) := by decide +kernel
theorem dX5_findChangeOfLike_119 : decode cX5_findChangeOfLike 119 = .ok (.invokevirtual 78, 3) := by decide +kernel
theorem dX5_findChangeOfLike_122 : decode cX5_findChangeOfLike 122 = .ok (.return_, 1) := by decide +kernel
theorem dX5_findCost_0 : decode cX5_findCost 0 = .ok (.aload_n 0, 1) := by decide +kernel
theorem dX5_findCost_1 : decode cX5_findCost 1 = .ok (.iload_n 1, 1) := by decide +kernel
theorem dX5_findCost_2 : decode cX5_findCost 2 = .ok (.iload_n 2, 1) := by decide +kernel
theorem dX5_findCost_3 : decode cX5_findCost 3 = .ok (.invokevirtual 102, 3) := by decide +kernel
theorem dX5_findCost_6 : decode cX5_findCost 6 = .ok (.aload_n 0, 1) := by decide +kernel
theorem dX5_findCost_7 : decode cX5_findCost 7 = .ok (.getfield 16, 3) := by decide +kernel
theorem dX5_findCost_10 : decode cX5_findCost 10 = .ok (.iload_n 1, 1) := by decide +kernel
theorem dX5_findCost_11 : decode cX5_findCost 11 = .ok (.aaload, 1) := by decide +kernel
theorem dX5_findCost_12 : decode cX5_findCost 12 = .ok (.iload_n 2, 1) := by decide +kernel
theorem dX5_findCost_13 : decode cX5_findCost 13 = .ok (.iaload, 1) := by decide +kernel
theorem dX5_findCost_14 : decode cX5_findCost 14 = .ok (.istore_n 3, 1) := by decide +kernel
theorem dX5_findCost_15 : decode cX5_findCost 15 = .ok (.iload_n 3, 1) := by decide +kernel
theorem dX5_findCost_16 : decode cX5_findCost 16 = .ok (.aload_n 0, 1) := by decide +kernel
theorem dX5_findCost_17 : decode cX5_findCost 17 = .ok (.getfield 19, 3) := by decide +kernel
theorem dX5_findCost_20 : decode cX5_findCost 20 = .ok (.iload_n 1, 1) := by decide +kernel
theorem dX5_findCost_21 : decode cX5_findCost 21 = .ok (.aaload, 1) := by decide +kernel
theorem dX5_findCost_22 : decode cX5_findCost 22 = .ok (.iload_n 2, 1) := by decide +kernel
theorem dX5_findCost_23 : decode cX5_findCost 23 = .ok (.iaload, 1) := by decide +kernel
theorem dX5_findCost_24 : decode cX5_findCost 24 = .ok (.if_icmp .gt 88, 3) := by decide +kernel
theorem dX5_findCost_27 : decode cX5_findCost 27 = .ok (.aload_n 0, 1) := by decide +kernel
theorem dX5_findCost_28 : decode cX5_findCost 28 = .ok (.getfield 43, 3) := by decide +kernel
theorem dX5_findCost_31 : decode cX5_findCost 31 = .ok (.getfield 105, 3) := by decide +kernel
theorem dX5_findCost_34 : decode cX5_findCost 34 = .ok (.iconst 1, 1) := by decide +kernel
theorem dX5_findCost_35 : decode cX5_findCost 35 = .ok (.iload_n 3, 1) := by decide +kernel
theorem dX5_findCost_36 : decode cX5_findCost 36 = .ok (.iastore, 1) := by decide +kernel
theorem dX5_findCost_37 : decode cX5_findCost 37 = .ok (.aload_n 0, 1) := by decide +kernel
theorem dX5_findCost_38 : decode cX5_findCost 38 = .ok (.getfield 43, 3) := by decide +kernel
theorem dX5_findCost_41 : decode cX5_findCost 41 = .ok (.invokevirtual 108, 3) := by decide +kernel
theorem dX5_findCost_44 : decode cX5_findCost 44 = .ok (.istore 4, 2) := by decide +kernel
theorem dX5_findCost_46 : decode cX5_findCost 46 = .ok (.iload 4, 2) := by decide +kernel
theorem dX5_findCost_48 : decode cX5_findCost 48 = .ok (.ifCond .eq 58, 3) := by decide +kernel
theorem dX5_findCost_51 : decode cX5_findCost 51 = .ok (.aload_n 0, 1) := by decide +kernel
theorem dX5_findCost_52 : decode cX5_findCost 52 = .ok (.getfield 22, 3) := by decide +kernel
theorem dX5_findCost_55 : decode cX5_findCost 55 = .ok (.iload_n 1, 1) := by decide +kernel
theorem dX5_findCost_56 : decode cX5_findCost 56 = .ok (.aaload, 1) := by decide +kernel
theorem dX5_findCost_57 : decode cX5_findCost 57 = .ok (.iload_n 2, 1) := by decide +kernel
theorem dX5_findCost_58 : decode cX5_findCost 58 = .ok (.iaload, 1) := by decide +kernel
theorem dX5_findCost_59 : decode cX5_findCost 59 = .ok (.ifCond .eq 16, 3) := by decide +kernel
theorem dX5_findCost_62 : decode cX5_findCost 62 = .ok (.iload 4, 2) := by decide +kernel
theorem dX5_findCost_64 : decode cX5_findCost 64 = .ok (.aload_n 0, 1) := by decide +kernel
theorem dX5_findCost_65 : decode cX5_findCost 65 = .ok (.getfield 22, 3) := by decide +kernel
theorem dX5_findCost_68 : decode cX5_findCost 68 = .ok (.iload_n 1, 1) := by decide +kernel
theorem dX5_findCost_69 : decode cX5_findCost 69 = .ok (.aaload, 1) := by decide +kernel
theorem dX5_findCost_70 : decode cX5_findCost 70 = .ok (.iload_n 2, 1) := by decide +kernel
theorem dX5_findCost_71 : decode cX5_findCost 71 = .ok (.iaload, 1) := by decide +kernel
theorem dX5_findCost_72 : decode cX5_findCost 72 = .ok (.if_icmp .ge 34, 3) := by decide +kernel
theorem dX5_findCost_75 : decode cX5_findCost 75 = .ok (.aload_n 0, 1) := by decide +kernel
theorem dX5_findCost_76 : decode cX5_findCost 76 = .ok (.getfield 22, 3) := by decide +kernel
theorem dX5_findCost_79 : decode cX5_findCost 79 = .ok (.iload_n 1, 1) := by decide +kernel
theorem dX5_findCost_80 : decode cX5_findCost 80 = .ok (.aaload, 1) := by decide +kernel
theorem dX5_findCost_81 : decode cX5_findCost 81 = .ok (.iload_n 2, 1) := by decide +kernel
theorem dX5_findCost_82 : decode cX5_findCost 82 = .ok (.iload 4, 2) := by decide +kernel
theorem dX5_findCost_84 : decode cX5_findCost 84 = .ok (.iastore, 1) := by decide +kernel
theorem dX5_findCost_85 : decode cX5_findCost 85 = .ok (.aload_n 0, 1) := by decide +kernel
theorem dX5_findCost_86 : decode cX5_findCost 86 = .ok (.getfield 25, 3) := by decide +kernel
theorem dX5_findCost_89 : decode cX5_findCost 89 = .ok (.iload_n 1, 1) := by decide +kernel
theorem dX5_findCost_90 : decode cX5_findCost 90 = .ok (.aaload, 1) := by decide +kernel
theorem dX5_findCost_91 : decode cX5_findCost 91 = .ok (.iload_n 2, 1) := by decide +kernel
theorem dX5_findCost_92 : decode cX5_findCost 92 = .ok (.iload_n 3, 1) := by decide +kernel
theorem dX5_findCost_93 : decode cX5_findCost 93 = .ok (.iastore, 1) := by decide +kernel
theorem dX5_findCost_94 : decode cX5_findCost 94 = .ok (.aload_n 0, 1) := by decide +kernel
theorem dX5_findCost_95 : decode cX5_findCost 95 = .ok (.getfield 28, 3) := by decide +kernel
theorem dX5_findCost_98 : decode cX5_findCost 98 = .ok (.iload_n 1, 1) := by decide +kernel
theorem dX5_findCost_99 : decode cX5_findCost 99 = .ok (.dup2, 1) := by decide +kernel
theorem dX5_findCost_100 : decode cX5_findCost 100 = .ok (.laload, 1) := by decide +kernel
theorem dX5_findCost_101 : decode cX5_findCost 101 = .ok (.lconst 1, 1) := by decide +kernel
theorem dX5_findCost_102 : decode cX5_findCost 102 = .ok (.iload_n 2, 1) := by decide +kernel
theorem dX5_findCost_103 : decode cX5_findCost 103 = .ok (.lshl, 1) := by decide +kernel
theorem dX5_findCost_104 : decode cX5_findCost 104 = .ok (.lor, 1) := by decide +kernel
theorem dX5_findCost_105 : decode cX5_findCost 105 = .ok (.lastore, 1) := by decide +kernel
theorem dX5_findCost_106 : decode cX5_findCost 106 = .ok (.iinc 3 1, 3) := by decide +kernel
theorem dX5_findCost_109 : decode cX5_findCost 109 = .ok (.goto (-94), 3) := by decide +kernel
theorem dX5_findCost_112 : decode cX5_findCost 112 = .ok (.return_, 1) := by decide +kernel
theorem dX5_goneTo_0 : decode cX5_goneTo 0 = .ok (.aload_n 0, 1) := by decide +kernel
theorem dX5_goneTo_1 : decode cX5_goneTo 1 = .ok (.getfield 28, 3) := by decide +kernel
theorem dX5_goneTo_4 : decode cX5_goneTo 4 = .ok (.iload_n 1, 1) := by decide +kernel
theorem dX5_goneTo_5 : decode cX5_goneTo 5 = .ok (.laload, 1) := by decide +kernel
theorem dX5_goneTo_6 : decode cX5_goneTo 6 = .ok (.invokestatic 121, 3) := by decide +kernel
theorem dX5_goneTo_9 : decode cX5_goneTo 9 = .ok (.istore_n 3, 1) := by decide +kernel
theorem dX5_goneTo_10 : decode cX5_goneTo 10 = .ok (.iload_n 3, 1) := by decide +kernel
theorem dX5_goneTo_11 : decode cX5_goneTo 11 = .ok (.ifCond .ne 5, 3) := by decide +kernel
theorem dX5_goneTo_14 : decode cX5_goneTo 14 = .ok (.iload_n 1, 1) := by decide +kernel
theorem dX5_goneTo_15 : decode cX5_goneTo 15 = .ok (.ireturn, 1) := by decide +kernel
theorem dX5_goneTo_16 : decode cX5_goneTo 16 = .ok (.iload_n 2, 1) := by decide +kernel
theorem dX5_goneTo_17 : decode cX5_goneTo 17 = .ok (.iload_n 3, 1) := by decide +kernel
theorem dX5_goneTo_18 : decode cX5_goneTo 18 = .ok (.irem, 1) := by decide +kernel
theorem dX5_goneTo_19 : decode cX5_goneTo 19 = .ok (.istore 4, 2) := by decide +kernel
theorem dX5_goneTo_21 : decode cX5_goneTo 21 = .ok (.iconst 0, 1) := by decide +kernel
theorem dX5_goneTo_22 : decode cX5_goneTo 22 = .ok (.istore 5, 2) := by decide +kernel
theorem dX5_goneTo_24 : decode cX5_goneTo 24 = .ok (.iload 5, 2) := by decide +kernel
theorem dX5_goneTo_26 : decode cX5_goneTo 26 = .ok (.aload_n 0, 1) := by decide +kernel
theorem dX5_goneTo_27 : decode cX5_goneTo 27 = .ok (.getfield 39, 3) := by decide +kernel
theorem dX5_goneTo_30 : decode cX5_goneTo 30 = .ok (.getfield 47, 3) := by decide +kernel
theorem dX5_goneTo_33 : decode cX5_goneTo 33 = .ok (.if_icmp .ge 30, 3) := by decide +kernel
theorem dX5_goneTo_36 : decode cX5_goneTo 36 = .ok (.aload_n 0, 1) := by decide +kernel
theorem dX5_goneTo_37 : decode cX5_goneTo 37 = .ok (.iload_n 1, 1) := by decide +kernel
theorem dX5_goneTo_38 : decode cX5_goneTo 38 = .ok (.iload 5, 2) := by decide +kernel
theorem dX5_goneTo_40 : decode cX5_goneTo 40 = .ok (.invokevirtual 127, 3) := by decide +kernel
theorem dX5_goneTo_43 : decode cX5_goneTo 43 = .ok (.ifCond .eq 14, 3) := by decide +kernel
theorem dX5_goneTo_46 : decode cX5_goneTo 46 = .ok (.iload 4, 2) := by decide +kernel
theorem dX5_goneTo_48 : decode cX5_goneTo 48 = .ok (.ifCond .ne 6, 3) := by decide +kernel
theorem dX5_goneTo_51 : decode cX5_goneTo 51 = .ok (.iload 5, 2) := by decide +kernel
theorem dX5_goneTo_53 : decode cX5_goneTo 53 = .ok (.ireturn, 1) := by decide +kernel
theorem dX5_goneTo_54 : decode cX5_goneTo 54 = .ok (.iinc 4 (-1), 3) := by decide +kernel
theorem dX5_goneTo_57 : decode cX5_goneTo 57 = .ok (.iinc 5 1, 3) := by decide +kernel
theorem dX5_goneTo_60 : decode cX5_goneTo 60 = .ok (.goto (-36), 3) := by decide +kernel
theorem dX5_goneTo_63 : decode cX5_goneTo 63 = .ok (.iload_n 1, 1) := by decide +kernel
theorem dX5_goneTo_64 : decode cX5_goneTo 64 = .ok (.ireturn, 1) := by decide +kernel
theorem dX5_joinLast_0 : decode cX5_joinLast 0 = .ok (.aload_n 0, 1) := by decide +kernel
theorem dX5_joinLast_1 : decode cX5_joinLast 1 = .ok (.getfield 39, 3) := by decide +kernel
theorem dX5_joinLast_4 : decode cX5_joinLast 4 = .ok (.getfield 47, 3) := by decide +kernel
theorem dX5_joinLast_7 : decode cX5_joinLast 7 = .ok (.iconst 1, 1) := by decide +kernel
theorem dX5_joinLast_8 : decode cX5_joinLast 8 = .ok (.isub, 1) := by decide +kernel
theorem dX5_joinLast_9 : decode cX5_joinLast 9 = .ok (.istore_n 1, 1) := by decide +kernel
theorem dX5_joinLast_10 : decode cX5_joinLast 10 = .ok (.iconst 0, 1) := by decide +kernel
theorem dX5_joinLast_11 : decode cX5_joinLast 11 = .ok (.istore_n 2, 1) := by decide +kernel
theorem dX5_joinLast_12 : decode cX5_joinLast 12 = .ok (.iload_n 2, 1) := by decide +kernel
theorem dX5_joinLast_13 : decode cX5_joinLast 13 = .ok (.iload_n 1, 1) := by decide +kernel
theorem dX5_joinLast_14 : decode cX5_joinLast 14 = .ok (.if_icmp .gt 27, 3) := by decide +kernel
theorem dX5_joinLast_17 : decode cX5_joinLast 17 = .ok (.iload_n 1, 1) := by decide +kernel
theorem dX5_joinLast_18 : decode cX5_joinLast 18 = .ok (.bipush 40, 2) := by decide +kernel
theorem dX5_joinLast_20 : decode cX5_joinLast 20 = .ok (.if_icmp .ge 21, 3) := by decide +kernel
theorem dX5_joinLast_23 : decode cX5_joinLast 23 = .ok (.aload_n 0, 1) := by decide +kernel
theorem dX5_joinLast_24 : decode cX5_joinLast 24 = .ok (.iload_n 2, 1) := by decide +kernel
theorem dX5_joinLast_25 : decode cX5_joinLast 25 = .ok (.iload_n 1, 1) := by decide +kernel
theorem dX5_joinLast_26 : decode cX5_joinLast 26 = .ok (.invokevirtual 52, 3) := by decide +kernel
theorem dX5_joinLast_29 : decode cX5_joinLast 29 = .ok (.aload_n 0, 1) := by decide +kernel
theorem dX5_joinLast_30 : decode cX5_joinLast 30 = .ok (.iload_n 1, 1) := by decide +kernel
theorem dX5_joinLast_31 : decode cX5_joinLast 31 = .ok (.iload_n 2, 1) := by decide +kernel
theorem dX5_joinLast_32 : decode cX5_joinLast 32 = .ok (.invokevirtual 52, 3) := by decide +kernel
theorem dX5_joinLast_35 : decode cX5_joinLast 35 = .ok (.iinc 2 1, 3) := by decide +kernel
theorem dX5_joinLast_38 : decode cX5_joinLast 38 = .ok (.goto (-26), 3) := by decide +kernel
theorem dX5_joinLast_41 : decode cX5_joinLast 41 = .ok (.return_, 1) := by decide +kernel
theorem dX5_kindOf_0 : decode cX5_kindOf 0 = .ok (.aload_n 0, 1) := by decide +kernel
theorem dX5_kindOf_1 : decode cX5_kindOf 1 = .ok (.getfield 11, 3) := by decide +kernel
theorem dX5_kindOf_4 : decode cX5_kindOf 4 = .ok (.iload_n 1, 1) := by decide +kernel
theorem dX5_kindOf_5 : decode cX5_kindOf 5 = .ok (.aaload, 1) := by decide +kernel
theorem dX5_kindOf_6 : decode cX5_kindOf 6 = .ok (.iload_n 2, 1) := by decide +kernel
theorem dX5_kindOf_7 : decode cX5_kindOf 7 = .ok (.iaload, 1) := by decide +kernel
theorem dX5_kindOf_8 : decode cX5_kindOf 8 = .ok (.ireturn, 1) := by decide +kernel
theorem dX5_leads_0 : decode cX5_leads 0 = .ok (.aload_n 0, 1) := by decide +kernel
theorem dX5_leads_1 : decode cX5_leads 1 = .ok (.getfield 28, 3) := by decide +kernel
theorem dX5_leads_4 : decode cX5_leads 4 = .ok (.iload_n 1, 1) := by decide +kernel
theorem dX5_leads_5 : decode cX5_leads 5 = .ok (.laload, 1) := by decide +kernel
theorem dX5_leads_6 : decode cX5_leads 6 = .ok (.iload_n 2, 1) := by decide +kernel
theorem dX5_leads_7 : decode cX5_leads 7 = .ok (.lushr, 1) := by decide +kernel
theorem dX5_leads_8 : decode cX5_leads 8 = .ok (.lconst 1, 1) := by decide +kernel
theorem dX5_leads_9 : decode cX5_leads 9 = .ok (.land, 1) := by decide +kernel
theorem dX5_leads_10 : decode cX5_leads 10 = .ok (.lconst 0, 1) := by decide +kernel
theorem dX5_leads_11 : decode cX5_leads 11 = .ok (.lcmp, 1) := by decide +kernel
theorem dX5_leads_12 : decode cX5_leads 12 = .ok (.ifCond .eq 7, 3) := by decide +kernel
theorem dX5_leads_15 : decode cX5_leads 15 = .ok (.iconst 1, 1) := by decide +kernel
theorem dX5_leads_16 : decode cX5_leads 16 = .ok (.goto 4, 3) := by decide +kernel
theorem dX5_leads_19 : decode cX5_leads 19 = .ok (.iconst 0, 1) := by decide +kernel
theorem dX5_leads_20 : decode cX5_leads 20 = .ok (.ireturn, 1) := by decide +kernel
theorem dX5_letterIn_0 : decode cX5_letterIn 0 = .ok (.iload_n 2, 1) := by decide +kernel
theorem dX5_letterIn_1 : decode cX5_letterIn 1 = .ok (.ifCond .lt 23, 3) := by decide +kernel
theorem dX5_letterIn_4 : decode cX5_letterIn 4 = .ok (.iload_n 2, 1) := by decide +kernel
theorem dX5_letterIn_5 : decode cX5_letterIn 5 = .ok (.bipush 8, 2) := by decide +kernel
theorem dX5_letterIn_7 : decode cX5_letterIn 7 = .ok (.if_icmp .ge 17, 3) := by decide +kernel
theorem dX5_letterIn_10 : decode cX5_letterIn 10 = .ok (.aload_n 0, 1) := by decide +kernel
theorem dX5_letterIn_11 : decode cX5_letterIn 11 = .ok (.getfield 39, 3) := by decide +kernel
theorem dX5_letterIn_14 : decode cX5_letterIn 14 = .ok (.getfield 67, 3) := by decide +kernel
theorem dX5_letterIn_17 : decode cX5_letterIn 17 = .ok (.iload_n 1, 1) := by decide +kernel
theorem dX5_letterIn_18 : decode cX5_letterIn 18 = .ok (.aaload, 1) := by decide +kernel
theorem dX5_letterIn_19 : decode cX5_letterIn 19 = .ok (.iload_n 2, 1) := by decide +kernel
theorem dX5_letterIn_20 : decode cX5_letterIn 20 = .ok (.iaload, 1) := by decide +kernel
theorem dX5_letterIn_21 : decode cX5_letterIn 21 = .ok (.goto 5, 3) := by decide +kernel
theorem dX5_letterIn_24 : decode cX5_letterIn 24 = .ok (.bipush 26, 2) := by decide +kernel
theorem dX5_letterIn_26 : decode cX5_letterIn 26 = .ok (.ireturn, 1) := by decide +kernel
theorem dX5_nameChange_0 : decode cX5_nameChange 0 = .ok (.aload_n 0, 1) := by decide +kernel
theorem dX5_nameChange_1 : decode cX5_nameChange 1 = .ok (.getfield 11, 3) := by decide +kernel
theorem dX5_nameChange_4 : decode cX5_nameChange 4 = .ok (.iload_n 1, 1) := by decide +kernel
theorem dX5_nameChange_5 : decode cX5_nameChange 5 = .ok (.aaload, 1) := by decide +kernel
theorem dX5_nameChange_6 : decode cX5_nameChange 6 = .ok (.iload_n 2, 1) := by decide +kernel
theorem dX5_nameChange_7 : decode cX5_nameChange 7 = .ok (.iaload, 1) := by decide +kernel
theorem dX5_nameChange_8 : decode cX5_nameChange 8 = .ok (.istore_n 3, 1) := by decide +kernel
theorem dX5_nameChange_9 : decode cX5_nameChange 9 = .ok (.aload_n 0, 1) := by decide +kernel
theorem dX5_nameChange_10 : decode cX5_nameChange 10 = .ok (.getfield 16, 3) := by decide +kernel
theorem dX5_nameChange_13 : decode cX5_nameChange 13 = .ok (.iload_n 1, 1) := by decide +kernel
theorem dX5_nameChange_14 : decode cX5_nameChange 14 = .ok (.aaload, 1) := by decide +kernel
theorem dX5_nameChange_15 : decode cX5_nameChange 15 = .ok (.iload_n 2, 1) := by decide +kernel
theorem dX5_nameChange_16 : decode cX5_nameChange 16 = .ok (.iaload, 1) := by decide +kernel
theorem dX5_nameChange_17 : decode cX5_nameChange 17 = .ok (.istore 4, 2) := by decide +kernel
theorem dX5_nameChange_19 : decode cX5_nameChange 19 = .ok (.aload_n 0, 1) := by decide +kernel
theorem dX5_nameChange_20 : decode cX5_nameChange 20 = .ok (.getfield 43, 3) := by decide +kernel
theorem dX5_nameChange_23 : decode cX5_nameChange 23 = .ok (.getfield 105, 3) := by decide +kernel
theorem dX5_nameChange_26 : decode cX5_nameChange 26 = .ok (.astore 5, 2) := by decide +kernel
theorem dX5_nameChange_28 : decode cX5_nameChange 28 = .ok (.aload 5, 2) := by decide +kernel
theorem dX5_nameChange_30 : decode cX5_nameChange 30 = .ok (.iconst 0, 1) := by decide +kernel
theorem dX5_nameChange_31 : decode cX5_nameChange 31 = .ok (.iload_n 3, 1) := by decide +kernel
theorem dX5_nameChange_32 : decode cX5_nameChange 32 = .ok (.iastore, 1) := by decide +kernel
theorem dX5_nameChange_33 : decode cX5_nameChange 33 = .ok (.aload 5, 2) := by decide +kernel
theorem dX5_nameChange_35 : decode cX5_nameChange 35 = .ok (.iconst 2, 1) := by decide +kernel
theorem dX5_nameChange_36 : decode cX5_nameChange 36 = .ok (.iload_n 3, 1) := by decide +kernel
theorem dX5_nameChange_37 : decode cX5_nameChange 37 = .ok (.iconst 1, 1) := by decide +kernel
theorem dX5_nameChange_38 : decode cX5_nameChange 38 = .ok (.if_icmp .ne 8, 3) := by decide +kernel
theorem dX5_nameChange_41 : decode cX5_nameChange 41 = .ok (.bipush 26, 2) := by decide +kernel
theorem dX5_nameChange_43 : decode cX5_nameChange 43 = .ok (.goto 10, 3) := by decide +kernel
theorem dX5_nameChange_46 : decode cX5_nameChange 46 = .ok (.aload_n 0, 1) := by decide +kernel
theorem dX5_nameChange_47 : decode cX5_nameChange 47 = .ok (.iload_n 1, 1) := by decide +kernel
theorem dX5_nameChange_48 : decode cX5_nameChange 48 = .ok (.iload 4, 2) := by decide +kernel
theorem dX5_nameChange_50 : decode cX5_nameChange 50 = .ok (.invokevirtual 112, 3) := by decide +kernel
theorem dX5_nameChange_53 : decode cX5_nameChange 53 = .ok (.iastore, 1) := by decide +kernel
theorem dX5_nameChange_54 : decode cX5_nameChange 54 = .ok (.aload 5, 2) := by decide +kernel
theorem dX5_nameChange_56 : decode cX5_nameChange 56 = .ok (.iconst 3, 1) := by decide +kernel
theorem dX5_nameChange_57 : decode cX5_nameChange 57 = .ok (.iload_n 3, 1) := by decide +kernel
theorem dX5_nameChange_58 : decode cX5_nameChange 58 = .ok (.iconst 2, 1) := by decide +kernel
theorem dX5_nameChange_59 : decode cX5_nameChange 59 = .ok (.if_icmp .ne 8, 3) := by decide +kernel
theorem dX5_nameChange_62 : decode cX5_nameChange 62 = .ok (.bipush 26, 2) := by decide +kernel
theorem dX5_nameChange_64 : decode cX5_nameChange 64 = .ok (.goto 10, 3) := by decide +kernel
theorem dX5_nameChange_67 : decode cX5_nameChange 67 = .ok (.aload_n 0, 1) := by decide +kernel
theorem dX5_nameChange_68 : decode cX5_nameChange 68 = .ok (.iload_n 2, 1) := by decide +kernel
theorem dX5_nameChange_69 : decode cX5_nameChange 69 = .ok (.iload 4, 2) := by decide +kernel
theorem dX5_nameChange_71 : decode cX5_nameChange 71 = .ok (.invokevirtual 112, 3) := by decide +kernel
theorem dX5_nameChange_74 : decode cX5_nameChange 74 = .ok (.iastore, 1) := by decide +kernel
theorem dX5_nameChange_75 : decode cX5_nameChange 75 = .ok (.aload 5, 2) := by decide +kernel
theorem dX5_nameChange_77 : decode cX5_nameChange 77 = .ok (.iconst 4, 1) := by decide +kernel
theorem dX5_nameChange_78 : decode cX5_nameChange 78 = .ok (.aload_n 0, 1) := by decide +kernel
theorem dX5_nameChange_79 : decode cX5_nameChange 79 = .ok (.getfield 39, 3) := by decide +kernel
theorem dX5_nameChange_82 : decode cX5_nameChange 82 = .ok (.getfield 56, 3) := by decide +kernel
theorem dX5_nameChange_85 : decode cX5_nameChange 85 = .ok (.iload_n 1, 1) := by decide +kernel
theorem dX5_nameChange_86 : decode cX5_nameChange 86 = .ok (.iaload, 1) := by decide +kernel
theorem dX5_nameChange_87 : decode cX5_nameChange 87 = .ok (.iastore, 1) := by decide +kernel
theorem dX5_nameChange_88 : decode cX5_nameChange 88 = .ok (.aload 5, 2) := by decide +kernel
theorem dX5_nameChange_90 : decode cX5_nameChange 90 = .ok (.iconst 5, 1) := by decide +kernel
theorem dX5_nameChange_91 : decode cX5_nameChange 91 = .ok (.aload_n 0, 1) := by decide +kernel
theorem dX5_nameChange_92 : decode cX5_nameChange 92 = .ok (.getfield 39, 3) := by decide +kernel
theorem dX5_nameChange_95 : decode cX5_nameChange 95 = .ok (.getfield 115, 3) := by decide +kernel
theorem dX5_nameChange_98 : decode cX5_nameChange 98 = .ok (.iload_n 1, 1) := by decide +kernel
theorem dX5_nameChange_99 : decode cX5_nameChange 99 = .ok (.iaload, 1) := by decide +kernel
theorem dX5_nameChange_100 : decode cX5_nameChange 100 = .ok (.iastore, 1) := by decide +kernel
theorem dX5_nameChange_101 : decode cX5_nameChange 101 = .ok (.aload 5, 2) := by decide +kernel
theorem dX5_nameChange_103 : decode cX5_nameChange 103 = .ok (.bipush 6, 2) := by decide +kernel
theorem dX5_nameChange_105 : decode cX5_nameChange 105 = .ok (.aload_n 0, 1) := by decide +kernel
theorem dX5_nameChange_106 : decode cX5_nameChange 106 = .ok (.getfield 39, 3) := by decide +kernel
theorem dX5_nameChange_109 : decode cX5_nameChange 109 = .ok (.getfield 115, 3) := by decide +kernel
theorem dX5_nameChange_112 : decode cX5_nameChange 112 = .ok (.iload_n 2, 1) := by decide +kernel
theorem dX5_nameChange_113 : decode cX5_nameChange 113 = .ok (.iaload, 1) := by decide +kernel
theorem dX5_nameChange_114 : decode cX5_nameChange 114 = .ok (.iastore, 1) := by decide +kernel
theorem dX5_nameChange_115 : decode cX5_nameChange 115 = .ok (.aload 5, 2) := by decide +kernel
theorem dX5_nameChange_117 : decode cX5_nameChange 117 = .ok (.bipush 7, 2) := by decide +kernel
theorem dX5_nameChange_119 : decode cX5_nameChange 119 = .ok (.iload_n 1, 1) := by decide +kernel
theorem dX5_nameChange_120 : decode cX5_nameChange 120 = .ok (.iastore, 1) := by decide +kernel
theorem dX5_nameChange_121 : decode cX5_nameChange 121 = .ok (.aload 5, 2) := by decide +kernel
theorem dX5_nameChange_123 : decode cX5_nameChange 123 = .ok (.bipush 8, 2) := by decide +kernel
theorem dX5_nameChange_125 : decode cX5_nameChange 125 = .ok (.iload_n 2, 1) := by decide +kernel
theorem dX5_nameChange_126 : decode cX5_nameChange 126 = .ok (.iastore, 1) := by decide +kernel
theorem dX5_nameChange_127 : decode cX5_nameChange 127 = .ok (.return_, 1) := by decide +kernel
theorem dX5_placeOf_0 : decode cX5_placeOf 0 = .ok (.aload_n 0, 1) := by decide +kernel
theorem dX5_placeOf_1 : decode cX5_placeOf 1 = .ok (.getfield 25, 3) := by decide +kernel
theorem dX5_placeOf_4 : decode cX5_placeOf 4 = .ok (.iload_n 1, 1) := by decide +kernel
theorem dX5_placeOf_5 : decode cX5_placeOf 5 = .ok (.aaload, 1) := by decide +kernel
theorem dX5_placeOf_6 : decode cX5_placeOf 6 = .ok (.iload_n 2, 1) := by decide +kernel
theorem dX5_placeOf_7 : decode cX5_placeOf 7 = .ok (.iaload, 1) := by decide +kernel
theorem dX5_placeOf_8 : decode cX5_placeOf 8 = .ok (.ireturn, 1) := by decide +kernel
theorem dX5_refresh_0 : decode cX5_refresh 0 = .ok (.aload_n 0, 1) := by decide +kernel
theorem dX5_refresh_1 : decode cX5_refresh 1 = .ok (.getfield 32, 3) := by decide +kernel
theorem dX5_refresh_4 : decode cX5_refresh 4 = .ok (.aload_n 0, 1) := by decide +kernel
theorem dX5_refresh_5 : decode cX5_refresh 5 = .ok (.getfield 39, 3) := by decide +kernel
theorem dX5_refresh_8 : decode cX5_refresh 8 = .ok (.getfield 88, 3) := by decide +kernel
theorem dX5_refresh_11 : decode cX5_refresh 11 = .ok (.if_icmp .ne 18, 3) := by decide +kernel
theorem dX5_refresh_14 : decode cX5_refresh 14 = .ok (.aload_n 0, 1) := by decide +kernel
theorem dX5_refresh_15 : decode cX5_refresh 15 = .ok (.getfield 36, 3) := by decide +kernel
theorem dX5_refresh_18 : decode cX5_refresh 18 = .ok (.aload_n 0, 1) := by decide +kernel
theorem dX5_refresh_19 : decode cX5_refresh 19 = .ok (.getfield 43, 3) := by decide +kernel
theorem dX5_refresh_22 : decode cX5_refresh 22 = .ok (.getfield 91, 3) := by decide +kernel
theorem dX5_refresh_25 : decode cX5_refresh 25 = .ok (.if_icmp .ne 4, 3) := by decide +kernel
theorem dX5_refresh_28 : decode cX5_refresh 28 = .ok (.return_, 1) := by decide +kernel
theorem dX5_refresh_29 : decode cX5_refresh 29 = .ok (.aload_n 0, 1) := by decide +kernel
theorem dX5_refresh_30 : decode cX5_refresh 30 = .ok (.aload_n 0, 1) := by decide +kernel
theorem dX5_refresh_31 : decode cX5_refresh 31 = .ok (.getfield 39, 3) := by decide +kernel
theorem dX5_refresh_34 : decode cX5_refresh 34 = .ok (.getfield 88, 3) := by decide +kernel
theorem dX5_refresh_37 : decode cX5_refresh 37 = .ok (.putfield 32, 3) := by decide +kernel
theorem dX5_refresh_40 : decode cX5_refresh 40 = .ok (.aload_n 0, 1) := by decide +kernel
theorem dX5_refresh_41 : decode cX5_refresh 41 = .ok (.aload_n 0, 1) := by decide +kernel
theorem dX5_refresh_42 : decode cX5_refresh 42 = .ok (.getfield 43, 3) := by decide +kernel
theorem dX5_refresh_45 : decode cX5_refresh 45 = .ok (.getfield 91, 3) := by decide +kernel
theorem dX5_refresh_48 : decode cX5_refresh 48 = .ok (.putfield 36, 3) := by decide +kernel
theorem dX5_refresh_51 : decode cX5_refresh 51 = .ok (.aload_n 0, 1) := by decide +kernel
theorem dX5_refresh_52 : decode cX5_refresh 52 = .ok (.dup, 1) := by decide +kernel
theorem dX5_refresh_53 : decode cX5_refresh 53 = .ok (.getfield 94, 3) := by decide +kernel
theorem dX5_refresh_56 : decode cX5_refresh 56 = .ok (.iconst 1, 1) := by decide +kernel
theorem dX5_refresh_57 : decode cX5_refresh 57 = .ok (.iadd, 1) := by decide +kernel
theorem dX5_refresh_58 : decode cX5_refresh 58 = .ok (.putfield 94, 3) := by decide +kernel
theorem dX5_refresh_61 : decode cX5_refresh 61 = .ok (.iconst 0, 1) := by decide +kernel
theorem dX5_refresh_62 : decode cX5_refresh 62 = .ok (.istore_n 1, 1) := by decide +kernel
theorem dX5_refresh_63 : decode cX5_refresh 63 = .ok (.iload_n 1, 1) := by decide +kernel
theorem dX5_refresh_64 : decode cX5_refresh 64 = .ok (.aload_n 0, 1) := by decide +kernel
theorem dX5_refresh_65 : decode cX5_refresh 65 = .ok (.getfield 39, 3) := by decide +kernel
theorem dX5_refresh_68 : decode cX5_refresh 68 = .ok (.getfield 47, 3) := by decide +kernel
theorem dX5_refresh_71 : decode cX5_refresh 71 = .ok (.if_icmp .ge 84, 3) := by decide +kernel
theorem dX5_refresh_74 : decode cX5_refresh 74 = .ok (.aload_n 0, 1) := by decide +kernel
theorem dX5_refresh_75 : decode cX5_refresh 75 = .ok (.getfield 28, 3) := by decide +kernel
theorem dX5_refresh_78 : decode cX5_refresh 78 = .ok (.iload_n 1, 1) := by decide +kernel
theorem dX5_refresh_79 : decode cX5_refresh 79 = .ok (.lconst 0, 1) := by decide +kernel
theorem dX5_refresh_80 : decode cX5_refresh 80 = .ok (.lastore, 1) := by decide +kernel
theorem dX5_refresh_81 : decode cX5_refresh 81 = .ok (.iconst 0, 1) := by decide +kernel
theorem dX5_refresh_82 : decode cX5_refresh 82 = .ok (.istore_n 2, 1) := by decide +kernel
theorem dX5_refresh_83 : decode cX5_refresh 83 = .ok (.iload_n 2, 1) := by decide +kernel
theorem dX5_refresh_84 : decode cX5_refresh 84 = .ok (.aload_n 0, 1) := by decide +kernel
theorem dX5_refresh_85 : decode cX5_refresh 85 = .ok (.getfield 39, 3) := by decide +kernel
theorem dX5_refresh_88 : decode cX5_refresh 88 = .ok (.getfield 47, 3) := by decide +kernel
theorem dX5_refresh_91 : decode cX5_refresh 91 = .ok (.if_icmp .ge 58, 3) := by decide +kernel
theorem dX5_refresh_94 : decode cX5_refresh 94 = .ok (.aload_n 0, 1) := by decide +kernel
theorem dX5_refresh_95 : decode cX5_refresh 95 = .ok (.getfield 22, 3) := by decide +kernel
theorem dX5_refresh_98 : decode cX5_refresh 98 = .ok (.iload_n 1, 1) := by decide +kernel
theorem dX5_refresh_99 : decode cX5_refresh 99 = .ok (.aaload, 1) := by decide +kernel
theorem dX5_refresh_100 : decode cX5_refresh 100 = .ok (.iload_n 2, 1) := by decide +kernel
theorem dX5_refresh_101 : decode cX5_refresh 101 = .ok (.iconst 0, 1) := by decide +kernel
theorem dX5_refresh_102 : decode cX5_refresh 102 = .ok (.iastore, 1) := by decide +kernel
theorem dX5_refresh_103 : decode cX5_refresh 103 = .ok (.aload_n 0, 1) := by decide +kernel
theorem dX5_refresh_104 : decode cX5_refresh 104 = .ok (.getfield 11, 3) := by decide +kernel
theorem dX5_refresh_107 : decode cX5_refresh 107 = .ok (.iload_n 1, 1) := by decide +kernel
theorem dX5_refresh_108 : decode cX5_refresh 108 = .ok (.aaload, 1) := by decide +kernel
theorem dX5_refresh_109 : decode cX5_refresh 109 = .ok (.iload_n 2, 1) := by decide +kernel
theorem dX5_refresh_110 : decode cX5_refresh 110 = .ok (.iaload, 1) := by decide +kernel
theorem dX5_refresh_111 : decode cX5_refresh 111 = .ok (.iconst (-1), 1) := by decide +kernel
theorem dX5_refresh_112 : decode cX5_refresh 112 = .ok (.if_icmp .eq 31, 3) := by decide +kernel
theorem dX5_refresh_115 : decode cX5_refresh 115 = .ok (.aload_n 0, 1) := by decide +kernel
theorem dX5_refresh_116 : decode cX5_refresh 116 = .ok (.getfield 39, 3) := by decide +kernel
theorem dX5_refresh_119 : decode cX5_refresh 119 = .ok (.iload_n 1, 1) := by decide +kernel
theorem dX5_refresh_120 : decode cX5_refresh 120 = .ok (.invokevirtual 95, 3) := by decide +kernel
theorem dX5_refresh_123 : decode cX5_refresh 123 = .ok (.ifCond .eq 20, 3) := by decide +kernel
theorem dX5_refresh_126 : decode cX5_refresh 126 = .ok (.aload_n 0, 1) := by decide +kernel
theorem dX5_refresh_127 : decode cX5_refresh 127 = .ok (.getfield 39, 3) := by decide +kernel
theorem dX5_refresh_130 : decode cX5_refresh 130 = .ok (.iload_n 2, 1) := by decide +kernel
theorem dX5_refresh_131 : decode cX5_refresh 131 = .ok (.invokevirtual 95, 3) := by decide +kernel
theorem dX5_refresh_134 : decode cX5_refresh 134 = .ok (.ifCond .eq 9, 3) := by decide +kernel
theorem dX5_refresh_137 : decode cX5_refresh 137 = .ok (.aload_n 0, 1) := by decide +kernel
theorem dX5_refresh_138 : decode cX5_refresh 138 = .ok (.iload_n 1, 1) := by decide +kernel
theorem dX5_refresh_139 : decode cX5_refresh 139 = .ok (.iload_n 2, 1) := by decide +kernel
theorem dX5_refresh_140 : decode cX5_refresh 140 = .ok (.invokevirtual 99, 3) := by decide +kernel
theorem dX5_refresh_143 : decode cX5_refresh 143 = .ok (.iinc 2 1, 3) := by decide +kernel
theorem dX5_refresh_146 : decode cX5_refresh 146 = .ok (.goto (-63), 3) := by decide +kernel
theorem dX5_refresh_149 : decode cX5_refresh 149 = .ok (.iinc 1 1, 3) := by decide +kernel
theorem dX5_refresh_152 : decode cX5_refresh 152 = .ok (.goto (-89), 3) := by decide +kernel
theorem dX5_refresh_155 : decode cX5_refresh 155 = .ok (.return_, 1) := by decide +kernel
theorem dX5_setChange_0 : decode cX5_setChange 0 = .ok (.aload_n 0, 1) := by decide +kernel
theorem dX5_setChange_1 : decode cX5_setChange 1 = .ok (.getfield 11, 3) := by decide +kernel
theorem dX5_setChange_4 : decode cX5_setChange 4 = .ok (.iload_n 1, 1) := by decide +kernel
theorem dX5_setChange_5 : decode cX5_setChange 5 = .ok (.aaload, 1) := by decide +kernel
theorem dX5_setChange_6 : decode cX5_setChange 6 = .ok (.iload_n 2, 1) := by decide +kernel
theorem dX5_setChange_7 : decode cX5_setChange 7 = .ok (.iload_n 3, 1) := by decide +kernel
theorem dX5_setChange_8 : decode cX5_setChange 8 = .ok (.iastore, 1) := by decide +kernel
theorem dX5_setChange_9 : decode cX5_setChange 9 = .ok (.aload_n 0, 1) := by decide +kernel
theorem dX5_setChange_10 : decode cX5_setChange 10 = .ok (.getfield 16, 3) := by decide +kernel
theorem dX5_setChange_13 : decode cX5_setChange 13 = .ok (.iload_n 1, 1) := by decide +kernel
theorem dX5_setChange_14 : decode cX5_setChange 14 = .ok (.aaload, 1) := by decide +kernel
theorem dX5_setChange_15 : decode cX5_setChange 15 = .ok (.iload_n 2, 1) := by decide +kernel
theorem dX5_setChange_16 : decode cX5_setChange 16 = .ok (.iload 4, 2) := by decide +kernel
theorem dX5_setChange_18 : decode cX5_setChange 18 = .ok (.iastore, 1) := by decide +kernel
theorem dX5_setChange_19 : decode cX5_setChange 19 = .ok (.aload_n 0, 1) := by decide +kernel
theorem dX5_setChange_20 : decode cX5_setChange 20 = .ok (.getfield 19, 3) := by decide +kernel
theorem dX5_setChange_23 : decode cX5_setChange 23 = .ok (.iload_n 1, 1) := by decide +kernel
theorem dX5_setChange_24 : decode cX5_setChange 24 = .ok (.aaload, 1) := by decide +kernel
theorem dX5_setChange_25 : decode cX5_setChange 25 = .ok (.iload_n 2, 1) := by decide +kernel
theorem dX5_setChange_26 : decode cX5_setChange 26 = .ok (.iload 5, 2) := by decide +kernel
theorem dX5_setChange_28 : decode cX5_setChange 28 = .ok (.iastore, 1) := by decide +kernel
theorem dX5_setChange_29 : decode cX5_setChange 29 = .ok (.return_, 1) := by decide +kernel
theorem dX6_byteAt_0 : decode cX6_byteAt 0 = .ok (.iload_n 1, 1) := by decide +kernel
theorem dX6_byteAt_1 : decode cX6_byteAt 1 = .ok (.ifCond .lt 27, 3) := by decide +kernel
theorem dX6_byteAt_4 : decode cX6_byteAt 4 = .ok (.iload_n 1, 1) := by decide +kernel
theorem dX6_byteAt_5 : decode cX6_byteAt 5 = .ok (.aload_n 0, 1) := by decide +kernel
theorem dX6_byteAt_6 : decode cX6_byteAt 6 = .ok (.getfield 19, 3) := by decide +kernel
theorem dX6_byteAt_9 : decode cX6_byteAt 9 = .ok (.if_icmp .ge 19, 3) := by decide +kernel
theorem dX6_byteAt_12 : decode cX6_byteAt 12 = .ok (.iload_n 1, 1) := by decide +kernel
theorem dX6_byteAt_13 : decode cX6_byteAt 13 = .ok (.sipush 200, 3) := by decide +kernel
theorem dX6_byteAt_16 : decode cX6_byteAt 16 = .ok (.if_icmp .ge 12, 3) := by decide +kernel
theorem dX6_byteAt_19 : decode cX6_byteAt 19 = .ok (.aload_n 0, 1) := by decide +kernel
theorem dX6_byteAt_20 : decode cX6_byteAt 20 = .ok (.getfield 11, 3) := by decide +kernel
theorem dX6_byteAt_23 : decode cX6_byteAt 23 = .ok (.iload_n 1, 1) := by decide +kernel
theorem dX6_byteAt_24 : decode cX6_byteAt 24 = .ok (.iaload, 1) := by decide +kernel
theorem dX6_byteAt_25 : decode cX6_byteAt 25 = .ok (.goto 4, 3) := by decide +kernel
theorem dX6_byteAt_28 : decode cX6_byteAt 28 = .ok (.iconst (-1), 1) := by decide +kernel
theorem dX6_byteAt_29 : decode cX6_byteAt 29 = .ok (.ireturn, 1) := by decide +kernel
theorem dX6_hasRoom_0 : decode cX6_hasRoom 0 = .ok (.aload_n 0, 1) := by decide +kernel
theorem dX6_hasRoom_1 : decode cX6_hasRoom 1 = .ok (.getfield 15, 3) := by decide +kernel
theorem dX6_hasRoom_4 : decode cX6_hasRoom 4 = .ok (.bipush 20, 2) := by decide +kernel
theorem dX6_hasRoom_6 : decode cX6_hasRoom 6 = .ok (.iadd, 1) := by decide +kernel
theorem dX6_hasRoom_7 : decode cX6_hasRoom 7 = .ok (.sipush 200, 3) := by decide +kernel
theorem dX6_hasRoom_10 : decode cX6_hasRoom 10 = .ok (.if_icmp .gt 7, 3) := by decide +kernel
theorem dX6_hasRoom_13 : decode cX6_hasRoom 13 = .ok (.iconst 1, 1) := by decide +kernel
theorem dX6_hasRoom_14 : decode cX6_hasRoom 14 = .ok (.goto 4, 3) := by decide +kernel
theorem dX6_hasRoom_17 : decode cX6_hasRoom 17 = .ok (.iconst 0, 1) := by decide +kernel
theorem dX6_hasRoom_18 : decode cX6_hasRoom 18 = .ok (.ireturn, 1) := by decide +kernel
theorem dX6_isAllLetters_0 : decode cX6_isAllLetters 0 = .ok (.iconst 0, 1) := by decide +kernel
theorem dX6_isAllLetters_1 : decode cX6_isAllLetters 1 = .ok (.istore_n 1, 1) := by decide +kernel
theorem dX6_isAllLetters_2 : decode cX6_isAllLetters 2 = .ok (.iload_n 1, 1) := by decide +kernel
theorem dX6_isAllLetters_3 : decode cX6_isAllLetters 3 = .ok (.aload_n 0, 1) := by decide +kernel
theorem dX6_isAllLetters_4 : decode cX6_isAllLetters 4 = .ok (.getfield 19, 3) := by decide +kernel
theorem dX6_isAllLetters_7 : decode cX6_isAllLetters 7 = .ok (.if_icmp .ge 19, 3) := by decide +kernel
theorem dX6_isAllLetters_10 : decode cX6_isAllLetters 10 = .ok (.aload_n 0, 1) := by decide +kernel
theorem dX6_isAllLetters_11 : decode cX6_isAllLetters 11 = .ok (.iload_n 1, 1) := by decide +kernel
theorem dX6_isAllLetters_12 : decode cX6_isAllLetters 12 = .ok (.invokevirtual 26, 3) := by decide +kernel
theorem dX6_isAllLetters_15 : decode cX6_isAllLetters 15 = .ok (.ifCond .ne 5, 3) := by decide +kernel
theorem dX6_isAllLetters_18 : decode cX6_isAllLetters 18 = .ok (.iconst 0, 1) := by decide +kernel
theorem dX6_isAllLetters_19 : decode cX6_isAllLetters 19 = .ok (.ireturn, 1) := by decide +kernel
theorem dX6_isAllLetters_20 : decode cX6_isAllLetters 20 = .ok (.iinc 1 1, 3) := by decide +kernel
theorem dX6_isAllLetters_23 : decode cX6_isAllLetters 23 = .ok (.goto (-21), 3) := by decide +kernel
theorem dX6_isAllLetters_26 : decode cX6_isAllLetters 26 = .ok (.iconst 1, 1) := by decide +kernel
theorem dX6_isAllLetters_27 : decode cX6_isAllLetters 27 = .ok (.ireturn, 1) := by decide +kernel
theorem dX6_isLetterAt_0 : decode cX6_isLetterAt 0 = .ok (.aload_n 0, 1) := by decide +kernel
theorem dX6_isLetterAt_1 : decode cX6_isLetterAt 1 = .ok (.iload_n 1, 1) := by decide +kernel
theorem dX6_isLetterAt_2 : decode cX6_isLetterAt 2 = .ok (.invokevirtual 22, 3) := by decide +kernel
theorem dX6_isLetterAt_5 : decode cX6_isLetterAt 5 = .ok (.bipush 97, 2) := by decide +kernel
theorem dX6_isLetterAt_7 : decode cX6_isLetterAt 7 = .ok (.if_icmp .lt 17, 3) := by decide +kernel
theorem dX6_isLetterAt_10 : decode cX6_isLetterAt 10 = .ok (.aload_n 0, 1) := by decide +kernel
theorem dX6_isLetterAt_11 : decode cX6_isLetterAt 11 = .ok (.iload_n 1, 1) := by decide +kernel
theorem dX6_isLetterAt_12 : decode cX6_isLetterAt 12 = .ok (.invokevirtual 22, 3) := by decide +kernel
theorem dX6_isLetterAt_15 : decode cX6_isLetterAt 15 = .ok (.bipush 122, 2) := by decide +kernel
theorem dX6_isLetterAt_17 : decode cX6_isLetterAt 17 = .ok (.if_icmp .gt 7, 3) := by decide +kernel
theorem dX6_isLetterAt_20 : decode cX6_isLetterAt 20 = .ok (.iconst 1, 1) := by decide +kernel
theorem dX6_isLetterAt_21 : decode cX6_isLetterAt 21 = .ok (.goto 4, 3) := by decide +kernel
theorem dX6_isLetterAt_24 : decode cX6_isLetterAt 24 = .ok (.iconst 0, 1) := by decide +kernel
theorem dX6_isLetterAt_25 : decode cX6_isLetterAt 25 = .ok (.ireturn, 1) := by decide +kernel
theorem dX6_isRubbedText_0 : decode cX6_isRubbedText 0 = .ok (.iconst 0, 1) := by decide +kernel
theorem dX6_isRubbedText_1 : decode cX6_isRubbedText 1 = .ok (.istore_n 1, 1) := by decide +kernel
theorem dX6_isRubbedText_2 : decode cX6_isRubbedText 2 = .ok (.iload_n 1, 1) := by decide +kernel
theorem dX6_isRubbedText_3 : decode cX6_isRubbedText 3 = .ok (.aload_n 0, 1) := by decide +kernel
theorem dX6_isRubbedText_4 : decode cX6_isRubbedText 4 = .ok (.getfield 19, 3) := by decide +kernel
theorem dX6_isRubbedText_7 : decode cX6_isRubbedText 7 = .ok (.if_icmp .ge 29, 3) := by decide +kernel
theorem dX6_isRubbedText_10 : decode cX6_isRubbedText 10 = .ok (.aload_n 0, 1) := by decide +kernel
theorem dX6_isRubbedText_11 : decode cX6_isRubbedText 11 = .ok (.iload_n 1, 1) := by decide +kernel
theorem dX6_isRubbedText_12 : decode cX6_isRubbedText 12 = .ok (.invokevirtual 26, 3) := by decide +kernel
theorem dX6_isRubbedText_15 : decode cX6_isRubbedText 15 = .ok (.ifCond .ne 15, 3) := by decide +kernel
theorem dX6_isRubbedText_18 : decode cX6_isRubbedText 18 = .ok (.aload_n 0, 1) := by decide +kernel
theorem dX6_isRubbedText_19 : decode cX6_isRubbedText 19 = .ok (.iload_n 1, 1) := by decide +kernel
theorem dX6_isRubbedText_20 : decode cX6_isRubbedText 20 = .ok (.invokevirtual 22, 3) := by decide +kernel
theorem dX6_isRubbedText_23 : decode cX6_isRubbedText 23 = .ok (.bipush 63, 2) := by decide +kernel
theorem dX6_isRubbedText_25 : decode cX6_isRubbedText 25 = .ok (.if_icmp .eq 5, 3) := by decide +kernel
theorem dX6_isRubbedText_28 : decode cX6_isRubbedText 28 = .ok (.iconst 0, 1) := by decide +kernel
theorem dX6_isRubbedText_29 : decode cX6_isRubbedText 29 = .ok (.ireturn, 1) := by decide +kernel
theorem dX6_isRubbedText_30 : decode cX6_isRubbedText 30 = .ok (.iinc 1 1, 3) := by decide +kernel
theorem dX6_isRubbedText_33 : decode cX6_isRubbedText 33 = .ok (.goto (-31), 3) := by decide +kernel
theorem dX6_isRubbedText_36 : decode cX6_isRubbedText 36 = .ok (.iconst 1, 1) := by decide +kernel
theorem dX6_isRubbedText_37 : decode cX6_isRubbedText 37 = .ok (.ireturn, 1) := by decide +kernel
theorem dX6_letterAt_0 : decode cX6_letterAt 0 = .ok (.aload_n 0, 1) := by decide +kernel
theorem dX6_letterAt_1 : decode cX6_letterAt 1 = .ok (.iload_n 1, 1) := by decide +kernel
theorem dX6_letterAt_2 : decode cX6_letterAt 2 = .ok (.invokevirtual 22, 3) := by decide +kernel
theorem dX6_letterAt_5 : decode cX6_letterAt 5 = .ok (.bipush 97, 2) := by decide +kernel
theorem dX6_letterAt_7 : decode cX6_letterAt 7 = .ok (.isub, 1) := by decide +kernel
theorem dX6_letterAt_8 : decode cX6_letterAt 8 = .ok (.ireturn, 1) := by decide +kernel
theorem dX6_numberAt_0 : decode cX6_numberAt 0 = .ok (.iconst 0, 1) := by decide +kernel
theorem dX6_numberAt_1 : decode cX6_numberAt 1 = .ok (.istore_n 2, 1) := by decide +kernel
theorem dX6_numberAt_2 : decode cX6_numberAt 2 = .ok (.iconst 0, 1) := by decide +kernel
theorem dX6_numberAt_3 : decode cX6_numberAt 3 = .ok (.istore_n 3, 1) := by decide +kernel
theorem dX6_numberAt_4 : decode cX6_numberAt 4 = .ok (.iload_n 3, 1) := by decide +kernel
theorem dX6_numberAt_5 : decode cX6_numberAt 5 = .ok (.iconst 4, 1) := by decide +kernel
theorem dX6_numberAt_6 : decode cX6_numberAt 6 = .ok (.if_icmp .ge 24, 3) := by decide +kernel
theorem dX6_numberAt_9 : decode cX6_numberAt 9 = .ok (.iload_n 2, 1) := by decide +kernel
theorem dX6_numberAt_10 : decode cX6_numberAt 10 = .ok (.bipush 8, 2) := by decide +kernel
theorem dX6_numberAt_12 : decode cX6_numberAt 12 = .ok (.ishl, 1) := by decide +kernel
theorem dX6_numberAt_13 : decode cX6_numberAt 13 = .ok (.aload_n 0, 1) := by decide +kernel
theorem dX6_numberAt_14 : decode cX6_numberAt 14 = .ok (.iconst 4, 1) := by decide +kernel
theorem dX6_numberAt_15 : decode cX6_numberAt 15 = .ok (.iload_n 1, 1) := by decide +kernel
theorem dX6_numberAt_16 : decode cX6_numberAt 16 = .ok (.imul, 1) := by decide +kernel
theorem dX6_numberAt_17 : decode cX6_numberAt 17 = .ok (.iload_n 3, 1) := by decide +kernel
theorem dX6_numberAt_18 : decode cX6_numberAt 18 = .ok (.iadd, 1) := by decide +kernel
theorem dX6_numberAt_19 : decode cX6_numberAt 19 = .ok (.invokevirtual 22, 3) := by decide +kernel
theorem dX6_numberAt_22 : decode cX6_numberAt 22 = .ok (.ior, 1) := by decide +kernel
theorem dX6_numberAt_23 : decode cX6_numberAt 23 = .ok (.istore_n 2, 1) := by decide +kernel
theorem dX6_numberAt_24 : decode cX6_numberAt 24 = .ok (.iinc 3 1, 3) := by decide +kernel
theorem dX6_numberAt_27 : decode cX6_numberAt 27 = .ok (.goto (-23), 3) := by decide +kernel
theorem dX6_numberAt_30 : decode cX6_numberAt 30 = .ok (.iload_n 2, 1) := by decide +kernel
theorem dX6_numberAt_31 : decode cX6_numberAt 31 = .ok (.ireturn, 1) := by decide +kernel
theorem dX6_putNumber_0 : decode cX6_putNumber 0 = .ok (.bipush 24, 2) := by decide +kernel
theorem dX6_putNumber_2 : decode cX6_putNumber 2 = .ok (.istore_n 2, 1) := by decide +kernel
theorem dX6_putNumber_3 : decode cX6_putNumber 3 = .ok (.iload_n 2, 1) := by decide +kernel
theorem dX6_putNumber_4 : decode cX6_putNumber 4 = .ok (.ifCond .lt 45, 3) := by decide +kernel
theorem dX6_putNumber_7 : decode cX6_putNumber 7 = .ok (.aload_n 0, 1) := by decide +kernel
theorem dX6_putNumber_8 : decode cX6_putNumber 8 = .ok (.getfield 15, 3) := by decide +kernel
theorem dX6_putNumber_11 : decode cX6_putNumber 11 = .ok (.sipush 200, 3) := by decide +kernel
theorem dX6_putNumber_14 : decode cX6_putNumber 14 = .ok (.if_icmp .ge 29, 3) := by decide +kernel
theorem dX6_putNumber_17 : decode cX6_putNumber 17 = .ok (.aload_n 0, 1) := by decide +kernel
theorem dX6_putNumber_18 : decode cX6_putNumber 18 = .ok (.getfield 11, 3) := by decide +kernel
theorem dX6_putNumber_21 : decode cX6_putNumber 21 = .ok (.aload_n 0, 1) := by decide +kernel
theorem dX6_putNumber_22 : decode cX6_putNumber 22 = .ok (.getfield 15, 3) := by decide +kernel
theorem dX6_putNumber_25 : decode cX6_putNumber 25 = .ok (.iload_n 1, 1) := by decide +kernel
theorem dX6_putNumber_26 : decode cX6_putNumber 26 = .ok (.iload_n 2, 1) := by decide +kernel
theorem dX6_putNumber_27 : decode cX6_putNumber 27 = .ok (.iushr, 1) := by decide +kernel
theorem dX6_putNumber_28 : decode cX6_putNumber 28 = .ok (.sipush 255, 3) := by decide +kernel
theorem dX6_putNumber_31 : decode cX6_putNumber 31 = .ok (.iand, 1) := by decide +kernel
theorem dX6_putNumber_32 : decode cX6_putNumber 32 = .ok (.iastore, 1) := by decide +kernel
theorem dX6_putNumber_33 : decode cX6_putNumber 33 = .ok (.aload_n 0, 1) := by decide +kernel
theorem dX6_putNumber_34 : decode cX6_putNumber 34 = .ok (.dup, 1) := by decide +kernel
theorem dX6_putNumber_35 : decode cX6_putNumber 35 = .ok (.getfield 15, 3) := by decide +kernel
theorem dX6_putNumber_38 : decode cX6_putNumber 38 = .ok (.iconst 1, 1) := by decide +kernel
theorem dX6_putNumber_39 : decode cX6_putNumber 39 = .ok (.iadd, 1) := by decide +kernel
theorem dX6_putNumber_40 : decode cX6_putNumber 40 = .ok (.putfield 15, 3) := by decide +kernel
theorem dX6_putNumber_43 : decode cX6_putNumber 43 = .ok (.iinc 2 (-8), 3) := by decide +kernel
theorem dX6_putNumber_46 : decode cX6_putNumber 46 = .ok (.goto (-43), 3) := by decide +kernel
theorem dX6_putNumber_49 : decode cX6_putNumber 49 = .ok (.return_, 1) := by decide +kernel
theorem dX6_take_0 : decode cX6_take 0 = .ok (.iload_n 1, 1) := by decide +kernel
theorem dX6_take_1 : decode cX6_take 1 = .ok (.ifCond .lt 11, 3) := by decide +kernel
theorem dX6_take_4 : decode cX6_take 4 = .ok (.iload_n 1, 1) := by decide +kernel
theorem dX6_take_5 : decode cX6_take 5 = .ok (.aload_n 0, 1) := by decide +kernel
theorem dX6_take_6 : decode cX6_take 6 = .ok (.getfield 15, 3) := by decide +kernel
theorem dX6_take_9 : decode cX6_take 9 = .ok (.if_icmp .le 5, 3) := by decide +kernel
theorem dX6_take_12 : decode cX6_take 12 = .ok (.iconst 0, 1) := by decide +kernel
theorem dX6_take_13 : decode cX6_take 13 = .ok (.ireturn, 1) := by decide +kernel
theorem dX6_take_14 : decode cX6_take 14 = .ok (.aload_n 0, 1) := by decide +kernel
theorem dX6_take_15 : decode cX6_take 15 = .ok (.iload_n 1, 1) := by decide +kernel
theorem dX6_take_16 : decode cX6_take 16 = .ok (.putfield 19, 3) := by decide +kernel
theorem dX6_take_19 : decode cX6_take 19 = .ok (.aload_n 0, 1) := by decide +kernel
theorem dX6_take_20 : decode cX6_take 20 = .ok (.iconst 0, 1) := by decide +kernel
theorem dX6_take_21 : decode cX6_take 21 = .ok (.putfield 15, 3) := by decide +kernel
theorem dX6_take_24 : decode cX6_take 24 = .ok (.iconst 1, 1) := by decide +kernel
theorem dX6_take_25 : decode cX6_take 25 = .ok (.ireturn, 1) := by decide +kernel
theorem dX6_takenKey_0 : decode cX6_takenKey 0 = .ok (.lconst 0, 1) := by decide +kernel
theorem dX6_takenKey_1 : decode cX6_takenKey 1 = .ok (.lstore_n 1, 1) := by decide +kernel
theorem dX6_takenKey_2 : decode cX6_takenKey 2 = .ok (.iconst 0, 1) := by decide +kernel
theorem dX6_takenKey_3 : decode cX6_takenKey 3 = .ok (.istore_n 3, 1) := by decide +kernel
theorem dX6_takenKey_4 : decode cX6_takenKey 4 = .ok (.iload_n 3, 1) := by decide +kernel
theorem dX6_takenKey_5 : decode cX6_takenKey 5 = .ok (.aload_n 0, 1) := by decide +kernel
theorem dX6_takenKey_6 : decode cX6_takenKey 6 = .ok (.getfield 19, 3) := by decide +kernel
theorem dX6_takenKey_9 : decode cX6_takenKey 9 = .ok (.if_icmp .ge 20, 3) := by decide +kernel
theorem dX6_takenKey_12 : decode cX6_takenKey 12 = .ok (.lload_n 1, 1) := by decide +kernel
theorem dX6_takenKey_13 : decode cX6_takenKey 13 = .ok (.iconst 5, 1) := by decide +kernel
theorem dX6_takenKey_14 : decode cX6_takenKey 14 = .ok (.lshl, 1) := by decide +kernel
theorem dX6_takenKey_15 : decode cX6_takenKey 15 = .ok (.aload_n 0, 1) := by decide +kernel
theorem dX6_takenKey_16 : decode cX6_takenKey 16 = .ok (.iload_n 3, 1) := by decide +kernel
theorem dX6_takenKey_17 : decode cX6_takenKey 17 = .ok (.invokevirtual 32, 3) := by decide +kernel
theorem dX6_takenKey_20 : decode cX6_takenKey 20 = .ok (.i2l, 1) := by decide +kernel
theorem dX6_takenKey_21 : decode cX6_takenKey 21 = .ok (.lor, 1) := by decide +kernel
theorem dX6_takenKey_22 : decode cX6_takenKey 22 = .ok (.lstore_n 1, 1) := by decide +kernel
theorem dX6_takenKey_23 : decode cX6_takenKey 23 = .ok (.iinc 3 1, 3) := by decide +kernel
theorem dX6_takenKey_26 : decode cX6_takenKey 26 = .ok (.goto (-22), 3) := by decide +kernel
theorem dX6_takenKey_29 : decode cX6_takenKey 29 = .ok (.lload_n 1, 1) := by decide +kernel
theorem dX6_takenKey_30 : decode cX6_takenKey 30 = .ok (.aload_n 0, 1) := by decide +kernel
theorem dX6_takenKey_31 : decode cX6_takenKey 31 = .ok (.getfield 19, 3) := by decide +kernel
theorem dX6_takenKey_34 : decode cX6_takenKey 34 = .ok (.invokestatic 35, 3) := by decide +kernel
theorem dX6_takenKey_37 : decode cX6_takenKey 37 = .ok (.lreturn, 1) := by decide +kernel
theorem dX7_areUsed_0 : decode cX7_areUsed 0 = .ok (.iconst 0, 1) := by decide +kernel
theorem dX7_areUsed_1 : decode cX7_areUsed 1 = .ok (.istore_n 1, 1) := by decide +kernel
theorem dX7_areUsed_2 : decode cX7_areUsed 2 = .ok (.iload_n 1, 1) := by decide +kernel
theorem dX7_areUsed_3 : decode cX7_areUsed 3 = .ok (.aload_n 0, 1) := by decide +kernel
theorem dX7_areUsed_4 : decode cX7_areUsed 4 = .ok (.getfield 47, 3) := by decide +kernel
theorem dX7_areUsed_7 : decode cX7_areUsed 7 = .ok (.if_icmp .ge 27, 3) := by decide +kernel
theorem dX7_areUsed_10 : decode cX7_areUsed 10 = .ok (.aload_n 0, 1) := by decide +kernel
theorem dX7_areUsed_11 : decode cX7_areUsed 11 = .ok (.getfield 31, 3) := by decide +kernel
theorem dX7_areUsed_14 : decode cX7_areUsed 14 = .ok (.aload_n 0, 1) := by decide +kernel
theorem dX7_areUsed_15 : decode cX7_areUsed 15 = .ok (.getfield 9, 3) := by decide +kernel
theorem dX7_areUsed_18 : decode cX7_areUsed 18 = .ok (.iload_n 1, 1) := by decide +kernel
theorem dX7_areUsed_19 : decode cX7_areUsed 19 = .ok (.iaload, 1) := by decide +kernel
theorem dX7_areUsed_20 : decode cX7_areUsed 20 = .ok (.invokevirtual 63, 3) := by decide +kernel
theorem dX7_areUsed_23 : decode cX7_areUsed 23 = .ok (.ifCond .ne 5, 3) := by decide +kernel
theorem dX7_areUsed_26 : decode cX7_areUsed 26 = .ok (.iconst 0, 1) := by decide +kernel
theorem dX7_areUsed_27 : decode cX7_areUsed 27 = .ok (.ireturn, 1) := by decide +kernel
theorem dX7_areUsed_28 : decode cX7_areUsed 28 = .ok (.iinc 1 1, 3) := by decide +kernel
theorem dX7_areUsed_31 : decode cX7_areUsed 31 = .ok (.goto (-29), 3) := by decide +kernel
theorem dX7_areUsed_34 : decode cX7_areUsed 34 = .ok (.iconst 1, 1) := by decide +kernel
theorem dX7_areUsed_35 : decode cX7_areUsed 35 = .ok (.ireturn, 1) := by decide +kernel
theorem dX7_costOnward_0 : decode cX7_costOnward 0 = .ok (.iload_n 1, 1) := by decide +kernel
theorem dX7_costOnward_1 : decode cX7_costOnward 1 = .ok (.iconst 1, 1) := by decide +kernel
theorem dX7_costOnward_2 : decode cX7_costOnward 2 = .ok (.aload_n 0, 1) := by decide +kernel
theorem dX7_costOnward_3 : decode cX7_costOnward 3 = .ok (.getfield 47, 3) := by decide +kernel
theorem dX7_costOnward_6 : decode cX7_costOnward 6 = .ok (.ishl, 1) := by decide +kernel
theorem dX7_costOnward_7 : decode cX7_costOnward 7 = .ok (.iconst 1, 1) := by decide +kernel
theorem dX7_costOnward_8 : decode cX7_costOnward 8 = .ok (.isub, 1) := by decide +kernel
theorem dX7_costOnward_9 : decode cX7_costOnward 9 = .ok (.if_icmp .ne 5, 3) := by decide +kernel
theorem dX7_costOnward_12 : decode cX7_costOnward 12 = .ok (.iconst 0, 1) := by decide +kernel
theorem dX7_costOnward_13 : decode cX7_costOnward 13 = .ok (.ireturn, 1) := by decide +kernel
theorem dX7_costOnward_14 : decode cX7_costOnward 14 = .ok (.ldc 78, 2) := by decide +kernel
theorem dX7_costOnward_16 : decode cX7_costOnward 16 = .ok (.istore_n 3, 1) := by decide +kernel
theorem dX7_costOnward_17 : decode cX7_costOnward 17 = .ok (.iconst 0, 1) := by decide +kernel
theorem dX7_costOnward_18 : decode cX7_costOnward 18 = .ok (.istore 4, 2) := by decide +kernel
theorem dX7_costOnward_20 : decode cX7_costOnward 20 = .ok (.iload 4, 2) := by decide +kernel
theorem dX7_costOnward_22 : decode cX7_costOnward 22 = .ok (.aload_n 0, 1) := by decide +kernel
theorem dX7_costOnward_23 : decode cX7_costOnward 23 = .ok (.getfield 47, 3) := by decide +kernel
theorem dX7_costOnward_26 : decode cX7_costOnward 26 = .ok (.if_icmp .ge 66, 3) := by decide +kernel
theorem dX7_costOnward_29 : decode cX7_costOnward 29 = .ok (.aload_n 0, 1) := by decide +kernel
theorem dX7_costOnward_30 : decode cX7_costOnward 30 = .ok (.getfield 15, 3) := by decide +kernel
theorem dX7_costOnward_33 : decode cX7_costOnward 33 = .ok (.iload_n 2, 1) := by decide +kernel
theorem dX7_costOnward_34 : decode cX7_costOnward 34 = .ok (.aload_n 0, 1) := by decide +kernel
theorem dX7_costOnward_35 : decode cX7_costOnward 35 = .ok (.getfield 47, 3) := by decide +kernel
theorem dX7_costOnward_38 : decode cX7_costOnward 38 = .ok (.imul, 1) := by decide +kernel
theorem dX7_costOnward_39 : decode cX7_costOnward 39 = .ok (.iload 4, 2) := by decide +kernel
theorem dX7_costOnward_41 : decode cX7_costOnward 41 = .ok (.iadd, 1) := by decide +kernel
theorem dX7_costOnward_42 : decode cX7_costOnward 42 = .ok (.iaload, 1) := by decide +kernel
theorem dX7_costOnward_43 : decode cX7_costOnward 43 = .ok (.istore 5, 2) := by decide +kernel
theorem dX7_costOnward_45 : decode cX7_costOnward 45 = .ok (.iload 5, 2) := by decide +kernel
theorem dX7_costOnward_47 : decode cX7_costOnward 47 = .ok (.ifCond .eq 39, 3) := by decide +kernel
theorem dX7_costOnward_50 : decode cX7_costOnward 50 = .ok (.iload_n 1, 1) := by decide +kernel
theorem dX7_costOnward_51 : decode cX7_costOnward 51 = .ok (.iload 4, 2) := by decide +kernel
theorem dX7_costOnward_53 : decode cX7_costOnward 53 = .ok (.iushr, 1) := by decide +kernel
theorem dX7_costOnward_54 : decode cX7_costOnward 54 = .ok (.iconst 1, 1) := by decide +kernel
theorem dX7_costOnward_55 : decode cX7_costOnward 55 = .ok (.iand, 1) := by decide +kernel
theorem dX7_costOnward_56 : decode cX7_costOnward 56 = .ok (.ifCond .ne 30, 3) := by decide +kernel
theorem dX7_costOnward_59 : decode cX7_costOnward 59 = .ok (.iload_n 3, 1) := by decide +kernel
theorem dX7_costOnward_60 : decode cX7_costOnward 60 = .ok (.iload 5, 2) := by decide +kernel
theorem dX7_costOnward_62 : decode cX7_costOnward 62 = .ok (.aload_n 0, 1) := by decide +kernel
theorem dX7_costOnward_63 : decode cX7_costOnward 63 = .ok (.getfield 18, 3) := by decide +kernel
theorem dX7_costOnward_66 : decode cX7_costOnward 66 = .ok (.iload_n 1, 1) := by decide +kernel
theorem dX7_costOnward_67 : decode cX7_costOnward 67 = .ok (.iconst 1, 1) := by decide +kernel
theorem dX7_costOnward_68 : decode cX7_costOnward 68 = .ok (.iload 4, 2) := by decide +kernel
theorem dX7_costOnward_70 : decode cX7_costOnward 70 = .ok (.ishl, 1) := by decide +kernel
theorem dX7_costOnward_71 : decode cX7_costOnward 71 = .ok (.ior, 1) := by decide +kernel
theorem dX7_costOnward_72 : decode cX7_costOnward 72 = .ok (.aload_n 0, 1) := by decide +kernel
theorem dX7_costOnward_73 : decode cX7_costOnward 73 = .ok (.getfield 47, 3) := by decide +kernel
theorem dX7_costOnward_76 : decode cX7_costOnward 76 = .ok (.imul, 1) := by decide +kernel
theorem dX7_costOnward_77 : decode cX7_costOnward 77 = .ok (.iload 4, 2) := by decide +kernel
theorem dX7_costOnward_79 : decode cX7_costOnward 79 = .ok (.iadd, 1) := by decide +kernel
theorem dX7_costOnward_80 : decode cX7_costOnward 80 = .ok (.iaload, 1) := by decide +kernel
theorem dX7_costOnward_81 : decode cX7_costOnward 81 = .ok (.iadd, 1) := by decide +kernel
theorem dX7_costOnward_82 : decode cX7_costOnward 82 = .ok (.invokestatic 82, 3) := by decide +kernel
theorem dX7_costOnward_85 : decode cX7_costOnward 85 = .ok (.istore_n 3, 1) := by decide +kernel
theorem dX7_costOnward_86 : decode cX7_costOnward 86 = .ok (.iinc 4 1, 3) := by decide +kernel
theorem dX7_costOnward_89 : decode cX7_costOnward 89 = .ok (.goto (-69), 3) := by decide +kernel
theorem dX7_costOnward_92 : decode cX7_costOnward 92 = .ok (.iload_n 3, 1) := by decide +kernel
theorem dX7_costOnward_93 : decode cX7_costOnward 93 = .ok (.ireturn, 1) := by decide +kernel
theorem dX7_findRow_0 : decode cX7_findRow 0 = .ok (.aload_n 0, 1) := by decide +kernel
theorem dX7_findRow_1 : decode cX7_findRow 1 = .ok (.getfield 47, 3) := by decide +kernel
theorem dX7_findRow_4 : decode cX7_findRow 4 = .ok (.bipush 10, 2) := by decide +kernel
theorem dX7_findRow_6 : decode cX7_findRow 6 = .ok (.if_icmp .le 5, 3) := by decide +kernel
theorem dX7_findRow_9 : decode cX7_findRow 9 = .ok (.iconst 0, 1) := by decide +kernel
theorem dX7_findRow_10 : decode cX7_findRow 10 = .ok (.ireturn, 1) := by decide +kernel
theorem dX7_findRow_11 : decode cX7_findRow 11 = .ok (.aload_n 0, 1) := by decide +kernel
theorem dX7_findRow_12 : decode cX7_findRow 12 = .ok (.invokevirtual 66, 3) := by decide +kernel
theorem dX7_findRow_15 : decode cX7_findRow 15 = .ok (.iconst 0, 1) := by decide +kernel
theorem dX7_findRow_16 : decode cX7_findRow 16 = .ok (.istore_n 1, 1) := by decide +kernel
theorem dX7_findRow_17 : decode cX7_findRow 17 = .ok (.iload_n 1, 1) := by decide +kernel
theorem dX7_findRow_18 : decode cX7_findRow 18 = .ok (.aload_n 0, 1) := by decide +kernel
theorem dX7_findRow_19 : decode cX7_findRow 19 = .ok (.getfield 47, 3) := by decide +kernel
theorem dX7_findRow_22 : decode cX7_findRow 22 = .ok (.if_icmp .ge 57, 3) := by decide +kernel
theorem dX7_findRow_25 : decode cX7_findRow 25 = .ok (.iconst 0, 1) := by decide +kernel
theorem dX7_findRow_26 : decode cX7_findRow 26 = .ok (.istore_n 2, 1) := by decide +kernel
theorem dX7_findRow_27 : decode cX7_findRow 27 = .ok (.iload_n 2, 1) := by decide +kernel
theorem dX7_findRow_28 : decode cX7_findRow 28 = .ok (.aload_n 0, 1) := by decide +kernel
theorem dX7_findRow_29 : decode cX7_findRow 29 = .ok (.getfield 47, 3) := by decide +kernel
theorem dX7_findRow_32 : decode cX7_findRow 32 = .ok (.if_icmp .ge 41, 3) := by decide +kernel
theorem dX7_findRow_35 : decode cX7_findRow 35 = .ok (.aload_n 0, 1) := by decide +kernel
theorem dX7_findRow_36 : decode cX7_findRow 36 = .ok (.getfield 15, 3) := by decide +kernel
theorem dX7_findRow_39 : decode cX7_findRow 39 = .ok (.iload_n 1, 1) := by decide +kernel
theorem dX7_findRow_40 : decode cX7_findRow 40 = .ok (.aload_n 0, 1) := by decide +kernel
theorem dX7_findRow_41 : decode cX7_findRow 41 = .ok (.getfield 47, 3) := by decide +kernel
theorem dX7_findRow_44 : decode cX7_findRow 44 = .ok (.imul, 1) := by decide +kernel
theorem dX7_findRow_45 : decode cX7_findRow 45 = .ok (.iload_n 2, 1) := by decide +kernel
theorem dX7_findRow_46 : decode cX7_findRow 46 = .ok (.iadd, 1) := by decide +kernel
theorem dX7_findRow_47 : decode cX7_findRow 47 = .ok (.aload_n 0, 1) := by decide +kernel
theorem dX7_findRow_48 : decode cX7_findRow 48 = .ok (.getfield 39, 3) := by decide +kernel
theorem dX7_findRow_51 : decode cX7_findRow 51 = .ok (.aload_n 0, 1) := by decide +kernel
theorem dX7_findRow_52 : decode cX7_findRow 52 = .ok (.getfield 9, 3) := by decide +kernel
theorem dX7_findRow_55 : decode cX7_findRow 55 = .ok (.iload_n 1, 1) := by decide +kernel
theorem dX7_findRow_56 : decode cX7_findRow 56 = .ok (.iaload, 1) := by decide +kernel
theorem dX7_findRow_57 : decode cX7_findRow 57 = .ok (.aload_n 0, 1) := by decide +kernel
theorem dX7_findRow_58 : decode cX7_findRow 58 = .ok (.getfield 9, 3) := by decide +kernel
theorem dX7_findRow_61 : decode cX7_findRow 61 = .ok (.iload_n 2, 1) := by decide +kernel
theorem dX7_findRow_62 : decode cX7_findRow 62 = .ok (.iaload, 1) := by decide +kernel
theorem dX7_findRow_63 : decode cX7_findRow 63 = .ok (.invokevirtual 69, 3) := by decide +kernel
theorem dX7_findRow_66 : decode cX7_findRow 66 = .ok (.iastore, 1) := by decide +kernel
theorem dX7_findRow_67 : decode cX7_findRow 67 = .ok (.iinc 2 1, 3) := by decide +kernel
theorem dX7_findRow_70 : decode cX7_findRow 70 = .ok (.goto (-43), 3) := by decide +kernel
theorem dX7_findRow_73 : decode cX7_findRow 73 = .ok (.iinc 1 1, 3) := by decide +kernel
theorem dX7_findRow_76 : decode cX7_findRow 76 = .ok (.goto (-59), 3) := by decide +kernel
theorem dX7_findRow_79 : decode cX7_findRow 79 = .ok (.iconst 1, 1) := by decide +kernel
theorem dX7_findRow_80 : decode cX7_findRow 80 = .ok (.aload_n 0, 1) := by decide +kernel
theorem dX7_findRow_81 : decode cX7_findRow 81 = .ok (.getfield 47, 3) := by decide +kernel
theorem dX7_findRow_84 : decode cX7_findRow 84 = .ok (.ishl, 1) := by decide +kernel
theorem dX7_findRow_85 : decode cX7_findRow 85 = .ok (.iconst 1, 1) := by decide +kernel
theorem dX7_findRow_86 : decode cX7_findRow 86 = .ok (.isub, 1) := by decide +kernel
theorem dX7_findRow_87 : decode cX7_findRow 87 = .ok (.istore_n 1, 1) := by decide +kernel
theorem dX7_findRow_88 : decode cX7_findRow 88 = .ok (.iload_n 1, 1) := by decide +kernel
theorem dX7_findRow_89 : decode cX7_findRow 89 = .ok (.ifCond .le 52, 3) := by decide +kernel
theorem dX7_findRow_92 : decode cX7_findRow 92 = .ok (.iconst 0, 1) := by decide +kernel
theorem dX7_findRow_93 : decode cX7_findRow 93 = .ok (.istore_n 2, 1) := by decide +kernel
theorem dX7_findRow_94 : decode cX7_findRow 94 = .ok (.iload_n 2, 1) := by decide +kernel
theorem dX7_findRow_95 : decode cX7_findRow 95 = .ok (.aload_n 0, 1) := by decide +kernel
theorem dX7_findRow_96 : decode cX7_findRow 96 = .ok (.getfield 47, 3) := by decide +kernel
theorem dX7_findRow_99 : decode cX7_findRow 99 = .ok (.if_icmp .ge 36, 3) := by decide +kernel
theorem dX7_findRow_102 : decode cX7_findRow 102 = .ok (.iload_n 1, 1) := by decide +kernel
theorem dX7_findRow_103 : decode cX7_findRow 103 = .ok (.iload_n 2, 1) := by decide +kernel
theorem dX7_findRow_104 : decode cX7_findRow 104 = .ok (.iushr, 1) := by decide +kernel
theorem dX7_findRow_105 : decode cX7_findRow 105 = .ok (.iconst 1, 1) := by decide +kernel
theorem dX7_findRow_106 : decode cX7_findRow 106 = .ok (.iand, 1) := by decide +kernel
theorem dX7_findRow_107 : decode cX7_findRow 107 = .ok (.ifCond .eq 22, 3) := by decide +kernel
theorem dX7_findRow_110 : decode cX7_findRow 110 = .ok (.aload_n 0, 1) := by decide +kernel
theorem dX7_findRow_111 : decode cX7_findRow 111 = .ok (.getfield 18, 3) := by decide +kernel
theorem dX7_findRow_114 : decode cX7_findRow 114 = .ok (.iload_n 1, 1) := by decide +kernel
theorem dX7_findRow_115 : decode cX7_findRow 115 = .ok (.aload_n 0, 1) := by decide +kernel
theorem dX7_findRow_116 : decode cX7_findRow 116 = .ok (.getfield 47, 3) := by decide +kernel
theorem dX7_findRow_119 : decode cX7_findRow 119 = .ok (.imul, 1) := by decide +kernel
theorem dX7_findRow_120 : decode cX7_findRow 120 = .ok (.iload_n 2, 1) := by decide +kernel
theorem dX7_findRow_121 : decode cX7_findRow 121 = .ok (.iadd, 1) := by decide +kernel
theorem dX7_findRow_122 : decode cX7_findRow 122 = .ok (.aload_n 0, 1) := by decide +kernel
theorem dX7_findRow_123 : decode cX7_findRow 123 = .ok (.iload_n 1, 1) := by decide +kernel
theorem dX7_findRow_124 : decode cX7_findRow 124 = .ok (.iload_n 2, 1) := by decide +kernel
theorem dX7_findRow_125 : decode cX7_findRow 125 = .ok (.invokevirtual 75, 3) := by decide +kernel
theorem dX7_findRow_128 : decode cX7_findRow 128 = .ok (.iastore, 1) := by decide +kernel
theorem dX7_findRow_129 : decode cX7_findRow 129 = .ok (.iinc 2 1, 3) := by decide +kernel
theorem dX7_findRow_132 : decode cX7_findRow 132 = .ok (.goto (-38), 3) := by decide +kernel
theorem dX7_findRow_135 : decode cX7_findRow 135 = .ok (.iinc 1 (-1), 3) := by decide +kernel
theorem dX7_findRow_138 : decode cX7_findRow 138 = .ok (.goto (-50), 3) := by decide +kernel
theorem dX7_findRow_141 : decode cX7_findRow 141 = .ok (.aload_n 0, 1) := by decide +kernel
theorem dX7_findRow_142 : decode cX7_findRow 142 = .ok (.ldc 78, 2) := by decide +kernel
theorem dX7_findRow_144 : decode cX7_findRow 144 = .ok (.putfield 79, 3) := by decide +kernel
theorem dX7_findRow_147 : decode cX7_findRow 147 = .ok (.iconst 0, 1) := by decide +kernel
theorem dX7_findRow_148 : decode cX7_findRow 148 = .ok (.istore_n 1, 1) := by decide +kernel
theorem dX7_findRow_149 : decode cX7_findRow 149 = .ok (.iload_n 1, 1) := by decide +kernel
theorem dX7_findRow_150 : decode cX7_findRow 150 = .ok (.aload_n 0, 1) := by decide +kernel
theorem dX7_findRow_151 : decode cX7_findRow 151 = .ok (.getfield 47, 3) := by decide +kernel
theorem dX7_findRow_154 : decode cX7_findRow 154 = .ok (.if_icmp .ge 33, 3) := by decide +kernel
theorem dX7_findRow_157 : decode cX7_findRow 157 = .ok (.aload_n 0, 1) := by decide +kernel
theorem dX7_findRow_158 : decode cX7_findRow 158 = .ok (.aload_n 0, 1) := by decide +kernel
theorem dX7_findRow_159 : decode cX7_findRow 159 = .ok (.getfield 79, 3) := by decide +kernel
theorem dX7_findRow_162 : decode cX7_findRow 162 = .ok (.aload_n 0, 1) := by decide +kernel
theorem dX7_findRow_163 : decode cX7_findRow 163 = .ok (.getfield 18, 3) := by decide +kernel
theorem dX7_findRow_166 : decode cX7_findRow 166 = .ok (.aload_n 0, 1) := by decide +kernel
theorem dX7_findRow_167 : decode cX7_findRow 167 = .ok (.getfield 47, 3) := by decide +kernel
theorem dX7_findRow_170 : decode cX7_findRow 170 = .ok (.iload_n 1, 1) := by decide +kernel
theorem dX7_findRow_171 : decode cX7_findRow 171 = .ok (.ishl, 1) := by decide +kernel
theorem dX7_findRow_172 : decode cX7_findRow 172 = .ok (.iload_n 1, 1) := by decide +kernel
theorem dX7_findRow_173 : decode cX7_findRow 173 = .ok (.iadd, 1) := by decide +kernel
theorem dX7_findRow_174 : decode cX7_findRow 174 = .ok (.iaload, 1) := by decide +kernel
theorem dX7_findRow_175 : decode cX7_findRow 175 = .ok (.invokestatic 82, 3) := by decide +kernel
theorem dX7_findRow_178 : decode cX7_findRow 178 = .ok (.putfield 79, 3) := by decide +kernel
theorem dX7_findRow_181 : decode cX7_findRow 181 = .ok (.iinc 1 1, 3) := by decide +kernel
theorem dX7_findRow_184 : decode cX7_findRow 184 = .ok (.goto (-35), 3) := by decide +kernel
theorem dX7_findRow_187 : decode cX7_findRow 187 = .ok (.aload_n 0, 1) := by decide +kernel
theorem dX7_findRow_188 : decode cX7_findRow 188 = .ok (.getfield 79, 3) := by decide +kernel
theorem dX7_findRow_191 : decode cX7_findRow 191 = .ok (.ldc 78, 2) := by decide +kernel
theorem dX7_findRow_193 : decode cX7_findRow 193 = .ok (.if_icmp .ge 7, 3) := by decide +kernel
theorem dX7_findRow_196 : decode cX7_findRow 196 = .ok (.iconst 1, 1) := by decide +kernel
theorem dX7_findRow_197 : decode cX7_findRow 197 = .ok (.goto 4, 3) := by decide +kernel
theorem dX7_findRow_200 : decode cX7_findRow 200 = .ok (.iconst 0, 1) := by decide +kernel
theorem dX7_findRow_201 : decode cX7_findRow 201 = .ok (.ireturn, 1) := by decide +kernel
theorem dX7_findStepBits_0 : decode cX7_findStepBits 0 = .ok (.iconst 0, 1) := by decide +kernel
theorem dX7_findStepBits_1 : decode cX7_findStepBits 1 = .ok (.istore_n 1, 1) := by decide +kernel
theorem dX7_findStepBits_2 : decode cX7_findStepBits 2 = .ok (.iload_n 1, 1) := by decide +kernel
theorem dX7_findStepBits_3 : decode cX7_findStepBits 3 = .ok (.aload_n 0, 1) := by decide +kernel
theorem dX7_findStepBits_4 : decode cX7_findStepBits 4 = .ok (.getfield 47, 3) := by decide +kernel
theorem dX7_findStepBits_7 : decode cX7_findStepBits 7 = .ok (.if_icmp .ge 72, 3) := by decide +kernel
theorem dX7_findStepBits_10 : decode cX7_findStepBits 10 = .ok (.iload_n 1, 1) := by decide +kernel
theorem dX7_findStepBits_11 : decode cX7_findStepBits 11 = .ok (.bipush 12, 2) := by decide +kernel
theorem dX7_findStepBits_13 : decode cX7_findStepBits 13 = .ok (.if_icmp .ge 66, 3) := by decide +kernel
theorem dX7_findStepBits_16 : decode cX7_findStepBits 16 = .ok (.aload_n 0, 1) := by decide +kernel
theorem dX7_findStepBits_17 : decode cX7_findStepBits 17 = .ok (.getfield 21, 3) := by decide +kernel
theorem dX7_findStepBits_20 : decode cX7_findStepBits 20 = .ok (.iload_n 1, 1) := by decide +kernel
theorem dX7_findStepBits_21 : decode cX7_findStepBits 21 = .ok (.iconst 0, 1) := by decide +kernel
theorem dX7_findStepBits_22 : decode cX7_findStepBits 22 = .ok (.iastore, 1) := by decide +kernel
theorem dX7_findStepBits_23 : decode cX7_findStepBits 23 = .ok (.iconst 0, 1) := by decide +kernel
theorem dX7_findStepBits_24 : decode cX7_findStepBits 24 = .ok (.istore_n 2, 1) := by decide +kernel
theorem dX7_findStepBits_25 : decode cX7_findStepBits 25 = .ok (.iload_n 2, 1) := by decide +kernel
theorem dX7_findStepBits_26 : decode cX7_findStepBits 26 = .ok (.aload_n 0, 1) := by decide +kernel
theorem dX7_findStepBits_27 : decode cX7_findStepBits 27 = .ok (.getfield 47, 3) := by decide +kernel
theorem dX7_findStepBits_30 : decode cX7_findStepBits 30 = .ok (.if_icmp .ge 43, 3) := by decide +kernel
theorem dX7_findStepBits_33 : decode cX7_findStepBits 33 = .ok (.aload_n 0, 1) := by decide +kernel
theorem dX7_findStepBits_34 : decode cX7_findStepBits 34 = .ok (.getfield 39, 3) := by decide +kernel
theorem dX7_findStepBits_37 : decode cX7_findStepBits 37 = .ok (.aload_n 0, 1) := by decide +kernel
theorem dX7_findStepBits_38 : decode cX7_findStepBits 38 = .ok (.getfield 9, 3) := by decide +kernel
theorem dX7_findStepBits_41 : decode cX7_findStepBits 41 = .ok (.iload_n 1, 1) := by decide +kernel
theorem dX7_findStepBits_42 : decode cX7_findStepBits 42 = .ok (.iaload, 1) := by decide +kernel
theorem dX7_findStepBits_43 : decode cX7_findStepBits 43 = .ok (.aload_n 0, 1) := by decide +kernel
theorem dX7_findStepBits_44 : decode cX7_findStepBits 44 = .ok (.getfield 9, 3) := by decide +kernel
theorem dX7_findStepBits_47 : decode cX7_findStepBits 47 = .ok (.iload_n 2, 1) := by decide +kernel
theorem dX7_findStepBits_48 : decode cX7_findStepBits 48 = .ok (.iaload, 1) := by decide +kernel
theorem dX7_findStepBits_49 : decode cX7_findStepBits 49 = .ok (.invokevirtual 100, 3) := by decide +kernel
theorem dX7_findStepBits_52 : decode cX7_findStepBits 52 = .ok (.ifCond .eq 15, 3) := by decide +kernel
theorem dX7_findStepBits_55 : decode cX7_findStepBits 55 = .ok (.aload_n 0, 1) := by decide +kernel
theorem dX7_findStepBits_56 : decode cX7_findStepBits 56 = .ok (.getfield 21, 3) := by decide +kernel
theorem dX7_findStepBits_59 : decode cX7_findStepBits 59 = .ok (.iload_n 1, 1) := by decide +kernel
theorem dX7_findStepBits_60 : decode cX7_findStepBits 60 = .ok (.dup2, 1) := by decide +kernel
theorem dX7_findStepBits_61 : decode cX7_findStepBits 61 = .ok (.iaload, 1) := by decide +kernel
theorem dX7_findStepBits_62 : decode cX7_findStepBits 62 = .ok (.iconst 1, 1) := by decide +kernel
theorem dX7_findStepBits_63 : decode cX7_findStepBits 63 = .ok (.iload_n 2, 1) := by decide +kernel
theorem dX7_findStepBits_64 : decode cX7_findStepBits 64 = .ok (.ishl, 1) := by decide +kernel
theorem dX7_findStepBits_65 : decode cX7_findStepBits 65 = .ok (.ior, 1) := by decide +kernel
theorem dX7_findStepBits_66 : decode cX7_findStepBits 66 = .ok (.iastore, 1) := by decide +kernel
theorem dX7_findStepBits_67 : decode cX7_findStepBits 67 = .ok (.iinc 2 1, 3) := by decide +kernel
theorem dX7_findStepBits_70 : decode cX7_findStepBits 70 = .ok (.goto (-45), 3) := by decide +kernel
theorem dX7_findStepBits_73 : decode cX7_findStepBits 73 = .ok (.iinc 1 1, 3) := by decide +kernel
theorem dX7_findStepBits_76 : decode cX7_findStepBits 76 = .ok (.goto (-74), 3) := by decide +kernel
theorem dX7_findStepBits_79 : decode cX7_findStepBits 79 = .ok (.return_, 1) := by decide +kernel
theorem dX7_lostAfter_0 : decode cX7_lostAfter 0 = .ok (.iconst 0, 1) := by decide +kernel
theorem dX7_lostAfter_1 : decode cX7_lostAfter 1 = .ok (.istore_n 2, 1) := by decide +kernel
theorem dX7_lostAfter_2 : decode cX7_lostAfter 2 = .ok (.iconst 0, 1) := by decide +kernel
theorem dX7_lostAfter_3 : decode cX7_lostAfter 3 = .ok (.istore_n 3, 1) := by decide +kernel
theorem dX7_lostAfter_4 : decode cX7_lostAfter 4 = .ok (.iload_n 3, 1) := by decide +kernel
theorem dX7_lostAfter_5 : decode cX7_lostAfter 5 = .ok (.aload_n 0, 1) := by decide +kernel
theorem dX7_lostAfter_6 : decode cX7_lostAfter 6 = .ok (.getfield 47, 3) := by decide +kernel
theorem dX7_lostAfter_9 : decode cX7_lostAfter 9 = .ok (.if_icmp .ge 41, 3) := by decide +kernel
theorem dX7_lostAfter_12 : decode cX7_lostAfter 12 = .ok (.iconst 1, 1) := by decide +kernel
theorem dX7_lostAfter_13 : decode cX7_lostAfter 13 = .ok (.iload_n 3, 1) := by decide +kernel
theorem dX7_lostAfter_14 : decode cX7_lostAfter 14 = .ok (.ishl, 1) := by decide +kernel
theorem dX7_lostAfter_15 : decode cX7_lostAfter 15 = .ok (.istore 4, 2) := by decide +kernel
theorem dX7_lostAfter_17 : decode cX7_lostAfter 17 = .ok (.iload_n 1, 1) := by decide +kernel
theorem dX7_lostAfter_18 : decode cX7_lostAfter 18 = .ok (.iload 4, 2) := by decide +kernel
theorem dX7_lostAfter_20 : decode cX7_lostAfter 20 = .ok (.iand, 1) := by decide +kernel
theorem dX7_lostAfter_21 : decode cX7_lostAfter 21 = .ok (.ifCond .ne 23, 3) := by decide +kernel
theorem dX7_lostAfter_24 : decode cX7_lostAfter 24 = .ok (.aload_n 0, 1) := by decide +kernel
theorem dX7_lostAfter_25 : decode cX7_lostAfter 25 = .ok (.getfield 24, 3) := by decide +kernel
theorem dX7_lostAfter_28 : decode cX7_lostAfter 28 = .ok (.iload_n 1, 1) := by decide +kernel
theorem dX7_lostAfter_29 : decode cX7_lostAfter 29 = .ok (.iload 4, 2) := by decide +kernel
theorem dX7_lostAfter_31 : decode cX7_lostAfter 31 = .ok (.ior, 1) := by decide +kernel
theorem dX7_lostAfter_32 : decode cX7_lostAfter 32 = .ok (.iaload, 1) := by decide +kernel
theorem dX7_lostAfter_33 : decode cX7_lostAfter 33 = .ok (.iload 4, 2) := by decide +kernel
theorem dX7_lostAfter_35 : decode cX7_lostAfter 35 = .ok (.iand, 1) := by decide +kernel
theorem dX7_lostAfter_36 : decode cX7_lostAfter 36 = .ok (.ifCond .ne 8, 3) := by decide +kernel
theorem dX7_lostAfter_39 : decode cX7_lostAfter 39 = .ok (.iload_n 2, 1) := by decide +kernel
theorem dX7_lostAfter_40 : decode cX7_lostAfter 40 = .ok (.iload 4, 2) := by decide +kernel
theorem dX7_lostAfter_42 : decode cX7_lostAfter 42 = .ok (.ior, 1) := by decide +kernel
theorem dX7_lostAfter_43 : decode cX7_lostAfter 43 = .ok (.istore_n 2, 1) := by decide +kernel
theorem dX7_lostAfter_44 : decode cX7_lostAfter 44 = .ok (.iinc 3 1, 3) := by decide +kernel
theorem dX7_lostAfter_47 : decode cX7_lostAfter 47 = .ok (.goto (-43), 3) := by decide +kernel
theorem dX7_lostAfter_50 : decode cX7_lostAfter 50 = .ok (.iload_n 2, 1) := by decide +kernel
theorem dX7_lostAfter_51 : decode cX7_lostAfter 51 = .ok (.ireturn, 1) := by decide +kernel
theorem dX7_mostApart_0 : decode cX7_mostApart 0 = .ok (.iconst 0, 1) := by decide +kernel
theorem dX7_mostApart_1 : decode cX7_mostApart 1 = .ok (.istore_n 2, 1) := by decide +kernel
theorem dX7_mostApart_2 : decode cX7_mostApart 2 = .ok (.aload_n 0, 1) := by decide +kernel
theorem dX7_mostApart_3 : decode cX7_mostApart 3 = .ok (.getfield 27, 3) := by decide +kernel
theorem dX7_mostApart_6 : decode cX7_mostApart 6 = .ok (.iconst 0, 1) := by decide +kernel
theorem dX7_mostApart_7 : decode cX7_mostApart 7 = .ok (.iconst 1, 1) := by decide +kernel
theorem dX7_mostApart_8 : decode cX7_mostApart 8 = .ok (.bastore, 1) := by decide +kernel
theorem dX7_mostApart_9 : decode cX7_mostApart 9 = .ok (.iconst 0, 1) := by decide +kernel
theorem dX7_mostApart_10 : decode cX7_mostApart 10 = .ok (.istore_n 3, 1) := by decide +kernel
theorem dX7_mostApart_11 : decode cX7_mostApart 11 = .ok (.iload_n 3, 1) := by decide +kernel
theorem dX7_mostApart_12 : decode cX7_mostApart 12 = .ok (.aload_n 0, 1) := by decide +kernel
theorem dX7_mostApart_13 : decode cX7_mostApart 13 = .ok (.getfield 47, 3) := by decide +kernel
theorem dX7_mostApart_16 : decode cX7_mostApart 16 = .ok (.if_icmp .ge 97, 3) := by decide +kernel
theorem dX7_mostApart_19 : decode cX7_mostApart 19 = .ok (.aload_n 0, 1) := by decide +kernel
theorem dX7_mostApart_20 : decode cX7_mostApart 20 = .ok (.iload_n 3, 1) := by decide +kernel
theorem dX7_mostApart_21 : decode cX7_mostApart 21 = .ok (.iload_n 1, 1) := by decide +kernel
theorem dX7_mostApart_22 : decode cX7_mostApart 22 = .ok (.invokevirtual 104, 3) := by decide +kernel
theorem dX7_mostApart_25 : decode cX7_mostApart 25 = .ok (.istore 4, 2) := by decide +kernel
theorem dX7_mostApart_27 : decode cX7_mostApart 27 = .ok (.iconst 0, 1) := by decide +kernel
theorem dX7_mostApart_28 : decode cX7_mostApart 28 = .ok (.istore 5, 2) := by decide +kernel
theorem dX7_mostApart_30 : decode cX7_mostApart 30 = .ok (.iload 5, 2) := by decide +kernel
theorem dX7_mostApart_32 : decode cX7_mostApart 32 = .ok (.iconst 1, 1) := by decide +kernel
theorem dX7_mostApart_33 : decode cX7_mostApart 33 = .ok (.iload_n 3, 1) := by decide +kernel
theorem dX7_mostApart_34 : decode cX7_mostApart 34 = .ok (.ishl, 1) := by decide +kernel
theorem dX7_mostApart_35 : decode cX7_mostApart 35 = .ok (.if_icmp .ge 72, 3) := by decide +kernel
theorem dX7_mostApart_38 : decode cX7_mostApart 38 = .ok (.iload 5, 2) := by decide +kernel
theorem dX7_mostApart_40 : decode cX7_mostApart 40 = .ok (.iconst 1, 1) := by decide +kernel
theorem dX7_mostApart_41 : decode cX7_mostApart 41 = .ok (.iload_n 3, 1) := by decide +kernel
theorem dX7_mostApart_42 : decode cX7_mostApart 42 = .ok (.ishl, 1) := by decide +kernel
theorem dX7_mostApart_43 : decode cX7_mostApart 43 = .ok (.ior, 1) := by decide +kernel
theorem dX7_mostApart_44 : decode cX7_mostApart 44 = .ok (.istore 6, 2) := by decide +kernel
theorem dX7_mostApart_46 : decode cX7_mostApart 46 = .ok (.aload_n 0, 1) := by decide +kernel
theorem dX7_mostApart_47 : decode cX7_mostApart 47 = .ok (.getfield 27, 3) := by decide +kernel
theorem dX7_mostApart_50 : decode cX7_mostApart 50 = .ok (.iload 6, 2) := by decide +kernel
theorem dX7_mostApart_52 : decode cX7_mostApart 52 = .ok (.aload_n 0, 1) := by decide +kernel
theorem dX7_mostApart_53 : decode cX7_mostApart 53 = .ok (.getfield 27, 3) := by decide +kernel
theorem dX7_mostApart_56 : decode cX7_mostApart 56 = .ok (.iload 5, 2) := by decide +kernel
theorem dX7_mostApart_58 : decode cX7_mostApart 58 = .ok (.baload, 1) := by decide +kernel
theorem dX7_mostApart_59 : decode cX7_mostApart 59 = .ok (.ifCond .eq 15, 3) := by decide +kernel
theorem dX7_mostApart_62 : decode cX7_mostApart 62 = .ok (.iload 5, 2) := by decide +kernel
theorem dX7_mostApart_64 : decode cX7_mostApart 64 = .ok (.iload 4, 2) := by decide +kernel
theorem dX7_mostApart_66 : decode cX7_mostApart 66 = .ok (.iand, 1) := by decide +kernel
theorem dX7_mostApart_67 : decode cX7_mostApart 67 = .ok (.ifCond .ne 7, 3) := by decide +kernel
theorem dX7_mostApart_70 : decode cX7_mostApart 70 = .ok (.iconst 1, 1) := by decide +kernel
theorem dX7_mostApart_71 : decode cX7_mostApart 71 = .ok (.goto 4, 3) := by decide +kernel
theorem dX7_mostApart_74 : decode cX7_mostApart 74 = .ok (.iconst 0, 1) := by decide +kernel
theorem dX7_mostApart_75 : decode cX7_mostApart 75 = .ok (.bastore, 1) := by decide +kernel
theorem dX7_mostApart_76 : decode cX7_mostApart 76 = .ok (.aload_n 0, 1) := by decide +kernel
theorem dX7_mostApart_77 : decode cX7_mostApart 77 = .ok (.getfield 27, 3) := by decide +kernel
theorem dX7_mostApart_80 : decode cX7_mostApart 80 = .ok (.iload 6, 2) := by decide +kernel
theorem dX7_mostApart_82 : decode cX7_mostApart 82 = .ok (.baload, 1) := by decide +kernel
theorem dX7_mostApart_83 : decode cX7_mostApart 83 = .ok (.ifCond .eq 18, 3) := by decide +kernel
theorem dX7_mostApart_86 : decode cX7_mostApart 86 = .ok (.iload 6, 2) := by decide +kernel
theorem dX7_mostApart_88 : decode cX7_mostApart 88 = .ok (.invokestatic 107, 3) := by decide +kernel
theorem dX7_mostApart_91 : decode cX7_mostApart 91 = .ok (.iload_n 2, 1) := by decide +kernel
theorem dX7_mostApart_92 : decode cX7_mostApart 92 = .ok (.invokestatic 107, 3) := by decide +kernel
theorem dX7_mostApart_95 : decode cX7_mostApart 95 = .ok (.if_icmp .le 6, 3) := by decide +kernel
theorem dX7_mostApart_98 : decode cX7_mostApart 98 = .ok (.iload 6, 2) := by decide +kernel
theorem dX7_mostApart_100 : decode cX7_mostApart 100 = .ok (.istore_n 2, 1) := by decide +kernel
theorem dX7_mostApart_101 : decode cX7_mostApart 101 = .ok (.iinc 5 1, 3) := by decide +kernel
theorem dX7_mostApart_104 : decode cX7_mostApart 104 = .ok (.goto (-74), 3) := by decide +kernel
theorem dX7_mostApart_107 : decode cX7_mostApart 107 = .ok (.iinc 3 1, 3) := by decide +kernel
theorem dX7_mostApart_110 : decode cX7_mostApart 110 = .ok (.goto (-99), 3) := by decide +kernel
theorem dX7_mostApart_113 : decode cX7_mostApart 113 = .ok (.iload_n 2, 1) := by decide +kernel
theorem dX7_mostApart_114 : decode cX7_mostApart 114 = .ok (.ireturn, 1) := by decide +kernel
theorem dX7_placesFrom_0 : decode cX7_placesFrom 0 = .ok (.iconst 0, 1) := by decide +kernel
theorem dX7_placesFrom_1 : decode cX7_placesFrom 1 = .ok (.istore_n 2, 1) := by decide +kernel
theorem dX7_placesFrom_2 : decode cX7_placesFrom 2 = .ok (.iconst 0, 1) := by decide +kernel
theorem dX7_placesFrom_3 : decode cX7_placesFrom 3 = .ok (.istore_n 3, 1) := by decide +kernel
theorem dX7_placesFrom_4 : decode cX7_placesFrom 4 = .ok (.iload_n 1, 1) := by decide +kernel
theorem dX7_placesFrom_5 : decode cX7_placesFrom 5 = .ok (.ifCond .eq 40, 3) := by decide +kernel
theorem dX7_placesFrom_8 : decode cX7_placesFrom 8 = .ok (.iload_n 3, 1) := by decide +kernel
theorem dX7_placesFrom_9 : decode cX7_placesFrom 9 = .ok (.aload_n 0, 1) := by decide +kernel
theorem dX7_placesFrom_10 : decode cX7_placesFrom 10 = .ok (.getfield 47, 3) := by decide +kernel
theorem dX7_placesFrom_13 : decode cX7_placesFrom 13 = .ok (.if_icmp .ge 32, 3) := by decide +kernel
theorem dX7_placesFrom_16 : decode cX7_placesFrom 16 = .ok (.iload_n 3, 1) := by decide +kernel
theorem dX7_placesFrom_17 : decode cX7_placesFrom 17 = .ok (.bipush 12, 2) := by decide +kernel
theorem dX7_placesFrom_19 : decode cX7_placesFrom 19 = .ok (.if_icmp .ge 26, 3) := by decide +kernel
theorem dX7_placesFrom_22 : decode cX7_placesFrom 22 = .ok (.aload_n 0, 1) := by decide +kernel
theorem dX7_placesFrom_23 : decode cX7_placesFrom 23 = .ok (.getfield 21, 3) := by decide +kernel
theorem dX7_placesFrom_26 : decode cX7_placesFrom 26 = .ok (.iload_n 3, 1) := by decide +kernel
theorem dX7_placesFrom_27 : decode cX7_placesFrom 27 = .ok (.iaload, 1) := by decide +kernel
theorem dX7_placesFrom_28 : decode cX7_placesFrom 28 = .ok (.iload_n 1, 1) := by decide +kernel
theorem dX7_placesFrom_29 : decode cX7_placesFrom 29 = .ok (.iand, 1) := by decide +kernel
theorem dX7_placesFrom_30 : decode cX7_placesFrom 30 = .ok (.ifCond .eq 9, 3) := by decide +kernel
theorem dX7_placesFrom_33 : decode cX7_placesFrom 33 = .ok (.iload_n 2, 1) := by decide +kernel
theorem dX7_placesFrom_34 : decode cX7_placesFrom 34 = .ok (.iconst 1, 1) := by decide +kernel
theorem dX7_placesFrom_35 : decode cX7_placesFrom 35 = .ok (.iload_n 3, 1) := by decide +kernel
theorem dX7_placesFrom_36 : decode cX7_placesFrom 36 = .ok (.ishl, 1) := by decide +kernel
theorem dX7_placesFrom_37 : decode cX7_placesFrom 37 = .ok (.ior, 1) := by decide +kernel
theorem dX7_placesFrom_38 : decode cX7_placesFrom 38 = .ok (.istore_n 2, 1) := by decide +kernel
theorem dX7_placesFrom_39 : decode cX7_placesFrom 39 = .ok (.iinc 3 1, 3) := by decide +kernel
theorem dX7_placesFrom_42 : decode cX7_placesFrom 42 = .ok (.goto (-38), 3) := by decide +kernel
theorem dX7_placesFrom_45 : decode cX7_placesFrom 45 = .ok (.iload_n 2, 1) := by decide +kernel
theorem dX7_placesFrom_46 : decode cX7_placesFrom 46 = .ok (.ireturn, 1) := by decide +kernel
theorem dX7_readWords_0 : decode cX7_readWords 0 = .ok (.aload_n 0, 1) := by decide +kernel
theorem dX7_readWords_1 : decode cX7_readWords 1 = .ok (.iconst 0, 1) := by decide +kernel
theorem dX7_readWords_2 : decode cX7_readWords 2 = .ok (.putfield 47, 3) := by decide +kernel
theorem dX7_readWords_5 : decode cX7_readWords 5 = .ok (.lconst 0, 1) := by decide +kernel
theorem dX7_readWords_6 : decode cX7_readWords 6 = .ok (.lstore_n 2, 1) := by decide +kernel
theorem dX7_readWords_7 : decode cX7_readWords 7 = .ok (.iconst 0, 1) := by decide +kernel
theorem dX7_readWords_8 : decode cX7_readWords 8 = .ok (.istore 4, 2) := by decide +kernel
theorem dX7_readWords_10 : decode cX7_readWords 10 = .ok (.iload 4, 2) := by decide +kernel
theorem dX7_readWords_12 : decode cX7_readWords 12 = .ok (.iload_n 1, 1) := by decide +kernel
theorem dX7_readWords_13 : decode cX7_readWords 13 = .ok (.if_icmp .ge 78, 3) := by decide +kernel
theorem dX7_readWords_16 : decode cX7_readWords 16 = .ok (.iload 4, 2) := by decide +kernel
theorem dX7_readWords_18 : decode cX7_readWords 18 = .ok (.bipush 14, 2) := by decide +kernel
theorem dX7_readWords_20 : decode cX7_readWords 20 = .ok (.if_icmp .ge 71, 3) := by decide +kernel
theorem dX7_readWords_23 : decode cX7_readWords 23 = .ok (.aload_n 0, 1) := by decide +kernel
theorem dX7_readWords_24 : decode cX7_readWords 24 = .ok (.getfield 35, 3) := by decide +kernel
theorem dX7_readWords_27 : decode cX7_readWords 27 = .ok (.iload 4, 2) := by decide +kernel
theorem dX7_readWords_29 : decode cX7_readWords 29 = .ok (.invokevirtual 51, 3) := by decide +kernel
theorem dX7_readWords_32 : decode cX7_readWords 32 = .ok (.istore 5, 2) := by decide +kernel
theorem dX7_readWords_34 : decode cX7_readWords 34 = .ok (.aload_n 0, 1) := by decide +kernel
theorem dX7_readWords_35 : decode cX7_readWords 35 = .ok (.getfield 31, 3) := by decide +kernel
theorem dX7_readWords_38 : decode cX7_readWords 38 = .ok (.iload 5, 2) := by decide +kernel
theorem dX7_readWords_40 : decode cX7_readWords 40 = .ok (.invokevirtual 57, 3) := by decide +kernel
theorem dX7_readWords_43 : decode cX7_readWords 43 = .ok (.ifCond .eq 14, 3) := by decide +kernel
theorem dX7_readWords_46 : decode cX7_readWords 46 = .ok (.lload_n 2, 1) := by decide +kernel
theorem dX7_readWords_47 : decode cX7_readWords 47 = .ok (.iload 5, 2) := by decide +kernel
theorem dX7_readWords_49 : decode cX7_readWords 49 = .ok (.lushr, 1) := by decide +kernel
theorem dX7_readWords_50 : decode cX7_readWords 50 = .ok (.lconst 1, 1) := by decide +kernel
theorem dX7_readWords_51 : decode cX7_readWords 51 = .ok (.land, 1) := by decide +kernel
theorem dX7_readWords_52 : decode cX7_readWords 52 = .ok (.lconst 0, 1) := by decide +kernel
theorem dX7_readWords_53 : decode cX7_readWords 53 = .ok (.lcmp, 1) := by decide +kernel
theorem dX7_readWords_54 : decode cX7_readWords 54 = .ok (.ifCond .eq 5, 3) := by decide +kernel
theorem dX7_readWords_57 : decode cX7_readWords 57 = .ok (.iconst 0, 1) := by decide +kernel
theorem dX7_readWords_58 : decode cX7_readWords 58 = .ok (.ireturn, 1) := by decide +kernel
theorem dX7_readWords_59 : decode cX7_readWords 59 = .ok (.lload_n 2, 1) := by decide +kernel
theorem dX7_readWords_60 : decode cX7_readWords 60 = .ok (.lconst 1, 1) := by decide +kernel
theorem dX7_readWords_61 : decode cX7_readWords 61 = .ok (.iload 5, 2) := by decide +kernel
theorem dX7_readWords_63 : decode cX7_readWords 63 = .ok (.lshl, 1) := by decide +kernel
theorem dX7_readWords_64 : decode cX7_readWords 64 = .ok (.lor, 1) := by decide +kernel
theorem dX7_readWords_65 : decode cX7_readWords 65 = .ok (.lstore_n 2, 1) := by decide +kernel
theorem dX7_readWords_66 : decode cX7_readWords 66 = .ok (.aload_n 0, 1) := by decide +kernel
theorem dX7_readWords_67 : decode cX7_readWords 67 = .ok (.getfield 9, 3) := by decide +kernel
theorem dX7_readWords_70 : decode cX7_readWords 70 = .ok (.iload 4, 2) := by decide +kernel
theorem dX7_readWords_72 : decode cX7_readWords 72 = .ok (.iload 5, 2) := by decide +kernel
theorem dX7_readWords_74 : decode cX7_readWords 74 = .ok (.iastore, 1) := by decide +kernel
theorem dX7_readWords_75 : decode cX7_readWords 75 = .ok (.aload_n 0, 1) := by decide +kernel
theorem dX7_readWords_76 : decode cX7_readWords 76 = .ok (.dup, 1) := by decide +kernel
theorem dX7_readWords_77 : decode cX7_readWords 77 = .ok (.getfield 47, 3) := by decide +kernel
theorem dX7_readWords_80 : decode cX7_readWords 80 = .ok (.iconst 1, 1) := by decide +kernel
theorem dX7_readWords_81 : decode cX7_readWords 81 = .ok (.iadd, 1) := by decide +kernel
theorem dX7_readWords_82 : decode cX7_readWords 82 = .ok (.putfield 47, 3) := by decide +kernel
theorem dX7_readWords_85 : decode cX7_readWords 85 = .ok (.iinc 4 1, 3) := by decide +kernel
theorem dX7_readWords_88 : decode cX7_readWords 88 = .ok (.goto (-78), 3) := by decide +kernel
theorem dX7_readWords_91 : decode cX7_readWords 91 = .ok (.iconst 1, 1) := by decide +kernel
theorem dX7_readWords_92 : decode cX7_readWords 92 = .ok (.ireturn, 1) := by decide +kernel
theorem dX7_rowPlaceAfter_0 : decode cX7_rowPlaceAfter 0 = .ok (.iconst 0, 1) := by decide +kernel
theorem dX7_rowPlaceAfter_1 : decode cX7_rowPlaceAfter 1 = .ok (.istore 4, 2) := by decide +kernel
theorem dX7_rowPlaceAfter_3 : decode cX7_rowPlaceAfter 3 = .ok (.iload 4, 2) := by decide +kernel
theorem dX7_rowPlaceAfter_5 : decode cX7_rowPlaceAfter 5 = .ok (.aload_n 0, 1) := by decide +kernel
theorem dX7_rowPlaceAfter_6 : decode cX7_rowPlaceAfter 6 = .ok (.getfield 47, 3) := by decide +kernel
theorem dX7_rowPlaceAfter_9 : decode cX7_rowPlaceAfter 9 = .ok (.if_icmp .ge 94, 3) := by decide +kernel
theorem dX7_rowPlaceAfter_12 : decode cX7_rowPlaceAfter 12 = .ok (.iload_n 2, 1) := by decide +kernel
theorem dX7_rowPlaceAfter_13 : decode cX7_rowPlaceAfter 13 = .ok (.iconst (-1), 1) := by decide +kernel
theorem dX7_rowPlaceAfter_14 : decode cX7_rowPlaceAfter 14 = .ok (.if_icmp .ne 7, 3) := by decide +kernel
theorem dX7_rowPlaceAfter_17 : decode cX7_rowPlaceAfter 17 = .ok (.iconst 0, 1) := by decide +kernel
theorem dX7_rowPlaceAfter_18 : decode cX7_rowPlaceAfter 18 = .ok (.goto 17, 3) := by decide +kernel
theorem dX7_rowPlaceAfter_21 : decode cX7_rowPlaceAfter 21 = .ok (.aload_n 0, 1) := by decide +kernel
theorem dX7_rowPlaceAfter_22 : decode cX7_rowPlaceAfter 22 = .ok (.getfield 15, 3) := by decide +kernel
theorem dX7_rowPlaceAfter_25 : decode cX7_rowPlaceAfter 25 = .ok (.iload_n 2, 1) := by decide +kernel
theorem dX7_rowPlaceAfter_26 : decode cX7_rowPlaceAfter 26 = .ok (.aload_n 0, 1) := by decide +kernel
theorem dX7_rowPlaceAfter_27 : decode cX7_rowPlaceAfter 27 = .ok (.getfield 47, 3) := by decide +kernel
theorem dX7_rowPlaceAfter_30 : decode cX7_rowPlaceAfter 30 = .ok (.imul, 1) := by decide +kernel
theorem dX7_rowPlaceAfter_31 : decode cX7_rowPlaceAfter 31 = .ok (.iload 4, 2) := by decide +kernel
theorem dX7_rowPlaceAfter_33 : decode cX7_rowPlaceAfter 33 = .ok (.iadd, 1) := by decide +kernel
theorem dX7_rowPlaceAfter_34 : decode cX7_rowPlaceAfter 34 = .ok (.iaload, 1) := by decide +kernel
theorem dX7_rowPlaceAfter_35 : decode cX7_rowPlaceAfter 35 = .ok (.istore 5, 2) := by decide +kernel
theorem dX7_rowPlaceAfter_37 : decode cX7_rowPlaceAfter 37 = .ok (.iload_n 1, 1) := by decide +kernel
theorem dX7_rowPlaceAfter_38 : decode cX7_rowPlaceAfter 38 = .ok (.iload 4, 2) := by decide +kernel
theorem dX7_rowPlaceAfter_40 : decode cX7_rowPlaceAfter 40 = .ok (.iushr, 1) := by decide +kernel
theorem dX7_rowPlaceAfter_41 : decode cX7_rowPlaceAfter 41 = .ok (.iconst 1, 1) := by decide +kernel
theorem dX7_rowPlaceAfter_42 : decode cX7_rowPlaceAfter 42 = .ok (.iand, 1) := by decide +kernel
theorem dX7_rowPlaceAfter_43 : decode cX7_rowPlaceAfter 43 = .ok (.ifCond .ne 17, 3) := by decide +kernel
theorem dX7_rowPlaceAfter_46 : decode cX7_rowPlaceAfter 46 = .ok (.iload_n 2, 1) := by decide +kernel
theorem dX7_rowPlaceAfter_47 : decode cX7_rowPlaceAfter 47 = .ok (.iconst (-1), 1) := by decide +kernel
theorem dX7_rowPlaceAfter_48 : decode cX7_rowPlaceAfter 48 = .ok (.if_icmp .eq 8, 3) := by decide +kernel
theorem dX7_rowPlaceAfter_51 : decode cX7_rowPlaceAfter 51 = .ok (.iload 5, 2) := by decide +kernel
theorem dX7_rowPlaceAfter_53 : decode cX7_rowPlaceAfter 53 = .ok (.ifCond .eq 7, 3) := by decide +kernel
theorem dX7_rowPlaceAfter_56 : decode cX7_rowPlaceAfter 56 = .ok (.iconst 1, 1) := by decide +kernel
theorem dX7_rowPlaceAfter_57 : decode cX7_rowPlaceAfter 57 = .ok (.goto 4, 3) := by decide +kernel
theorem dX7_rowPlaceAfter_60 : decode cX7_rowPlaceAfter 60 = .ok (.iconst 0, 1) := by decide +kernel
theorem dX7_rowPlaceAfter_61 : decode cX7_rowPlaceAfter 61 = .ok (.istore 6, 2) := by decide +kernel
theorem dX7_rowPlaceAfter_63 : decode cX7_rowPlaceAfter 63 = .ok (.iload 6, 2) := by decide +kernel
theorem dX7_rowPlaceAfter_65 : decode cX7_rowPlaceAfter 65 = .ok (.ifCond .eq 32, 3) := by decide +kernel
theorem dX7_rowPlaceAfter_68 : decode cX7_rowPlaceAfter 68 = .ok (.iload 5, 2) := by decide +kernel
theorem dX7_rowPlaceAfter_70 : decode cX7_rowPlaceAfter 70 = .ok (.aload_n 0, 1) := by decide +kernel
theorem dX7_rowPlaceAfter_71 : decode cX7_rowPlaceAfter 71 = .ok (.getfield 18, 3) := by decide +kernel
theorem dX7_rowPlaceAfter_74 : decode cX7_rowPlaceAfter 74 = .ok (.iload_n 1, 1) := by decide +kernel
theorem dX7_rowPlaceAfter_75 : decode cX7_rowPlaceAfter 75 = .ok (.iconst 1, 1) := by decide +kernel
theorem dX7_rowPlaceAfter_76 : decode cX7_rowPlaceAfter 76 = .ok (.iload 4, 2) := by decide +kernel
theorem dX7_rowPlaceAfter_78 : decode cX7_rowPlaceAfter 78 = .ok (.ishl, 1) := by decide +kernel
theorem dX7_rowPlaceAfter_79 : decode cX7_rowPlaceAfter 79 = .ok (.ior, 1) := by decide +kernel
theorem dX7_rowPlaceAfter_80 : decode cX7_rowPlaceAfter 80 = .ok (.aload_n 0, 1) := by decide +kernel
theorem dX7_rowPlaceAfter_81 : decode cX7_rowPlaceAfter 81 = .ok (.getfield 47, 3) := by decide +kernel
theorem dX7_rowPlaceAfter_84 : decode cX7_rowPlaceAfter 84 = .ok (.imul, 1) := by decide +kernel
theorem dX7_rowPlaceAfter_85 : decode cX7_rowPlaceAfter 85 = .ok (.iload 4, 2) := by decide +kernel
theorem dX7_rowPlaceAfter_87 : decode cX7_rowPlaceAfter 87 = .ok (.iadd, 1) := by decide +kernel
theorem dX7_rowPlaceAfter_88 : decode cX7_rowPlaceAfter 88 = .ok (.iaload, 1) := by decide +kernel
theorem dX7_rowPlaceAfter_89 : decode cX7_rowPlaceAfter 89 = .ok (.iadd, 1) := by decide +kernel
theorem dX7_rowPlaceAfter_90 : decode cX7_rowPlaceAfter 90 = .ok (.iload_n 3, 1) := by decide +kernel
theorem dX7_rowPlaceAfter_91 : decode cX7_rowPlaceAfter 91 = .ok (.if_icmp .ne 6, 3) := by decide +kernel
theorem dX7_rowPlaceAfter_94 : decode cX7_rowPlaceAfter 94 = .ok (.iload 4, 2) := by decide +kernel
theorem dX7_rowPlaceAfter_96 : decode cX7_rowPlaceAfter 96 = .ok (.ireturn, 1) := by decide +kernel
theorem dX7_rowPlaceAfter_97 : decode cX7_rowPlaceAfter 97 = .ok (.iinc 4 1, 3) := by decide +kernel
theorem dX7_rowPlaceAfter_100 : decode cX7_rowPlaceAfter 100 = .ok (.goto (-97), 3) := by decide +kernel
theorem dX7_rowPlaceAfter_103 : decode cX7_rowPlaceAfter 103 = .ok (.iconst (-1), 1) := by decide +kernel
theorem dX7_rowPlaceAfter_104 : decode cX7_rowPlaceAfter 104 = .ok (.ireturn, 1) := by decide +kernel
theorem dX7_rowWordAt_0 : decode cX7_rowWordAt 0 = .ok (.iconst 0, 1) := by decide +kernel
theorem dX7_rowWordAt_1 : decode cX7_rowWordAt 1 = .ok (.istore_n 2, 1) := by decide +kernel
theorem dX7_rowWordAt_2 : decode cX7_rowWordAt 2 = .ok (.iconst (-1), 1) := by decide +kernel
theorem dX7_rowWordAt_3 : decode cX7_rowWordAt 3 = .ok (.istore_n 3, 1) := by decide +kernel
theorem dX7_rowWordAt_4 : decode cX7_rowWordAt 4 = .ok (.aload_n 0, 1) := by decide +kernel
theorem dX7_rowWordAt_5 : decode cX7_rowWordAt 5 = .ok (.getfield 79, 3) := by decide +kernel
theorem dX7_rowWordAt_8 : decode cX7_rowWordAt 8 = .ok (.istore 4, 2) := by decide +kernel
theorem dX7_rowWordAt_10 : decode cX7_rowWordAt 10 = .ok (.iconst 0, 1) := by decide +kernel
theorem dX7_rowWordAt_11 : decode cX7_rowWordAt 11 = .ok (.istore 5, 2) := by decide +kernel
theorem dX7_rowWordAt_13 : decode cX7_rowWordAt 13 = .ok (.iload 5, 2) := by decide +kernel
theorem dX7_rowWordAt_15 : decode cX7_rowWordAt 15 = .ok (.iload_n 1, 1) := by decide +kernel
theorem dX7_rowWordAt_16 : decode cX7_rowWordAt 16 = .ok (.if_icmp .gt 74, 3) := by decide +kernel
theorem dX7_rowWordAt_19 : decode cX7_rowWordAt 19 = .ok (.iload 5, 2) := by decide +kernel
theorem dX7_rowWordAt_21 : decode cX7_rowWordAt 21 = .ok (.aload_n 0, 1) := by decide +kernel
theorem dX7_rowWordAt_22 : decode cX7_rowWordAt 22 = .ok (.getfield 47, 3) := by decide +kernel
theorem dX7_rowWordAt_25 : decode cX7_rowWordAt 25 = .ok (.if_icmp .ge 65, 3) := by decide +kernel
theorem dX7_rowWordAt_28 : decode cX7_rowWordAt 28 = .ok (.aload_n 0, 1) := by decide +kernel
theorem dX7_rowWordAt_29 : decode cX7_rowWordAt 29 = .ok (.iload_n 2, 1) := by decide +kernel
theorem dX7_rowWordAt_30 : decode cX7_rowWordAt 30 = .ok (.iload_n 3, 1) := by decide +kernel
theorem dX7_rowWordAt_31 : decode cX7_rowWordAt 31 = .ok (.iload 4, 2) := by decide +kernel
theorem dX7_rowWordAt_33 : decode cX7_rowWordAt 33 = .ok (.invokevirtual 87, 3) := by decide +kernel
theorem dX7_rowWordAt_36 : decode cX7_rowWordAt 36 = .ok (.istore 6, 2) := by decide +kernel
theorem dX7_rowWordAt_38 : decode cX7_rowWordAt 38 = .ok (.iload 6, 2) := by decide +kernel
theorem dX7_rowWordAt_40 : decode cX7_rowWordAt 40 = .ok (.iconst (-1), 1) := by decide +kernel
theorem dX7_rowWordAt_41 : decode cX7_rowWordAt 41 = .ok (.if_icmp .ne 5, 3) := by decide +kernel
theorem dX7_rowWordAt_44 : decode cX7_rowWordAt 44 = .ok (.iconst (-1), 1) := by decide +kernel
theorem dX7_rowWordAt_45 : decode cX7_rowWordAt 45 = .ok (.ireturn, 1) := by decide +kernel
theorem dX7_rowWordAt_46 : decode cX7_rowWordAt 46 = .ok (.iload 4, 2) := by decide +kernel
theorem dX7_rowWordAt_48 : decode cX7_rowWordAt 48 = .ok (.iload_n 3, 1) := by decide +kernel
theorem dX7_rowWordAt_49 : decode cX7_rowWordAt 49 = .ok (.iconst (-1), 1) := by decide +kernel
theorem dX7_rowWordAt_50 : decode cX7_rowWordAt 50 = .ok (.if_icmp .ne 7, 3) := by decide +kernel
theorem dX7_rowWordAt_53 : decode cX7_rowWordAt 53 = .ok (.iconst 0, 1) := by decide +kernel
theorem dX7_rowWordAt_54 : decode cX7_rowWordAt 54 = .ok (.goto 17, 3) := by decide +kernel
theorem dX7_rowWordAt_57 : decode cX7_rowWordAt 57 = .ok (.aload_n 0, 1) := by decide +kernel
theorem dX7_rowWordAt_58 : decode cX7_rowWordAt 58 = .ok (.getfield 15, 3) := by decide +kernel
theorem dX7_rowWordAt_61 : decode cX7_rowWordAt 61 = .ok (.iload_n 3, 1) := by decide +kernel
theorem dX7_rowWordAt_62 : decode cX7_rowWordAt 62 = .ok (.aload_n 0, 1) := by decide +kernel
theorem dX7_rowWordAt_63 : decode cX7_rowWordAt 63 = .ok (.getfield 47, 3) := by decide +kernel
theorem dX7_rowWordAt_66 : decode cX7_rowWordAt 66 = .ok (.imul, 1) := by decide +kernel
theorem dX7_rowWordAt_67 : decode cX7_rowWordAt 67 = .ok (.iload 6, 2) := by decide +kernel
theorem dX7_rowWordAt_69 : decode cX7_rowWordAt 69 = .ok (.iadd, 1) := by decide +kernel
theorem dX7_rowWordAt_70 : decode cX7_rowWordAt 70 = .ok (.iaload, 1) := by decide +kernel
theorem dX7_rowWordAt_71 : decode cX7_rowWordAt 71 = .ok (.isub, 1) := by decide +kernel
theorem dX7_rowWordAt_72 : decode cX7_rowWordAt 72 = .ok (.istore 4, 2) := by decide +kernel
theorem dX7_rowWordAt_74 : decode cX7_rowWordAt 74 = .ok (.iload_n 2, 1) := by decide +kernel
theorem dX7_rowWordAt_75 : decode cX7_rowWordAt 75 = .ok (.iconst 1, 1) := by decide +kernel
theorem dX7_rowWordAt_76 : decode cX7_rowWordAt 76 = .ok (.iload 6, 2) := by decide +kernel
theorem dX7_rowWordAt_78 : decode cX7_rowWordAt 78 = .ok (.ishl, 1) := by decide +kernel
theorem dX7_rowWordAt_79 : decode cX7_rowWordAt 79 = .ok (.ior, 1) := by decide +kernel
theorem dX7_rowWordAt_80 : decode cX7_rowWordAt 80 = .ok (.istore_n 2, 1) := by decide +kernel
theorem dX7_rowWordAt_81 : decode cX7_rowWordAt 81 = .ok (.iload 6, 2) := by decide +kernel
theorem dX7_rowWordAt_83 : decode cX7_rowWordAt 83 = .ok (.istore_n 3, 1) := by decide +kernel
theorem dX7_rowWordAt_84 : decode cX7_rowWordAt 84 = .ok (.iinc 5 1, 3) := by decide +kernel
theorem dX7_rowWordAt_87 : decode cX7_rowWordAt 87 = .ok (.goto (-74), 3) := by decide +kernel
theorem dX7_rowWordAt_90 : decode cX7_rowWordAt 90 = .ok (.iload_n 3, 1) := by decide +kernel
theorem dX7_rowWordAt_91 : decode cX7_rowWordAt 91 = .ok (.iconst (-1), 1) := by decide +kernel
theorem dX7_rowWordAt_92 : decode cX7_rowWordAt 92 = .ok (.if_icmp .ne 7, 3) := by decide +kernel
theorem dX7_rowWordAt_95 : decode cX7_rowWordAt 95 = .ok (.iconst (-1), 1) := by decide +kernel
theorem dX7_rowWordAt_96 : decode cX7_rowWordAt 96 = .ok (.goto 9, 3) := by decide +kernel
theorem dX7_rowWordAt_99 : decode cX7_rowWordAt 99 = .ok (.aload_n 0, 1) := by decide +kernel
theorem dX7_rowWordAt_100 : decode cX7_rowWordAt 100 = .ok (.getfield 9, 3) := by decide +kernel
theorem dX7_rowWordAt_103 : decode cX7_rowWordAt 103 = .ok (.iload_n 3, 1) := by decide +kernel
theorem dX7_rowWordAt_104 : decode cX7_rowWordAt 104 = .ok (.iaload, 1) := by decide +kernel
theorem dX7_rowWordAt_105 : decode cX7_rowWordAt 105 = .ok (.ireturn, 1) := by decide +kernel
theorem dX7_sortList_0 : decode cX7_sortList 0 = .ok (.iconst 1, 1) := by decide +kernel
theorem dX7_sortList_1 : decode cX7_sortList 1 = .ok (.istore_n 1, 1) := by decide +kernel
theorem dX7_sortList_2 : decode cX7_sortList 2 = .ok (.iload_n 1, 1) := by decide +kernel
theorem dX7_sortList_3 : decode cX7_sortList 3 = .ok (.aload_n 0, 1) := by decide +kernel
theorem dX7_sortList_4 : decode cX7_sortList 4 = .ok (.getfield 47, 3) := by decide +kernel
theorem dX7_sortList_7 : decode cX7_sortList 7 = .ok (.if_icmp .ge 61, 3) := by decide +kernel
theorem dX7_sortList_10 : decode cX7_sortList 10 = .ok (.aload_n 0, 1) := by decide +kernel
theorem dX7_sortList_11 : decode cX7_sortList 11 = .ok (.getfield 9, 3) := by decide +kernel
theorem dX7_sortList_14 : decode cX7_sortList 14 = .ok (.iload_n 1, 1) := by decide +kernel
theorem dX7_sortList_15 : decode cX7_sortList 15 = .ok (.iaload, 1) := by decide +kernel
theorem dX7_sortList_16 : decode cX7_sortList 16 = .ok (.istore_n 2, 1) := by decide +kernel
theorem dX7_sortList_17 : decode cX7_sortList 17 = .ok (.iload_n 1, 1) := by decide +kernel
theorem dX7_sortList_18 : decode cX7_sortList 18 = .ok (.istore_n 3, 1) := by decide +kernel
theorem dX7_sortList_19 : decode cX7_sortList 19 = .ok (.iload_n 3, 1) := by decide +kernel
theorem dX7_sortList_20 : decode cX7_sortList 20 = .ok (.ifCond .le 35, 3) := by decide +kernel
theorem dX7_sortList_23 : decode cX7_sortList 23 = .ok (.aload_n 0, 1) := by decide +kernel
theorem dX7_sortList_24 : decode cX7_sortList 24 = .ok (.getfield 9, 3) := by decide +kernel
theorem dX7_sortList_27 : decode cX7_sortList 27 = .ok (.iload_n 3, 1) := by decide +kernel
theorem dX7_sortList_28 : decode cX7_sortList 28 = .ok (.iconst 1, 1) := by decide +kernel
theorem dX7_sortList_29 : decode cX7_sortList 29 = .ok (.isub, 1) := by decide +kernel
theorem dX7_sortList_30 : decode cX7_sortList 30 = .ok (.iaload, 1) := by decide +kernel
theorem dX7_sortList_31 : decode cX7_sortList 31 = .ok (.iload_n 2, 1) := by decide +kernel
theorem dX7_sortList_32 : decode cX7_sortList 32 = .ok (.if_icmp .le 23, 3) := by decide +kernel
theorem dX7_sortList_35 : decode cX7_sortList 35 = .ok (.aload_n 0, 1) := by decide +kernel
theorem dX7_sortList_36 : decode cX7_sortList 36 = .ok (.getfield 9, 3) := by decide +kernel
theorem dX7_sortList_39 : decode cX7_sortList 39 = .ok (.iload_n 3, 1) := by decide +kernel
theorem dX7_sortList_40 : decode cX7_sortList 40 = .ok (.aload_n 0, 1) := by decide +kernel
theorem dX7_sortList_41 : decode cX7_sortList 41 = .ok (.getfield 9, 3) := by decide +kernel
theorem dX7_sortList_44 : decode cX7_sortList 44 = .ok (.iload_n 3, 1) := by decide +kernel
theorem dX7_sortList_45 : decode cX7_sortList 45 = .ok (.iconst 1, 1) := by decide +kernel
theorem dX7_sortList_46 : decode cX7_sortList 46 = .ok (.isub, 1) := by decide +kernel
theorem dX7_sortList_47 : decode cX7_sortList 47 = .ok (.iaload, 1) := by decide +kernel
theorem dX7_sortList_48 : decode cX7_sortList 48 = .ok (.iastore, 1) := by decide +kernel
theorem dX7_sortList_49 : decode cX7_sortList 49 = .ok (.iinc 3 (-1), 3) := by decide +kernel
theorem dX7_sortList_52 : decode cX7_sortList 52 = .ok (.goto (-33), 3) := by decide +kernel
theorem dX7_sortList_55 : decode cX7_sortList 55 = .ok (.aload_n 0, 1) := by decide +kernel
theorem dX7_sortList_56 : decode cX7_sortList 56 = .ok (.getfield 9, 3) := by decide +kernel
theorem dX7_sortList_59 : decode cX7_sortList 59 = .ok (.iload_n 3, 1) := by decide +kernel
theorem dX7_sortList_60 : decode cX7_sortList 60 = .ok (.iload_n 2, 1) := by decide +kernel
theorem dX7_sortList_61 : decode cX7_sortList 61 = .ok (.iastore, 1) := by decide +kernel
theorem dX7_sortList_62 : decode cX7_sortList 62 = .ok (.iinc 1 1, 3) := by decide +kernel
theorem dX7_sortList_65 : decode cX7_sortList 65 = .ok (.goto (-63), 3) := by decide +kernel
theorem dX7_sortList_68 : decode cX7_sortList 68 = .ok (.return_, 1) := by decide +kernel
theorem dX7_tooNearBefore_0 : decode cX7_tooNearBefore 0 = .ok (.iconst 0, 1) := by decide +kernel
theorem dX7_tooNearBefore_1 : decode cX7_tooNearBefore 1 = .ok (.istore_n 3, 1) := by decide +kernel
theorem dX7_tooNearBefore_2 : decode cX7_tooNearBefore 2 = .ok (.iconst 0, 1) := by decide +kernel
theorem dX7_tooNearBefore_3 : decode cX7_tooNearBefore 3 = .ok (.istore 4, 2) := by decide +kernel
theorem dX7_tooNearBefore_5 : decode cX7_tooNearBefore 5 = .ok (.iload 4, 2) := by decide +kernel
theorem dX7_tooNearBefore_7 : decode cX7_tooNearBefore 7 = .ok (.iload_n 1, 1) := by decide +kernel
theorem dX7_tooNearBefore_8 : decode cX7_tooNearBefore 8 = .ok (.if_icmp .ge 40, 3) := by decide +kernel
theorem dX7_tooNearBefore_11 : decode cX7_tooNearBefore 11 = .ok (.aload_n 0, 1) := by decide +kernel
theorem dX7_tooNearBefore_12 : decode cX7_tooNearBefore 12 = .ok (.getfield 43, 3) := by decide +kernel
theorem dX7_tooNearBefore_15 : decode cX7_tooNearBefore 15 = .ok (.aload_n 0, 1) := by decide +kernel
theorem dX7_tooNearBefore_16 : decode cX7_tooNearBefore 16 = .ok (.getfield 9, 3) := by decide +kernel
theorem dX7_tooNearBefore_19 : decode cX7_tooNearBefore 19 = .ok (.iload 4, 2) := by decide +kernel
theorem dX7_tooNearBefore_21 : decode cX7_tooNearBefore 21 = .ok (.iaload, 1) := by decide +kernel
theorem dX7_tooNearBefore_22 : decode cX7_tooNearBefore 22 = .ok (.aload_n 0, 1) := by decide +kernel
theorem dX7_tooNearBefore_23 : decode cX7_tooNearBefore 23 = .ok (.getfield 9, 3) := by decide +kernel
theorem dX7_tooNearBefore_26 : decode cX7_tooNearBefore 26 = .ok (.iload_n 1, 1) := by decide +kernel
theorem dX7_tooNearBefore_27 : decode cX7_tooNearBefore 27 = .ok (.iaload, 1) := by decide +kernel
theorem dX7_tooNearBefore_28 : decode cX7_tooNearBefore 28 = .ok (.invokevirtual 112, 3) := by decide +kernel
theorem dX7_tooNearBefore_31 : decode cX7_tooNearBefore 31 = .ok (.iload_n 2, 1) := by decide +kernel
theorem dX7_tooNearBefore_32 : decode cX7_tooNearBefore 32 = .ok (.if_icmp .ge 10, 3) := by decide +kernel
theorem dX7_tooNearBefore_35 : decode cX7_tooNearBefore 35 = .ok (.iload_n 3, 1) := by decide +kernel
theorem dX7_tooNearBefore_36 : decode cX7_tooNearBefore 36 = .ok (.iconst 1, 1) := by decide +kernel
theorem dX7_tooNearBefore_37 : decode cX7_tooNearBefore 37 = .ok (.iload 4, 2) := by decide +kernel
theorem dX7_tooNearBefore_39 : decode cX7_tooNearBefore 39 = .ok (.ishl, 1) := by decide +kernel
theorem dX7_tooNearBefore_40 : decode cX7_tooNearBefore 40 = .ok (.ior, 1) := by decide +kernel
theorem dX7_tooNearBefore_41 : decode cX7_tooNearBefore 41 = .ok (.istore_n 3, 1) := by decide +kernel
theorem dX7_tooNearBefore_42 : decode cX7_tooNearBefore 42 = .ok (.iinc 4 1, 3) := by decide +kernel
theorem dX7_tooNearBefore_45 : decode cX7_tooNearBefore 45 = .ok (.goto (-40), 3) := by decide +kernel
theorem dX7_tooNearBefore_48 : decode cX7_tooNearBefore 48 = .ok (.iload_n 3, 1) := by decide +kernel
theorem dX7_tooNearBefore_49 : decode cX7_tooNearBefore 49 = .ok (.ireturn, 1) := by decide +kernel
theorem dX7_winningWord_0 : decode cX7_winningWord 0 = .ok (.aload_n 0, 1) := by decide +kernel
theorem dX7_winningWord_1 : decode cX7_winningWord 1 = .ok (.getfield 47, 3) := by decide +kernel
theorem dX7_winningWord_4 : decode cX7_winningWord 4 = .ok (.bipush 12, 2) := by decide +kernel
theorem dX7_winningWord_6 : decode cX7_winningWord 6 = .ok (.if_icmp .le 5, 3) := by decide +kernel
theorem dX7_winningWord_9 : decode cX7_winningWord 9 = .ok (.iconst (-1), 1) := by decide +kernel
theorem dX7_winningWord_10 : decode cX7_winningWord 10 = .ok (.ireturn, 1) := by decide +kernel
theorem dX7_winningWord_11 : decode cX7_winningWord 11 = .ok (.aload_n 0, 1) := by decide +kernel
theorem dX7_winningWord_12 : decode cX7_winningWord 12 = .ok (.invokevirtual 91, 3) := by decide +kernel
theorem dX7_winningWord_15 : decode cX7_winningWord 15 = .ok (.iconst 1, 1) := by decide +kernel
theorem dX7_winningWord_16 : decode cX7_winningWord 16 = .ok (.aload_n 0, 1) := by decide +kernel
theorem dX7_winningWord_17 : decode cX7_winningWord 17 = .ok (.getfield 47, 3) := by decide +kernel
theorem dX7_winningWord_20 : decode cX7_winningWord 20 = .ok (.ishl, 1) := by decide +kernel
theorem dX7_winningWord_21 : decode cX7_winningWord 21 = .ok (.iconst 1, 1) := by decide +kernel
theorem dX7_winningWord_22 : decode cX7_winningWord 22 = .ok (.isub, 1) := by decide +kernel
theorem dX7_winningWord_23 : decode cX7_winningWord 23 = .ok (.istore_n 1, 1) := by decide +kernel
theorem dX7_winningWord_24 : decode cX7_winningWord 24 = .ok (.iload_n 1, 1) := by decide +kernel
theorem dX7_winningWord_25 : decode cX7_winningWord 25 = .ok (.ifCond .le 24, 3) := by decide +kernel
theorem dX7_winningWord_28 : decode cX7_winningWord 28 = .ok (.aload_n 0, 1) := by decide +kernel
theorem dX7_winningWord_29 : decode cX7_winningWord 29 = .ok (.getfield 24, 3) := by decide +kernel
theorem dX7_winningWord_32 : decode cX7_winningWord 32 = .ok (.iload_n 1, 1) := by decide +kernel
theorem dX7_winningWord_33 : decode cX7_winningWord 33 = .ok (.aload_n 0, 1) := by decide +kernel
theorem dX7_winningWord_34 : decode cX7_winningWord 34 = .ok (.aload_n 0, 1) := by decide +kernel
theorem dX7_winningWord_35 : decode cX7_winningWord 35 = .ok (.iload_n 1, 1) := by decide +kernel
theorem dX7_winningWord_36 : decode cX7_winningWord 36 = .ok (.invokevirtual 94, 3) := by decide +kernel
theorem dX7_winningWord_39 : decode cX7_winningWord 39 = .ok (.invokevirtual 97, 3) := by decide +kernel
theorem dX7_winningWord_42 : decode cX7_winningWord 42 = .ok (.iastore, 1) := by decide +kernel
theorem dX7_winningWord_43 : decode cX7_winningWord 43 = .ok (.iinc 1 (-1), 3) := by decide +kernel
theorem dX7_winningWord_46 : decode cX7_winningWord 46 = .ok (.goto (-22), 3) := by decide +kernel
theorem dX7_winningWord_49 : decode cX7_winningWord 49 = .ok (.aload_n 0, 1) := by decide +kernel
theorem dX7_winningWord_50 : decode cX7_winningWord 50 = .ok (.getfield 21, 3) := by decide +kernel
theorem dX7_winningWord_53 : decode cX7_winningWord 53 = .ok (.iconst 0, 1) := by decide +kernel
theorem dX7_winningWord_54 : decode cX7_winningWord 54 = .ok (.iaload, 1) := by decide +kernel
theorem dX7_winningWord_55 : decode cX7_winningWord 55 = .ok (.aload_n 0, 1) := by decide +kernel
theorem dX7_winningWord_56 : decode cX7_winningWord 56 = .ok (.iconst 1, 1) := by decide +kernel
theorem dX7_winningWord_57 : decode cX7_winningWord 57 = .ok (.invokevirtual 94, 3) := by decide +kernel
theorem dX7_winningWord_60 : decode cX7_winningWord 60 = .ok (.iand, 1) := by decide +kernel
theorem dX7_winningWord_61 : decode cX7_winningWord 61 = .ok (.istore_n 1, 1) := by decide +kernel
theorem dX7_winningWord_62 : decode cX7_winningWord 62 = .ok (.iconst (-1), 1) := by decide +kernel
theorem dX7_winningWord_63 : decode cX7_winningWord 63 = .ok (.istore_n 2, 1) := by decide +kernel
theorem dX7_winningWord_64 : decode cX7_winningWord 64 = .ok (.iconst 0, 1) := by decide +kernel
theorem dX7_winningWord_65 : decode cX7_winningWord 65 = .ok (.istore_n 3, 1) := by decide +kernel
theorem dX7_winningWord_66 : decode cX7_winningWord 66 = .ok (.iload_n 3, 1) := by decide +kernel
theorem dX7_winningWord_67 : decode cX7_winningWord 67 = .ok (.aload_n 0, 1) := by decide +kernel
theorem dX7_winningWord_68 : decode cX7_winningWord 68 = .ok (.getfield 47, 3) := by decide +kernel
theorem dX7_winningWord_71 : decode cX7_winningWord 71 = .ok (.if_icmp .ge 39, 3) := by decide +kernel
theorem dX7_winningWord_74 : decode cX7_winningWord 74 = .ok (.iload_n 1, 1) := by decide +kernel
theorem dX7_winningWord_75 : decode cX7_winningWord 75 = .ok (.iload_n 3, 1) := by decide +kernel
theorem dX7_winningWord_76 : decode cX7_winningWord 76 = .ok (.iushr, 1) := by decide +kernel
theorem dX7_winningWord_77 : decode cX7_winningWord 77 = .ok (.iconst 1, 1) := by decide +kernel
theorem dX7_winningWord_78 : decode cX7_winningWord 78 = .ok (.iand, 1) := by decide +kernel
theorem dX7_winningWord_79 : decode cX7_winningWord 79 = .ok (.ifCond .eq 25, 3) := by decide +kernel
theorem dX7_winningWord_82 : decode cX7_winningWord 82 = .ok (.iload_n 2, 1) := by decide +kernel
theorem dX7_winningWord_83 : decode cX7_winningWord 83 = .ok (.iconst (-1), 1) := by decide +kernel
theorem dX7_winningWord_84 : decode cX7_winningWord 84 = .ok (.if_icmp .eq 13, 3) := by decide +kernel
theorem dX7_winningWord_87 : decode cX7_winningWord 87 = .ok (.aload_n 0, 1) := by decide +kernel
theorem dX7_winningWord_88 : decode cX7_winningWord 88 = .ok (.getfield 9, 3) := by decide +kernel
theorem dX7_winningWord_91 : decode cX7_winningWord 91 = .ok (.iload_n 3, 1) := by decide +kernel
theorem dX7_winningWord_92 : decode cX7_winningWord 92 = .ok (.iaload, 1) := by decide +kernel
theorem dX7_winningWord_93 : decode cX7_winningWord 93 = .ok (.iload_n 2, 1) := by decide +kernel
theorem dX7_winningWord_94 : decode cX7_winningWord 94 = .ok (.if_icmp .ge 10, 3) := by decide +kernel
theorem dX7_winningWord_97 : decode cX7_winningWord 97 = .ok (.aload_n 0, 1) := by decide +kernel
theorem dX7_winningWord_98 : decode cX7_winningWord 98 = .ok (.getfield 9, 3) := by decide +kernel
theorem dX7_winningWord_101 : decode cX7_winningWord 101 = .ok (.iload_n 3, 1) := by decide +kernel
theorem dX7_winningWord_102 : decode cX7_winningWord 102 = .ok (.iaload, 1) := by decide +kernel
theorem dX7_winningWord_103 : decode cX7_winningWord 103 = .ok (.istore_n 2, 1) := by decide +kernel
theorem dX7_winningWord_104 : decode cX7_winningWord 104 = .ok (.iinc 3 1, 3) := by decide +kernel
theorem dX7_winningWord_107 : decode cX7_winningWord 107 = .ok (.goto (-41), 3) := by decide +kernel
theorem dX7_winningWord_110 : decode cX7_winningWord 110 = .ok (.iload_n 2, 1) := by decide +kernel
theorem dX7_winningWord_111 : decode cX7_winningWord 111 = .ok (.ireturn, 1) := by decide +kernel
theorem dX8_costOf_0 : decode cX8_costOf 0 = .ok (.aload_n 0, 1) := by decide +kernel
theorem dX8_costOf_1 : decode cX8_costOf 1 = .ok (.getfield 11, 3) := by decide +kernel
theorem dX8_costOf_4 : decode cX8_costOf 4 = .ok (.iload_n 1, 1) := by decide +kernel
theorem dX8_costOf_5 : decode cX8_costOf 5 = .ok (.aaload, 1) := by decide +kernel
theorem dX8_costOf_6 : decode cX8_costOf 6 = .ok (.iload_n 2, 1) := by decide +kernel
theorem dX8_costOf_7 : decode cX8_costOf 7 = .ok (.iaload, 1) := by decide +kernel
theorem dX8_costOf_8 : decode cX8_costOf 8 = .ok (.bipush 64, 2) := by decide +kernel
theorem dX8_costOf_10 : decode cX8_costOf 10 = .ok (.idiv, 1) := by decide +kernel
theorem dX8_costOf_11 : decode cX8_costOf 11 = .ok (.ireturn, 1) := by decide +kernel
theorem dX8_countLeast_0 : decode cX8_countLeast 0 = .ok (.aload_n 0, 1) := by decide +kernel
theorem dX8_countLeast_1 : decode cX8_countLeast 1 = .ok (.getfield 44, 3) := by decide +kernel
theorem dX8_countLeast_4 : decode cX8_countLeast 4 = .ok (.getfield 57, 3) := by decide +kernel
theorem dX8_countLeast_7 : decode cX8_countLeast 7 = .ok (.istore_n 3, 1) := by decide +kernel
theorem dX8_countLeast_8 : decode cX8_countLeast 8 = .ok (.iconst 0, 1) := by decide +kernel
theorem dX8_countLeast_9 : decode cX8_countLeast 9 = .ok (.istore 4, 2) := by decide +kernel
theorem dX8_countLeast_11 : decode cX8_countLeast 11 = .ok (.iload 4, 2) := by decide +kernel
theorem dX8_countLeast_13 : decode cX8_countLeast 13 = .ok (.iload_n 3, 1) := by decide +kernel
theorem dX8_countLeast_14 : decode cX8_countLeast 14 = .ok (.if_icmp .ge 39, 3) := by decide +kernel
theorem dX8_countLeast_17 : decode cX8_countLeast 17 = .ok (.aload_n 0, 1) := by decide +kernel
theorem dX8_countLeast_18 : decode cX8_countLeast 18 = .ok (.getfield 30, 3) := by decide +kernel
theorem dX8_countLeast_21 : decode cX8_countLeast 21 = .ok (.iload 4, 2) := by decide +kernel
theorem dX8_countLeast_23 : decode cX8_countLeast 23 = .ok (.aload_n 0, 1) := by decide +kernel
theorem dX8_countLeast_24 : decode cX8_countLeast 24 = .ok (.iload 4, 2) := by decide +kernel
theorem dX8_countLeast_26 : decode cX8_countLeast 26 = .ok (.iload_n 2, 1) := by decide +kernel
theorem dX8_countLeast_27 : decode cX8_countLeast 27 = .ok (.invokevirtual 99, 3) := by decide +kernel
theorem dX8_countLeast_30 : decode cX8_countLeast 30 = .ok (.ifCond .ne 7, 3) := by decide +kernel
theorem dX8_countLeast_33 : decode cX8_countLeast 33 = .ok (.iconst 1, 1) := by decide +kernel
theorem dX8_countLeast_34 : decode cX8_countLeast 34 = .ok (.goto 4, 3) := by decide +kernel
theorem dX8_countLeast_37 : decode cX8_countLeast 37 = .ok (.iconst 0, 1) := by decide +kernel
theorem dX8_countLeast_38 : decode cX8_countLeast 38 = .ok (.bastore, 1) := by decide +kernel
theorem dX8_countLeast_39 : decode cX8_countLeast 39 = .ok (.aload_n 0, 1) := by decide +kernel
theorem dX8_countLeast_40 : decode cX8_countLeast 40 = .ok (.getfield 24, 3) := by decide +kernel
theorem dX8_countLeast_43 : decode cX8_countLeast 43 = .ok (.iload 4, 2) := by decide +kernel
theorem dX8_countLeast_45 : decode cX8_countLeast 45 = .ok (.lconst 0, 1) := by decide +kernel
theorem dX8_countLeast_46 : decode cX8_countLeast 46 = .ok (.lastore, 1) := by decide +kernel
theorem dX8_countLeast_47 : decode cX8_countLeast 47 = .ok (.iinc 4 1, 3) := by decide +kernel
theorem dX8_countLeast_50 : decode cX8_countLeast 50 = .ok (.goto (-39), 3) := by decide +kernel
theorem dX8_countLeast_53 : decode cX8_countLeast 53 = .ok (.iconst 0, 1) := by decide +kernel
theorem dX8_countLeast_54 : decode cX8_countLeast 54 = .ok (.istore 4, 2) := by decide +kernel
theorem dX8_countLeast_56 : decode cX8_countLeast 56 = .ok (.iload 4, 2) := by decide +kernel
theorem dX8_countLeast_58 : decode cX8_countLeast 58 = .ok (.iload_n 3, 1) := by decide +kernel
theorem dX8_countLeast_59 : decode cX8_countLeast 59 = .ok (.if_icmp .ge 63, 3) := by decide +kernel
theorem dX8_countLeast_62 : decode cX8_countLeast 62 = .ok (.aload_n 0, 1) := by decide +kernel
theorem dX8_countLeast_63 : decode cX8_countLeast 63 = .ok (.iload_n 2, 1) := by decide +kernel
theorem dX8_countLeast_64 : decode cX8_countLeast 64 = .ok (.invokevirtual 109, 3) := by decide +kernel
theorem dX8_countLeast_67 : decode cX8_countLeast 67 = .ok (.istore 5, 2) := by decide +kernel
theorem dX8_countLeast_69 : decode cX8_countLeast 69 = .ok (.iload 5, 2) := by decide +kernel
theorem dX8_countLeast_71 : decode cX8_countLeast 71 = .ok (.iconst (-1), 1) := by decide +kernel
theorem dX8_countLeast_72 : decode cX8_countLeast 72 = .ok (.if_icmp .eq 50, 3) := by decide +kernel
theorem dX8_countLeast_75 : decode cX8_countLeast 75 = .ok (.iload 5, 2) := by decide +kernel
theorem dX8_countLeast_77 : decode cX8_countLeast 77 = .ok (.iload_n 1, 1) := by decide +kernel
theorem dX8_countLeast_78 : decode cX8_countLeast 78 = .ok (.if_icmp .ne 6, 3) := by decide +kernel
theorem dX8_countLeast_81 : decode cX8_countLeast 81 = .ok (.goto 41, 3) := by decide +kernel
theorem dX8_countLeast_84 : decode cX8_countLeast 84 = .ok (.aload_n 0, 1) := by decide +kernel
theorem dX8_countLeast_85 : decode cX8_countLeast 85 = .ok (.getfield 30, 3) := by decide +kernel
theorem dX8_countLeast_88 : decode cX8_countLeast 88 = .ok (.iload 5, 2) := by decide +kernel
theorem dX8_countLeast_90 : decode cX8_countLeast 90 = .ok (.iconst 1, 1) := by decide +kernel
theorem dX8_countLeast_91 : decode cX8_countLeast 91 = .ok (.bastore, 1) := by decide +kernel
theorem dX8_countLeast_92 : decode cX8_countLeast 92 = .ok (.aload_n 0, 1) := by decide +kernel
theorem dX8_countLeast_93 : decode cX8_countLeast 93 = .ok (.getfield 24, 3) := by decide +kernel
theorem dX8_countLeast_96 : decode cX8_countLeast 96 = .ok (.iload 5, 2) := by decide +kernel
theorem dX8_countLeast_98 : decode cX8_countLeast 98 = .ok (.iload 5, 2) := by decide +kernel
theorem dX8_countLeast_100 : decode cX8_countLeast 100 = .ok (.iload_n 2, 1) := by decide +kernel
theorem dX8_countLeast_101 : decode cX8_countLeast 101 = .ok (.if_icmp .ne 7, 3) := by decide +kernel
theorem dX8_countLeast_104 : decode cX8_countLeast 104 = .ok (.lconst 1, 1) := by decide +kernel
theorem dX8_countLeast_105 : decode cX8_countLeast 105 = .ok (.goto 10, 3) := by decide +kernel
theorem dX8_countLeast_108 : decode cX8_countLeast 108 = .ok (.aload_n 0, 1) := by decide +kernel
theorem dX8_countLeast_109 : decode cX8_countLeast 109 = .ok (.iload 5, 2) := by decide +kernel
theorem dX8_countLeast_111 : decode cX8_countLeast 111 = .ok (.iload_n 2, 1) := by decide +kernel
theorem dX8_countLeast_112 : decode cX8_countLeast 112 = .ok (.invokevirtual 113, 3) := by decide +kernel
theorem dX8_countLeast_115 : decode cX8_countLeast 115 = .ok (.lastore, 1) := by decide +kernel
theorem dX8_countLeast_116 : decode cX8_countLeast 116 = .ok (.iinc 4 1, 3) := by decide +kernel
theorem dX8_countLeast_119 : decode cX8_countLeast 119 = .ok (.goto (-63), 3) := by decide +kernel
theorem dX8_countLeast_122 : decode cX8_countLeast 122 = .ok (.iload_n 1, 1) := by decide +kernel
theorem dX8_countLeast_123 : decode cX8_countLeast 123 = .ok (.iload_n 2, 1) := by decide +kernel
theorem dX8_countLeast_124 : decode cX8_countLeast 124 = .ok (.if_icmp .ne 7, 3) := by decide +kernel
theorem dX8_countLeast_127 : decode cX8_countLeast 127 = .ok (.lconst 1, 1) := by decide +kernel
theorem dX8_countLeast_128 : decode cX8_countLeast 128 = .ok (.goto 9, 3) := by decide +kernel
theorem dX8_countLeast_131 : decode cX8_countLeast 131 = .ok (.aload_n 0, 1) := by decide +kernel
theorem dX8_countLeast_132 : decode cX8_countLeast 132 = .ok (.iload_n 1, 1) := by decide +kernel
theorem dX8_countLeast_133 : decode cX8_countLeast 133 = .ok (.iload_n 2, 1) := by decide +kernel
theorem dX8_countLeast_134 : decode cX8_countLeast 134 = .ok (.invokevirtual 113, 3) := by decide +kernel
theorem dX8_countLeast_137 : decode cX8_countLeast 137 = .ok (.lreturn, 1) := by decide +kernel
theorem dX8_countOnward_0 : decode cX8_countOnward 0 = .ok (.lconst 0, 1) := by decide +kernel
theorem dX8_countOnward_1 : decode cX8_countOnward 1 = .ok (.lstore_n 3, 1) := by decide +kernel
theorem dX8_countOnward_2 : decode cX8_countOnward 2 = .ok (.iconst 0, 1) := by decide +kernel
theorem dX8_countOnward_3 : decode cX8_countOnward 3 = .ok (.istore 5, 2) := by decide +kernel
theorem dX8_countOnward_5 : decode cX8_countOnward 5 = .ok (.iload 5, 2) := by decide +kernel
theorem dX8_countOnward_7 : decode cX8_countOnward 7 = .ok (.aload_n 0, 1) := by decide +kernel
theorem dX8_countOnward_8 : decode cX8_countOnward 8 = .ok (.getfield 44, 3) := by decide +kernel
theorem dX8_countOnward_11 : decode cX8_countOnward 11 = .ok (.getfield 57, 3) := by decide +kernel
theorem dX8_countOnward_14 : decode cX8_countOnward 14 = .ok (.if_icmp .ge 69, 3) := by decide +kernel
theorem dX8_countOnward_17 : decode cX8_countOnward 17 = .ok (.aload_n 0, 1) := by decide +kernel
theorem dX8_countOnward_18 : decode cX8_countOnward 18 = .ok (.getfield 48, 3) := by decide +kernel
theorem dX8_countOnward_21 : decode cX8_countOnward 21 = .ok (.iload_n 1, 1) := by decide +kernel
theorem dX8_countOnward_22 : decode cX8_countOnward 22 = .ok (.iload 5, 2) := by decide +kernel
theorem dX8_countOnward_24 : decode cX8_countOnward 24 = .ok (.invokevirtual 106, 3) := by decide +kernel
theorem dX8_countOnward_27 : decode cX8_countOnward 27 = .ok (.ifCond .eq 50, 3) := by decide +kernel
theorem dX8_countOnward_30 : decode cX8_countOnward 30 = .ok (.aload_n 0, 1) := by decide +kernel
theorem dX8_countOnward_31 : decode cX8_countOnward 31 = .ok (.iload 5, 2) := by decide +kernel
theorem dX8_countOnward_33 : decode cX8_countOnward 33 = .ok (.iload_n 2, 1) := by decide +kernel
theorem dX8_countOnward_34 : decode cX8_countOnward 34 = .ok (.invokevirtual 99, 3) := by decide +kernel
theorem dX8_countOnward_37 : decode cX8_countOnward 37 = .ok (.ifCond .eq 40, 3) := by decide +kernel
theorem dX8_countOnward_40 : decode cX8_countOnward 40 = .ok (.aload_n 0, 1) := by decide +kernel
theorem dX8_countOnward_41 : decode cX8_countOnward 41 = .ok (.getfield 48, 3) := by decide +kernel
theorem dX8_countOnward_44 : decode cX8_countOnward 44 = .ok (.iload_n 1, 1) := by decide +kernel
theorem dX8_countOnward_45 : decode cX8_countOnward 45 = .ok (.iload 5, 2) := by decide +kernel
theorem dX8_countOnward_47 : decode cX8_countOnward 47 = .ok (.invokevirtual 86, 3) := by decide +kernel
theorem dX8_countOnward_50 : decode cX8_countOnward 50 = .ok (.aload_n 0, 1) := by decide +kernel
theorem dX8_countOnward_51 : decode cX8_countOnward 51 = .ok (.iload 5, 2) := by decide +kernel
theorem dX8_countOnward_53 : decode cX8_countOnward 53 = .ok (.iload_n 2, 1) := by decide +kernel
theorem dX8_countOnward_54 : decode cX8_countOnward 54 = .ok (.invokevirtual 102, 3) := by decide +kernel
theorem dX8_countOnward_57 : decode cX8_countOnward 57 = .ok (.iadd, 1) := by decide +kernel
theorem dX8_countOnward_58 : decode cX8_countOnward 58 = .ok (.aload_n 0, 1) := by decide +kernel
theorem dX8_countOnward_59 : decode cX8_countOnward 59 = .ok (.iload_n 1, 1) := by decide +kernel
theorem dX8_countOnward_60 : decode cX8_countOnward 60 = .ok (.iload_n 2, 1) := by decide +kernel
theorem dX8_countOnward_61 : decode cX8_countOnward 61 = .ok (.invokevirtual 102, 3) := by decide +kernel
theorem dX8_countOnward_64 : decode cX8_countOnward 64 = .ok (.if_icmp .ne 13, 3) := by decide +kernel
theorem dX8_countOnward_67 : decode cX8_countOnward 67 = .ok (.lload_n 3, 1) := by decide +kernel
theorem dX8_countOnward_68 : decode cX8_countOnward 68 = .ok (.aload_n 0, 1) := by decide +kernel
theorem dX8_countOnward_69 : decode cX8_countOnward 69 = .ok (.getfield 24, 3) := by decide +kernel
theorem dX8_countOnward_72 : decode cX8_countOnward 72 = .ok (.iload 5, 2) := by decide +kernel
theorem dX8_countOnward_74 : decode cX8_countOnward 74 = .ok (.laload, 1) := by decide +kernel
theorem dX8_countOnward_75 : decode cX8_countOnward 75 = .ok (.ladd, 1) := by decide +kernel
theorem dX8_countOnward_76 : decode cX8_countOnward 76 = .ok (.lstore_n 3, 1) := by decide +kernel
theorem dX8_countOnward_77 : decode cX8_countOnward 77 = .ok (.iinc 5 1, 3) := by decide +kernel
theorem dX8_countOnward_80 : decode cX8_countOnward 80 = .ok (.goto (-75), 3) := by decide +kernel
theorem dX8_countOnward_83 : decode cX8_countOnward 83 = .ok (.lload_n 3, 1) := by decide +kernel
theorem dX8_countOnward_84 : decode cX8_countOnward 84 = .ok (.lreturn, 1) := by decide +kernel
theorem dX8_countWalks_0 : decode cX8_countWalks 0 = .ok (.iconst 0, 1) := by decide +kernel
theorem dX8_countWalks_1 : decode cX8_countWalks 1 = .ok (.istore 4, 2) := by decide +kernel
theorem dX8_countWalks_3 : decode cX8_countWalks 3 = .ok (.iload 4, 2) := by decide +kernel
theorem dX8_countWalks_5 : decode cX8_countWalks 5 = .ok (.aload_n 0, 1) := by decide +kernel
theorem dX8_countWalks_6 : decode cX8_countWalks 6 = .ok (.getfield 44, 3) := by decide +kernel
theorem dX8_countWalks_9 : decode cX8_countWalks 9 = .ok (.getfield 57, 3) := by decide +kernel
theorem dX8_countWalks_12 : decode cX8_countWalks 12 = .ok (.if_icmp .ge 27, 3) := by decide +kernel
theorem dX8_countWalks_15 : decode cX8_countWalks 15 = .ok (.aload_n 0, 1) := by decide +kernel
theorem dX8_countWalks_16 : decode cX8_countWalks 16 = .ok (.getfield 24, 3) := by decide +kernel
theorem dX8_countWalks_19 : decode cX8_countWalks 19 = .ok (.iload 4, 2) := by decide +kernel
theorem dX8_countWalks_21 : decode cX8_countWalks 21 = .ok (.iload 4, 2) := by decide +kernel
theorem dX8_countWalks_23 : decode cX8_countWalks 23 = .ok (.iload_n 1, 1) := by decide +kernel
theorem dX8_countWalks_24 : decode cX8_countWalks 24 = .ok (.if_icmp .ne 7, 3) := by decide +kernel
theorem dX8_countWalks_27 : decode cX8_countWalks 27 = .ok (.lconst 1, 1) := by decide +kernel
theorem dX8_countWalks_28 : decode cX8_countWalks 28 = .ok (.goto 4, 3) := by decide +kernel
theorem dX8_countWalks_31 : decode cX8_countWalks 31 = .ok (.lconst 0, 1) := by decide +kernel
theorem dX8_countWalks_32 : decode cX8_countWalks 32 = .ok (.lastore, 1) := by decide +kernel
theorem dX8_countWalks_33 : decode cX8_countWalks 33 = .ok (.iinc 4 1, 3) := by decide +kernel
theorem dX8_countWalks_36 : decode cX8_countWalks 36 = .ok (.goto (-33), 3) := by decide +kernel
theorem dX8_countWalks_39 : decode cX8_countWalks 39 = .ok (.iconst 0, 1) := by decide +kernel
theorem dX8_countWalks_40 : decode cX8_countWalks 40 = .ok (.istore 4, 2) := by decide +kernel
theorem dX8_countWalks_42 : decode cX8_countWalks 42 = .ok (.iload 4, 2) := by decide +kernel
theorem dX8_countWalks_44 : decode cX8_countWalks 44 = .ok (.iload_n 3, 1) := by decide +kernel
theorem dX8_countWalks_45 : decode cX8_countWalks 45 = .ok (.if_icmp .ge 58, 3) := by decide +kernel
theorem dX8_countWalks_48 : decode cX8_countWalks 48 = .ok (.aload_n 0, 1) := by decide +kernel
theorem dX8_countWalks_49 : decode cX8_countWalks 49 = .ok (.getfield 24, 3) := by decide +kernel
theorem dX8_countWalks_52 : decode cX8_countWalks 52 = .ok (.iconst 0, 1) := by decide +kernel
theorem dX8_countWalks_53 : decode cX8_countWalks 53 = .ok (.aload_n 0, 1) := by decide +kernel
theorem dX8_countWalks_54 : decode cX8_countWalks 54 = .ok (.getfield 27, 3) := by decide +kernel
theorem dX8_countWalks_57 : decode cX8_countWalks 57 = .ok (.iconst 0, 1) := by decide +kernel
theorem dX8_countWalks_58 : decode cX8_countWalks 58 = .ok (.bipush 40, 2) := by decide +kernel
theorem dX8_countWalks_60 : decode cX8_countWalks 60 = .ok (.invokestatic 132, 3) := by decide +kernel
theorem dX8_countWalks_63 : decode cX8_countWalks 63 = .ok (.iconst 0, 1) := by decide +kernel
theorem dX8_countWalks_64 : decode cX8_countWalks 64 = .ok (.istore 5, 2) := by decide +kernel
theorem dX8_countWalks_66 : decode cX8_countWalks 66 = .ok (.iload 5, 2) := by decide +kernel
theorem dX8_countWalks_68 : decode cX8_countWalks 68 = .ok (.aload_n 0, 1) := by decide +kernel
theorem dX8_countWalks_69 : decode cX8_countWalks 69 = .ok (.getfield 44, 3) := by decide +kernel
theorem dX8_countWalks_72 : decode cX8_countWalks 72 = .ok (.getfield 57, 3) := by decide +kernel
theorem dX8_countWalks_75 : decode cX8_countWalks 75 = .ok (.if_icmp .ge 22, 3) := by decide +kernel
theorem dX8_countWalks_78 : decode cX8_countWalks 78 = .ok (.aload_n 0, 1) := by decide +kernel
theorem dX8_countWalks_79 : decode cX8_countWalks 79 = .ok (.getfield 24, 3) := by decide +kernel
theorem dX8_countWalks_82 : decode cX8_countWalks 82 = .ok (.iload 5, 2) := by decide +kernel
theorem dX8_countWalks_84 : decode cX8_countWalks 84 = .ok (.aload_n 0, 1) := by decide +kernel
theorem dX8_countWalks_85 : decode cX8_countWalks 85 = .ok (.iload 5, 2) := by decide +kernel
theorem dX8_countWalks_87 : decode cX8_countWalks 87 = .ok (.invokevirtual 138, 3) := by decide +kernel
theorem dX8_countWalks_90 : decode cX8_countWalks 90 = .ok (.lastore, 1) := by decide +kernel
theorem dX8_countWalks_91 : decode cX8_countWalks 91 = .ok (.iinc 5 1, 3) := by decide +kernel
theorem dX8_countWalks_94 : decode cX8_countWalks 94 = .ok (.goto (-28), 3) := by decide +kernel
theorem dX8_countWalks_97 : decode cX8_countWalks 97 = .ok (.iinc 4 1, 3) := by decide +kernel
theorem dX8_countWalks_100 : decode cX8_countWalks 100 = .ok (.goto (-58), 3) := by decide +kernel
theorem dX8_countWalks_103 : decode cX8_countWalks 103 = .ok (.aload_n 0, 1) := by decide +kernel
theorem dX8_countWalks_104 : decode cX8_countWalks 104 = .ok (.getfield 24, 3) := by decide +kernel
theorem dX8_countWalks_107 : decode cX8_countWalks 107 = .ok (.iload_n 2, 1) := by decide +kernel
theorem dX8_countWalks_108 : decode cX8_countWalks 108 = .ok (.laload, 1) := by decide +kernel
theorem dX8_countWalks_109 : decode cX8_countWalks 109 = .ok (.lreturn, 1) := by decide +kernel
theorem dX8_findFarTwo_0 : decode cX8_findFarTwo 0 = .ok (.aload_n 0, 1) := by decide +kernel
theorem dX8_findFarTwo_1 : decode cX8_findFarTwo 1 = .ok (.iconst (-1), 1) := by decide +kernel
theorem dX8_findFarTwo_2 : decode cX8_findFarTwo 2 = .ok (.putfield 90, 3) := by decide +kernel
theorem dX8_findFarTwo_5 : decode cX8_findFarTwo 5 = .ok (.aload_n 0, 1) := by decide +kernel
theorem dX8_findFarTwo_6 : decode cX8_findFarTwo 6 = .ok (.iconst (-1), 1) := by decide +kernel
theorem dX8_findFarTwo_7 : decode cX8_findFarTwo 7 = .ok (.putfield 93, 3) := by decide +kernel
theorem dX8_findFarTwo_10 : decode cX8_findFarTwo 10 = .ok (.aload_n 0, 1) := by decide +kernel
theorem dX8_findFarTwo_11 : decode cX8_findFarTwo 11 = .ok (.iconst 0, 1) := by decide +kernel
theorem dX8_findFarTwo_12 : decode cX8_findFarTwo 12 = .ok (.putfield 96, 3) := by decide +kernel
theorem dX8_findFarTwo_15 : decode cX8_findFarTwo 15 = .ok (.iconst 0, 1) := by decide +kernel
theorem dX8_findFarTwo_16 : decode cX8_findFarTwo 16 = .ok (.istore_n 1, 1) := by decide +kernel
theorem dX8_findFarTwo_17 : decode cX8_findFarTwo 17 = .ok (.iload_n 1, 1) := by decide +kernel
theorem dX8_findFarTwo_18 : decode cX8_findFarTwo 18 = .ok (.aload_n 0, 1) := by decide +kernel
theorem dX8_findFarTwo_19 : decode cX8_findFarTwo 19 = .ok (.getfield 44, 3) := by decide +kernel
theorem dX8_findFarTwo_22 : decode cX8_findFarTwo 22 = .ok (.getfield 57, 3) := by decide +kernel
theorem dX8_findFarTwo_25 : decode cX8_findFarTwo 25 = .ok (.if_icmp .ge 75, 3) := by decide +kernel
theorem dX8_findFarTwo_28 : decode cX8_findFarTwo 28 = .ok (.iconst 0, 1) := by decide +kernel
theorem dX8_findFarTwo_29 : decode cX8_findFarTwo 29 = .ok (.istore_n 2, 1) := by decide +kernel
theorem dX8_findFarTwo_30 : decode cX8_findFarTwo 30 = .ok (.iload_n 2, 1) := by decide +kernel
theorem dX8_findFarTwo_31 : decode cX8_findFarTwo 31 = .ok (.aload_n 0, 1) := by decide +kernel
theorem dX8_findFarTwo_32 : decode cX8_findFarTwo 32 = .ok (.getfield 44, 3) := by decide +kernel
theorem dX8_findFarTwo_35 : decode cX8_findFarTwo 35 = .ok (.getfield 57, 3) := by decide +kernel
theorem dX8_findFarTwo_38 : decode cX8_findFarTwo 38 = .ok (.if_icmp .ge 56, 3) := by decide +kernel
theorem dX8_findFarTwo_41 : decode cX8_findFarTwo 41 = .ok (.iload_n 1, 1) := by decide +kernel
theorem dX8_findFarTwo_42 : decode cX8_findFarTwo 42 = .ok (.iload_n 2, 1) := by decide +kernel
theorem dX8_findFarTwo_43 : decode cX8_findFarTwo 43 = .ok (.if_icmp .eq 45, 3) := by decide +kernel
theorem dX8_findFarTwo_46 : decode cX8_findFarTwo 46 = .ok (.aload_n 0, 1) := by decide +kernel
theorem dX8_findFarTwo_47 : decode cX8_findFarTwo 47 = .ok (.iload_n 1, 1) := by decide +kernel
theorem dX8_findFarTwo_48 : decode cX8_findFarTwo 48 = .ok (.iload_n 2, 1) := by decide +kernel
theorem dX8_findFarTwo_49 : decode cX8_findFarTwo 49 = .ok (.invokevirtual 99, 3) := by decide +kernel
theorem dX8_findFarTwo_52 : decode cX8_findFarTwo 52 = .ok (.ifCond .eq 36, 3) := by decide +kernel
theorem dX8_findFarTwo_55 : decode cX8_findFarTwo 55 = .ok (.aload_n 0, 1) := by decide +kernel
theorem dX8_findFarTwo_56 : decode cX8_findFarTwo 56 = .ok (.iload_n 1, 1) := by decide +kernel
theorem dX8_findFarTwo_57 : decode cX8_findFarTwo 57 = .ok (.iload_n 2, 1) := by decide +kernel
theorem dX8_findFarTwo_58 : decode cX8_findFarTwo 58 = .ok (.invokevirtual 102, 3) := by decide +kernel
theorem dX8_findFarTwo_61 : decode cX8_findFarTwo 61 = .ok (.aload_n 0, 1) := by decide +kernel
theorem dX8_findFarTwo_62 : decode cX8_findFarTwo 62 = .ok (.getfield 96, 3) := by decide +kernel
theorem dX8_findFarTwo_65 : decode cX8_findFarTwo 65 = .ok (.if_icmp .le 23, 3) := by decide +kernel
theorem dX8_findFarTwo_68 : decode cX8_findFarTwo 68 = .ok (.aload_n 0, 1) := by decide +kernel
theorem dX8_findFarTwo_69 : decode cX8_findFarTwo 69 = .ok (.iload_n 1, 1) := by decide +kernel
theorem dX8_findFarTwo_70 : decode cX8_findFarTwo 70 = .ok (.putfield 90, 3) := by decide +kernel
theorem dX8_findFarTwo_73 : decode cX8_findFarTwo 73 = .ok (.aload_n 0, 1) := by decide +kernel
theorem dX8_findFarTwo_74 : decode cX8_findFarTwo 74 = .ok (.iload_n 2, 1) := by decide +kernel
theorem dX8_findFarTwo_75 : decode cX8_findFarTwo 75 = .ok (.putfield 93, 3) := by decide +kernel
theorem dX8_findFarTwo_78 : decode cX8_findFarTwo 78 = .ok (.aload_n 0, 1) := by decide +kernel
theorem dX8_findFarTwo_79 : decode cX8_findFarTwo 79 = .ok (.aload_n 0, 1) := by decide +kernel
theorem dX8_findFarTwo_80 : decode cX8_findFarTwo 80 = .ok (.iload_n 1, 1) := by decide +kernel
theorem dX8_findFarTwo_81 : decode cX8_findFarTwo 81 = .ok (.iload_n 2, 1) := by decide +kernel
theorem dX8_findFarTwo_82 : decode cX8_findFarTwo 82 = .ok (.invokevirtual 102, 3) := by decide +kernel
theorem dX8_findFarTwo_85 : decode cX8_findFarTwo 85 = .ok (.putfield 96, 3) := by decide +kernel
theorem dX8_findFarTwo_88 : decode cX8_findFarTwo 88 = .ok (.iinc 2 1, 3) := by decide +kernel
theorem dX8_findFarTwo_91 : decode cX8_findFarTwo 91 = .ok (.goto (-61), 3) := by decide +kernel
theorem dX8_findFarTwo_94 : decode cX8_findFarTwo 94 = .ok (.iinc 1 1, 3) := by decide +kernel
theorem dX8_findFarTwo_97 : decode cX8_findFarTwo 97 = .ok (.goto (-80), 3) := by decide +kernel
theorem dX8_findFarTwo_100 : decode cX8_findFarTwo 100 = .ok (.return_, 1) := by decide +kernel
theorem dX8_findHeaps_0 : decode cX8_findHeaps 0 = .ok (.aload_n 0, 1) := by decide +kernel
theorem dX8_findHeaps_1 : decode cX8_findHeaps 1 = .ok (.iconst 0, 1) := by decide +kernel
theorem dX8_findHeaps_2 : decode cX8_findHeaps 2 = .ok (.putfield 76, 3) := by decide +kernel
theorem dX8_findHeaps_5 : decode cX8_findHeaps 5 = .ok (.iconst 0, 1) := by decide +kernel
theorem dX8_findHeaps_6 : decode cX8_findHeaps 6 = .ok (.istore_n 1, 1) := by decide +kernel
theorem dX8_findHeaps_7 : decode cX8_findHeaps 7 = .ok (.iload_n 1, 1) := by decide +kernel
theorem dX8_findHeaps_8 : decode cX8_findHeaps 8 = .ok (.aload_n 0, 1) := by decide +kernel
theorem dX8_findHeaps_9 : decode cX8_findHeaps 9 = .ok (.getfield 44, 3) := by decide +kernel
theorem dX8_findHeaps_12 : decode cX8_findHeaps 12 = .ok (.getfield 57, 3) := by decide +kernel
theorem dX8_findHeaps_15 : decode cX8_findHeaps 15 = .ok (.if_icmp .ge 73, 3) := by decide +kernel
theorem dX8_findHeaps_18 : decode cX8_findHeaps 18 = .ok (.iconst 0, 1) := by decide +kernel
theorem dX8_findHeaps_19 : decode cX8_findHeaps 19 = .ok (.istore_n 2, 1) := by decide +kernel
theorem dX8_findHeaps_20 : decode cX8_findHeaps 20 = .ok (.iload_n 2, 1) := by decide +kernel
theorem dX8_findHeaps_21 : decode cX8_findHeaps 21 = .ok (.iload_n 1, 1) := by decide +kernel
theorem dX8_findHeaps_22 : decode cX8_findHeaps 22 = .ok (.if_icmp .ge 27, 3) := by decide +kernel
theorem dX8_findHeaps_25 : decode cX8_findHeaps 25 = .ok (.aload_n 0, 1) := by decide +kernel
theorem dX8_findHeaps_26 : decode cX8_findHeaps 26 = .ok (.iload_n 1, 1) := by decide +kernel
theorem dX8_findHeaps_27 : decode cX8_findHeaps 27 = .ok (.iload_n 2, 1) := by decide +kernel
theorem dX8_findHeaps_28 : decode cX8_findHeaps 28 = .ok (.invokevirtual 69, 3) := by decide +kernel
theorem dX8_findHeaps_31 : decode cX8_findHeaps 31 = .ok (.ifCond .eq 12, 3) := by decide +kernel
theorem dX8_findHeaps_34 : decode cX8_findHeaps 34 = .ok (.aload_n 0, 1) := by decide +kernel
theorem dX8_findHeaps_35 : decode cX8_findHeaps 35 = .ok (.iload_n 2, 1) := by decide +kernel
theorem dX8_findHeaps_36 : decode cX8_findHeaps 36 = .ok (.iload_n 1, 1) := by decide +kernel
theorem dX8_findHeaps_37 : decode cX8_findHeaps 37 = .ok (.invokevirtual 69, 3) := by decide +kernel
theorem dX8_findHeaps_40 : decode cX8_findHeaps 40 = .ok (.ifCond .ne 9, 3) := by decide +kernel
theorem dX8_findHeaps_43 : decode cX8_findHeaps 43 = .ok (.iinc 2 1, 3) := by decide +kernel
theorem dX8_findHeaps_46 : decode cX8_findHeaps 46 = .ok (.goto (-26), 3) := by decide +kernel
theorem dX8_findHeaps_49 : decode cX8_findHeaps 49 = .ok (.aload_n 0, 1) := by decide +kernel
theorem dX8_findHeaps_50 : decode cX8_findHeaps 50 = .ok (.getfield 20, 3) := by decide +kernel
theorem dX8_findHeaps_53 : decode cX8_findHeaps 53 = .ok (.iload_n 1, 1) := by decide +kernel
theorem dX8_findHeaps_54 : decode cX8_findHeaps 54 = .ok (.iload_n 2, 1) := by decide +kernel
theorem dX8_findHeaps_55 : decode cX8_findHeaps 55 = .ok (.iastore, 1) := by decide +kernel
theorem dX8_findHeaps_56 : decode cX8_findHeaps 56 = .ok (.iload_n 2, 1) := by decide +kernel
theorem dX8_findHeaps_57 : decode cX8_findHeaps 57 = .ok (.iload_n 1, 1) := by decide +kernel
theorem dX8_findHeaps_58 : decode cX8_findHeaps 58 = .ok (.if_icmp .ne 24, 3) := by decide +kernel
theorem dX8_findHeaps_61 : decode cX8_findHeaps 61 = .ok (.aload_n 0, 1) := by decide +kernel
theorem dX8_findHeaps_62 : decode cX8_findHeaps 62 = .ok (.getfield 44, 3) := by decide +kernel
theorem dX8_findHeaps_65 : decode cX8_findHeaps 65 = .ok (.iload_n 1, 1) := by decide +kernel
theorem dX8_findHeaps_66 : decode cX8_findHeaps 66 = .ok (.invokevirtual 62, 3) := by decide +kernel
theorem dX8_findHeaps_69 : decode cX8_findHeaps 69 = .ok (.ifCond .eq 13, 3) := by decide +kernel
theorem dX8_findHeaps_72 : decode cX8_findHeaps 72 = .ok (.aload_n 0, 1) := by decide +kernel
theorem dX8_findHeaps_73 : decode cX8_findHeaps 73 = .ok (.dup, 1) := by decide +kernel
theorem dX8_findHeaps_74 : decode cX8_findHeaps 74 = .ok (.getfield 76, 3) := by decide +kernel
theorem dX8_findHeaps_77 : decode cX8_findHeaps 77 = .ok (.iconst 1, 1) := by decide +kernel
theorem dX8_findHeaps_78 : decode cX8_findHeaps 78 = .ok (.iadd, 1) := by decide +kernel
theorem dX8_findHeaps_79 : decode cX8_findHeaps 79 = .ok (.putfield 76, 3) := by decide +kernel
theorem dX8_findHeaps_82 : decode cX8_findHeaps 82 = .ok (.iinc 1 1, 3) := by decide +kernel
theorem dX8_findHeaps_85 : decode cX8_findHeaps 85 = .ok (.goto (-78), 3) := by decide +kernel
theorem dX8_findHeaps_88 : decode cX8_findHeaps 88 = .ok (.return_, 1) := by decide +kernel
theorem dX8_isWay_0 : decode cX8_isWay 0 = .ok (.aload_n 0, 1) := by decide +kernel
theorem dX8_isWay_1 : decode cX8_isWay 1 = .ok (.getfield 11, 3) := by decide +kernel
theorem dX8_isWay_4 : decode cX8_isWay 4 = .ok (.iload_n 1, 1) := by decide +kernel
theorem dX8_isWay_5 : decode cX8_isWay 5 = .ok (.aaload, 1) := by decide +kernel
theorem dX8_isWay_6 : decode cX8_isWay 6 = .ok (.iload_n 2, 1) := by decide +kernel
theorem dX8_isWay_7 : decode cX8_isWay 7 = .ok (.iaload, 1) := by decide +kernel
theorem dX8_isWay_8 : decode cX8_isWay 8 = .ok (.ldc 82, 2) := by decide +kernel
theorem dX8_isWay_10 : decode cX8_isWay 10 = .ok (.if_icmp .ge 7, 3) := by decide +kernel
theorem dX8_isWay_13 : decode cX8_isWay 13 = .ok (.iconst 1, 1) := by decide +kernel
theorem dX8_isWay_14 : decode cX8_isWay 14 = .ok (.goto 4, 3) := by decide +kernel
theorem dX8_isWay_17 : decode cX8_isWay 17 = .ok (.iconst 0, 1) := by decide +kernel
theorem dX8_isWay_18 : decode cX8_isWay 18 = .ok (.ireturn, 1) := by decide +kernel
theorem dX8_lengthOf_0 : decode cX8_lengthOf 0 = .ok (.aload_n 0, 1) := by decide +kernel
theorem dX8_lengthOf_1 : decode cX8_lengthOf 1 = .ok (.getfield 11, 3) := by decide +kernel
theorem dX8_lengthOf_4 : decode cX8_lengthOf 4 = .ok (.iload_n 1, 1) := by decide +kernel
theorem dX8_lengthOf_5 : decode cX8_lengthOf 5 = .ok (.aaload, 1) := by decide +kernel
theorem dX8_lengthOf_6 : decode cX8_lengthOf 6 = .ok (.iload_n 2, 1) := by decide +kernel
theorem dX8_lengthOf_7 : decode cX8_lengthOf 7 = .ok (.iaload, 1) := by decide +kernel
theorem dX8_lengthOf_8 : decode cX8_lengthOf 8 = .ok (.bipush 64, 2) := by decide +kernel
theorem dX8_lengthOf_10 : decode cX8_lengthOf 10 = .ok (.irem, 1) := by decide +kernel
theorem dX8_lengthOf_11 : decode cX8_lengthOf 11 = .ok (.ireturn, 1) := by decide +kernel
theorem dX8_nearestUndone_0 : decode cX8_nearestUndone 0 = .ok (.iconst (-1), 1) := by decide +kernel
theorem dX8_nearestUndone_1 : decode cX8_nearestUndone 1 = .ok (.istore_n 2, 1) := by decide +kernel
theorem dX8_nearestUndone_2 : decode cX8_nearestUndone 2 = .ok (.iconst 0, 1) := by decide +kernel
theorem dX8_nearestUndone_3 : decode cX8_nearestUndone 3 = .ok (.istore_n 3, 1) := by decide +kernel
theorem dX8_nearestUndone_4 : decode cX8_nearestUndone 4 = .ok (.iload_n 3, 1) := by decide +kernel
theorem dX8_nearestUndone_5 : decode cX8_nearestUndone 5 = .ok (.aload_n 0, 1) := by decide +kernel
theorem dX8_nearestUndone_6 : decode cX8_nearestUndone 6 = .ok (.getfield 44, 3) := by decide +kernel
theorem dX8_nearestUndone_9 : decode cX8_nearestUndone 9 = .ok (.getfield 57, 3) := by decide +kernel
theorem dX8_nearestUndone_12 : decode cX8_nearestUndone 12 = .ok (.if_icmp .ge 44, 3) := by decide +kernel
theorem dX8_nearestUndone_15 : decode cX8_nearestUndone 15 = .ok (.aload_n 0, 1) := by decide +kernel
theorem dX8_nearestUndone_16 : decode cX8_nearestUndone 16 = .ok (.getfield 30, 3) := by decide +kernel
theorem dX8_nearestUndone_19 : decode cX8_nearestUndone 19 = .ok (.iload_n 3, 1) := by decide +kernel
theorem dX8_nearestUndone_20 : decode cX8_nearestUndone 20 = .ok (.baload, 1) := by decide +kernel
theorem dX8_nearestUndone_21 : decode cX8_nearestUndone 21 = .ok (.ifCond .ne 29, 3) := by decide +kernel
theorem dX8_nearestUndone_24 : decode cX8_nearestUndone 24 = .ok (.iload_n 2, 1) := by decide +kernel
theorem dX8_nearestUndone_25 : decode cX8_nearestUndone 25 = .ok (.iconst (-1), 1) := by decide +kernel
theorem dX8_nearestUndone_26 : decode cX8_nearestUndone 26 = .ok (.if_icmp .eq 22, 3) := by decide +kernel
theorem dX8_nearestUndone_29 : decode cX8_nearestUndone 29 = .ok (.aload_n 0, 1) := by decide +kernel
theorem dX8_nearestUndone_30 : decode cX8_nearestUndone 30 = .ok (.getfield 11, 3) := by decide +kernel
theorem dX8_nearestUndone_33 : decode cX8_nearestUndone 33 = .ok (.iload_n 3, 1) := by decide +kernel
theorem dX8_nearestUndone_34 : decode cX8_nearestUndone 34 = .ok (.aaload, 1) := by decide +kernel
theorem dX8_nearestUndone_35 : decode cX8_nearestUndone 35 = .ok (.iload_n 1, 1) := by decide +kernel
theorem dX8_nearestUndone_36 : decode cX8_nearestUndone 36 = .ok (.iaload, 1) := by decide +kernel
theorem dX8_nearestUndone_37 : decode cX8_nearestUndone 37 = .ok (.aload_n 0, 1) := by decide +kernel
theorem dX8_nearestUndone_38 : decode cX8_nearestUndone 38 = .ok (.getfield 11, 3) := by decide +kernel
theorem dX8_nearestUndone_41 : decode cX8_nearestUndone 41 = .ok (.iload_n 2, 1) := by decide +kernel
theorem dX8_nearestUndone_42 : decode cX8_nearestUndone 42 = .ok (.aaload, 1) := by decide +kernel
theorem dX8_nearestUndone_43 : decode cX8_nearestUndone 43 = .ok (.iload_n 1, 1) := by decide +kernel
theorem dX8_nearestUndone_44 : decode cX8_nearestUndone 44 = .ok (.iaload, 1) := by decide +kernel
theorem dX8_nearestUndone_45 : decode cX8_nearestUndone 45 = .ok (.if_icmp .ge 5, 3) := by decide +kernel
theorem dX8_nearestUndone_48 : decode cX8_nearestUndone 48 = .ok (.iload_n 3, 1) := by decide +kernel
theorem dX8_nearestUndone_49 : decode cX8_nearestUndone 49 = .ok (.istore_n 2, 1) := by decide +kernel
theorem dX8_nearestUndone_50 : decode cX8_nearestUndone 50 = .ok (.iinc 3 1, 3) := by decide +kernel
theorem dX8_nearestUndone_53 : decode cX8_nearestUndone 53 = .ok (.goto (-49), 3) := by decide +kernel
theorem dX8_nearestUndone_56 : decode cX8_nearestUndone 56 = .ok (.iload_n 2, 1) := by decide +kernel
theorem dX8_nearestUndone_57 : decode cX8_nearestUndone 57 = .ok (.ireturn, 1) := by decide +kernel
theorem dX8_neededBetween_0 : decode cX8_neededBetween 0 = .ok (.lconst 0, 1) := by decide +kernel
theorem dX8_neededBetween_1 : decode cX8_neededBetween 1 = .ok (.lstore_n 3, 1) := by decide +kernel
theorem dX8_neededBetween_2 : decode cX8_neededBetween 2 = .ok (.iconst 0, 1) := by decide +kernel
theorem dX8_neededBetween_3 : decode cX8_neededBetween 3 = .ok (.istore 5, 2) := by decide +kernel
theorem dX8_neededBetween_5 : decode cX8_neededBetween 5 = .ok (.iload 5, 2) := by decide +kernel
theorem dX8_neededBetween_7 : decode cX8_neededBetween 7 = .ok (.aload_n 0, 1) := by decide +kernel
theorem dX8_neededBetween_8 : decode cX8_neededBetween 8 = .ok (.getfield 44, 3) := by decide +kernel
theorem dX8_neededBetween_11 : decode cX8_neededBetween 11 = .ok (.getfield 57, 3) := by decide +kernel
theorem dX8_neededBetween_14 : decode cX8_neededBetween 14 = .ok (.if_icmp .ge 59, 3) := by decide +kernel
theorem dX8_neededBetween_17 : decode cX8_neededBetween 17 = .ok (.iload 5, 2) := by decide +kernel
theorem dX8_neededBetween_19 : decode cX8_neededBetween 19 = .ok (.iload_n 1, 1) := by decide +kernel
theorem dX8_neededBetween_20 : decode cX8_neededBetween 20 = .ok (.if_icmp .eq 47, 3) := by decide +kernel
theorem dX8_neededBetween_23 : decode cX8_neededBetween 23 = .ok (.iload 5, 2) := by decide +kernel
theorem dX8_neededBetween_25 : decode cX8_neededBetween 25 = .ok (.iload_n 2, 1) := by decide +kernel
theorem dX8_neededBetween_26 : decode cX8_neededBetween 26 = .ok (.if_icmp .eq 41, 3) := by decide +kernel
theorem dX8_neededBetween_29 : decode cX8_neededBetween 29 = .ok (.aload_n 0, 1) := by decide +kernel
theorem dX8_neededBetween_30 : decode cX8_neededBetween 30 = .ok (.iload_n 1, 1) := by decide +kernel
theorem dX8_neededBetween_31 : decode cX8_neededBetween 31 = .ok (.iload 5, 2) := by decide +kernel
theorem dX8_neededBetween_33 : decode cX8_neededBetween 33 = .ok (.invokevirtual 69, 3) := by decide +kernel
theorem dX8_neededBetween_36 : decode cX8_neededBetween 36 = .ok (.ifCond .eq 31, 3) := by decide +kernel
theorem dX8_neededBetween_39 : decode cX8_neededBetween 39 = .ok (.aload_n 0, 1) := by decide +kernel
theorem dX8_neededBetween_40 : decode cX8_neededBetween 40 = .ok (.iload 5, 2) := by decide +kernel
theorem dX8_neededBetween_42 : decode cX8_neededBetween 42 = .ok (.iload_n 2, 1) := by decide +kernel
theorem dX8_neededBetween_43 : decode cX8_neededBetween 43 = .ok (.invokevirtual 69, 3) := by decide +kernel
theorem dX8_neededBetween_46 : decode cX8_neededBetween 46 = .ok (.ifCond .eq 21, 3) := by decide +kernel
theorem dX8_neededBetween_49 : decode cX8_neededBetween 49 = .ok (.aload_n 0, 1) := by decide +kernel
theorem dX8_neededBetween_50 : decode cX8_neededBetween 50 = .ok (.iload_n 1, 1) := by decide +kernel
theorem dX8_neededBetween_51 : decode cX8_neededBetween 51 = .ok (.iload_n 2, 1) := by decide +kernel
theorem dX8_neededBetween_52 : decode cX8_neededBetween 52 = .ok (.iload 5, 2) := by decide +kernel
theorem dX8_neededBetween_54 : decode cX8_neededBetween 54 = .ok (.invokevirtual 117, 3) := by decide +kernel
theorem dX8_neededBetween_57 : decode cX8_neededBetween 57 = .ok (.ifCond .ne 10, 3) := by decide +kernel
theorem dX8_neededBetween_60 : decode cX8_neededBetween 60 = .ok (.lload_n 3, 1) := by decide +kernel
theorem dX8_neededBetween_61 : decode cX8_neededBetween 61 = .ok (.lconst 1, 1) := by decide +kernel
theorem dX8_neededBetween_62 : decode cX8_neededBetween 62 = .ok (.iload 5, 2) := by decide +kernel
theorem dX8_neededBetween_64 : decode cX8_neededBetween 64 = .ok (.lshl, 1) := by decide +kernel
theorem dX8_neededBetween_65 : decode cX8_neededBetween 65 = .ok (.lor, 1) := by decide +kernel
theorem dX8_neededBetween_66 : decode cX8_neededBetween 66 = .ok (.lstore_n 3, 1) := by decide +kernel
theorem dX8_neededBetween_67 : decode cX8_neededBetween 67 = .ok (.iinc 5 1, 3) := by decide +kernel
theorem dX8_neededBetween_70 : decode cX8_neededBetween 70 = .ok (.goto (-65), 3) := by decide +kernel
theorem dX8_neededBetween_73 : decode cX8_neededBetween 73 = .ok (.lload_n 3, 1) := by decide +kernel
theorem dX8_neededBetween_74 : decode cX8_neededBetween 74 = .ok (.lreturn, 1) := by decide +kernel
theorem dX8_reaches_0 : decode cX8_reaches 0 = .ok (.aload_n 0, 1) := by decide +kernel
theorem dX8_reaches_1 : decode cX8_reaches 1 = .ok (.getfield 16, 3) := by decide +kernel
theorem dX8_reaches_4 : decode cX8_reaches 4 = .ok (.iload_n 1, 1) := by decide +kernel
theorem dX8_reaches_5 : decode cX8_reaches 5 = .ok (.laload, 1) := by decide +kernel
theorem dX8_reaches_6 : decode cX8_reaches 6 = .ok (.iload_n 2, 1) := by decide +kernel
theorem dX8_reaches_7 : decode cX8_reaches 7 = .ok (.lushr, 1) := by decide +kernel
theorem dX8_reaches_8 : decode cX8_reaches 8 = .ok (.lconst 1, 1) := by decide +kernel
theorem dX8_reaches_9 : decode cX8_reaches 9 = .ok (.land, 1) := by decide +kernel
theorem dX8_reaches_10 : decode cX8_reaches 10 = .ok (.lconst 0, 1) := by decide +kernel
theorem dX8_reaches_11 : decode cX8_reaches 11 = .ok (.lcmp, 1) := by decide +kernel
theorem dX8_reaches_12 : decode cX8_reaches 12 = .ok (.ifCond .eq 7, 3) := by decide +kernel
theorem dX8_reaches_15 : decode cX8_reaches 15 = .ok (.iconst 1, 1) := by decide +kernel
theorem dX8_reaches_16 : decode cX8_reaches 16 = .ok (.goto 4, 3) := by decide +kernel
theorem dX8_reaches_19 : decode cX8_reaches 19 = .ok (.iconst 0, 1) := by decide +kernel
theorem dX8_reaches_20 : decode cX8_reaches 20 = .ok (.ireturn, 1) := by decide +kernel
theorem dX8_reachesWithout_0 : decode cX8_reachesWithout 0 = .ok (.lconst 1, 1) := by decide +kernel
theorem dX8_reachesWithout_1 : decode cX8_reachesWithout 1 = .ok (.iload_n 1, 1) := by decide +kernel
theorem dX8_reachesWithout_2 : decode cX8_reachesWithout 2 = .ok (.lshl, 1) := by decide +kernel
theorem dX8_reachesWithout_3 : decode cX8_reachesWithout 3 = .ok (.lstore 4, 2) := by decide +kernel
theorem dX8_reachesWithout_5 : decode cX8_reachesWithout 5 = .ok (.lload 4, 2) := by decide +kernel
theorem dX8_reachesWithout_7 : decode cX8_reachesWithout 7 = .ok (.lstore 6, 2) := by decide +kernel
theorem dX8_reachesWithout_9 : decode cX8_reachesWithout 9 = .ok (.iconst 0, 1) := by decide +kernel
theorem dX8_reachesWithout_10 : decode cX8_reachesWithout 10 = .ok (.istore 8, 2) := by decide +kernel
theorem dX8_reachesWithout_12 : decode cX8_reachesWithout 12 = .ok (.iload 8, 2) := by decide +kernel
theorem dX8_reachesWithout_14 : decode cX8_reachesWithout 14 = .ok (.aload_n 0, 1) := by decide +kernel
theorem dX8_reachesWithout_15 : decode cX8_reachesWithout 15 = .ok (.getfield 44, 3) := by decide +kernel
theorem dX8_reachesWithout_18 : decode cX8_reachesWithout 18 = .ok (.getfield 57, 3) := by decide +kernel
theorem dX8_reachesWithout_21 : decode cX8_reachesWithout 21 = .ok (.if_icmp .ge 93, 3) := by decide +kernel
theorem dX8_reachesWithout_24 : decode cX8_reachesWithout 24 = .ok (.lload 6, 2) := by decide +kernel
theorem dX8_reachesWithout_26 : decode cX8_reachesWithout 26 = .ok (.lconst 0, 1) := by decide +kernel
theorem dX8_reachesWithout_27 : decode cX8_reachesWithout 27 = .ok (.lcmp, 1) := by decide +kernel
theorem dX8_reachesWithout_28 : decode cX8_reachesWithout 28 = .ok (.ifCond .eq 86, 3) := by decide +kernel
theorem dX8_reachesWithout_31 : decode cX8_reachesWithout 31 = .ok (.lconst 0, 1) := by decide +kernel
theorem dX8_reachesWithout_32 : decode cX8_reachesWithout 32 = .ok (.lstore 9, 2) := by decide +kernel
theorem dX8_reachesWithout_34 : decode cX8_reachesWithout 34 = .ok (.iconst 0, 1) := by decide +kernel
theorem dX8_reachesWithout_35 : decode cX8_reachesWithout 35 = .ok (.istore 11, 2) := by decide +kernel
theorem dX8_reachesWithout_37 : decode cX8_reachesWithout 37 = .ok (.iload 11, 2) := by decide +kernel
theorem dX8_reachesWithout_39 : decode cX8_reachesWithout 39 = .ok (.aload_n 0, 1) := by decide +kernel
theorem dX8_reachesWithout_40 : decode cX8_reachesWithout 40 = .ok (.getfield 44, 3) := by decide +kernel
theorem dX8_reachesWithout_43 : decode cX8_reachesWithout 43 = .ok (.getfield 57, 3) := by decide +kernel
theorem dX8_reachesWithout_46 : decode cX8_reachesWithout 46 = .ok (.if_icmp .ge 36, 3) := by decide +kernel
theorem dX8_reachesWithout_49 : decode cX8_reachesWithout 49 = .ok (.lload 6, 2) := by decide +kernel
theorem dX8_reachesWithout_51 : decode cX8_reachesWithout 51 = .ok (.iload 11, 2) := by decide +kernel
theorem dX8_reachesWithout_53 : decode cX8_reachesWithout 53 = .ok (.lushr, 1) := by decide +kernel
theorem dX8_reachesWithout_54 : decode cX8_reachesWithout 54 = .ok (.lconst 1, 1) := by decide +kernel
theorem dX8_reachesWithout_55 : decode cX8_reachesWithout 55 = .ok (.land, 1) := by decide +kernel
theorem dX8_reachesWithout_56 : decode cX8_reachesWithout 56 = .ok (.lconst 0, 1) := by decide +kernel
theorem dX8_reachesWithout_57 : decode cX8_reachesWithout 57 = .ok (.lcmp, 1) := by decide +kernel
theorem dX8_reachesWithout_58 : decode cX8_reachesWithout 58 = .ok (.ifCond .eq 18, 3) := by decide +kernel
theorem dX8_reachesWithout_61 : decode cX8_reachesWithout 61 = .ok (.lload 9, 2) := by decide +kernel
theorem dX8_reachesWithout_63 : decode cX8_reachesWithout 63 = .ok (.aload_n 0, 1) := by decide +kernel
theorem dX8_reachesWithout_64 : decode cX8_reachesWithout 64 = .ok (.getfield 48, 3) := by decide +kernel
theorem dX8_reachesWithout_67 : decode cX8_reachesWithout 67 = .ok (.getfield 66, 3) := by decide +kernel
theorem dX8_reachesWithout_70 : decode cX8_reachesWithout 70 = .ok (.iload 11, 2) := by decide +kernel
theorem dX8_reachesWithout_72 : decode cX8_reachesWithout 72 = .ok (.laload, 1) := by decide +kernel
theorem dX8_reachesWithout_73 : decode cX8_reachesWithout 73 = .ok (.lor, 1) := by decide +kernel
theorem dX8_reachesWithout_74 : decode cX8_reachesWithout 74 = .ok (.lstore 9, 2) := by decide +kernel
theorem dX8_reachesWithout_76 : decode cX8_reachesWithout 76 = .ok (.iinc 11 1, 3) := by decide +kernel
theorem dX8_reachesWithout_79 : decode cX8_reachesWithout 79 = .ok (.goto (-42), 3) := by decide +kernel
theorem dX8_reachesWithout_82 : decode cX8_reachesWithout 82 = .ok (.lload 9, 2) := by decide +kernel
theorem dX8_reachesWithout_84 : decode cX8_reachesWithout 84 = .ok (.lload 4, 2) := by decide +kernel
theorem dX8_reachesWithout_86 : decode cX8_reachesWithout 86 = .ok (.ldc2_w 121, 3) := by decide +kernel
theorem dX8_reachesWithout_89 : decode cX8_reachesWithout 89 = .ok (.lxor, 1) := by decide +kernel
theorem dX8_reachesWithout_90 : decode cX8_reachesWithout 90 = .ok (.land, 1) := by decide +kernel
theorem dX8_reachesWithout_91 : decode cX8_reachesWithout 91 = .ok (.lconst 1, 1) := by decide +kernel
theorem dX8_reachesWithout_92 : decode cX8_reachesWithout 92 = .ok (.iload_n 3, 1) := by decide +kernel
theorem dX8_reachesWithout_93 : decode cX8_reachesWithout 93 = .ok (.lshl, 1) := by decide +kernel
theorem dX8_reachesWithout_94 : decode cX8_reachesWithout 94 = .ok (.ldc2_w 121, 3) := by decide +kernel
theorem dX8_reachesWithout_97 : decode cX8_reachesWithout 97 = .ok (.lxor, 1) := by decide +kernel
theorem dX8_reachesWithout_98 : decode cX8_reachesWithout 98 = .ok (.land, 1) := by decide +kernel
theorem dX8_reachesWithout_99 : decode cX8_reachesWithout 99 = .ok (.lstore 6, 2) := by decide +kernel
theorem dX8_reachesWithout_101 : decode cX8_reachesWithout 101 = .ok (.lload 4, 2) := by decide +kernel
theorem dX8_reachesWithout_103 : decode cX8_reachesWithout 103 = .ok (.lload 6, 2) := by decide +kernel
theorem dX8_reachesWithout_105 : decode cX8_reachesWithout 105 = .ok (.lor, 1) := by decide +kernel
theorem dX8_reachesWithout_106 : decode cX8_reachesWithout 106 = .ok (.lstore 4, 2) := by decide +kernel
theorem dX8_reachesWithout_108 : decode cX8_reachesWithout 108 = .ok (.iinc 8 1, 3) := by decide +kernel
theorem dX8_reachesWithout_111 : decode cX8_reachesWithout 111 = .ok (.goto (-99), 3) := by decide +kernel
theorem dX8_reachesWithout_114 : decode cX8_reachesWithout 114 = .ok (.lload 4, 2) := by decide +kernel
theorem dX8_reachesWithout_116 : decode cX8_reachesWithout 116 = .ok (.iload_n 2, 1) := by decide +kernel
theorem dX8_reachesWithout_117 : decode cX8_reachesWithout 117 = .ok (.lushr, 1) := by decide +kernel
theorem dX8_reachesWithout_118 : decode cX8_reachesWithout 118 = .ok (.lconst 1, 1) := by decide +kernel
theorem dX8_reachesWithout_119 : decode cX8_reachesWithout 119 = .ok (.land, 1) := by decide +kernel
theorem dX8_reachesWithout_120 : decode cX8_reachesWithout 120 = .ok (.lconst 0, 1) := by decide +kernel
theorem dX8_reachesWithout_121 : decode cX8_reachesWithout 121 = .ok (.lcmp, 1) := by decide +kernel
theorem dX8_reachesWithout_122 : decode cX8_reachesWithout 122 = .ok (.ifCond .eq 7, 3) := by decide +kernel
theorem dX8_reachesWithout_125 : decode cX8_reachesWithout 125 = .ok (.iconst 1, 1) := by decide +kernel
theorem dX8_reachesWithout_126 : decode cX8_reachesWithout 126 = .ok (.goto 4, 3) := by decide +kernel
theorem dX8_reachesWithout_129 : decode cX8_reachesWithout 129 = .ok (.iconst 0, 1) := by decide +kernel
theorem dX8_reachesWithout_130 : decode cX8_reachesWithout 130 = .ok (.ireturn, 1) := by decide +kernel
theorem dX8_refresh_0 : decode cX8_refresh 0 = .ok (.aload_n 0, 1) := by decide +kernel
theorem dX8_refresh_1 : decode cX8_refresh 1 = .ok (.getfield 38, 3) := by decide +kernel
theorem dX8_refresh_4 : decode cX8_refresh 4 = .ok (.aload_n 0, 1) := by decide +kernel
theorem dX8_refresh_5 : decode cX8_refresh 5 = .ok (.getfield 48, 3) := by decide +kernel
theorem dX8_refresh_8 : decode cX8_refresh 8 = .ok (.getfield 52, 3) := by decide +kernel
theorem dX8_refresh_11 : decode cX8_refresh 11 = .ok (.if_icmp .ne 4, 3) := by decide +kernel
theorem dX8_refresh_14 : decode cX8_refresh 14 = .ok (.return_, 1) := by decide +kernel
theorem dX8_refresh_15 : decode cX8_refresh 15 = .ok (.aload_n 0, 1) := by decide +kernel
theorem dX8_refresh_16 : decode cX8_refresh 16 = .ok (.aload_n 0, 1) := by decide +kernel
theorem dX8_refresh_17 : decode cX8_refresh 17 = .ok (.getfield 48, 3) := by decide +kernel
theorem dX8_refresh_20 : decode cX8_refresh 20 = .ok (.getfield 52, 3) := by decide +kernel
theorem dX8_refresh_23 : decode cX8_refresh 23 = .ok (.putfield 38, 3) := by decide +kernel
theorem dX8_refresh_26 : decode cX8_refresh 26 = .ok (.aload_n 0, 1) := by decide +kernel
theorem dX8_refresh_27 : decode cX8_refresh 27 = .ok (.invokevirtual 79, 3) := by decide +kernel
theorem dX8_refresh_30 : decode cX8_refresh 30 = .ok (.aload_n 0, 1) := by decide +kernel
theorem dX8_refresh_31 : decode cX8_refresh 31 = .ok (.getfield 44, 3) := by decide +kernel
theorem dX8_refresh_34 : decode cX8_refresh 34 = .ok (.getfield 57, 3) := by decide +kernel
theorem dX8_refresh_37 : decode cX8_refresh 37 = .ok (.istore_n 1, 1) := by decide +kernel
theorem dX8_refresh_38 : decode cX8_refresh 38 = .ok (.iconst 0, 1) := by decide +kernel
theorem dX8_refresh_39 : decode cX8_refresh 39 = .ok (.istore_n 2, 1) := by decide +kernel
theorem dX8_refresh_40 : decode cX8_refresh 40 = .ok (.iload_n 2, 1) := by decide +kernel
theorem dX8_refresh_41 : decode cX8_refresh 41 = .ok (.iload_n 1, 1) := by decide +kernel
theorem dX8_refresh_42 : decode cX8_refresh 42 = .ok (.if_icmp .ge 95, 3) := by decide +kernel
theorem dX8_refresh_45 : decode cX8_refresh 45 = .ok (.aload_n 0, 1) := by decide +kernel
theorem dX8_refresh_46 : decode cX8_refresh 46 = .ok (.getfield 11, 3) := by decide +kernel
theorem dX8_refresh_49 : decode cX8_refresh 49 = .ok (.iload_n 2, 1) := by decide +kernel
theorem dX8_refresh_50 : decode cX8_refresh 50 = .ok (.aaload, 1) := by decide +kernel
theorem dX8_refresh_51 : decode cX8_refresh 51 = .ok (.astore_n 3, 1) := by decide +kernel
theorem dX8_refresh_52 : decode cX8_refresh 52 = .ok (.iconst 0, 1) := by decide +kernel
theorem dX8_refresh_53 : decode cX8_refresh 53 = .ok (.istore 4, 2) := by decide +kernel
theorem dX8_refresh_55 : decode cX8_refresh 55 = .ok (.iload 4, 2) := by decide +kernel
theorem dX8_refresh_57 : decode cX8_refresh 57 = .ok (.iload_n 1, 1) := by decide +kernel
theorem dX8_refresh_58 : decode cX8_refresh 58 = .ok (.if_icmp .ge 73, 3) := by decide +kernel
theorem dX8_refresh_61 : decode cX8_refresh 61 = .ok (.aload_n 0, 1) := by decide +kernel
theorem dX8_refresh_62 : decode cX8_refresh 62 = .ok (.getfield 11, 3) := by decide +kernel
theorem dX8_refresh_65 : decode cX8_refresh 65 = .ok (.iload 4, 2) := by decide +kernel
theorem dX8_refresh_67 : decode cX8_refresh 67 = .ok (.aaload, 1) := by decide +kernel
theorem dX8_refresh_68 : decode cX8_refresh 68 = .ok (.astore 5, 2) := by decide +kernel
theorem dX8_refresh_70 : decode cX8_refresh 70 = .ok (.aload 5, 2) := by decide +kernel
theorem dX8_refresh_72 : decode cX8_refresh 72 = .ok (.iload_n 2, 1) := by decide +kernel
theorem dX8_refresh_73 : decode cX8_refresh 73 = .ok (.iaload, 1) := by decide +kernel
theorem dX8_refresh_74 : decode cX8_refresh 74 = .ok (.istore 6, 2) := by decide +kernel
theorem dX8_refresh_76 : decode cX8_refresh 76 = .ok (.iconst 0, 1) := by decide +kernel
theorem dX8_refresh_77 : decode cX8_refresh 77 = .ok (.istore 7, 2) := by decide +kernel
theorem dX8_refresh_79 : decode cX8_refresh 79 = .ok (.iload 6, 2) := by decide +kernel
theorem dX8_refresh_81 : decode cX8_refresh 81 = .ok (.ldc 82, 2) := by decide +kernel
theorem dX8_refresh_83 : decode cX8_refresh 83 = .ok (.if_icmp .ge 42, 3) := by decide +kernel
theorem dX8_refresh_86 : decode cX8_refresh 86 = .ok (.iload 7, 2) := by decide +kernel
theorem dX8_refresh_88 : decode cX8_refresh 88 = .ok (.iload_n 1, 1) := by decide +kernel
theorem dX8_refresh_89 : decode cX8_refresh 89 = .ok (.if_icmp .ge 36, 3) := by decide +kernel
theorem dX8_refresh_92 : decode cX8_refresh 92 = .ok (.iload 6, 2) := by decide +kernel
theorem dX8_refresh_94 : decode cX8_refresh 94 = .ok (.aload_n 3, 1) := by decide +kernel
theorem dX8_refresh_95 : decode cX8_refresh 95 = .ok (.iload 7, 2) := by decide +kernel
theorem dX8_refresh_97 : decode cX8_refresh 97 = .ok (.iaload, 1) := by decide +kernel
theorem dX8_refresh_98 : decode cX8_refresh 98 = .ok (.iadd, 1) := by decide +kernel
theorem dX8_refresh_99 : decode cX8_refresh 99 = .ok (.aload 5, 2) := by decide +kernel
theorem dX8_refresh_101 : decode cX8_refresh 101 = .ok (.iload 7, 2) := by decide +kernel
theorem dX8_refresh_103 : decode cX8_refresh 103 = .ok (.iaload, 1) := by decide +kernel
theorem dX8_refresh_104 : decode cX8_refresh 104 = .ok (.if_icmp .ge 15, 3) := by decide +kernel
theorem dX8_refresh_107 : decode cX8_refresh 107 = .ok (.aload 5, 2) := by decide +kernel
theorem dX8_refresh_109 : decode cX8_refresh 109 = .ok (.iload 7, 2) := by decide +kernel
theorem dX8_refresh_111 : decode cX8_refresh 111 = .ok (.iload 6, 2) := by decide +kernel
theorem dX8_refresh_113 : decode cX8_refresh 113 = .ok (.aload_n 3, 1) := by decide +kernel
theorem dX8_refresh_114 : decode cX8_refresh 114 = .ok (.iload 7, 2) := by decide +kernel
theorem dX8_refresh_116 : decode cX8_refresh 116 = .ok (.iaload, 1) := by decide +kernel
theorem dX8_refresh_117 : decode cX8_refresh 117 = .ok (.iadd, 1) := by decide +kernel
theorem dX8_refresh_118 : decode cX8_refresh 118 = .ok (.iastore, 1) := by decide +kernel
theorem dX8_refresh_119 : decode cX8_refresh 119 = .ok (.iinc 7 1, 3) := by decide +kernel
theorem dX8_refresh_122 : decode cX8_refresh 122 = .ok (.goto (-43), 3) := by decide +kernel
theorem dX8_refresh_125 : decode cX8_refresh 125 = .ok (.iinc 4 1, 3) := by decide +kernel
theorem dX8_refresh_128 : decode cX8_refresh 128 = .ok (.goto (-73), 3) := by decide +kernel
theorem dX8_refresh_131 : decode cX8_refresh 131 = .ok (.iinc 2 1, 3) := by decide +kernel
theorem dX8_refresh_134 : decode cX8_refresh 134 = .ok (.goto (-94), 3) := by decide +kernel
theorem dX8_refresh_137 : decode cX8_refresh 137 = .ok (.aload_n 0, 1) := by decide +kernel
theorem dX8_refresh_138 : decode cX8_refresh 138 = .ok (.invokevirtual 83, 3) := by decide +kernel
theorem dX8_refresh_141 : decode cX8_refresh 141 = .ok (.return_, 1) := by decide +kernel
theorem dX8_refreshBusiest_0 : decode cX8_refreshBusiest 0 = .ok (.aload_n 0, 1) := by decide +kernel
theorem dX8_refreshBusiest_1 : decode cX8_refreshBusiest 1 = .ok (.getfield 41, 3) := by decide +kernel
theorem dX8_refreshBusiest_4 : decode cX8_refreshBusiest 4 = .ok (.aload_n 0, 1) := by decide +kernel
theorem dX8_refreshBusiest_5 : decode cX8_refreshBusiest 5 = .ok (.getfield 48, 3) := by decide +kernel
theorem dX8_refreshBusiest_8 : decode cX8_refreshBusiest 8 = .ok (.getfield 52, 3) := by decide +kernel
theorem dX8_refreshBusiest_11 : decode cX8_refreshBusiest 11 = .ok (.if_icmp .ne 4, 3) := by decide +kernel
theorem dX8_refreshBusiest_14 : decode cX8_refreshBusiest 14 = .ok (.return_, 1) := by decide +kernel
theorem dX8_refreshBusiest_15 : decode cX8_refreshBusiest 15 = .ok (.aload_n 0, 1) := by decide +kernel
theorem dX8_refreshBusiest_16 : decode cX8_refreshBusiest 16 = .ok (.aload_n 0, 1) := by decide +kernel
theorem dX8_refreshBusiest_17 : decode cX8_refreshBusiest 17 = .ok (.getfield 48, 3) := by decide +kernel
theorem dX8_refreshBusiest_20 : decode cX8_refreshBusiest 20 = .ok (.getfield 52, 3) := by decide +kernel
theorem dX8_refreshBusiest_23 : decode cX8_refreshBusiest 23 = .ok (.putfield 41, 3) := by decide +kernel
theorem dX8_refreshBusiest_26 : decode cX8_refreshBusiest 26 = .ok (.aload_n 0, 1) := by decide +kernel
theorem dX8_refreshBusiest_27 : decode cX8_refreshBusiest 27 = .ok (.iconst (-1), 1) := by decide +kernel
theorem dX8_refreshBusiest_28 : decode cX8_refreshBusiest 28 = .ok (.putfield 123, 3) := by decide +kernel
theorem dX8_refreshBusiest_31 : decode cX8_refreshBusiest 31 = .ok (.aload_n 0, 1) := by decide +kernel
theorem dX8_refreshBusiest_32 : decode cX8_refreshBusiest 32 = .ok (.iconst 0, 1) := by decide +kernel
theorem dX8_refreshBusiest_33 : decode cX8_refreshBusiest 33 = .ok (.putfield 126, 3) := by decide +kernel
theorem dX8_refreshBusiest_36 : decode cX8_refreshBusiest 36 = .ok (.iconst 0, 1) := by decide +kernel
theorem dX8_refreshBusiest_37 : decode cX8_refreshBusiest 37 = .ok (.istore_n 1, 1) := by decide +kernel
theorem dX8_refreshBusiest_38 : decode cX8_refreshBusiest 38 = .ok (.iload_n 1, 1) := by decide +kernel
theorem dX8_refreshBusiest_39 : decode cX8_refreshBusiest 39 = .ok (.aload_n 0, 1) := by decide +kernel
theorem dX8_refreshBusiest_40 : decode cX8_refreshBusiest 40 = .ok (.getfield 44, 3) := by decide +kernel
theorem dX8_refreshBusiest_43 : decode cX8_refreshBusiest 43 = .ok (.getfield 57, 3) := by decide +kernel
theorem dX8_refreshBusiest_46 : decode cX8_refreshBusiest 46 = .ok (.if_icmp .ge 60, 3) := by decide +kernel
theorem dX8_refreshBusiest_49 : decode cX8_refreshBusiest 49 = .ok (.aload_n 0, 1) := by decide +kernel
theorem dX8_refreshBusiest_50 : decode cX8_refreshBusiest 50 = .ok (.getfield 44, 3) := by decide +kernel
theorem dX8_refreshBusiest_53 : decode cX8_refreshBusiest 53 = .ok (.iload_n 1, 1) := by decide +kernel
theorem dX8_refreshBusiest_54 : decode cX8_refreshBusiest 54 = .ok (.invokevirtual 62, 3) := by decide +kernel
theorem dX8_refreshBusiest_57 : decode cX8_refreshBusiest 57 = .ok (.ifCond .eq 11, 3) := by decide +kernel
theorem dX8_refreshBusiest_60 : decode cX8_refreshBusiest 60 = .ok (.aload_n 0, 1) := by decide +kernel
theorem dX8_refreshBusiest_61 : decode cX8_refreshBusiest 61 = .ok (.iload_n 1, 1) := by decide +kernel
theorem dX8_refreshBusiest_62 : decode cX8_refreshBusiest 62 = .ok (.invokevirtual 129, 3) := by decide +kernel
theorem dX8_refreshBusiest_65 : decode cX8_refreshBusiest 65 = .ok (.goto 4, 3) := by decide +kernel
theorem dX8_refreshBusiest_68 : decode cX8_refreshBusiest 68 = .ok (.iconst (-1), 1) := by decide +kernel
theorem dX8_refreshBusiest_69 : decode cX8_refreshBusiest 69 = .ok (.istore_n 2, 1) := by decide +kernel
theorem dX8_refreshBusiest_70 : decode cX8_refreshBusiest 70 = .ok (.iload_n 2, 1) := by decide +kernel
theorem dX8_refreshBusiest_71 : decode cX8_refreshBusiest 71 = .ok (.aload_n 0, 1) := by decide +kernel
theorem dX8_refreshBusiest_72 : decode cX8_refreshBusiest 72 = .ok (.getfield 126, 3) := by decide +kernel
theorem dX8_refreshBusiest_75 : decode cX8_refreshBusiest 75 = .ok (.if_icmp .gt 15, 3) := by decide +kernel
theorem dX8_refreshBusiest_78 : decode cX8_refreshBusiest 78 = .ok (.aload_n 0, 1) := by decide +kernel
theorem dX8_refreshBusiest_79 : decode cX8_refreshBusiest 79 = .ok (.getfield 123, 3) := by decide +kernel
theorem dX8_refreshBusiest_82 : decode cX8_refreshBusiest 82 = .ok (.iconst (-1), 1) := by decide +kernel
theorem dX8_refreshBusiest_83 : decode cX8_refreshBusiest 83 = .ok (.if_icmp .ne 17, 3) := by decide +kernel
theorem dX8_refreshBusiest_86 : decode cX8_refreshBusiest 86 = .ok (.iload_n 2, 1) := by decide +kernel
theorem dX8_refreshBusiest_87 : decode cX8_refreshBusiest 87 = .ok (.ifCond .ne 13, 3) := by decide +kernel
theorem dX8_refreshBusiest_90 : decode cX8_refreshBusiest 90 = .ok (.aload_n 0, 1) := by decide +kernel
theorem dX8_refreshBusiest_91 : decode cX8_refreshBusiest 91 = .ok (.iload_n 1, 1) := by decide +kernel
theorem dX8_refreshBusiest_92 : decode cX8_refreshBusiest 92 = .ok (.putfield 123, 3) := by decide +kernel
theorem dX8_refreshBusiest_95 : decode cX8_refreshBusiest 95 = .ok (.aload_n 0, 1) := by decide +kernel
theorem dX8_refreshBusiest_96 : decode cX8_refreshBusiest 96 = .ok (.iload_n 2, 1) := by decide +kernel
theorem dX8_refreshBusiest_97 : decode cX8_refreshBusiest 97 = .ok (.putfield 126, 3) := by decide +kernel
theorem dX8_refreshBusiest_100 : decode cX8_refreshBusiest 100 = .ok (.iinc 1 1, 3) := by decide +kernel
theorem dX8_refreshBusiest_103 : decode cX8_refreshBusiest 103 = .ok (.goto (-65), 3) := by decide +kernel
theorem dX8_refreshBusiest_106 : decode cX8_refreshBusiest 106 = .ok (.return_, 1) := by decide +kernel
theorem dX8_refreshReach_0 : decode cX8_refreshReach 0 = .ok (.aload_n 0, 1) := by decide +kernel
theorem dX8_refreshReach_1 : decode cX8_refreshReach 1 = .ok (.getfield 34, 3) := by decide +kernel
theorem dX8_refreshReach_4 : decode cX8_refreshReach 4 = .ok (.aload_n 0, 1) := by decide +kernel
theorem dX8_refreshReach_5 : decode cX8_refreshReach 5 = .ok (.getfield 48, 3) := by decide +kernel
theorem dX8_refreshReach_8 : decode cX8_refreshReach 8 = .ok (.getfield 52, 3) := by decide +kernel
theorem dX8_refreshReach_11 : decode cX8_refreshReach 11 = .ok (.if_icmp .ne 4, 3) := by decide +kernel
theorem dX8_refreshReach_14 : decode cX8_refreshReach 14 = .ok (.return_, 1) := by decide +kernel
theorem dX8_refreshReach_15 : decode cX8_refreshReach 15 = .ok (.aload_n 0, 1) := by decide +kernel
theorem dX8_refreshReach_16 : decode cX8_refreshReach 16 = .ok (.aload_n 0, 1) := by decide +kernel
theorem dX8_refreshReach_17 : decode cX8_refreshReach 17 = .ok (.getfield 48, 3) := by decide +kernel
theorem dX8_refreshReach_20 : decode cX8_refreshReach 20 = .ok (.getfield 52, 3) := by decide +kernel
theorem dX8_refreshReach_23 : decode cX8_refreshReach 23 = .ok (.putfield 34, 3) := by decide +kernel
theorem dX8_refreshReach_26 : decode cX8_refreshReach 26 = .ok (.aload_n 0, 1) := by decide +kernel
theorem dX8_refreshReach_27 : decode cX8_refreshReach 27 = .ok (.getfield 44, 3) := by decide +kernel
theorem dX8_refreshReach_30 : decode cX8_refreshReach 30 = .ok (.getfield 57, 3) := by decide +kernel
theorem dX8_refreshReach_33 : decode cX8_refreshReach 33 = .ok (.istore_n 1, 1) := by decide +kernel
theorem dX8_refreshReach_34 : decode cX8_refreshReach 34 = .ok (.iconst 0, 1) := by decide +kernel
theorem dX8_refreshReach_35 : decode cX8_refreshReach 35 = .ok (.istore_n 2, 1) := by decide +kernel
theorem dX8_refreshReach_36 : decode cX8_refreshReach 36 = .ok (.iload_n 2, 1) := by decide +kernel
theorem dX8_refreshReach_37 : decode cX8_refreshReach 37 = .ok (.iload_n 1, 1) := by decide +kernel
theorem dX8_refreshReach_38 : decode cX8_refreshReach 38 = .ok (.if_icmp .ge 43, 3) := by decide +kernel
theorem dX8_refreshReach_41 : decode cX8_refreshReach 41 = .ok (.aload_n 0, 1) := by decide +kernel
theorem dX8_refreshReach_42 : decode cX8_refreshReach 42 = .ok (.getfield 16, 3) := by decide +kernel
theorem dX8_refreshReach_45 : decode cX8_refreshReach 45 = .ok (.iload_n 2, 1) := by decide +kernel
theorem dX8_refreshReach_46 : decode cX8_refreshReach 46 = .ok (.aload_n 0, 1) := by decide +kernel
theorem dX8_refreshReach_47 : decode cX8_refreshReach 47 = .ok (.getfield 44, 3) := by decide +kernel
theorem dX8_refreshReach_50 : decode cX8_refreshReach 50 = .ok (.iload_n 2, 1) := by decide +kernel
theorem dX8_refreshReach_51 : decode cX8_refreshReach 51 = .ok (.invokevirtual 62, 3) := by decide +kernel
theorem dX8_refreshReach_54 : decode cX8_refreshReach 54 = .ok (.ifCond .eq 19, 3) := by decide +kernel
theorem dX8_refreshReach_57 : decode cX8_refreshReach 57 = .ok (.aload_n 0, 1) := by decide +kernel
theorem dX8_refreshReach_58 : decode cX8_refreshReach 58 = .ok (.getfield 48, 3) := by decide +kernel
theorem dX8_refreshReach_61 : decode cX8_refreshReach 61 = .ok (.getfield 66, 3) := by decide +kernel
theorem dX8_refreshReach_64 : decode cX8_refreshReach 64 = .ok (.iload_n 2, 1) := by decide +kernel
theorem dX8_refreshReach_65 : decode cX8_refreshReach 65 = .ok (.laload, 1) := by decide +kernel
theorem dX8_refreshReach_66 : decode cX8_refreshReach 66 = .ok (.lconst 1, 1) := by decide +kernel
theorem dX8_refreshReach_67 : decode cX8_refreshReach 67 = .ok (.iload_n 2, 1) := by decide +kernel
theorem dX8_refreshReach_68 : decode cX8_refreshReach 68 = .ok (.lshl, 1) := by decide +kernel
theorem dX8_refreshReach_69 : decode cX8_refreshReach 69 = .ok (.lor, 1) := by decide +kernel
theorem dX8_refreshReach_70 : decode cX8_refreshReach 70 = .ok (.goto 4, 3) := by decide +kernel
theorem dX8_refreshReach_73 : decode cX8_refreshReach 73 = .ok (.lconst 0, 1) := by decide +kernel
theorem dX8_refreshReach_74 : decode cX8_refreshReach 74 = .ok (.lastore, 1) := by decide +kernel
theorem dX8_refreshReach_75 : decode cX8_refreshReach 75 = .ok (.iinc 2 1, 3) := by decide +kernel
theorem dX8_refreshReach_78 : decode cX8_refreshReach 78 = .ok (.goto (-42), 3) := by decide +kernel
theorem dX8_refreshReach_81 : decode cX8_refreshReach 81 = .ok (.iconst 0, 1) := by decide +kernel
theorem dX8_refreshReach_82 : decode cX8_refreshReach 82 = .ok (.istore_n 2, 1) := by decide +kernel
theorem dX8_refreshReach_83 : decode cX8_refreshReach 83 = .ok (.iload_n 2, 1) := by decide +kernel
theorem dX8_refreshReach_84 : decode cX8_refreshReach 84 = .ok (.iload_n 1, 1) := by decide +kernel
theorem dX8_refreshReach_85 : decode cX8_refreshReach 85 = .ok (.if_icmp .ge 46, 3) := by decide +kernel
theorem dX8_refreshReach_88 : decode cX8_refreshReach 88 = .ok (.iconst 0, 1) := by decide +kernel
theorem dX8_refreshReach_89 : decode cX8_refreshReach 89 = .ok (.istore_n 3, 1) := by decide +kernel
theorem dX8_refreshReach_90 : decode cX8_refreshReach 90 = .ok (.iload_n 3, 1) := by decide +kernel
theorem dX8_refreshReach_91 : decode cX8_refreshReach 91 = .ok (.iload_n 1, 1) := by decide +kernel
theorem dX8_refreshReach_92 : decode cX8_refreshReach 92 = .ok (.if_icmp .ge 33, 3) := by decide +kernel
theorem dX8_refreshReach_95 : decode cX8_refreshReach 95 = .ok (.aload_n 0, 1) := by decide +kernel
theorem dX8_refreshReach_96 : decode cX8_refreshReach 96 = .ok (.iload_n 3, 1) := by decide +kernel
theorem dX8_refreshReach_97 : decode cX8_refreshReach 97 = .ok (.iload_n 2, 1) := by decide +kernel
theorem dX8_refreshReach_98 : decode cX8_refreshReach 98 = .ok (.invokevirtual 69, 3) := by decide +kernel
theorem dX8_refreshReach_101 : decode cX8_refreshReach 101 = .ok (.ifCond .eq 18, 3) := by decide +kernel
theorem dX8_refreshReach_104 : decode cX8_refreshReach 104 = .ok (.aload_n 0, 1) := by decide +kernel
theorem dX8_refreshReach_105 : decode cX8_refreshReach 105 = .ok (.getfield 16, 3) := by decide +kernel
theorem dX8_refreshReach_108 : decode cX8_refreshReach 108 = .ok (.iload_n 3, 1) := by decide +kernel
theorem dX8_refreshReach_109 : decode cX8_refreshReach 109 = .ok (.dup2, 1) := by decide +kernel
theorem dX8_refreshReach_110 : decode cX8_refreshReach 110 = .ok (.laload, 1) := by decide +kernel
theorem dX8_refreshReach_111 : decode cX8_refreshReach 111 = .ok (.aload_n 0, 1) := by decide +kernel
theorem dX8_refreshReach_112 : decode cX8_refreshReach 112 = .ok (.getfield 16, 3) := by decide +kernel
theorem dX8_refreshReach_115 : decode cX8_refreshReach 115 = .ok (.iload_n 2, 1) := by decide +kernel
theorem dX8_refreshReach_116 : decode cX8_refreshReach 116 = .ok (.laload, 1) := by decide +kernel
theorem dX8_refreshReach_117 : decode cX8_refreshReach 117 = .ok (.lor, 1) := by decide +kernel
theorem dX8_refreshReach_118 : decode cX8_refreshReach 118 = .ok (.lastore, 1) := by decide +kernel
theorem dX8_refreshReach_119 : decode cX8_refreshReach 119 = .ok (.iinc 3 1, 3) := by decide +kernel
theorem dX8_refreshReach_122 : decode cX8_refreshReach 122 = .ok (.goto (-32), 3) := by decide +kernel
theorem dX8_refreshReach_125 : decode cX8_refreshReach 125 = .ok (.iinc 2 1, 3) := by decide +kernel
theorem dX8_refreshReach_128 : decode cX8_refreshReach 128 = .ok (.goto (-45), 3) := by decide +kernel
theorem dX8_refreshReach_131 : decode cX8_refreshReach 131 = .ok (.aload_n 0, 1) := by decide +kernel
theorem dX8_refreshReach_132 : decode cX8_refreshReach 132 = .ok (.invokevirtual 73, 3) := by decide +kernel
theorem dX8_refreshReach_135 : decode cX8_refreshReach 135 = .ok (.return_, 1) := by decide +kernel
theorem dX8_startWeights_0 : decode cX8_startWeights 0 = .ok (.iconst 0, 1) := by decide +kernel
theorem dX8_startWeights_1 : decode cX8_startWeights 1 = .ok (.istore_n 1, 1) := by decide +kernel
theorem dX8_startWeights_2 : decode cX8_startWeights 2 = .ok (.iload_n 1, 1) := by decide +kernel
theorem dX8_startWeights_3 : decode cX8_startWeights 3 = .ok (.aload_n 0, 1) := by decide +kernel
theorem dX8_startWeights_4 : decode cX8_startWeights 4 = .ok (.getfield 44, 3) := by decide +kernel
theorem dX8_startWeights_7 : decode cX8_startWeights 7 = .ok (.getfield 57, 3) := by decide +kernel
theorem dX8_startWeights_10 : decode cX8_startWeights 10 = .ok (.if_icmp .ge 81, 3) := by decide +kernel
theorem dX8_startWeights_13 : decode cX8_startWeights 13 = .ok (.iconst 0, 1) := by decide +kernel
theorem dX8_startWeights_14 : decode cX8_startWeights 14 = .ok (.istore_n 2, 1) := by decide +kernel
theorem dX8_startWeights_15 : decode cX8_startWeights 15 = .ok (.iload_n 2, 1) := by decide +kernel
theorem dX8_startWeights_16 : decode cX8_startWeights 16 = .ok (.aload_n 0, 1) := by decide +kernel
theorem dX8_startWeights_17 : decode cX8_startWeights 17 = .ok (.getfield 44, 3) := by decide +kernel
theorem dX8_startWeights_20 : decode cX8_startWeights 20 = .ok (.getfield 57, 3) := by decide +kernel
theorem dX8_startWeights_23 : decode cX8_startWeights 23 = .ok (.if_icmp .ge 42, 3) := by decide +kernel
theorem dX8_startWeights_26 : decode cX8_startWeights 26 = .ok (.aload_n 0, 1) := by decide +kernel
theorem dX8_startWeights_27 : decode cX8_startWeights 27 = .ok (.getfield 48, 3) := by decide +kernel
theorem dX8_startWeights_30 : decode cX8_startWeights 30 = .ok (.iload_n 1, 1) := by decide +kernel
theorem dX8_startWeights_31 : decode cX8_startWeights 31 = .ok (.iload_n 2, 1) := by decide +kernel
theorem dX8_startWeights_32 : decode cX8_startWeights 32 = .ok (.invokevirtual 86, 3) := by decide +kernel
theorem dX8_startWeights_35 : decode cX8_startWeights 35 = .ok (.istore_n 3, 1) := by decide +kernel
theorem dX8_startWeights_36 : decode cX8_startWeights 36 = .ok (.aload_n 0, 1) := by decide +kernel
theorem dX8_startWeights_37 : decode cX8_startWeights 37 = .ok (.getfield 11, 3) := by decide +kernel
theorem dX8_startWeights_40 : decode cX8_startWeights 40 = .ok (.iload_n 1, 1) := by decide +kernel
theorem dX8_startWeights_41 : decode cX8_startWeights 41 = .ok (.aaload, 1) := by decide +kernel
theorem dX8_startWeights_42 : decode cX8_startWeights 42 = .ok (.iload_n 2, 1) := by decide +kernel
theorem dX8_startWeights_43 : decode cX8_startWeights 43 = .ok (.iload_n 3, 1) := by decide +kernel
theorem dX8_startWeights_44 : decode cX8_startWeights 44 = .ok (.ifCond .ne 8, 3) := by decide +kernel
theorem dX8_startWeights_47 : decode cX8_startWeights 47 = .ok (.ldc 82, 2) := by decide +kernel
theorem dX8_startWeights_49 : decode cX8_startWeights 49 = .ok (.goto 9, 3) := by decide +kernel
theorem dX8_startWeights_52 : decode cX8_startWeights 52 = .ok (.bipush 64, 2) := by decide +kernel
theorem dX8_startWeights_54 : decode cX8_startWeights 54 = .ok (.iload_n 3, 1) := by decide +kernel
theorem dX8_startWeights_55 : decode cX8_startWeights 55 = .ok (.imul, 1) := by decide +kernel
theorem dX8_startWeights_56 : decode cX8_startWeights 56 = .ok (.iconst 1, 1) := by decide +kernel
theorem dX8_startWeights_57 : decode cX8_startWeights 57 = .ok (.iadd, 1) := by decide +kernel
theorem dX8_startWeights_58 : decode cX8_startWeights 58 = .ok (.iastore, 1) := by decide +kernel
theorem dX8_startWeights_59 : decode cX8_startWeights 59 = .ok (.iinc 2 1, 3) := by decide +kernel
theorem dX8_startWeights_62 : decode cX8_startWeights 62 = .ok (.goto (-47), 3) := by decide +kernel
theorem dX8_startWeights_65 : decode cX8_startWeights 65 = .ok (.aload_n 0, 1) := by decide +kernel
theorem dX8_startWeights_66 : decode cX8_startWeights 66 = .ok (.getfield 44, 3) := by decide +kernel
theorem dX8_startWeights_69 : decode cX8_startWeights 69 = .ok (.iload_n 1, 1) := by decide +kernel
theorem dX8_startWeights_70 : decode cX8_startWeights 70 = .ok (.invokevirtual 62, 3) := by decide +kernel
theorem dX8_startWeights_73 : decode cX8_startWeights 73 = .ok (.ifCond .eq 12, 3) := by decide +kernel
theorem dX8_startWeights_76 : decode cX8_startWeights 76 = .ok (.aload_n 0, 1) := by decide +kernel
theorem dX8_startWeights_77 : decode cX8_startWeights 77 = .ok (.getfield 11, 3) := by decide +kernel
theorem dX8_startWeights_80 : decode cX8_startWeights 80 = .ok (.iload_n 1, 1) := by decide +kernel
theorem dX8_startWeights_81 : decode cX8_startWeights 81 = .ok (.aaload, 1) := by decide +kernel
theorem dX8_startWeights_82 : decode cX8_startWeights 82 = .ok (.iload_n 1, 1) := by decide +kernel
theorem dX8_startWeights_83 : decode cX8_startWeights 83 = .ok (.iconst 0, 1) := by decide +kernel
theorem dX8_startWeights_84 : decode cX8_startWeights 84 = .ok (.iastore, 1) := by decide +kernel
theorem dX8_startWeights_85 : decode cX8_startWeights 85 = .ok (.iinc 1 1, 3) := by decide +kernel
theorem dX8_startWeights_88 : decode cX8_startWeights 88 = .ok (.goto (-86), 3) := by decide +kernel
theorem dX8_startWeights_91 : decode cX8_startWeights 91 = .ok (.return_, 1) := by decide +kernel
theorem dX8_stepToward_0 : decode cX8_stepToward 0 = .ok (.iconst 0, 1) := by decide +kernel
theorem dX8_stepToward_1 : decode cX8_stepToward 1 = .ok (.istore_n 3, 1) := by decide +kernel
theorem dX8_stepToward_2 : decode cX8_stepToward 2 = .ok (.iload_n 3, 1) := by decide +kernel
theorem dX8_stepToward_3 : decode cX8_stepToward 3 = .ok (.aload_n 0, 1) := by decide +kernel
theorem dX8_stepToward_4 : decode cX8_stepToward 4 = .ok (.getfield 44, 3) := by decide +kernel
theorem dX8_stepToward_7 : decode cX8_stepToward 7 = .ok (.getfield 57, 3) := by decide +kernel
theorem dX8_stepToward_10 : decode cX8_stepToward 10 = .ok (.if_icmp .ge 57, 3) := by decide +kernel
theorem dX8_stepToward_13 : decode cX8_stepToward 13 = .ok (.aload_n 0, 1) := by decide +kernel
theorem dX8_stepToward_14 : decode cX8_stepToward 14 = .ok (.getfield 48, 3) := by decide +kernel
theorem dX8_stepToward_17 : decode cX8_stepToward 17 = .ok (.iload_n 1, 1) := by decide +kernel
theorem dX8_stepToward_18 : decode cX8_stepToward 18 = .ok (.iload_n 3, 1) := by decide +kernel
theorem dX8_stepToward_19 : decode cX8_stepToward 19 = .ok (.invokevirtual 106, 3) := by decide +kernel
theorem dX8_stepToward_22 : decode cX8_stepToward 22 = .ok (.ifCond .eq 39, 3) := by decide +kernel
theorem dX8_stepToward_25 : decode cX8_stepToward 25 = .ok (.bipush 64, 2) := by decide +kernel
theorem dX8_stepToward_27 : decode cX8_stepToward 27 = .ok (.aload_n 0, 1) := by decide +kernel
theorem dX8_stepToward_28 : decode cX8_stepToward 28 = .ok (.getfield 48, 3) := by decide +kernel
theorem dX8_stepToward_31 : decode cX8_stepToward 31 = .ok (.iload_n 1, 1) := by decide +kernel
theorem dX8_stepToward_32 : decode cX8_stepToward 32 = .ok (.iload_n 3, 1) := by decide +kernel
theorem dX8_stepToward_33 : decode cX8_stepToward 33 = .ok (.invokevirtual 86, 3) := by decide +kernel
theorem dX8_stepToward_36 : decode cX8_stepToward 36 = .ok (.imul, 1) := by decide +kernel
theorem dX8_stepToward_37 : decode cX8_stepToward 37 = .ok (.iconst 1, 1) := by decide +kernel
theorem dX8_stepToward_38 : decode cX8_stepToward 38 = .ok (.iadd, 1) := by decide +kernel
theorem dX8_stepToward_39 : decode cX8_stepToward 39 = .ok (.aload_n 0, 1) := by decide +kernel
theorem dX8_stepToward_40 : decode cX8_stepToward 40 = .ok (.getfield 11, 3) := by decide +kernel
theorem dX8_stepToward_43 : decode cX8_stepToward 43 = .ok (.iload_n 3, 1) := by decide +kernel
theorem dX8_stepToward_44 : decode cX8_stepToward 44 = .ok (.aaload, 1) := by decide +kernel
theorem dX8_stepToward_45 : decode cX8_stepToward 45 = .ok (.iload_n 2, 1) := by decide +kernel
theorem dX8_stepToward_46 : decode cX8_stepToward 46 = .ok (.iaload, 1) := by decide +kernel
theorem dX8_stepToward_47 : decode cX8_stepToward 47 = .ok (.iadd, 1) := by decide +kernel
theorem dX8_stepToward_48 : decode cX8_stepToward 48 = .ok (.aload_n 0, 1) := by decide +kernel
theorem dX8_stepToward_49 : decode cX8_stepToward 49 = .ok (.getfield 11, 3) := by decide +kernel
theorem dX8_stepToward_52 : decode cX8_stepToward 52 = .ok (.iload_n 1, 1) := by decide +kernel
theorem dX8_stepToward_53 : decode cX8_stepToward 53 = .ok (.aaload, 1) := by decide +kernel
theorem dX8_stepToward_54 : decode cX8_stepToward 54 = .ok (.iload_n 2, 1) := by decide +kernel
theorem dX8_stepToward_55 : decode cX8_stepToward 55 = .ok (.iaload, 1) := by decide +kernel
theorem dX8_stepToward_56 : decode cX8_stepToward 56 = .ok (.if_icmp .ne 5, 3) := by decide +kernel
theorem dX8_stepToward_59 : decode cX8_stepToward 59 = .ok (.iload_n 3, 1) := by decide +kernel
theorem dX8_stepToward_60 : decode cX8_stepToward 60 = .ok (.ireturn, 1) := by decide +kernel
theorem dX8_stepToward_61 : decode cX8_stepToward 61 = .ok (.iinc 3 1, 3) := by decide +kernel
theorem dX8_stepToward_64 : decode cX8_stepToward 64 = .ok (.goto (-62), 3) := by decide +kernel
theorem dX8_stepToward_67 : decode cX8_stepToward 67 = .ok (.iload_n 1, 1) := by decide +kernel
theorem dX8_stepToward_68 : decode cX8_stepToward 68 = .ok (.ireturn, 1) := by decide +kernel
theorem dX8_twosBy_0 : decode cX8_twosBy 0 = .ok (.iconst 0, 1) := by decide +kernel
theorem dX8_twosBy_1 : decode cX8_twosBy 1 = .ok (.istore_n 2, 1) := by decide +kernel
theorem dX8_twosBy_2 : decode cX8_twosBy 2 = .ok (.iconst 0, 1) := by decide +kernel
theorem dX8_twosBy_3 : decode cX8_twosBy 3 = .ok (.istore_n 3, 1) := by decide +kernel
theorem dX8_twosBy_4 : decode cX8_twosBy 4 = .ok (.iload_n 3, 1) := by decide +kernel
theorem dX8_twosBy_5 : decode cX8_twosBy 5 = .ok (.aload_n 0, 1) := by decide +kernel
theorem dX8_twosBy_6 : decode cX8_twosBy 6 = .ok (.getfield 44, 3) := by decide +kernel
theorem dX8_twosBy_9 : decode cX8_twosBy 9 = .ok (.getfield 57, 3) := by decide +kernel
theorem dX8_twosBy_12 : decode cX8_twosBy 12 = .ok (.if_icmp .ge 100, 3) := by decide +kernel
theorem dX8_twosBy_15 : decode cX8_twosBy 15 = .ok (.iload_n 3, 1) := by decide +kernel
theorem dX8_twosBy_16 : decode cX8_twosBy 16 = .ok (.iload_n 1, 1) := by decide +kernel
theorem dX8_twosBy_17 : decode cX8_twosBy 17 = .ok (.if_icmp .eq 89, 3) := by decide +kernel
theorem dX8_twosBy_20 : decode cX8_twosBy 20 = .ok (.aload_n 0, 1) := by decide +kernel
theorem dX8_twosBy_21 : decode cX8_twosBy 21 = .ok (.iload_n 3, 1) := by decide +kernel
theorem dX8_twosBy_22 : decode cX8_twosBy 22 = .ok (.iload_n 1, 1) := by decide +kernel
theorem dX8_twosBy_23 : decode cX8_twosBy 23 = .ok (.invokevirtual 99, 3) := by decide +kernel
theorem dX8_twosBy_26 : decode cX8_twosBy 26 = .ok (.ifCond .ne 6, 3) := by decide +kernel
theorem dX8_twosBy_29 : decode cX8_twosBy 29 = .ok (.goto 77, 3) := by decide +kernel
theorem dX8_twosBy_32 : decode cX8_twosBy 32 = .ok (.aload_n 0, 1) := by decide +kernel
theorem dX8_twosBy_33 : decode cX8_twosBy 33 = .ok (.iload_n 3, 1) := by decide +kernel
theorem dX8_twosBy_34 : decode cX8_twosBy 34 = .ok (.iload_n 1, 1) := by decide +kernel
theorem dX8_twosBy_35 : decode cX8_twosBy 35 = .ok (.invokevirtual 102, 3) := by decide +kernel
theorem dX8_twosBy_38 : decode cX8_twosBy 38 = .ok (.istore 4, 2) := by decide +kernel
theorem dX8_twosBy_40 : decode cX8_twosBy 40 = .ok (.iconst 0, 1) := by decide +kernel
theorem dX8_twosBy_41 : decode cX8_twosBy 41 = .ok (.istore 5, 2) := by decide +kernel
theorem dX8_twosBy_43 : decode cX8_twosBy 43 = .ok (.iload 5, 2) := by decide +kernel
theorem dX8_twosBy_45 : decode cX8_twosBy 45 = .ok (.aload_n 0, 1) := by decide +kernel
theorem dX8_twosBy_46 : decode cX8_twosBy 46 = .ok (.getfield 44, 3) := by decide +kernel
theorem dX8_twosBy_49 : decode cX8_twosBy 49 = .ok (.getfield 57, 3) := by decide +kernel
theorem dX8_twosBy_52 : decode cX8_twosBy 52 = .ok (.if_icmp .ge 54, 3) := by decide +kernel
theorem dX8_twosBy_55 : decode cX8_twosBy 55 = .ok (.iload 5, 2) := by decide +kernel
theorem dX8_twosBy_57 : decode cX8_twosBy 57 = .ok (.iload_n 1, 1) := by decide +kernel
theorem dX8_twosBy_58 : decode cX8_twosBy 58 = .ok (.if_icmp .eq 42, 3) := by decide +kernel
theorem dX8_twosBy_61 : decode cX8_twosBy 61 = .ok (.iload 5, 2) := by decide +kernel
theorem dX8_twosBy_63 : decode cX8_twosBy 63 = .ok (.iload_n 3, 1) := by decide +kernel
theorem dX8_twosBy_64 : decode cX8_twosBy 64 = .ok (.if_icmp .eq 36, 3) := by decide +kernel
theorem dX8_twosBy_67 : decode cX8_twosBy 67 = .ok (.aload_n 0, 1) := by decide +kernel
theorem dX8_twosBy_68 : decode cX8_twosBy 68 = .ok (.iload_n 1, 1) := by decide +kernel
theorem dX8_twosBy_69 : decode cX8_twosBy 69 = .ok (.iload 5, 2) := by decide +kernel
theorem dX8_twosBy_71 : decode cX8_twosBy 71 = .ok (.invokevirtual 99, 3) := by decide +kernel
theorem dX8_twosBy_74 : decode cX8_twosBy 74 = .ok (.ifCond .eq 26, 3) := by decide +kernel
theorem dX8_twosBy_77 : decode cX8_twosBy 77 = .ok (.iload 4, 2) := by decide +kernel
theorem dX8_twosBy_79 : decode cX8_twosBy 79 = .ok (.aload_n 0, 1) := by decide +kernel
theorem dX8_twosBy_80 : decode cX8_twosBy 80 = .ok (.iload_n 1, 1) := by decide +kernel
theorem dX8_twosBy_81 : decode cX8_twosBy 81 = .ok (.iload 5, 2) := by decide +kernel
theorem dX8_twosBy_83 : decode cX8_twosBy 83 = .ok (.invokevirtual 102, 3) := by decide +kernel
theorem dX8_twosBy_86 : decode cX8_twosBy 86 = .ok (.iadd, 1) := by decide +kernel
theorem dX8_twosBy_87 : decode cX8_twosBy 87 = .ok (.aload_n 0, 1) := by decide +kernel
theorem dX8_twosBy_88 : decode cX8_twosBy 88 = .ok (.iload_n 3, 1) := by decide +kernel
theorem dX8_twosBy_89 : decode cX8_twosBy 89 = .ok (.iload 5, 2) := by decide +kernel
theorem dX8_twosBy_91 : decode cX8_twosBy 91 = .ok (.invokevirtual 102, 3) := by decide +kernel
theorem dX8_twosBy_94 : decode cX8_twosBy 94 = .ok (.if_icmp .ne 6, 3) := by decide +kernel
theorem dX8_twosBy_97 : decode cX8_twosBy 97 = .ok (.iinc 2 1, 3) := by decide +kernel
theorem dX8_twosBy_100 : decode cX8_twosBy 100 = .ok (.iinc 5 1, 3) := by decide +kernel
theorem dX8_twosBy_103 : decode cX8_twosBy 103 = .ok (.goto (-60), 3) := by decide +kernel
theorem dX8_twosBy_106 : decode cX8_twosBy 106 = .ok (.iinc 3 1, 3) := by decide +kernel
theorem dX8_twosBy_109 : decode cX8_twosBy 109 = .ok (.goto (-105), 3) := by decide +kernel
theorem dX8_twosBy_112 : decode cX8_twosBy 112 = .ok (.iload_n 2, 1) := by decide +kernel
theorem dX8_twosBy_113 : decode cX8_twosBy 113 = .ok (.ireturn, 1) := by decide +kernel
theorem dX8_walksInto_0 : decode cX8_walksInto 0 = .ok (.lconst 0, 1) := by decide +kernel
theorem dX8_walksInto_1 : decode cX8_walksInto 1 = .ok (.lstore_n 2, 1) := by decide +kernel
theorem dX8_walksInto_2 : decode cX8_walksInto 2 = .ok (.iconst 0, 1) := by decide +kernel
theorem dX8_walksInto_3 : decode cX8_walksInto 3 = .ok (.istore 4, 2) := by decide +kernel
theorem dX8_walksInto_5 : decode cX8_walksInto 5 = .ok (.iload 4, 2) := by decide +kernel
theorem dX8_walksInto_7 : decode cX8_walksInto 7 = .ok (.aload_n 0, 1) := by decide +kernel
theorem dX8_walksInto_8 : decode cX8_walksInto 8 = .ok (.getfield 44, 3) := by decide +kernel
theorem dX8_walksInto_11 : decode cX8_walksInto 11 = .ok (.getfield 57, 3) := by decide +kernel
theorem dX8_walksInto_14 : decode cX8_walksInto 14 = .ok (.if_icmp .ge 44, 3) := by decide +kernel
theorem dX8_walksInto_17 : decode cX8_walksInto 17 = .ok (.aload_n 0, 1) := by decide +kernel
theorem dX8_walksInto_18 : decode cX8_walksInto 18 = .ok (.getfield 27, 3) := by decide +kernel
theorem dX8_walksInto_21 : decode cX8_walksInto 21 = .ok (.iload 4, 2) := by decide +kernel
theorem dX8_walksInto_23 : decode cX8_walksInto 23 = .ok (.laload, 1) := by decide +kernel
theorem dX8_walksInto_24 : decode cX8_walksInto 24 = .ok (.lconst 0, 1) := by decide +kernel
theorem dX8_walksInto_25 : decode cX8_walksInto 25 = .ok (.lcmp, 1) := by decide +kernel
theorem dX8_walksInto_26 : decode cX8_walksInto 26 = .ok (.ifCond .eq 26, 3) := by decide +kernel
theorem dX8_walksInto_29 : decode cX8_walksInto 29 = .ok (.aload_n 0, 1) := by decide +kernel
theorem dX8_walksInto_30 : decode cX8_walksInto 30 = .ok (.getfield 48, 3) := by decide +kernel
theorem dX8_walksInto_33 : decode cX8_walksInto 33 = .ok (.iload 4, 2) := by decide +kernel
theorem dX8_walksInto_35 : decode cX8_walksInto 35 = .ok (.iload_n 1, 1) := by decide +kernel
theorem dX8_walksInto_36 : decode cX8_walksInto 36 = .ok (.invokevirtual 106, 3) := by decide +kernel
theorem dX8_walksInto_39 : decode cX8_walksInto 39 = .ok (.ifCond .eq 13, 3) := by decide +kernel
theorem dX8_walksInto_42 : decode cX8_walksInto 42 = .ok (.lload_n 2, 1) := by decide +kernel
theorem dX8_walksInto_43 : decode cX8_walksInto 43 = .ok (.aload_n 0, 1) := by decide +kernel
theorem dX8_walksInto_44 : decode cX8_walksInto 44 = .ok (.getfield 27, 3) := by decide +kernel
theorem dX8_walksInto_47 : decode cX8_walksInto 47 = .ok (.iload 4, 2) := by decide +kernel
theorem dX8_walksInto_49 : decode cX8_walksInto 49 = .ok (.laload, 1) := by decide +kernel
theorem dX8_walksInto_50 : decode cX8_walksInto 50 = .ok (.ladd, 1) := by decide +kernel
theorem dX8_walksInto_51 : decode cX8_walksInto 51 = .ok (.lstore_n 2, 1) := by decide +kernel
theorem dX8_walksInto_52 : decode cX8_walksInto 52 = .ok (.iinc 4 1, 3) := by decide +kernel
theorem dX8_walksInto_55 : decode cX8_walksInto 55 = .ok (.goto (-50), 3) := by decide +kernel
theorem dX8_walksInto_58 : decode cX8_walksInto 58 = .ok (.lload_n 2, 1) := by decide +kernel
theorem dX8_walksInto_59 : decode cX8_walksInto 59 = .ok (.lreturn, 1) := by decide +kernel
theorem dX8_wordAt_0 : decode cX8_wordAt 0 = .ok (.iload_n 1, 1) := by decide +kernel
theorem dX8_wordAt_1 : decode cX8_wordAt 1 = .ok (.istore 4, 2) := by decide +kernel
theorem dX8_wordAt_3 : decode cX8_wordAt 3 = .ok (.iconst 0, 1) := by decide +kernel
theorem dX8_wordAt_4 : decode cX8_wordAt 4 = .ok (.istore 5, 2) := by decide +kernel
theorem dX8_wordAt_6 : decode cX8_wordAt 6 = .ok (.iload 5, 2) := by decide +kernel
theorem dX8_wordAt_8 : decode cX8_wordAt 8 = .ok (.iload_n 3, 1) := by decide +kernel
theorem dX8_wordAt_9 : decode cX8_wordAt 9 = .ok (.if_icmp .ge 18, 3) := by decide +kernel
theorem dX8_wordAt_12 : decode cX8_wordAt 12 = .ok (.aload_n 0, 1) := by decide +kernel
theorem dX8_wordAt_13 : decode cX8_wordAt 13 = .ok (.iload 4, 2) := by decide +kernel
theorem dX8_wordAt_15 : decode cX8_wordAt 15 = .ok (.iload_n 2, 1) := by decide +kernel
theorem dX8_wordAt_16 : decode cX8_wordAt 16 = .ok (.invokevirtual 103, 3) := by decide +kernel
theorem dX8_wordAt_19 : decode cX8_wordAt 19 = .ok (.istore 4, 2) := by decide +kernel
theorem dX8_wordAt_21 : decode cX8_wordAt 21 = .ok (.iinc 5 1, 3) := by decide +kernel
theorem dX8_wordAt_24 : decode cX8_wordAt 24 = .ok (.goto (-18), 3) := by decide +kernel
theorem dX8_wordAt_27 : decode cX8_wordAt 27 = .ok (.iload 4, 2) := by decide +kernel
theorem dX8_wordAt_29 : decode cX8_wordAt 29 = .ok (.ireturn, 1) := by decide +kernel
theorem dX9_add_0 : decode cX9_add 0 = .ok (.aload_n 0, 1) := by decide +kernel
theorem dX9_add_1 : decode cX9_add 1 = .ok (.getfield 42, 3) := by decide +kernel
theorem dX9_add_4 : decode cX9_add 4 = .ok (.istore 5, 2) := by decide +kernel
theorem dX9_add_6 : decode cX9_add 6 = .ok (.iload 5, 2) := by decide +kernel
theorem dX9_add_8 : decode cX9_add 8 = .ok (.bipush 40, 2) := by decide +kernel
theorem dX9_add_10 : decode cX9_add 10 = .ok (.if_icmp .lt 5, 3) := by decide +kernel
theorem dX9_add_13 : decode cX9_add 13 = .ok (.iconst (-1), 1) := by decide +kernel
theorem dX9_add_14 : decode cX9_add 14 = .ok (.ireturn, 1) := by decide +kernel
theorem dX9_add_15 : decode cX9_add 15 = .ok (.aload_n 0, 1) := by decide +kernel
theorem dX9_add_16 : decode cX9_add 16 = .ok (.getfield 20, 3) := by decide +kernel
theorem dX9_add_19 : decode cX9_add 19 = .ok (.iload 5, 2) := by decide +kernel
theorem dX9_add_21 : decode cX9_add 21 = .ok (.lload_n 1, 1) := by decide +kernel
theorem dX9_add_22 : decode cX9_add 22 = .ok (.lastore, 1) := by decide +kernel
theorem dX9_add_23 : decode cX9_add 23 = .ok (.aload_n 0, 1) := by decide +kernel
theorem dX9_add_24 : decode cX9_add 24 = .ok (.getfield 16, 3) := by decide +kernel
theorem dX9_add_27 : decode cX9_add 27 = .ok (.iload 5, 2) := by decide +kernel
theorem dX9_add_29 : decode cX9_add 29 = .ok (.lload_n 1, 1) := by decide +kernel
theorem dX9_add_30 : decode cX9_add 30 = .ok (.invokestatic 38, 3) := by decide +kernel
theorem dX9_add_33 : decode cX9_add 33 = .ok (.iastore, 1) := by decide +kernel
theorem dX9_add_34 : decode cX9_add 34 = .ok (.iconst 0, 1) := by decide +kernel
theorem dX9_add_35 : decode cX9_add 35 = .ok (.istore 6, 2) := by decide +kernel
theorem dX9_add_37 : decode cX9_add 37 = .ok (.iload 6, 2) := by decide +kernel
theorem dX9_add_39 : decode cX9_add 39 = .ok (.aload_n 0, 1) := by decide +kernel
theorem dX9_add_40 : decode cX9_add 40 = .ok (.getfield 16, 3) := by decide +kernel
theorem dX9_add_43 : decode cX9_add 43 = .ok (.iload 5, 2) := by decide +kernel
theorem dX9_add_45 : decode cX9_add 45 = .ok (.iaload, 1) := by decide +kernel
theorem dX9_add_46 : decode cX9_add 46 = .ok (.if_icmp .ge 32, 3) := by decide +kernel
theorem dX9_add_49 : decode cX9_add 49 = .ok (.iload 6, 2) := by decide +kernel
theorem dX9_add_51 : decode cX9_add 51 = .ok (.bipush 8, 2) := by decide +kernel
theorem dX9_add_53 : decode cX9_add 53 = .ok (.if_icmp .ge 25, 3) := by decide +kernel
theorem dX9_add_56 : decode cX9_add 56 = .ok (.aload_n 0, 1) := by decide +kernel
theorem dX9_add_57 : decode cX9_add 57 = .ok (.getfield 11, 3) := by decide +kernel
theorem dX9_add_60 : decode cX9_add 60 = .ok (.iload 5, 2) := by decide +kernel
theorem dX9_add_62 : decode cX9_add 62 = .ok (.aaload, 1) := by decide +kernel
theorem dX9_add_63 : decode cX9_add 63 = .ok (.iload 6, 2) := by decide +kernel
theorem dX9_add_65 : decode cX9_add 65 = .ok (.lload_n 1, 1) := by decide +kernel
theorem dX9_add_66 : decode cX9_add 66 = .ok (.iload 6, 2) := by decide +kernel
theorem dX9_add_68 : decode cX9_add 68 = .ok (.invokestatic 53, 3) := by decide +kernel
theorem dX9_add_71 : decode cX9_add 71 = .ok (.iastore, 1) := by decide +kernel
theorem dX9_add_72 : decode cX9_add 72 = .ok (.iinc 6 1, 3) := by decide +kernel
theorem dX9_add_75 : decode cX9_add 75 = .ok (.goto (-38), 3) := by decide +kernel
theorem dX9_add_78 : decode cX9_add 78 = .ok (.aload_n 0, 1) := by decide +kernel
theorem dX9_add_79 : decode cX9_add 79 = .ok (.getfield 24, 3) := by decide +kernel
theorem dX9_add_82 : decode cX9_add 82 = .ok (.iload 5, 2) := by decide +kernel
theorem dX9_add_84 : decode cX9_add 84 = .ok (.iload_n 3, 1) := by decide +kernel
theorem dX9_add_85 : decode cX9_add 85 = .ok (.iastore, 1) := by decide +kernel
theorem dX9_add_86 : decode cX9_add 86 = .ok (.aload_n 0, 1) := by decide +kernel
theorem dX9_add_87 : decode cX9_add 87 = .ok (.getfield 27, 3) := by decide +kernel
theorem dX9_add_90 : decode cX9_add 90 = .ok (.iload 5, 2) := by decide +kernel
theorem dX9_add_92 : decode cX9_add 92 = .ok (.iload 4, 2) := by decide +kernel
theorem dX9_add_94 : decode cX9_add 94 = .ok (.iastore, 1) := by decide +kernel
theorem dX9_add_95 : decode cX9_add 95 = .ok (.aload_n 0, 1) := by decide +kernel
theorem dX9_add_96 : decode cX9_add 96 = .ok (.getfield 30, 3) := by decide +kernel
theorem dX9_add_99 : decode cX9_add 99 = .ok (.iload 5, 2) := by decide +kernel
theorem dX9_add_101 : decode cX9_add 101 = .ok (.iconst 0, 1) := by decide +kernel
theorem dX9_add_102 : decode cX9_add 102 = .ok (.bastore, 1) := by decide +kernel
theorem dX9_add_103 : decode cX9_add 103 = .ok (.aload_n 0, 1) := by decide +kernel
theorem dX9_add_104 : decode cX9_add 104 = .ok (.dup, 1) := by decide +kernel
theorem dX9_add_105 : decode cX9_add 105 = .ok (.getfield 42, 3) := by decide +kernel
theorem dX9_add_108 : decode cX9_add 108 = .ok (.iconst 1, 1) := by decide +kernel
theorem dX9_add_109 : decode cX9_add 109 = .ok (.iadd, 1) := by decide +kernel
theorem dX9_add_110 : decode cX9_add 110 = .ok (.putfield 42, 3) := by decide +kernel
theorem dX9_add_113 : decode cX9_add 113 = .ok (.aload_n 0, 1) := by decide +kernel
theorem dX9_add_114 : decode cX9_add 114 = .ok (.invokevirtual 57, 3) := by decide +kernel
theorem dX9_add_117 : decode cX9_add 117 = .ok (.iload 5, 2) := by decide +kernel
theorem dX9_add_119 : decode cX9_add 119 = .ok (.ireturn, 1) := by decide +kernel
theorem dX9_findUsed_0 : decode cX9_findUsed 0 = .ok (.aload_n 0, 1) := by decide +kernel
theorem dX9_findUsed_1 : decode cX9_findUsed 1 = .ok (.getfield 34, 3) := by decide +kernel
theorem dX9_findUsed_4 : decode cX9_findUsed 4 = .ok (.iconst (-1), 1) := by decide +kernel
theorem dX9_findUsed_5 : decode cX9_findUsed 5 = .ok (.if_icmp .ne 8, 3) := by decide +kernel
theorem dX9_findUsed_8 : decode cX9_findUsed 8 = .ok (.bipush 15, 2) := by decide +kernel
theorem dX9_findUsed_10 : decode cX9_findUsed 10 = .ok (.goto 9, 3) := by decide +kernel
theorem dX9_findUsed_13 : decode cX9_findUsed 13 = .ok (.iconst 1, 1) := by decide +kernel
theorem dX9_findUsed_14 : decode cX9_findUsed 14 = .ok (.aload_n 0, 1) := by decide +kernel
theorem dX9_findUsed_15 : decode cX9_findUsed 15 = .ok (.getfield 34, 3) := by decide +kernel
theorem dX9_findUsed_18 : decode cX9_findUsed 18 = .ok (.ishl, 1) := by decide +kernel
theorem dX9_findUsed_19 : decode cX9_findUsed 19 = .ok (.istore_n 1, 1) := by decide +kernel
theorem dX9_findUsed_20 : decode cX9_findUsed 20 = .ok (.aload_n 0, 1) := by decide +kernel
theorem dX9_findUsed_21 : decode cX9_findUsed 21 = .ok (.lconst 0, 1) := by decide +kernel
theorem dX9_findUsed_22 : decode cX9_findUsed 22 = .ok (.putfield 49, 3) := by decide +kernel
theorem dX9_findUsed_25 : decode cX9_findUsed 25 = .ok (.iconst 0, 1) := by decide +kernel
theorem dX9_findUsed_26 : decode cX9_findUsed 26 = .ok (.istore_n 2, 1) := by decide +kernel
theorem dX9_findUsed_27 : decode cX9_findUsed 27 = .ok (.iload_n 2, 1) := by decide +kernel
theorem dX9_findUsed_28 : decode cX9_findUsed 28 = .ok (.aload_n 0, 1) := by decide +kernel
theorem dX9_findUsed_29 : decode cX9_findUsed 29 = .ok (.getfield 42, 3) := by decide +kernel
theorem dX9_findUsed_32 : decode cX9_findUsed 32 = .ok (.if_icmp .ge 41, 3) := by decide +kernel
theorem dX9_findUsed_35 : decode cX9_findUsed 35 = .ok (.aload_n 0, 1) := by decide +kernel
theorem dX9_findUsed_36 : decode cX9_findUsed 36 = .ok (.getfield 30, 3) := by decide +kernel
theorem dX9_findUsed_39 : decode cX9_findUsed 39 = .ok (.iload_n 2, 1) := by decide +kernel
theorem dX9_findUsed_40 : decode cX9_findUsed 40 = .ok (.baload, 1) := by decide +kernel
theorem dX9_findUsed_41 : decode cX9_findUsed 41 = .ok (.ifCond .ne 26, 3) := by decide +kernel
theorem dX9_findUsed_44 : decode cX9_findUsed 44 = .ok (.aload_n 0, 1) := by decide +kernel
theorem dX9_findUsed_45 : decode cX9_findUsed 45 = .ok (.getfield 27, 3) := by decide +kernel
theorem dX9_findUsed_48 : decode cX9_findUsed 48 = .ok (.iload_n 2, 1) := by decide +kernel
theorem dX9_findUsed_49 : decode cX9_findUsed 49 = .ok (.iaload, 1) := by decide +kernel
theorem dX9_findUsed_50 : decode cX9_findUsed 50 = .ok (.iload_n 1, 1) := by decide +kernel
theorem dX9_findUsed_51 : decode cX9_findUsed 51 = .ok (.iand, 1) := by decide +kernel
theorem dX9_findUsed_52 : decode cX9_findUsed 52 = .ok (.ifCond .eq 15, 3) := by decide +kernel
theorem dX9_findUsed_55 : decode cX9_findUsed 55 = .ok (.aload_n 0, 1) := by decide +kernel
theorem dX9_findUsed_56 : decode cX9_findUsed 56 = .ok (.dup, 1) := by decide +kernel
theorem dX9_findUsed_57 : decode cX9_findUsed 57 = .ok (.getfield 49, 3) := by decide +kernel
theorem dX9_findUsed_60 : decode cX9_findUsed 60 = .ok (.lconst 1, 1) := by decide +kernel
theorem dX9_findUsed_61 : decode cX9_findUsed 61 = .ok (.iload_n 2, 1) := by decide +kernel
theorem dX9_findUsed_62 : decode cX9_findUsed 62 = .ok (.lshl, 1) := by decide +kernel
theorem dX9_findUsed_63 : decode cX9_findUsed 63 = .ok (.lor, 1) := by decide +kernel
theorem dX9_findUsed_64 : decode cX9_findUsed 64 = .ok (.putfield 49, 3) := by decide +kernel
theorem dX9_findUsed_67 : decode cX9_findUsed 67 = .ok (.iinc 2 1, 3) := by decide +kernel
theorem dX9_findUsed_70 : decode cX9_findUsed 70 = .ok (.goto (-43), 3) := by decide +kernel
theorem dX9_findUsed_73 : decode cX9_findUsed 73 = .ok (.aload_n 0, 1) := by decide +kernel
theorem dX9_findUsed_74 : decode cX9_findUsed 74 = .ok (.dup, 1) := by decide +kernel
theorem dX9_findUsed_75 : decode cX9_findUsed 75 = .ok (.getfield 60, 3) := by decide +kernel
theorem dX9_findUsed_78 : decode cX9_findUsed 78 = .ok (.iconst 1, 1) := by decide +kernel
theorem dX9_findUsed_79 : decode cX9_findUsed 79 = .ok (.iadd, 1) := by decide +kernel
theorem dX9_findUsed_80 : decode cX9_findUsed 80 = .ok (.putfield 60, 3) := by decide +kernel
theorem dX9_findUsed_83 : decode cX9_findUsed 83 = .ok (.return_, 1) := by decide +kernel
theorem dX9_has_0 : decode cX9_has 0 = .ok (.iload_n 1, 1) := by decide +kernel
theorem dX9_has_1 : decode cX9_has 1 = .ok (.ifCond .lt 21, 3) := by decide +kernel
theorem dX9_has_4 : decode cX9_has 4 = .ok (.iload_n 1, 1) := by decide +kernel
theorem dX9_has_5 : decode cX9_has 5 = .ok (.aload_n 0, 1) := by decide +kernel
theorem dX9_has_6 : decode cX9_has 6 = .ok (.getfield 42, 3) := by decide +kernel
theorem dX9_has_9 : decode cX9_has 9 = .ok (.if_icmp .ge 13, 3) := by decide +kernel
theorem dX9_has_12 : decode cX9_has 12 = .ok (.iload_n 1, 1) := by decide +kernel
theorem dX9_has_13 : decode cX9_has 13 = .ok (.bipush 40, 2) := by decide +kernel
theorem dX9_has_15 : decode cX9_has 15 = .ok (.if_icmp .ge 7, 3) := by decide +kernel
theorem dX9_has_18 : decode cX9_has 18 = .ok (.iconst 1, 1) := by decide +kernel
theorem dX9_has_19 : decode cX9_has 19 = .ok (.goto 4, 3) := by decide +kernel
theorem dX9_has_22 : decode cX9_has 22 = .ok (.iconst 0, 1) := by decide +kernel
theorem dX9_has_23 : decode cX9_has 23 = .ok (.ireturn, 1) := by decide +kernel
theorem dX9_holds_0 : decode cX9_holds 0 = .ok (.iconst 0, 1) := by decide +kernel
theorem dX9_holds_1 : decode cX9_holds 1 = .ok (.istore_n 3, 1) := by decide +kernel
theorem dX9_holds_2 : decode cX9_holds 2 = .ok (.iload_n 3, 1) := by decide +kernel
theorem dX9_holds_3 : decode cX9_holds 3 = .ok (.aload_n 0, 1) := by decide +kernel
theorem dX9_holds_4 : decode cX9_holds 4 = .ok (.getfield 42, 3) := by decide +kernel
theorem dX9_holds_7 : decode cX9_holds 7 = .ok (.if_icmp .ge 22, 3) := by decide +kernel
theorem dX9_holds_10 : decode cX9_holds 10 = .ok (.aload_n 0, 1) := by decide +kernel
theorem dX9_holds_11 : decode cX9_holds 11 = .ok (.getfield 20, 3) := by decide +kernel
theorem dX9_holds_14 : decode cX9_holds 14 = .ok (.iload_n 3, 1) := by decide +kernel
theorem dX9_holds_15 : decode cX9_holds 15 = .ok (.laload, 1) := by decide +kernel
theorem dX9_holds_16 : decode cX9_holds 16 = .ok (.lload_n 1, 1) := by decide +kernel
theorem dX9_holds_17 : decode cX9_holds 17 = .ok (.lcmp, 1) := by decide +kernel
theorem dX9_holds_18 : decode cX9_holds 18 = .ok (.ifCond .ne 5, 3) := by decide +kernel
theorem dX9_holds_21 : decode cX9_holds 21 = .ok (.iconst 1, 1) := by decide +kernel
theorem dX9_holds_22 : decode cX9_holds 22 = .ok (.ireturn, 1) := by decide +kernel
theorem dX9_holds_23 : decode cX9_holds 23 = .ok (.iinc 3 1, 3) := by decide +kernel
theorem dX9_holds_26 : decode cX9_holds 26 = .ok (.goto (-24), 3) := by decide +kernel
theorem dX9_holds_29 : decode cX9_holds 29 = .ok (.iconst 0, 1) := by decide +kernel
theorem dX9_holds_30 : decode cX9_holds 30 = .ok (.ireturn, 1) := by decide +kernel
theorem dX9_isUsed_0 : decode cX9_isUsed 0 = .ok (.aload_n 0, 1) := by decide +kernel
theorem dX9_isUsed_1 : decode cX9_isUsed 1 = .ok (.iload_n 1, 1) := by decide +kernel
theorem dX9_isUsed_2 : decode cX9_isUsed 2 = .ok (.invokevirtual 45, 3) := by decide +kernel
theorem dX9_isUsed_5 : decode cX9_isUsed 5 = .ok (.ifCond .eq 20, 3) := by decide +kernel
theorem dX9_isUsed_8 : decode cX9_isUsed 8 = .ok (.aload_n 0, 1) := by decide +kernel
theorem dX9_isUsed_9 : decode cX9_isUsed 9 = .ok (.getfield 49, 3) := by decide +kernel
theorem dX9_isUsed_12 : decode cX9_isUsed 12 = .ok (.iload_n 1, 1) := by decide +kernel
theorem dX9_isUsed_13 : decode cX9_isUsed 13 = .ok (.lushr, 1) := by decide +kernel
theorem dX9_isUsed_14 : decode cX9_isUsed 14 = .ok (.lconst 1, 1) := by decide +kernel
theorem dX9_isUsed_15 : decode cX9_isUsed 15 = .ok (.land, 1) := by decide +kernel
theorem dX9_isUsed_16 : decode cX9_isUsed 16 = .ok (.lconst 0, 1) := by decide +kernel
theorem dX9_isUsed_17 : decode cX9_isUsed 17 = .ok (.lcmp, 1) := by decide +kernel
theorem dX9_isUsed_18 : decode cX9_isUsed 18 = .ok (.ifCond .eq 7, 3) := by decide +kernel
theorem dX9_isUsed_21 : decode cX9_isUsed 21 = .ok (.iconst 1, 1) := by decide +kernel
theorem dX9_isUsed_22 : decode cX9_isUsed 22 = .ok (.goto 4, 3) := by decide +kernel
theorem dX9_isUsed_25 : decode cX9_isUsed 25 = .ok (.iconst 0, 1) := by decide +kernel
theorem dX9_isUsed_26 : decode cX9_isUsed 26 = .ok (.ireturn, 1) := by decide +kernel
theorem dX9_keyOf_0 : decode cX9_keyOf 0 = .ok (.iload_n 2, 1) := by decide +kernel
theorem dX9_keyOf_1 : decode cX9_keyOf 1 = .ok (.i2l, 1) := by decide +kernel
theorem dX9_keyOf_2 : decode cX9_keyOf 2 = .ok (.bipush 40, 2) := by decide +kernel
theorem dX9_keyOf_4 : decode cX9_keyOf 4 = .ok (.lshl, 1) := by decide +kernel
theorem dX9_keyOf_5 : decode cX9_keyOf 5 = .ok (.lload_n 0, 1) := by decide +kernel
theorem dX9_keyOf_6 : decode cX9_keyOf 6 = .ok (.lor, 1) := by decide +kernel
theorem dX9_keyOf_7 : decode cX9_keyOf 7 = .ok (.lreturn, 1) := by decide +kernel
theorem dX9_lengthOfKey_0 : decode cX9_lengthOfKey 0 = .ok (.lload_n 0, 1) := by decide +kernel
theorem dX9_lengthOfKey_1 : decode cX9_lengthOfKey 1 = .ok (.bipush 40, 2) := by decide +kernel
theorem dX9_lengthOfKey_3 : decode cX9_lengthOfKey 3 = .ok (.lushr, 1) := by decide +kernel
theorem dX9_lengthOfKey_4 : decode cX9_lengthOfKey 4 = .ok (.l2i, 1) := by decide +kernel
theorem dX9_lengthOfKey_5 : decode cX9_lengthOfKey 5 = .ok (.ireturn, 1) := by decide +kernel
theorem dX9_letterOfKey_0 : decode cX9_letterOfKey 0 = .ok (.lload_n 0, 1) := by decide +kernel
theorem dX9_letterOfKey_1 : decode cX9_letterOfKey 1 = .ok (.iconst 5, 1) := by decide +kernel
theorem dX9_letterOfKey_2 : decode cX9_letterOfKey 2 = .ok (.lload_n 0, 1) := by decide +kernel
theorem dX9_letterOfKey_3 : decode cX9_letterOfKey 3 = .ok (.invokestatic 38, 3) := by decide +kernel
theorem dX9_letterOfKey_6 : decode cX9_letterOfKey 6 = .ok (.iconst 1, 1) := by decide +kernel
theorem dX9_letterOfKey_7 : decode cX9_letterOfKey 7 = .ok (.isub, 1) := by decide +kernel
theorem dX9_letterOfKey_8 : decode cX9_letterOfKey 8 = .ok (.iload_n 2, 1) := by decide +kernel
theorem dX9_letterOfKey_9 : decode cX9_letterOfKey 9 = .ok (.isub, 1) := by decide +kernel
theorem dX9_letterOfKey_10 : decode cX9_letterOfKey 10 = .ok (.imul, 1) := by decide +kernel
theorem dX9_letterOfKey_11 : decode cX9_letterOfKey 11 = .ok (.lushr, 1) := by decide +kernel
theorem dX9_letterOfKey_12 : decode cX9_letterOfKey 12 = .ok (.l2i, 1) := by decide +kernel
theorem dX9_letterOfKey_13 : decode cX9_letterOfKey 13 = .ok (.bipush 31, 2) := by decide +kernel
theorem dX9_letterOfKey_15 : decode cX9_letterOfKey 15 = .ok (.iand, 1) := by decide +kernel
theorem dX9_letterOfKey_16 : decode cX9_letterOfKey 16 = .ok (.ireturn, 1) := by decide +kernel
theorem dX9_setBarred_0 : decode cX9_setBarred 0 = .ok (.aload_n 0, 1) := by decide +kernel
theorem dX9_setBarred_1 : decode cX9_setBarred 1 = .ok (.getfield 30, 3) := by decide +kernel
theorem dX9_setBarred_4 : decode cX9_setBarred 4 = .ok (.iload_n 1, 1) := by decide +kernel
theorem dX9_setBarred_5 : decode cX9_setBarred 5 = .ok (.baload, 1) := by decide +kernel
theorem dX9_setBarred_6 : decode cX9_setBarred 6 = .ok (.iload_n 2, 1) := by decide +kernel
theorem dX9_setBarred_7 : decode cX9_setBarred 7 = .ok (.if_icmp .ne 5, 3) := by decide +kernel
theorem dX9_setBarred_10 : decode cX9_setBarred 10 = .ok (.iconst 0, 1) := by decide +kernel
theorem dX9_setBarred_11 : decode cX9_setBarred 11 = .ok (.ireturn, 1) := by decide +kernel
theorem dX9_setBarred_12 : decode cX9_setBarred 12 = .ok (.aload_n 0, 1) := by decide +kernel
theorem dX9_setBarred_13 : decode cX9_setBarred 13 = .ok (.getfield 30, 3) := by decide +kernel
theorem dX9_setBarred_16 : decode cX9_setBarred 16 = .ok (.iload_n 1, 1) := by decide +kernel
theorem dX9_setBarred_17 : decode cX9_setBarred 17 = .ok (.iload_n 2, 1) := by decide +kernel
theorem dX9_setBarred_18 : decode cX9_setBarred 18 = .ok (.bastore, 1) := by decide +kernel
theorem dX9_setBarred_19 : decode cX9_setBarred 19 = .ok (.aload_n 0, 1) := by decide +kernel
theorem dX9_setBarred_20 : decode cX9_setBarred 20 = .ok (.invokevirtual 57, 3) := by decide +kernel
theorem dX9_setBarred_23 : decode cX9_setBarred 23 = .ok (.iconst 1, 1) := by decide +kernel
theorem dX9_setBarred_24 : decode cX9_setBarred 24 = .ok (.ireturn, 1) := by decide +kernel
theorem dX9_setKnown_0 : decode cX9_setKnown 0 = .ok (.aload_n 0, 1) := by decide +kernel
theorem dX9_setKnown_1 : decode cX9_setKnown 1 = .ok (.getfield 24, 3) := by decide +kernel
theorem dX9_setKnown_4 : decode cX9_setKnown 4 = .ok (.iload_n 1, 1) := by decide +kernel
theorem dX9_setKnown_5 : decode cX9_setKnown 5 = .ok (.iload_n 2, 1) := by decide +kernel
theorem dX9_setKnown_6 : decode cX9_setKnown 6 = .ok (.iastore, 1) := by decide +kernel
theorem dX9_setKnown_7 : decode cX9_setKnown 7 = .ok (.aload_n 0, 1) := by decide +kernel
theorem dX9_setKnown_8 : decode cX9_setKnown 8 = .ok (.dup, 1) := by decide +kernel
theorem dX9_setKnown_9 : decode cX9_setKnown 9 = .ok (.getfield 60, 3) := by decide +kernel
theorem dX9_setKnown_12 : decode cX9_setKnown 12 = .ok (.iconst 1, 1) := by decide +kernel
theorem dX9_setKnown_13 : decode cX9_setKnown 13 = .ok (.iadd, 1) := by decide +kernel
theorem dX9_setKnown_14 : decode cX9_setKnown 14 = .ok (.putfield 60, 3) := by decide +kernel
theorem dX9_setKnown_17 : decode cX9_setKnown 17 = .ok (.return_, 1) := by decide +kernel
theorem dX9_setSpoken_0 : decode cX9_setSpoken 0 = .ok (.aload_n 0, 1) := by decide +kernel
theorem dX9_setSpoken_1 : decode cX9_setSpoken 1 = .ok (.iload_n 1, 1) := by decide +kernel
theorem dX9_setSpoken_2 : decode cX9_setSpoken 2 = .ok (.putfield 34, 3) := by decide +kernel
theorem dX9_setSpoken_5 : decode cX9_setSpoken 5 = .ok (.aload_n 0, 1) := by decide +kernel
theorem dX9_setSpoken_6 : decode cX9_setSpoken 6 = .ok (.invokevirtual 57, 3) := by decide +kernel
theorem dX9_setSpoken_9 : decode cX9_setSpoken 9 = .ok (.return_, 1) := by decide +kernel
theorem dX9_takeLast_0 : decode cX9_takeLast 0 = .ok (.aload_n 0, 1) := by decide +kernel
theorem dX9_takeLast_1 : decode cX9_takeLast 1 = .ok (.getfield 42, 3) := by decide +kernel
theorem dX9_takeLast_4 : decode cX9_takeLast 4 = .ok (.ifCond .ne 5, 3) := by decide +kernel
theorem dX9_takeLast_7 : decode cX9_takeLast 7 = .ok (.iconst (-1), 1) := by decide +kernel
theorem dX9_takeLast_8 : decode cX9_takeLast 8 = .ok (.ireturn, 1) := by decide +kernel
theorem dX9_takeLast_9 : decode cX9_takeLast 9 = .ok (.aload_n 0, 1) := by decide +kernel
theorem dX9_takeLast_10 : decode cX9_takeLast 10 = .ok (.dup, 1) := by decide +kernel
theorem dX9_takeLast_11 : decode cX9_takeLast 11 = .ok (.getfield 42, 3) := by decide +kernel
theorem dX9_takeLast_14 : decode cX9_takeLast 14 = .ok (.iconst 1, 1) := by decide +kernel
theorem dX9_takeLast_15 : decode cX9_takeLast 15 = .ok (.isub, 1) := by decide +kernel
theorem dX9_takeLast_16 : decode cX9_takeLast 16 = .ok (.putfield 42, 3) := by decide +kernel
theorem dX9_takeLast_19 : decode cX9_takeLast 19 = .ok (.aload_n 0, 1) := by decide +kernel
theorem dX9_takeLast_20 : decode cX9_takeLast 20 = .ok (.invokevirtual 57, 3) := by decide +kernel
theorem dX9_takeLast_23 : decode cX9_takeLast 23 = .ok (.aload_n 0, 1) := by decide +kernel
theorem dX9_takeLast_24 : decode cX9_takeLast 24 = .ok (.getfield 16, 3) := by decide +kernel
theorem dX9_takeLast_27 : decode cX9_takeLast 27 = .ok (.aload_n 0, 1) := by decide +kernel
theorem dX9_takeLast_28 : decode cX9_takeLast 28 = .ok (.getfield 42, 3) := by decide +kernel
theorem dX9_takeLast_31 : decode cX9_takeLast 31 = .ok (.iaload, 1) := by decide +kernel
theorem dX9_takeLast_32 : decode cX9_takeLast 32 = .ok (.ireturn, 1) := by decide +kernel
