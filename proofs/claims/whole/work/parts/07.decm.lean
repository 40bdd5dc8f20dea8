theorem dX11_areAlikeBut_0 : decode cX11_areAlikeBut 0 = .ok (.iconst 0, 1) := by decide +kernel
theorem dX11_areAlikeBut_1 : decode cX11_areAlikeBut 1 = .ok (.istore 5, 2) := by decide +kernel
theorem dX11_areAlikeBut_3 : decode cX11_areAlikeBut 3 = .ok (.iload 5, 2) := by decide +kernel
theorem dX11_areAlikeBut_5 : decode cX11_areAlikeBut 5 = .ok (.aload_n 0, 1) := by decide +kernel
theorem dX11_areAlikeBut_6 : decode cX11_areAlikeBut 6 = .ok (.getfield 7, 3) := by decide +kernel
theorem dX11_areAlikeBut_9 : decode cX11_areAlikeBut 9 = .ok (.iload_n 1, 1) := by decide +kernel
theorem dX11_areAlikeBut_10 : decode cX11_areAlikeBut 10 = .ok (.iaload, 1) := by decide +kernel
theorem dX11_areAlikeBut_11 : decode cX11_areAlikeBut 11 = .ok (.if_icmp .ge 43, 3) := by decide +kernel
theorem dX11_areAlikeBut_14 : decode cX11_areAlikeBut 14 = .ok (.iload 5, 2) := by decide +kernel
theorem dX11_areAlikeBut_16 : decode cX11_areAlikeBut 16 = .ok (.iload_n 3, 1) := by decide +kernel
theorem dX11_areAlikeBut_17 : decode cX11_areAlikeBut 17 = .ok (.if_icmp .lt 12, 3) := by decide +kernel
theorem dX11_areAlikeBut_20 : decode cX11_areAlikeBut 20 = .ok (.iload 5, 2) := by decide +kernel
theorem dX11_areAlikeBut_22 : decode cX11_areAlikeBut 22 = .ok (.iload_n 3, 1) := by decide +kernel
theorem dX11_areAlikeBut_23 : decode cX11_areAlikeBut 23 = .ok (.iload 4, 2) := by decide +kernel
theorem dX11_areAlikeBut_25 : decode cX11_areAlikeBut 25 = .ok (.iadd, 1) := by decide +kernel
theorem dX11_areAlikeBut_26 : decode cX11_areAlikeBut 26 = .ok (.if_icmp .lt 22, 3) := by decide +kernel
theorem dX11_areAlikeBut_29 : decode cX11_areAlikeBut 29 = .ok (.aload_n 0, 1) := by decide +kernel
theorem dX11_areAlikeBut_30 : decode cX11_areAlikeBut 30 = .ok (.iload_n 1, 1) := by decide +kernel
theorem dX11_areAlikeBut_31 : decode cX11_areAlikeBut 31 = .ok (.iload 5, 2) := by decide +kernel
theorem dX11_areAlikeBut_33 : decode cX11_areAlikeBut 33 = .ok (.invokevirtual 262, 3) := by decide +kernel
theorem dX11_areAlikeBut_36 : decode cX11_areAlikeBut 36 = .ok (.aload_n 0, 1) := by decide +kernel
theorem dX11_areAlikeBut_37 : decode cX11_areAlikeBut 37 = .ok (.iload_n 2, 1) := by decide +kernel
theorem dX11_areAlikeBut_38 : decode cX11_areAlikeBut 38 = .ok (.iload 5, 2) := by decide +kernel
theorem dX11_areAlikeBut_40 : decode cX11_areAlikeBut 40 = .ok (.invokevirtual 262, 3) := by decide +kernel
theorem dX11_areAlikeBut_43 : decode cX11_areAlikeBut 43 = .ok (.if_icmp .eq 5, 3) := by decide +kernel
theorem dX11_areAlikeBut_46 : decode cX11_areAlikeBut 46 = .ok (.iconst 0, 1) := by decide +kernel
theorem dX11_areAlikeBut_47 : decode cX11_areAlikeBut 47 = .ok (.ireturn, 1) := by decide +kernel
theorem dX11_areAlikeBut_48 : decode cX11_areAlikeBut 48 = .ok (.iinc 5 1, 3) := by decide +kernel
theorem dX11_areAlikeBut_51 : decode cX11_areAlikeBut 51 = .ok (.goto (-48), 3) := by decide +kernel
theorem dX11_areAlikeBut_54 : decode cX11_areAlikeBut 54 = .ok (.iconst 1, 1) := by decide +kernel
theorem dX11_areAlikeBut_55 : decode cX11_areAlikeBut 55 = .ok (.ireturn, 1) := by decide +kernel
theorem dX11_areUsed_0 : decode cX11_areUsed 0 = .ok (.iconst 0, 1) := by decide +kernel
theorem dX11_areUsed_1 : decode cX11_areUsed 1 = .ok (.istore_n 2, 1) := by decide +kernel
theorem dX11_areUsed_2 : decode cX11_areUsed 2 = .ok (.iload_n 2, 1) := by decide +kernel
theorem dX11_areUsed_3 : decode cX11_areUsed 3 = .ok (.iload_n 1, 1) := by decide +kernel
theorem dX11_areUsed_4 : decode cX11_areUsed 4 = .ok (.if_icmp .ge 24, 3) := by decide +kernel
theorem dX11_areUsed_7 : decode cX11_areUsed 7 = .ok (.aload_n 0, 1) := by decide +kernel
theorem dX11_areUsed_8 : decode cX11_areUsed 8 = .ok (.aload_n 0, 1) := by decide +kernel
theorem dX11_areUsed_9 : decode cX11_areUsed 9 = .ok (.getfield 103, 3) := by decide +kernel
theorem dX11_areUsed_12 : decode cX11_areUsed 12 = .ok (.iload_n 2, 1) := by decide +kernel
theorem dX11_areUsed_13 : decode cX11_areUsed 13 = .ok (.iaload, 1) := by decide +kernel
theorem dX11_areUsed_14 : decode cX11_areUsed 14 = .ok (.invokevirtual 282, 3) := by decide +kernel
theorem dX11_areUsed_17 : decode cX11_areUsed 17 = .ok (.ifCond .ne 5, 3) := by decide +kernel
theorem dX11_areUsed_20 : decode cX11_areUsed 20 = .ok (.iconst 0, 1) := by decide +kernel
theorem dX11_areUsed_21 : decode cX11_areUsed 21 = .ok (.ireturn, 1) := by decide +kernel
theorem dX11_areUsed_22 : decode cX11_areUsed 22 = .ok (.iinc 2 1, 3) := by decide +kernel
theorem dX11_areUsed_25 : decode cX11_areUsed 25 = .ok (.goto (-23), 3) := by decide +kernel
theorem dX11_areUsed_28 : decode cX11_areUsed 28 = .ok (.iconst 1, 1) := by decide +kernel
theorem dX11_areUsed_29 : decode cX11_areUsed 29 = .ok (.ireturn, 1) := by decide +kernel
theorem dX11_bar_0 : decode cX11_bar 0 = .ok (.aload_n 0, 1) := by decide +kernel
theorem dX11_bar_1 : decode cX11_bar 1 = .ok (.iload_n 1, 1) := by decide +kernel
theorem dX11_bar_2 : decode cX11_bar 2 = .ok (.invokevirtual 154, 3) := by decide +kernel
theorem dX11_bar_5 : decode cX11_bar 5 = .ok (.ifCond .eq 13, 3) := by decide +kernel
theorem dX11_bar_8 : decode cX11_bar 8 = .ok (.aload_n 0, 1) := by decide +kernel
theorem dX11_bar_9 : decode cX11_bar 9 = .ok (.getfield 22, 3) := by decide +kernel
theorem dX11_bar_12 : decode cX11_bar 12 = .ok (.iload_n 1, 1) := by decide +kernel
theorem dX11_bar_13 : decode cX11_bar 13 = .ok (.baload, 1) := by decide +kernel
theorem dX11_bar_14 : decode cX11_bar 14 = .ok (.iload_n 2, 1) := by decide +kernel
theorem dX11_bar_15 : decode cX11_bar 15 = .ok (.if_icmp .ne 5, 3) := by decide +kernel
theorem dX11_bar_18 : decode cX11_bar 18 = .ok (.iconst 0, 1) := by decide +kernel
theorem dX11_bar_19 : decode cX11_bar 19 = .ok (.ireturn, 1) := by decide +kernel
theorem dX11_bar_20 : decode cX11_bar 20 = .ok (.aload_n 0, 1) := by decide +kernel
theorem dX11_bar_21 : decode cX11_bar 21 = .ok (.getfield 22, 3) := by decide +kernel
theorem dX11_bar_24 : decode cX11_bar 24 = .ok (.iload_n 1, 1) := by decide +kernel
theorem dX11_bar_25 : decode cX11_bar 25 = .ok (.iload_n 2, 1) := by decide +kernel
theorem dX11_bar_26 : decode cX11_bar 26 = .ok (.bastore, 1) := by decide +kernel
theorem dX11_bar_27 : decode cX11_bar 27 = .ok (.iconst 1, 1) := by decide +kernel
theorem dX11_bar_28 : decode cX11_bar 28 = .ok (.ireturn, 1) := by decide +kernel
theorem dX11_between_0 : decode cX11_between 0 = .ok (.iload_n 1, 1) := by decide +kernel
theorem dX11_between_1 : decode cX11_between 1 = .ok (.iconst 0, 1) := by decide +kernel
theorem dX11_between_2 : decode cX11_between 2 = .ok (.iconst 1, 1) := by decide +kernel
theorem dX11_between_3 : decode cX11_between 3 = .ok (.invokestatic 139, 3) := by decide +kernel
theorem dX11_between_6 : decode cX11_between 6 = .ok (.ifCond .ne 5, 3) := by decide +kernel
theorem dX11_between_9 : decode cX11_between 9 = .ok (.iconst (-1), 1) := by decide +kernel
theorem dX11_between_10 : decode cX11_between 10 = .ok (.ireturn, 1) := by decide +kernel
theorem dX11_between_11 : decode cX11_between 11 = .ok (.aload_n 0, 1) := by decide +kernel
theorem dX11_between_12 : decode cX11_between 12 = .ok (.invokevirtual 306, 3) := by decide +kernel
theorem dX11_between_15 : decode cX11_between 15 = .ok (.bipush (-2), 2) := by decide +kernel
theorem dX11_between_17 : decode cX11_between 17 = .ok (.istore_n 2, 1) := by decide +kernel
theorem dX11_between_18 : decode cX11_between 18 = .ok (.bipush (-2), 2) := by decide +kernel
theorem dX11_between_20 : decode cX11_between 20 = .ok (.istore_n 3, 1) := by decide +kernel
theorem dX11_between_21 : decode cX11_between 21 = .ok (.iconst 0, 1) := by decide +kernel
theorem dX11_between_22 : decode cX11_between 22 = .ok (.istore 4, 2) := by decide +kernel
theorem dX11_between_24 : decode cX11_between 24 = .ok (.iload 4, 2) := by decide +kernel
theorem dX11_between_26 : decode cX11_between 26 = .ok (.aload_n 0, 1) := by decide +kernel
theorem dX11_between_27 : decode cX11_between 27 = .ok (.getfield 130, 3) := by decide +kernel
theorem dX11_between_30 : decode cX11_between 30 = .ok (.if_icmp .ge 50, 3) := by decide +kernel
theorem dX11_between_33 : decode cX11_between 33 = .ok (.aload_n 0, 1) := by decide +kernel
theorem dX11_between_34 : decode cX11_between 34 = .ok (.iload 4, 2) := by decide +kernel
theorem dX11_between_36 : decode cX11_between 36 = .ok (.invokevirtual 282, 3) := by decide +kernel
theorem dX11_between_39 : decode cX11_between 39 = .ok (.ifCond .ne 6, 3) := by decide +kernel
theorem dX11_between_42 : decode cX11_between 42 = .ok (.goto 32, 3) := by decide +kernel
theorem dX11_between_45 : decode cX11_between 45 = .ok (.aload_n 0, 1) := by decide +kernel
theorem dX11_between_46 : decode cX11_between 46 = .ok (.iload 4, 2) := by decide +kernel
theorem dX11_between_48 : decode cX11_between 48 = .ok (.invokevirtual 329, 3) := by decide +kernel
theorem dX11_between_51 : decode cX11_between 51 = .ok (.istore 5, 2) := by decide +kernel
theorem dX11_between_53 : decode cX11_between 53 = .ok (.iload_n 2, 1) := by decide +kernel
theorem dX11_between_54 : decode cX11_between 54 = .ok (.bipush (-2), 2) := by decide +kernel
theorem dX11_between_56 : decode cX11_between 56 = .ok (.if_icmp .eq 12, 3) := by decide +kernel
theorem dX11_between_59 : decode cX11_between 59 = .ok (.iload 5, 2) := by decide +kernel
theorem dX11_between_61 : decode cX11_between 61 = .ok (.iload_n 3, 1) := by decide +kernel
theorem dX11_between_62 : decode cX11_between 62 = .ok (.if_icmp .gt 6, 3) := by decide +kernel
theorem dX11_between_65 : decode cX11_between 65 = .ok (.goto 9, 3) := by decide +kernel
theorem dX11_between_68 : decode cX11_between 68 = .ok (.iload 4, 2) := by decide +kernel
theorem dX11_between_70 : decode cX11_between 70 = .ok (.istore_n 2, 1) := by decide +kernel
theorem dX11_between_71 : decode cX11_between 71 = .ok (.iload 5, 2) := by decide +kernel
theorem dX11_between_73 : decode cX11_between 73 = .ok (.istore_n 3, 1) := by decide +kernel
theorem dX11_between_74 : decode cX11_between 74 = .ok (.iinc 4 1, 3) := by decide +kernel
theorem dX11_between_77 : decode cX11_between 77 = .ok (.goto (-53), 3) := by decide +kernel
theorem dX11_between_80 : decode cX11_between 80 = .ok (.iload_n 1, 1) := by decide +kernel
theorem dX11_between_81 : decode cX11_between 81 = .ok (.ifCond .ne 7, 3) := by decide +kernel
theorem dX11_between_84 : decode cX11_between 84 = .ok (.iload_n 2, 1) := by decide +kernel
theorem dX11_between_85 : decode cX11_between 85 = .ok (.goto 4, 3) := by decide +kernel
theorem dX11_between_88 : decode cX11_between 88 = .ok (.iload_n 3, 1) := by decide +kernel
theorem dX11_between_89 : decode cX11_between 89 = .ok (.ireturn, 1) := by decide +kernel
theorem dX11_bits_0 : decode cX11_bits 0 = .ok (.iconst 0, 1) := by decide +kernel
theorem dX11_bits_1 : decode cX11_bits 1 = .ok (.istore_n 1, 1) := by decide +kernel
theorem dX11_bits_2 : decode cX11_bits 2 = .ok (.iconst 0, 1) := by decide +kernel
theorem dX11_bits_3 : decode cX11_bits 3 = .ok (.istore_n 2, 1) := by decide +kernel
theorem dX11_bits_4 : decode cX11_bits 4 = .ok (.iload_n 2, 1) := by decide +kernel
theorem dX11_bits_5 : decode cX11_bits 5 = .ok (.bipush 14, 2) := by decide +kernel
theorem dX11_bits_7 : decode cX11_bits 7 = .ok (.if_icmp .ge 17, 3) := by decide +kernel
theorem dX11_bits_10 : decode cX11_bits 10 = .ok (.iload_n 1, 1) := by decide +kernel
theorem dX11_bits_11 : decode cX11_bits 11 = .ok (.iload_n 0, 1) := by decide +kernel
theorem dX11_bits_12 : decode cX11_bits 12 = .ok (.iload_n 2, 1) := by decide +kernel
theorem dX11_bits_13 : decode cX11_bits 13 = .ok (.ishr, 1) := by decide +kernel
theorem dX11_bits_14 : decode cX11_bits 14 = .ok (.iconst 1, 1) := by decide +kernel
theorem dX11_bits_15 : decode cX11_bits 15 = .ok (.iand, 1) := by decide +kernel
theorem dX11_bits_16 : decode cX11_bits 16 = .ok (.iadd, 1) := by decide +kernel
theorem dX11_bits_17 : decode cX11_bits 17 = .ok (.istore_n 1, 1) := by decide +kernel
theorem dX11_bits_18 : decode cX11_bits 18 = .ok (.iinc 2 1, 3) := by decide +kernel
theorem dX11_bits_21 : decode cX11_bits 21 = .ok (.goto (-17), 3) := by decide +kernel
theorem dX11_bits_24 : decode cX11_bits 24 = .ok (.iload_n 1, 1) := by decide +kernel
theorem dX11_bits_25 : decode cX11_bits 25 = .ok (.ireturn, 1) := by decide +kernel
theorem dX11_canColumn_0 : decode cX11_canColumn 0 = .ok (.iconst 0, 1) := by decide +kernel
theorem dX11_canColumn_1 : decode cX11_canColumn 1 = .ok (.istore 4, 2) := by decide +kernel
theorem dX11_canColumn_3 : decode cX11_canColumn 3 = .ok (.iload 4, 2) := by decide +kernel
theorem dX11_canColumn_5 : decode cX11_canColumn 5 = .ok (.aload_n 0, 1) := by decide +kernel
theorem dX11_canColumn_6 : decode cX11_canColumn 6 = .ok (.getfield 130, 3) := by decide +kernel
theorem dX11_canColumn_9 : decode cX11_canColumn 9 = .ok (.if_icmp .ge 75, 3) := by decide +kernel
theorem dX11_canColumn_12 : decode cX11_canColumn 12 = .ok (.aload_n 0, 1) := by decide +kernel
theorem dX11_canColumn_13 : decode cX11_canColumn 13 = .ok (.iload 4, 2) := by decide +kernel
theorem dX11_canColumn_15 : decode cX11_canColumn 15 = .ok (.iload_n 1, 1) := by decide +kernel
theorem dX11_canColumn_16 : decode cX11_canColumn 16 = .ok (.invokevirtual 404, 3) := by decide +kernel
theorem dX11_canColumn_19 : decode cX11_canColumn 19 = .ok (.istore 5, 2) := by decide +kernel
theorem dX11_canColumn_21 : decode cX11_canColumn 21 = .ok (.iconst 0, 1) := by decide +kernel
theorem dX11_canColumn_22 : decode cX11_canColumn 22 = .ok (.istore 6, 2) := by decide +kernel
theorem dX11_canColumn_24 : decode cX11_canColumn 24 = .ok (.iload 6, 2) := by decide +kernel
theorem dX11_canColumn_26 : decode cX11_canColumn 26 = .ok (.iload_n 3, 1) := by decide +kernel
theorem dX11_canColumn_27 : decode cX11_canColumn 27 = .ok (.if_icmp .ge 44, 3) := by decide +kernel
theorem dX11_canColumn_30 : decode cX11_canColumn 30 = .ok (.iload 5, 2) := by decide +kernel
theorem dX11_canColumn_32 : decode cX11_canColumn 32 = .ok (.ifCond .eq 39, 3) := by decide +kernel
theorem dX11_canColumn_35 : decode cX11_canColumn 35 = .ok (.aload_n 0, 1) := by decide +kernel
theorem dX11_canColumn_36 : decode cX11_canColumn 36 = .ok (.iload 4, 2) := by decide +kernel
theorem dX11_canColumn_38 : decode cX11_canColumn 38 = .ok (.iload 6, 2) := by decide +kernel
theorem dX11_canColumn_40 : decode cX11_canColumn 40 = .ok (.invokevirtual 262, 3) := by decide +kernel
theorem dX11_canColumn_43 : decode cX11_canColumn 43 = .ok (.aload_n 0, 1) := by decide +kernel
theorem dX11_canColumn_44 : decode cX11_canColumn 44 = .ok (.aload_n 0, 1) := by decide +kernel
theorem dX11_canColumn_45 : decode cX11_canColumn 45 = .ok (.getfield 116, 3) := by decide +kernel
theorem dX11_canColumn_48 : decode cX11_canColumn 48 = .ok (.iload 6, 2) := by decide +kernel
theorem dX11_canColumn_50 : decode cX11_canColumn 50 = .ok (.iaload, 1) := by decide +kernel
theorem dX11_canColumn_51 : decode cX11_canColumn 51 = .ok (.iload_n 2, 1) := by decide +kernel
theorem dX11_canColumn_52 : decode cX11_canColumn 52 = .ok (.invokevirtual 262, 3) := by decide +kernel
theorem dX11_canColumn_55 : decode cX11_canColumn 55 = .ok (.if_icmp .ne 7, 3) := by decide +kernel
theorem dX11_canColumn_58 : decode cX11_canColumn 58 = .ok (.iconst 1, 1) := by decide +kernel
theorem dX11_canColumn_59 : decode cX11_canColumn 59 = .ok (.goto 4, 3) := by decide +kernel
theorem dX11_canColumn_62 : decode cX11_canColumn 62 = .ok (.iconst 0, 1) := by decide +kernel
theorem dX11_canColumn_63 : decode cX11_canColumn 63 = .ok (.istore 5, 2) := by decide +kernel
theorem dX11_canColumn_65 : decode cX11_canColumn 65 = .ok (.iinc 6 1, 3) := by decide +kernel
theorem dX11_canColumn_68 : decode cX11_canColumn 68 = .ok (.goto (-44), 3) := by decide +kernel
theorem dX11_canColumn_71 : decode cX11_canColumn 71 = .ok (.iload 5, 2) := by decide +kernel
theorem dX11_canColumn_73 : decode cX11_canColumn 73 = .ok (.ifCond .eq 5, 3) := by decide +kernel
theorem dX11_canColumn_76 : decode cX11_canColumn 76 = .ok (.iconst 1, 1) := by decide +kernel
theorem dX11_canColumn_77 : decode cX11_canColumn 77 = .ok (.ireturn, 1) := by decide +kernel
theorem dX11_canColumn_78 : decode cX11_canColumn 78 = .ok (.iinc 4 1, 3) := by decide +kernel
theorem dX11_canColumn_81 : decode cX11_canColumn 81 = .ok (.goto (-78), 3) := by decide +kernel
theorem dX11_canColumn_84 : decode cX11_canColumn 84 = .ok (.iconst 0, 1) := by decide +kernel
theorem dX11_canColumn_85 : decode cX11_canColumn 85 = .ok (.ireturn, 1) := by decide +kernel
theorem dX11_canRows_0 : decode cX11_canRows 0 = .ok (.iconst 0, 1) := by decide +kernel
theorem dX11_canRows_1 : decode cX11_canRows 1 = .ok (.istore_n 3, 1) := by decide +kernel
theorem dX11_canRows_2 : decode cX11_canRows 2 = .ok (.iload_n 3, 1) := by decide +kernel
theorem dX11_canRows_3 : decode cX11_canRows 3 = .ok (.iload_n 1, 1) := by decide +kernel
theorem dX11_canRows_4 : decode cX11_canRows 4 = .ok (.if_icmp .ge 21, 3) := by decide +kernel
theorem dX11_canRows_7 : decode cX11_canRows 7 = .ok (.aload_n 0, 1) := by decide +kernel
theorem dX11_canRows_8 : decode cX11_canRows 8 = .ok (.iload_n 1, 1) := by decide +kernel
theorem dX11_canRows_9 : decode cX11_canRows 9 = .ok (.iload_n 3, 1) := by decide +kernel
theorem dX11_canRows_10 : decode cX11_canRows 10 = .ok (.iload_n 2, 1) := by decide +kernel
theorem dX11_canRows_11 : decode cX11_canRows 11 = .ok (.invokevirtual 407, 3) := by decide +kernel
theorem dX11_canRows_14 : decode cX11_canRows 14 = .ok (.ifCond .ne 5, 3) := by decide +kernel
theorem dX11_canRows_17 : decode cX11_canRows 17 = .ok (.iconst 0, 1) := by decide +kernel
theorem dX11_canRows_18 : decode cX11_canRows 18 = .ok (.ireturn, 1) := by decide +kernel
theorem dX11_canRows_19 : decode cX11_canRows 19 = .ok (.iinc 3 1, 3) := by decide +kernel
theorem dX11_canRows_22 : decode cX11_canRows 22 = .ok (.goto (-20), 3) := by decide +kernel
theorem dX11_canRows_25 : decode cX11_canRows 25 = .ok (.iconst 1, 1) := by decide +kernel
theorem dX11_canRows_26 : decode cX11_canRows 26 = .ok (.ireturn, 1) := by decide +kernel
theorem dX11_check_0 : decode cX11_check 0 = .ok (.aload_n 0, 1) := by decide +kernel
theorem dX11_check_1 : decode cX11_check 1 = .ok (.iload_n 1, 1) := by decide +kernel
theorem dX11_check_2 : decode cX11_check 2 = .ok (.invokevirtual 154, 3) := by decide +kernel
theorem dX11_check_5 : decode cX11_check 5 = .ok (.ifCond .eq 23, 3) := by decide +kernel
theorem dX11_check_8 : decode cX11_check 8 = .ok (.iload_n 2, 1) := by decide +kernel
theorem dX11_check_9 : decode cX11_check 9 = .ok (.iconst 0, 1) := by decide +kernel
theorem dX11_check_10 : decode cX11_check 10 = .ok (.bipush 8, 2) := by decide +kernel
theorem dX11_check_12 : decode cX11_check 12 = .ok (.invokestatic 139, 3) := by decide +kernel
theorem dX11_check_15 : decode cX11_check 15 = .ok (.ifCond .eq 13, 3) := by decide +kernel
theorem dX11_check_18 : decode cX11_check 18 = .ok (.iload_n 2, 1) := by decide +kernel
theorem dX11_check_19 : decode cX11_check 19 = .ok (.aload_n 0, 1) := by decide +kernel
theorem dX11_check_20 : decode cX11_check 20 = .ok (.getfield 133, 3) := by decide +kernel
theorem dX11_check_23 : decode cX11_check 23 = .ok (.iconst 4, 1) := by decide +kernel
theorem dX11_check_24 : decode cX11_check 24 = .ok (.idiv, 1) := by decide +kernel
theorem dX11_check_25 : decode cX11_check 25 = .ok (.if_icmp .le 6, 3) := by decide +kernel
theorem dX11_check_28 : decode cX11_check 28 = .ok (.bipush (-2), 2) := by decide +kernel
theorem dX11_check_30 : decode cX11_check 30 = .ok (.ireturn, 1) := by decide +kernel
theorem dX11_check_31 : decode cX11_check 31 = .ok (.aload_n 0, 1) := by decide +kernel
theorem dX11_check_32 : decode cX11_check 32 = .ok (.iconst 0, 1) := by decide +kernel
theorem dX11_check_33 : decode cX11_check 33 = .ok (.putfield 133, 3) := by decide +kernel
theorem dX11_check_36 : decode cX11_check 36 = .ok (.iconst 0, 1) := by decide +kernel
theorem dX11_check_37 : decode cX11_check 37 = .ok (.istore_n 3, 1) := by decide +kernel
theorem dX11_check_38 : decode cX11_check 38 = .ok (.iload_n 3, 1) := by decide +kernel
theorem dX11_check_39 : decode cX11_check 39 = .ok (.aload_n 0, 1) := by decide +kernel
theorem dX11_check_40 : decode cX11_check 40 = .ok (.getfield 7, 3) := by decide +kernel
theorem dX11_check_43 : decode cX11_check 43 = .ok (.iload_n 1, 1) := by decide +kernel
theorem dX11_check_44 : decode cX11_check 44 = .ok (.iaload, 1) := by decide +kernel
theorem dX11_check_45 : decode cX11_check 45 = .ok (.if_icmp .ge 30, 3) := by decide +kernel
theorem dX11_check_48 : decode cX11_check 48 = .ok (.iload_n 3, 1) := by decide +kernel
theorem dX11_check_49 : decode cX11_check 49 = .ok (.iload_n 2, 1) := by decide +kernel
theorem dX11_check_50 : decode cX11_check 50 = .ok (.if_icmp .eq 17, 3) := by decide +kernel
theorem dX11_check_53 : decode cX11_check 53 = .ok (.aload_n 0, 1) := by decide +kernel
theorem dX11_check_54 : decode cX11_check 54 = .ok (.iload_n 3, 1) := by decide +kernel
theorem dX11_check_55 : decode cX11_check 55 = .ok (.invokevirtual 427, 3) := by decide +kernel
theorem dX11_check_58 : decode cX11_check 58 = .ok (.aload_n 0, 1) := by decide +kernel
theorem dX11_check_59 : decode cX11_check 59 = .ok (.iload_n 1, 1) := by decide +kernel
theorem dX11_check_60 : decode cX11_check 60 = .ok (.iload_n 3, 1) := by decide +kernel
theorem dX11_check_61 : decode cX11_check 61 = .ok (.invokevirtual 262, 3) := by decide +kernel
theorem dX11_check_64 : decode cX11_check 64 = .ok (.if_icmp .eq 5, 3) := by decide +kernel
theorem dX11_check_67 : decode cX11_check 67 = .ok (.iload_n 3, 1) := by decide +kernel
theorem dX11_check_68 : decode cX11_check 68 = .ok (.ireturn, 1) := by decide +kernel
theorem dX11_check_69 : decode cX11_check 69 = .ok (.iinc 3 1, 3) := by decide +kernel
theorem dX11_check_72 : decode cX11_check 72 = .ok (.goto (-34), 3) := by decide +kernel
theorem dX11_check_75 : decode cX11_check 75 = .ok (.aload_n 0, 1) := by decide +kernel
theorem dX11_check_76 : decode cX11_check 76 = .ok (.getfield 7, 3) := by decide +kernel
theorem dX11_check_79 : decode cX11_check 79 = .ok (.iload_n 1, 1) := by decide +kernel
theorem dX11_check_80 : decode cX11_check 80 = .ok (.iaload, 1) := by decide +kernel
theorem dX11_check_81 : decode cX11_check 81 = .ok (.iload_n 2, 1) := by decide +kernel
theorem dX11_check_82 : decode cX11_check 82 = .ok (.if_icmp .ge 12, 3) := by decide +kernel
theorem dX11_check_85 : decode cX11_check 85 = .ok (.aload_n 0, 1) := by decide +kernel
theorem dX11_check_86 : decode cX11_check 86 = .ok (.getfield 7, 3) := by decide +kernel
theorem dX11_check_89 : decode cX11_check 89 = .ok (.iload_n 1, 1) := by decide +kernel
theorem dX11_check_90 : decode cX11_check 90 = .ok (.iaload, 1) := by decide +kernel
theorem dX11_check_91 : decode cX11_check 91 = .ok (.goto 4, 3) := by decide +kernel
theorem dX11_check_94 : decode cX11_check 94 = .ok (.iconst (-1), 1) := by decide +kernel
theorem dX11_check_95 : decode cX11_check 95 = .ok (.ireturn, 1) := by decide +kernel
theorem dX11_clear_0 : decode cX11_clear 0 = .ok (.iload_n 1, 1) := by decide +kernel
theorem dX11_clear_1 : decode cX11_clear 1 = .ok (.iconst 1, 1) := by decide +kernel
theorem dX11_clear_2 : decode cX11_clear 2 = .ok (.bipush 14, 2) := by decide +kernel
theorem dX11_clear_4 : decode cX11_clear 4 = .ok (.invokestatic 139, 3) := by decide +kernel
theorem dX11_clear_7 : decode cX11_clear 7 = .ok (.ifCond .eq 30, 3) := by decide +kernel
theorem dX11_clear_10 : decode cX11_clear 10 = .ok (.iload_n 2, 1) := by decide +kernel
theorem dX11_clear_11 : decode cX11_clear 11 = .ok (.iconst 1, 1) := by decide +kernel
theorem dX11_clear_12 : decode cX11_clear 12 = .ok (.bipush 9, 2) := by decide +kernel
theorem dX11_clear_14 : decode cX11_clear 14 = .ok (.invokestatic 139, 3) := by decide +kernel
theorem dX11_clear_17 : decode cX11_clear 17 = .ok (.ifCond .eq 20, 3) := by decide +kernel
theorem dX11_clear_20 : decode cX11_clear 20 = .ok (.iload_n 3, 1) := by decide +kernel
theorem dX11_clear_21 : decode cX11_clear 21 = .ok (.iconst 0, 1) := by decide +kernel
theorem dX11_clear_22 : decode cX11_clear 22 = .ok (.iconst 1, 1) := by decide +kernel
theorem dX11_clear_23 : decode cX11_clear 23 = .ok (.invokestatic 139, 3) := by decide +kernel
theorem dX11_clear_26 : decode cX11_clear 26 = .ok (.ifCond .eq 11, 3) := by decide +kernel
theorem dX11_clear_29 : decode cX11_clear 29 = .ok (.iload_n 1, 1) := by decide +kernel
theorem dX11_clear_30 : decode cX11_clear 30 = .ok (.aload_n 0, 1) := by decide +kernel
theorem dX11_clear_31 : decode cX11_clear 31 = .ok (.getfield 133, 3) := by decide +kernel
theorem dX11_clear_34 : decode cX11_clear 34 = .ok (.if_icmp .le 5, 3) := by decide +kernel
theorem dX11_clear_37 : decode cX11_clear 37 = .ok (.iconst (-1), 1) := by decide +kernel
theorem dX11_clear_38 : decode cX11_clear 38 = .ok (.ireturn, 1) := by decide +kernel
theorem dX11_clear_39 : decode cX11_clear 39 = .ok (.aload_n 0, 1) := by decide +kernel
theorem dX11_clear_40 : decode cX11_clear 40 = .ok (.iload_n 1, 1) := by decide +kernel
theorem dX11_clear_41 : decode cX11_clear 41 = .ok (.invokevirtual 377, 3) := by decide +kernel
theorem dX11_clear_44 : decode cX11_clear 44 = .ok (.ifCond .ne 6, 3) := by decide +kernel
theorem dX11_clear_47 : decode cX11_clear 47 = .ok (.bipush (-3), 2) := by decide +kernel
theorem dX11_clear_49 : decode cX11_clear 49 = .ok (.ireturn, 1) := by decide +kernel
theorem dX11_clear_50 : decode cX11_clear 50 = .ok (.iconst 0, 1) := by decide +kernel
theorem dX11_clear_51 : decode cX11_clear 51 = .ok (.istore 4, 2) := by decide +kernel
theorem dX11_clear_53 : decode cX11_clear 53 = .ok (.iload 4, 2) := by decide +kernel
theorem dX11_clear_55 : decode cX11_clear 55 = .ok (.iload_n 1, 1) := by decide +kernel
theorem dX11_clear_56 : decode cX11_clear 56 = .ok (.if_icmp .ge 80, 3) := by decide +kernel
theorem dX11_clear_59 : decode cX11_clear 59 = .ok (.aload_n 0, 1) := by decide +kernel
theorem dX11_clear_60 : decode cX11_clear 60 = .ok (.getfield 113, 3) := by decide +kernel
theorem dX11_clear_63 : decode cX11_clear 63 = .ok (.iload 4, 2) := by decide +kernel
theorem dX11_clear_65 : decode cX11_clear 65 = .ok (.iconst 0, 1) := by decide +kernel
theorem dX11_clear_66 : decode cX11_clear 66 = .ok (.iastore, 1) := by decide +kernel
theorem dX11_clear_67 : decode cX11_clear 67 = .ok (.iconst 0, 1) := by decide +kernel
theorem dX11_clear_68 : decode cX11_clear 68 = .ok (.istore 5, 2) := by decide +kernel
theorem dX11_clear_70 : decode cX11_clear 70 = .ok (.iload 5, 2) := by decide +kernel
theorem dX11_clear_72 : decode cX11_clear 72 = .ok (.iload_n 1, 1) := by decide +kernel
theorem dX11_clear_73 : decode cX11_clear 73 = .ok (.if_icmp .ge 57, 3) := by decide +kernel
theorem dX11_clear_76 : decode cX11_clear 76 = .ok (.iload 5, 2) := by decide +kernel
theorem dX11_clear_78 : decode cX11_clear 78 = .ok (.iload 4, 2) := by decide +kernel
theorem dX11_clear_80 : decode cX11_clear 80 = .ok (.if_icmp .eq 44, 3) := by decide +kernel
theorem dX11_clear_83 : decode cX11_clear 83 = .ok (.aload_n 0, 1) := by decide +kernel
theorem dX11_clear_84 : decode cX11_clear 84 = .ok (.aload_n 0, 1) := by decide +kernel
theorem dX11_clear_85 : decode cX11_clear 85 = .ok (.getfield 103, 3) := by decide +kernel
theorem dX11_clear_88 : decode cX11_clear 88 = .ok (.iload 4, 2) := by decide +kernel
theorem dX11_clear_90 : decode cX11_clear 90 = .ok (.iaload, 1) := by decide +kernel
theorem dX11_clear_91 : decode cX11_clear 91 = .ok (.aload_n 0, 1) := by decide +kernel
theorem dX11_clear_92 : decode cX11_clear 92 = .ok (.getfield 103, 3) := by decide +kernel
theorem dX11_clear_95 : decode cX11_clear 95 = .ok (.iload 5, 2) := by decide +kernel
theorem dX11_clear_97 : decode cX11_clear 97 = .ok (.iaload, 1) := by decide +kernel
theorem dX11_clear_98 : decode cX11_clear 98 = .ok (.invokevirtual 392, 3) := by decide +kernel
theorem dX11_clear_101 : decode cX11_clear 101 = .ok (.iload_n 2, 1) := by decide +kernel
theorem dX11_clear_102 : decode cX11_clear 102 = .ok (.if_icmp .ge 22, 3) := by decide +kernel
theorem dX11_clear_105 : decode cX11_clear 105 = .ok (.aload_n 0, 1) := by decide +kernel
theorem dX11_clear_106 : decode cX11_clear 106 = .ok (.getfield 113, 3) := by decide +kernel
theorem dX11_clear_109 : decode cX11_clear 109 = .ok (.iload 4, 2) := by decide +kernel
theorem dX11_clear_111 : decode cX11_clear 111 = .ok (.aload_n 0, 1) := by decide +kernel
theorem dX11_clear_112 : decode cX11_clear 112 = .ok (.getfield 113, 3) := by decide +kernel
theorem dX11_clear_115 : decode cX11_clear 115 = .ok (.iload 4, 2) := by decide +kernel
theorem dX11_clear_117 : decode cX11_clear 117 = .ok (.iaload, 1) := by decide +kernel
theorem dX11_clear_118 : decode cX11_clear 118 = .ok (.iconst 1, 1) := by decide +kernel
theorem dX11_clear_119 : decode cX11_clear 119 = .ok (.iload 5, 2) := by decide +kernel
theorem dX11_clear_121 : decode cX11_clear 121 = .ok (.ishl, 1) := by decide +kernel
theorem dX11_clear_122 : decode cX11_clear 122 = .ok (.ior, 1) := by decide +kernel
theorem dX11_clear_123 : decode cX11_clear 123 = .ok (.iastore, 1) := by decide +kernel
theorem dX11_clear_124 : decode cX11_clear 124 = .ok (.iinc 5 1, 3) := by decide +kernel
theorem dX11_clear_127 : decode cX11_clear 127 = .ok (.goto (-57), 3) := by decide +kernel
theorem dX11_clear_130 : decode cX11_clear 130 = .ok (.iinc 4 1, 3) := by decide +kernel
theorem dX11_clear_133 : decode cX11_clear 133 = .ok (.goto (-80), 3) := by decide +kernel
theorem dX11_clear_136 : decode cX11_clear 136 = .ok (.iconst 0, 1) := by decide +kernel
theorem dX11_clear_137 : decode cX11_clear 137 = .ok (.istore 4, 2) := by decide +kernel
theorem dX11_clear_139 : decode cX11_clear 139 = .ok (.iconst 1, 1) := by decide +kernel
theorem dX11_clear_140 : decode cX11_clear 140 = .ok (.istore 5, 2) := by decide +kernel
theorem dX11_clear_142 : decode cX11_clear 142 = .ok (.iload 5, 2) := by decide +kernel
theorem dX11_clear_144 : decode cX11_clear 144 = .ok (.iconst 1, 1) := by decide +kernel
theorem dX11_clear_145 : decode cX11_clear 145 = .ok (.iload_n 1, 1) := by decide +kernel
theorem dX11_clear_146 : decode cX11_clear 146 = .ok (.ishl, 1) := by decide +kernel
theorem dX11_clear_147 : decode cX11_clear 147 = .ok (.if_icmp .ge 36, 3) := by decide +kernel
theorem dX11_clear_150 : decode cX11_clear 150 = .ok (.iload 5, 2) := by decide +kernel
theorem dX11_clear_152 : decode cX11_clear 152 = .ok (.invokestatic 395, 3) := by decide +kernel
theorem dX11_clear_155 : decode cX11_clear 155 = .ok (.iload 4, 2) := by decide +kernel
theorem dX11_clear_157 : decode cX11_clear 157 = .ok (.invokestatic 395, 3) := by decide +kernel
theorem dX11_clear_160 : decode cX11_clear 160 = .ok (.if_icmp .le 17, 3) := by decide +kernel
theorem dX11_clear_163 : decode cX11_clear 163 = .ok (.aload_n 0, 1) := by decide +kernel
theorem dX11_clear_164 : decode cX11_clear 164 = .ok (.iload 5, 2) := by decide +kernel
theorem dX11_clear_166 : decode cX11_clear 166 = .ok (.iload_n 1, 1) := by decide +kernel
theorem dX11_clear_167 : decode cX11_clear 167 = .ok (.invokevirtual 398, 3) := by decide +kernel
theorem dX11_clear_170 : decode cX11_clear 170 = .ok (.ifCond .eq 7, 3) := by decide +kernel
theorem dX11_clear_173 : decode cX11_clear 173 = .ok (.iload 5, 2) := by decide +kernel
theorem dX11_clear_175 : decode cX11_clear 175 = .ok (.istore 4, 2) := by decide +kernel
theorem dX11_clear_177 : decode cX11_clear 177 = .ok (.iinc 5 1, 3) := by decide +kernel
theorem dX11_clear_180 : decode cX11_clear 180 = .ok (.goto (-38), 3) := by decide +kernel
theorem dX11_clear_183 : decode cX11_clear 183 = .ok (.iload_n 3, 1) := by decide +kernel
theorem dX11_clear_184 : decode cX11_clear 184 = .ok (.ifCond .ne 11, 3) := by decide +kernel
theorem dX11_clear_187 : decode cX11_clear 187 = .ok (.iload 4, 2) := by decide +kernel
theorem dX11_clear_189 : decode cX11_clear 189 = .ok (.invokestatic 395, 3) := by decide +kernel
theorem dX11_clear_192 : decode cX11_clear 192 = .ok (.goto 5, 3) := by decide +kernel
theorem dX11_clear_195 : decode cX11_clear 195 = .ok (.iload 4, 2) := by decide +kernel
theorem dX11_clear_197 : decode cX11_clear 197 = .ok (.ireturn, 1) := by decide +kernel
theorem dX11_closesSums_0 : decode cX11_closesSums 0 = .ok (.aload_n 0, 1) := by decide +kernel
theorem dX11_closesSums_1 : decode cX11_closesSums 1 = .ok (.invokevirtual 194, 3) := by decide +kernel
theorem dX11_closesSums_4 : decode cX11_closesSums 4 = .ok (.iconst 4, 1) := by decide +kernel
theorem dX11_closesSums_5 : decode cX11_closesSums 5 = .ok (.if_icmp .lt 12, 3) := by decide +kernel
theorem dX11_closesSums_8 : decode cX11_closesSums 8 = .ok (.aload_n 0, 1) := by decide +kernel
theorem dX11_closesSums_9 : decode cX11_closesSums 9 = .ok (.invokevirtual 194, 3) := by decide +kernel
theorem dX11_closesSums_12 : decode cX11_closesSums 12 = .ok (.bipush 6, 2) := by decide +kernel
theorem dX11_closesSums_14 : decode cX11_closesSums 14 = .ok (.if_icmp .le 23, 3) := by decide +kernel
theorem dX11_closesSums_17 : decode cX11_closesSums 17 = .ok (.iload_n 1, 1) := by decide +kernel
theorem dX11_closesSums_18 : decode cX11_closesSums 18 = .ok (.ifCond .eq 41, 3) := by decide +kernel
theorem dX11_closesSums_21 : decode cX11_closesSums 21 = .ok (.aload_n 0, 1) := by decide +kernel
theorem dX11_closesSums_22 : decode cX11_closesSums 22 = .ok (.invokevirtual 194, 3) := by decide +kernel
theorem dX11_closesSums_25 : decode cX11_closesSums 25 = .ok (.iconst 2, 1) := by decide +kernel
theorem dX11_closesSums_26 : decode cX11_closesSums 26 = .ok (.if_icmp .eq 11, 3) := by decide +kernel
theorem dX11_closesSums_29 : decode cX11_closesSums 29 = .ok (.aload_n 0, 1) := by decide +kernel
theorem dX11_closesSums_30 : decode cX11_closesSums 30 = .ok (.invokevirtual 194, 3) := by decide +kernel
theorem dX11_closesSums_33 : decode cX11_closesSums 33 = .ok (.iconst 3, 1) := by decide +kernel
theorem dX11_closesSums_34 : decode cX11_closesSums 34 = .ok (.if_icmp .ne 25, 3) := by decide +kernel
theorem dX11_closesSums_37 : decode cX11_closesSums 37 = .ok (.aload_n 0, 1) := by decide +kernel
theorem dX11_closesSums_38 : decode cX11_closesSums 38 = .ok (.aload_n 0, 1) := by decide +kernel
theorem dX11_closesSums_39 : decode cX11_closesSums 39 = .ok (.invokevirtual 194, 3) := by decide +kernel
theorem dX11_closesSums_42 : decode cX11_closesSums 42 = .ok (.iconst 0, 1) := by decide +kernel
theorem dX11_closesSums_43 : decode cX11_closesSums 43 = .ok (.invokevirtual 197, 3) := by decide +kernel
theorem dX11_closesSums_46 : decode cX11_closesSums 46 = .ok (.aload_n 0, 1) := by decide +kernel
theorem dX11_closesSums_47 : decode cX11_closesSums 47 = .ok (.aload_n 0, 1) := by decide +kernel
theorem dX11_closesSums_48 : decode cX11_closesSums 48 = .ok (.getfield 191, 3) := by decide +kernel
theorem dX11_closesSums_51 : decode cX11_closesSums 51 = .ok (.iconst 1, 1) := by decide +kernel
theorem dX11_closesSums_52 : decode cX11_closesSums 52 = .ok (.isub, 1) := by decide +kernel
theorem dX11_closesSums_53 : decode cX11_closesSums 53 = .ok (.putfield 191, 3) := by decide +kernel
theorem dX11_closesSums_56 : decode cX11_closesSums 56 = .ok (.goto (-56), 3) := by decide +kernel
theorem dX11_closesSums_59 : decode cX11_closesSums 59 = .ok (.return_, 1) := by decide +kernel
theorem dX11_comes_0 : decode cX11_comes 0 = .ok (.iconst 0, 1) := by decide +kernel
theorem dX11_comes_1 : decode cX11_comes 1 = .ok (.istore 4, 2) := by decide +kernel
theorem dX11_comes_3 : decode cX11_comes 3 = .ok (.iload 4, 2) := by decide +kernel
theorem dX11_comes_5 : decode cX11_comes 5 = .ok (.aload_n 0, 1) := by decide +kernel
theorem dX11_comes_6 : decode cX11_comes 6 = .ok (.getfield 130, 3) := by decide +kernel
theorem dX11_comes_9 : decode cX11_comes 9 = .ok (.if_icmp .ge 27, 3) := by decide +kernel
theorem dX11_comes_12 : decode cX11_comes 12 = .ok (.aload_n 0, 1) := by decide +kernel
theorem dX11_comes_13 : decode cX11_comes 13 = .ok (.getfield 88, 3) := by decide +kernel
theorem dX11_comes_16 : decode cX11_comes 16 = .ok (.iload 4, 2) := by decide +kernel
theorem dX11_comes_18 : decode cX11_comes 18 = .ok (.iload 4, 2) := by decide +kernel
theorem dX11_comes_20 : decode cX11_comes 20 = .ok (.iload_n 1, 1) := by decide +kernel
theorem dX11_comes_21 : decode cX11_comes 21 = .ok (.if_icmp .ne 7, 3) := by decide +kernel
theorem dX11_comes_24 : decode cX11_comes 24 = .ok (.iconst 1, 1) := by decide +kernel
theorem dX11_comes_25 : decode cX11_comes 25 = .ok (.goto 4, 3) := by decide +kernel
theorem dX11_comes_28 : decode cX11_comes 28 = .ok (.iconst 0, 1) := by decide +kernel
theorem dX11_comes_29 : decode cX11_comes 29 = .ok (.bastore, 1) := by decide +kernel
theorem dX11_comes_30 : decode cX11_comes 30 = .ok (.iinc 4 1, 3) := by decide +kernel
theorem dX11_comes_33 : decode cX11_comes 33 = .ok (.goto (-30), 3) := by decide +kernel
theorem dX11_comes_36 : decode cX11_comes 36 = .ok (.iconst 1, 1) := by decide +kernel
theorem dX11_comes_37 : decode cX11_comes 37 = .ok (.istore 4, 2) := by decide +kernel
theorem dX11_comes_39 : decode cX11_comes 39 = .ok (.iload 4, 2) := by decide +kernel
theorem dX11_comes_41 : decode cX11_comes 41 = .ok (.ifCond .eq 96, 3) := by decide +kernel
theorem dX11_comes_44 : decode cX11_comes 44 = .ok (.iconst 0, 1) := by decide +kernel
theorem dX11_comes_45 : decode cX11_comes 45 = .ok (.istore 4, 2) := by decide +kernel
theorem dX11_comes_47 : decode cX11_comes 47 = .ok (.iconst 0, 1) := by decide +kernel
theorem dX11_comes_48 : decode cX11_comes 48 = .ok (.istore 5, 2) := by decide +kernel
theorem dX11_comes_50 : decode cX11_comes 50 = .ok (.iload 5, 2) := by decide +kernel
theorem dX11_comes_52 : decode cX11_comes 52 = .ok (.aload_n 0, 1) := by decide +kernel
theorem dX11_comes_53 : decode cX11_comes 53 = .ok (.getfield 130, 3) := by decide +kernel
theorem dX11_comes_56 : decode cX11_comes 56 = .ok (.if_icmp .ge 78, 3) := by decide +kernel
theorem dX11_comes_59 : decode cX11_comes 59 = .ok (.iconst 0, 1) := by decide +kernel
theorem dX11_comes_60 : decode cX11_comes 60 = .ok (.istore 6, 2) := by decide +kernel
theorem dX11_comes_62 : decode cX11_comes 62 = .ok (.iload 6, 2) := by decide +kernel
theorem dX11_comes_64 : decode cX11_comes 64 = .ok (.aload_n 0, 1) := by decide +kernel
theorem dX11_comes_65 : decode cX11_comes 65 = .ok (.getfield 130, 3) := by decide +kernel
theorem dX11_comes_68 : decode cX11_comes 68 = .ok (.if_icmp .ge 60, 3) := by decide +kernel
theorem dX11_comes_71 : decode cX11_comes 71 = .ok (.aload_n 0, 1) := by decide +kernel
theorem dX11_comes_72 : decode cX11_comes 72 = .ok (.getfield 88, 3) := by decide +kernel
theorem dX11_comes_75 : decode cX11_comes 75 = .ok (.iload 5, 2) := by decide +kernel
theorem dX11_comes_77 : decode cX11_comes 77 = .ok (.baload, 1) := by decide +kernel
theorem dX11_comes_78 : decode cX11_comes 78 = .ok (.ifCond .eq 50, 3) := by decide +kernel
theorem dX11_comes_81 : decode cX11_comes 81 = .ok (.aload_n 0, 1) := by decide +kernel
theorem dX11_comes_82 : decode cX11_comes 82 = .ok (.getfield 88, 3) := by decide +kernel
theorem dX11_comes_85 : decode cX11_comes 85 = .ok (.iload 6, 2) := by decide +kernel
theorem dX11_comes_87 : decode cX11_comes 87 = .ok (.baload, 1) := by decide +kernel
theorem dX11_comes_88 : decode cX11_comes 88 = .ok (.ifCond .ne 34, 3) := by decide +kernel
theorem dX11_comes_91 : decode cX11_comes 91 = .ok (.iload 6, 2) := by decide +kernel
theorem dX11_comes_93 : decode cX11_comes 93 = .ok (.iload_n 3, 1) := by decide +kernel
theorem dX11_comes_94 : decode cX11_comes 94 = .ok (.if_icmp .eq 28, 3) := by decide +kernel
theorem dX11_comes_97 : decode cX11_comes 97 = .ok (.aload_n 0, 1) := by decide +kernel
theorem dX11_comes_98 : decode cX11_comes 98 = .ok (.iload 5, 2) := by decide +kernel
theorem dX11_comes_100 : decode cX11_comes 100 = .ok (.iload 6, 2) := by decide +kernel
theorem dX11_comes_102 : decode cX11_comes 102 = .ok (.invokevirtual 294, 3) := by decide +kernel
theorem dX11_comes_105 : decode cX11_comes 105 = .ok (.ifCond .ne 6, 3) := by decide +kernel
theorem dX11_comes_108 : decode cX11_comes 108 = .ok (.goto 14, 3) := by decide +kernel
theorem dX11_comes_111 : decode cX11_comes 111 = .ok (.aload_n 0, 1) := by decide +kernel
theorem dX11_comes_112 : decode cX11_comes 112 = .ok (.getfield 88, 3) := by decide +kernel
theorem dX11_comes_115 : decode cX11_comes 115 = .ok (.iload 6, 2) := by decide +kernel
theorem dX11_comes_117 : decode cX11_comes 117 = .ok (.iconst 1, 1) := by decide +kernel
theorem dX11_comes_118 : decode cX11_comes 118 = .ok (.bastore, 1) := by decide +kernel
theorem dX11_comes_119 : decode cX11_comes 119 = .ok (.iconst 1, 1) := by decide +kernel
theorem dX11_comes_120 : decode cX11_comes 120 = .ok (.istore 4, 2) := by decide +kernel
theorem dX11_comes_122 : decode cX11_comes 122 = .ok (.iinc 6 1, 3) := by decide +kernel
theorem dX11_comes_125 : decode cX11_comes 125 = .ok (.goto (-63), 3) := by decide +kernel
theorem dX11_comes_128 : decode cX11_comes 128 = .ok (.iinc 5 1, 3) := by decide +kernel
theorem dX11_comes_131 : decode cX11_comes 131 = .ok (.goto (-81), 3) := by decide +kernel
theorem dX11_comes_134 : decode cX11_comes 134 = .ok (.goto (-95), 3) := by decide +kernel
theorem dX11_comes_137 : decode cX11_comes 137 = .ok (.aload_n 0, 1) := by decide +kernel
theorem dX11_comes_138 : decode cX11_comes 138 = .ok (.getfield 88, 3) := by decide +kernel
theorem dX11_comes_141 : decode cX11_comes 141 = .ok (.iload_n 2, 1) := by decide +kernel
theorem dX11_comes_142 : decode cX11_comes 142 = .ok (.baload, 1) := by decide +kernel
theorem dX11_comes_143 : decode cX11_comes 143 = .ok (.ireturn, 1) := by decide +kernel
theorem dX11_comesTo_0 : decode cX11_comesTo 0 = .ok (.iconst 0, 1) := by decide +kernel
theorem dX11_comesTo_1 : decode cX11_comesTo 1 = .ok (.istore_n 3, 1) := by decide +kernel
theorem dX11_comesTo_2 : decode cX11_comesTo 2 = .ok (.sipush 180, 3) := by decide +kernel
theorem dX11_comesTo_5 : decode cX11_comesTo 5 = .ok (.iload_n 1, 1) := by decide +kernel
theorem dX11_comesTo_6 : decode cX11_comesTo 6 = .ok (.sipush 180, 3) := by decide +kernel
theorem dX11_comesTo_9 : decode cX11_comesTo 9 = .ok (.idiv, 1) := by decide +kernel
theorem dX11_comesTo_10 : decode cX11_comesTo 10 = .ok (.imul, 1) := by decide +kernel
theorem dX11_comesTo_11 : decode cX11_comesTo 11 = .ok (.istore 4, 2) := by decide +kernel
theorem dX11_comesTo_13 : decode cX11_comesTo 13 = .ok (.iload_n 1, 1) := by decide +kernel
theorem dX11_comesTo_14 : decode cX11_comesTo 14 = .ok (.istore 5, 2) := by decide +kernel
theorem dX11_comesTo_16 : decode cX11_comesTo 16 = .ok (.iload 5, 2) := by decide +kernel
theorem dX11_comesTo_18 : decode cX11_comesTo 18 = .ok (.iload_n 2, 1) := by decide +kernel
theorem dX11_comesTo_19 : decode cX11_comesTo 19 = .ok (.if_icmp .ge 214, 3) := by decide +kernel
theorem dX11_comesTo_22 : decode cX11_comesTo 22 = .ok (.aload_n 0, 1) := by decide +kernel
theorem dX11_comesTo_23 : decode cX11_comesTo 23 = .ok (.getfield 51, 3) := by decide +kernel
theorem dX11_comesTo_26 : decode cX11_comesTo 26 = .ok (.iload 5, 2) := by decide +kernel
theorem dX11_comesTo_28 : decode cX11_comesTo 28 = .ok (.iaload, 1) := by decide +kernel
theorem dX11_comesTo_29 : decode cX11_comesTo 29 = .ok (.ldc 187, 2) := by decide +kernel
theorem dX11_comesTo_31 : decode cX11_comesTo 31 = .ok (.idiv, 1) := by decide +kernel
theorem dX11_comesTo_32 : decode cX11_comesTo 32 = .ok (.istore 6, 2) := by decide +kernel
theorem dX11_comesTo_34 : decode cX11_comesTo 34 = .ok (.aload_n 0, 1) := by decide +kernel
theorem dX11_comesTo_35 : decode cX11_comesTo 35 = .ok (.getfield 51, 3) := by decide +kernel
theorem dX11_comesTo_38 : decode cX11_comesTo 38 = .ok (.iload 5, 2) := by decide +kernel
theorem dX11_comesTo_40 : decode cX11_comesTo 40 = .ok (.iaload, 1) := by decide +kernel
theorem dX11_comesTo_41 : decode cX11_comesTo 41 = .ok (.ldc 187, 2) := by decide +kernel
theorem dX11_comesTo_43 : decode cX11_comesTo 43 = .ok (.irem, 1) := by decide +kernel
theorem dX11_comesTo_44 : decode cX11_comesTo 44 = .ok (.istore 7, 2) := by decide +kernel
theorem dX11_comesTo_46 : decode cX11_comesTo 46 = .ok (.iload 5, 2) := by decide +kernel
theorem dX11_comesTo_48 : decode cX11_comesTo 48 = .ok (.iconst 1, 1) := by decide +kernel
theorem dX11_comesTo_49 : decode cX11_comesTo 49 = .ok (.iadd, 1) := by decide +kernel
theorem dX11_comesTo_50 : decode cX11_comesTo 50 = .ok (.istore 5, 2) := by decide +kernel
theorem dX11_comesTo_52 : decode cX11_comesTo 52 = .ok (.iload 6, 2) := by decide +kernel
theorem dX11_comesTo_54 : decode cX11_comesTo 54 = .ok (.ifCond .eq 9, 3) := by decide +kernel
theorem dX11_comesTo_57 : decode cX11_comesTo 57 = .ok (.iload 6, 2) := by decide +kernel
theorem dX11_comesTo_59 : decode cX11_comesTo 59 = .ok (.iconst 1, 1) := by decide +kernel
theorem dX11_comesTo_60 : decode cX11_comesTo 60 = .ok (.if_icmp .ne 33, 3) := by decide +kernel
theorem dX11_comesTo_63 : decode cX11_comesTo 63 = .ok (.aload_n 0, 1) := by decide +kernel
theorem dX11_comesTo_64 : decode cX11_comesTo 64 = .ok (.getfield 66, 3) := by decide +kernel
theorem dX11_comesTo_67 : decode cX11_comesTo 67 = .ok (.iload_n 3, 1) := by decide +kernel
theorem dX11_comesTo_68 : decode cX11_comesTo 68 = .ok (.iload 6, 2) := by decide +kernel
theorem dX11_comesTo_70 : decode cX11_comesTo 70 = .ok (.ifCond .ne 8, 3) := by decide +kernel
theorem dX11_comesTo_73 : decode cX11_comesTo 73 = .ok (.iload 7, 2) := by decide +kernel
theorem dX11_comesTo_75 : decode cX11_comesTo 75 = .ok (.goto 10, 3) := by decide +kernel
theorem dX11_comesTo_78 : decode cX11_comesTo 78 = .ok (.aload_n 0, 1) := by decide +kernel
theorem dX11_comesTo_79 : decode cX11_comesTo 79 = .ok (.getfield 69, 3) := by decide +kernel
theorem dX11_comesTo_82 : decode cX11_comesTo 82 = .ok (.iload 7, 2) := by decide +kernel
theorem dX11_comesTo_84 : decode cX11_comesTo 84 = .ok (.iaload, 1) := by decide +kernel
theorem dX11_comesTo_85 : decode cX11_comesTo 85 = .ok (.iastore, 1) := by decide +kernel
theorem dX11_comesTo_86 : decode cX11_comesTo 86 = .ok (.iload_n 3, 1) := by decide +kernel
theorem dX11_comesTo_87 : decode cX11_comesTo 87 = .ok (.iconst 1, 1) := by decide +kernel
theorem dX11_comesTo_88 : decode cX11_comesTo 88 = .ok (.iadd, 1) := by decide +kernel
theorem dX11_comesTo_89 : decode cX11_comesTo 89 = .ok (.istore_n 3, 1) := by decide +kernel
theorem dX11_comesTo_90 : decode cX11_comesTo 90 = .ok (.goto 140, 3) := by decide +kernel
theorem dX11_comesTo_93 : decode cX11_comesTo 93 = .ok (.iload 6, 2) := by decide +kernel
theorem dX11_comesTo_95 : decode cX11_comesTo 95 = .ok (.bipush 10, 2) := by decide +kernel
theorem dX11_comesTo_97 : decode cX11_comesTo 97 = .ok (.if_icmp .ne 24, 3) := by decide +kernel
theorem dX11_comesTo_100 : decode cX11_comesTo 100 = .ok (.aload_n 0, 1) := by decide +kernel
theorem dX11_comesTo_101 : decode cX11_comesTo 101 = .ok (.getfield 66, 3) := by decide +kernel
theorem dX11_comesTo_104 : decode cX11_comesTo 104 = .ok (.iload_n 3, 1) := by decide +kernel
theorem dX11_comesTo_105 : decode cX11_comesTo 105 = .ok (.iconst 1, 1) := by decide +kernel
theorem dX11_comesTo_106 : decode cX11_comesTo 106 = .ok (.isub, 1) := by decide +kernel
theorem dX11_comesTo_107 : decode cX11_comesTo 107 = .ok (.iconst 1, 1) := by decide +kernel
theorem dX11_comesTo_108 : decode cX11_comesTo 108 = .ok (.aload_n 0, 1) := by decide +kernel
theorem dX11_comesTo_109 : decode cX11_comesTo 109 = .ok (.getfield 66, 3) := by decide +kernel
theorem dX11_comesTo_112 : decode cX11_comesTo 112 = .ok (.iload_n 3, 1) := by decide +kernel
theorem dX11_comesTo_113 : decode cX11_comesTo 113 = .ok (.iconst 1, 1) := by decide +kernel
theorem dX11_comesTo_114 : decode cX11_comesTo 114 = .ok (.isub, 1) := by decide +kernel
theorem dX11_comesTo_115 : decode cX11_comesTo 115 = .ok (.iaload, 1) := by decide +kernel
theorem dX11_comesTo_116 : decode cX11_comesTo 116 = .ok (.isub, 1) := by decide +kernel
theorem dX11_comesTo_117 : decode cX11_comesTo 117 = .ok (.iastore, 1) := by decide +kernel
theorem dX11_comesTo_118 : decode cX11_comesTo 118 = .ok (.goto 112, 3) := by decide +kernel
theorem dX11_comesTo_121 : decode cX11_comesTo 121 = .ok (.iload 6, 2) := by decide +kernel
theorem dX11_comesTo_123 : decode cX11_comesTo 123 = .ok (.bipush 11, 2) := by decide +kernel
theorem dX11_comesTo_125 : decode cX11_comesTo 125 = .ok (.if_icmp .eq 10, 3) := by decide +kernel
theorem dX11_comesTo_128 : decode cX11_comesTo 128 = .ok (.iload 6, 2) := by decide +kernel
theorem dX11_comesTo_130 : decode cX11_comesTo 130 = .ok (.bipush 12, 2) := by decide +kernel
theorem dX11_comesTo_132 : decode cX11_comesTo 132 = .ok (.if_icmp .ne 43, 3) := by decide +kernel
theorem dX11_comesTo_135 : decode cX11_comesTo 135 = .ok (.aload_n 0, 1) := by decide +kernel
theorem dX11_comesTo_136 : decode cX11_comesTo 136 = .ok (.getfield 66, 3) := by decide +kernel
theorem dX11_comesTo_139 : decode cX11_comesTo 139 = .ok (.iload_n 3, 1) := by decide +kernel
theorem dX11_comesTo_140 : decode cX11_comesTo 140 = .ok (.iconst 1, 1) := by decide +kernel
theorem dX11_comesTo_141 : decode cX11_comesTo 141 = .ok (.isub, 1) := by decide +kernel
theorem dX11_comesTo_142 : decode cX11_comesTo 142 = .ok (.iaload, 1) := by decide +kernel
theorem dX11_comesTo_143 : decode cX11_comesTo 143 = .ok (.iload 6, 2) := by decide +kernel
theorem dX11_comesTo_145 : decode cX11_comesTo 145 = .ok (.bipush 12, 2) := by decide +kernel
theorem dX11_comesTo_147 : decode cX11_comesTo 147 = .ok (.if_icmp .ne 7, 3) := by decide +kernel
theorem dX11_comesTo_150 : decode cX11_comesTo 150 = .ok (.iconst 1, 1) := by decide +kernel
theorem dX11_comesTo_151 : decode cX11_comesTo 151 = .ok (.goto 4, 3) := by decide +kernel
theorem dX11_comesTo_154 : decode cX11_comesTo 154 = .ok (.iconst 0, 1) := by decide +kernel
theorem dX11_comesTo_155 : decode cX11_comesTo 155 = .ok (.if_icmp .ne 13, 3) := by decide +kernel
theorem dX11_comesTo_158 : decode cX11_comesTo 158 = .ok (.iload 4, 2) := by decide +kernel
theorem dX11_comesTo_160 : decode cX11_comesTo 160 = .ok (.iload 7, 2) := by decide +kernel
theorem dX11_comesTo_162 : decode cX11_comesTo 162 = .ok (.iadd, 1) := by decide +kernel
theorem dX11_comesTo_163 : decode cX11_comesTo 163 = .ok (.istore 5, 2) := by decide +kernel
theorem dX11_comesTo_165 : decode cX11_comesTo 165 = .ok (.goto 65, 3) := by decide +kernel
theorem dX11_comesTo_168 : decode cX11_comesTo 168 = .ok (.iload_n 3, 1) := by decide +kernel
theorem dX11_comesTo_169 : decode cX11_comesTo 169 = .ok (.iconst 1, 1) := by decide +kernel
theorem dX11_comesTo_170 : decode cX11_comesTo 170 = .ok (.isub, 1) := by decide +kernel
theorem dX11_comesTo_171 : decode cX11_comesTo 171 = .ok (.istore_n 3, 1) := by decide +kernel
theorem dX11_comesTo_172 : decode cX11_comesTo 172 = .ok (.goto 58, 3) := by decide +kernel
theorem dX11_comesTo_175 : decode cX11_comesTo 175 = .ok (.iload_n 3, 1) := by decide +kernel
theorem dX11_comesTo_176 : decode cX11_comesTo 176 = .ok (.iconst 1, 1) := by decide +kernel
theorem dX11_comesTo_177 : decode cX11_comesTo 177 = .ok (.isub, 1) := by decide +kernel
theorem dX11_comesTo_178 : decode cX11_comesTo 178 = .ok (.istore_n 3, 1) := by decide +kernel
theorem dX11_comesTo_179 : decode cX11_comesTo 179 = .ok (.iload 6, 2) := by decide +kernel
theorem dX11_comesTo_181 : decode cX11_comesTo 181 = .ok (.iconst 5, 1) := by decide +kernel
theorem dX11_comesTo_182 : decode cX11_comesTo 182 = .ok (.if_icmp .eq 10, 3) := by decide +kernel
theorem dX11_comesTo_185 : decode cX11_comesTo 185 = .ok (.iload 6, 2) := by decide +kernel
theorem dX11_comesTo_187 : decode cX11_comesTo 187 = .ok (.bipush 6, 2) := by decide +kernel
theorem dX11_comesTo_189 : decode cX11_comesTo 189 = .ok (.if_icmp .ne 14, 3) := by decide +kernel
theorem dX11_comesTo_192 : decode cX11_comesTo 192 = .ok (.aload_n 0, 1) := by decide +kernel
theorem dX11_comesTo_193 : decode cX11_comesTo 193 = .ok (.getfield 66, 3) := by decide +kernel
theorem dX11_comesTo_196 : decode cX11_comesTo 196 = .ok (.iload_n 3, 1) := by decide +kernel
theorem dX11_comesTo_197 : decode cX11_comesTo 197 = .ok (.iaload, 1) := by decide +kernel
theorem dX11_comesTo_198 : decode cX11_comesTo 198 = .ok (.ifCond .ne 5, 3) := by decide +kernel
theorem dX11_comesTo_201 : decode cX11_comesTo 201 = .ok (.iconst 0, 1) := by decide +kernel
theorem dX11_comesTo_202 : decode cX11_comesTo 202 = .ok (.ireturn, 1) := by decide +kernel
theorem dX11_comesTo_203 : decode cX11_comesTo 203 = .ok (.aload_n 0, 1) := by decide +kernel
theorem dX11_comesTo_204 : decode cX11_comesTo 204 = .ok (.getfield 66, 3) := by decide +kernel
theorem dX11_comesTo_207 : decode cX11_comesTo 207 = .ok (.iload_n 3, 1) := by decide +kernel
theorem dX11_comesTo_208 : decode cX11_comesTo 208 = .ok (.iconst 1, 1) := by decide +kernel
theorem dX11_comesTo_209 : decode cX11_comesTo 209 = .ok (.isub, 1) := by decide +kernel
theorem dX11_comesTo_210 : decode cX11_comesTo 210 = .ok (.iload 6, 2) := by decide +kernel
theorem dX11_comesTo_212 : decode cX11_comesTo 212 = .ok (.aload_n 0, 1) := by decide +kernel
theorem dX11_comesTo_213 : decode cX11_comesTo 213 = .ok (.getfield 66, 3) := by decide +kernel
theorem dX11_comesTo_216 : decode cX11_comesTo 216 = .ok (.iload_n 3, 1) := by decide +kernel
theorem dX11_comesTo_217 : decode cX11_comesTo 217 = .ok (.iconst 1, 1) := by decide +kernel
theorem dX11_comesTo_218 : decode cX11_comesTo 218 = .ok (.isub, 1) := by decide +kernel
theorem dX11_comesTo_219 : decode cX11_comesTo 219 = .ok (.iaload, 1) := by decide +kernel
theorem dX11_comesTo_220 : decode cX11_comesTo 220 = .ok (.aload_n 0, 1) := by decide +kernel
theorem dX11_comesTo_221 : decode cX11_comesTo 221 = .ok (.getfield 66, 3) := by decide +kernel
theorem dX11_comesTo_224 : decode cX11_comesTo 224 = .ok (.iload_n 3, 1) := by decide +kernel
theorem dX11_comesTo_225 : decode cX11_comesTo 225 = .ok (.iaload, 1) := by decide +kernel
theorem dX11_comesTo_226 : decode cX11_comesTo 226 = .ok (.invokestatic 254, 3) := by decide +kernel
theorem dX11_comesTo_229 : decode cX11_comesTo 229 = .ok (.iastore, 1) := by decide +kernel
theorem dX11_comesTo_230 : decode cX11_comesTo 230 = .ok (.goto (-214), 3) := by decide +kernel
theorem dX11_comesTo_233 : decode cX11_comesTo 233 = .ok (.aload_n 0, 1) := by decide +kernel
theorem dX11_comesTo_234 : decode cX11_comesTo 234 = .ok (.getfield 66, 3) := by decide +kernel
theorem dX11_comesTo_237 : decode cX11_comesTo 237 = .ok (.iconst 0, 1) := by decide +kernel
theorem dX11_comesTo_238 : decode cX11_comesTo 238 = .ok (.iaload, 1) := by decide +kernel
theorem dX11_comesTo_239 : decode cX11_comesTo 239 = .ok (.ireturn, 1) := by decide +kernel
theorem dX11_costOf_0 : decode cX11_costOf 0 = .ok (.iconst (-1), 1) := by decide +kernel
theorem dX11_costOf_1 : decode cX11_costOf 1 = .ok (.istore_n 1, 1) := by decide +kernel
theorem dX11_costOf_2 : decode cX11_costOf 2 = .ok (.iconst 0, 1) := by decide +kernel
theorem dX11_costOf_3 : decode cX11_costOf 3 = .ok (.istore_n 2, 1) := by decide +kernel
theorem dX11_costOf_4 : decode cX11_costOf 4 = .ok (.iload_n 2, 1) := by decide +kernel
theorem dX11_costOf_5 : decode cX11_costOf 5 = .ok (.aload_n 0, 1) := by decide +kernel
theorem dX11_costOf_6 : decode cX11_costOf 6 = .ok (.getfield 251, 3) := by decide +kernel
theorem dX11_costOf_9 : decode cX11_costOf 9 = .ok (.if_icmp .ge 101, 3) := by decide +kernel
theorem dX11_costOf_12 : decode cX11_costOf 12 = .ok (.aload_n 0, 1) := by decide +kernel
theorem dX11_costOf_13 : decode cX11_costOf 13 = .ok (.getfield 54, 3) := by decide +kernel
theorem dX11_costOf_16 : decode cX11_costOf 16 = .ok (.iload_n 2, 1) := by decide +kernel
theorem dX11_costOf_17 : decode cX11_costOf 17 = .ok (.iaload, 1) := by decide +kernel
theorem dX11_costOf_18 : decode cX11_costOf 18 = .ok (.bipush 99, 2) := by decide +kernel
theorem dX11_costOf_20 : decode cX11_costOf 20 = .ok (.if_icmp .ne 8, 3) := by decide +kernel
theorem dX11_costOf_23 : decode cX11_costOf 23 = .ok (.iload_n 1, 1) := by decide +kernel
theorem dX11_costOf_24 : decode cX11_costOf 24 = .ok (.iconst (-1), 1) := by decide +kernel
theorem dX11_costOf_25 : decode cX11_costOf 25 = .ok (.if_icmp .ne 79, 3) := by decide +kernel
theorem dX11_costOf_28 : decode cX11_costOf 28 = .ok (.aload_n 0, 1) := by decide +kernel
theorem dX11_costOf_29 : decode cX11_costOf 29 = .ok (.aload_n 0, 1) := by decide +kernel
theorem dX11_costOf_30 : decode cX11_costOf 30 = .ok (.getfield 60, 3) := by decide +kernel
theorem dX11_costOf_33 : decode cX11_costOf 33 = .ok (.iload_n 2, 1) := by decide +kernel
theorem dX11_costOf_34 : decode cX11_costOf 34 = .ok (.iaload, 1) := by decide +kernel
theorem dX11_costOf_35 : decode cX11_costOf 35 = .ok (.aload_n 0, 1) := by decide +kernel
theorem dX11_costOf_36 : decode cX11_costOf 36 = .ok (.getfield 63, 3) := by decide +kernel
theorem dX11_costOf_39 : decode cX11_costOf 39 = .ok (.iload_n 2, 1) := by decide +kernel
theorem dX11_costOf_40 : decode cX11_costOf 40 = .ok (.iaload, 1) := by decide +kernel
theorem dX11_costOf_41 : decode cX11_costOf 41 = .ok (.invokevirtual 258, 3) := by decide +kernel
theorem dX11_costOf_44 : decode cX11_costOf 44 = .ok (.iconst 1, 1) := by decide +kernel
theorem dX11_costOf_45 : decode cX11_costOf 45 = .ok (.if_icmp .eq 6, 3) := by decide +kernel
theorem dX11_costOf_48 : decode cX11_costOf 48 = .ok (.goto 56, 3) := by decide +kernel
theorem dX11_costOf_51 : decode cX11_costOf 51 = .ok (.aload_n 0, 1) := by decide +kernel
theorem dX11_costOf_52 : decode cX11_costOf 52 = .ok (.getfield 54, 3) := by decide +kernel
theorem dX11_costOf_55 : decode cX11_costOf 55 = .ok (.iload_n 2, 1) := by decide +kernel
theorem dX11_costOf_56 : decode cX11_costOf 56 = .ok (.iaload, 1) := by decide +kernel
theorem dX11_costOf_57 : decode cX11_costOf 57 = .ok (.bipush 110, 2) := by decide +kernel
theorem dX11_costOf_59 : decode cX11_costOf 59 = .ok (.if_icmp .ne 6, 3) := by decide +kernel
theorem dX11_costOf_62 : decode cX11_costOf 62 = .ok (.ldc 129, 2) := by decide +kernel
theorem dX11_costOf_64 : decode cX11_costOf 64 = .ok (.ireturn, 1) := by decide +kernel
theorem dX11_costOf_65 : decode cX11_costOf 65 = .ok (.aload_n 0, 1) := by decide +kernel
theorem dX11_costOf_66 : decode cX11_costOf 66 = .ok (.aload_n 0, 1) := by decide +kernel
theorem dX11_costOf_67 : decode cX11_costOf 67 = .ok (.getfield 57, 3) := by decide +kernel
theorem dX11_costOf_70 : decode cX11_costOf 70 = .ok (.iload_n 2, 1) := by decide +kernel
theorem dX11_costOf_71 : decode cX11_costOf 71 = .ok (.iaload, 1) := by decide +kernel
theorem dX11_costOf_72 : decode cX11_costOf 72 = .ok (.aload_n 0, 1) := by decide +kernel
theorem dX11_costOf_73 : decode cX11_costOf 73 = .ok (.getfield 60, 3) := by decide +kernel
theorem dX11_costOf_76 : decode cX11_costOf 76 = .ok (.iload_n 2, 1) := by decide +kernel
theorem dX11_costOf_77 : decode cX11_costOf 77 = .ok (.iaload, 1) := by decide +kernel
theorem dX11_costOf_78 : decode cX11_costOf 78 = .ok (.invokevirtual 258, 3) := by decide +kernel
theorem dX11_costOf_81 : decode cX11_costOf 81 = .ok (.istore_n 3, 1) := by decide +kernel
theorem dX11_costOf_82 : decode cX11_costOf 82 = .ok (.iload_n 3, 1) := by decide +kernel
theorem dX11_costOf_83 : decode cX11_costOf 83 = .ok (.iconst 1, 1) := by decide +kernel
theorem dX11_costOf_84 : decode cX11_costOf 84 = .ok (.if_icmp .ge 7, 3) := by decide +kernel
theorem dX11_costOf_87 : decode cX11_costOf 87 = .ok (.iconst 1, 1) := by decide +kernel
theorem dX11_costOf_88 : decode cX11_costOf 88 = .ok (.goto 15, 3) := by decide +kernel
theorem dX11_costOf_91 : decode cX11_costOf 91 = .ok (.iload_n 3, 1) := by decide +kernel
theorem dX11_costOf_92 : decode cX11_costOf 92 = .ok (.bipush 99, 2) := by decide +kernel
theorem dX11_costOf_94 : decode cX11_costOf 94 = .ok (.if_icmp .le 8, 3) := by decide +kernel
theorem dX11_costOf_97 : decode cX11_costOf 97 = .ok (.bipush 99, 2) := by decide +kernel
theorem dX11_costOf_99 : decode cX11_costOf 99 = .ok (.goto 4, 3) := by decide +kernel
theorem dX11_costOf_102 : decode cX11_costOf 102 = .ok (.iload_n 3, 1) := by decide +kernel
theorem dX11_costOf_103 : decode cX11_costOf 103 = .ok (.istore_n 1, 1) := by decide +kernel
theorem dX11_costOf_104 : decode cX11_costOf 104 = .ok (.iinc 2 1, 3) := by decide +kernel
theorem dX11_costOf_107 : decode cX11_costOf 107 = .ok (.goto (-103), 3) := by decide +kernel
theorem dX11_costOf_110 : decode cX11_costOf 110 = .ok (.iload_n 1, 1) := by decide +kernel
theorem dX11_costOf_111 : decode cX11_costOf 111 = .ok (.iconst (-1), 1) := by decide +kernel
theorem dX11_costOf_112 : decode cX11_costOf 112 = .ok (.if_icmp .ne 7, 3) := by decide +kernel
theorem dX11_costOf_115 : decode cX11_costOf 115 = .ok (.iconst 1, 1) := by decide +kernel
theorem dX11_costOf_116 : decode cX11_costOf 116 = .ok (.goto 4, 3) := by decide +kernel
theorem dX11_costOf_119 : decode cX11_costOf 119 = .ok (.iload_n 1, 1) := by decide +kernel
theorem dX11_costOf_120 : decode cX11_costOf 120 = .ok (.ireturn, 1) := by decide +kernel
theorem dX11_count_0 : decode cX11_count 0 = .ok (.iload_n 1, 1) := by decide +kernel
theorem dX11_count_1 : decode cX11_count 1 = .ok (.tableswitch 69 0 5 #[39, 44, 49, 54, 59, 64], 39) := by decide +kernel
theorem dX11_count_40 : decode cX11_count 40 = .ok (.aload_n 0, 1) := by decide +kernel
theorem dX11_count_41 : decode cX11_count 41 = .ok (.getfield 130, 3) := by decide +kernel
theorem dX11_count_44 : decode cX11_count 44 = .ok (.ireturn, 1) := by decide +kernel
theorem dX11_count_45 : decode cX11_count 45 = .ok (.aload_n 0, 1) := by decide +kernel
theorem dX11_count_46 : decode cX11_count 46 = .ok (.invokevirtual 430, 3) := by decide +kernel
theorem dX11_count_49 : decode cX11_count 49 = .ok (.ireturn, 1) := by decide +kernel
theorem dX11_count_50 : decode cX11_count 50 = .ok (.aload_n 0, 1) := by decide +kernel
theorem dX11_count_51 : decode cX11_count 51 = .ok (.getfield 251, 3) := by decide +kernel
theorem dX11_count_54 : decode cX11_count 54 = .ok (.ireturn, 1) := by decide +kernel
theorem dX11_count_55 : decode cX11_count 55 = .ok (.aload_n 0, 1) := by decide +kernel
theorem dX11_count_56 : decode cX11_count 56 = .ok (.getfield 133, 3) := by decide +kernel
theorem dX11_count_59 : decode cX11_count 59 = .ok (.ireturn, 1) := by decide +kernel
theorem dX11_count_60 : decode cX11_count 60 = .ok (.aload_n 0, 1) := by decide +kernel
theorem dX11_count_61 : decode cX11_count 61 = .ok (.getfield 122, 3) := by decide +kernel
theorem dX11_count_64 : decode cX11_count 64 = .ok (.ireturn, 1) := by decide +kernel
theorem dX11_count_65 : decode cX11_count 65 = .ok (.aload_n 0, 1) := by decide +kernel
theorem dX11_count_66 : decode cX11_count 66 = .ok (.getfield 126, 3) := by decide +kernel
theorem dX11_count_69 : decode cX11_count 69 = .ok (.ireturn, 1) := by decide +kernel
theorem dX11_count_70 : decode cX11_count 70 = .ok (.iload_n 1, 1) := by decide +kernel
theorem dX11_count_71 : decode cX11_count 71 = .ok (.bipush 20, 2) := by decide +kernel
theorem dX11_count_73 : decode cX11_count 73 = .ok (.bipush 19, 2) := by decide +kernel
theorem dX11_count_75 : decode cX11_count 75 = .ok (.aload_n 0, 1) := by decide +kernel
theorem dX11_count_76 : decode cX11_count 76 = .ok (.getfield 130, 3) := by decide +kernel
theorem dX11_count_79 : decode cX11_count 79 = .ok (.iadd, 1) := by decide +kernel
theorem dX11_count_80 : decode cX11_count 80 = .ok (.invokestatic 139, 3) := by decide +kernel
theorem dX11_count_83 : decode cX11_count 83 = .ok (.ifCond .eq 13, 3) := by decide +kernel
theorem dX11_count_86 : decode cX11_count 86 = .ok (.aload_n 0, 1) := by decide +kernel
theorem dX11_count_87 : decode cX11_count 87 = .ok (.getfield 7, 3) := by decide +kernel
theorem dX11_count_90 : decode cX11_count 90 = .ok (.iload_n 1, 1) := by decide +kernel
theorem dX11_count_91 : decode cX11_count 91 = .ok (.bipush 20, 2) := by decide +kernel
theorem dX11_count_93 : decode cX11_count 93 = .ok (.isub, 1) := by decide +kernel
theorem dX11_count_94 : decode cX11_count 94 = .ok (.iaload, 1) := by decide +kernel
theorem dX11_count_95 : decode cX11_count 95 = .ok (.ireturn, 1) := by decide +kernel
theorem dX11_count_96 : decode cX11_count 96 = .ok (.iload_n 1, 1) := by decide +kernel
theorem dX11_count_97 : decode cX11_count 97 = .ok (.bipush 60, 2) := by decide +kernel
theorem dX11_count_99 : decode cX11_count 99 = .ok (.bipush 59, 2) := by decide +kernel
theorem dX11_count_101 : decode cX11_count 101 = .ok (.aload_n 0, 1) := by decide +kernel
theorem dX11_count_102 : decode cX11_count 102 = .ok (.getfield 130, 3) := by decide +kernel
theorem dX11_count_105 : decode cX11_count 105 = .ok (.iadd, 1) := by decide +kernel
theorem dX11_count_106 : decode cX11_count 106 = .ok (.invokestatic 139, 3) := by decide +kernel
theorem dX11_count_109 : decode cX11_count 109 = .ok (.ifCond .eq 13, 3) := by decide +kernel
theorem dX11_count_112 : decode cX11_count 112 = .ok (.aload_n 0, 1) := by decide +kernel
theorem dX11_count_113 : decode cX11_count 113 = .ok (.getfield 16, 3) := by decide +kernel
theorem dX11_count_116 : decode cX11_count 116 = .ok (.iload_n 1, 1) := by decide +kernel
theorem dX11_count_117 : decode cX11_count 117 = .ok (.bipush 60, 2) := by decide +kernel
theorem dX11_count_119 : decode cX11_count 119 = .ok (.isub, 1) := by decide +kernel
theorem dX11_count_120 : decode cX11_count 120 = .ok (.iaload, 1) := by decide +kernel
theorem dX11_count_121 : decode cX11_count 121 = .ok (.ireturn, 1) := by decide +kernel
theorem dX11_count_122 : decode cX11_count 122 = .ok (.iload_n 1, 1) := by decide +kernel
theorem dX11_count_123 : decode cX11_count 123 = .ok (.bipush 100, 2) := by decide +kernel
theorem dX11_count_125 : decode cX11_count 125 = .ok (.bipush 99, 2) := by decide +kernel
theorem dX11_count_127 : decode cX11_count 127 = .ok (.aload_n 0, 1) := by decide +kernel
theorem dX11_count_128 : decode cX11_count 128 = .ok (.getfield 130, 3) := by decide +kernel
theorem dX11_count_131 : decode cX11_count 131 = .ok (.iadd, 1) := by decide +kernel
theorem dX11_count_132 : decode cX11_count 132 = .ok (.invokestatic 139, 3) := by decide +kernel
theorem dX11_count_135 : decode cX11_count 135 = .ok (.ifCond .eq 22, 3) := by decide +kernel
theorem dX11_count_138 : decode cX11_count 138 = .ok (.aload_n 0, 1) := by decide +kernel
theorem dX11_count_139 : decode cX11_count 139 = .ok (.iload_n 1, 1) := by decide +kernel
theorem dX11_count_140 : decode cX11_count 140 = .ok (.bipush 100, 2) := by decide +kernel
theorem dX11_count_142 : decode cX11_count 142 = .ok (.isub, 1) := by decide +kernel
theorem dX11_count_143 : decode cX11_count 143 = .ok (.invokevirtual 282, 3) := by decide +kernel
theorem dX11_count_146 : decode cX11_count 146 = .ok (.ifCond .eq 7, 3) := by decide +kernel
theorem dX11_count_149 : decode cX11_count 149 = .ok (.iconst 1, 1) := by decide +kernel
theorem dX11_count_150 : decode cX11_count 150 = .ok (.goto 8, 3) := by decide +kernel
theorem dX11_count_153 : decode cX11_count 153 = .ok (.iconst 0, 1) := by decide +kernel
theorem dX11_count_154 : decode cX11_count 154 = .ok (.goto 4, 3) := by decide +kernel
theorem dX11_count_157 : decode cX11_count 157 = .ok (.iconst (-1), 1) := by decide +kernel
theorem dX11_count_158 : decode cX11_count 158 = .ok (.ireturn, 1) := by decide +kernel
theorem dX11_draw_0 : decode cX11_draw 0 = .ok (.aload_n 0, 1) := by decide +kernel
theorem dX11_draw_1 : decode cX11_draw 1 = .ok (.iload_n 1, 1) := by decide +kernel
theorem dX11_draw_2 : decode cX11_draw 2 = .ok (.invokevirtual 154, 3) := by decide +kernel
theorem dX11_draw_5 : decode cX11_draw 5 = .ok (.ifCond .eq 22, 3) := by decide +kernel
theorem dX11_draw_8 : decode cX11_draw 8 = .ok (.iload_n 2, 1) := by decide +kernel
theorem dX11_draw_9 : decode cX11_draw 9 = .ok (.iconst 1, 1) := by decide +kernel
theorem dX11_draw_10 : decode cX11_draw 10 = .ok (.bipush 60, 2) := by decide +kernel
theorem dX11_draw_12 : decode cX11_draw 12 = .ok (.invokestatic 139, 3) := by decide +kernel
theorem dX11_draw_15 : decode cX11_draw 15 = .ok (.ifCond .eq 12, 3) := by decide +kernel
theorem dX11_draw_18 : decode cX11_draw 18 = .ok (.iload_n 3, 1) := by decide +kernel
theorem dX11_draw_19 : decode cX11_draw 19 = .ok (.iconst 0, 1) := by decide +kernel
theorem dX11_draw_20 : decode cX11_draw 20 = .ok (.iconst 1, 1) := by decide +kernel
theorem dX11_draw_21 : decode cX11_draw 21 = .ok (.invokestatic 139, 3) := by decide +kernel
theorem dX11_draw_24 : decode cX11_draw 24 = .ok (.ifCond .ne 5, 3) := by decide +kernel
theorem dX11_draw_27 : decode cX11_draw 27 = .ok (.iconst (-1), 1) := by decide +kernel
theorem dX11_draw_28 : decode cX11_draw 28 = .ok (.ireturn, 1) := by decide +kernel
theorem dX11_draw_29 : decode cX11_draw 29 = .ok (.aload_n 0, 1) := by decide +kernel
theorem dX11_draw_30 : decode cX11_draw 30 = .ok (.iload_n 1, 1) := by decide +kernel
theorem dX11_draw_31 : decode cX11_draw 31 = .ok (.invokevirtual 282, 3) := by decide +kernel
theorem dX11_draw_34 : decode cX11_draw 34 = .ok (.ifCond .ne 6, 3) := by decide +kernel
theorem dX11_draw_37 : decode cX11_draw 37 = .ok (.bipush (-2), 2) := by decide +kernel
theorem dX11_draw_39 : decode cX11_draw 39 = .ok (.ireturn, 1) := by decide +kernel
theorem dX11_draw_40 : decode cX11_draw 40 = .ok (.aload_n 0, 1) := by decide +kernel
theorem dX11_draw_41 : decode cX11_draw 41 = .ok (.invokevirtual 291, 3) := by decide +kernel
theorem dX11_draw_44 : decode cX11_draw 44 = .ok (.iconst 0, 1) := by decide +kernel
theorem dX11_draw_45 : decode cX11_draw 45 = .ok (.istore 4, 2) := by decide +kernel
theorem dX11_draw_47 : decode cX11_draw 47 = .ok (.iload 4, 2) := by decide +kernel
theorem dX11_draw_49 : decode cX11_draw 49 = .ok (.aload_n 0, 1) := by decide +kernel
theorem dX11_draw_50 : decode cX11_draw 50 = .ok (.getfield 130, 3) := by decide +kernel
theorem dX11_draw_53 : decode cX11_draw 53 = .ok (.if_icmp .ge 27, 3) := by decide +kernel
theorem dX11_draw_56 : decode cX11_draw 56 = .ok (.aload_n 0, 1) := by decide +kernel
theorem dX11_draw_57 : decode cX11_draw 57 = .ok (.getfield 88, 3) := by decide +kernel
theorem dX11_draw_60 : decode cX11_draw 60 = .ok (.iload 4, 2) := by decide +kernel
theorem dX11_draw_62 : decode cX11_draw 62 = .ok (.iload 4, 2) := by decide +kernel
theorem dX11_draw_64 : decode cX11_draw 64 = .ok (.iload_n 1, 1) := by decide +kernel
theorem dX11_draw_65 : decode cX11_draw 65 = .ok (.if_icmp .ne 7, 3) := by decide +kernel
theorem dX11_draw_68 : decode cX11_draw 68 = .ok (.iconst 1, 1) := by decide +kernel
theorem dX11_draw_69 : decode cX11_draw 69 = .ok (.goto 4, 3) := by decide +kernel
theorem dX11_draw_72 : decode cX11_draw 72 = .ok (.iconst 0, 1) := by decide +kernel
theorem dX11_draw_73 : decode cX11_draw 73 = .ok (.bastore, 1) := by decide +kernel
theorem dX11_draw_74 : decode cX11_draw 74 = .ok (.iinc 4 1, 3) := by decide +kernel
theorem dX11_draw_77 : decode cX11_draw 77 = .ok (.goto (-30), 3) := by decide +kernel
theorem dX11_draw_80 : decode cX11_draw 80 = .ok (.iload_n 1, 1) := by decide +kernel
theorem dX11_draw_81 : decode cX11_draw 81 = .ok (.istore 4, 2) := by decide +kernel
theorem dX11_draw_83 : decode cX11_draw 83 = .ok (.iconst 0, 1) := by decide +kernel
theorem dX11_draw_84 : decode cX11_draw 84 = .ok (.istore 5, 2) := by decide +kernel
theorem dX11_draw_86 : decode cX11_draw 86 = .ok (.iload 5, 2) := by decide +kernel
theorem dX11_draw_88 : decode cX11_draw 88 = .ok (.iload_n 2, 1) := by decide +kernel
theorem dX11_draw_89 : decode cX11_draw 89 = .ok (.if_icmp .ge 70, 3) := by decide +kernel
theorem dX11_draw_92 : decode cX11_draw 92 = .ok (.aload_n 0, 1) := by decide +kernel
theorem dX11_draw_93 : decode cX11_draw 93 = .ok (.sipush 25173, 3) := by decide +kernel
theorem dX11_draw_96 : decode cX11_draw 96 = .ok (.aload_n 0, 1) := by decide +kernel
theorem dX11_draw_97 : decode cX11_draw 97 = .ok (.getfield 122, 3) := by decide +kernel
theorem dX11_draw_100 : decode cX11_draw 100 = .ok (.imul, 1) := by decide +kernel
theorem dX11_draw_101 : decode cX11_draw 101 = .ok (.sipush 13849, 3) := by decide +kernel
theorem dX11_draw_104 : decode cX11_draw 104 = .ok (.iadd, 1) := by decide +kernel
theorem dX11_draw_105 : decode cX11_draw 105 = .ok (.ldc_w 420, 3) := by decide +kernel
theorem dX11_draw_108 : decode cX11_draw 108 = .ok (.irem, 1) := by decide +kernel
theorem dX11_draw_109 : decode cX11_draw 109 = .ok (.putfield 122, 3) := by decide +kernel
theorem dX11_draw_112 : decode cX11_draw 112 = .ok (.aload_n 0, 1) := by decide +kernel
theorem dX11_draw_113 : decode cX11_draw 113 = .ok (.iload 4, 2) := by decide +kernel
theorem dX11_draw_115 : decode cX11_draw 115 = .ok (.invokevirtual 421, 3) := by decide +kernel
theorem dX11_draw_118 : decode cX11_draw 118 = .ok (.istore 6, 2) := by decide +kernel
theorem dX11_draw_120 : decode cX11_draw 120 = .ok (.iload 6, 2) := by decide +kernel
theorem dX11_draw_122 : decode cX11_draw 122 = .ok (.ifCond .ne 8, 3) := by decide +kernel
theorem dX11_draw_125 : decode cX11_draw 125 = .ok (.iload 4, 2) := by decide +kernel
theorem dX11_draw_127 : decode cX11_draw 127 = .ok (.goto 16, 3) := by decide +kernel
theorem dX11_draw_130 : decode cX11_draw 130 = .ok (.aload_n 0, 1) := by decide +kernel
theorem dX11_draw_131 : decode cX11_draw 131 = .ok (.iload 4, 2) := by decide +kernel
theorem dX11_draw_133 : decode cX11_draw 133 = .ok (.aload_n 0, 1) := by decide +kernel
theorem dX11_draw_134 : decode cX11_draw 134 = .ok (.getfield 122, 3) := by decide +kernel
theorem dX11_draw_137 : decode cX11_draw 137 = .ok (.iload 6, 2) := by decide +kernel
theorem dX11_draw_139 : decode cX11_draw 139 = .ok (.irem, 1) := by decide +kernel
theorem dX11_draw_140 : decode cX11_draw 140 = .ok (.invokevirtual 424, 3) := by decide +kernel
theorem dX11_draw_143 : decode cX11_draw 143 = .ok (.istore 4, 2) := by decide +kernel
theorem dX11_draw_145 : decode cX11_draw 145 = .ok (.aload_n 0, 1) := by decide +kernel
theorem dX11_draw_146 : decode cX11_draw 146 = .ok (.getfield 88, 3) := by decide +kernel
theorem dX11_draw_149 : decode cX11_draw 149 = .ok (.iload 4, 2) := by decide +kernel
theorem dX11_draw_151 : decode cX11_draw 151 = .ok (.iconst 1, 1) := by decide +kernel
theorem dX11_draw_152 : decode cX11_draw 152 = .ok (.bastore, 1) := by decide +kernel
theorem dX11_draw_153 : decode cX11_draw 153 = .ok (.iinc 5 1, 3) := by decide +kernel
theorem dX11_draw_156 : decode cX11_draw 156 = .ok (.goto (-70), 3) := by decide +kernel
theorem dX11_draw_159 : decode cX11_draw 159 = .ok (.iload_n 3, 1) := by decide +kernel
theorem dX11_draw_160 : decode cX11_draw 160 = .ok (.ifCond .ne 6, 3) := by decide +kernel
theorem dX11_draw_163 : decode cX11_draw 163 = .ok (.iload 4, 2) := by decide +kernel
theorem dX11_draw_165 : decode cX11_draw 165 = .ok (.ireturn, 1) := by decide +kernel
theorem dX11_draw_166 : decode cX11_draw 166 = .ok (.iconst 0, 1) := by decide +kernel
theorem dX11_draw_167 : decode cX11_draw 167 = .ok (.istore 5, 2) := by decide +kernel
theorem dX11_draw_169 : decode cX11_draw 169 = .ok (.iconst 0, 1) := by decide +kernel
theorem dX11_draw_170 : decode cX11_draw 170 = .ok (.istore 6, 2) := by decide +kernel
theorem dX11_draw_172 : decode cX11_draw 172 = .ok (.iload 6, 2) := by decide +kernel
theorem dX11_draw_174 : decode cX11_draw 174 = .ok (.aload_n 0, 1) := by decide +kernel
theorem dX11_draw_175 : decode cX11_draw 175 = .ok (.getfield 130, 3) := by decide +kernel
theorem dX11_draw_178 : decode cX11_draw 178 = .ok (.if_icmp .ge 29, 3) := by decide +kernel
theorem dX11_draw_181 : decode cX11_draw 181 = .ok (.iload 5, 2) := by decide +kernel
theorem dX11_draw_183 : decode cX11_draw 183 = .ok (.aload_n 0, 1) := by decide +kernel
theorem dX11_draw_184 : decode cX11_draw 184 = .ok (.getfield 88, 3) := by decide +kernel
theorem dX11_draw_187 : decode cX11_draw 187 = .ok (.iload 6, 2) := by decide +kernel
theorem dX11_draw_189 : decode cX11_draw 189 = .ok (.baload, 1) := by decide +kernel
theorem dX11_draw_190 : decode cX11_draw 190 = .ok (.ifCond .eq 7, 3) := by decide +kernel
theorem dX11_draw_193 : decode cX11_draw 193 = .ok (.iconst 1, 1) := by decide +kernel
theorem dX11_draw_194 : decode cX11_draw 194 = .ok (.goto 4, 3) := by decide +kernel
theorem dX11_draw_197 : decode cX11_draw 197 = .ok (.iconst 0, 1) := by decide +kernel
theorem dX11_draw_198 : decode cX11_draw 198 = .ok (.iadd, 1) := by decide +kernel
theorem dX11_draw_199 : decode cX11_draw 199 = .ok (.istore 5, 2) := by decide +kernel
theorem dX11_draw_201 : decode cX11_draw 201 = .ok (.iinc 6 1, 3) := by decide +kernel
theorem dX11_draw_204 : decode cX11_draw 204 = .ok (.goto (-32), 3) := by decide +kernel
theorem dX11_draw_207 : decode cX11_draw 207 = .ok (.iload 5, 2) := by decide +kernel
theorem dX11_draw_209 : decode cX11_draw 209 = .ok (.ireturn, 1) := by decide +kernel
theorem dX11_endsPiece_0 : decode cX11_endsPiece 0 = .ok (.aload_n 0, 1) := by decide +kernel
theorem dX11_endsPiece_1 : decode cX11_endsPiece 1 = .ok (.invokevirtual 194, 3) := by decide +kernel
theorem dX11_endsPiece_4 : decode cX11_endsPiece 4 = .ok (.bipush 10, 2) := by decide +kernel
theorem dX11_endsPiece_6 : decode cX11_endsPiece 6 = .ok (.if_icmp .ne 33, 3) := by decide +kernel
theorem dX11_endsPiece_9 : decode cX11_endsPiece 9 = .ok (.aload_n 0, 1) := by decide +kernel
theorem dX11_endsPiece_10 : decode cX11_endsPiece 10 = .ok (.bipush 10, 2) := by decide +kernel
theorem dX11_endsPiece_12 : decode cX11_endsPiece 12 = .ok (.iconst 0, 1) := by decide +kernel
theorem dX11_endsPiece_13 : decode cX11_endsPiece 13 = .ok (.invokevirtual 197, 3) := by decide +kernel
theorem dX11_endsPiece_16 : decode cX11_endsPiece 16 = .ok (.aload_n 0, 1) := by decide +kernel
theorem dX11_endsPiece_17 : decode cX11_endsPiece 17 = .ok (.aload_n 0, 1) := by decide +kernel
theorem dX11_endsPiece_18 : decode cX11_endsPiece 18 = .ok (.getfield 191, 3) := by decide +kernel
theorem dX11_endsPiece_21 : decode cX11_endsPiece 21 = .ok (.iconst 1, 1) := by decide +kernel
theorem dX11_endsPiece_22 : decode cX11_endsPiece 22 = .ok (.isub, 1) := by decide +kernel
theorem dX11_endsPiece_23 : decode cX11_endsPiece 23 = .ok (.putfield 191, 3) := by decide +kernel
theorem dX11_endsPiece_26 : decode cX11_endsPiece 26 = .ok (.aload_n 0, 1) := by decide +kernel
theorem dX11_endsPiece_27 : decode cX11_endsPiece 27 = .ok (.aload_n 0, 1) := by decide +kernel
theorem dX11_endsPiece_28 : decode cX11_endsPiece 28 = .ok (.getfield 188, 3) := by decide +kernel
theorem dX11_endsPiece_31 : decode cX11_endsPiece 31 = .ok (.iconst 1, 1) := by decide +kernel
theorem dX11_endsPiece_32 : decode cX11_endsPiece 32 = .ok (.isub, 1) := by decide +kernel
theorem dX11_endsPiece_33 : decode cX11_endsPiece 33 = .ok (.putfield 188, 3) := by decide +kernel
theorem dX11_endsPiece_36 : decode cX11_endsPiece 36 = .ok (.goto (-36), 3) := by decide +kernel
theorem dX11_endsPiece_39 : decode cX11_endsPiece 39 = .ok (.return_, 1) := by decide +kernel
theorem dX11_factOf_0 : decode cX11_factOf 0 = .ok (.iload_n 0, 1) := by decide +kernel
theorem dX11_factOf_1 : decode cX11_factOf 1 = .ok (.tableswitch 100 97 112 #[94, 97, 100, 100, 100, 89, 91, 100, 81, 100, 79, 87, 100, 100, 83, 85], 79) := by decide +kernel
theorem dX11_factOf_80 : decode cX11_factOf 80 = .ok (.iconst 0, 1) := by decide +kernel
theorem dX11_factOf_81 : decode cX11_factOf 81 = .ok (.ireturn, 1) := by decide +kernel
theorem dX11_factOf_82 : decode cX11_factOf 82 = .ok (.iconst 1, 1) := by decide +kernel
theorem dX11_factOf_83 : decode cX11_factOf 83 = .ok (.ireturn, 1) := by decide +kernel
theorem dX11_factOf_84 : decode cX11_factOf 84 = .ok (.iconst 2, 1) := by decide +kernel
theorem dX11_factOf_85 : decode cX11_factOf 85 = .ok (.ireturn, 1) := by decide +kernel
theorem dX11_factOf_86 : decode cX11_factOf 86 = .ok (.iconst 3, 1) := by decide +kernel
theorem dX11_factOf_87 : decode cX11_factOf 87 = .ok (.ireturn, 1) := by decide +kernel
theorem dX11_factOf_88 : decode cX11_factOf 88 = .ok (.iconst 4, 1) := by decide +kernel
theorem dX11_factOf_89 : decode cX11_factOf 89 = .ok (.ireturn, 1) := by decide +kernel
theorem dX11_factOf_90 : decode cX11_factOf 90 = .ok (.iconst 5, 1) := by decide +kernel
theorem dX11_factOf_91 : decode cX11_factOf 91 = .ok (.ireturn, 1) := by decide +kernel
theorem dX11_factOf_92 : decode cX11_factOf 92 = .ok (.bipush 6, 2) := by decide +kernel
theorem dX11_factOf_94 : decode cX11_factOf 94 = .ok (.ireturn, 1) := by decide +kernel
theorem dX11_factOf_95 : decode cX11_factOf 95 = .ok (.bipush 7, 2) := by decide +kernel
theorem dX11_factOf_97 : decode cX11_factOf 97 = .ok (.ireturn, 1) := by decide +kernel
theorem dX11_factOf_98 : decode cX11_factOf 98 = .ok (.bipush 8, 2) := by decide +kernel
theorem dX11_factOf_100 : decode cX11_factOf 100 = .ok (.ireturn, 1) := by decide +kernel
theorem dX11_factOf_101 : decode cX11_factOf 101 = .ok (.iconst (-1), 1) := by decide +kernel
theorem dX11_factOf_102 : decode cX11_factOf 102 = .ok (.ireturn, 1) := by decide +kernel
theorem dX11_far_0 : decode cX11_far 0 = .ok (.iload_n 1, 1) := by decide +kernel
theorem dX11_far_1 : decode cX11_far 1 = .ok (.iconst 0, 1) := by decide +kernel
theorem dX11_far_2 : decode cX11_far 2 = .ok (.iconst 2, 1) := by decide +kernel
theorem dX11_far_3 : decode cX11_far 3 = .ok (.invokestatic 139, 3) := by decide +kernel
theorem dX11_far_6 : decode cX11_far 6 = .ok (.ifCond .ne 5, 3) := by decide +kernel
theorem dX11_far_9 : decode cX11_far 9 = .ok (.iconst (-1), 1) := by decide +kernel
theorem dX11_far_10 : decode cX11_far 10 = .ok (.ireturn, 1) := by decide +kernel
theorem dX11_far_11 : decode cX11_far 11 = .ok (.aload_n 0, 1) := by decide +kernel
theorem dX11_far_12 : decode cX11_far 12 = .ok (.invokevirtual 306, 3) := by decide +kernel
theorem dX11_far_15 : decode cX11_far 15 = .ok (.iconst (-1), 1) := by decide +kernel
theorem dX11_far_16 : decode cX11_far 16 = .ok (.istore_n 2, 1) := by decide +kernel
theorem dX11_far_17 : decode cX11_far 17 = .ok (.iconst (-1), 1) := by decide +kernel
theorem dX11_far_18 : decode cX11_far 18 = .ok (.istore_n 3, 1) := by decide +kernel
theorem dX11_far_19 : decode cX11_far 19 = .ok (.iconst (-1), 1) := by decide +kernel
theorem dX11_far_20 : decode cX11_far 20 = .ok (.istore 4, 2) := by decide +kernel
theorem dX11_far_22 : decode cX11_far 22 = .ok (.iconst 0, 1) := by decide +kernel
theorem dX11_far_23 : decode cX11_far 23 = .ok (.istore 5, 2) := by decide +kernel
theorem dX11_far_25 : decode cX11_far 25 = .ok (.iload 5, 2) := by decide +kernel
theorem dX11_far_27 : decode cX11_far 27 = .ok (.aload_n 0, 1) := by decide +kernel
theorem dX11_far_28 : decode cX11_far 28 = .ok (.getfield 130, 3) := by decide +kernel
theorem dX11_far_31 : decode cX11_far 31 = .ok (.if_icmp .ge 83, 3) := by decide +kernel
theorem dX11_far_34 : decode cX11_far 34 = .ok (.iconst 0, 1) := by decide +kernel
theorem dX11_far_35 : decode cX11_far 35 = .ok (.istore 6, 2) := by decide +kernel
theorem dX11_far_37 : decode cX11_far 37 = .ok (.iload 6, 2) := by decide +kernel
theorem dX11_far_39 : decode cX11_far 39 = .ok (.aload_n 0, 1) := by decide +kernel
theorem dX11_far_40 : decode cX11_far 40 = .ok (.getfield 130, 3) := by decide +kernel
theorem dX11_far_43 : decode cX11_far 43 = .ok (.if_icmp .ge 65, 3) := by decide +kernel
theorem dX11_far_46 : decode cX11_far 46 = .ok (.iload 5, 2) := by decide +kernel
theorem dX11_far_48 : decode cX11_far 48 = .ok (.iload 6, 2) := by decide +kernel
theorem dX11_far_50 : decode cX11_far 50 = .ok (.if_icmp .eq 52, 3) := by decide +kernel
theorem dX11_far_53 : decode cX11_far 53 = .ok (.aload_n 0, 1) := by decide +kernel
theorem dX11_far_54 : decode cX11_far 54 = .ok (.getfield 81, 3) := by decide +kernel
theorem dX11_far_57 : decode cX11_far 57 = .ok (.bipush 40, 2) := by decide +kernel
theorem dX11_far_59 : decode cX11_far 59 = .ok (.iload 5, 2) := by decide +kernel
theorem dX11_far_61 : decode cX11_far 61 = .ok (.imul, 1) := by decide +kernel
theorem dX11_far_62 : decode cX11_far 62 = .ok (.iload 6, 2) := by decide +kernel
theorem dX11_far_64 : decode cX11_far 64 = .ok (.iadd, 1) := by decide +kernel
theorem dX11_far_65 : decode cX11_far 65 = .ok (.iaload, 1) := by decide +kernel
theorem dX11_far_66 : decode cX11_far 66 = .ok (.ldc 129, 2) := by decide +kernel
theorem dX11_far_68 : decode cX11_far 68 = .ok (.if_icmp .ge 34, 3) := by decide +kernel
theorem dX11_far_71 : decode cX11_far 71 = .ok (.aload_n 0, 1) := by decide +kernel
theorem dX11_far_72 : decode cX11_far 72 = .ok (.iload 5, 2) := by decide +kernel
theorem dX11_far_74 : decode cX11_far 74 = .ok (.iload 6, 2) := by decide +kernel
theorem dX11_far_76 : decode cX11_far 76 = .ok (.invokevirtual 314, 3) := by decide +kernel
theorem dX11_far_79 : decode cX11_far 79 = .ok (.iload_n 2, 1) := by decide +kernel
theorem dX11_far_80 : decode cX11_far 80 = .ok (.if_icmp .gt 6, 3) := by decide +kernel
theorem dX11_far_83 : decode cX11_far 83 = .ok (.goto 19, 3) := by decide +kernel
theorem dX11_far_86 : decode cX11_far 86 = .ok (.aload_n 0, 1) := by decide +kernel
theorem dX11_far_87 : decode cX11_far 87 = .ok (.iload 5, 2) := by decide +kernel
theorem dX11_far_89 : decode cX11_far 89 = .ok (.iload 6, 2) := by decide +kernel
theorem dX11_far_91 : decode cX11_far 91 = .ok (.invokevirtual 314, 3) := by decide +kernel
theorem dX11_far_94 : decode cX11_far 94 = .ok (.istore_n 2, 1) := by decide +kernel
theorem dX11_far_95 : decode cX11_far 95 = .ok (.iload 5, 2) := by decide +kernel
theorem dX11_far_97 : decode cX11_far 97 = .ok (.istore_n 3, 1) := by decide +kernel
theorem dX11_far_98 : decode cX11_far 98 = .ok (.iload 6, 2) := by decide +kernel
theorem dX11_far_100 : decode cX11_far 100 = .ok (.istore 4, 2) := by decide +kernel
theorem dX11_far_102 : decode cX11_far 102 = .ok (.iinc 6 1, 3) := by decide +kernel
theorem dX11_far_105 : decode cX11_far 105 = .ok (.goto (-68), 3) := by decide +kernel
theorem dX11_far_108 : decode cX11_far 108 = .ok (.iinc 5 1, 3) := by decide +kernel
theorem dX11_far_111 : decode cX11_far 111 = .ok (.goto (-86), 3) := by decide +kernel
theorem dX11_far_114 : decode cX11_far 114 = .ok (.iload_n 2, 1) := by decide +kernel
theorem dX11_far_115 : decode cX11_far 115 = .ok (.iconst (-1), 1) := by decide +kernel
theorem dX11_far_116 : decode cX11_far 116 = .ok (.if_icmp .ne 6, 3) := by decide +kernel
theorem dX11_far_119 : decode cX11_far 119 = .ok (.bipush (-2), 2) := by decide +kernel
theorem dX11_far_121 : decode cX11_far 121 = .ok (.ireturn, 1) := by decide +kernel
theorem dX11_far_122 : decode cX11_far 122 = .ok (.iload_n 1, 1) := by decide +kernel
theorem dX11_far_123 : decode cX11_far 123 = .ok (.ifCond .ne 7, 3) := by decide +kernel
theorem dX11_far_126 : decode cX11_far 126 = .ok (.iload_n 2, 1) := by decide +kernel
theorem dX11_far_127 : decode cX11_far 127 = .ok (.goto 14, 3) := by decide +kernel
theorem dX11_far_130 : decode cX11_far 130 = .ok (.iload_n 1, 1) := by decide +kernel
theorem dX11_far_131 : decode cX11_far 131 = .ok (.iconst 1, 1) := by decide +kernel
theorem dX11_far_132 : decode cX11_far 132 = .ok (.if_icmp .ne 7, 3) := by decide +kernel
theorem dX11_far_135 : decode cX11_far 135 = .ok (.iload_n 3, 1) := by decide +kernel
theorem dX11_far_136 : decode cX11_far 136 = .ok (.goto 5, 3) := by decide +kernel
theorem dX11_far_139 : decode cX11_far 139 = .ok (.iload 4, 2) := by decide +kernel
theorem dX11_far_141 : decode cX11_far 141 = .ok (.ireturn, 1) := by decide +kernel
theorem dX11_farBetween_0 : decode cX11_farBetween 0 = .ok (.aload_n 0, 1) := by decide +kernel
theorem dX11_farBetween_1 : decode cX11_farBetween 1 = .ok (.iload_n 1, 1) := by decide +kernel
theorem dX11_farBetween_2 : decode cX11_farBetween 2 = .ok (.invokevirtual 361, 3) := by decide +kernel
theorem dX11_farBetween_5 : decode cX11_farBetween 5 = .ok (.aload_n 0, 1) := by decide +kernel
theorem dX11_farBetween_6 : decode cX11_farBetween 6 = .ok (.iload_n 2, 1) := by decide +kernel
theorem dX11_farBetween_7 : decode cX11_farBetween 7 = .ok (.invokevirtual 389, 3) := by decide +kernel
theorem dX11_farBetween_10 : decode cX11_farBetween 10 = .ok (.ireturn, 1) := by decide +kernel
theorem dX11_farBy_0 : decode cX11_farBy 0 = .ok (.aload_n 0, 1) := by decide +kernel
theorem dX11_farBy_1 : decode cX11_farBy 1 = .ok (.iload_n 1, 1) := by decide +kernel
theorem dX11_farBy_2 : decode cX11_farBy 2 = .ok (.invokevirtual 154, 3) := by decide +kernel
theorem dX11_farBy_5 : decode cX11_farBy 5 = .ok (.ifCond .eq 20, 3) := by decide +kernel
theorem dX11_farBy_8 : decode cX11_farBy 8 = .ok (.aload_n 0, 1) := by decide +kernel
theorem dX11_farBy_9 : decode cX11_farBy 9 = .ok (.iload_n 2, 1) := by decide +kernel
theorem dX11_farBy_10 : decode cX11_farBy 10 = .ok (.invokevirtual 154, 3) := by decide +kernel
theorem dX11_farBy_13 : decode cX11_farBy 13 = .ok (.ifCond .eq 12, 3) := by decide +kernel
theorem dX11_farBy_16 : decode cX11_farBy 16 = .ok (.aload_n 0, 1) := by decide +kernel
theorem dX11_farBy_17 : decode cX11_farBy 17 = .ok (.iload_n 1, 1) := by decide +kernel
theorem dX11_farBy_18 : decode cX11_farBy 18 = .ok (.iload_n 2, 1) := by decide +kernel
theorem dX11_farBy_19 : decode cX11_farBy 19 = .ok (.invokevirtual 392, 3) := by decide +kernel
theorem dX11_farBy_22 : decode cX11_farBy 22 = .ok (.goto 4, 3) := by decide +kernel
theorem dX11_farBy_25 : decode cX11_farBy 25 = .ok (.iconst (-1), 1) := by decide +kernel
theorem dX11_farBy_26 : decode cX11_farBy 26 = .ok (.ireturn, 1) := by decide +kernel
theorem dX11_farFromRow_0 : decode cX11_farFromRow 0 = .ok (.iconst 0, 1) := by decide +kernel
theorem dX11_farFromRow_1 : decode cX11_farFromRow 1 = .ok (.istore_n 2, 1) := by decide +kernel
theorem dX11_farFromRow_2 : decode cX11_farFromRow 2 = .ok (.iload_n 2, 1) := by decide +kernel
theorem dX11_farFromRow_3 : decode cX11_farFromRow 3 = .ok (.aload_n 0, 1) := by decide +kernel
theorem dX11_farFromRow_4 : decode cX11_farFromRow 4 = .ok (.getfield 136, 3) := by decide +kernel
theorem dX11_farFromRow_7 : decode cX11_farFromRow 7 = .ok (.if_icmp .gt 144, 3) := by decide +kernel
theorem dX11_farFromRow_10 : decode cX11_farFromRow 10 = .ok (.iconst 0, 1) := by decide +kernel
theorem dX11_farFromRow_11 : decode cX11_farFromRow 11 = .ok (.istore_n 3, 1) := by decide +kernel
theorem dX11_farFromRow_12 : decode cX11_farFromRow 12 = .ok (.iload_n 3, 1) := by decide +kernel
theorem dX11_farFromRow_13 : decode cX11_farFromRow 13 = .ok (.aload_n 0, 1) := by decide +kernel
theorem dX11_farFromRow_14 : decode cX11_farFromRow 14 = .ok (.getfield 7, 3) := by decide +kernel
theorem dX11_farFromRow_17 : decode cX11_farFromRow 17 = .ok (.iload_n 1, 1) := by decide +kernel
theorem dX11_farFromRow_18 : decode cX11_farFromRow 18 = .ok (.iaload, 1) := by decide +kernel
theorem dX11_farFromRow_19 : decode cX11_farFromRow 19 = .ok (.if_icmp .gt 126, 3) := by decide +kernel
theorem dX11_farFromRow_22 : decode cX11_farFromRow 22 = .ok (.iload_n 2, 1) := by decide +kernel
theorem dX11_farFromRow_23 : decode cX11_farFromRow 23 = .ok (.ifCond .ne 7, 3) := by decide +kernel
theorem dX11_farFromRow_26 : decode cX11_farFromRow 26 = .ok (.iload_n 3, 1) := by decide +kernel
theorem dX11_farFromRow_27 : decode cX11_farFromRow 27 = .ok (.goto 51, 3) := by decide +kernel
theorem dX11_farFromRow_30 : decode cX11_farFromRow 30 = .ok (.iload_n 3, 1) := by decide +kernel
theorem dX11_farFromRow_31 : decode cX11_farFromRow 31 = .ok (.ifCond .ne 7, 3) := by decide +kernel
theorem dX11_farFromRow_34 : decode cX11_farFromRow 34 = .ok (.iload_n 2, 1) := by decide +kernel
theorem dX11_farFromRow_35 : decode cX11_farFromRow 35 = .ok (.goto 43, 3) := by decide +kernel
theorem dX11_farFromRow_38 : decode cX11_farFromRow 38 = .ok (.aload_n 0, 1) := by decide +kernel
theorem dX11_farFromRow_39 : decode cX11_farFromRow 39 = .ok (.getfield 110, 3) := by decide +kernel
theorem dX11_farFromRow_42 : decode cX11_farFromRow 42 = .ok (.bipush 9, 2) := by decide +kernel
theorem dX11_farFromRow_44 : decode cX11_farFromRow 44 = .ok (.iload_n 2, 1) := by decide +kernel
theorem dX11_farFromRow_45 : decode cX11_farFromRow 45 = .ok (.iconst 1, 1) := by decide +kernel
theorem dX11_farFromRow_46 : decode cX11_farFromRow 46 = .ok (.isub, 1) := by decide +kernel
theorem dX11_farFromRow_47 : decode cX11_farFromRow 47 = .ok (.imul, 1) := by decide +kernel
theorem dX11_farFromRow_48 : decode cX11_farFromRow 48 = .ok (.iload_n 3, 1) := by decide +kernel
theorem dX11_farFromRow_49 : decode cX11_farFromRow 49 = .ok (.iadd, 1) := by decide +kernel
theorem dX11_farFromRow_50 : decode cX11_farFromRow 50 = .ok (.iconst 1, 1) := by decide +kernel
theorem dX11_farFromRow_51 : decode cX11_farFromRow 51 = .ok (.isub, 1) := by decide +kernel
theorem dX11_farFromRow_52 : decode cX11_farFromRow 52 = .ok (.iaload, 1) := by decide +kernel
theorem dX11_farFromRow_53 : decode cX11_farFromRow 53 = .ok (.aload_n 0, 1) := by decide +kernel
theorem dX11_farFromRow_54 : decode cX11_farFromRow 54 = .ok (.getfield 26, 3) := by decide +kernel
theorem dX11_farFromRow_57 : decode cX11_farFromRow 57 = .ok (.iload_n 2, 1) := by decide +kernel
theorem dX11_farFromRow_58 : decode cX11_farFromRow 58 = .ok (.iconst 1, 1) := by decide +kernel
theorem dX11_farFromRow_59 : decode cX11_farFromRow 59 = .ok (.isub, 1) := by decide +kernel
theorem dX11_farFromRow_60 : decode cX11_farFromRow 60 = .ok (.iaload, 1) := by decide +kernel
theorem dX11_farFromRow_61 : decode cX11_farFromRow 61 = .ok (.aload_n 0, 1) := by decide +kernel
theorem dX11_farFromRow_62 : decode cX11_farFromRow 62 = .ok (.iload_n 1, 1) := by decide +kernel
theorem dX11_farFromRow_63 : decode cX11_farFromRow 63 = .ok (.iload_n 3, 1) := by decide +kernel
theorem dX11_farFromRow_64 : decode cX11_farFromRow 64 = .ok (.iconst 1, 1) := by decide +kernel
theorem dX11_farFromRow_65 : decode cX11_farFromRow 65 = .ok (.isub, 1) := by decide +kernel
theorem dX11_farFromRow_66 : decode cX11_farFromRow 66 = .ok (.invokevirtual 262, 3) := by decide +kernel
theorem dX11_farFromRow_69 : decode cX11_farFromRow 69 = .ok (.if_icmp .ne 7, 3) := by decide +kernel
theorem dX11_farFromRow_72 : decode cX11_farFromRow 72 = .ok (.iconst 0, 1) := by decide +kernel
theorem dX11_farFromRow_73 : decode cX11_farFromRow 73 = .ok (.goto 4, 3) := by decide +kernel
theorem dX11_farFromRow_76 : decode cX11_farFromRow 76 = .ok (.iconst 1, 1) := by decide +kernel
theorem dX11_farFromRow_77 : decode cX11_farFromRow 77 = .ok (.iadd, 1) := by decide +kernel
theorem dX11_farFromRow_78 : decode cX11_farFromRow 78 = .ok (.istore 4, 2) := by decide +kernel
theorem dX11_farFromRow_80 : decode cX11_farFromRow 80 = .ok (.iload_n 2, 1) := by decide +kernel
theorem dX11_farFromRow_81 : decode cX11_farFromRow 81 = .ok (.ifCond .le 45, 3) := by decide +kernel
theorem dX11_farFromRow_84 : decode cX11_farFromRow 84 = .ok (.iload_n 3, 1) := by decide +kernel
theorem dX11_farFromRow_85 : decode cX11_farFromRow 85 = .ok (.ifCond .le 41, 3) := by decide +kernel
theorem dX11_farFromRow_88 : decode cX11_farFromRow 88 = .ok (.iload 4, 2) := by decide +kernel
theorem dX11_farFromRow_90 : decode cX11_farFromRow 90 = .ok (.iconst 1, 1) := by decide +kernel
theorem dX11_farFromRow_91 : decode cX11_farFromRow 91 = .ok (.aload_n 0, 1) := by decide +kernel
theorem dX11_farFromRow_92 : decode cX11_farFromRow 92 = .ok (.getfield 110, 3) := by decide +kernel
theorem dX11_farFromRow_95 : decode cX11_farFromRow 95 = .ok (.bipush 9, 2) := by decide +kernel
theorem dX11_farFromRow_97 : decode cX11_farFromRow 97 = .ok (.iload_n 2, 1) := by decide +kernel
theorem dX11_farFromRow_98 : decode cX11_farFromRow 98 = .ok (.iconst 1, 1) := by decide +kernel
theorem dX11_farFromRow_99 : decode cX11_farFromRow 99 = .ok (.isub, 1) := by decide +kernel
theorem dX11_farFromRow_100 : decode cX11_farFromRow 100 = .ok (.imul, 1) := by decide +kernel
theorem dX11_farFromRow_101 : decode cX11_farFromRow 101 = .ok (.iload_n 3, 1) := by decide +kernel
theorem dX11_farFromRow_102 : decode cX11_farFromRow 102 = .ok (.iadd, 1) := by decide +kernel
theorem dX11_farFromRow_103 : decode cX11_farFromRow 103 = .ok (.iaload, 1) := by decide +kernel
theorem dX11_farFromRow_104 : decode cX11_farFromRow 104 = .ok (.aload_n 0, 1) := by decide +kernel
theorem dX11_farFromRow_105 : decode cX11_farFromRow 105 = .ok (.getfield 110, 3) := by decide +kernel
theorem dX11_farFromRow_108 : decode cX11_farFromRow 108 = .ok (.bipush 9, 2) := by decide +kernel
theorem dX11_farFromRow_110 : decode cX11_farFromRow 110 = .ok (.iload_n 2, 1) := by decide +kernel
theorem dX11_farFromRow_111 : decode cX11_farFromRow 111 = .ok (.imul, 1) := by decide +kernel
theorem dX11_farFromRow_112 : decode cX11_farFromRow 112 = .ok (.iload_n 3, 1) := by decide +kernel
theorem dX11_farFromRow_113 : decode cX11_farFromRow 113 = .ok (.iadd, 1) := by decide +kernel
theorem dX11_farFromRow_114 : decode cX11_farFromRow 114 = .ok (.iconst 1, 1) := by decide +kernel
theorem dX11_farFromRow_115 : decode cX11_farFromRow 115 = .ok (.isub, 1) := by decide +kernel
theorem dX11_farFromRow_116 : decode cX11_farFromRow 116 = .ok (.iaload, 1) := by decide +kernel
theorem dX11_farFromRow_117 : decode cX11_farFromRow 117 = .ok (.invokestatic 303, 3) := by decide +kernel
theorem dX11_farFromRow_120 : decode cX11_farFromRow 120 = .ok (.iadd, 1) := by decide +kernel
theorem dX11_farFromRow_121 : decode cX11_farFromRow 121 = .ok (.invokestatic 303, 3) := by decide +kernel
theorem dX11_farFromRow_124 : decode cX11_farFromRow 124 = .ok (.istore 4, 2) := by decide +kernel
theorem dX11_farFromRow_126 : decode cX11_farFromRow 126 = .ok (.aload_n 0, 1) := by decide +kernel
theorem dX11_farFromRow_127 : decode cX11_farFromRow 127 = .ok (.getfield 110, 3) := by decide +kernel
theorem dX11_farFromRow_130 : decode cX11_farFromRow 130 = .ok (.bipush 9, 2) := by decide +kernel
theorem dX11_farFromRow_132 : decode cX11_farFromRow 132 = .ok (.iload_n 2, 1) := by decide +kernel
theorem dX11_farFromRow_133 : decode cX11_farFromRow 133 = .ok (.imul, 1) := by decide +kernel
theorem dX11_farFromRow_134 : decode cX11_farFromRow 134 = .ok (.iload_n 3, 1) := by decide +kernel
theorem dX11_farFromRow_135 : decode cX11_farFromRow 135 = .ok (.iadd, 1) := by decide +kernel
theorem dX11_farFromRow_136 : decode cX11_farFromRow 136 = .ok (.iload 4, 2) := by decide +kernel
theorem dX11_farFromRow_138 : decode cX11_farFromRow 138 = .ok (.iastore, 1) := by decide +kernel
theorem dX11_farFromRow_139 : decode cX11_farFromRow 139 = .ok (.iinc 3 1, 3) := by decide +kernel
theorem dX11_farFromRow_142 : decode cX11_farFromRow 142 = .ok (.goto (-130), 3) := by decide +kernel
theorem dX11_farFromRow_145 : decode cX11_farFromRow 145 = .ok (.iinc 2 1, 3) := by decide +kernel
theorem dX11_farFromRow_148 : decode cX11_farFromRow 148 = .ok (.goto (-146), 3) := by decide +kernel
theorem dX11_farFromRow_151 : decode cX11_farFromRow 151 = .ok (.aload_n 0, 1) := by decide +kernel
theorem dX11_farFromRow_152 : decode cX11_farFromRow 152 = .ok (.getfield 110, 3) := by decide +kernel
theorem dX11_farFromRow_155 : decode cX11_farFromRow 155 = .ok (.bipush 9, 2) := by decide +kernel
theorem dX11_farFromRow_157 : decode cX11_farFromRow 157 = .ok (.aload_n 0, 1) := by decide +kernel
theorem dX11_farFromRow_158 : decode cX11_farFromRow 158 = .ok (.getfield 136, 3) := by decide +kernel
theorem dX11_farFromRow_161 : decode cX11_farFromRow 161 = .ok (.imul, 1) := by decide +kernel
theorem dX11_farFromRow_162 : decode cX11_farFromRow 162 = .ok (.aload_n 0, 1) := by decide +kernel
theorem dX11_farFromRow_163 : decode cX11_farFromRow 163 = .ok (.getfield 7, 3) := by decide +kernel
theorem dX11_farFromRow_166 : decode cX11_farFromRow 166 = .ok (.iload_n 1, 1) := by decide +kernel
theorem dX11_farFromRow_167 : decode cX11_farFromRow 167 = .ok (.iaload, 1) := by decide +kernel
theorem dX11_farFromRow_168 : decode cX11_farFromRow 168 = .ok (.iadd, 1) := by decide +kernel
theorem dX11_farFromRow_169 : decode cX11_farFromRow 169 = .ok (.iaload, 1) := by decide +kernel
theorem dX11_farFromRow_170 : decode cX11_farFromRow 170 = .ok (.ireturn, 1) := by decide +kernel
theorem dX11_feed_0 : decode cX11_feed 0 = .ok (.aload_n 0, 1) := by decide +kernel
theorem dX11_feed_1 : decode cX11_feed 1 = .ok (.getfield 133, 3) := by decide +kernel
theorem dX11_feed_4 : decode cX11_feed 4 = .ok (.bipush 20, 2) := by decide +kernel
theorem dX11_feed_6 : decode cX11_feed 6 = .ok (.iadd, 1) := by decide +kernel
theorem dX11_feed_7 : decode cX11_feed 7 = .ok (.sipush 200, 3) := by decide +kernel
theorem dX11_feed_10 : decode cX11_feed 10 = .ok (.if_icmp .le 5, 3) := by decide +kernel
theorem dX11_feed_13 : decode cX11_feed 13 = .ok (.iconst (-1), 1) := by decide +kernel
theorem dX11_feed_14 : decode cX11_feed 14 = .ok (.ireturn, 1) := by decide +kernel
theorem dX11_feed_15 : decode cX11_feed 15 = .ok (.aload_n 0, 1) := by decide +kernel
theorem dX11_feed_16 : decode cX11_feed 16 = .ok (.iload_n 1, 1) := by decide +kernel
theorem dX11_feed_17 : decode cX11_feed 17 = .ok (.invokevirtual 157, 3) := by decide +kernel
theorem dX11_feed_20 : decode cX11_feed 20 = .ok (.aload_n 0, 1) := by decide +kernel
theorem dX11_feed_21 : decode cX11_feed 21 = .ok (.iload_n 2, 1) := by decide +kernel
theorem dX11_feed_22 : decode cX11_feed 22 = .ok (.invokevirtual 157, 3) := by decide +kernel
theorem dX11_feed_25 : decode cX11_feed 25 = .ok (.aload_n 0, 1) := by decide +kernel
theorem dX11_feed_26 : decode cX11_feed 26 = .ok (.iload_n 3, 1) := by decide +kernel
theorem dX11_feed_27 : decode cX11_feed 27 = .ok (.invokevirtual 157, 3) := by decide +kernel
theorem dX11_feed_30 : decode cX11_feed 30 = .ok (.aload_n 0, 1) := by decide +kernel
theorem dX11_feed_31 : decode cX11_feed 31 = .ok (.iload 4, 2) := by decide +kernel
theorem dX11_feed_33 : decode cX11_feed 33 = .ok (.invokevirtual 157, 3) := by decide +kernel
theorem dX11_feed_36 : decode cX11_feed 36 = .ok (.aload_n 0, 1) := by decide +kernel
theorem dX11_feed_37 : decode cX11_feed 37 = .ok (.iload 5, 2) := by decide +kernel
theorem dX11_feed_39 : decode cX11_feed 39 = .ok (.invokevirtual 157, 3) := by decide +kernel
theorem dX11_feed_42 : decode cX11_feed 42 = .ok (.aload_n 0, 1) := by decide +kernel
theorem dX11_feed_43 : decode cX11_feed 43 = .ok (.getfield 133, 3) := by decide +kernel
theorem dX11_feed_46 : decode cX11_feed 46 = .ok (.ireturn, 1) := by decide +kernel
theorem dX11_feels_0 : decode cX11_feels 0 = .ok (.aload_n 0, 1) := by decide +kernel
theorem dX11_feels_1 : decode cX11_feels 1 = .ok (.getfield 69, 3) := by decide +kernel
theorem dX11_feels_4 : decode cX11_feels 4 = .ok (.iconst 0, 1) := by decide +kernel
theorem dX11_feels_5 : decode cX11_feels 5 = .ok (.iload_n 3, 1) := by decide +kernel
theorem dX11_feels_6 : decode cX11_feels 6 = .ok (.iastore, 1) := by decide +kernel
theorem dX11_feels_7 : decode cX11_feels 7 = .ok (.aload_n 0, 1) := by decide +kernel
theorem dX11_feels_8 : decode cX11_feels 8 = .ok (.getfield 69, 3) := by decide +kernel
theorem dX11_feels_11 : decode cX11_feels 11 = .ok (.iconst 1, 1) := by decide +kernel
theorem dX11_feels_12 : decode cX11_feels 12 = .ok (.iload 4, 2) := by decide +kernel
theorem dX11_feels_14 : decode cX11_feels 14 = .ok (.iastore, 1) := by decide +kernel
theorem dX11_feels_15 : decode cX11_feels 15 = .ok (.aload_n 0, 1) := by decide +kernel
theorem dX11_feels_16 : decode cX11_feels 16 = .ok (.getfield 69, 3) := by decide +kernel
theorem dX11_feels_19 : decode cX11_feels 19 = .ok (.iconst 2, 1) := by decide +kernel
theorem dX11_feels_20 : decode cX11_feels 20 = .ok (.iload_n 3, 1) := by decide +kernel
theorem dX11_feels_21 : decode cX11_feels 21 = .ok (.iconst 1, 1) := by decide +kernel
theorem dX11_feels_22 : decode cX11_feels 22 = .ok (.if_icmp .ne 8, 3) := by decide +kernel
theorem dX11_feels_25 : decode cX11_feels 25 = .ok (.bipush 26, 2) := by decide +kernel
theorem dX11_feels_27 : decode cX11_feels 27 = .ok (.goto 10, 3) := by decide +kernel
theorem dX11_feels_30 : decode cX11_feels 30 = .ok (.aload_n 0, 1) := by decide +kernel
theorem dX11_feels_31 : decode cX11_feels 31 = .ok (.iload_n 1, 1) := by decide +kernel
theorem dX11_feels_32 : decode cX11_feels 32 = .ok (.iload 4, 2) := by decide +kernel
theorem dX11_feels_34 : decode cX11_feels 34 = .ok (.invokevirtual 262, 3) := by decide +kernel
theorem dX11_feels_37 : decode cX11_feels 37 = .ok (.iastore, 1) := by decide +kernel
theorem dX11_feels_38 : decode cX11_feels 38 = .ok (.aload_n 0, 1) := by decide +kernel
theorem dX11_feels_39 : decode cX11_feels 39 = .ok (.getfield 69, 3) := by decide +kernel
theorem dX11_feels_42 : decode cX11_feels 42 = .ok (.iconst 3, 1) := by decide +kernel
theorem dX11_feels_43 : decode cX11_feels 43 = .ok (.iload_n 3, 1) := by decide +kernel
theorem dX11_feels_44 : decode cX11_feels 44 = .ok (.iconst 2, 1) := by decide +kernel
theorem dX11_feels_45 : decode cX11_feels 45 = .ok (.if_icmp .ne 8, 3) := by decide +kernel
theorem dX11_feels_48 : decode cX11_feels 48 = .ok (.bipush 26, 2) := by decide +kernel
theorem dX11_feels_50 : decode cX11_feels 50 = .ok (.goto 27, 3) := by decide +kernel
theorem dX11_feels_53 : decode cX11_feels 53 = .ok (.iload_n 3, 1) := by decide +kernel
theorem dX11_feels_54 : decode cX11_feels 54 = .ok (.iconst 3, 1) := by decide +kernel
theorem dX11_feels_55 : decode cX11_feels 55 = .ok (.if_icmp .ne 15, 3) := by decide +kernel
theorem dX11_feels_58 : decode cX11_feels 58 = .ok (.aload_n 0, 1) := by decide +kernel
theorem dX11_feels_59 : decode cX11_feels 59 = .ok (.iload_n 1, 1) := by decide +kernel
theorem dX11_feels_60 : decode cX11_feels 60 = .ok (.iload 4, 2) := by decide +kernel
theorem dX11_feels_62 : decode cX11_feels 62 = .ok (.iconst 1, 1) := by decide +kernel
theorem dX11_feels_63 : decode cX11_feels 63 = .ok (.iadd, 1) := by decide +kernel
theorem dX11_feels_64 : decode cX11_feels 64 = .ok (.invokevirtual 262, 3) := by decide +kernel
theorem dX11_feels_67 : decode cX11_feels 67 = .ok (.goto 10, 3) := by decide +kernel
theorem dX11_feels_70 : decode cX11_feels 70 = .ok (.aload_n 0, 1) := by decide +kernel
theorem dX11_feels_71 : decode cX11_feels 71 = .ok (.iload_n 2, 1) := by decide +kernel
theorem dX11_feels_72 : decode cX11_feels 72 = .ok (.iload 4, 2) := by decide +kernel
theorem dX11_feels_74 : decode cX11_feels 74 = .ok (.invokevirtual 262, 3) := by decide +kernel
theorem dX11_feels_77 : decode cX11_feels 77 = .ok (.iastore, 1) := by decide +kernel
theorem dX11_feels_78 : decode cX11_feels 78 = .ok (.aload_n 0, 1) := by decide +kernel
theorem dX11_feels_79 : decode cX11_feels 79 = .ok (.getfield 69, 3) := by decide +kernel
theorem dX11_feels_82 : decode cX11_feels 82 = .ok (.iconst 4, 1) := by decide +kernel
theorem dX11_feels_83 : decode cX11_feels 83 = .ok (.aload_n 0, 1) := by decide +kernel
theorem dX11_feels_84 : decode cX11_feels 84 = .ok (.getfield 7, 3) := by decide +kernel
theorem dX11_feels_87 : decode cX11_feels 87 = .ok (.iload_n 1, 1) := by decide +kernel
theorem dX11_feels_88 : decode cX11_feels 88 = .ok (.iaload, 1) := by decide +kernel
theorem dX11_feels_89 : decode cX11_feels 89 = .ok (.iastore, 1) := by decide +kernel
theorem dX11_feels_90 : decode cX11_feels 90 = .ok (.aload_n 0, 1) := by decide +kernel
theorem dX11_feels_91 : decode cX11_feels 91 = .ok (.getfield 69, 3) := by decide +kernel
theorem dX11_feels_94 : decode cX11_feels 94 = .ok (.iconst 5, 1) := by decide +kernel
theorem dX11_feels_95 : decode cX11_feels 95 = .ok (.aload_n 0, 1) := by decide +kernel
theorem dX11_feels_96 : decode cX11_feels 96 = .ok (.getfield 16, 3) := by decide +kernel
theorem dX11_feels_99 : decode cX11_feels 99 = .ok (.iload_n 1, 1) := by decide +kernel
theorem dX11_feels_100 : decode cX11_feels 100 = .ok (.iaload, 1) := by decide +kernel
theorem dX11_feels_101 : decode cX11_feels 101 = .ok (.iastore, 1) := by decide +kernel
theorem dX11_feels_102 : decode cX11_feels 102 = .ok (.aload_n 0, 1) := by decide +kernel
theorem dX11_feels_103 : decode cX11_feels 103 = .ok (.getfield 69, 3) := by decide +kernel
theorem dX11_feels_106 : decode cX11_feels 106 = .ok (.bipush 6, 2) := by decide +kernel
theorem dX11_feels_108 : decode cX11_feels 108 = .ok (.aload_n 0, 1) := by decide +kernel
theorem dX11_feels_109 : decode cX11_feels 109 = .ok (.getfield 16, 3) := by decide +kernel
theorem dX11_feels_112 : decode cX11_feels 112 = .ok (.iload_n 2, 1) := by decide +kernel
theorem dX11_feels_113 : decode cX11_feels 113 = .ok (.iaload, 1) := by decide +kernel
theorem dX11_feels_114 : decode cX11_feels 114 = .ok (.iastore, 1) := by decide +kernel
theorem dX11_feels_115 : decode cX11_feels 115 = .ok (.aload_n 0, 1) := by decide +kernel
theorem dX11_feels_116 : decode cX11_feels 116 = .ok (.getfield 69, 3) := by decide +kernel
theorem dX11_feels_119 : decode cX11_feels 119 = .ok (.bipush 7, 2) := by decide +kernel
theorem dX11_feels_121 : decode cX11_feels 121 = .ok (.iload_n 1, 1) := by decide +kernel
theorem dX11_feels_122 : decode cX11_feels 122 = .ok (.iastore, 1) := by decide +kernel
theorem dX11_feels_123 : decode cX11_feels 123 = .ok (.aload_n 0, 1) := by decide +kernel
theorem dX11_feels_124 : decode cX11_feels 124 = .ok (.getfield 69, 3) := by decide +kernel
theorem dX11_feels_127 : decode cX11_feels 127 = .ok (.bipush 8, 2) := by decide +kernel
theorem dX11_feels_129 : decode cX11_feels 129 = .ok (.iload_n 2, 1) := by decide +kernel
theorem dX11_feels_130 : decode cX11_feels 130 = .ok (.iastore, 1) := by decide +kernel
theorem dX11_feels_131 : decode cX11_feels 131 = .ok (.return_, 1) := by decide +kernel
theorem dX11_game_0 : decode cX11_game 0 = .ok (.iload_n 1, 1) := by decide +kernel
theorem dX11_game_1 : decode cX11_game 1 = .ok (.iconst 2, 1) := by decide +kernel
theorem dX11_game_2 : decode cX11_game 2 = .ok (.bipush 12, 2) := by decide +kernel
theorem dX11_game_4 : decode cX11_game 4 = .ok (.invokestatic 139, 3) := by decide +kernel
theorem dX11_game_7 : decode cX11_game 7 = .ok (.ifCond .eq 20, 3) := by decide +kernel
theorem dX11_game_10 : decode cX11_game 10 = .ok (.iload_n 2, 1) := by decide +kernel
theorem dX11_game_11 : decode cX11_game 11 = .ok (.iconst 0, 1) := by decide +kernel
theorem dX11_game_12 : decode cX11_game 12 = .ok (.iconst 1, 1) := by decide +kernel
theorem dX11_game_13 : decode cX11_game 13 = .ok (.invokestatic 139, 3) := by decide +kernel
theorem dX11_game_16 : decode cX11_game 16 = .ok (.ifCond .eq 11, 3) := by decide +kernel
theorem dX11_game_19 : decode cX11_game 19 = .ok (.iload_n 1, 1) := by decide +kernel
theorem dX11_game_20 : decode cX11_game 20 = .ok (.aload_n 0, 1) := by decide +kernel
theorem dX11_game_21 : decode cX11_game 21 = .ok (.getfield 133, 3) := by decide +kernel
theorem dX11_game_24 : decode cX11_game 24 = .ok (.if_icmp .le 5, 3) := by decide +kernel
theorem dX11_game_27 : decode cX11_game 27 = .ok (.iconst (-1), 1) := by decide +kernel
theorem dX11_game_28 : decode cX11_game 28 = .ok (.ireturn, 1) := by decide +kernel
theorem dX11_game_29 : decode cX11_game 29 = .ok (.aload_n 0, 1) := by decide +kernel
theorem dX11_game_30 : decode cX11_game 30 = .ok (.iload_n 1, 1) := by decide +kernel
theorem dX11_game_31 : decode cX11_game 31 = .ok (.invokevirtual 377, 3) := by decide +kernel
theorem dX11_game_34 : decode cX11_game 34 = .ok (.ifCond .eq 11, 3) := by decide +kernel
theorem dX11_game_37 : decode cX11_game 37 = .ok (.aload_n 0, 1) := by decide +kernel
theorem dX11_game_38 : decode cX11_game 38 = .ok (.iload_n 1, 1) := by decide +kernel
theorem dX11_game_39 : decode cX11_game 39 = .ok (.invokevirtual 380, 3) := by decide +kernel
theorem dX11_game_42 : decode cX11_game 42 = .ok (.ifCond .ne 6, 3) := by decide +kernel
theorem dX11_game_45 : decode cX11_game 45 = .ok (.bipush (-3), 2) := by decide +kernel
theorem dX11_game_47 : decode cX11_game 47 = .ok (.ireturn, 1) := by decide +kernel
theorem dX11_game_48 : decode cX11_game 48 = .ok (.aload_n 0, 1) := by decide +kernel
theorem dX11_game_49 : decode cX11_game 49 = .ok (.invokevirtual 291, 3) := by decide +kernel
theorem dX11_game_52 : decode cX11_game 52 = .ok (.iconst 1, 1) := by decide +kernel
theorem dX11_game_53 : decode cX11_game 53 = .ok (.iload_n 1, 1) := by decide +kernel
theorem dX11_game_54 : decode cX11_game 54 = .ok (.ishl, 1) := by decide +kernel
theorem dX11_game_55 : decode cX11_game 55 = .ok (.iconst 1, 1) := by decide +kernel
theorem dX11_game_56 : decode cX11_game 56 = .ok (.isub, 1) := by decide +kernel
theorem dX11_game_57 : decode cX11_game 57 = .ok (.istore_n 3, 1) := by decide +kernel
theorem dX11_game_58 : decode cX11_game 58 = .ok (.iload_n 3, 1) := by decide +kernel
theorem dX11_game_59 : decode cX11_game 59 = .ok (.ifCond .le 62, 3) := by decide +kernel
theorem dX11_game_62 : decode cX11_game 62 = .ok (.iconst 0, 1) := by decide +kernel
theorem dX11_game_63 : decode cX11_game 63 = .ok (.istore 4, 2) := by decide +kernel
theorem dX11_game_65 : decode cX11_game 65 = .ok (.iload 4, 2) := by decide +kernel
theorem dX11_game_67 : decode cX11_game 67 = .ok (.iload_n 1, 1) := by decide +kernel
theorem dX11_game_68 : decode cX11_game 68 = .ok (.if_icmp .ge 47, 3) := by decide +kernel
theorem dX11_game_71 : decode cX11_game 71 = .ok (.iload_n 3, 1) := by decide +kernel
theorem dX11_game_72 : decode cX11_game 72 = .ok (.iload 4, 2) := by decide +kernel
theorem dX11_game_74 : decode cX11_game 74 = .ok (.ishr, 1) := by decide +kernel
theorem dX11_game_75 : decode cX11_game 75 = .ok (.iconst 1, 1) := by decide +kernel
theorem dX11_game_76 : decode cX11_game 76 = .ok (.iand, 1) := by decide +kernel
theorem dX11_game_77 : decode cX11_game 77 = .ok (.iconst 1, 1) := by decide +kernel
theorem dX11_game_78 : decode cX11_game 78 = .ok (.if_icmp .ne 31, 3) := by decide +kernel
theorem dX11_game_81 : decode cX11_game 81 = .ok (.aload_n 0, 1) := by decide +kernel
theorem dX11_game_82 : decode cX11_game 82 = .ok (.getfield 107, 3) := by decide +kernel
theorem dX11_game_85 : decode cX11_game 85 = .ok (.bipush 13, 2) := by decide +kernel
theorem dX11_game_87 : decode cX11_game 87 = .ok (.iload_n 3, 1) := by decide +kernel
theorem dX11_game_88 : decode cX11_game 88 = .ok (.imul, 1) := by decide +kernel
theorem dX11_game_89 : decode cX11_game 89 = .ok (.iload 4, 2) := by decide +kernel
theorem dX11_game_91 : decode cX11_game 91 = .ok (.iadd, 1) := by decide +kernel
theorem dX11_game_92 : decode cX11_game 92 = .ok (.aload_n 0, 1) := by decide +kernel
theorem dX11_game_93 : decode cX11_game 93 = .ok (.iload_n 1, 1) := by decide +kernel
theorem dX11_game_94 : decode cX11_game 94 = .ok (.iload_n 3, 1) := by decide +kernel
theorem dX11_game_95 : decode cX11_game 95 = .ok (.iload 4, 2) := by decide +kernel
theorem dX11_game_97 : decode cX11_game 97 = .ok (.invokevirtual 386, 3) := by decide +kernel
theorem dX11_game_100 : decode cX11_game 100 = .ok (.ifCond .eq 7, 3) := by decide +kernel
theorem dX11_game_103 : decode cX11_game 103 = .ok (.iconst 1, 1) := by decide +kernel
theorem dX11_game_104 : decode cX11_game 104 = .ok (.goto 4, 3) := by decide +kernel
theorem dX11_game_107 : decode cX11_game 107 = .ok (.iconst 0, 1) := by decide +kernel
theorem dX11_game_108 : decode cX11_game 108 = .ok (.iastore, 1) := by decide +kernel
theorem dX11_game_109 : decode cX11_game 109 = .ok (.iinc 4 1, 3) := by decide +kernel
theorem dX11_game_112 : decode cX11_game 112 = .ok (.goto (-47), 3) := by decide +kernel
theorem dX11_game_115 : decode cX11_game 115 = .ok (.iinc 3 (-1), 3) := by decide +kernel
theorem dX11_game_118 : decode cX11_game 118 = .ok (.goto (-60), 3) := by decide +kernel
theorem dX11_game_121 : decode cX11_game 121 = .ok (.iload_n 2, 1) := by decide +kernel
theorem dX11_game_122 : decode cX11_game 122 = .ok (.ifCond .ne 11, 3) := by decide +kernel
theorem dX11_game_125 : decode cX11_game 125 = .ok (.aload_n 0, 1) := by decide +kernel
theorem dX11_game_126 : decode cX11_game 126 = .ok (.getfield 107, 3) := by decide +kernel
theorem dX11_game_129 : decode cX11_game 129 = .ok (.bipush 13, 2) := by decide +kernel
theorem dX11_game_131 : decode cX11_game 131 = .ok (.iaload, 1) := by decide +kernel
theorem dX11_game_132 : decode cX11_game 132 = .ok (.ireturn, 1) := by decide +kernel
theorem dX11_game_133 : decode cX11_game 133 = .ok (.bipush (-2), 2) := by decide +kernel
theorem dX11_game_135 : decode cX11_game 135 = .ok (.istore_n 3, 1) := by decide +kernel
theorem dX11_game_136 : decode cX11_game 136 = .ok (.iconst 1, 1) := by decide +kernel
theorem dX11_game_137 : decode cX11_game 137 = .ok (.istore 4, 2) := by decide +kernel
theorem dX11_game_139 : decode cX11_game 139 = .ok (.iload 4, 2) := by decide +kernel
theorem dX11_game_141 : decode cX11_game 141 = .ok (.iload_n 1, 1) := by decide +kernel
theorem dX11_game_142 : decode cX11_game 142 = .ok (.if_icmp .ge 66, 3) := by decide +kernel
theorem dX11_game_145 : decode cX11_game 145 = .ok (.aload_n 0, 1) := by decide +kernel
theorem dX11_game_146 : decode cX11_game 146 = .ok (.iconst 0, 1) := by decide +kernel
theorem dX11_game_147 : decode cX11_game 147 = .ok (.iload 4, 2) := by decide +kernel
theorem dX11_game_149 : decode cX11_game 149 = .ok (.invokevirtual 370, 3) := by decide +kernel
theorem dX11_game_152 : decode cX11_game 152 = .ok (.ldc 129, 2) := by decide +kernel
theorem dX11_game_154 : decode cX11_game 154 = .ok (.if_icmp .ge 48, 3) := by decide +kernel
theorem dX11_game_157 : decode cX11_game 157 = .ok (.aload_n 0, 1) := by decide +kernel
theorem dX11_game_158 : decode cX11_game 158 = .ok (.getfield 107, 3) := by decide +kernel
theorem dX11_game_161 : decode cX11_game 161 = .ok (.bipush 13, 2) := by decide +kernel
theorem dX11_game_163 : decode cX11_game 163 = .ok (.iconst 1, 1) := by decide +kernel
theorem dX11_game_164 : decode cX11_game 164 = .ok (.iconst 1, 1) := by decide +kernel
theorem dX11_game_165 : decode cX11_game 165 = .ok (.iload 4, 2) := by decide +kernel
theorem dX11_game_167 : decode cX11_game 167 = .ok (.ishl, 1) := by decide +kernel
theorem dX11_game_168 : decode cX11_game 168 = .ok (.ior, 1) := by decide +kernel
theorem dX11_game_169 : decode cX11_game 169 = .ok (.imul, 1) := by decide +kernel
theorem dX11_game_170 : decode cX11_game 170 = .ok (.iload 4, 2) := by decide +kernel
theorem dX11_game_172 : decode cX11_game 172 = .ok (.iadd, 1) := by decide +kernel
theorem dX11_game_173 : decode cX11_game 173 = .ok (.iaload, 1) := by decide +kernel
theorem dX11_game_174 : decode cX11_game 174 = .ok (.ifCond .ne 28, 3) := by decide +kernel
theorem dX11_game_177 : decode cX11_game 177 = .ok (.iload_n 3, 1) := by decide +kernel
theorem dX11_game_178 : decode cX11_game 178 = .ok (.bipush (-2), 2) := by decide +kernel
theorem dX11_game_180 : decode cX11_game 180 = .ok (.if_icmp .eq 14, 3) := by decide +kernel
theorem dX11_game_183 : decode cX11_game 183 = .ok (.aload_n 0, 1) := by decide +kernel
theorem dX11_game_184 : decode cX11_game 184 = .ok (.getfield 103, 3) := by decide +kernel
theorem dX11_game_187 : decode cX11_game 187 = .ok (.iload 4, 2) := by decide +kernel
theorem dX11_game_189 : decode cX11_game 189 = .ok (.iaload, 1) := by decide +kernel
theorem dX11_game_190 : decode cX11_game 190 = .ok (.iload_n 3, 1) := by decide +kernel
theorem dX11_game_191 : decode cX11_game 191 = .ok (.if_icmp .ge 11, 3) := by decide +kernel
theorem dX11_game_194 : decode cX11_game 194 = .ok (.aload_n 0, 1) := by decide +kernel
theorem dX11_game_195 : decode cX11_game 195 = .ok (.getfield 103, 3) := by decide +kernel
theorem dX11_game_198 : decode cX11_game 198 = .ok (.iload 4, 2) := by decide +kernel
theorem dX11_game_200 : decode cX11_game 200 = .ok (.iaload, 1) := by decide +kernel
theorem dX11_game_201 : decode cX11_game 201 = .ok (.istore_n 3, 1) := by decide +kernel
theorem dX11_game_202 : decode cX11_game 202 = .ok (.iinc 4 1, 3) := by decide +kernel
theorem dX11_game_205 : decode cX11_game 205 = .ok (.goto (-66), 3) := by decide +kernel
theorem dX11_game_208 : decode cX11_game 208 = .ok (.iload_n 3, 1) := by decide +kernel
theorem dX11_game_209 : decode cX11_game 209 = .ok (.ireturn, 1) := by decide +kernel
theorem dX11_hasOpenSum_0 : decode cX11_hasOpenSum 0 = .ok (.iload_n 1, 1) := by decide +kernel
theorem dX11_hasOpenSum_1 : decode cX11_hasOpenSum 1 = .ok (.istore_n 2, 1) := by decide +kernel
theorem dX11_hasOpenSum_2 : decode cX11_hasOpenSum 2 = .ok (.iload_n 2, 1) := by decide +kernel
theorem dX11_hasOpenSum_3 : decode cX11_hasOpenSum 3 = .ok (.aload_n 0, 1) := by decide +kernel
theorem dX11_hasOpenSum_4 : decode cX11_hasOpenSum 4 = .ok (.getfield 191, 3) := by decide +kernel
theorem dX11_hasOpenSum_7 : decode cX11_hasOpenSum 7 = .ok (.if_icmp .ge 25, 3) := by decide +kernel
theorem dX11_hasOpenSum_10 : decode cX11_hasOpenSum 10 = .ok (.aload_n 0, 1) := by decide +kernel
theorem dX11_hasOpenSum_11 : decode cX11_hasOpenSum 11 = .ok (.getfield 36, 3) := by decide +kernel
theorem dX11_hasOpenSum_14 : decode cX11_hasOpenSum 14 = .ok (.iload_n 2, 1) := by decide +kernel
theorem dX11_hasOpenSum_15 : decode cX11_hasOpenSum 15 = .ok (.iaload, 1) := by decide +kernel
theorem dX11_hasOpenSum_16 : decode cX11_hasOpenSum 16 = .ok (.ldc 187, 2) := by decide +kernel
theorem dX11_hasOpenSum_18 : decode cX11_hasOpenSum 18 = .ok (.idiv, 1) := by decide +kernel
theorem dX11_hasOpenSum_19 : decode cX11_hasOpenSum 19 = .ok (.bipush 14, 2) := by decide +kernel
theorem dX11_hasOpenSum_21 : decode cX11_hasOpenSum 21 = .ok (.if_icmp .ne 5, 3) := by decide +kernel
theorem dX11_hasOpenSum_24 : decode cX11_hasOpenSum 24 = .ok (.iconst 1, 1) := by decide +kernel
theorem dX11_hasOpenSum_25 : decode cX11_hasOpenSum 25 = .ok (.ireturn, 1) := by decide +kernel
theorem dX11_hasOpenSum_26 : decode cX11_hasOpenSum 26 = .ok (.iinc 2 1, 3) := by decide +kernel
theorem dX11_hasOpenSum_29 : decode cX11_hasOpenSum 29 = .ok (.goto (-27), 3) := by decide +kernel
theorem dX11_hasOpenSum_32 : decode cX11_hasOpenSum 32 = .ok (.iconst 0, 1) := by decide +kernel
theorem dX11_hasOpenSum_33 : decode cX11_hasOpenSum 33 = .ok (.ireturn, 1) := by decide +kernel
theorem dX11_heap_0 : decode cX11_heap 0 = .ok (.aload_n 0, 1) := by decide +kernel
theorem dX11_heap_1 : decode cX11_heap 1 = .ok (.iload_n 1, 1) := by decide +kernel
theorem dX11_heap_2 : decode cX11_heap 2 = .ok (.invokevirtual 154, 3) := by decide +kernel
theorem dX11_heap_5 : decode cX11_heap 5 = .ok (.ifCond .ne 5, 3) := by decide +kernel
theorem dX11_heap_8 : decode cX11_heap 8 = .ok (.iconst (-1), 1) := by decide +kernel
theorem dX11_heap_9 : decode cX11_heap 9 = .ok (.ireturn, 1) := by decide +kernel
theorem dX11_heap_10 : decode cX11_heap 10 = .ok (.aload_n 0, 1) := by decide +kernel
theorem dX11_heap_11 : decode cX11_heap 11 = .ok (.iload_n 1, 1) := by decide +kernel
theorem dX11_heap_12 : decode cX11_heap 12 = .ok (.invokevirtual 282, 3) := by decide +kernel
theorem dX11_heap_15 : decode cX11_heap 15 = .ok (.ifCond .ne 6, 3) := by decide +kernel
theorem dX11_heap_18 : decode cX11_heap 18 = .ok (.bipush (-2), 2) := by decide +kernel
theorem dX11_heap_20 : decode cX11_heap 20 = .ok (.ireturn, 1) := by decide +kernel
theorem dX11_heap_21 : decode cX11_heap 21 = .ok (.aload_n 0, 1) := by decide +kernel
theorem dX11_heap_22 : decode cX11_heap 22 = .ok (.invokevirtual 306, 3) := by decide +kernel
theorem dX11_heap_25 : decode cX11_heap 25 = .ok (.aload_n 0, 1) := by decide +kernel
theorem dX11_heap_26 : decode cX11_heap 26 = .ok (.iload_n 1, 1) := by decide +kernel
theorem dX11_heap_27 : decode cX11_heap 27 = .ok (.invokevirtual 326, 3) := by decide +kernel
theorem dX11_heap_30 : decode cX11_heap 30 = .ok (.ireturn, 1) := by decide +kernel
theorem dX11_heapOf_0 : decode cX11_heapOf 0 = .ok (.iconst 0, 1) := by decide +kernel
theorem dX11_heapOf_1 : decode cX11_heapOf 1 = .ok (.istore_n 2, 1) := by decide +kernel
theorem dX11_heapOf_2 : decode cX11_heapOf 2 = .ok (.aload_n 0, 1) := by decide +kernel
theorem dX11_heapOf_3 : decode cX11_heapOf 3 = .ok (.getfield 81, 3) := by decide +kernel
theorem dX11_heapOf_6 : decode cX11_heapOf 6 = .ok (.bipush 40, 2) := by decide +kernel
theorem dX11_heapOf_8 : decode cX11_heapOf 8 = .ok (.iload_n 1, 1) := by decide +kernel
theorem dX11_heapOf_9 : decode cX11_heapOf 9 = .ok (.imul, 1) := by decide +kernel
theorem dX11_heapOf_10 : decode cX11_heapOf 10 = .ok (.iload_n 2, 1) := by decide +kernel
theorem dX11_heapOf_11 : decode cX11_heapOf 11 = .ok (.iadd, 1) := by decide +kernel
theorem dX11_heapOf_12 : decode cX11_heapOf 12 = .ok (.iaload, 1) := by decide +kernel
theorem dX11_heapOf_13 : decode cX11_heapOf 13 = .ok (.ldc 129, 2) := by decide +kernel
theorem dX11_heapOf_15 : decode cX11_heapOf 15 = .ok (.if_icmp .ge 19, 3) := by decide +kernel
theorem dX11_heapOf_18 : decode cX11_heapOf 18 = .ok (.aload_n 0, 1) := by decide +kernel
theorem dX11_heapOf_19 : decode cX11_heapOf 19 = .ok (.getfield 81, 3) := by decide +kernel
theorem dX11_heapOf_22 : decode cX11_heapOf 22 = .ok (.bipush 40, 2) := by decide +kernel
theorem dX11_heapOf_24 : decode cX11_heapOf 24 = .ok (.iload_n 2, 1) := by decide +kernel
theorem dX11_heapOf_25 : decode cX11_heapOf 25 = .ok (.imul, 1) := by decide +kernel
theorem dX11_heapOf_26 : decode cX11_heapOf 26 = .ok (.iload_n 1, 1) := by decide +kernel
theorem dX11_heapOf_27 : decode cX11_heapOf 27 = .ok (.iadd, 1) := by decide +kernel
theorem dX11_heapOf_28 : decode cX11_heapOf 28 = .ok (.iaload, 1) := by decide +kernel
theorem dX11_heapOf_29 : decode cX11_heapOf 29 = .ok (.ldc 129, 2) := by decide +kernel
theorem dX11_heapOf_31 : decode cX11_heapOf 31 = .ok (.if_icmp .lt 10, 3) := by decide +kernel
theorem dX11_heapOf_34 : decode cX11_heapOf 34 = .ok (.iload_n 2, 1) := by decide +kernel
theorem dX11_heapOf_35 : decode cX11_heapOf 35 = .ok (.iconst 1, 1) := by decide +kernel
theorem dX11_heapOf_36 : decode cX11_heapOf 36 = .ok (.iadd, 1) := by decide +kernel
theorem dX11_heapOf_37 : decode cX11_heapOf 37 = .ok (.istore_n 2, 1) := by decide +kernel
theorem dX11_heapOf_38 : decode cX11_heapOf 38 = .ok (.goto (-36), 3) := by decide +kernel
theorem dX11_heapOf_41 : decode cX11_heapOf 41 = .ok (.iload_n 2, 1) := by decide +kernel
theorem dX11_heapOf_42 : decode cX11_heapOf 42 = .ok (.ireturn, 1) := by decide +kernel
theorem dX11_heaps_0 : decode cX11_heaps 0 = .ok (.aload_n 0, 1) := by decide +kernel
theorem dX11_heaps_1 : decode cX11_heaps 1 = .ok (.invokevirtual 306, 3) := by decide +kernel
theorem dX11_heaps_4 : decode cX11_heaps 4 = .ok (.iconst 0, 1) := by decide +kernel
theorem dX11_heaps_5 : decode cX11_heaps 5 = .ok (.istore_n 1, 1) := by decide +kernel
theorem dX11_heaps_6 : decode cX11_heaps 6 = .ok (.iconst 0, 1) := by decide +kernel
theorem dX11_heaps_7 : decode cX11_heaps 7 = .ok (.istore_n 2, 1) := by decide +kernel
theorem dX11_heaps_8 : decode cX11_heaps 8 = .ok (.iload_n 2, 1) := by decide +kernel
theorem dX11_heaps_9 : decode cX11_heaps 9 = .ok (.aload_n 0, 1) := by decide +kernel
theorem dX11_heaps_10 : decode cX11_heaps 10 = .ok (.getfield 130, 3) := by decide +kernel
theorem dX11_heaps_13 : decode cX11_heaps 13 = .ok (.if_icmp .ge 34, 3) := by decide +kernel
theorem dX11_heaps_16 : decode cX11_heaps 16 = .ok (.iload_n 1, 1) := by decide +kernel
theorem dX11_heaps_17 : decode cX11_heaps 17 = .ok (.aload_n 0, 1) := by decide +kernel
theorem dX11_heaps_18 : decode cX11_heaps 18 = .ok (.iload_n 2, 1) := by decide +kernel
theorem dX11_heaps_19 : decode cX11_heaps 19 = .ok (.invokevirtual 282, 3) := by decide +kernel
theorem dX11_heaps_22 : decode cX11_heaps 22 = .ok (.ifCond .eq 16, 3) := by decide +kernel
theorem dX11_heaps_25 : decode cX11_heaps 25 = .ok (.aload_n 0, 1) := by decide +kernel
theorem dX11_heaps_26 : decode cX11_heaps 26 = .ok (.iload_n 2, 1) := by decide +kernel
theorem dX11_heaps_27 : decode cX11_heaps 27 = .ok (.invokevirtual 326, 3) := by decide +kernel
theorem dX11_heaps_30 : decode cX11_heaps 30 = .ok (.iload_n 2, 1) := by decide +kernel
theorem dX11_heaps_31 : decode cX11_heaps 31 = .ok (.if_icmp .ne 7, 3) := by decide +kernel
theorem dX11_heaps_34 : decode cX11_heaps 34 = .ok (.iconst 1, 1) := by decide +kernel
theorem dX11_heaps_35 : decode cX11_heaps 35 = .ok (.goto 4, 3) := by decide +kernel
theorem dX11_heaps_38 : decode cX11_heaps 38 = .ok (.iconst 0, 1) := by decide +kernel
theorem dX11_heaps_39 : decode cX11_heaps 39 = .ok (.iadd, 1) := by decide +kernel
theorem dX11_heaps_40 : decode cX11_heaps 40 = .ok (.istore_n 1, 1) := by decide +kernel
theorem dX11_heaps_41 : decode cX11_heaps 41 = .ok (.iinc 2 1, 3) := by decide +kernel
theorem dX11_heaps_44 : decode cX11_heaps 44 = .ok (.goto (-36), 3) := by decide +kernel
theorem dX11_heaps_47 : decode cX11_heaps 47 = .ok (.iload_n 1, 1) := by decide +kernel
theorem dX11_heaps_48 : decode cX11_heaps 48 = .ok (.ireturn, 1) := by decide +kernel
theorem dX11_here_0 : decode cX11_here 0 = .ok (.aload_n 0, 1) := by decide +kernel
theorem dX11_here_1 : decode cX11_here 1 = .ok (.getfield 161, 3) := by decide +kernel
theorem dX11_here_4 : decode cX11_here 4 = .ok (.aload_n 0, 1) := by decide +kernel
theorem dX11_here_5 : decode cX11_here 5 = .ok (.getfield 164, 3) := by decide +kernel
theorem dX11_here_8 : decode cX11_here 8 = .ok (.if_icmp .ge 19, 3) := by decide +kernel
theorem dX11_here_11 : decode cX11_here 11 = .ok (.aload_n 0, 1) := by decide +kernel
theorem dX11_here_12 : decode cX11_here 12 = .ok (.getfield 29, 3) := by decide +kernel
theorem dX11_here_15 : decode cX11_here 15 = .ok (.aload_n 0, 1) := by decide +kernel
theorem dX11_here_16 : decode cX11_here 16 = .ok (.getfield 161, 3) := by decide +kernel
theorem dX11_here_19 : decode cX11_here 19 = .ok (.baload, 1) := by decide +kernel
theorem dX11_here_20 : decode cX11_here 20 = .ok (.sipush 255, 3) := by decide +kernel
theorem dX11_here_23 : decode cX11_here 23 = .ok (.iand, 1) := by decide +kernel
theorem dX11_here_24 : decode cX11_here 24 = .ok (.goto 4, 3) := by decide +kernel
theorem dX11_here_27 : decode cX11_here 27 = .ok (.iconst (-1), 1) := by decide +kernel
theorem dX11_here_28 : decode cX11_here 28 = .ok (.ireturn, 1) := by decide +kernel
theorem dX11_howMany_0 : decode cX11_howMany 0 = .ok (.aload_n 0, 1) := by decide +kernel
theorem dX11_howMany_1 : decode cX11_howMany 1 = .ok (.iload_n 1, 1) := by decide +kernel
theorem dX11_howMany_2 : decode cX11_howMany 2 = .ok (.invokevirtual 154, 3) := by decide +kernel
theorem dX11_howMany_5 : decode cX11_howMany 5 = .ok (.ifCond .eq 11, 3) := by decide +kernel
theorem dX11_howMany_8 : decode cX11_howMany 8 = .ok (.aload_n 0, 1) := by decide +kernel
theorem dX11_howMany_9 : decode cX11_howMany 9 = .ok (.iload_n 2, 1) := by decide +kernel
theorem dX11_howMany_10 : decode cX11_howMany 10 = .ok (.invokevirtual 154, 3) := by decide +kernel
theorem dX11_howMany_13 : decode cX11_howMany 13 = .ok (.ifCond .ne 7, 3) := by decide +kernel
theorem dX11_howMany_16 : decode cX11_howMany 16 = .ok (.ldc2_w 312, 3) := by decide +kernel
theorem dX11_howMany_19 : decode cX11_howMany 19 = .ok (.lreturn, 1) := by decide +kernel
theorem dX11_howMany_20 : decode cX11_howMany 20 = .ok (.aload_n 0, 1) := by decide +kernel
theorem dX11_howMany_21 : decode cX11_howMany 21 = .ok (.invokevirtual 306, 3) := by decide +kernel
theorem dX11_howMany_24 : decode cX11_howMany 24 = .ok (.aload_n 0, 1) := by decide +kernel
theorem dX11_howMany_25 : decode cX11_howMany 25 = .ok (.getfield 81, 3) := by decide +kernel
theorem dX11_howMany_28 : decode cX11_howMany 28 = .ok (.bipush 40, 2) := by decide +kernel
theorem dX11_howMany_30 : decode cX11_howMany 30 = .ok (.iload_n 1, 1) := by decide +kernel
theorem dX11_howMany_31 : decode cX11_howMany 31 = .ok (.imul, 1) := by decide +kernel
theorem dX11_howMany_32 : decode cX11_howMany 32 = .ok (.iload_n 2, 1) := by decide +kernel
theorem dX11_howMany_33 : decode cX11_howMany 33 = .ok (.iadd, 1) := by decide +kernel
theorem dX11_howMany_34 : decode cX11_howMany 34 = .ok (.iaload, 1) := by decide +kernel
theorem dX11_howMany_35 : decode cX11_howMany 35 = .ok (.ldc 129, 2) := by decide +kernel
theorem dX11_howMany_37 : decode cX11_howMany 37 = .ok (.if_icmp .lt 5, 3) := by decide +kernel
theorem dX11_howMany_40 : decode cX11_howMany 40 = .ok (.lconst 0, 1) := by decide +kernel
theorem dX11_howMany_41 : decode cX11_howMany 41 = .ok (.lreturn, 1) := by decide +kernel
theorem dX11_howMany_42 : decode cX11_howMany 42 = .ok (.iconst 0, 1) := by decide +kernel
theorem dX11_howMany_43 : decode cX11_howMany 43 = .ok (.istore_n 3, 1) := by decide +kernel
theorem dX11_howMany_44 : decode cX11_howMany 44 = .ok (.iload_n 3, 1) := by decide +kernel
theorem dX11_howMany_45 : decode cX11_howMany 45 = .ok (.aload_n 0, 1) := by decide +kernel
theorem dX11_howMany_46 : decode cX11_howMany 46 = .ok (.getfield 130, 3) := by decide +kernel
theorem dX11_howMany_49 : decode cX11_howMany 49 = .ok (.if_icmp .ge 25, 3) := by decide +kernel
theorem dX11_howMany_52 : decode cX11_howMany 52 = .ok (.aload_n 0, 1) := by decide +kernel
theorem dX11_howMany_53 : decode cX11_howMany 53 = .ok (.getfield 84, 3) := by decide +kernel
theorem dX11_howMany_56 : decode cX11_howMany 56 = .ok (.iload_n 3, 1) := by decide +kernel
theorem dX11_howMany_57 : decode cX11_howMany 57 = .ok (.iload_n 3, 1) := by decide +kernel
theorem dX11_howMany_58 : decode cX11_howMany 58 = .ok (.iload_n 2, 1) := by decide +kernel
theorem dX11_howMany_59 : decode cX11_howMany 59 = .ok (.if_icmp .ne 7, 3) := by decide +kernel
theorem dX11_howMany_62 : decode cX11_howMany 62 = .ok (.lconst 1, 1) := by decide +kernel
theorem dX11_howMany_63 : decode cX11_howMany 63 = .ok (.goto 4, 3) := by decide +kernel
theorem dX11_howMany_66 : decode cX11_howMany 66 = .ok (.lconst 0, 1) := by decide +kernel
theorem dX11_howMany_67 : decode cX11_howMany 67 = .ok (.lastore, 1) := by decide +kernel
theorem dX11_howMany_68 : decode cX11_howMany 68 = .ok (.iinc 3 1, 3) := by decide +kernel
theorem dX11_howMany_71 : decode cX11_howMany 71 = .ok (.goto (-27), 3) := by decide +kernel
theorem dX11_howMany_74 : decode cX11_howMany 74 = .ok (.aload_n 0, 1) := by decide +kernel
theorem dX11_howMany_75 : decode cX11_howMany 75 = .ok (.iload_n 1, 1) := by decide +kernel
theorem dX11_howMany_76 : decode cX11_howMany 76 = .ok (.iload_n 2, 1) := by decide +kernel
theorem dX11_howMany_77 : decode cX11_howMany 77 = .ok (.invokevirtual 314, 3) := by decide +kernel
theorem dX11_howMany_80 : decode cX11_howMany 80 = .ok (.istore_n 3, 1) := by decide +kernel
theorem dX11_howMany_81 : decode cX11_howMany 81 = .ok (.iconst 1, 1) := by decide +kernel
theorem dX11_howMany_82 : decode cX11_howMany 82 = .ok (.istore 4, 2) := by decide +kernel
theorem dX11_howMany_84 : decode cX11_howMany 84 = .ok (.iload 4, 2) := by decide +kernel
theorem dX11_howMany_86 : decode cX11_howMany 86 = .ok (.iload_n 3, 1) := by decide +kernel
theorem dX11_howMany_87 : decode cX11_howMany 87 = .ok (.if_icmp .gt 55, 3) := by decide +kernel
theorem dX11_howMany_90 : decode cX11_howMany 90 = .ok (.iconst 0, 1) := by decide +kernel
theorem dX11_howMany_91 : decode cX11_howMany 91 = .ok (.istore 5, 2) := by decide +kernel
theorem dX11_howMany_93 : decode cX11_howMany 93 = .ok (.iload 5, 2) := by decide +kernel
theorem dX11_howMany_95 : decode cX11_howMany 95 = .ok (.aload_n 0, 1) := by decide +kernel
theorem dX11_howMany_96 : decode cX11_howMany 96 = .ok (.getfield 130, 3) := by decide +kernel
theorem dX11_howMany_99 : decode cX11_howMany 99 = .ok (.if_icmp .ge 37, 3) := by decide +kernel
theorem dX11_howMany_102 : decode cX11_howMany 102 = .ok (.aload_n 0, 1) := by decide +kernel
theorem dX11_howMany_103 : decode cX11_howMany 103 = .ok (.iload 5, 2) := by decide +kernel
theorem dX11_howMany_105 : decode cX11_howMany 105 = .ok (.iload_n 2, 1) := by decide +kernel
theorem dX11_howMany_106 : decode cX11_howMany 106 = .ok (.invokevirtual 314, 3) := by decide +kernel
theorem dX11_howMany_109 : decode cX11_howMany 109 = .ok (.iload 4, 2) := by decide +kernel
theorem dX11_howMany_111 : decode cX11_howMany 111 = .ok (.if_icmp .ne 19, 3) := by decide +kernel
theorem dX11_howMany_114 : decode cX11_howMany 114 = .ok (.aload_n 0, 1) := by decide +kernel
theorem dX11_howMany_115 : decode cX11_howMany 115 = .ok (.getfield 84, 3) := by decide +kernel
theorem dX11_howMany_118 : decode cX11_howMany 118 = .ok (.iload 5, 2) := by decide +kernel
theorem dX11_howMany_120 : decode cX11_howMany 120 = .ok (.aload_n 0, 1) := by decide +kernel
theorem dX11_howMany_121 : decode cX11_howMany 121 = .ok (.iload 5, 2) := by decide +kernel
theorem dX11_howMany_123 : decode cX11_howMany 123 = .ok (.iload_n 2, 1) := by decide +kernel
theorem dX11_howMany_124 : decode cX11_howMany 124 = .ok (.iload 4, 2) := by decide +kernel
theorem dX11_howMany_126 : decode cX11_howMany 126 = .ok (.invokevirtual 317, 3) := by decide +kernel
theorem dX11_howMany_129 : decode cX11_howMany 129 = .ok (.lastore, 1) := by decide +kernel
theorem dX11_howMany_130 : decode cX11_howMany 130 = .ok (.iinc 5 1, 3) := by decide +kernel
theorem dX11_howMany_133 : decode cX11_howMany 133 = .ok (.goto (-40), 3) := by decide +kernel
theorem dX11_howMany_136 : decode cX11_howMany 136 = .ok (.iinc 4 1, 3) := by decide +kernel
theorem dX11_howMany_139 : decode cX11_howMany 139 = .ok (.goto (-55), 3) := by decide +kernel
theorem dX11_howMany_142 : decode cX11_howMany 142 = .ok (.aload_n 0, 1) := by decide +kernel
theorem dX11_howMany_143 : decode cX11_howMany 143 = .ok (.getfield 84, 3) := by decide +kernel
theorem dX11_howMany_146 : decode cX11_howMany 146 = .ok (.iload_n 1, 1) := by decide +kernel
theorem dX11_howMany_147 : decode cX11_howMany 147 = .ok (.laload, 1) := by decide +kernel
theorem dX11_howMany_148 : decode cX11_howMany 148 = .ok (.lreturn, 1) := by decide +kernel
theorem dX11_in_0 : decode cX11_in 0 = .ok (.iload_n 0, 1) := by decide +kernel
theorem dX11_in_1 : decode cX11_in 1 = .ok (.iload_n 1, 1) := by decide +kernel
theorem dX11_in_2 : decode cX11_in 2 = .ok (.if_icmp .lt 12, 3) := by decide +kernel
theorem dX11_in_5 : decode cX11_in 5 = .ok (.iload_n 0, 1) := by decide +kernel
theorem dX11_in_6 : decode cX11_in 6 = .ok (.iload_n 2, 1) := by decide +kernel
theorem dX11_in_7 : decode cX11_in 7 = .ok (.if_icmp .gt 7, 3) := by decide +kernel
theorem dX11_in_10 : decode cX11_in 10 = .ok (.iconst 1, 1) := by decide +kernel
theorem dX11_in_11 : decode cX11_in 11 = .ok (.goto 4, 3) := by decide +kernel
theorem dX11_in_14 : decode cX11_in 14 = .ok (.iconst 0, 1) := by decide +kernel
theorem dX11_in_15 : decode cX11_in 15 = .ok (.ireturn, 1) := by decide +kernel
theorem dX11_isAheadOfNew_0 : decode cX11_isAheadOfNew 0 = .ok (.aload_n 0, 1) := by decide +kernel
theorem dX11_isAheadOfNew_1 : decode cX11_isAheadOfNew 1 = .ok (.getfield 136, 3) := by decide +kernel
theorem dX11_isAheadOfNew_4 : decode cX11_isAheadOfNew 4 = .ok (.aload_n 0, 1) := by decide +kernel
theorem dX11_isAheadOfNew_5 : decode cX11_isAheadOfNew 5 = .ok (.getfield 339, 3) := by decide +kernel
theorem dX11_isAheadOfNew_8 : decode cX11_isAheadOfNew 8 = .ok (.if_icmp .eq 20, 3) := by decide +kernel
theorem dX11_isAheadOfNew_11 : decode cX11_isAheadOfNew 11 = .ok (.aload_n 0, 1) := by decide +kernel
theorem dX11_isAheadOfNew_12 : decode cX11_isAheadOfNew 12 = .ok (.getfield 136, 3) := by decide +kernel
theorem dX11_isAheadOfNew_15 : decode cX11_isAheadOfNew 15 = .ok (.aload_n 0, 1) := by decide +kernel
theorem dX11_isAheadOfNew_16 : decode cX11_isAheadOfNew 16 = .ok (.getfield 339, 3) := by decide +kernel
theorem dX11_isAheadOfNew_19 : decode cX11_isAheadOfNew 19 = .ok (.if_icmp .ge 7, 3) := by decide +kernel
theorem dX11_isAheadOfNew_22 : decode cX11_isAheadOfNew 22 = .ok (.iconst 1, 1) := by decide +kernel
theorem dX11_isAheadOfNew_23 : decode cX11_isAheadOfNew 23 = .ok (.goto 4, 3) := by decide +kernel
theorem dX11_isAheadOfNew_26 : decode cX11_isAheadOfNew 26 = .ok (.iconst 0, 1) := by decide +kernel
theorem dX11_isAheadOfNew_27 : decode cX11_isAheadOfNew 27 = .ok (.ireturn, 1) := by decide +kernel
theorem dX11_isAheadOfNew_28 : decode cX11_isAheadOfNew 28 = .ok (.iconst 0, 1) := by decide +kernel
theorem dX11_isAheadOfNew_29 : decode cX11_isAheadOfNew 29 = .ok (.istore_n 1, 1) := by decide +kernel
theorem dX11_isAheadOfNew_30 : decode cX11_isAheadOfNew 30 = .ok (.iload_n 1, 1) := by decide +kernel
theorem dX11_isAheadOfNew_31 : decode cX11_isAheadOfNew 31 = .ok (.aload_n 0, 1) := by decide +kernel
theorem dX11_isAheadOfNew_32 : decode cX11_isAheadOfNew 32 = .ok (.getfield 136, 3) := by decide +kernel
theorem dX11_isAheadOfNew_35 : decode cX11_isAheadOfNew 35 = .ok (.if_icmp .ge 45, 3) := by decide +kernel
theorem dX11_isAheadOfNew_38 : decode cX11_isAheadOfNew 38 = .ok (.aload_n 0, 1) := by decide +kernel
theorem dX11_isAheadOfNew_39 : decode cX11_isAheadOfNew 39 = .ok (.getfield 26, 3) := by decide +kernel
theorem dX11_isAheadOfNew_42 : decode cX11_isAheadOfNew 42 = .ok (.iload_n 1, 1) := by decide +kernel
theorem dX11_isAheadOfNew_43 : decode cX11_isAheadOfNew 43 = .ok (.iaload, 1) := by decide +kernel
theorem dX11_isAheadOfNew_44 : decode cX11_isAheadOfNew 44 = .ok (.aload_n 0, 1) := by decide +kernel
theorem dX11_isAheadOfNew_45 : decode cX11_isAheadOfNew 45 = .ok (.getfield 91, 3) := by decide +kernel
theorem dX11_isAheadOfNew_48 : decode cX11_isAheadOfNew 48 = .ok (.iload_n 1, 1) := by decide +kernel
theorem dX11_isAheadOfNew_49 : decode cX11_isAheadOfNew 49 = .ok (.iaload, 1) := by decide +kernel
theorem dX11_isAheadOfNew_50 : decode cX11_isAheadOfNew 50 = .ok (.if_icmp .eq 24, 3) := by decide +kernel
theorem dX11_isAheadOfNew_53 : decode cX11_isAheadOfNew 53 = .ok (.aload_n 0, 1) := by decide +kernel
theorem dX11_isAheadOfNew_54 : decode cX11_isAheadOfNew 54 = .ok (.getfield 26, 3) := by decide +kernel
theorem dX11_isAheadOfNew_57 : decode cX11_isAheadOfNew 57 = .ok (.iload_n 1, 1) := by decide +kernel
theorem dX11_isAheadOfNew_58 : decode cX11_isAheadOfNew 58 = .ok (.iaload, 1) := by decide +kernel
theorem dX11_isAheadOfNew_59 : decode cX11_isAheadOfNew 59 = .ok (.aload_n 0, 1) := by decide +kernel
theorem dX11_isAheadOfNew_60 : decode cX11_isAheadOfNew 60 = .ok (.getfield 91, 3) := by decide +kernel
theorem dX11_isAheadOfNew_63 : decode cX11_isAheadOfNew 63 = .ok (.iload_n 1, 1) := by decide +kernel
theorem dX11_isAheadOfNew_64 : decode cX11_isAheadOfNew 64 = .ok (.iaload, 1) := by decide +kernel
theorem dX11_isAheadOfNew_65 : decode cX11_isAheadOfNew 65 = .ok (.if_icmp .ge 7, 3) := by decide +kernel
theorem dX11_isAheadOfNew_68 : decode cX11_isAheadOfNew 68 = .ok (.iconst 1, 1) := by decide +kernel
theorem dX11_isAheadOfNew_69 : decode cX11_isAheadOfNew 69 = .ok (.goto 4, 3) := by decide +kernel
theorem dX11_isAheadOfNew_72 : decode cX11_isAheadOfNew 72 = .ok (.iconst 0, 1) := by decide +kernel
theorem dX11_isAheadOfNew_73 : decode cX11_isAheadOfNew 73 = .ok (.ireturn, 1) := by decide +kernel
theorem dX11_isAheadOfNew_74 : decode cX11_isAheadOfNew 74 = .ok (.iinc 1 1, 3) := by decide +kernel
theorem dX11_isAheadOfNew_77 : decode cX11_isAheadOfNew 77 = .ok (.goto (-47), 3) := by decide +kernel
theorem dX11_isAheadOfNew_80 : decode cX11_isAheadOfNew 80 = .ok (.iconst 0, 1) := by decide +kernel
theorem dX11_isAheadOfNew_81 : decode cX11_isAheadOfNew 81 = .ok (.ireturn, 1) := by decide +kernel
theorem dX11_isChange_0 : decode cX11_isChange 0 = .ok (.aload_n 0, 1) := by decide +kernel
theorem dX11_isChange_1 : decode cX11_isChange 1 = .ok (.getfield 7, 3) := by decide +kernel
theorem dX11_isChange_4 : decode cX11_isChange 4 = .ok (.iload_n 2, 1) := by decide +kernel
theorem dX11_isChange_5 : decode cX11_isChange 5 = .ok (.iaload, 1) := by decide +kernel
theorem dX11_isChange_6 : decode cX11_isChange 6 = .ok (.aload_n 0, 1) := by decide +kernel
theorem dX11_isChange_7 : decode cX11_isChange 7 = .ok (.getfield 7, 3) := by decide +kernel
theorem dX11_isChange_10 : decode cX11_isChange 10 = .ok (.iload_n 1, 1) := by decide +kernel
theorem dX11_isChange_11 : decode cX11_isChange 11 = .ok (.iaload, 1) := by decide +kernel
theorem dX11_isChange_12 : decode cX11_isChange 12 = .ok (.isub, 1) := by decide +kernel
theorem dX11_isChange_13 : decode cX11_isChange 13 = .ok (.istore 5, 2) := by decide +kernel
theorem dX11_isChange_15 : decode cX11_isChange 15 = .ok (.iload_n 3, 1) := by decide +kernel
theorem dX11_isChange_16 : decode cX11_isChange 16 = .ok (.tableswitch 147 0 2 #[28, 79, 113], 28) := by decide +kernel
theorem dX11_isChange_44 : decode cX11_isChange 44 = .ok (.iload 5, 2) := by decide +kernel
theorem dX11_isChange_46 : decode cX11_isChange 46 = .ok (.ifCond .ne 47, 3) := by decide +kernel
theorem dX11_isChange_49 : decode cX11_isChange 49 = .ok (.iload 4, 2) := by decide +kernel
theorem dX11_isChange_51 : decode cX11_isChange 51 = .ok (.aload_n 0, 1) := by decide +kernel
theorem dX11_isChange_52 : decode cX11_isChange 52 = .ok (.getfield 7, 3) := by decide +kernel
theorem dX11_isChange_55 : decode cX11_isChange 55 = .ok (.iload_n 1, 1) := by decide +kernel
theorem dX11_isChange_56 : decode cX11_isChange 56 = .ok (.iaload, 1) := by decide +kernel
theorem dX11_isChange_57 : decode cX11_isChange 57 = .ok (.if_icmp .ge 36, 3) := by decide +kernel
theorem dX11_isChange_60 : decode cX11_isChange 60 = .ok (.aload_n 0, 1) := by decide +kernel
theorem dX11_isChange_61 : decode cX11_isChange 61 = .ok (.iload_n 1, 1) := by decide +kernel
theorem dX11_isChange_62 : decode cX11_isChange 62 = .ok (.iload 4, 2) := by decide +kernel
theorem dX11_isChange_64 : decode cX11_isChange 64 = .ok (.invokevirtual 262, 3) := by decide +kernel
theorem dX11_isChange_67 : decode cX11_isChange 67 = .ok (.aload_n 0, 1) := by decide +kernel
theorem dX11_isChange_68 : decode cX11_isChange 68 = .ok (.iload_n 2, 1) := by decide +kernel
theorem dX11_isChange_69 : decode cX11_isChange 69 = .ok (.iload 4, 2) := by decide +kernel
theorem dX11_isChange_71 : decode cX11_isChange 71 = .ok (.invokevirtual 262, 3) := by decide +kernel
theorem dX11_isChange_74 : decode cX11_isChange 74 = .ok (.if_icmp .eq 19, 3) := by decide +kernel
theorem dX11_isChange_77 : decode cX11_isChange 77 = .ok (.aload_n 0, 1) := by decide +kernel
theorem dX11_isChange_78 : decode cX11_isChange 78 = .ok (.iload_n 1, 1) := by decide +kernel
theorem dX11_isChange_79 : decode cX11_isChange 79 = .ok (.iload_n 2, 1) := by decide +kernel
theorem dX11_isChange_80 : decode cX11_isChange 80 = .ok (.iload 4, 2) := by decide +kernel
theorem dX11_isChange_82 : decode cX11_isChange 82 = .ok (.iconst 1, 1) := by decide +kernel
theorem dX11_isChange_83 : decode cX11_isChange 83 = .ok (.invokevirtual 265, 3) := by decide +kernel
theorem dX11_isChange_86 : decode cX11_isChange 86 = .ok (.ifCond .eq 7, 3) := by decide +kernel
theorem dX11_isChange_89 : decode cX11_isChange 89 = .ok (.iconst 1, 1) := by decide +kernel
theorem dX11_isChange_90 : decode cX11_isChange 90 = .ok (.goto 4, 3) := by decide +kernel
theorem dX11_isChange_93 : decode cX11_isChange 93 = .ok (.iconst 0, 1) := by decide +kernel
theorem dX11_isChange_94 : decode cX11_isChange 94 = .ok (.ireturn, 1) := by decide +kernel
theorem dX11_isChange_95 : decode cX11_isChange 95 = .ok (.iload 5, 2) := by decide +kernel
theorem dX11_isChange_97 : decode cX11_isChange 97 = .ok (.iconst 1, 1) := by decide +kernel
theorem dX11_isChange_98 : decode cX11_isChange 98 = .ok (.if_icmp .ne 29, 3) := by decide +kernel
theorem dX11_isChange_101 : decode cX11_isChange 101 = .ok (.iload 4, 2) := by decide +kernel
theorem dX11_isChange_103 : decode cX11_isChange 103 = .ok (.aload_n 0, 1) := by decide +kernel
theorem dX11_isChange_104 : decode cX11_isChange 104 = .ok (.getfield 7, 3) := by decide +kernel
theorem dX11_isChange_107 : decode cX11_isChange 107 = .ok (.iload_n 1, 1) := by decide +kernel
theorem dX11_isChange_108 : decode cX11_isChange 108 = .ok (.iaload, 1) := by decide +kernel
theorem dX11_isChange_109 : decode cX11_isChange 109 = .ok (.if_icmp .gt 18, 3) := by decide +kernel
theorem dX11_isChange_112 : decode cX11_isChange 112 = .ok (.aload_n 0, 1) := by decide +kernel
theorem dX11_isChange_113 : decode cX11_isChange 113 = .ok (.iload_n 2, 1) := by decide +kernel
theorem dX11_isChange_114 : decode cX11_isChange 114 = .ok (.iload 4, 2) := by decide +kernel
theorem dX11_isChange_116 : decode cX11_isChange 116 = .ok (.iload_n 1, 1) := by decide +kernel
theorem dX11_isChange_117 : decode cX11_isChange 117 = .ok (.invokevirtual 269, 3) := by decide +kernel
theorem dX11_isChange_120 : decode cX11_isChange 120 = .ok (.ifCond .eq 7, 3) := by decide +kernel
theorem dX11_isChange_123 : decode cX11_isChange 123 = .ok (.iconst 1, 1) := by decide +kernel
theorem dX11_isChange_124 : decode cX11_isChange 124 = .ok (.goto 4, 3) := by decide +kernel
theorem dX11_isChange_127 : decode cX11_isChange 127 = .ok (.iconst 0, 1) := by decide +kernel
theorem dX11_isChange_128 : decode cX11_isChange 128 = .ok (.ireturn, 1) := by decide +kernel
theorem dX11_isChange_129 : decode cX11_isChange 129 = .ok (.iload 5, 2) := by decide +kernel
theorem dX11_isChange_131 : decode cX11_isChange 131 = .ok (.iconst (-1), 1) := by decide +kernel
theorem dX11_isChange_132 : decode cX11_isChange 132 = .ok (.if_icmp .ne 29, 3) := by decide +kernel
theorem dX11_isChange_135 : decode cX11_isChange 135 = .ok (.iload 4, 2) := by decide +kernel
theorem dX11_isChange_137 : decode cX11_isChange 137 = .ok (.aload_n 0, 1) := by decide +kernel
theorem dX11_isChange_138 : decode cX11_isChange 138 = .ok (.getfield 7, 3) := by decide +kernel
theorem dX11_isChange_141 : decode cX11_isChange 141 = .ok (.iload_n 1, 1) := by decide +kernel
theorem dX11_isChange_142 : decode cX11_isChange 142 = .ok (.iaload, 1) := by decide +kernel
theorem dX11_isChange_143 : decode cX11_isChange 143 = .ok (.if_icmp .ge 18, 3) := by decide +kernel
theorem dX11_isChange_146 : decode cX11_isChange 146 = .ok (.aload_n 0, 1) := by decide +kernel
theorem dX11_isChange_147 : decode cX11_isChange 147 = .ok (.iload_n 1, 1) := by decide +kernel
theorem dX11_isChange_148 : decode cX11_isChange 148 = .ok (.iload 4, 2) := by decide +kernel
theorem dX11_isChange_150 : decode cX11_isChange 150 = .ok (.iload_n 2, 1) := by decide +kernel
theorem dX11_isChange_151 : decode cX11_isChange 151 = .ok (.invokevirtual 269, 3) := by decide +kernel
theorem dX11_isChange_154 : decode cX11_isChange 154 = .ok (.ifCond .eq 7, 3) := by decide +kernel
theorem dX11_isChange_157 : decode cX11_isChange 157 = .ok (.iconst 1, 1) := by decide +kernel
theorem dX11_isChange_158 : decode cX11_isChange 158 = .ok (.goto 4, 3) := by decide +kernel
theorem dX11_isChange_161 : decode cX11_isChange 161 = .ok (.iconst 0, 1) := by decide +kernel
theorem dX11_isChange_162 : decode cX11_isChange 162 = .ok (.ireturn, 1) := by decide +kernel
theorem dX11_isChange_163 : decode cX11_isChange 163 = .ok (.iload 5, 2) := by decide +kernel
theorem dX11_isChange_165 : decode cX11_isChange 165 = .ok (.ifCond .ne 89, 3) := by decide +kernel
theorem dX11_isChange_168 : decode cX11_isChange 168 = .ok (.iload 4, 2) := by decide +kernel
theorem dX11_isChange_170 : decode cX11_isChange 170 = .ok (.iconst 1, 1) := by decide +kernel
theorem dX11_isChange_171 : decode cX11_isChange 171 = .ok (.iadd, 1) := by decide +kernel
theorem dX11_isChange_172 : decode cX11_isChange 172 = .ok (.aload_n 0, 1) := by decide +kernel
theorem dX11_isChange_173 : decode cX11_isChange 173 = .ok (.getfield 7, 3) := by decide +kernel
theorem dX11_isChange_176 : decode cX11_isChange 176 = .ok (.iload_n 1, 1) := by decide +kernel
theorem dX11_isChange_177 : decode cX11_isChange 177 = .ok (.iaload, 1) := by decide +kernel
theorem dX11_isChange_178 : decode cX11_isChange 178 = .ok (.if_icmp .ge 76, 3) := by decide +kernel
theorem dX11_isChange_181 : decode cX11_isChange 181 = .ok (.aload_n 0, 1) := by decide +kernel
theorem dX11_isChange_182 : decode cX11_isChange 182 = .ok (.iload_n 1, 1) := by decide +kernel
theorem dX11_isChange_183 : decode cX11_isChange 183 = .ok (.iload 4, 2) := by decide +kernel
theorem dX11_isChange_185 : decode cX11_isChange 185 = .ok (.invokevirtual 262, 3) := by decide +kernel
theorem dX11_isChange_188 : decode cX11_isChange 188 = .ok (.aload_n 0, 1) := by decide +kernel
theorem dX11_isChange_189 : decode cX11_isChange 189 = .ok (.iload_n 1, 1) := by decide +kernel
theorem dX11_isChange_190 : decode cX11_isChange 190 = .ok (.iload 4, 2) := by decide +kernel
theorem dX11_isChange_192 : decode cX11_isChange 192 = .ok (.iconst 1, 1) := by decide +kernel
theorem dX11_isChange_193 : decode cX11_isChange 193 = .ok (.iadd, 1) := by decide +kernel
theorem dX11_isChange_194 : decode cX11_isChange 194 = .ok (.invokevirtual 262, 3) := by decide +kernel
theorem dX11_isChange_197 : decode cX11_isChange 197 = .ok (.if_icmp .eq 57, 3) := by decide +kernel
theorem dX11_isChange_200 : decode cX11_isChange 200 = .ok (.aload_n 0, 1) := by decide +kernel
theorem dX11_isChange_201 : decode cX11_isChange 201 = .ok (.iload_n 1, 1) := by decide +kernel
theorem dX11_isChange_202 : decode cX11_isChange 202 = .ok (.iload 4, 2) := by decide +kernel
theorem dX11_isChange_204 : decode cX11_isChange 204 = .ok (.invokevirtual 262, 3) := by decide +kernel
theorem dX11_isChange_207 : decode cX11_isChange 207 = .ok (.aload_n 0, 1) := by decide +kernel
theorem dX11_isChange_208 : decode cX11_isChange 208 = .ok (.iload_n 2, 1) := by decide +kernel
theorem dX11_isChange_209 : decode cX11_isChange 209 = .ok (.iload 4, 2) := by decide +kernel
theorem dX11_isChange_211 : decode cX11_isChange 211 = .ok (.iconst 1, 1) := by decide +kernel
theorem dX11_isChange_212 : decode cX11_isChange 212 = .ok (.iadd, 1) := by decide +kernel
theorem dX11_isChange_213 : decode cX11_isChange 213 = .ok (.invokevirtual 262, 3) := by decide +kernel
theorem dX11_isChange_216 : decode cX11_isChange 216 = .ok (.if_icmp .ne 38, 3) := by decide +kernel
theorem dX11_isChange_219 : decode cX11_isChange 219 = .ok (.aload_n 0, 1) := by decide +kernel
theorem dX11_isChange_220 : decode cX11_isChange 220 = .ok (.iload_n 1, 1) := by decide +kernel
theorem dX11_isChange_221 : decode cX11_isChange 221 = .ok (.iload 4, 2) := by decide +kernel
theorem dX11_isChange_223 : decode cX11_isChange 223 = .ok (.iconst 1, 1) := by decide +kernel
theorem dX11_isChange_224 : decode cX11_isChange 224 = .ok (.iadd, 1) := by decide +kernel
theorem dX11_isChange_225 : decode cX11_isChange 225 = .ok (.invokevirtual 262, 3) := by decide +kernel
theorem dX11_isChange_228 : decode cX11_isChange 228 = .ok (.aload_n 0, 1) := by decide +kernel
theorem dX11_isChange_229 : decode cX11_isChange 229 = .ok (.iload_n 2, 1) := by decide +kernel
theorem dX11_isChange_230 : decode cX11_isChange 230 = .ok (.iload 4, 2) := by decide +kernel
theorem dX11_isChange_232 : decode cX11_isChange 232 = .ok (.invokevirtual 262, 3) := by decide +kernel
theorem dX11_isChange_235 : decode cX11_isChange 235 = .ok (.if_icmp .ne 19, 3) := by decide +kernel
theorem dX11_isChange_238 : decode cX11_isChange 238 = .ok (.aload_n 0, 1) := by decide +kernel
theorem dX11_isChange_239 : decode cX11_isChange 239 = .ok (.iload_n 1, 1) := by decide +kernel
theorem dX11_isChange_240 : decode cX11_isChange 240 = .ok (.iload_n 2, 1) := by decide +kernel
theorem dX11_isChange_241 : decode cX11_isChange 241 = .ok (.iload 4, 2) := by decide +kernel
theorem dX11_isChange_243 : decode cX11_isChange 243 = .ok (.iconst 2, 1) := by decide +kernel
theorem dX11_isChange_244 : decode cX11_isChange 244 = .ok (.invokevirtual 265, 3) := by decide +kernel
theorem dX11_isChange_247 : decode cX11_isChange 247 = .ok (.ifCond .eq 7, 3) := by decide +kernel
theorem dX11_isChange_250 : decode cX11_isChange 250 = .ok (.iconst 1, 1) := by decide +kernel
theorem dX11_isChange_251 : decode cX11_isChange 251 = .ok (.goto 4, 3) := by decide +kernel
theorem dX11_isChange_254 : decode cX11_isChange 254 = .ok (.iconst 0, 1) := by decide +kernel
theorem dX11_isChange_255 : decode cX11_isChange 255 = .ok (.ireturn, 1) := by decide +kernel
theorem dX11_isClear_0 : decode cX11_isClear 0 = .ok (.iconst 0, 1) := by decide +kernel
theorem dX11_isClear_1 : decode cX11_isClear 1 = .ok (.istore_n 3, 1) := by decide +kernel
theorem dX11_isClear_2 : decode cX11_isClear 2 = .ok (.iload_n 3, 1) := by decide +kernel
theorem dX11_isClear_3 : decode cX11_isClear 3 = .ok (.iload_n 2, 1) := by decide +kernel
theorem dX11_isClear_4 : decode cX11_isClear 4 = .ok (.if_icmp .ge 31, 3) := by decide +kernel
theorem dX11_isClear_7 : decode cX11_isClear 7 = .ok (.iload_n 1, 1) := by decide +kernel
theorem dX11_isClear_8 : decode cX11_isClear 8 = .ok (.iload_n 3, 1) := by decide +kernel
theorem dX11_isClear_9 : decode cX11_isClear 9 = .ok (.ishr, 1) := by decide +kernel
theorem dX11_isClear_10 : decode cX11_isClear 10 = .ok (.iconst 1, 1) := by decide +kernel
theorem dX11_isClear_11 : decode cX11_isClear 11 = .ok (.iand, 1) := by decide +kernel
theorem dX11_isClear_12 : decode cX11_isClear 12 = .ok (.iconst 1, 1) := by decide +kernel
theorem dX11_isClear_13 : decode cX11_isClear 13 = .ok (.if_icmp .ne 16, 3) := by decide +kernel
theorem dX11_isClear_16 : decode cX11_isClear 16 = .ok (.iload_n 1, 1) := by decide +kernel
theorem dX11_isClear_17 : decode cX11_isClear 17 = .ok (.aload_n 0, 1) := by decide +kernel
theorem dX11_isClear_18 : decode cX11_isClear 18 = .ok (.getfield 113, 3) := by decide +kernel
theorem dX11_isClear_21 : decode cX11_isClear 21 = .ok (.iload_n 3, 1) := by decide +kernel
theorem dX11_isClear_22 : decode cX11_isClear 22 = .ok (.iaload, 1) := by decide +kernel
theorem dX11_isClear_23 : decode cX11_isClear 23 = .ok (.iand, 1) := by decide +kernel
theorem dX11_isClear_24 : decode cX11_isClear 24 = .ok (.ifCond .eq 5, 3) := by decide +kernel
theorem dX11_isClear_27 : decode cX11_isClear 27 = .ok (.iconst 0, 1) := by decide +kernel
theorem dX11_isClear_28 : decode cX11_isClear 28 = .ok (.ireturn, 1) := by decide +kernel
theorem dX11_isClear_29 : decode cX11_isClear 29 = .ok (.iinc 3 1, 3) := by decide +kernel
theorem dX11_isClear_32 : decode cX11_isClear 32 = .ok (.goto (-30), 3) := by decide +kernel
theorem dX11_isClear_35 : decode cX11_isClear 35 = .ok (.iconst 1, 1) := by decide +kernel
theorem dX11_isClear_36 : decode cX11_isClear 36 = .ok (.ireturn, 1) := by decide +kernel
theorem dX11_isDigit_0 : decode cX11_isDigit 0 = .ok (.aload_n 0, 1) := by decide +kernel
theorem dX11_isDigit_1 : decode cX11_isDigit 1 = .ok (.invokevirtual 167, 3) := by decide +kernel
theorem dX11_isDigit_4 : decode cX11_isDigit 4 = .ok (.bipush 48, 2) := by decide +kernel
theorem dX11_isDigit_6 : decode cX11_isDigit 6 = .ok (.if_icmp .lt 16, 3) := by decide +kernel
theorem dX11_isDigit_9 : decode cX11_isDigit 9 = .ok (.aload_n 0, 1) := by decide +kernel
theorem dX11_isDigit_10 : decode cX11_isDigit 10 = .ok (.invokevirtual 167, 3) := by decide +kernel
theorem dX11_isDigit_13 : decode cX11_isDigit 13 = .ok (.bipush 57, 2) := by decide +kernel
theorem dX11_isDigit_15 : decode cX11_isDigit 15 = .ok (.if_icmp .gt 7, 3) := by decide +kernel
theorem dX11_isDigit_18 : decode cX11_isDigit 18 = .ok (.iconst 1, 1) := by decide +kernel
theorem dX11_isDigit_19 : decode cX11_isDigit 19 = .ok (.goto 4, 3) := by decide +kernel
theorem dX11_isDigit_22 : decode cX11_isDigit 22 = .ok (.iconst 0, 1) := by decide +kernel
theorem dX11_isDigit_23 : decode cX11_isDigit 23 = .ok (.ireturn, 1) := by decide +kernel
theorem dX11_isNear_0 : decode cX11_isNear 0 = .ok (.aload_n 0, 1) := by decide +kernel
theorem dX11_isNear_1 : decode cX11_isNear 1 = .ok (.getfield 7, 3) := by decide +kernel
theorem dX11_isNear_4 : decode cX11_isNear 4 = .ok (.iload_n 1, 1) := by decide +kernel
theorem dX11_isNear_5 : decode cX11_isNear 5 = .ok (.iaload, 1) := by decide +kernel
theorem dX11_isNear_6 : decode cX11_isNear 6 = .ok (.aload_n 0, 1) := by decide +kernel
theorem dX11_isNear_7 : decode cX11_isNear 7 = .ok (.getfield 136, 3) := by decide +kernel
theorem dX11_isNear_10 : decode cX11_isNear 10 = .ok (.isub, 1) := by decide +kernel
theorem dX11_isNear_11 : decode cX11_isNear 11 = .ok (.istore_n 2, 1) := by decide +kernel
theorem dX11_isNear_12 : decode cX11_isNear 12 = .ok (.iload_n 2, 1) := by decide +kernel
theorem dX11_isNear_13 : decode cX11_isNear 13 = .ok (.ifCond .ne 9, 3) := by decide +kernel
theorem dX11_isNear_16 : decode cX11_isNear 16 = .ok (.aload_n 0, 1) := by decide +kernel
theorem dX11_isNear_17 : decode cX11_isNear 17 = .ok (.iload_n 1, 1) := by decide +kernel
theorem dX11_isNear_18 : decode cX11_isNear 18 = .ok (.invokevirtual 332, 3) := by decide +kernel
theorem dX11_isNear_21 : decode cX11_isNear 21 = .ok (.ireturn, 1) := by decide +kernel
theorem dX11_isNear_22 : decode cX11_isNear 22 = .ok (.iload_n 2, 1) := by decide +kernel
theorem dX11_isNear_23 : decode cX11_isNear 23 = .ok (.iconst 1, 1) := by decide +kernel
theorem dX11_isNear_24 : decode cX11_isNear 24 = .ok (.if_icmp .eq 10, 3) := by decide +kernel
theorem dX11_isNear_27 : decode cX11_isNear 27 = .ok (.iload_n 2, 1) := by decide +kernel
theorem dX11_isNear_28 : decode cX11_isNear 28 = .ok (.iconst (-1), 1) := by decide +kernel
theorem dX11_isNear_29 : decode cX11_isNear 29 = .ok (.if_icmp .eq 5, 3) := by decide +kernel
theorem dX11_isNear_32 : decode cX11_isNear 32 = .ok (.iconst 0, 1) := by decide +kernel
theorem dX11_isNear_33 : decode cX11_isNear 33 = .ok (.ireturn, 1) := by decide +kernel
theorem dX11_isNear_34 : decode cX11_isNear 34 = .ok (.iload_n 2, 1) := by decide +kernel
theorem dX11_isNear_35 : decode cX11_isNear 35 = .ok (.iconst 1, 1) := by decide +kernel
theorem dX11_isNear_36 : decode cX11_isNear 36 = .ok (.if_icmp .ne 12, 3) := by decide +kernel
theorem dX11_isNear_39 : decode cX11_isNear 39 = .ok (.aload_n 0, 1) := by decide +kernel
theorem dX11_isNear_40 : decode cX11_isNear 40 = .ok (.getfield 7, 3) := by decide +kernel
theorem dX11_isNear_43 : decode cX11_isNear 43 = .ok (.iload_n 1, 1) := by decide +kernel
theorem dX11_isNear_44 : decode cX11_isNear 44 = .ok (.iaload, 1) := by decide +kernel
theorem dX11_isNear_45 : decode cX11_isNear 45 = .ok (.goto 7, 3) := by decide +kernel
theorem dX11_isNear_48 : decode cX11_isNear 48 = .ok (.aload_n 0, 1) := by decide +kernel
theorem dX11_isNear_49 : decode cX11_isNear 49 = .ok (.getfield 136, 3) := by decide +kernel
theorem dX11_isNear_52 : decode cX11_isNear 52 = .ok (.istore_n 3, 1) := by decide +kernel
theorem dX11_isNear_53 : decode cX11_isNear 53 = .ok (.iconst 0, 1) := by decide +kernel
theorem dX11_isNear_54 : decode cX11_isNear 54 = .ok (.istore 4, 2) := by decide +kernel
theorem dX11_isNear_56 : decode cX11_isNear 56 = .ok (.iload 4, 2) := by decide +kernel
theorem dX11_isNear_58 : decode cX11_isNear 58 = .ok (.iload_n 3, 1) := by decide +kernel
theorem dX11_isNear_59 : decode cX11_isNear 59 = .ok (.if_icmp .ge 31, 3) := by decide +kernel
theorem dX11_isNear_62 : decode cX11_isNear 62 = .ok (.aload_n 0, 1) := by decide +kernel
theorem dX11_isNear_63 : decode cX11_isNear 63 = .ok (.iload_n 1, 1) := by decide +kernel
theorem dX11_isNear_64 : decode cX11_isNear 64 = .ok (.iload 4, 2) := by decide +kernel
theorem dX11_isNear_66 : decode cX11_isNear 66 = .ok (.iload_n 2, 1) := by decide +kernel
theorem dX11_isNear_67 : decode cX11_isNear 67 = .ok (.iconst 1, 1) := by decide +kernel
theorem dX11_isNear_68 : decode cX11_isNear 68 = .ok (.if_icmp .ne 7, 3) := by decide +kernel
theorem dX11_isNear_71 : decode cX11_isNear 71 = .ok (.iconst 1, 1) := by decide +kernel
theorem dX11_isNear_72 : decode cX11_isNear 72 = .ok (.goto 4, 3) := by decide +kernel
theorem dX11_isNear_75 : decode cX11_isNear 75 = .ok (.iconst 0, 1) := by decide +kernel
theorem dX11_isNear_76 : decode cX11_isNear 76 = .ok (.invokevirtual 335, 3) := by decide +kernel
theorem dX11_isNear_79 : decode cX11_isNear 79 = .ok (.ifCond .eq 5, 3) := by decide +kernel
theorem dX11_isNear_82 : decode cX11_isNear 82 = .ok (.iconst 1, 1) := by decide +kernel
theorem dX11_isNear_83 : decode cX11_isNear 83 = .ok (.ireturn, 1) := by decide +kernel
theorem dX11_isNear_84 : decode cX11_isNear 84 = .ok (.iinc 4 1, 3) := by decide +kernel
theorem dX11_isNear_87 : decode cX11_isNear 87 = .ok (.goto (-31), 3) := by decide +kernel
theorem dX11_isNear_90 : decode cX11_isNear 90 = .ok (.iconst 0, 1) := by decide +kernel
theorem dX11_isNear_91 : decode cX11_isNear 91 = .ok (.ireturn, 1) := by decide +kernel
theorem dX11_isNearAlike_0 : decode cX11_isNearAlike 0 = .ok (.iconst 0, 1) := by decide +kernel
theorem dX11_isNearAlike_1 : decode cX11_isNearAlike 1 = .ok (.istore_n 2, 1) := by decide +kernel
theorem dX11_isNearAlike_2 : decode cX11_isNearAlike 2 = .ok (.iconst (-1), 1) := by decide +kernel
theorem dX11_isNearAlike_3 : decode cX11_isNearAlike 3 = .ok (.istore_n 3, 1) := by decide +kernel
theorem dX11_isNearAlike_4 : decode cX11_isNearAlike 4 = .ok (.iconst (-1), 1) := by decide +kernel
theorem dX11_isNearAlike_5 : decode cX11_isNearAlike 5 = .ok (.istore 4, 2) := by decide +kernel
theorem dX11_isNearAlike_7 : decode cX11_isNearAlike 7 = .ok (.iconst 0, 1) := by decide +kernel
theorem dX11_isNearAlike_8 : decode cX11_isNearAlike 8 = .ok (.istore 5, 2) := by decide +kernel
theorem dX11_isNearAlike_10 : decode cX11_isNearAlike 10 = .ok (.iload 5, 2) := by decide +kernel
theorem dX11_isNearAlike_12 : decode cX11_isNearAlike 12 = .ok (.aload_n 0, 1) := by decide +kernel
theorem dX11_isNearAlike_13 : decode cX11_isNearAlike 13 = .ok (.getfield 136, 3) := by decide +kernel
theorem dX11_isNearAlike_16 : decode cX11_isNearAlike 16 = .ok (.if_icmp .ge 49, 3) := by decide +kernel
theorem dX11_isNearAlike_19 : decode cX11_isNearAlike 19 = .ok (.aload_n 0, 1) := by decide +kernel
theorem dX11_isNearAlike_20 : decode cX11_isNearAlike 20 = .ok (.getfield 26, 3) := by decide +kernel
theorem dX11_isNearAlike_23 : decode cX11_isNearAlike 23 = .ok (.iload 5, 2) := by decide +kernel
theorem dX11_isNearAlike_25 : decode cX11_isNearAlike 25 = .ok (.iaload, 1) := by decide +kernel
theorem dX11_isNearAlike_26 : decode cX11_isNearAlike 26 = .ok (.aload_n 0, 1) := by decide +kernel
theorem dX11_isNearAlike_27 : decode cX11_isNearAlike 27 = .ok (.iload_n 1, 1) := by decide +kernel
theorem dX11_isNearAlike_28 : decode cX11_isNearAlike 28 = .ok (.iload 5, 2) := by decide +kernel
theorem dX11_isNearAlike_30 : decode cX11_isNearAlike 30 = .ok (.invokevirtual 262, 3) := by decide +kernel
theorem dX11_isNearAlike_33 : decode cX11_isNearAlike 33 = .ok (.if_icmp .ne 6, 3) := by decide +kernel
theorem dX11_isNearAlike_36 : decode cX11_isNearAlike 36 = .ok (.goto 23, 3) := by decide +kernel
theorem dX11_isNearAlike_39 : decode cX11_isNearAlike 39 = .ok (.iload_n 2, 1) := by decide +kernel
theorem dX11_isNearAlike_40 : decode cX11_isNearAlike 40 = .ok (.iconst 1, 1) := by decide +kernel
theorem dX11_isNearAlike_41 : decode cX11_isNearAlike 41 = .ok (.iadd, 1) := by decide +kernel
theorem dX11_isNearAlike_42 : decode cX11_isNearAlike 42 = .ok (.istore_n 2, 1) := by decide +kernel
theorem dX11_isNearAlike_43 : decode cX11_isNearAlike 43 = .ok (.iload_n 3, 1) := by decide +kernel
theorem dX11_isNearAlike_44 : decode cX11_isNearAlike 44 = .ok (.iconst (-1), 1) := by decide +kernel
theorem dX11_isNearAlike_45 : decode cX11_isNearAlike 45 = .ok (.if_icmp .ne 8, 3) := by decide +kernel
theorem dX11_isNearAlike_48 : decode cX11_isNearAlike 48 = .ok (.iload 5, 2) := by decide +kernel
theorem dX11_isNearAlike_50 : decode cX11_isNearAlike 50 = .ok (.goto 4, 3) := by decide +kernel
theorem dX11_isNearAlike_53 : decode cX11_isNearAlike 53 = .ok (.iload_n 3, 1) := by decide +kernel
theorem dX11_isNearAlike_54 : decode cX11_isNearAlike 54 = .ok (.istore_n 3, 1) := by decide +kernel
theorem dX11_isNearAlike_55 : decode cX11_isNearAlike 55 = .ok (.iload 5, 2) := by decide +kernel
theorem dX11_isNearAlike_57 : decode cX11_isNearAlike 57 = .ok (.istore 4, 2) := by decide +kernel
theorem dX11_isNearAlike_59 : decode cX11_isNearAlike 59 = .ok (.iinc 5 1, 3) := by decide +kernel
theorem dX11_isNearAlike_62 : decode cX11_isNearAlike 62 = .ok (.goto (-52), 3) := by decide +kernel
theorem dX11_isNearAlike_65 : decode cX11_isNearAlike 65 = .ok (.iload_n 2, 1) := by decide +kernel
theorem dX11_isNearAlike_66 : decode cX11_isNearAlike 66 = .ok (.iconst 1, 1) := by decide +kernel
theorem dX11_isNearAlike_67 : decode cX11_isNearAlike 67 = .ok (.if_icmp .eq 48, 3) := by decide +kernel
theorem dX11_isNearAlike_70 : decode cX11_isNearAlike 70 = .ok (.iload_n 2, 1) := by decide +kernel
theorem dX11_isNearAlike_71 : decode cX11_isNearAlike 71 = .ok (.iconst 2, 1) := by decide +kernel
theorem dX11_isNearAlike_72 : decode cX11_isNearAlike 72 = .ok (.if_icmp .ne 47, 3) := by decide +kernel
theorem dX11_isNearAlike_75 : decode cX11_isNearAlike 75 = .ok (.iload 4, 2) := by decide +kernel
theorem dX11_isNearAlike_77 : decode cX11_isNearAlike 77 = .ok (.iload_n 3, 1) := by decide +kernel
theorem dX11_isNearAlike_78 : decode cX11_isNearAlike 78 = .ok (.iconst 1, 1) := by decide +kernel
theorem dX11_isNearAlike_79 : decode cX11_isNearAlike 79 = .ok (.iadd, 1) := by decide +kernel
theorem dX11_isNearAlike_80 : decode cX11_isNearAlike 80 = .ok (.if_icmp .ne 39, 3) := by decide +kernel
theorem dX11_isNearAlike_83 : decode cX11_isNearAlike 83 = .ok (.aload_n 0, 1) := by decide +kernel
theorem dX11_isNearAlike_84 : decode cX11_isNearAlike 84 = .ok (.getfield 26, 3) := by decide +kernel
theorem dX11_isNearAlike_87 : decode cX11_isNearAlike 87 = .ok (.iload_n 3, 1) := by decide +kernel
theorem dX11_isNearAlike_88 : decode cX11_isNearAlike 88 = .ok (.iaload, 1) := by decide +kernel
theorem dX11_isNearAlike_89 : decode cX11_isNearAlike 89 = .ok (.aload_n 0, 1) := by decide +kernel
theorem dX11_isNearAlike_90 : decode cX11_isNearAlike 90 = .ok (.iload_n 1, 1) := by decide +kernel
theorem dX11_isNearAlike_91 : decode cX11_isNearAlike 91 = .ok (.iload 4, 2) := by decide +kernel
theorem dX11_isNearAlike_93 : decode cX11_isNearAlike 93 = .ok (.invokevirtual 262, 3) := by decide +kernel
theorem dX11_isNearAlike_96 : decode cX11_isNearAlike 96 = .ok (.if_icmp .ne 23, 3) := by decide +kernel
theorem dX11_isNearAlike_99 : decode cX11_isNearAlike 99 = .ok (.aload_n 0, 1) := by decide +kernel
theorem dX11_isNearAlike_100 : decode cX11_isNearAlike 100 = .ok (.getfield 26, 3) := by decide +kernel
theorem dX11_isNearAlike_103 : decode cX11_isNearAlike 103 = .ok (.iload 4, 2) := by decide +kernel
theorem dX11_isNearAlike_105 : decode cX11_isNearAlike 105 = .ok (.iaload, 1) := by decide +kernel
theorem dX11_isNearAlike_106 : decode cX11_isNearAlike 106 = .ok (.aload_n 0, 1) := by decide +kernel
theorem dX11_isNearAlike_107 : decode cX11_isNearAlike 107 = .ok (.iload_n 1, 1) := by decide +kernel
theorem dX11_isNearAlike_108 : decode cX11_isNearAlike 108 = .ok (.iload_n 3, 1) := by decide +kernel
theorem dX11_isNearAlike_109 : decode cX11_isNearAlike 109 = .ok (.invokevirtual 262, 3) := by decide +kernel
theorem dX11_isNearAlike_112 : decode cX11_isNearAlike 112 = .ok (.if_icmp .ne 7, 3) := by decide +kernel
theorem dX11_isNearAlike_115 : decode cX11_isNearAlike 115 = .ok (.iconst 1, 1) := by decide +kernel
theorem dX11_isNearAlike_116 : decode cX11_isNearAlike 116 = .ok (.goto 4, 3) := by decide +kernel
theorem dX11_isNearAlike_119 : decode cX11_isNearAlike 119 = .ok (.iconst 0, 1) := by decide +kernel
theorem dX11_isNearAlike_120 : decode cX11_isNearAlike 120 = .ok (.ireturn, 1) := by decide +kernel
theorem dX11_isOf_0 : decode cX11_isOf 0 = .ok (.aload_n 0, 1) := by decide +kernel
theorem dX11_isOf_1 : decode cX11_isOf 1 = .ok (.iload_n 1, 1) := by decide +kernel
theorem dX11_isOf_2 : decode cX11_isOf 2 = .ok (.invokevirtual 282, 3) := by decide +kernel
theorem dX11_isOf_5 : decode cX11_isOf 5 = .ok (.ifCond .eq 17, 3) := by decide +kernel
theorem dX11_isOf_8 : decode cX11_isOf 8 = .ok (.aload_n 0, 1) := by decide +kernel
theorem dX11_isOf_9 : decode cX11_isOf 9 = .ok (.getfield 7, 3) := by decide +kernel
theorem dX11_isOf_12 : decode cX11_isOf 12 = .ok (.iload_n 1, 1) := by decide +kernel
theorem dX11_isOf_13 : decode cX11_isOf 13 = .ok (.iaload, 1) := by decide +kernel
theorem dX11_isOf_14 : decode cX11_isOf 14 = .ok (.iload_n 2, 1) := by decide +kernel
theorem dX11_isOf_15 : decode cX11_isOf 15 = .ok (.if_icmp .ne 7, 3) := by decide +kernel
theorem dX11_isOf_18 : decode cX11_isOf 18 = .ok (.iconst 1, 1) := by decide +kernel
theorem dX11_isOf_19 : decode cX11_isOf 19 = .ok (.goto 4, 3) := by decide +kernel
theorem dX11_isOf_22 : decode cX11_isOf 22 = .ok (.iconst 0, 1) := by decide +kernel
theorem dX11_isOf_23 : decode cX11_isOf 23 = .ok (.ireturn, 1) := by decide +kernel
theorem dX11_isRow_0 : decode cX11_isRow 0 = .ok (.aload_n 0, 1) := by decide +kernel
theorem dX11_isRow_1 : decode cX11_isRow 1 = .ok (.getfield 7, 3) := by decide +kernel
theorem dX11_isRow_4 : decode cX11_isRow 4 = .ok (.iload_n 1, 1) := by decide +kernel
theorem dX11_isRow_5 : decode cX11_isRow 5 = .ok (.iaload, 1) := by decide +kernel
theorem dX11_isRow_6 : decode cX11_isRow 6 = .ok (.aload_n 0, 1) := by decide +kernel
theorem dX11_isRow_7 : decode cX11_isRow 7 = .ok (.getfield 136, 3) := by decide +kernel
theorem dX11_isRow_10 : decode cX11_isRow 10 = .ok (.if_icmp .eq 5, 3) := by decide +kernel
theorem dX11_isRow_13 : decode cX11_isRow 13 = .ok (.iconst 0, 1) := by decide +kernel
theorem dX11_isRow_14 : decode cX11_isRow 14 = .ok (.ireturn, 1) := by decide +kernel
theorem dX11_isRow_15 : decode cX11_isRow 15 = .ok (.iconst 0, 1) := by decide +kernel
theorem dX11_isRow_16 : decode cX11_isRow 16 = .ok (.istore_n 2, 1) := by decide +kernel
theorem dX11_isRow_17 : decode cX11_isRow 17 = .ok (.iload_n 2, 1) := by decide +kernel
theorem dX11_isRow_18 : decode cX11_isRow 18 = .ok (.aload_n 0, 1) := by decide +kernel
theorem dX11_isRow_19 : decode cX11_isRow 19 = .ok (.getfield 136, 3) := by decide +kernel
theorem dX11_isRow_22 : decode cX11_isRow 22 = .ok (.if_icmp .ge 31, 3) := by decide +kernel
theorem dX11_isRow_25 : decode cX11_isRow 25 = .ok (.aload_n 0, 1) := by decide +kernel
theorem dX11_isRow_26 : decode cX11_isRow 26 = .ok (.getfield 13, 3) := by decide +kernel
theorem dX11_isRow_29 : decode cX11_isRow 29 = .ok (.bipush 8, 2) := by decide +kernel
theorem dX11_isRow_31 : decode cX11_isRow 31 = .ok (.iload_n 1, 1) := by decide +kernel
theorem dX11_isRow_32 : decode cX11_isRow 32 = .ok (.imul, 1) := by decide +kernel
theorem dX11_isRow_33 : decode cX11_isRow 33 = .ok (.iload_n 2, 1) := by decide +kernel
theorem dX11_isRow_34 : decode cX11_isRow 34 = .ok (.iadd, 1) := by decide +kernel
theorem dX11_isRow_35 : decode cX11_isRow 35 = .ok (.iaload, 1) := by decide +kernel
theorem dX11_isRow_36 : decode cX11_isRow 36 = .ok (.aload_n 0, 1) := by decide +kernel
theorem dX11_isRow_37 : decode cX11_isRow 37 = .ok (.getfield 26, 3) := by decide +kernel
theorem dX11_isRow_40 : decode cX11_isRow 40 = .ok (.iload_n 2, 1) := by decide +kernel
theorem dX11_isRow_41 : decode cX11_isRow 41 = .ok (.iaload, 1) := by decide +kernel
theorem dX11_isRow_42 : decode cX11_isRow 42 = .ok (.if_icmp .eq 5, 3) := by decide +kernel
theorem dX11_isRow_45 : decode cX11_isRow 45 = .ok (.iconst 0, 1) := by decide +kernel
theorem dX11_isRow_46 : decode cX11_isRow 46 = .ok (.ireturn, 1) := by decide +kernel
theorem dX11_isRow_47 : decode cX11_isRow 47 = .ok (.iinc 2 1, 3) := by decide +kernel
theorem dX11_isRow_50 : decode cX11_isRow 50 = .ok (.goto (-33), 3) := by decide +kernel
theorem dX11_isRow_53 : decode cX11_isRow 53 = .ok (.iconst 1, 1) := by decide +kernel
theorem dX11_isRow_54 : decode cX11_isRow 54 = .ok (.ireturn, 1) := by decide +kernel
theorem dX11_isRowWithout_0 : decode cX11_isRowWithout 0 = .ok (.iload_n 3, 1) := by decide +kernel
theorem dX11_isRowWithout_1 : decode cX11_isRowWithout 1 = .ok (.ifCond .eq 10, 3) := by decide +kernel
theorem dX11_isRowWithout_4 : decode cX11_isRowWithout 4 = .ok (.aload_n 0, 1) := by decide +kernel
theorem dX11_isRowWithout_5 : decode cX11_isRowWithout 5 = .ok (.getfield 136, 3) := by decide +kernel
theorem dX11_isRowWithout_8 : decode cX11_isRowWithout 8 = .ok (.goto 9, 3) := by decide +kernel
theorem dX11_isRowWithout_11 : decode cX11_isRowWithout 11 = .ok (.aload_n 0, 1) := by decide +kernel
theorem dX11_isRowWithout_12 : decode cX11_isRowWithout 12 = .ok (.getfield 7, 3) := by decide +kernel
theorem dX11_isRowWithout_15 : decode cX11_isRowWithout 15 = .ok (.iload_n 1, 1) := by decide +kernel
theorem dX11_isRowWithout_16 : decode cX11_isRowWithout 16 = .ok (.iaload, 1) := by decide +kernel
theorem dX11_isRowWithout_17 : decode cX11_isRowWithout 17 = .ok (.istore 4, 2) := by decide +kernel
theorem dX11_isRowWithout_19 : decode cX11_isRowWithout 19 = .ok (.iconst 0, 1) := by decide +kernel
theorem dX11_isRowWithout_20 : decode cX11_isRowWithout 20 = .ok (.istore 5, 2) := by decide +kernel
theorem dX11_isRowWithout_22 : decode cX11_isRowWithout 22 = .ok (.iload 5, 2) := by decide +kernel
theorem dX11_isRowWithout_24 : decode cX11_isRowWithout 24 = .ok (.iload 4, 2) := by decide +kernel
theorem dX11_isRowWithout_26 : decode cX11_isRowWithout 26 = .ok (.if_icmp .ge 69, 3) := by decide +kernel
theorem dX11_isRowWithout_29 : decode cX11_isRowWithout 29 = .ok (.iload 5, 2) := by decide +kernel
theorem dX11_isRowWithout_31 : decode cX11_isRowWithout 31 = .ok (.iload_n 2, 1) := by decide +kernel
theorem dX11_isRowWithout_32 : decode cX11_isRowWithout 32 = .ok (.if_icmp .ge 8, 3) := by decide +kernel
theorem dX11_isRowWithout_35 : decode cX11_isRowWithout 35 = .ok (.iload 5, 2) := by decide +kernel
theorem dX11_isRowWithout_37 : decode cX11_isRowWithout 37 = .ok (.goto 7, 3) := by decide +kernel
theorem dX11_isRowWithout_40 : decode cX11_isRowWithout 40 = .ok (.iload 5, 2) := by decide +kernel
theorem dX11_isRowWithout_42 : decode cX11_isRowWithout 42 = .ok (.iconst 1, 1) := by decide +kernel
theorem dX11_isRowWithout_43 : decode cX11_isRowWithout 43 = .ok (.iadd, 1) := by decide +kernel
theorem dX11_isRowWithout_44 : decode cX11_isRowWithout 44 = .ok (.istore 6, 2) := by decide +kernel
theorem dX11_isRowWithout_46 : decode cX11_isRowWithout 46 = .ok (.iload_n 3, 1) := by decide +kernel
theorem dX11_isRowWithout_47 : decode cX11_isRowWithout 47 = .ok (.ifCond .eq 23, 3) := by decide +kernel
theorem dX11_isRowWithout_50 : decode cX11_isRowWithout 50 = .ok (.aload_n 0, 1) := by decide +kernel
theorem dX11_isRowWithout_51 : decode cX11_isRowWithout 51 = .ok (.getfield 26, 3) := by decide +kernel
theorem dX11_isRowWithout_54 : decode cX11_isRowWithout 54 = .ok (.iload 5, 2) := by decide +kernel
theorem dX11_isRowWithout_56 : decode cX11_isRowWithout 56 = .ok (.iaload, 1) := by decide +kernel
theorem dX11_isRowWithout_57 : decode cX11_isRowWithout 57 = .ok (.aload_n 0, 1) := by decide +kernel
theorem dX11_isRowWithout_58 : decode cX11_isRowWithout 58 = .ok (.iload_n 1, 1) := by decide +kernel
theorem dX11_isRowWithout_59 : decode cX11_isRowWithout 59 = .ok (.iload 6, 2) := by decide +kernel
theorem dX11_isRowWithout_61 : decode cX11_isRowWithout 61 = .ok (.invokevirtual 262, 3) := by decide +kernel
theorem dX11_isRowWithout_64 : decode cX11_isRowWithout 64 = .ok (.if_icmp .eq 25, 3) := by decide +kernel
theorem dX11_isRowWithout_67 : decode cX11_isRowWithout 67 = .ok (.goto 20, 3) := by decide +kernel
theorem dX11_isRowWithout_70 : decode cX11_isRowWithout 70 = .ok (.aload_n 0, 1) := by decide +kernel
theorem dX11_isRowWithout_71 : decode cX11_isRowWithout 71 = .ok (.getfield 26, 3) := by decide +kernel
theorem dX11_isRowWithout_74 : decode cX11_isRowWithout 74 = .ok (.iload 6, 2) := by decide +kernel
theorem dX11_isRowWithout_76 : decode cX11_isRowWithout 76 = .ok (.iaload, 1) := by decide +kernel
theorem dX11_isRowWithout_77 : decode cX11_isRowWithout 77 = .ok (.aload_n 0, 1) := by decide +kernel
theorem dX11_isRowWithout_78 : decode cX11_isRowWithout 78 = .ok (.iload_n 1, 1) := by decide +kernel
theorem dX11_isRowWithout_79 : decode cX11_isRowWithout 79 = .ok (.iload 5, 2) := by decide +kernel
theorem dX11_isRowWithout_81 : decode cX11_isRowWithout 81 = .ok (.invokevirtual 262, 3) := by decide +kernel
theorem dX11_isRowWithout_84 : decode cX11_isRowWithout 84 = .ok (.if_icmp .eq 5, 3) := by decide +kernel
theorem dX11_isRowWithout_87 : decode cX11_isRowWithout 87 = .ok (.iconst 0, 1) := by decide +kernel
theorem dX11_isRowWithout_88 : decode cX11_isRowWithout 88 = .ok (.ireturn, 1) := by decide +kernel
theorem dX11_isRowWithout_89 : decode cX11_isRowWithout 89 = .ok (.iinc 5 1, 3) := by decide +kernel
theorem dX11_isRowWithout_92 : decode cX11_isRowWithout 92 = .ok (.goto (-70), 3) := by decide +kernel
theorem dX11_isRowWithout_95 : decode cX11_isRowWithout 95 = .ok (.iconst 1, 1) := by decide +kernel
theorem dX11_isRowWithout_96 : decode cX11_isRowWithout 96 = .ok (.ireturn, 1) := by decide +kernel
theorem dX11_isRowWord_0 : decode cX11_isRowWord 0 = .ok (.iconst 0, 1) := by decide +kernel
theorem dX11_isRowWord_1 : decode cX11_isRowWord 1 = .ok (.istore_n 1, 1) := by decide +kernel
theorem dX11_isRowWord_2 : decode cX11_isRowWord 2 = .ok (.iload_n 1, 1) := by decide +kernel
theorem dX11_isRowWord_3 : decode cX11_isRowWord 3 = .ok (.aload_n 0, 1) := by decide +kernel
theorem dX11_isRowWord_4 : decode cX11_isRowWord 4 = .ok (.getfield 130, 3) := by decide +kernel
theorem dX11_isRowWord_7 : decode cX11_isRowWord 7 = .ok (.if_icmp .ge 19, 3) := by decide +kernel
theorem dX11_isRowWord_10 : decode cX11_isRowWord 10 = .ok (.aload_n 0, 1) := by decide +kernel
theorem dX11_isRowWord_11 : decode cX11_isRowWord 11 = .ok (.iload_n 1, 1) := by decide +kernel
theorem dX11_isRowWord_12 : decode cX11_isRowWord 12 = .ok (.invokevirtual 143, 3) := by decide +kernel
theorem dX11_isRowWord_15 : decode cX11_isRowWord 15 = .ok (.ifCond .eq 5, 3) := by decide +kernel
theorem dX11_isRowWord_18 : decode cX11_isRowWord 18 = .ok (.iconst 1, 1) := by decide +kernel
theorem dX11_isRowWord_19 : decode cX11_isRowWord 19 = .ok (.ireturn, 1) := by decide +kernel
theorem dX11_isRowWord_20 : decode cX11_isRowWord 20 = .ok (.iinc 1 1, 3) := by decide +kernel
theorem dX11_isRowWord_23 : decode cX11_isRowWord 23 = .ok (.goto (-21), 3) := by decide +kernel
theorem dX11_isRowWord_26 : decode cX11_isRowWord 26 = .ok (.iconst 0, 1) := by decide +kernel
theorem dX11_isRowWord_27 : decode cX11_isRowWord 27 = .ok (.ireturn, 1) := by decide +kernel
theorem dX11_isRubbed_0 : decode cX11_isRubbed 0 = .ok (.aload_n 0, 1) := by decide +kernel
theorem dX11_isRubbed_1 : decode cX11_isRubbed 1 = .ok (.getfield 7, 3) := by decide +kernel
theorem dX11_isRubbed_4 : decode cX11_isRubbed 4 = .ok (.iload_n 1, 1) := by decide +kernel
theorem dX11_isRubbed_5 : decode cX11_isRubbed 5 = .ok (.iaload, 1) := by decide +kernel
theorem dX11_isRubbed_6 : decode cX11_isRubbed 6 = .ok (.iload_n 2, 1) := by decide +kernel
theorem dX11_isRubbed_7 : decode cX11_isRubbed 7 = .ok (.if_icmp .eq 5, 3) := by decide +kernel
theorem dX11_isRubbed_10 : decode cX11_isRubbed 10 = .ok (.iconst 0, 1) := by decide +kernel
theorem dX11_isRubbed_11 : decode cX11_isRubbed 11 = .ok (.ireturn, 1) := by decide +kernel
theorem dX11_isRubbed_12 : decode cX11_isRubbed 12 = .ok (.iconst 0, 1) := by decide +kernel
theorem dX11_isRubbed_13 : decode cX11_isRubbed 13 = .ok (.istore_n 3, 1) := by decide +kernel
theorem dX11_isRubbed_14 : decode cX11_isRubbed 14 = .ok (.iload_n 3, 1) := by decide +kernel
theorem dX11_isRubbed_15 : decode cX11_isRubbed 15 = .ok (.iload_n 2, 1) := by decide +kernel
theorem dX11_isRubbed_16 : decode cX11_isRubbed 16 = .ok (.if_icmp .ge 40, 3) := by decide +kernel
theorem dX11_isRubbed_19 : decode cX11_isRubbed 19 = .ok (.aload_n 0, 1) := by decide +kernel
theorem dX11_isRubbed_20 : decode cX11_isRubbed 20 = .ok (.getfield 29, 3) := by decide +kernel
theorem dX11_isRubbed_23 : decode cX11_isRubbed 23 = .ok (.iload_n 3, 1) := by decide +kernel
theorem dX11_isRubbed_24 : decode cX11_isRubbed 24 = .ok (.baload, 1) := by decide +kernel
theorem dX11_isRubbed_25 : decode cX11_isRubbed 25 = .ok (.bipush 63, 2) := by decide +kernel
theorem dX11_isRubbed_27 : decode cX11_isRubbed 27 = .ok (.if_icmp .eq 23, 3) := by decide +kernel
theorem dX11_isRubbed_30 : decode cX11_isRubbed 30 = .ok (.aload_n 0, 1) := by decide +kernel
theorem dX11_isRubbed_31 : decode cX11_isRubbed 31 = .ok (.getfield 29, 3) := by decide +kernel
theorem dX11_isRubbed_34 : decode cX11_isRubbed 34 = .ok (.iload_n 3, 1) := by decide +kernel
theorem dX11_isRubbed_35 : decode cX11_isRubbed 35 = .ok (.baload, 1) := by decide +kernel
theorem dX11_isRubbed_36 : decode cX11_isRubbed 36 = .ok (.bipush 97, 2) := by decide +kernel
theorem dX11_isRubbed_38 : decode cX11_isRubbed 38 = .ok (.isub, 1) := by decide +kernel
theorem dX11_isRubbed_39 : decode cX11_isRubbed 39 = .ok (.aload_n 0, 1) := by decide +kernel
theorem dX11_isRubbed_40 : decode cX11_isRubbed 40 = .ok (.iload_n 1, 1) := by decide +kernel
theorem dX11_isRubbed_41 : decode cX11_isRubbed 41 = .ok (.iload_n 3, 1) := by decide +kernel
theorem dX11_isRubbed_42 : decode cX11_isRubbed 42 = .ok (.invokevirtual 262, 3) := by decide +kernel
theorem dX11_isRubbed_45 : decode cX11_isRubbed 45 = .ok (.if_icmp .eq 5, 3) := by decide +kernel
theorem dX11_isRubbed_48 : decode cX11_isRubbed 48 = .ok (.iconst 0, 1) := by decide +kernel
theorem dX11_isRubbed_49 : decode cX11_isRubbed 49 = .ok (.ireturn, 1) := by decide +kernel
theorem dX11_isRubbed_50 : decode cX11_isRubbed 50 = .ok (.iinc 3 1, 3) := by decide +kernel
theorem dX11_isRubbed_53 : decode cX11_isRubbed 53 = .ok (.goto (-39), 3) := by decide +kernel
theorem dX11_isRubbed_56 : decode cX11_isRubbed 56 = .ok (.iconst 1, 1) := by decide +kernel
theorem dX11_isRubbed_57 : decode cX11_isRubbed 57 = .ok (.ireturn, 1) := by decide +kernel
theorem dX11_isStep_0 : decode cX11_isStep 0 = .ok (.aload_n 0, 1) := by decide +kernel
theorem dX11_isStep_1 : decode cX11_isStep 1 = .ok (.getfield 72, 3) := by decide +kernel
theorem dX11_isStep_4 : decode cX11_isStep 4 = .ok (.bipush 40, 2) := by decide +kernel
theorem dX11_isStep_6 : decode cX11_isStep 6 = .ok (.iload_n 1, 1) := by decide +kernel
theorem dX11_isStep_7 : decode cX11_isStep 7 = .ok (.imul, 1) := by decide +kernel
theorem dX11_isStep_8 : decode cX11_isStep 8 = .ok (.iload_n 2, 1) := by decide +kernel
theorem dX11_isStep_9 : decode cX11_isStep 9 = .ok (.iadd, 1) := by decide +kernel
theorem dX11_isStep_10 : decode cX11_isStep 10 = .ok (.iaload, 1) := by decide +kernel
theorem dX11_isStep_11 : decode cX11_isStep 11 = .ok (.ldc 129, 2) := by decide +kernel
theorem dX11_isStep_13 : decode cX11_isStep 13 = .ok (.if_icmp .ge 7, 3) := by decide +kernel
theorem dX11_isStep_16 : decode cX11_isStep 16 = .ok (.iconst 1, 1) := by decide +kernel
theorem dX11_isStep_17 : decode cX11_isStep 17 = .ok (.goto 4, 3) := by decide +kernel
theorem dX11_isStep_20 : decode cX11_isStep 20 = .ok (.iconst 0, 1) := by decide +kernel
theorem dX11_isStep_21 : decode cX11_isStep 21 = .ok (.ireturn, 1) := by decide +kernel
theorem dX11_isUsed_0 : decode cX11_isUsed 0 = .ok (.aload_n 0, 1) := by decide +kernel
theorem dX11_isUsed_1 : decode cX11_isUsed 1 = .ok (.getfield 22, 3) := by decide +kernel
theorem dX11_isUsed_4 : decode cX11_isUsed 4 = .ok (.iload_n 1, 1) := by decide +kernel
theorem dX11_isUsed_5 : decode cX11_isUsed 5 = .ok (.baload, 1) := by decide +kernel
theorem dX11_isUsed_6 : decode cX11_isUsed 6 = .ok (.ifCond .ne 32, 3) := by decide +kernel
theorem dX11_isUsed_9 : decode cX11_isUsed 9 = .ok (.aload_n 0, 1) := by decide +kernel
theorem dX11_isUsed_10 : decode cX11_isUsed 10 = .ok (.getfield 126, 3) := by decide +kernel
theorem dX11_isUsed_13 : decode cX11_isUsed 13 = .ok (.iconst (-1), 1) := by decide +kernel
theorem dX11_isUsed_14 : decode cX11_isUsed 14 = .ok (.if_icmp .eq 20, 3) := by decide +kernel
theorem dX11_isUsed_17 : decode cX11_isUsed 17 = .ok (.aload_n 0, 1) := by decide +kernel
theorem dX11_isUsed_18 : decode cX11_isUsed 18 = .ok (.getfield 19, 3) := by decide +kernel
theorem dX11_isUsed_21 : decode cX11_isUsed 21 = .ok (.iload_n 1, 1) := by decide +kernel
theorem dX11_isUsed_22 : decode cX11_isUsed 22 = .ok (.iaload, 1) := by decide +kernel
theorem dX11_isUsed_23 : decode cX11_isUsed 23 = .ok (.aload_n 0, 1) := by decide +kernel
theorem dX11_isUsed_24 : decode cX11_isUsed 24 = .ok (.getfield 126, 3) := by decide +kernel
theorem dX11_isUsed_27 : decode cX11_isUsed 27 = .ok (.ishr, 1) := by decide +kernel
theorem dX11_isUsed_28 : decode cX11_isUsed 28 = .ok (.iconst 1, 1) := by decide +kernel
theorem dX11_isUsed_29 : decode cX11_isUsed 29 = .ok (.iand, 1) := by decide +kernel
theorem dX11_isUsed_30 : decode cX11_isUsed 30 = .ok (.iconst 1, 1) := by decide +kernel
theorem dX11_isUsed_31 : decode cX11_isUsed 31 = .ok (.if_icmp .ne 7, 3) := by decide +kernel
theorem dX11_isUsed_34 : decode cX11_isUsed 34 = .ok (.iconst 1, 1) := by decide +kernel
theorem dX11_isUsed_35 : decode cX11_isUsed 35 = .ok (.goto 4, 3) := by decide +kernel
theorem dX11_isUsed_38 : decode cX11_isUsed 38 = .ok (.iconst 0, 1) := by decide +kernel
theorem dX11_isUsed_39 : decode cX11_isUsed 39 = .ok (.ireturn, 1) := by decide +kernel
theorem dX11_isWithout_0 : decode cX11_isWithout 0 = .ok (.iconst 0, 1) := by decide +kernel
theorem dX11_isWithout_1 : decode cX11_isWithout 1 = .ok (.istore 4, 2) := by decide +kernel
theorem dX11_isWithout_3 : decode cX11_isWithout 3 = .ok (.iload 4, 2) := by decide +kernel
theorem dX11_isWithout_5 : decode cX11_isWithout 5 = .ok (.aload_n 0, 1) := by decide +kernel
theorem dX11_isWithout_6 : decode cX11_isWithout 6 = .ok (.getfield 7, 3) := by decide +kernel
theorem dX11_isWithout_9 : decode cX11_isWithout 9 = .ok (.iload_n 3, 1) := by decide +kernel
theorem dX11_isWithout_10 : decode cX11_isWithout 10 = .ok (.iaload, 1) := by decide +kernel
theorem dX11_isWithout_11 : decode cX11_isWithout 11 = .ok (.if_icmp .ge 41, 3) := by decide +kernel
theorem dX11_isWithout_14 : decode cX11_isWithout 14 = .ok (.aload_n 0, 1) := by decide +kernel
theorem dX11_isWithout_15 : decode cX11_isWithout 15 = .ok (.iload_n 3, 1) := by decide +kernel
theorem dX11_isWithout_16 : decode cX11_isWithout 16 = .ok (.iload 4, 2) := by decide +kernel
theorem dX11_isWithout_18 : decode cX11_isWithout 18 = .ok (.invokevirtual 262, 3) := by decide +kernel
theorem dX11_isWithout_21 : decode cX11_isWithout 21 = .ok (.aload_n 0, 1) := by decide +kernel
theorem dX11_isWithout_22 : decode cX11_isWithout 22 = .ok (.iload_n 1, 1) := by decide +kernel
theorem dX11_isWithout_23 : decode cX11_isWithout 23 = .ok (.iload 4, 2) := by decide +kernel
theorem dX11_isWithout_25 : decode cX11_isWithout 25 = .ok (.iload_n 2, 1) := by decide +kernel
theorem dX11_isWithout_26 : decode cX11_isWithout 26 = .ok (.if_icmp .ge 8, 3) := by decide +kernel
theorem dX11_isWithout_29 : decode cX11_isWithout 29 = .ok (.iload 4, 2) := by decide +kernel
theorem dX11_isWithout_31 : decode cX11_isWithout 31 = .ok (.goto 7, 3) := by decide +kernel
theorem dX11_isWithout_34 : decode cX11_isWithout 34 = .ok (.iload 4, 2) := by decide +kernel
theorem dX11_isWithout_36 : decode cX11_isWithout 36 = .ok (.iconst 1, 1) := by decide +kernel
theorem dX11_isWithout_37 : decode cX11_isWithout 37 = .ok (.iadd, 1) := by decide +kernel
theorem dX11_isWithout_38 : decode cX11_isWithout 38 = .ok (.invokevirtual 262, 3) := by decide +kernel
theorem dX11_isWithout_41 : decode cX11_isWithout 41 = .ok (.if_icmp .eq 5, 3) := by decide +kernel
theorem dX11_isWithout_44 : decode cX11_isWithout 44 = .ok (.iconst 0, 1) := by decide +kernel
theorem dX11_isWithout_45 : decode cX11_isWithout 45 = .ok (.ireturn, 1) := by decide +kernel
theorem dX11_isWithout_46 : decode cX11_isWithout 46 = .ok (.iinc 4 1, 3) := by decide +kernel
theorem dX11_isWithout_49 : decode cX11_isWithout 49 = .ok (.goto (-46), 3) := by decide +kernel
theorem dX11_isWithout_52 : decode cX11_isWithout 52 = .ok (.iconst 1, 1) := by decide +kernel
theorem dX11_isWithout_53 : decode cX11_isWithout 53 = .ok (.ireturn, 1) := by decide +kernel
theorem dX11_isWord_0 : decode cX11_isWord 0 = .ok (.iload_n 1, 1) := by decide +kernel
theorem dX11_isWord_1 : decode cX11_isWord 1 = .ok (.ifCond .lt 15, 3) := by decide +kernel
theorem dX11_isWord_4 : decode cX11_isWord 4 = .ok (.iload_n 1, 1) := by decide +kernel
theorem dX11_isWord_5 : decode cX11_isWord 5 = .ok (.aload_n 0, 1) := by decide +kernel
theorem dX11_isWord_6 : decode cX11_isWord 6 = .ok (.getfield 130, 3) := by decide +kernel
theorem dX11_isWord_9 : decode cX11_isWord 9 = .ok (.if_icmp .ge 7, 3) := by decide +kernel
theorem dX11_isWord_12 : decode cX11_isWord 12 = .ok (.iconst 1, 1) := by decide +kernel
theorem dX11_isWord_13 : decode cX11_isWord 13 = .ok (.goto 4, 3) := by decide +kernel
theorem dX11_isWord_16 : decode cX11_isWord 16 = .ok (.iconst 0, 1) := by decide +kernel
theorem dX11_isWord_17 : decode cX11_isWord 17 = .ok (.ireturn, 1) := by decide +kernel
theorem dX11_jumps_0 : decode cX11_jumps 0 = .ok (.aload_n 0, 1) := by decide +kernel
theorem dX11_jumps_1 : decode cX11_jumps 1 = .ok (.getfield 36, 3) := by decide +kernel
theorem dX11_jumps_4 : decode cX11_jumps 4 = .ok (.aload_n 0, 1) := by decide +kernel
theorem dX11_jumps_5 : decode cX11_jumps 5 = .ok (.getfield 191, 3) := by decide +kernel
theorem dX11_jumps_8 : decode cX11_jumps 8 = .ok (.ldc 187, 2) := by decide +kernel
theorem dX11_jumps_10 : decode cX11_jumps 10 = .ok (.iload_n 1, 1) := by decide +kernel
theorem dX11_jumps_11 : decode cX11_jumps 11 = .ok (.imul, 1) := by decide +kernel
theorem dX11_jumps_12 : decode cX11_jumps 12 = .ok (.aload_n 0, 1) := by decide +kernel
theorem dX11_jumps_13 : decode cX11_jumps 13 = .ok (.getfield 184, 3) := by decide +kernel
theorem dX11_jumps_16 : decode cX11_jumps 16 = .ok (.iadd, 1) := by decide +kernel
theorem dX11_jumps_17 : decode cX11_jumps 17 = .ok (.iastore, 1) := by decide +kernel
theorem dX11_jumps_18 : decode cX11_jumps 18 = .ok (.aload_n 0, 1) := by decide +kernel
theorem dX11_jumps_19 : decode cX11_jumps 19 = .ok (.aload_n 0, 1) := by decide +kernel
theorem dX11_jumps_20 : decode cX11_jumps 20 = .ok (.getfield 191, 3) := by decide +kernel
theorem dX11_jumps_23 : decode cX11_jumps 23 = .ok (.iconst 1, 1) := by decide +kernel
theorem dX11_jumps_24 : decode cX11_jumps 24 = .ok (.iadd, 1) := by decide +kernel
theorem dX11_jumps_25 : decode cX11_jumps 25 = .ok (.putfield 191, 3) := by decide +kernel
theorem dX11_jumps_28 : decode cX11_jumps 28 = .ok (.aload_n 0, 1) := by decide +kernel
theorem dX11_jumps_29 : decode cX11_jumps 29 = .ok (.iload_n 1, 1) := by decide +kernel
theorem dX11_jumps_30 : decode cX11_jumps 30 = .ok (.iconst 0, 1) := by decide +kernel
theorem dX11_jumps_31 : decode cX11_jumps 31 = .ok (.invokevirtual 197, 3) := by decide +kernel
theorem dX11_jumps_34 : decode cX11_jumps 34 = .ok (.aload_n 0, 1) := by decide +kernel
theorem dX11_jumps_35 : decode cX11_jumps 35 = .ok (.aload_n 0, 1) := by decide +kernel
theorem dX11_jumps_36 : decode cX11_jumps 36 = .ok (.getfield 161, 3) := by decide +kernel
theorem dX11_jumps_39 : decode cX11_jumps 39 = .ok (.iconst 1, 1) := by decide +kernel
theorem dX11_jumps_40 : decode cX11_jumps 40 = .ok (.iadd, 1) := by decide +kernel
theorem dX11_jumps_41 : decode cX11_jumps 41 = .ok (.putfield 161, 3) := by decide +kernel
theorem dX11_jumps_44 : decode cX11_jumps 44 = .ok (.return_, 1) := by decide +kernel
theorem dX11_know_0 : decode cX11_know 0 = .ok (.aload_n 0, 1) := by decide +kernel
theorem dX11_know_1 : decode cX11_know 1 = .ok (.iload_n 1, 1) := by decide +kernel
theorem dX11_know_2 : decode cX11_know 2 = .ok (.invokevirtual 154, 3) := by decide +kernel
theorem dX11_know_5 : decode cX11_know 5 = .ok (.ifCond .eq 13, 3) := by decide +kernel
theorem dX11_know_8 : decode cX11_know 8 = .ok (.iload_n 2, 1) := by decide +kernel
theorem dX11_know_9 : decode cX11_know 9 = .ok (.iconst 0, 1) := by decide +kernel
theorem dX11_know_10 : decode cX11_know 10 = .ok (.bipush 99, 2) := by decide +kernel
theorem dX11_know_12 : decode cX11_know 12 = .ok (.invokestatic 139, 3) := by decide +kernel
theorem dX11_know_15 : decode cX11_know 15 = .ok (.ifCond .ne 5, 3) := by decide +kernel
theorem dX11_know_18 : decode cX11_know 18 = .ok (.iconst 0, 1) := by decide +kernel
theorem dX11_know_19 : decode cX11_know 19 = .ok (.ireturn, 1) := by decide +kernel
theorem dX11_know_20 : decode cX11_know 20 = .ok (.aload_n 0, 1) := by decide +kernel
theorem dX11_know_21 : decode cX11_know 21 = .ok (.getfield 16, 3) := by decide +kernel
theorem dX11_know_24 : decode cX11_know 24 = .ok (.iload_n 1, 1) := by decide +kernel
theorem dX11_know_25 : decode cX11_know 25 = .ok (.iload_n 2, 1) := by decide +kernel
theorem dX11_know_26 : decode cX11_know 26 = .ok (.iastore, 1) := by decide +kernel
theorem dX11_know_27 : decode cX11_know 27 = .ok (.iconst 1, 1) := by decide +kernel
theorem dX11_know_28 : decode cX11_know 28 = .ok (.ireturn, 1) := by decide +kernel
theorem dX11_lands_0 : decode cX11_lands 0 = .ok (.aload_n 0, 1) := by decide +kernel
theorem dX11_lands_1 : decode cX11_lands 1 = .ok (.invokevirtual 194, 3) := by decide +kernel
theorem dX11_lands_4 : decode cX11_lands 4 = .ok (.bipush 11, 2) := by decide +kernel
theorem dX11_lands_6 : decode cX11_lands 6 = .ok (.if_icmp .eq 16, 3) := by decide +kernel
theorem dX11_lands_9 : decode cX11_lands 9 = .ok (.iload_n 1, 1) := by decide +kernel
theorem dX11_lands_10 : decode cX11_lands 10 = .ok (.ifCond .eq 63, 3) := by decide +kernel
theorem dX11_lands_13 : decode cX11_lands 13 = .ok (.aload_n 0, 1) := by decide +kernel
theorem dX11_lands_14 : decode cX11_lands 14 = .ok (.invokevirtual 194, 3) := by decide +kernel
theorem dX11_lands_17 : decode cX11_lands 17 = .ok (.bipush 12, 2) := by decide +kernel
theorem dX11_lands_19 : decode cX11_lands 19 = .ok (.if_icmp .ne 54, 3) := by decide +kernel
theorem dX11_lands_22 : decode cX11_lands 22 = .ok (.aload_n 0, 1) := by decide +kernel
theorem dX11_lands_23 : decode cX11_lands 23 = .ok (.getfield 36, 3) := by decide +kernel
theorem dX11_lands_26 : decode cX11_lands 26 = .ok (.aload_n 0, 1) := by decide +kernel
theorem dX11_lands_27 : decode cX11_lands 27 = .ok (.getfield 191, 3) := by decide +kernel
theorem dX11_lands_30 : decode cX11_lands 30 = .ok (.iconst 1, 1) := by decide +kernel
theorem dX11_lands_31 : decode cX11_lands 31 = .ok (.isub, 1) := by decide +kernel
theorem dX11_lands_32 : decode cX11_lands 32 = .ok (.iaload, 1) := by decide +kernel
theorem dX11_lands_33 : decode cX11_lands 33 = .ok (.ldc 187, 2) := by decide +kernel
theorem dX11_lands_35 : decode cX11_lands 35 = .ok (.irem, 1) := by decide +kernel
theorem dX11_lands_36 : decode cX11_lands 36 = .ok (.istore_n 2, 1) := by decide +kernel
theorem dX11_lands_37 : decode cX11_lands 37 = .ok (.aload_n 0, 1) := by decide +kernel
theorem dX11_lands_38 : decode cX11_lands 38 = .ok (.getfield 33, 3) := by decide +kernel
theorem dX11_lands_41 : decode cX11_lands 41 = .ok (.iload_n 2, 1) := by decide +kernel
theorem dX11_lands_42 : decode cX11_lands 42 = .ok (.ldc 187, 2) := by decide +kernel
theorem dX11_lands_44 : decode cX11_lands 44 = .ok (.aload_n 0, 1) := by decide +kernel
theorem dX11_lands_45 : decode cX11_lands 45 = .ok (.getfield 33, 3) := by decide +kernel
theorem dX11_lands_48 : decode cX11_lands 48 = .ok (.iload_n 2, 1) := by decide +kernel
theorem dX11_lands_49 : decode cX11_lands 49 = .ok (.iaload, 1) := by decide +kernel
theorem dX11_lands_50 : decode cX11_lands 50 = .ok (.ldc 187, 2) := by decide +kernel
theorem dX11_lands_52 : decode cX11_lands 52 = .ok (.idiv, 1) := by decide +kernel
theorem dX11_lands_53 : decode cX11_lands 53 = .ok (.imul, 1) := by decide +kernel
theorem dX11_lands_54 : decode cX11_lands 54 = .ok (.aload_n 0, 1) := by decide +kernel
theorem dX11_lands_55 : decode cX11_lands 55 = .ok (.getfield 184, 3) := by decide +kernel
theorem dX11_lands_58 : decode cX11_lands 58 = .ok (.iadd, 1) := by decide +kernel
theorem dX11_lands_59 : decode cX11_lands 59 = .ok (.iastore, 1) := by decide +kernel
theorem dX11_lands_60 : decode cX11_lands 60 = .ok (.aload_n 0, 1) := by decide +kernel
theorem dX11_lands_61 : decode cX11_lands 61 = .ok (.aload_n 0, 1) := by decide +kernel
theorem dX11_lands_62 : decode cX11_lands 62 = .ok (.getfield 191, 3) := by decide +kernel
theorem dX11_lands_65 : decode cX11_lands 65 = .ok (.iconst 1, 1) := by decide +kernel
theorem dX11_lands_66 : decode cX11_lands 66 = .ok (.isub, 1) := by decide +kernel
theorem dX11_lands_67 : decode cX11_lands 67 = .ok (.putfield 191, 3) := by decide +kernel
theorem dX11_lands_70 : decode cX11_lands 70 = .ok (.goto (-70), 3) := by decide +kernel
theorem dX11_lands_73 : decode cX11_lands 73 = .ok (.return_, 1) := by decide +kernel
theorem dX11_law_0 : decode cX11_law 0 = .ok (.iload_n 1, 1) := by decide +kernel
theorem dX11_law_1 : decode cX11_law 1 = .ok (.iconst 1, 1) := by decide +kernel
theorem dX11_law_2 : decode cX11_law 2 = .ok (.sipush 160, 3) := by decide +kernel
theorem dX11_law_5 : decode cX11_law 5 = .ok (.invokestatic 139, 3) := by decide +kernel
theorem dX11_law_8 : decode cX11_law 8 = .ok (.ifCond .eq 11, 3) := by decide +kernel
theorem dX11_law_11 : decode cX11_law 11 = .ok (.iload_n 1, 1) := by decide +kernel
theorem dX11_law_12 : decode cX11_law 12 = .ok (.aload_n 0, 1) := by decide +kernel
theorem dX11_law_13 : decode cX11_law 13 = .ok (.getfield 133, 3) := by decide +kernel
theorem dX11_law_16 : decode cX11_law 16 = .ok (.if_icmp .le 5, 3) := by decide +kernel
theorem dX11_law_19 : decode cX11_law 19 = .ok (.iconst (-1), 1) := by decide +kernel
theorem dX11_law_20 : decode cX11_law 20 = .ok (.ireturn, 1) := by decide +kernel
theorem dX11_law_21 : decode cX11_law 21 = .ok (.aload_n 0, 1) := by decide +kernel
theorem dX11_law_22 : decode cX11_law 22 = .ok (.iconst 0, 1) := by decide +kernel
theorem dX11_law_23 : decode cX11_law 23 = .ok (.putfield 161, 3) := by decide +kernel
theorem dX11_law_26 : decode cX11_law 26 = .ok (.aload_n 0, 1) := by decide +kernel
theorem dX11_law_27 : decode cX11_law 27 = .ok (.iload_n 1, 1) := by decide +kernel
theorem dX11_law_28 : decode cX11_law 28 = .ok (.putfield 164, 3) := by decide +kernel
theorem dX11_law_31 : decode cX11_law 31 = .ok (.aload_n 0, 1) := by decide +kernel
theorem dX11_law_32 : decode cX11_law 32 = .ok (.iconst 0, 1) := by decide +kernel
theorem dX11_law_33 : decode cX11_law 33 = .ok (.putfield 184, 3) := by decide +kernel
theorem dX11_law_36 : decode cX11_law 36 = .ok (.aload_n 0, 1) := by decide +kernel
theorem dX11_law_37 : decode cX11_law 37 = .ok (.iconst 0, 1) := by decide +kernel
theorem dX11_law_38 : decode cX11_law 38 = .ok (.putfield 239, 3) := by decide +kernel
theorem dX11_law_41 : decode cX11_law 41 = .ok (.aload_n 0, 1) := by decide +kernel
theorem dX11_law_42 : decode cX11_law 42 = .ok (.invokevirtual 245, 3) := by decide +kernel
theorem dX11_law_45 : decode cX11_law 45 = .ok (.istore_n 2, 1) := by decide +kernel
theorem dX11_law_46 : decode cX11_law 46 = .ok (.iload_n 2, 1) := by decide +kernel
theorem dX11_law_47 : decode cX11_law 47 = .ok (.ifCond .eq 39, 3) := by decide +kernel
theorem dX11_law_50 : decode cX11_law 50 = .ok (.aload_n 0, 1) := by decide +kernel
theorem dX11_law_51 : decode cX11_law 51 = .ok (.getfield 161, 3) := by decide +kernel
theorem dX11_law_54 : decode cX11_law 54 = .ok (.aload_n 0, 1) := by decide +kernel
theorem dX11_law_55 : decode cX11_law 55 = .ok (.getfield 164, 3) := by decide +kernel
theorem dX11_law_58 : decode cX11_law 58 = .ok (.if_icmp .ge 28, 3) := by decide +kernel
theorem dX11_law_61 : decode cX11_law 61 = .ok (.aload_n 0, 1) := by decide +kernel
theorem dX11_law_62 : decode cX11_law 62 = .ok (.bipush 59, 2) := by decide +kernel
theorem dX11_law_64 : decode cX11_law 64 = .ok (.invokevirtual 248, 3) := by decide +kernel
theorem dX11_law_67 : decode cX11_law 67 = .ok (.ifCond .eq 14, 3) := by decide +kernel
theorem dX11_law_70 : decode cX11_law 70 = .ok (.aload_n 0, 1) := by decide +kernel
theorem dX11_law_71 : decode cX11_law 71 = .ok (.invokevirtual 245, 3) := by decide +kernel
theorem dX11_law_74 : decode cX11_law 74 = .ok (.ifCond .eq 7, 3) := by decide +kernel
theorem dX11_law_77 : decode cX11_law 77 = .ok (.iconst 1, 1) := by decide +kernel
theorem dX11_law_78 : decode cX11_law 78 = .ok (.goto 4, 3) := by decide +kernel
theorem dX11_law_81 : decode cX11_law 81 = .ok (.iconst 0, 1) := by decide +kernel
theorem dX11_law_82 : decode cX11_law 82 = .ok (.istore_n 2, 1) := by decide +kernel
theorem dX11_law_83 : decode cX11_law 83 = .ok (.goto (-37), 3) := by decide +kernel
theorem dX11_law_86 : decode cX11_law 86 = .ok (.aload_n 0, 1) := by decide +kernel
theorem dX11_law_87 : decode cX11_law 87 = .ok (.iconst 0, 1) := by decide +kernel
theorem dX11_law_88 : decode cX11_law 88 = .ok (.putfield 133, 3) := by decide +kernel
theorem dX11_law_91 : decode cX11_law 91 = .ok (.iload_n 2, 1) := by decide +kernel
theorem dX11_law_92 : decode cX11_law 92 = .ok (.ifCond .ne 8, 3) := by decide +kernel
theorem dX11_law_95 : decode cX11_law 95 = .ok (.aload_n 0, 1) := by decide +kernel
theorem dX11_law_96 : decode cX11_law 96 = .ok (.getfield 171, 3) := by decide +kernel
theorem dX11_law_99 : decode cX11_law 99 = .ok (.ireturn, 1) := by decide +kernel
theorem dX11_law_100 : decode cX11_law 100 = .ok (.aload_n 0, 1) := by decide +kernel
theorem dX11_law_101 : decode cX11_law 101 = .ok (.aload_n 0, 1) := by decide +kernel
theorem dX11_law_102 : decode cX11_law 102 = .ok (.getfield 239, 3) := by decide +kernel
theorem dX11_law_105 : decode cX11_law 105 = .ok (.putfield 251, 3) := by decide +kernel
theorem dX11_law_108 : decode cX11_law 108 = .ok (.iconst 0, 1) := by decide +kernel
theorem dX11_law_109 : decode cX11_law 109 = .ok (.istore_n 3, 1) := by decide +kernel
theorem dX11_law_110 : decode cX11_law 110 = .ok (.iload_n 3, 1) := by decide +kernel
theorem dX11_law_111 : decode cX11_law 111 = .ok (.aload_n 0, 1) := by decide +kernel
theorem dX11_law_112 : decode cX11_law 112 = .ok (.getfield 184, 3) := by decide +kernel
theorem dX11_law_115 : decode cX11_law 115 = .ok (.if_icmp .ge 21, 3) := by decide +kernel
theorem dX11_law_118 : decode cX11_law 118 = .ok (.aload_n 0, 1) := by decide +kernel
theorem dX11_law_119 : decode cX11_law 119 = .ok (.getfield 51, 3) := by decide +kernel
theorem dX11_law_122 : decode cX11_law 122 = .ok (.iload_n 3, 1) := by decide +kernel
theorem dX11_law_123 : decode cX11_law 123 = .ok (.aload_n 0, 1) := by decide +kernel
theorem dX11_law_124 : decode cX11_law 124 = .ok (.getfield 33, 3) := by decide +kernel
theorem dX11_law_127 : decode cX11_law 127 = .ok (.iload_n 3, 1) := by decide +kernel
theorem dX11_law_128 : decode cX11_law 128 = .ok (.iaload, 1) := by decide +kernel
theorem dX11_law_129 : decode cX11_law 129 = .ok (.iastore, 1) := by decide +kernel
theorem dX11_law_130 : decode cX11_law 130 = .ok (.iinc 3 1, 3) := by decide +kernel
theorem dX11_law_133 : decode cX11_law 133 = .ok (.goto (-23), 3) := by decide +kernel
theorem dX11_law_136 : decode cX11_law 136 = .ok (.iconst 0, 1) := by decide +kernel
theorem dX11_law_137 : decode cX11_law 137 = .ok (.istore_n 3, 1) := by decide +kernel
theorem dX11_law_138 : decode cX11_law 138 = .ok (.iload_n 3, 1) := by decide +kernel
theorem dX11_law_139 : decode cX11_law 139 = .ok (.aload_n 0, 1) := by decide +kernel
theorem dX11_law_140 : decode cX11_law 140 = .ok (.getfield 239, 3) := by decide +kernel
theorem dX11_law_143 : decode cX11_law 143 = .ok (.if_icmp .ge 57, 3) := by decide +kernel
theorem dX11_law_146 : decode cX11_law 146 = .ok (.aload_n 0, 1) := by decide +kernel
theorem dX11_law_147 : decode cX11_law 147 = .ok (.getfield 54, 3) := by decide +kernel
theorem dX11_law_150 : decode cX11_law 150 = .ok (.iload_n 3, 1) := by decide +kernel
theorem dX11_law_151 : decode cX11_law 151 = .ok (.aload_n 0, 1) := by decide +kernel
theorem dX11_law_152 : decode cX11_law 152 = .ok (.getfield 39, 3) := by decide +kernel
theorem dX11_law_155 : decode cX11_law 155 = .ok (.iload_n 3, 1) := by decide +kernel
theorem dX11_law_156 : decode cX11_law 156 = .ok (.iaload, 1) := by decide +kernel
theorem dX11_law_157 : decode cX11_law 157 = .ok (.iastore, 1) := by decide +kernel
theorem dX11_law_158 : decode cX11_law 158 = .ok (.aload_n 0, 1) := by decide +kernel
theorem dX11_law_159 : decode cX11_law 159 = .ok (.getfield 57, 3) := by decide +kernel
theorem dX11_law_162 : decode cX11_law 162 = .ok (.iload_n 3, 1) := by decide +kernel
theorem dX11_law_163 : decode cX11_law 163 = .ok (.aload_n 0, 1) := by decide +kernel
theorem dX11_law_164 : decode cX11_law 164 = .ok (.getfield 42, 3) := by decide +kernel
theorem dX11_law_167 : decode cX11_law 167 = .ok (.iload_n 3, 1) := by decide +kernel
theorem dX11_law_168 : decode cX11_law 168 = .ok (.iaload, 1) := by decide +kernel
theorem dX11_law_169 : decode cX11_law 169 = .ok (.iastore, 1) := by decide +kernel
theorem dX11_law_170 : decode cX11_law 170 = .ok (.aload_n 0, 1) := by decide +kernel
theorem dX11_law_171 : decode cX11_law 171 = .ok (.getfield 60, 3) := by decide +kernel
theorem dX11_law_174 : decode cX11_law 174 = .ok (.iload_n 3, 1) := by decide +kernel
theorem dX11_law_175 : decode cX11_law 175 = .ok (.aload_n 0, 1) := by decide +kernel
theorem dX11_law_176 : decode cX11_law 176 = .ok (.getfield 45, 3) := by decide +kernel
theorem dX11_law_179 : decode cX11_law 179 = .ok (.iload_n 3, 1) := by decide +kernel
theorem dX11_law_180 : decode cX11_law 180 = .ok (.iaload, 1) := by decide +kernel
theorem dX11_law_181 : decode cX11_law 181 = .ok (.iastore, 1) := by decide +kernel
theorem dX11_law_182 : decode cX11_law 182 = .ok (.aload_n 0, 1) := by decide +kernel
theorem dX11_law_183 : decode cX11_law 183 = .ok (.getfield 63, 3) := by decide +kernel
theorem dX11_law_186 : decode cX11_law 186 = .ok (.iload_n 3, 1) := by decide +kernel
theorem dX11_law_187 : decode cX11_law 187 = .ok (.aload_n 0, 1) := by decide +kernel
theorem dX11_law_188 : decode cX11_law 188 = .ok (.getfield 48, 3) := by decide +kernel
theorem dX11_law_191 : decode cX11_law 191 = .ok (.iload_n 3, 1) := by decide +kernel
theorem dX11_law_192 : decode cX11_law 192 = .ok (.iaload, 1) := by decide +kernel
theorem dX11_law_193 : decode cX11_law 193 = .ok (.iastore, 1) := by decide +kernel
theorem dX11_law_194 : decode cX11_law 194 = .ok (.iinc 3 1, 3) := by decide +kernel
theorem dX11_law_197 : decode cX11_law 197 = .ok (.goto (-59), 3) := by decide +kernel
theorem dX11_law_200 : decode cX11_law 200 = .ok (.aload_n 0, 1) := by decide +kernel
theorem dX11_law_201 : decode cX11_law 201 = .ok (.getfield 239, 3) := by decide +kernel
theorem dX11_law_204 : decode cX11_law 204 = .ok (.ireturn, 1) := by decide +kernel
theorem dX11_laysRest_0 : decode cX11_laysRest 0 = .ok (.iconst 1, 1) := by decide +kernel
theorem dX11_laysRest_1 : decode cX11_laysRest 1 = .ok (.iload_n 1, 1) := by decide +kernel
theorem dX11_laysRest_2 : decode cX11_laysRest 2 = .ok (.ishl, 1) := by decide +kernel
theorem dX11_laysRest_3 : decode cX11_laysRest 3 = .ok (.iconst 1, 1) := by decide +kernel
theorem dX11_laysRest_4 : decode cX11_laysRest 4 = .ok (.isub, 1) := by decide +kernel
theorem dX11_laysRest_5 : decode cX11_laysRest 5 = .ok (.istore_n 2, 1) := by decide +kernel
theorem dX11_laysRest_6 : decode cX11_laysRest 6 = .ok (.iload_n 2, 1) := by decide +kernel
theorem dX11_laysRest_7 : decode cX11_laysRest 7 = .ok (.istore_n 3, 1) := by decide +kernel
theorem dX11_laysRest_8 : decode cX11_laysRest 8 = .ok (.iload_n 3, 1) := by decide +kernel
theorem dX11_laysRest_9 : decode cX11_laysRest 9 = .ok (.ifCond .lt 83, 3) := by decide +kernel
theorem dX11_laysRest_12 : decode cX11_laysRest 12 = .ok (.iconst 0, 1) := by decide +kernel
theorem dX11_laysRest_13 : decode cX11_laysRest 13 = .ok (.istore 4, 2) := by decide +kernel
theorem dX11_laysRest_15 : decode cX11_laysRest 15 = .ok (.iload 4, 2) := by decide +kernel
theorem dX11_laysRest_17 : decode cX11_laysRest 17 = .ok (.iload_n 1, 1) := by decide +kernel
theorem dX11_laysRest_18 : decode cX11_laysRest 18 = .ok (.if_icmp .gt 68, 3) := by decide +kernel
theorem dX11_laysRest_21 : decode cX11_laysRest 21 = .ok (.iload_n 3, 1) := by decide +kernel
theorem dX11_laysRest_22 : decode cX11_laysRest 22 = .ok (.iload_n 2, 1) := by decide +kernel
theorem dX11_laysRest_23 : decode cX11_laysRest 23 = .ok (.if_icmp .ne 7, 3) := by decide +kernel
theorem dX11_laysRest_26 : decode cX11_laysRest 26 = .ok (.iconst 0, 1) := by decide +kernel
theorem dX11_laysRest_27 : decode cX11_laysRest 27 = .ok (.goto 5, 3) := by decide +kernel
theorem dX11_laysRest_30 : decode cX11_laysRest 30 = .ok (.ldc 129, 2) := by decide +kernel
theorem dX11_laysRest_32 : decode cX11_laysRest 32 = .ok (.istore 5, 2) := by decide +kernel
theorem dX11_laysRest_34 : decode cX11_laysRest 34 = .ok (.iconst 0, 1) := by decide +kernel
theorem dX11_laysRest_35 : decode cX11_laysRest 35 = .ok (.istore 6, 2) := by decide +kernel
theorem dX11_laysRest_37 : decode cX11_laysRest 37 = .ok (.iload 6, 2) := by decide +kernel
theorem dX11_laysRest_39 : decode cX11_laysRest 39 = .ok (.iload_n 1, 1) := by decide +kernel
theorem dX11_laysRest_40 : decode cX11_laysRest 40 = .ok (.if_icmp .ge 26, 3) := by decide +kernel
theorem dX11_laysRest_43 : decode cX11_laysRest 43 = .ok (.iload 5, 2) := by decide +kernel
theorem dX11_laysRest_45 : decode cX11_laysRest 45 = .ok (.aload_n 0, 1) := by decide +kernel
theorem dX11_laysRest_46 : decode cX11_laysRest 46 = .ok (.iload_n 1, 1) := by decide +kernel
theorem dX11_laysRest_47 : decode cX11_laysRest 47 = .ok (.iload_n 3, 1) := by decide +kernel
theorem dX11_laysRest_48 : decode cX11_laysRest 48 = .ok (.iload 4, 2) := by decide +kernel
theorem dX11_laysRest_50 : decode cX11_laysRest 50 = .ok (.iload 6, 2) := by decide +kernel
theorem dX11_laysRest_52 : decode cX11_laysRest 52 = .ok (.invokevirtual 373, 3) := by decide +kernel
theorem dX11_laysRest_55 : decode cX11_laysRest 55 = .ok (.invokestatic 303, 3) := by decide +kernel
theorem dX11_laysRest_58 : decode cX11_laysRest 58 = .ok (.istore 5, 2) := by decide +kernel
theorem dX11_laysRest_60 : decode cX11_laysRest 60 = .ok (.iinc 6 1, 3) := by decide +kernel
theorem dX11_laysRest_63 : decode cX11_laysRest 63 = .ok (.goto (-26), 3) := by decide +kernel
theorem dX11_laysRest_66 : decode cX11_laysRest 66 = .ok (.aload_n 0, 1) := by decide +kernel
theorem dX11_laysRest_67 : decode cX11_laysRest 67 = .ok (.getfield 107, 3) := by decide +kernel
theorem dX11_laysRest_70 : decode cX11_laysRest 70 = .ok (.bipush 13, 2) := by decide +kernel
theorem dX11_laysRest_72 : decode cX11_laysRest 72 = .ok (.iload_n 3, 1) := by decide +kernel
theorem dX11_laysRest_73 : decode cX11_laysRest 73 = .ok (.imul, 1) := by decide +kernel
theorem dX11_laysRest_74 : decode cX11_laysRest 74 = .ok (.iload 4, 2) := by decide +kernel
theorem dX11_laysRest_76 : decode cX11_laysRest 76 = .ok (.iadd, 1) := by decide +kernel
theorem dX11_laysRest_77 : decode cX11_laysRest 77 = .ok (.iload 5, 2) := by decide +kernel
theorem dX11_laysRest_79 : decode cX11_laysRest 79 = .ok (.iastore, 1) := by decide +kernel
theorem dX11_laysRest_80 : decode cX11_laysRest 80 = .ok (.iinc 4 1, 3) := by decide +kernel
theorem dX11_laysRest_83 : decode cX11_laysRest 83 = .ok (.goto (-68), 3) := by decide +kernel
theorem dX11_laysRest_86 : decode cX11_laysRest 86 = .ok (.iinc 3 (-1), 3) := by decide +kernel
theorem dX11_laysRest_89 : decode cX11_laysRest 89 = .ok (.goto (-81), 3) := by decide +kernel
theorem dX11_laysRest_92 : decode cX11_laysRest 92 = .ok (.return_, 1) := by decide +kernel
theorem dX11_laysRow_0 : decode cX11_laysRow 0 = .ok (.aload_n 0, 1) := by decide +kernel
theorem dX11_laysRow_1 : decode cX11_laysRow 1 = .ok (.aload_n 0, 1) := by decide +kernel
theorem dX11_laysRow_2 : decode cX11_laysRow 2 = .ok (.getfield 7, 3) := by decide +kernel
theorem dX11_laysRow_5 : decode cX11_laysRow 5 = .ok (.iload_n 1, 1) := by decide +kernel
theorem dX11_laysRow_6 : decode cX11_laysRow 6 = .ok (.iaload, 1) := by decide +kernel
theorem dX11_laysRow_7 : decode cX11_laysRow 7 = .ok (.putfield 136, 3) := by decide +kernel
theorem dX11_laysRow_10 : decode cX11_laysRow 10 = .ok (.iconst 0, 1) := by decide +kernel
theorem dX11_laysRow_11 : decode cX11_laysRow 11 = .ok (.istore_n 2, 1) := by decide +kernel
theorem dX11_laysRow_12 : decode cX11_laysRow 12 = .ok (.iload_n 2, 1) := by decide +kernel
theorem dX11_laysRow_13 : decode cX11_laysRow 13 = .ok (.aload_n 0, 1) := by decide +kernel
theorem dX11_laysRow_14 : decode cX11_laysRow 14 = .ok (.getfield 136, 3) := by decide +kernel
theorem dX11_laysRow_17 : decode cX11_laysRow 17 = .ok (.if_icmp .ge 21, 3) := by decide +kernel
theorem dX11_laysRow_20 : decode cX11_laysRow 20 = .ok (.aload_n 0, 1) := by decide +kernel
theorem dX11_laysRow_21 : decode cX11_laysRow 21 = .ok (.getfield 26, 3) := by decide +kernel
theorem dX11_laysRow_24 : decode cX11_laysRow 24 = .ok (.iload_n 2, 1) := by decide +kernel
theorem dX11_laysRow_25 : decode cX11_laysRow 25 = .ok (.aload_n 0, 1) := by decide +kernel
theorem dX11_laysRow_26 : decode cX11_laysRow 26 = .ok (.iload_n 1, 1) := by decide +kernel
theorem dX11_laysRow_27 : decode cX11_laysRow 27 = .ok (.iload_n 2, 1) := by decide +kernel
theorem dX11_laysRow_28 : decode cX11_laysRow 28 = .ok (.invokevirtual 262, 3) := by decide +kernel
theorem dX11_laysRow_31 : decode cX11_laysRow 31 = .ok (.iastore, 1) := by decide +kernel
theorem dX11_laysRow_32 : decode cX11_laysRow 32 = .ok (.iinc 2 1, 3) := by decide +kernel
theorem dX11_laysRow_35 : decode cX11_laysRow 35 = .ok (.goto (-23), 3) := by decide +kernel
theorem dX11_laysRow_38 : decode cX11_laysRow 38 = .ok (.return_, 1) := by decide +kernel
theorem dX11_laysSquares_0 : decode cX11_laysSquares 0 = .ok (.aload_n 0, 1) := by decide +kernel
theorem dX11_laysSquares_1 : decode cX11_laysSquares 1 = .ok (.iconst 0, 1) := by decide +kernel
theorem dX11_laysSquares_2 : decode cX11_laysSquares 2 = .ok (.putfield 410, 3) := by decide +kernel
theorem dX11_laysSquares_5 : decode cX11_laysSquares 5 = .ok (.iconst 0, 1) := by decide +kernel
theorem dX11_laysSquares_6 : decode cX11_laysSquares 6 = .ok (.istore_n 2, 1) := by decide +kernel
theorem dX11_laysSquares_7 : decode cX11_laysSquares 7 = .ok (.aload_n 0, 1) := by decide +kernel
theorem dX11_laysSquares_8 : decode cX11_laysSquares 8 = .ok (.getfield 116, 3) := by decide +kernel
theorem dX11_laysSquares_11 : decode cX11_laysSquares 11 = .ok (.iconst 0, 1) := by decide +kernel
theorem dX11_laysSquares_12 : decode cX11_laysSquares 12 = .ok (.iconst (-1), 1) := by decide +kernel
theorem dX11_laysSquares_13 : decode cX11_laysSquares 13 = .ok (.iastore, 1) := by decide +kernel
theorem dX11_laysSquares_14 : decode cX11_laysSquares 14 = .ok (.iload_n 2, 1) := by decide +kernel
theorem dX11_laysSquares_15 : decode cX11_laysSquares 15 = .ok (.ifCond .lt 131, 3) := by decide +kernel
theorem dX11_laysSquares_18 : decode cX11_laysSquares 18 = .ok (.aload_n 0, 1) := by decide +kernel
theorem dX11_laysSquares_19 : decode cX11_laysSquares 19 = .ok (.getfield 116, 3) := by decide +kernel
theorem dX11_laysSquares_22 : decode cX11_laysSquares 22 = .ok (.iload_n 2, 1) := by decide +kernel
theorem dX11_laysSquares_23 : decode cX11_laysSquares 23 = .ok (.aload_n 0, 1) := by decide +kernel
theorem dX11_laysSquares_24 : decode cX11_laysSquares 24 = .ok (.getfield 116, 3) := by decide +kernel
theorem dX11_laysSquares_27 : decode cX11_laysSquares 27 = .ok (.iload_n 2, 1) := by decide +kernel
theorem dX11_laysSquares_28 : decode cX11_laysSquares 28 = .ok (.iaload, 1) := by decide +kernel
theorem dX11_laysSquares_29 : decode cX11_laysSquares 29 = .ok (.iconst 1, 1) := by decide +kernel
theorem dX11_laysSquares_30 : decode cX11_laysSquares 30 = .ok (.iadd, 1) := by decide +kernel
theorem dX11_laysSquares_31 : decode cX11_laysSquares 31 = .ok (.iastore, 1) := by decide +kernel
theorem dX11_laysSquares_32 : decode cX11_laysSquares 32 = .ok (.aload_n 0, 1) := by decide +kernel
theorem dX11_laysSquares_33 : decode cX11_laysSquares 33 = .ok (.getfield 116, 3) := by decide +kernel
theorem dX11_laysSquares_36 : decode cX11_laysSquares 36 = .ok (.iload_n 2, 1) := by decide +kernel
theorem dX11_laysSquares_37 : decode cX11_laysSquares 37 = .ok (.iaload, 1) := by decide +kernel
theorem dX11_laysSquares_38 : decode cX11_laysSquares 38 = .ok (.aload_n 0, 1) := by decide +kernel
theorem dX11_laysSquares_39 : decode cX11_laysSquares 39 = .ok (.getfield 130, 3) := by decide +kernel
theorem dX11_laysSquares_42 : decode cX11_laysSquares 42 = .ok (.if_icmp .lt 10, 3) := by decide +kernel
theorem dX11_laysSquares_45 : decode cX11_laysSquares 45 = .ok (.iload_n 2, 1) := by decide +kernel
theorem dX11_laysSquares_46 : decode cX11_laysSquares 46 = .ok (.iconst 1, 1) := by decide +kernel
theorem dX11_laysSquares_47 : decode cX11_laysSquares 47 = .ok (.isub, 1) := by decide +kernel
theorem dX11_laysSquares_48 : decode cX11_laysSquares 48 = .ok (.istore_n 2, 1) := by decide +kernel
theorem dX11_laysSquares_49 : decode cX11_laysSquares 49 = .ok (.goto (-35), 3) := by decide +kernel
theorem dX11_laysSquares_52 : decode cX11_laysSquares 52 = .ok (.aload_n 0, 1) := by decide +kernel
theorem dX11_laysSquares_53 : decode cX11_laysSquares 53 = .ok (.aload_n 0, 1) := by decide +kernel
theorem dX11_laysSquares_54 : decode cX11_laysSquares 54 = .ok (.getfield 116, 3) := by decide +kernel
theorem dX11_laysSquares_57 : decode cX11_laysSquares 57 = .ok (.iload_n 2, 1) := by decide +kernel
theorem dX11_laysSquares_58 : decode cX11_laysSquares 58 = .ok (.iaload, 1) := by decide +kernel
theorem dX11_laysSquares_59 : decode cX11_laysSquares 59 = .ok (.iload_n 1, 1) := by decide +kernel
theorem dX11_laysSquares_60 : decode cX11_laysSquares 60 = .ok (.invokevirtual 404, 3) := by decide +kernel
theorem dX11_laysSquares_63 : decode cX11_laysSquares 63 = .ok (.ifCond .eq (-49), 3) := by decide +kernel
theorem dX11_laysSquares_66 : decode cX11_laysSquares 66 = .ok (.aload_n 0, 1) := by decide +kernel
theorem dX11_laysSquares_67 : decode cX11_laysSquares 67 = .ok (.iload_n 1, 1) := by decide +kernel
theorem dX11_laysSquares_68 : decode cX11_laysSquares 68 = .ok (.iload_n 2, 1) := by decide +kernel
theorem dX11_laysSquares_69 : decode cX11_laysSquares 69 = .ok (.iconst 1, 1) := by decide +kernel
theorem dX11_laysSquares_70 : decode cX11_laysSquares 70 = .ok (.iadd, 1) := by decide +kernel
theorem dX11_laysSquares_71 : decode cX11_laysSquares 71 = .ok (.invokevirtual 413, 3) := by decide +kernel
theorem dX11_laysSquares_74 : decode cX11_laysSquares 74 = .ok (.ifCond .ne 6, 3) := by decide +kernel
theorem dX11_laysSquares_77 : decode cX11_laysSquares 77 = .ok (.goto (-63), 3) := by decide +kernel
theorem dX11_laysSquares_80 : decode cX11_laysSquares 80 = .ok (.iload_n 2, 1) := by decide +kernel
theorem dX11_laysSquares_81 : decode cX11_laysSquares 81 = .ok (.iconst 1, 1) := by decide +kernel
theorem dX11_laysSquares_82 : decode cX11_laysSquares 82 = .ok (.iadd, 1) := by decide +kernel
theorem dX11_laysSquares_83 : decode cX11_laysSquares 83 = .ok (.iload_n 1, 1) := by decide +kernel
theorem dX11_laysSquares_84 : decode cX11_laysSquares 84 = .ok (.if_icmp .ge 17, 3) := by decide +kernel
theorem dX11_laysSquares_87 : decode cX11_laysSquares 87 = .ok (.iload_n 2, 1) := by decide +kernel
theorem dX11_laysSquares_88 : decode cX11_laysSquares 88 = .ok (.iconst 1, 1) := by decide +kernel
theorem dX11_laysSquares_89 : decode cX11_laysSquares 89 = .ok (.iadd, 1) := by decide +kernel
theorem dX11_laysSquares_90 : decode cX11_laysSquares 90 = .ok (.istore_n 2, 1) := by decide +kernel
theorem dX11_laysSquares_91 : decode cX11_laysSquares 91 = .ok (.aload_n 0, 1) := by decide +kernel
theorem dX11_laysSquares_92 : decode cX11_laysSquares 92 = .ok (.getfield 116, 3) := by decide +kernel
theorem dX11_laysSquares_95 : decode cX11_laysSquares 95 = .ok (.iload_n 2, 1) := by decide +kernel
theorem dX11_laysSquares_96 : decode cX11_laysSquares 96 = .ok (.iconst (-1), 1) := by decide +kernel
theorem dX11_laysSquares_97 : decode cX11_laysSquares 97 = .ok (.iastore, 1) := by decide +kernel
theorem dX11_laysSquares_98 : decode cX11_laysSquares 98 = .ok (.goto (-84), 3) := by decide +kernel
theorem dX11_laysSquares_101 : decode cX11_laysSquares 101 = .ok (.iconst 0, 1) := by decide +kernel
theorem dX11_laysSquares_102 : decode cX11_laysSquares 102 = .ok (.istore_n 3, 1) := by decide +kernel
theorem dX11_laysSquares_103 : decode cX11_laysSquares 103 = .ok (.iload_n 3, 1) := by decide +kernel
theorem dX11_laysSquares_104 : decode cX11_laysSquares 104 = .ok (.iload_n 1, 1) := by decide +kernel
theorem dX11_laysSquares_105 : decode cX11_laysSquares 105 = .ok (.if_icmp .ge 28, 3) := by decide +kernel
theorem dX11_laysSquares_108 : decode cX11_laysSquares 108 = .ok (.aload_n 0, 1) := by decide +kernel
theorem dX11_laysSquares_109 : decode cX11_laysSquares 109 = .ok (.getfield 410, 3) := by decide +kernel
theorem dX11_laysSquares_112 : decode cX11_laysSquares 112 = .ok (.ifCond .ne 21, 3) := by decide +kernel
theorem dX11_laysSquares_115 : decode cX11_laysSquares 115 = .ok (.aload_n 0, 1) := by decide +kernel
theorem dX11_laysSquares_116 : decode cX11_laysSquares 116 = .ok (.getfield 119, 3) := by decide +kernel
theorem dX11_laysSquares_119 : decode cX11_laysSquares 119 = .ok (.iload_n 3, 1) := by decide +kernel
theorem dX11_laysSquares_120 : decode cX11_laysSquares 120 = .ok (.aload_n 0, 1) := by decide +kernel
theorem dX11_laysSquares_121 : decode cX11_laysSquares 121 = .ok (.getfield 116, 3) := by decide +kernel
theorem dX11_laysSquares_124 : decode cX11_laysSquares 124 = .ok (.iload_n 3, 1) := by decide +kernel
theorem dX11_laysSquares_125 : decode cX11_laysSquares 125 = .ok (.iaload, 1) := by decide +kernel
theorem dX11_laysSquares_126 : decode cX11_laysSquares 126 = .ok (.iastore, 1) := by decide +kernel
theorem dX11_laysSquares_127 : decode cX11_laysSquares 127 = .ok (.iinc 3 1, 3) := by decide +kernel
theorem dX11_laysSquares_130 : decode cX11_laysSquares 130 = .ok (.goto (-27), 3) := by decide +kernel
theorem dX11_laysSquares_133 : decode cX11_laysSquares 133 = .ok (.aload_n 0, 1) := by decide +kernel
theorem dX11_laysSquares_134 : decode cX11_laysSquares 134 = .ok (.aload_n 0, 1) := by decide +kernel
theorem dX11_laysSquares_135 : decode cX11_laysSquares 135 = .ok (.getfield 410, 3) := by decide +kernel
theorem dX11_laysSquares_138 : decode cX11_laysSquares 138 = .ok (.iconst 1, 1) := by decide +kernel
theorem dX11_laysSquares_139 : decode cX11_laysSquares 139 = .ok (.iadd, 1) := by decide +kernel
theorem dX11_laysSquares_140 : decode cX11_laysSquares 140 = .ok (.putfield 410, 3) := by decide +kernel
theorem dX11_laysSquares_143 : decode cX11_laysSquares 143 = .ok (.goto (-129), 3) := by decide +kernel
theorem dX11_laysSquares_146 : decode cX11_laysSquares 146 = .ok (.return_, 1) := by decide +kernel
theorem dX11_laysStep_0 : decode cX11_laysStep 0 = .ok (.bipush 40, 2) := by decide +kernel
theorem dX11_laysStep_2 : decode cX11_laysStep 2 = .ok (.iload_n 1, 1) := by decide +kernel
theorem dX11_laysStep_3 : decode cX11_laysStep 3 = .ok (.imul, 1) := by decide +kernel
theorem dX11_laysStep_4 : decode cX11_laysStep 4 = .ok (.iload_n 2, 1) := by decide +kernel
theorem dX11_laysStep_5 : decode cX11_laysStep 5 = .ok (.iadd, 1) := by decide +kernel
theorem dX11_laysStep_6 : decode cX11_laysStep 6 = .ok (.istore_n 3, 1) := by decide +kernel
theorem dX11_laysStep_7 : decode cX11_laysStep 7 = .ok (.aload_n 0, 1) := by decide +kernel
theorem dX11_laysStep_8 : decode cX11_laysStep 8 = .ok (.getfield 72, 3) := by decide +kernel
theorem dX11_laysStep_11 : decode cX11_laysStep 11 = .ok (.iload_n 3, 1) := by decide +kernel
theorem dX11_laysStep_12 : decode cX11_laysStep 12 = .ok (.ldc 129, 2) := by decide +kernel
theorem dX11_laysStep_14 : decode cX11_laysStep 14 = .ok (.iastore, 1) := by decide +kernel
theorem dX11_laysStep_15 : decode cX11_laysStep 15 = .ok (.iconst 0, 1) := by decide +kernel
theorem dX11_laysStep_16 : decode cX11_laysStep 16 = .ok (.istore 4, 2) := by decide +kernel
theorem dX11_laysStep_18 : decode cX11_laysStep 18 = .ok (.iload 4, 2) := by decide +kernel
theorem dX11_laysStep_20 : decode cX11_laysStep 20 = .ok (.iconst 4, 1) := by decide +kernel
theorem dX11_laysStep_21 : decode cX11_laysStep 21 = .ok (.if_icmp .ge 95, 3) := by decide +kernel
theorem dX11_laysStep_24 : decode cX11_laysStep 24 = .ok (.iconst 0, 1) := by decide +kernel
theorem dX11_laysStep_25 : decode cX11_laysStep 25 = .ok (.istore 5, 2) := by decide +kernel
theorem dX11_laysStep_27 : decode cX11_laysStep 27 = .ok (.iload 5, 2) := by decide +kernel
theorem dX11_laysStep_29 : decode cX11_laysStep 29 = .ok (.bipush 9, 2) := by decide +kernel
theorem dX11_laysStep_31 : decode cX11_laysStep 31 = .ok (.if_icmp .ge 79, 3) := by decide +kernel
theorem dX11_laysStep_34 : decode cX11_laysStep 34 = .ok (.aload_n 0, 1) := by decide +kernel
theorem dX11_laysStep_35 : decode cX11_laysStep 35 = .ok (.iload_n 1, 1) := by decide +kernel
theorem dX11_laysStep_36 : decode cX11_laysStep 36 = .ok (.iload_n 2, 1) := by decide +kernel
theorem dX11_laysStep_37 : decode cX11_laysStep 37 = .ok (.iload 4, 2) := by decide +kernel
theorem dX11_laysStep_39 : decode cX11_laysStep 39 = .ok (.iload 5, 2) := by decide +kernel
theorem dX11_laysStep_41 : decode cX11_laysStep 41 = .ok (.invokevirtual 272, 3) := by decide +kernel
theorem dX11_laysStep_44 : decode cX11_laysStep 44 = .ok (.ifCond .ne 6, 3) := by decide +kernel
theorem dX11_laysStep_47 : decode cX11_laysStep 47 = .ok (.goto 57, 3) := by decide +kernel
theorem dX11_laysStep_50 : decode cX11_laysStep 50 = .ok (.aload_n 0, 1) := by decide +kernel
theorem dX11_laysStep_51 : decode cX11_laysStep 51 = .ok (.iload_n 1, 1) := by decide +kernel
theorem dX11_laysStep_52 : decode cX11_laysStep 52 = .ok (.iload_n 2, 1) := by decide +kernel
theorem dX11_laysStep_53 : decode cX11_laysStep 53 = .ok (.iload 4, 2) := by decide +kernel
theorem dX11_laysStep_55 : decode cX11_laysStep 55 = .ok (.iload 5, 2) := by decide +kernel
theorem dX11_laysStep_57 : decode cX11_laysStep 57 = .ok (.invokevirtual 275, 3) := by decide +kernel
theorem dX11_laysStep_60 : decode cX11_laysStep 60 = .ok (.aload_n 0, 1) := by decide +kernel
theorem dX11_laysStep_61 : decode cX11_laysStep 61 = .ok (.invokevirtual 279, 3) := by decide +kernel
theorem dX11_laysStep_64 : decode cX11_laysStep 64 = .ok (.istore 6, 2) := by decide +kernel
theorem dX11_laysStep_66 : decode cX11_laysStep 66 = .ok (.iload 6, 2) := by decide +kernel
theorem dX11_laysStep_68 : decode cX11_laysStep 68 = .ok (.aload_n 0, 1) := by decide +kernel
theorem dX11_laysStep_69 : decode cX11_laysStep 69 = .ok (.getfield 72, 3) := by decide +kernel
theorem dX11_laysStep_72 : decode cX11_laysStep 72 = .ok (.iload_n 3, 1) := by decide +kernel
theorem dX11_laysStep_73 : decode cX11_laysStep 73 = .ok (.iaload, 1) := by decide +kernel
theorem dX11_laysStep_74 : decode cX11_laysStep 74 = .ok (.if_icmp .lt 6, 3) := by decide +kernel
theorem dX11_laysStep_77 : decode cX11_laysStep 77 = .ok (.goto 27, 3) := by decide +kernel
theorem dX11_laysStep_80 : decode cX11_laysStep 80 = .ok (.aload_n 0, 1) := by decide +kernel
theorem dX11_laysStep_81 : decode cX11_laysStep 81 = .ok (.getfield 72, 3) := by decide +kernel
theorem dX11_laysStep_84 : decode cX11_laysStep 84 = .ok (.iload_n 3, 1) := by decide +kernel
theorem dX11_laysStep_85 : decode cX11_laysStep 85 = .ok (.iload 6, 2) := by decide +kernel
theorem dX11_laysStep_87 : decode cX11_laysStep 87 = .ok (.iastore, 1) := by decide +kernel
theorem dX11_laysStep_88 : decode cX11_laysStep 88 = .ok (.aload_n 0, 1) := by decide +kernel
theorem dX11_laysStep_89 : decode cX11_laysStep 89 = .ok (.getfield 75, 3) := by decide +kernel
theorem dX11_laysStep_92 : decode cX11_laysStep 92 = .ok (.iload_n 3, 1) := by decide +kernel
theorem dX11_laysStep_93 : decode cX11_laysStep 93 = .ok (.iload 4, 2) := by decide +kernel
theorem dX11_laysStep_95 : decode cX11_laysStep 95 = .ok (.iastore, 1) := by decide +kernel
theorem dX11_laysStep_96 : decode cX11_laysStep 96 = .ok (.aload_n 0, 1) := by decide +kernel
theorem dX11_laysStep_97 : decode cX11_laysStep 97 = .ok (.getfield 78, 3) := by decide +kernel
theorem dX11_laysStep_100 : decode cX11_laysStep 100 = .ok (.iload_n 3, 1) := by decide +kernel
theorem dX11_laysStep_101 : decode cX11_laysStep 101 = .ok (.iload 5, 2) := by decide +kernel
theorem dX11_laysStep_103 : decode cX11_laysStep 103 = .ok (.iastore, 1) := by decide +kernel
theorem dX11_laysStep_104 : decode cX11_laysStep 104 = .ok (.iinc 5 1, 3) := by decide +kernel
theorem dX11_laysStep_107 : decode cX11_laysStep 107 = .ok (.goto (-80), 3) := by decide +kernel
theorem dX11_laysStep_110 : decode cX11_laysStep 110 = .ok (.iinc 4 1, 3) := by decide +kernel
theorem dX11_laysStep_113 : decode cX11_laysStep 113 = .ok (.goto (-95), 3) := by decide +kernel
theorem dX11_laysStep_116 : decode cX11_laysStep 116 = .ok (.return_, 1) := by decide +kernel
theorem dX11_laysSteps_0 : decode cX11_laysSteps 0 = .ok (.iconst 0, 1) := by decide +kernel
theorem dX11_laysSteps_1 : decode cX11_laysSteps 1 = .ok (.istore_n 1, 1) := by decide +kernel
theorem dX11_laysSteps_2 : decode cX11_laysSteps 2 = .ok (.iload_n 1, 1) := by decide +kernel
theorem dX11_laysSteps_3 : decode cX11_laysSteps 3 = .ok (.aload_n 0, 1) := by decide +kernel
theorem dX11_laysSteps_4 : decode cX11_laysSteps 4 = .ok (.getfield 130, 3) := by decide +kernel
theorem dX11_laysSteps_7 : decode cX11_laysSteps 7 = .ok (.if_icmp .ge 74, 3) := by decide +kernel
theorem dX11_laysSteps_10 : decode cX11_laysSteps 10 = .ok (.iconst 0, 1) := by decide +kernel
theorem dX11_laysSteps_11 : decode cX11_laysSteps 11 = .ok (.istore_n 2, 1) := by decide +kernel
theorem dX11_laysSteps_12 : decode cX11_laysSteps 12 = .ok (.iload_n 2, 1) := by decide +kernel
theorem dX11_laysSteps_13 : decode cX11_laysSteps 13 = .ok (.aload_n 0, 1) := by decide +kernel
theorem dX11_laysSteps_14 : decode cX11_laysSteps 14 = .ok (.getfield 130, 3) := by decide +kernel
theorem dX11_laysSteps_17 : decode cX11_laysSteps 17 = .ok (.if_icmp .ge 58, 3) := by decide +kernel
theorem dX11_laysSteps_20 : decode cX11_laysSteps 20 = .ok (.aload_n 0, 1) := by decide +kernel
theorem dX11_laysSteps_21 : decode cX11_laysSteps 21 = .ok (.getfield 72, 3) := by decide +kernel
theorem dX11_laysSteps_24 : decode cX11_laysSteps 24 = .ok (.bipush 40, 2) := by decide +kernel
theorem dX11_laysSteps_26 : decode cX11_laysSteps 26 = .ok (.iload_n 1, 1) := by decide +kernel
theorem dX11_laysSteps_27 : decode cX11_laysSteps 27 = .ok (.imul, 1) := by decide +kernel
theorem dX11_laysSteps_28 : decode cX11_laysSteps 28 = .ok (.iload_n 2, 1) := by decide +kernel
theorem dX11_laysSteps_29 : decode cX11_laysSteps 29 = .ok (.iadd, 1) := by decide +kernel
theorem dX11_laysSteps_30 : decode cX11_laysSteps 30 = .ok (.ldc 129, 2) := by decide +kernel
theorem dX11_laysSteps_32 : decode cX11_laysSteps 32 = .ok (.iastore, 1) := by decide +kernel
theorem dX11_laysSteps_33 : decode cX11_laysSteps 33 = .ok (.iload_n 1, 1) := by decide +kernel
theorem dX11_laysSteps_34 : decode cX11_laysSteps 34 = .ok (.iload_n 2, 1) := by decide +kernel
theorem dX11_laysSteps_35 : decode cX11_laysSteps 35 = .ok (.if_icmp .eq 34, 3) := by decide +kernel
theorem dX11_laysSteps_38 : decode cX11_laysSteps 38 = .ok (.aload_n 0, 1) := by decide +kernel
theorem dX11_laysSteps_39 : decode cX11_laysSteps 39 = .ok (.iload_n 1, 1) := by decide +kernel
theorem dX11_laysSteps_40 : decode cX11_laysSteps 40 = .ok (.invokevirtual 282, 3) := by decide +kernel
theorem dX11_laysSteps_43 : decode cX11_laysSteps 43 = .ok (.ifCond .eq 26, 3) := by decide +kernel
theorem dX11_laysSteps_46 : decode cX11_laysSteps 46 = .ok (.aload_n 0, 1) := by decide +kernel
theorem dX11_laysSteps_47 : decode cX11_laysSteps 47 = .ok (.iload_n 2, 1) := by decide +kernel
theorem dX11_laysSteps_48 : decode cX11_laysSteps 48 = .ok (.invokevirtual 282, 3) := by decide +kernel
theorem dX11_laysSteps_51 : decode cX11_laysSteps 51 = .ok (.ifCond .eq 18, 3) := by decide +kernel
theorem dX11_laysSteps_54 : decode cX11_laysSteps 54 = .ok (.aload_n 0, 1) := by decide +kernel
theorem dX11_laysSteps_55 : decode cX11_laysSteps 55 = .ok (.iload_n 1, 1) := by decide +kernel
theorem dX11_laysSteps_56 : decode cX11_laysSteps 56 = .ok (.iload_n 2, 1) := by decide +kernel
theorem dX11_laysSteps_57 : decode cX11_laysSteps 57 = .ok (.invokevirtual 285, 3) := by decide +kernel
theorem dX11_laysSteps_60 : decode cX11_laysSteps 60 = .ok (.ifCond .eq 9, 3) := by decide +kernel
theorem dX11_laysSteps_63 : decode cX11_laysSteps 63 = .ok (.aload_n 0, 1) := by decide +kernel
theorem dX11_laysSteps_64 : decode cX11_laysSteps 64 = .ok (.iload_n 1, 1) := by decide +kernel
theorem dX11_laysSteps_65 : decode cX11_laysSteps 65 = .ok (.iload_n 2, 1) := by decide +kernel
theorem dX11_laysSteps_66 : decode cX11_laysSteps 66 = .ok (.invokevirtual 288, 3) := by decide +kernel
theorem dX11_laysSteps_69 : decode cX11_laysSteps 69 = .ok (.iinc 2 1, 3) := by decide +kernel
theorem dX11_laysSteps_72 : decode cX11_laysSteps 72 = .ok (.goto (-60), 3) := by decide +kernel
theorem dX11_laysSteps_75 : decode cX11_laysSteps 75 = .ok (.iinc 1 1, 3) := by decide +kernel
theorem dX11_laysSteps_78 : decode cX11_laysSteps 78 = .ok (.goto (-76), 3) := by decide +kernel
theorem dX11_laysSteps_81 : decode cX11_laysSteps 81 = .ok (.return_, 1) := by decide +kernel
theorem dX11_laysWays_0 : decode cX11_laysWays 0 = .ok (.aload_n 0, 1) := by decide +kernel
theorem dX11_laysWays_1 : decode cX11_laysWays 1 = .ok (.invokevirtual 291, 3) := by decide +kernel
theorem dX11_laysWays_4 : decode cX11_laysWays 4 = .ok (.iconst 0, 1) := by decide +kernel
theorem dX11_laysWays_5 : decode cX11_laysWays 5 = .ok (.istore_n 1, 1) := by decide +kernel
theorem dX11_laysWays_6 : decode cX11_laysWays 6 = .ok (.iload_n 1, 1) := by decide +kernel
theorem dX11_laysWays_7 : decode cX11_laysWays 7 = .ok (.aload_n 0, 1) := by decide +kernel
theorem dX11_laysWays_8 : decode cX11_laysWays 8 = .ok (.getfield 130, 3) := by decide +kernel
theorem dX11_laysWays_11 : decode cX11_laysWays 11 = .ok (.if_icmp .ge 59, 3) := by decide +kernel
theorem dX11_laysWays_14 : decode cX11_laysWays 14 = .ok (.iconst 0, 1) := by decide +kernel
theorem dX11_laysWays_15 : decode cX11_laysWays 15 = .ok (.istore_n 2, 1) := by decide +kernel
theorem dX11_laysWays_16 : decode cX11_laysWays 16 = .ok (.iload_n 2, 1) := by decide +kernel
theorem dX11_laysWays_17 : decode cX11_laysWays 17 = .ok (.aload_n 0, 1) := by decide +kernel
theorem dX11_laysWays_18 : decode cX11_laysWays 18 = .ok (.getfield 130, 3) := by decide +kernel
theorem dX11_laysWays_21 : decode cX11_laysWays 21 = .ok (.if_icmp .ge 43, 3) := by decide +kernel
theorem dX11_laysWays_24 : decode cX11_laysWays 24 = .ok (.aload_n 0, 1) := by decide +kernel
theorem dX11_laysWays_25 : decode cX11_laysWays 25 = .ok (.getfield 81, 3) := by decide +kernel
theorem dX11_laysWays_28 : decode cX11_laysWays 28 = .ok (.bipush 40, 2) := by decide +kernel
theorem dX11_laysWays_30 : decode cX11_laysWays 30 = .ok (.iload_n 1, 1) := by decide +kernel
theorem dX11_laysWays_31 : decode cX11_laysWays 31 = .ok (.imul, 1) := by decide +kernel
theorem dX11_laysWays_32 : decode cX11_laysWays 32 = .ok (.iload_n 2, 1) := by decide +kernel
theorem dX11_laysWays_33 : decode cX11_laysWays 33 = .ok (.iadd, 1) := by decide +kernel
theorem dX11_laysWays_34 : decode cX11_laysWays 34 = .ok (.iload_n 1, 1) := by decide +kernel
theorem dX11_laysWays_35 : decode cX11_laysWays 35 = .ok (.iload_n 2, 1) := by decide +kernel
theorem dX11_laysWays_36 : decode cX11_laysWays 36 = .ok (.if_icmp .ne 15, 3) := by decide +kernel
theorem dX11_laysWays_39 : decode cX11_laysWays 39 = .ok (.aload_n 0, 1) := by decide +kernel
theorem dX11_laysWays_40 : decode cX11_laysWays 40 = .ok (.iload_n 1, 1) := by decide +kernel
theorem dX11_laysWays_41 : decode cX11_laysWays 41 = .ok (.invokevirtual 282, 3) := by decide +kernel
theorem dX11_laysWays_44 : decode cX11_laysWays 44 = .ok (.ifCond .eq 7, 3) := by decide +kernel
theorem dX11_laysWays_47 : decode cX11_laysWays 47 = .ok (.iconst 0, 1) := by decide +kernel
theorem dX11_laysWays_48 : decode cX11_laysWays 48 = .ok (.goto 9, 3) := by decide +kernel
theorem dX11_laysWays_51 : decode cX11_laysWays 51 = .ok (.aload_n 0, 1) := by decide +kernel
theorem dX11_laysWays_52 : decode cX11_laysWays 52 = .ok (.iload_n 1, 1) := by decide +kernel
theorem dX11_laysWays_53 : decode cX11_laysWays 53 = .ok (.iload_n 2, 1) := by decide +kernel
theorem dX11_laysWays_54 : decode cX11_laysWays 54 = .ok (.invokevirtual 297, 3) := by decide +kernel
theorem dX11_laysWays_57 : decode cX11_laysWays 57 = .ok (.iastore, 1) := by decide +kernel
theorem dX11_laysWays_58 : decode cX11_laysWays 58 = .ok (.iinc 2 1, 3) := by decide +kernel
theorem dX11_laysWays_61 : decode cX11_laysWays 61 = .ok (.goto (-45), 3) := by decide +kernel
theorem dX11_laysWays_64 : decode cX11_laysWays 64 = .ok (.iinc 1 1, 3) := by decide +kernel
theorem dX11_laysWays_67 : decode cX11_laysWays 67 = .ok (.goto (-61), 3) := by decide +kernel
theorem dX11_laysWays_70 : decode cX11_laysWays 70 = .ok (.iconst 0, 1) := by decide +kernel
theorem dX11_laysWays_71 : decode cX11_laysWays 71 = .ok (.istore_n 1, 1) := by decide +kernel
theorem dX11_laysWays_72 : decode cX11_laysWays 72 = .ok (.iload_n 1, 1) := by decide +kernel
theorem dX11_laysWays_73 : decode cX11_laysWays 73 = .ok (.aload_n 0, 1) := by decide +kernel
theorem dX11_laysWays_74 : decode cX11_laysWays 74 = .ok (.getfield 130, 3) := by decide +kernel
theorem dX11_laysWays_77 : decode cX11_laysWays 77 = .ok (.if_icmp .ge 91, 3) := by decide +kernel
theorem dX11_laysWays_80 : decode cX11_laysWays 80 = .ok (.iconst 0, 1) := by decide +kernel
theorem dX11_laysWays_81 : decode cX11_laysWays 81 = .ok (.istore_n 2, 1) := by decide +kernel
theorem dX11_laysWays_82 : decode cX11_laysWays 82 = .ok (.iload_n 2, 1) := by decide +kernel
theorem dX11_laysWays_83 : decode cX11_laysWays 83 = .ok (.aload_n 0, 1) := by decide +kernel
theorem dX11_laysWays_84 : decode cX11_laysWays 84 = .ok (.getfield 130, 3) := by decide +kernel
theorem dX11_laysWays_87 : decode cX11_laysWays 87 = .ok (.if_icmp .ge 75, 3) := by decide +kernel
theorem dX11_laysWays_90 : decode cX11_laysWays 90 = .ok (.iconst 0, 1) := by decide +kernel
theorem dX11_laysWays_91 : decode cX11_laysWays 91 = .ok (.istore_n 3, 1) := by decide +kernel
theorem dX11_laysWays_92 : decode cX11_laysWays 92 = .ok (.iload_n 3, 1) := by decide +kernel
theorem dX11_laysWays_93 : decode cX11_laysWays 93 = .ok (.aload_n 0, 1) := by decide +kernel
theorem dX11_laysWays_94 : decode cX11_laysWays 94 = .ok (.getfield 130, 3) := by decide +kernel
theorem dX11_laysWays_97 : decode cX11_laysWays 97 = .ok (.if_icmp .ge 59, 3) := by decide +kernel
theorem dX11_laysWays_100 : decode cX11_laysWays 100 = .ok (.aload_n 0, 1) := by decide +kernel
theorem dX11_laysWays_101 : decode cX11_laysWays 101 = .ok (.getfield 81, 3) := by decide +kernel
theorem dX11_laysWays_104 : decode cX11_laysWays 104 = .ok (.bipush 40, 2) := by decide +kernel
theorem dX11_laysWays_106 : decode cX11_laysWays 106 = .ok (.iload_n 2, 1) := by decide +kernel
theorem dX11_laysWays_107 : decode cX11_laysWays 107 = .ok (.imul, 1) := by decide +kernel
theorem dX11_laysWays_108 : decode cX11_laysWays 108 = .ok (.iload_n 3, 1) := by decide +kernel
theorem dX11_laysWays_109 : decode cX11_laysWays 109 = .ok (.iadd, 1) := by decide +kernel
theorem dX11_laysWays_110 : decode cX11_laysWays 110 = .ok (.aload_n 0, 1) := by decide +kernel
theorem dX11_laysWays_111 : decode cX11_laysWays 111 = .ok (.getfield 81, 3) := by decide +kernel
theorem dX11_laysWays_114 : decode cX11_laysWays 114 = .ok (.bipush 40, 2) := by decide +kernel
theorem dX11_laysWays_116 : decode cX11_laysWays 116 = .ok (.iload_n 2, 1) := by decide +kernel
theorem dX11_laysWays_117 : decode cX11_laysWays 117 = .ok (.imul, 1) := by decide +kernel
theorem dX11_laysWays_118 : decode cX11_laysWays 118 = .ok (.iload_n 3, 1) := by decide +kernel
theorem dX11_laysWays_119 : decode cX11_laysWays 119 = .ok (.iadd, 1) := by decide +kernel
theorem dX11_laysWays_120 : decode cX11_laysWays 120 = .ok (.iaload, 1) := by decide +kernel
theorem dX11_laysWays_121 : decode cX11_laysWays 121 = .ok (.aload_n 0, 1) := by decide +kernel
theorem dX11_laysWays_122 : decode cX11_laysWays 122 = .ok (.getfield 81, 3) := by decide +kernel
theorem dX11_laysWays_125 : decode cX11_laysWays 125 = .ok (.bipush 40, 2) := by decide +kernel
theorem dX11_laysWays_127 : decode cX11_laysWays 127 = .ok (.iload_n 2, 1) := by decide +kernel
theorem dX11_laysWays_128 : decode cX11_laysWays 128 = .ok (.imul, 1) := by decide +kernel
theorem dX11_laysWays_129 : decode cX11_laysWays 129 = .ok (.iload_n 1, 1) := by decide +kernel
theorem dX11_laysWays_130 : decode cX11_laysWays 130 = .ok (.iadd, 1) := by decide +kernel
theorem dX11_laysWays_131 : decode cX11_laysWays 131 = .ok (.iaload, 1) := by decide +kernel
theorem dX11_laysWays_132 : decode cX11_laysWays 132 = .ok (.aload_n 0, 1) := by decide +kernel
theorem dX11_laysWays_133 : decode cX11_laysWays 133 = .ok (.getfield 81, 3) := by decide +kernel
theorem dX11_laysWays_136 : decode cX11_laysWays 136 = .ok (.bipush 40, 2) := by decide +kernel
theorem dX11_laysWays_138 : decode cX11_laysWays 138 = .ok (.iload_n 1, 1) := by decide +kernel
theorem dX11_laysWays_139 : decode cX11_laysWays 139 = .ok (.imul, 1) := by decide +kernel
theorem dX11_laysWays_140 : decode cX11_laysWays 140 = .ok (.iload_n 3, 1) := by decide +kernel
theorem dX11_laysWays_141 : decode cX11_laysWays 141 = .ok (.iadd, 1) := by decide +kernel
theorem dX11_laysWays_142 : decode cX11_laysWays 142 = .ok (.iaload, 1) := by decide +kernel
theorem dX11_laysWays_143 : decode cX11_laysWays 143 = .ok (.invokestatic 300, 3) := by decide +kernel
theorem dX11_laysWays_146 : decode cX11_laysWays 146 = .ok (.invokestatic 303, 3) := by decide +kernel
theorem dX11_laysWays_149 : decode cX11_laysWays 149 = .ok (.iastore, 1) := by decide +kernel
theorem dX11_laysWays_150 : decode cX11_laysWays 150 = .ok (.iinc 3 1, 3) := by decide +kernel
theorem dX11_laysWays_153 : decode cX11_laysWays 153 = .ok (.goto (-61), 3) := by decide +kernel
theorem dX11_laysWays_156 : decode cX11_laysWays 156 = .ok (.iinc 2 1, 3) := by decide +kernel
theorem dX11_laysWays_159 : decode cX11_laysWays 159 = .ok (.goto (-77), 3) := by decide +kernel
theorem dX11_laysWays_162 : decode cX11_laysWays 162 = .ok (.iinc 1 1, 3) := by decide +kernel
theorem dX11_laysWays_165 : decode cX11_laysWays 165 = .ok (.goto (-93), 3) := by decide +kernel
theorem dX11_laysWays_168 : decode cX11_laysWays 168 = .ok (.return_, 1) := by decide +kernel
theorem dX11_least_0 : decode cX11_least 0 = .ok (.aload_n 0, 1) := by decide +kernel
theorem dX11_least_1 : decode cX11_least 1 = .ok (.iload_n 1, 1) := by decide +kernel
theorem dX11_least_2 : decode cX11_least 2 = .ok (.invokevirtual 154, 3) := by decide +kernel
theorem dX11_least_5 : decode cX11_least 5 = .ok (.ifCond .eq 21, 3) := by decide +kernel
theorem dX11_least_8 : decode cX11_least 8 = .ok (.aload_n 0, 1) := by decide +kernel
theorem dX11_least_9 : decode cX11_least 9 = .ok (.iload_n 2, 1) := by decide +kernel
theorem dX11_least_10 : decode cX11_least 10 = .ok (.invokevirtual 154, 3) := by decide +kernel
theorem dX11_least_13 : decode cX11_least 13 = .ok (.ifCond .eq 13, 3) := by decide +kernel
theorem dX11_least_16 : decode cX11_least 16 = .ok (.iload_n 3, 1) := by decide +kernel
theorem dX11_least_17 : decode cX11_least 17 = .ok (.iconst (-1), 1) := by decide +kernel
theorem dX11_least_18 : decode cX11_least 18 = .ok (.bipush 40, 2) := by decide +kernel
theorem dX11_least_20 : decode cX11_least 20 = .ok (.invokestatic 139, 3) := by decide +kernel
theorem dX11_least_23 : decode cX11_least 23 = .ok (.ifCond .ne 5, 3) := by decide +kernel
theorem dX11_least_26 : decode cX11_least 26 = .ok (.iconst (-1), 1) := by decide +kernel
theorem dX11_least_27 : decode cX11_least 27 = .ok (.ireturn, 1) := by decide +kernel
theorem dX11_least_28 : decode cX11_least 28 = .ok (.aload_n 0, 1) := by decide +kernel
theorem dX11_least_29 : decode cX11_least 29 = .ok (.invokevirtual 306, 3) := by decide +kernel
theorem dX11_least_32 : decode cX11_least 32 = .ok (.aload_n 0, 1) := by decide +kernel
theorem dX11_least_33 : decode cX11_least 33 = .ok (.getfield 81, 3) := by decide +kernel
theorem dX11_least_36 : decode cX11_least 36 = .ok (.bipush 40, 2) := by decide +kernel
theorem dX11_least_38 : decode cX11_least 38 = .ok (.iload_n 1, 1) := by decide +kernel
theorem dX11_least_39 : decode cX11_least 39 = .ok (.imul, 1) := by decide +kernel
theorem dX11_least_40 : decode cX11_least 40 = .ok (.iload_n 2, 1) := by decide +kernel
theorem dX11_least_41 : decode cX11_least 41 = .ok (.iadd, 1) := by decide +kernel
theorem dX11_least_42 : decode cX11_least 42 = .ok (.iaload, 1) := by decide +kernel
theorem dX11_least_43 : decode cX11_least 43 = .ok (.istore 4, 2) := by decide +kernel
theorem dX11_least_45 : decode cX11_least 45 = .ok (.iload 4, 2) := by decide +kernel
theorem dX11_least_47 : decode cX11_least 47 = .ok (.ldc 129, 2) := by decide +kernel
theorem dX11_least_49 : decode cX11_least 49 = .ok (.if_icmp .lt 6, 3) := by decide +kernel
theorem dX11_least_52 : decode cX11_least 52 = .ok (.bipush (-2), 2) := by decide +kernel
theorem dX11_least_54 : decode cX11_least 54 = .ok (.ireturn, 1) := by decide +kernel
theorem dX11_least_55 : decode cX11_least 55 = .ok (.iload_n 3, 1) := by decide +kernel
theorem dX11_least_56 : decode cX11_least 56 = .ok (.iconst (-1), 1) := by decide +kernel
theorem dX11_least_57 : decode cX11_least 57 = .ok (.if_icmp .ne 9, 3) := by decide +kernel
theorem dX11_least_60 : decode cX11_least 60 = .ok (.iload 4, 2) := by decide +kernel
theorem dX11_least_62 : decode cX11_least 62 = .ok (.bipush 64, 2) := by decide +kernel
theorem dX11_least_64 : decode cX11_least 64 = .ok (.idiv, 1) := by decide +kernel
theorem dX11_least_65 : decode cX11_least 65 = .ok (.ireturn, 1) := by decide +kernel
theorem dX11_least_66 : decode cX11_least 66 = .ok (.iload_n 3, 1) := by decide +kernel
theorem dX11_least_67 : decode cX11_least 67 = .ok (.bipush 40, 2) := by decide +kernel
theorem dX11_least_69 : decode cX11_least 69 = .ok (.if_icmp .ne 9, 3) := by decide +kernel
theorem dX11_least_72 : decode cX11_least 72 = .ok (.iload 4, 2) := by decide +kernel
theorem dX11_least_74 : decode cX11_least 74 = .ok (.bipush 64, 2) := by decide +kernel
theorem dX11_least_76 : decode cX11_least 76 = .ok (.irem, 1) := by decide +kernel
theorem dX11_least_77 : decode cX11_least 77 = .ok (.ireturn, 1) := by decide +kernel
theorem dX11_least_78 : decode cX11_least 78 = .ok (.iload_n 3, 1) := by decide +kernel
theorem dX11_least_79 : decode cX11_least 79 = .ok (.iload 4, 2) := by decide +kernel
theorem dX11_least_81 : decode cX11_least 81 = .ok (.bipush 64, 2) := by decide +kernel
theorem dX11_least_83 : decode cX11_least 83 = .ok (.irem, 1) := by decide +kernel
theorem dX11_least_84 : decode cX11_least 84 = .ok (.if_icmp .le 5, 3) := by decide +kernel
theorem dX11_least_87 : decode cX11_least 87 = .ok (.iconst (-1), 1) := by decide +kernel
theorem dX11_least_88 : decode cX11_least 88 = .ok (.ireturn, 1) := by decide +kernel
theorem dX11_least_89 : decode cX11_least 89 = .ok (.iload_n 1, 1) := by decide +kernel
theorem dX11_least_90 : decode cX11_least 90 = .ok (.istore 5, 2) := by decide +kernel
theorem dX11_least_92 : decode cX11_least 92 = .ok (.iconst 0, 1) := by decide +kernel
theorem dX11_least_93 : decode cX11_least 93 = .ok (.istore 6, 2) := by decide +kernel
theorem dX11_least_95 : decode cX11_least 95 = .ok (.iload 6, 2) := by decide +kernel
theorem dX11_least_97 : decode cX11_least 97 = .ok (.iload_n 3, 1) := by decide +kernel
theorem dX11_least_98 : decode cX11_least 98 = .ok (.if_icmp .ge 18, 3) := by decide +kernel
theorem dX11_least_101 : decode cX11_least 101 = .ok (.aload_n 0, 1) := by decide +kernel
theorem dX11_least_102 : decode cX11_least 102 = .ok (.iload 5, 2) := by decide +kernel
theorem dX11_least_104 : decode cX11_least 104 = .ok (.iload_n 2, 1) := by decide +kernel
theorem dX11_least_105 : decode cX11_least 105 = .ok (.invokevirtual 309, 3) := by decide +kernel
theorem dX11_least_108 : decode cX11_least 108 = .ok (.istore 5, 2) := by decide +kernel
theorem dX11_least_110 : decode cX11_least 110 = .ok (.iinc 6 1, 3) := by decide +kernel
theorem dX11_least_113 : decode cX11_least 113 = .ok (.goto (-18), 3) := by decide +kernel
theorem dX11_least_116 : decode cX11_least 116 = .ok (.iload 5, 2) := by decide +kernel
theorem dX11_least_118 : decode cX11_least 118 = .ok (.ireturn, 1) := by decide +kernel
theorem dX11_leastOf_0 : decode cX11_leastOf 0 = .ok (.aload_n 0, 1) := by decide +kernel
theorem dX11_leastOf_1 : decode cX11_leastOf 1 = .ok (.getfield 81, 3) := by decide +kernel
theorem dX11_leastOf_4 : decode cX11_leastOf 4 = .ok (.bipush 40, 2) := by decide +kernel
theorem dX11_leastOf_6 : decode cX11_leastOf 6 = .ok (.iload_n 1, 1) := by decide +kernel
theorem dX11_leastOf_7 : decode cX11_leastOf 7 = .ok (.imul, 1) := by decide +kernel
theorem dX11_leastOf_8 : decode cX11_leastOf 8 = .ok (.iload_n 2, 1) := by decide +kernel
theorem dX11_leastOf_9 : decode cX11_leastOf 9 = .ok (.iadd, 1) := by decide +kernel
theorem dX11_leastOf_10 : decode cX11_leastOf 10 = .ok (.iaload, 1) := by decide +kernel
theorem dX11_leastOf_11 : decode cX11_leastOf 11 = .ok (.ldc 129, 2) := by decide +kernel
theorem dX11_leastOf_13 : decode cX11_leastOf 13 = .ok (.if_icmp .lt 8, 3) := by decide +kernel
theorem dX11_leastOf_16 : decode cX11_leastOf 16 = .ok (.ldc 129, 2) := by decide +kernel
theorem dX11_leastOf_18 : decode cX11_leastOf 18 = .ok (.goto 17, 3) := by decide +kernel
theorem dX11_leastOf_21 : decode cX11_leastOf 21 = .ok (.aload_n 0, 1) := by decide +kernel
theorem dX11_leastOf_22 : decode cX11_leastOf 22 = .ok (.getfield 81, 3) := by decide +kernel
theorem dX11_leastOf_25 : decode cX11_leastOf 25 = .ok (.bipush 40, 2) := by decide +kernel
theorem dX11_leastOf_27 : decode cX11_leastOf 27 = .ok (.iload_n 1, 1) := by decide +kernel
theorem dX11_leastOf_28 : decode cX11_leastOf 28 = .ok (.imul, 1) := by decide +kernel
theorem dX11_leastOf_29 : decode cX11_leastOf 29 = .ok (.iload_n 2, 1) := by decide +kernel
theorem dX11_leastOf_30 : decode cX11_leastOf 30 = .ok (.iadd, 1) := by decide +kernel
theorem dX11_leastOf_31 : decode cX11_leastOf 31 = .ok (.iaload, 1) := by decide +kernel
theorem dX11_leastOf_32 : decode cX11_leastOf 32 = .ok (.bipush 64, 2) := by decide +kernel
theorem dX11_leastOf_34 : decode cX11_leastOf 34 = .ok (.idiv, 1) := by decide +kernel
theorem dX11_leastOf_35 : decode cX11_leastOf 35 = .ok (.ireturn, 1) := by decide +kernel
theorem dX11_leavesOut_0 : decode cX11_leavesOut 0 = .ok (.aload_n 0, 1) := by decide +kernel
theorem dX11_leavesOut_1 : decode cX11_leavesOut 1 = .ok (.aload_n 0, 1) := by decide +kernel
theorem dX11_leavesOut_2 : decode cX11_leavesOut 2 = .ok (.getfield 7, 3) := by decide +kernel
theorem dX11_leavesOut_5 : decode cX11_leavesOut 5 = .ok (.iload_n 1, 1) := by decide +kernel
theorem dX11_leavesOut_6 : decode cX11_leavesOut 6 = .ok (.iaload, 1) := by decide +kernel
theorem dX11_leavesOut_7 : decode cX11_leavesOut 7 = .ok (.iconst 1, 1) := by decide +kernel
theorem dX11_leavesOut_8 : decode cX11_leavesOut 8 = .ok (.isub, 1) := by decide +kernel
theorem dX11_leavesOut_9 : decode cX11_leavesOut 9 = .ok (.putfield 136, 3) := by decide +kernel
theorem dX11_leavesOut_12 : decode cX11_leavesOut 12 = .ok (.iconst 0, 1) := by decide +kernel
theorem dX11_leavesOut_13 : decode cX11_leavesOut 13 = .ok (.istore_n 3, 1) := by decide +kernel
theorem dX11_leavesOut_14 : decode cX11_leavesOut 14 = .ok (.iload_n 3, 1) := by decide +kernel
theorem dX11_leavesOut_15 : decode cX11_leavesOut 15 = .ok (.aload_n 0, 1) := by decide +kernel
theorem dX11_leavesOut_16 : decode cX11_leavesOut 16 = .ok (.getfield 136, 3) := by decide +kernel
theorem dX11_leavesOut_19 : decode cX11_leavesOut 19 = .ok (.if_icmp .ge 32, 3) := by decide +kernel
theorem dX11_leavesOut_22 : decode cX11_leavesOut 22 = .ok (.aload_n 0, 1) := by decide +kernel
theorem dX11_leavesOut_23 : decode cX11_leavesOut 23 = .ok (.getfield 26, 3) := by decide +kernel
theorem dX11_leavesOut_26 : decode cX11_leavesOut 26 = .ok (.iload_n 3, 1) := by decide +kernel
theorem dX11_leavesOut_27 : decode cX11_leavesOut 27 = .ok (.aload_n 0, 1) := by decide +kernel
theorem dX11_leavesOut_28 : decode cX11_leavesOut 28 = .ok (.iload_n 1, 1) := by decide +kernel
theorem dX11_leavesOut_29 : decode cX11_leavesOut 29 = .ok (.iload_n 3, 1) := by decide +kernel
theorem dX11_leavesOut_30 : decode cX11_leavesOut 30 = .ok (.iload_n 2, 1) := by decide +kernel
theorem dX11_leavesOut_31 : decode cX11_leavesOut 31 = .ok (.if_icmp .ge 7, 3) := by decide +kernel
theorem dX11_leavesOut_34 : decode cX11_leavesOut 34 = .ok (.iload_n 3, 1) := by decide +kernel
theorem dX11_leavesOut_35 : decode cX11_leavesOut 35 = .ok (.goto 6, 3) := by decide +kernel
theorem dX11_leavesOut_38 : decode cX11_leavesOut 38 = .ok (.iload_n 3, 1) := by decide +kernel
theorem dX11_leavesOut_39 : decode cX11_leavesOut 39 = .ok (.iconst 1, 1) := by decide +kernel
theorem dX11_leavesOut_40 : decode cX11_leavesOut 40 = .ok (.iadd, 1) := by decide +kernel
theorem dX11_leavesOut_41 : decode cX11_leavesOut 41 = .ok (.invokevirtual 262, 3) := by decide +kernel
theorem dX11_leavesOut_44 : decode cX11_leavesOut 44 = .ok (.iastore, 1) := by decide +kernel
theorem dX11_leavesOut_45 : decode cX11_leavesOut 45 = .ok (.iinc 3 1, 3) := by decide +kernel
theorem dX11_leavesOut_48 : decode cX11_leavesOut 48 = .ok (.goto (-34), 3) := by decide +kernel
theorem dX11_leavesOut_51 : decode cX11_leavesOut 51 = .ok (.return_, 1) := by decide +kernel
theorem dX11_letter_0 : decode cX11_letter 0 = .ok (.aload_n 0, 1) := by decide +kernel
theorem dX11_letter_1 : decode cX11_letter 1 = .ok (.getfield 13, 3) := by decide +kernel
theorem dX11_letter_4 : decode cX11_letter 4 = .ok (.bipush 8, 2) := by decide +kernel
theorem dX11_letter_6 : decode cX11_letter 6 = .ok (.iload_n 1, 1) := by decide +kernel
theorem dX11_letter_7 : decode cX11_letter 7 = .ok (.imul, 1) := by decide +kernel
theorem dX11_letter_8 : decode cX11_letter 8 = .ok (.iload_n 2, 1) := by decide +kernel
theorem dX11_letter_9 : decode cX11_letter 9 = .ok (.iadd, 1) := by decide +kernel
theorem dX11_letter_10 : decode cX11_letter 10 = .ok (.iaload, 1) := by decide +kernel
theorem dX11_letter_11 : decode cX11_letter 11 = .ok (.ireturn, 1) := by decide +kernel
theorem dX11_mayNear_0 : decode cX11_mayNear 0 = .ok (.aload_n 0, 1) := by decide +kernel
theorem dX11_mayNear_1 : decode cX11_mayNear 1 = .ok (.getfield 7, 3) := by decide +kernel
theorem dX11_mayNear_4 : decode cX11_mayNear 4 = .ok (.iload_n 1, 1) := by decide +kernel
theorem dX11_mayNear_5 : decode cX11_mayNear 5 = .ok (.iaload, 1) := by decide +kernel
theorem dX11_mayNear_6 : decode cX11_mayNear 6 = .ok (.aload_n 0, 1) := by decide +kernel
theorem dX11_mayNear_7 : decode cX11_mayNear 7 = .ok (.getfield 7, 3) := by decide +kernel
theorem dX11_mayNear_10 : decode cX11_mayNear 10 = .ok (.iload_n 2, 1) := by decide +kernel
theorem dX11_mayNear_11 : decode cX11_mayNear 11 = .ok (.iaload, 1) := by decide +kernel
theorem dX11_mayNear_12 : decode cX11_mayNear 12 = .ok (.isub, 1) := by decide +kernel
theorem dX11_mayNear_13 : decode cX11_mayNear 13 = .ok (.iconst 2, 1) := by decide +kernel
theorem dX11_mayNear_14 : decode cX11_mayNear 14 = .ok (.if_icmp .ge 24, 3) := by decide +kernel
theorem dX11_mayNear_17 : decode cX11_mayNear 17 = .ok (.aload_n 0, 1) := by decide +kernel
theorem dX11_mayNear_18 : decode cX11_mayNear 18 = .ok (.getfield 7, 3) := by decide +kernel
theorem dX11_mayNear_21 : decode cX11_mayNear 21 = .ok (.iload_n 2, 1) := by decide +kernel
theorem dX11_mayNear_22 : decode cX11_mayNear 22 = .ok (.iaload, 1) := by decide +kernel
theorem dX11_mayNear_23 : decode cX11_mayNear 23 = .ok (.aload_n 0, 1) := by decide +kernel
theorem dX11_mayNear_24 : decode cX11_mayNear 24 = .ok (.getfield 7, 3) := by decide +kernel
theorem dX11_mayNear_27 : decode cX11_mayNear 27 = .ok (.iload_n 1, 1) := by decide +kernel
theorem dX11_mayNear_28 : decode cX11_mayNear 28 = .ok (.iaload, 1) := by decide +kernel
theorem dX11_mayNear_29 : decode cX11_mayNear 29 = .ok (.isub, 1) := by decide +kernel
theorem dX11_mayNear_30 : decode cX11_mayNear 30 = .ok (.iconst 2, 1) := by decide +kernel
theorem dX11_mayNear_31 : decode cX11_mayNear 31 = .ok (.if_icmp .ge 7, 3) := by decide +kernel
theorem dX11_mayNear_34 : decode cX11_mayNear 34 = .ok (.iconst 1, 1) := by decide +kernel
theorem dX11_mayNear_35 : decode cX11_mayNear 35 = .ok (.goto 4, 3) := by decide +kernel
theorem dX11_mayNear_38 : decode cX11_mayNear 38 = .ok (.iconst 0, 1) := by decide +kernel
theorem dX11_mayNear_39 : decode cX11_mayNear 39 = .ok (.ireturn, 1) := by decide +kernel
theorem dX11_min_0 : decode cX11_min 0 = .ok (.iload_n 0, 1) := by decide +kernel
theorem dX11_min_1 : decode cX11_min 1 = .ok (.iload_n 1, 1) := by decide +kernel
theorem dX11_min_2 : decode cX11_min 2 = .ok (.if_icmp .ge 7, 3) := by decide +kernel
theorem dX11_min_5 : decode cX11_min 5 = .ok (.iload_n 0, 1) := by decide +kernel
theorem dX11_min_6 : decode cX11_min 6 = .ok (.goto 4, 3) := by decide +kernel
theorem dX11_min_9 : decode cX11_min 9 = .ok (.iload_n 1, 1) := by decide +kernel
theorem dX11_min_10 : decode cX11_min 10 = .ok (.ireturn, 1) := by decide +kernel
theorem dX11_near_0 : decode cX11_near 0 = .ok (.iload_n 1, 1) := by decide +kernel
theorem dX11_near_1 : decode cX11_near 1 = .ok (.iconst 1, 1) := by decide +kernel
theorem dX11_near_2 : decode cX11_near 2 = .ok (.bipush 12, 2) := by decide +kernel
theorem dX11_near_4 : decode cX11_near 4 = .ok (.invokestatic 139, 3) := by decide +kernel
theorem dX11_near_7 : decode cX11_near 7 = .ok (.ifCond .eq 20, 3) := by decide +kernel
theorem dX11_near_10 : decode cX11_near 10 = .ok (.iload_n 2, 1) := by decide +kernel
theorem dX11_near_11 : decode cX11_near 11 = .ok (.iconst 0, 1) := by decide +kernel
theorem dX11_near_12 : decode cX11_near 12 = .ok (.iconst 2, 1) := by decide +kernel
theorem dX11_near_13 : decode cX11_near 13 = .ok (.invokestatic 139, 3) := by decide +kernel
theorem dX11_near_16 : decode cX11_near 16 = .ok (.ifCond .eq 11, 3) := by decide +kernel
theorem dX11_near_19 : decode cX11_near 19 = .ok (.iload_n 1, 1) := by decide +kernel
theorem dX11_near_20 : decode cX11_near 20 = .ok (.aload_n 0, 1) := by decide +kernel
theorem dX11_near_21 : decode cX11_near 21 = .ok (.getfield 133, 3) := by decide +kernel
theorem dX11_near_24 : decode cX11_near 24 = .ok (.if_icmp .le 5, 3) := by decide +kernel
theorem dX11_near_27 : decode cX11_near 27 = .ok (.iconst (-1), 1) := by decide +kernel
theorem dX11_near_28 : decode cX11_near 28 = .ok (.ireturn, 1) := by decide +kernel
theorem dX11_near_29 : decode cX11_near 29 = .ok (.aload_n 0, 1) := by decide +kernel
theorem dX11_near_30 : decode cX11_near 30 = .ok (.iload_n 1, 1) := by decide +kernel
theorem dX11_near_31 : decode cX11_near 31 = .ok (.invokevirtual 147, 3) := by decide +kernel
theorem dX11_near_34 : decode cX11_near 34 = .ok (.ifCond .ne 6, 3) := by decide +kernel
theorem dX11_near_37 : decode cX11_near 37 = .ok (.bipush (-2), 2) := by decide +kernel
theorem dX11_near_39 : decode cX11_near 39 = .ok (.ireturn, 1) := by decide +kernel
theorem dX11_near_40 : decode cX11_near 40 = .ok (.ldc 129, 2) := by decide +kernel
theorem dX11_near_42 : decode cX11_near 42 = .ok (.istore_n 3, 1) := by decide +kernel
theorem dX11_near_43 : decode cX11_near 43 = .ok (.iconst (-1), 1) := by decide +kernel
theorem dX11_near_44 : decode cX11_near 44 = .ok (.istore 4, 2) := by decide +kernel
theorem dX11_near_46 : decode cX11_near 46 = .ok (.iconst 0, 1) := by decide +kernel
theorem dX11_near_47 : decode cX11_near 47 = .ok (.istore 5, 2) := by decide +kernel
theorem dX11_near_49 : decode cX11_near 49 = .ok (.iconst 0, 1) := by decide +kernel
theorem dX11_near_50 : decode cX11_near 50 = .ok (.istore 6, 2) := by decide +kernel
theorem dX11_near_52 : decode cX11_near 52 = .ok (.iload 6, 2) := by decide +kernel
theorem dX11_near_54 : decode cX11_near 54 = .ok (.aload_n 0, 1) := by decide +kernel
theorem dX11_near_55 : decode cX11_near 55 = .ok (.getfield 130, 3) := by decide +kernel
theorem dX11_near_58 : decode cX11_near 58 = .ok (.if_icmp .ge 78, 3) := by decide +kernel
theorem dX11_near_61 : decode cX11_near 61 = .ok (.aload_n 0, 1) := by decide +kernel
theorem dX11_near_62 : decode cX11_near 62 = .ok (.iload 6, 2) := by decide +kernel
theorem dX11_near_64 : decode cX11_near 64 = .ok (.invokevirtual 282, 3) := by decide +kernel
theorem dX11_near_67 : decode cX11_near 67 = .ok (.ifCond .ne 6, 3) := by decide +kernel
theorem dX11_near_70 : decode cX11_near 70 = .ok (.goto 60, 3) := by decide +kernel
theorem dX11_near_73 : decode cX11_near 73 = .ok (.aload_n 0, 1) := by decide +kernel
theorem dX11_near_74 : decode cX11_near 74 = .ok (.iload 6, 2) := by decide +kernel
theorem dX11_near_76 : decode cX11_near 76 = .ok (.invokevirtual 389, 3) := by decide +kernel
theorem dX11_near_79 : decode cX11_near 79 = .ok (.istore 7, 2) := by decide +kernel
theorem dX11_near_81 : decode cX11_near 81 = .ok (.iload 7, 2) := by decide +kernel
theorem dX11_near_83 : decode cX11_near 83 = .ok (.iload_n 3, 1) := by decide +kernel
theorem dX11_near_84 : decode cX11_near 84 = .ok (.if_icmp .ge 7, 3) := by decide +kernel
theorem dX11_near_87 : decode cX11_near 87 = .ok (.iconst 1, 1) := by decide +kernel
theorem dX11_near_88 : decode cX11_near 88 = .ok (.goto 18, 3) := by decide +kernel
theorem dX11_near_91 : decode cX11_near 91 = .ok (.iload 7, 2) := by decide +kernel
theorem dX11_near_93 : decode cX11_near 93 = .ok (.iload_n 3, 1) := by decide +kernel
theorem dX11_near_94 : decode cX11_near 94 = .ok (.if_icmp .ne 10, 3) := by decide +kernel
theorem dX11_near_97 : decode cX11_near 97 = .ok (.iload 5, 2) := by decide +kernel
theorem dX11_near_99 : decode cX11_near 99 = .ok (.iconst 1, 1) := by decide +kernel
theorem dX11_near_100 : decode cX11_near 100 = .ok (.iadd, 1) := by decide +kernel
theorem dX11_near_101 : decode cX11_near 101 = .ok (.goto 5, 3) := by decide +kernel
theorem dX11_near_104 : decode cX11_near 104 = .ok (.iload 5, 2) := by decide +kernel
theorem dX11_near_106 : decode cX11_near 106 = .ok (.istore 5, 2) := by decide +kernel
theorem dX11_near_108 : decode cX11_near 108 = .ok (.iload 7, 2) := by decide +kernel
theorem dX11_near_110 : decode cX11_near 110 = .ok (.iload_n 3, 1) := by decide +kernel
theorem dX11_near_111 : decode cX11_near 111 = .ok (.if_icmp .ge 8, 3) := by decide +kernel
theorem dX11_near_114 : decode cX11_near 114 = .ok (.iload 6, 2) := by decide +kernel
theorem dX11_near_116 : decode cX11_near 116 = .ok (.goto 5, 3) := by decide +kernel
theorem dX11_near_119 : decode cX11_near 119 = .ok (.iload 4, 2) := by decide +kernel
theorem dX11_near_121 : decode cX11_near 121 = .ok (.istore 4, 2) := by decide +kernel
theorem dX11_near_123 : decode cX11_near 123 = .ok (.iload_n 3, 1) := by decide +kernel
theorem dX11_near_124 : decode cX11_near 124 = .ok (.iload 7, 2) := by decide +kernel
theorem dX11_near_126 : decode cX11_near 126 = .ok (.invokestatic 303, 3) := by decide +kernel
theorem dX11_near_129 : decode cX11_near 129 = .ok (.istore_n 3, 1) := by decide +kernel
theorem dX11_near_130 : decode cX11_near 130 = .ok (.iinc 6 1, 3) := by decide +kernel
theorem dX11_near_133 : decode cX11_near 133 = .ok (.goto (-81), 3) := by decide +kernel
theorem dX11_near_136 : decode cX11_near 136 = .ok (.iload 4, 2) := by decide +kernel
theorem dX11_near_138 : decode cX11_near 138 = .ok (.iconst (-1), 1) := by decide +kernel
theorem dX11_near_139 : decode cX11_near 139 = .ok (.if_icmp .ne 6, 3) := by decide +kernel
theorem dX11_near_142 : decode cX11_near 142 = .ok (.bipush (-2), 2) := by decide +kernel
theorem dX11_near_144 : decode cX11_near 144 = .ok (.ireturn, 1) := by decide +kernel
theorem dX11_near_145 : decode cX11_near 145 = .ok (.iload_n 2, 1) := by decide +kernel
theorem dX11_near_146 : decode cX11_near 146 = .ok (.ifCond .ne 7, 3) := by decide +kernel
theorem dX11_near_149 : decode cX11_near 149 = .ok (.iload_n 3, 1) := by decide +kernel
theorem dX11_near_150 : decode cX11_near 150 = .ok (.goto 15, 3) := by decide +kernel
theorem dX11_near_153 : decode cX11_near 153 = .ok (.iload_n 2, 1) := by decide +kernel
theorem dX11_near_154 : decode cX11_near 154 = .ok (.iconst 1, 1) := by decide +kernel
theorem dX11_near_155 : decode cX11_near 155 = .ok (.if_icmp .ne 8, 3) := by decide +kernel
theorem dX11_near_158 : decode cX11_near 158 = .ok (.iload 4, 2) := by decide +kernel
theorem dX11_near_160 : decode cX11_near 160 = .ok (.goto 5, 3) := by decide +kernel
theorem dX11_near_163 : decode cX11_near 163 = .ok (.iload 5, 2) := by decide +kernel
theorem dX11_near_165 : decode cX11_near 165 = .ok (.ireturn, 1) := by decide +kernel
theorem dX11_newWord_0 : decode cX11_newWord 0 = .ok (.iload_n 1, 1) := by decide +kernel
theorem dX11_newWord_1 : decode cX11_newWord 1 = .ok (.iconst 0, 1) := by decide +kernel
theorem dX11_newWord_2 : decode cX11_newWord 2 = .ok (.iconst 2, 1) := by decide +kernel
theorem dX11_newWord_3 : decode cX11_newWord 3 = .ok (.invokestatic 139, 3) := by decide +kernel
theorem dX11_newWord_6 : decode cX11_newWord 6 = .ok (.ifCond .ne 16, 3) := by decide +kernel
theorem dX11_newWord_9 : decode cX11_newWord 9 = .ok (.iload_n 1, 1) := by decide +kernel
theorem dX11_newWord_10 : decode cX11_newWord 10 = .ok (.bipush 10, 2) := by decide +kernel
theorem dX11_newWord_12 : decode cX11_newWord 12 = .ok (.bipush 17, 2) := by decide +kernel
theorem dX11_newWord_14 : decode cX11_newWord 14 = .ok (.invokestatic 139, 3) := by decide +kernel
theorem dX11_newWord_17 : decode cX11_newWord 17 = .ok (.ifCond .ne 5, 3) := by decide +kernel
theorem dX11_newWord_20 : decode cX11_newWord 20 = .ok (.iconst (-1), 1) := by decide +kernel
theorem dX11_newWord_21 : decode cX11_newWord 21 = .ok (.ireturn, 1) := by decide +kernel
theorem dX11_newWord_22 : decode cX11_newWord 22 = .ok (.aload_n 0, 1) := by decide +kernel
theorem dX11_newWord_23 : decode cX11_newWord 23 = .ok (.invokevirtual 306, 3) := by decide +kernel
theorem dX11_newWord_26 : decode cX11_newWord 26 = .ok (.aload_n 0, 1) := by decide +kernel
theorem dX11_newWord_27 : decode cX11_newWord 27 = .ok (.iconst 0, 1) := by decide +kernel
theorem dX11_newWord_28 : decode cX11_newWord 28 = .ok (.putfield 345, 3) := by decide +kernel
theorem dX11_newWord_31 : decode cX11_newWord 31 = .ok (.aload_n 0, 1) := by decide +kernel
theorem dX11_newWord_32 : decode cX11_newWord 32 = .ok (.iconst 0, 1) := by decide +kernel
theorem dX11_newWord_33 : decode cX11_newWord 33 = .ok (.putfield 348, 3) := by decide +kernel
theorem dX11_newWord_36 : decode cX11_newWord 36 = .ok (.aload_n 0, 1) := by decide +kernel
theorem dX11_newWord_37 : decode cX11_newWord 37 = .ok (.bipush 99, 2) := by decide +kernel
theorem dX11_newWord_39 : decode cX11_newWord 39 = .ok (.putfield 339, 3) := by decide +kernel
theorem dX11_newWord_42 : decode cX11_newWord 42 = .ok (.iconst 0, 1) := by decide +kernel
theorem dX11_newWord_43 : decode cX11_newWord 43 = .ok (.istore_n 2, 1) := by decide +kernel
theorem dX11_newWord_44 : decode cX11_newWord 44 = .ok (.iload_n 2, 1) := by decide +kernel
theorem dX11_newWord_45 : decode cX11_newWord 45 = .ok (.aload_n 0, 1) := by decide +kernel
theorem dX11_newWord_46 : decode cX11_newWord 46 = .ok (.getfield 130, 3) := by decide +kernel
theorem dX11_newWord_49 : decode cX11_newWord 49 = .ok (.if_icmp .ge 28, 3) := by decide +kernel
theorem dX11_newWord_52 : decode cX11_newWord 52 = .ok (.aload_n 0, 1) := by decide +kernel
theorem dX11_newWord_53 : decode cX11_newWord 53 = .ok (.iload_n 2, 1) := by decide +kernel
theorem dX11_newWord_54 : decode cX11_newWord 54 = .ok (.invokevirtual 282, 3) := by decide +kernel
theorem dX11_newWord_57 : decode cX11_newWord 57 = .ok (.ifCond .eq 14, 3) := by decide +kernel
theorem dX11_newWord_60 : decode cX11_newWord 60 = .ok (.aload_n 0, 1) := by decide +kernel
theorem dX11_newWord_61 : decode cX11_newWord 61 = .ok (.getfield 94, 3) := by decide +kernel
theorem dX11_newWord_64 : decode cX11_newWord 64 = .ok (.iload_n 2, 1) := by decide +kernel
theorem dX11_newWord_65 : decode cX11_newWord 65 = .ok (.aload_n 0, 1) := by decide +kernel
theorem dX11_newWord_66 : decode cX11_newWord 66 = .ok (.iload_n 2, 1) := by decide +kernel
theorem dX11_newWord_67 : decode cX11_newWord 67 = .ok (.invokevirtual 326, 3) := by decide +kernel
theorem dX11_newWord_70 : decode cX11_newWord 70 = .ok (.iastore, 1) := by decide +kernel
theorem dX11_newWord_71 : decode cX11_newWord 71 = .ok (.iinc 2 1, 3) := by decide +kernel
theorem dX11_newWord_74 : decode cX11_newWord 74 = .ok (.goto (-30), 3) := by decide +kernel
theorem dX11_newWord_77 : decode cX11_newWord 77 = .ok (.iconst 0, 1) := by decide +kernel
theorem dX11_newWord_78 : decode cX11_newWord 78 = .ok (.istore_n 2, 1) := by decide +kernel
theorem dX11_newWord_79 : decode cX11_newWord 79 = .ok (.iload_n 2, 1) := by decide +kernel
theorem dX11_newWord_80 : decode cX11_newWord 80 = .ok (.aload_n 0, 1) := by decide +kernel
theorem dX11_newWord_81 : decode cX11_newWord 81 = .ok (.getfield 130, 3) := by decide +kernel
theorem dX11_newWord_84 : decode cX11_newWord 84 = .ok (.if_icmp .ge 22, 3) := by decide +kernel
theorem dX11_newWord_87 : decode cX11_newWord 87 = .ok (.aload_n 0, 1) := by decide +kernel
theorem dX11_newWord_88 : decode cX11_newWord 88 = .ok (.iload_n 2, 1) := by decide +kernel
theorem dX11_newWord_89 : decode cX11_newWord 89 = .ok (.invokevirtual 282, 3) := by decide +kernel
theorem dX11_newWord_92 : decode cX11_newWord 92 = .ok (.ifCond .eq 8, 3) := by decide +kernel
theorem dX11_newWord_95 : decode cX11_newWord 95 = .ok (.aload_n 0, 1) := by decide +kernel
theorem dX11_newWord_96 : decode cX11_newWord 96 = .ok (.iload_n 2, 1) := by decide +kernel
theorem dX11_newWord_97 : decode cX11_newWord 97 = .ok (.invokevirtual 367, 3) := by decide +kernel
theorem dX11_newWord_100 : decode cX11_newWord 100 = .ok (.iinc 2 1, 3) := by decide +kernel
theorem dX11_newWord_103 : decode cX11_newWord 103 = .ok (.goto (-24), 3) := by decide +kernel
theorem dX11_newWord_106 : decode cX11_newWord 106 = .ok (.aload_n 0, 1) := by decide +kernel
theorem dX11_newWord_107 : decode cX11_newWord 107 = .ok (.getfield 345, 3) := by decide +kernel
theorem dX11_newWord_110 : decode cX11_newWord 110 = .ok (.ifCond .ne 6, 3) := by decide +kernel
theorem dX11_newWord_113 : decode cX11_newWord 113 = .ok (.bipush (-2), 2) := by decide +kernel
theorem dX11_newWord_115 : decode cX11_newWord 115 = .ok (.ireturn, 1) := by decide +kernel
theorem dX11_newWord_116 : decode cX11_newWord 116 = .ok (.iload_n 1, 1) := by decide +kernel
theorem dX11_newWord_117 : decode cX11_newWord 117 = .ok (.ifCond .ne 10, 3) := by decide +kernel
theorem dX11_newWord_120 : decode cX11_newWord 120 = .ok (.aload_n 0, 1) := by decide +kernel
theorem dX11_newWord_121 : decode cX11_newWord 121 = .ok (.getfield 345, 3) := by decide +kernel
theorem dX11_newWord_124 : decode cX11_newWord 124 = .ok (.goto 51, 3) := by decide +kernel
theorem dX11_newWord_127 : decode cX11_newWord 127 = .ok (.iload_n 1, 1) := by decide +kernel
theorem dX11_newWord_128 : decode cX11_newWord 128 = .ok (.iconst 1, 1) := by decide +kernel
theorem dX11_newWord_129 : decode cX11_newWord 129 = .ok (.if_icmp .ne 10, 3) := by decide +kernel
theorem dX11_newWord_132 : decode cX11_newWord 132 = .ok (.aload_n 0, 1) := by decide +kernel
theorem dX11_newWord_133 : decode cX11_newWord 133 = .ok (.getfield 348, 3) := by decide +kernel
theorem dX11_newWord_136 : decode cX11_newWord 136 = .ok (.goto 39, 3) := by decide +kernel
theorem dX11_newWord_139 : decode cX11_newWord 139 = .ok (.iload_n 1, 1) := by decide +kernel
theorem dX11_newWord_140 : decode cX11_newWord 140 = .ok (.iconst 2, 1) := by decide +kernel
theorem dX11_newWord_141 : decode cX11_newWord 141 = .ok (.if_icmp .ne 10, 3) := by decide +kernel
theorem dX11_newWord_144 : decode cX11_newWord 144 = .ok (.aload_n 0, 1) := by decide +kernel
theorem dX11_newWord_145 : decode cX11_newWord 145 = .ok (.getfield 339, 3) := by decide +kernel
theorem dX11_newWord_148 : decode cX11_newWord 148 = .ok (.goto 27, 3) := by decide +kernel
theorem dX11_newWord_151 : decode cX11_newWord 151 = .ok (.iload_n 1, 1) := by decide +kernel
theorem dX11_newWord_152 : decode cX11_newWord 152 = .ok (.bipush 10, 2) := by decide +kernel
theorem dX11_newWord_154 : decode cX11_newWord 154 = .ok (.isub, 1) := by decide +kernel
theorem dX11_newWord_155 : decode cX11_newWord 155 = .ok (.aload_n 0, 1) := by decide +kernel
theorem dX11_newWord_156 : decode cX11_newWord 156 = .ok (.getfield 339, 3) := by decide +kernel
theorem dX11_newWord_159 : decode cX11_newWord 159 = .ok (.if_icmp .ge 15, 3) := by decide +kernel
theorem dX11_newWord_162 : decode cX11_newWord 162 = .ok (.aload_n 0, 1) := by decide +kernel
theorem dX11_newWord_163 : decode cX11_newWord 163 = .ok (.getfield 91, 3) := by decide +kernel
theorem dX11_newWord_166 : decode cX11_newWord 166 = .ok (.iload_n 1, 1) := by decide +kernel
theorem dX11_newWord_167 : decode cX11_newWord 167 = .ok (.bipush 10, 2) := by decide +kernel
theorem dX11_newWord_169 : decode cX11_newWord 169 = .ok (.isub, 1) := by decide +kernel
theorem dX11_newWord_170 : decode cX11_newWord 170 = .ok (.iaload, 1) := by decide +kernel
theorem dX11_newWord_171 : decode cX11_newWord 171 = .ok (.goto 4, 3) := by decide +kernel
theorem dX11_newWord_174 : decode cX11_newWord 174 = .ok (.iconst (-1), 1) := by decide +kernel
theorem dX11_newWord_175 : decode cX11_newWord 175 = .ok (.ireturn, 1) := by decide +kernel
theorem dX11_nextOn_0 : decode cX11_nextOn 0 = .ok (.iconst 0, 1) := by decide +kernel
theorem dX11_nextOn_1 : decode cX11_nextOn 1 = .ok (.istore_n 3, 1) := by decide +kernel
theorem dX11_nextOn_2 : decode cX11_nextOn 2 = .ok (.aload_n 0, 1) := by decide +kernel
theorem dX11_nextOn_3 : decode cX11_nextOn 3 = .ok (.iload_n 1, 1) := by decide +kernel
theorem dX11_nextOn_4 : decode cX11_nextOn 4 = .ok (.iload_n 3, 1) := by decide +kernel
theorem dX11_nextOn_5 : decode cX11_nextOn 5 = .ok (.invokevirtual 297, 3) := by decide +kernel
theorem dX11_nextOn_8 : decode cX11_nextOn 8 = .ok (.aload_n 0, 1) := by decide +kernel
theorem dX11_nextOn_9 : decode cX11_nextOn 9 = .ok (.getfield 81, 3) := by decide +kernel
theorem dX11_nextOn_12 : decode cX11_nextOn 12 = .ok (.bipush 40, 2) := by decide +kernel
theorem dX11_nextOn_14 : decode cX11_nextOn 14 = .ok (.iload_n 3, 1) := by decide +kernel
theorem dX11_nextOn_15 : decode cX11_nextOn 15 = .ok (.imul, 1) := by decide +kernel
theorem dX11_nextOn_16 : decode cX11_nextOn 16 = .ok (.iload_n 2, 1) := by decide +kernel
theorem dX11_nextOn_17 : decode cX11_nextOn 17 = .ok (.iadd, 1) := by decide +kernel
theorem dX11_nextOn_18 : decode cX11_nextOn 18 = .ok (.iaload, 1) := by decide +kernel
theorem dX11_nextOn_19 : decode cX11_nextOn 19 = .ok (.invokestatic 300, 3) := by decide +kernel
theorem dX11_nextOn_22 : decode cX11_nextOn 22 = .ok (.aload_n 0, 1) := by decide +kernel
theorem dX11_nextOn_23 : decode cX11_nextOn 23 = .ok (.getfield 81, 3) := by decide +kernel
theorem dX11_nextOn_26 : decode cX11_nextOn 26 = .ok (.bipush 40, 2) := by decide +kernel
theorem dX11_nextOn_28 : decode cX11_nextOn 28 = .ok (.iload_n 1, 1) := by decide +kernel
theorem dX11_nextOn_29 : decode cX11_nextOn 29 = .ok (.imul, 1) := by decide +kernel
theorem dX11_nextOn_30 : decode cX11_nextOn 30 = .ok (.iload_n 2, 1) := by decide +kernel
theorem dX11_nextOn_31 : decode cX11_nextOn 31 = .ok (.iadd, 1) := by decide +kernel
theorem dX11_nextOn_32 : decode cX11_nextOn 32 = .ok (.iaload, 1) := by decide +kernel
theorem dX11_nextOn_33 : decode cX11_nextOn 33 = .ok (.if_icmp .eq 10, 3) := by decide +kernel
theorem dX11_nextOn_36 : decode cX11_nextOn 36 = .ok (.iload_n 3, 1) := by decide +kernel
theorem dX11_nextOn_37 : decode cX11_nextOn 37 = .ok (.iconst 1, 1) := by decide +kernel
theorem dX11_nextOn_38 : decode cX11_nextOn 38 = .ok (.iadd, 1) := by decide +kernel
theorem dX11_nextOn_39 : decode cX11_nextOn 39 = .ok (.istore_n 3, 1) := by decide +kernel
theorem dX11_nextOn_40 : decode cX11_nextOn 40 = .ok (.goto (-38), 3) := by decide +kernel
theorem dX11_nextOn_43 : decode cX11_nextOn 43 = .ok (.iload_n 3, 1) := by decide +kernel
theorem dX11_nextOn_44 : decode cX11_nextOn 44 = .ok (.ireturn, 1) := by decide +kernel
theorem dX11_notes_0 : decode cX11_notes 0 = .ok (.aload_n 0, 1) := by decide +kernel
theorem dX11_notes_1 : decode cX11_notes 1 = .ok (.getfield 33, 3) := by decide +kernel
theorem dX11_notes_4 : decode cX11_notes 4 = .ok (.aload_n 0, 1) := by decide +kernel
theorem dX11_notes_5 : decode cX11_notes 5 = .ok (.getfield 184, 3) := by decide +kernel
theorem dX11_notes_8 : decode cX11_notes 8 = .ok (.ldc 187, 2) := by decide +kernel
theorem dX11_notes_10 : decode cX11_notes 10 = .ok (.iload_n 1, 1) := by decide +kernel
theorem dX11_notes_11 : decode cX11_notes 11 = .ok (.imul, 1) := by decide +kernel
theorem dX11_notes_12 : decode cX11_notes 12 = .ok (.iload_n 2, 1) := by decide +kernel
theorem dX11_notes_13 : decode cX11_notes 13 = .ok (.iadd, 1) := by decide +kernel
theorem dX11_notes_14 : decode cX11_notes 14 = .ok (.iastore, 1) := by decide +kernel
theorem dX11_notes_15 : decode cX11_notes 15 = .ok (.aload_n 0, 1) := by decide +kernel
theorem dX11_notes_16 : decode cX11_notes 16 = .ok (.aload_n 0, 1) := by decide +kernel
theorem dX11_notes_17 : decode cX11_notes 17 = .ok (.getfield 184, 3) := by decide +kernel
theorem dX11_notes_20 : decode cX11_notes 20 = .ok (.iconst 1, 1) := by decide +kernel
theorem dX11_notes_21 : decode cX11_notes 21 = .ok (.iadd, 1) := by decide +kernel
theorem dX11_notes_22 : decode cX11_notes 22 = .ok (.putfield 184, 3) := by decide +kernel
theorem dX11_notes_25 : decode cX11_notes 25 = .ok (.return_, 1) := by decide +kernel
theorem dX11_off_0 : decode cX11_off 0 = .ok (.aload_n 0, 1) := by decide +kernel
theorem dX11_off_1 : decode cX11_off 1 = .ok (.getfield 130, 3) := by decide +kernel
theorem dX11_off_4 : decode cX11_off 4 = .ok (.ifCond .ne 5, 3) := by decide +kernel
theorem dX11_off_7 : decode cX11_off 7 = .ok (.iconst (-1), 1) := by decide +kernel
theorem dX11_off_8 : decode cX11_off 8 = .ok (.ireturn, 1) := by decide +kernel
theorem dX11_off_9 : decode cX11_off 9 = .ok (.aload_n 0, 1) := by decide +kernel
theorem dX11_off_10 : decode cX11_off 10 = .ok (.aload_n 0, 1) := by decide +kernel
theorem dX11_off_11 : decode cX11_off 11 = .ok (.getfield 130, 3) := by decide +kernel
theorem dX11_off_14 : decode cX11_off 14 = .ok (.iconst 1, 1) := by decide +kernel
theorem dX11_off_15 : decode cX11_off 15 = .ok (.isub, 1) := by decide +kernel
theorem dX11_off_16 : decode cX11_off 16 = .ok (.putfield 130, 3) := by decide +kernel
theorem dX11_off_19 : decode cX11_off 19 = .ok (.aload_n 0, 1) := by decide +kernel
theorem dX11_off_20 : decode cX11_off 20 = .ok (.getfield 7, 3) := by decide +kernel
theorem dX11_off_23 : decode cX11_off 23 = .ok (.aload_n 0, 1) := by decide +kernel
theorem dX11_off_24 : decode cX11_off 24 = .ok (.getfield 130, 3) := by decide +kernel
theorem dX11_off_27 : decode cX11_off 27 = .ok (.iaload, 1) := by decide +kernel
theorem dX11_off_28 : decode cX11_off 28 = .ok (.ireturn, 1) := by decide +kernel
theorem dX11_opens_0 : decode cX11_opens 0 = .ok (.aload_n 0, 1) := by decide +kernel
theorem dX11_opens_1 : decode cX11_opens 1 = .ok (.getfield 188, 3) := by decide +kernel
theorem dX11_opens_4 : decode cX11_opens 4 = .ok (.bipush 6, 2) := by decide +kernel
theorem dX11_opens_6 : decode cX11_opens 6 = .ok (.if_icmp .ne 13, 3) := by decide +kernel
theorem dX11_opens_9 : decode cX11_opens 9 = .ok (.aload_n 0, 1) := by decide +kernel
theorem dX11_opens_10 : decode cX11_opens 10 = .ok (.iconst 5, 1) := by decide +kernel
theorem dX11_opens_11 : decode cX11_opens 11 = .ok (.aload_n 0, 1) := by decide +kernel
theorem dX11_opens_12 : decode cX11_opens 12 = .ok (.getfield 161, 3) := by decide +kernel
theorem dX11_opens_15 : decode cX11_opens 15 = .ok (.invokevirtual 174, 3) := by decide +kernel
theorem dX11_opens_18 : decode cX11_opens 18 = .ok (.ireturn, 1) := by decide +kernel
theorem dX11_opens_19 : decode cX11_opens 19 = .ok (.aload_n 0, 1) := by decide +kernel
theorem dX11_opens_20 : decode cX11_opens 20 = .ok (.aload_n 0, 1) := by decide +kernel
theorem dX11_opens_21 : decode cX11_opens 21 = .ok (.getfield 188, 3) := by decide +kernel
theorem dX11_opens_24 : decode cX11_opens 24 = .ok (.iconst 1, 1) := by decide +kernel
theorem dX11_opens_25 : decode cX11_opens 25 = .ok (.iadd, 1) := by decide +kernel
theorem dX11_opens_26 : decode cX11_opens 26 = .ok (.putfield 188, 3) := by decide +kernel
theorem dX11_opens_29 : decode cX11_opens 29 = .ok (.aload_n 0, 1) := by decide +kernel
theorem dX11_opens_30 : decode cX11_opens 30 = .ok (.getfield 36, 3) := by decide +kernel
theorem dX11_opens_33 : decode cX11_opens 33 = .ok (.aload_n 0, 1) := by decide +kernel
theorem dX11_opens_34 : decode cX11_opens 34 = .ok (.getfield 191, 3) := by decide +kernel
theorem dX11_opens_37 : decode cX11_opens 37 = .ok (.ldc 187, 2) := by decide +kernel
theorem dX11_opens_39 : decode cX11_opens 39 = .ok (.iload_n 1, 1) := by decide +kernel
theorem dX11_opens_40 : decode cX11_opens 40 = .ok (.imul, 1) := by decide +kernel
theorem dX11_opens_41 : decode cX11_opens 41 = .ok (.iastore, 1) := by decide +kernel
theorem dX11_opens_42 : decode cX11_opens 42 = .ok (.aload_n 0, 1) := by decide +kernel
theorem dX11_opens_43 : decode cX11_opens 43 = .ok (.aload_n 0, 1) := by decide +kernel
theorem dX11_opens_44 : decode cX11_opens 44 = .ok (.getfield 191, 3) := by decide +kernel
theorem dX11_opens_47 : decode cX11_opens 47 = .ok (.iconst 1, 1) := by decide +kernel
theorem dX11_opens_48 : decode cX11_opens 48 = .ok (.iadd, 1) := by decide +kernel
theorem dX11_opens_49 : decode cX11_opens 49 = .ok (.putfield 191, 3) := by decide +kernel
theorem dX11_opens_52 : decode cX11_opens 52 = .ok (.aload_n 0, 1) := by decide +kernel
theorem dX11_opens_53 : decode cX11_opens 53 = .ok (.aload_n 0, 1) := by decide +kernel
theorem dX11_opens_54 : decode cX11_opens 54 = .ok (.getfield 161, 3) := by decide +kernel
theorem dX11_opens_57 : decode cX11_opens 57 = .ok (.iconst 1, 1) := by decide +kernel
theorem dX11_opens_58 : decode cX11_opens 58 = .ok (.iadd, 1) := by decide +kernel
theorem dX11_opens_59 : decode cX11_opens 59 = .ok (.putfield 161, 3) := by decide +kernel
theorem dX11_opens_62 : decode cX11_opens 62 = .ok (.iconst 1, 1) := by decide +kernel
theorem dX11_opens_63 : decode cX11_opens 63 = .ok (.ireturn, 1) := by decide +kernel
theorem dX11_putsIn_0 : decode cX11_putsIn 0 = .ok (.aload_n 0, 1) := by decide +kernel
theorem dX11_putsIn_1 : decode cX11_putsIn 1 = .ok (.aload_n 0, 1) := by decide +kernel
theorem dX11_putsIn_2 : decode cX11_putsIn 2 = .ok (.getfield 7, 3) := by decide +kernel
theorem dX11_putsIn_5 : decode cX11_putsIn 5 = .ok (.iload_n 1, 1) := by decide +kernel
theorem dX11_putsIn_6 : decode cX11_putsIn 6 = .ok (.iaload, 1) := by decide +kernel
theorem dX11_putsIn_7 : decode cX11_putsIn 7 = .ok (.iconst 1, 1) := by decide +kernel
theorem dX11_putsIn_8 : decode cX11_putsIn 8 = .ok (.iadd, 1) := by decide +kernel
theorem dX11_putsIn_9 : decode cX11_putsIn 9 = .ok (.putfield 136, 3) := by decide +kernel
theorem dX11_putsIn_12 : decode cX11_putsIn 12 = .ok (.iconst 0, 1) := by decide +kernel
theorem dX11_putsIn_13 : decode cX11_putsIn 13 = .ok (.istore 4, 2) := by decide +kernel
theorem dX11_putsIn_15 : decode cX11_putsIn 15 = .ok (.iload 4, 2) := by decide +kernel
theorem dX11_putsIn_17 : decode cX11_putsIn 17 = .ok (.aload_n 0, 1) := by decide +kernel
theorem dX11_putsIn_18 : decode cX11_putsIn 18 = .ok (.getfield 136, 3) := by decide +kernel
theorem dX11_putsIn_21 : decode cX11_putsIn 21 = .ok (.if_icmp .ge 51, 3) := by decide +kernel
theorem dX11_putsIn_24 : decode cX11_putsIn 24 = .ok (.aload_n 0, 1) := by decide +kernel
theorem dX11_putsIn_25 : decode cX11_putsIn 25 = .ok (.getfield 26, 3) := by decide +kernel
theorem dX11_putsIn_28 : decode cX11_putsIn 28 = .ok (.iload 4, 2) := by decide +kernel
theorem dX11_putsIn_30 : decode cX11_putsIn 30 = .ok (.iload 4, 2) := by decide +kernel
theorem dX11_putsIn_32 : decode cX11_putsIn 32 = .ok (.iload_n 2, 1) := by decide +kernel
theorem dX11_putsIn_33 : decode cX11_putsIn 33 = .ok (.if_icmp .ge 13, 3) := by decide +kernel
theorem dX11_putsIn_36 : decode cX11_putsIn 36 = .ok (.aload_n 0, 1) := by decide +kernel
theorem dX11_putsIn_37 : decode cX11_putsIn 37 = .ok (.iload_n 1, 1) := by decide +kernel
theorem dX11_putsIn_38 : decode cX11_putsIn 38 = .ok (.iload 4, 2) := by decide +kernel
theorem dX11_putsIn_40 : decode cX11_putsIn 40 = .ok (.invokevirtual 262, 3) := by decide +kernel
theorem dX11_putsIn_43 : decode cX11_putsIn 43 = .ok (.goto 22, 3) := by decide +kernel
theorem dX11_putsIn_46 : decode cX11_putsIn 46 = .ok (.iload 4, 2) := by decide +kernel
theorem dX11_putsIn_48 : decode cX11_putsIn 48 = .ok (.iload_n 2, 1) := by decide +kernel
theorem dX11_putsIn_49 : decode cX11_putsIn 49 = .ok (.if_icmp .ne 7, 3) := by decide +kernel
theorem dX11_putsIn_52 : decode cX11_putsIn 52 = .ok (.iload_n 3, 1) := by decide +kernel
theorem dX11_putsIn_53 : decode cX11_putsIn 53 = .ok (.goto 12, 3) := by decide +kernel
theorem dX11_putsIn_56 : decode cX11_putsIn 56 = .ok (.aload_n 0, 1) := by decide +kernel
theorem dX11_putsIn_57 : decode cX11_putsIn 57 = .ok (.iload_n 1, 1) := by decide +kernel
theorem dX11_putsIn_58 : decode cX11_putsIn 58 = .ok (.iload 4, 2) := by decide +kernel
theorem dX11_putsIn_60 : decode cX11_putsIn 60 = .ok (.iconst 1, 1) := by decide +kernel
theorem dX11_putsIn_61 : decode cX11_putsIn 61 = .ok (.isub, 1) := by decide +kernel
theorem dX11_putsIn_62 : decode cX11_putsIn 62 = .ok (.invokevirtual 262, 3) := by decide +kernel
theorem dX11_putsIn_65 : decode cX11_putsIn 65 = .ok (.iastore, 1) := by decide +kernel
theorem dX11_putsIn_66 : decode cX11_putsIn 66 = .ok (.iinc 4 1, 3) := by decide +kernel
theorem dX11_putsIn_69 : decode cX11_putsIn 69 = .ok (.goto (-54), 3) := by decide +kernel
theorem dX11_putsIn_72 : decode cX11_putsIn 72 = .ok (.return_, 1) := by decide +kernel
theorem dX11_readsClause_0 : decode cX11_readsClause 0 = .ok (.aload_n 0, 1) := by decide +kernel
theorem dX11_readsClause_1 : decode cX11_readsClause 1 = .ok (.invokevirtual 167, 3) := by decide +kernel
theorem dX11_readsClause_4 : decode cX11_readsClause 4 = .ok (.istore_n 1, 1) := by decide +kernel
theorem dX11_readsClause_5 : decode cX11_readsClause 5 = .ok (.iload_n 1, 1) := by decide +kernel
theorem dX11_readsClause_6 : decode cX11_readsClause 6 = .ok (.bipush 110, 2) := by decide +kernel
theorem dX11_readsClause_8 : decode cX11_readsClause 8 = .ok (.if_icmp .eq 19, 3) := by decide +kernel
theorem dX11_readsClause_11 : decode cX11_readsClause 11 = .ok (.iload_n 1, 1) := by decide +kernel
theorem dX11_readsClause_12 : decode cX11_readsClause 12 = .ok (.bipush 99, 2) := by decide +kernel
theorem dX11_readsClause_14 : decode cX11_readsClause 14 = .ok (.if_icmp .eq 13, 3) := by decide +kernel
theorem dX11_readsClause_17 : decode cX11_readsClause 17 = .ok (.aload_n 0, 1) := by decide +kernel
theorem dX11_readsClause_18 : decode cX11_readsClause 18 = .ok (.iconst 1, 1) := by decide +kernel
theorem dX11_readsClause_19 : decode cX11_readsClause 19 = .ok (.aload_n 0, 1) := by decide +kernel
theorem dX11_readsClause_20 : decode cX11_readsClause 20 = .ok (.getfield 161, 3) := by decide +kernel
theorem dX11_readsClause_23 : decode cX11_readsClause 23 = .ok (.invokevirtual 174, 3) := by decide +kernel
theorem dX11_readsClause_26 : decode cX11_readsClause 26 = .ok (.ireturn, 1) := by decide +kernel
theorem dX11_readsClause_27 : decode cX11_readsClause 27 = .ok (.aload_n 0, 1) := by decide +kernel
theorem dX11_readsClause_28 : decode cX11_readsClause 28 = .ok (.getfield 239, 3) := by decide +kernel
theorem dX11_readsClause_31 : decode cX11_readsClause 31 = .ok (.bipush 12, 2) := by decide +kernel
theorem dX11_readsClause_33 : decode cX11_readsClause 33 = .ok (.if_icmp .ne 13, 3) := by decide +kernel
theorem dX11_readsClause_36 : decode cX11_readsClause 36 = .ok (.aload_n 0, 1) := by decide +kernel
theorem dX11_readsClause_37 : decode cX11_readsClause 37 = .ok (.iconst 4, 1) := by decide +kernel
theorem dX11_readsClause_38 : decode cX11_readsClause 38 = .ok (.aload_n 0, 1) := by decide +kernel
theorem dX11_readsClause_39 : decode cX11_readsClause 39 = .ok (.getfield 161, 3) := by decide +kernel
theorem dX11_readsClause_42 : decode cX11_readsClause 42 = .ok (.invokevirtual 174, 3) := by decide +kernel
theorem dX11_readsClause_45 : decode cX11_readsClause 45 = .ok (.ireturn, 1) := by decide +kernel
theorem dX11_readsClause_46 : decode cX11_readsClause 46 = .ok (.aload_n 0, 1) := by decide +kernel
theorem dX11_readsClause_47 : decode cX11_readsClause 47 = .ok (.getfield 39, 3) := by decide +kernel
theorem dX11_readsClause_50 : decode cX11_readsClause 50 = .ok (.aload_n 0, 1) := by decide +kernel
theorem dX11_readsClause_51 : decode cX11_readsClause 51 = .ok (.getfield 239, 3) := by decide +kernel
theorem dX11_readsClause_54 : decode cX11_readsClause 54 = .ok (.iload_n 1, 1) := by decide +kernel
theorem dX11_readsClause_55 : decode cX11_readsClause 55 = .ok (.iastore, 1) := by decide +kernel
theorem dX11_readsClause_56 : decode cX11_readsClause 56 = .ok (.aload_n 0, 1) := by decide +kernel
theorem dX11_readsClause_57 : decode cX11_readsClause 57 = .ok (.aload_n 0, 1) := by decide +kernel
theorem dX11_readsClause_58 : decode cX11_readsClause 58 = .ok (.getfield 161, 3) := by decide +kernel
theorem dX11_readsClause_61 : decode cX11_readsClause 61 = .ok (.iconst 1, 1) := by decide +kernel
theorem dX11_readsClause_62 : decode cX11_readsClause 62 = .ok (.iadd, 1) := by decide +kernel
theorem dX11_readsClause_63 : decode cX11_readsClause 63 = .ok (.putfield 161, 3) := by decide +kernel
theorem dX11_readsClause_66 : decode cX11_readsClause 66 = .ok (.aload_n 0, 1) := by decide +kernel
theorem dX11_readsClause_67 : decode cX11_readsClause 67 = .ok (.getfield 42, 3) := by decide +kernel
theorem dX11_readsClause_70 : decode cX11_readsClause 70 = .ok (.aload_n 0, 1) := by decide +kernel
theorem dX11_readsClause_71 : decode cX11_readsClause 71 = .ok (.getfield 239, 3) := by decide +kernel
theorem dX11_readsClause_74 : decode cX11_readsClause 74 = .ok (.aload_n 0, 1) := by decide +kernel
theorem dX11_readsClause_75 : decode cX11_readsClause 75 = .ok (.getfield 184, 3) := by decide +kernel
theorem dX11_readsClause_78 : decode cX11_readsClause 78 = .ok (.iastore, 1) := by decide +kernel
theorem dX11_readsClause_79 : decode cX11_readsClause 79 = .ok (.aload_n 0, 1) := by decide +kernel
theorem dX11_readsClause_80 : decode cX11_readsClause 80 = .ok (.iconst 0, 1) := by decide +kernel
theorem dX11_readsClause_81 : decode cX11_readsClause 81 = .ok (.putfield 188, 3) := by decide +kernel
theorem dX11_readsClause_84 : decode cX11_readsClause 84 = .ok (.aload_n 0, 1) := by decide +kernel
theorem dX11_readsClause_85 : decode cX11_readsClause 85 = .ok (.iconst 0, 1) := by decide +kernel
theorem dX11_readsClause_86 : decode cX11_readsClause 86 = .ok (.putfield 191, 3) := by decide +kernel
theorem dX11_readsClause_89 : decode cX11_readsClause 89 = .ok (.iload_n 1, 1) := by decide +kernel
theorem dX11_readsClause_90 : decode cX11_readsClause 90 = .ok (.bipush 99, 2) := by decide +kernel
theorem dX11_readsClause_92 : decode cX11_readsClause 92 = .ok (.if_icmp .ne 12, 3) := by decide +kernel
theorem dX11_readsClause_95 : decode cX11_readsClause 95 = .ok (.aload_n 0, 1) := by decide +kernel
theorem dX11_readsClause_96 : decode cX11_readsClause 96 = .ok (.invokevirtual 224, 3) := by decide +kernel
theorem dX11_readsClause_99 : decode cX11_readsClause 99 = .ok (.ifCond .ne 5, 3) := by decide +kernel
theorem dX11_readsClause_102 : decode cX11_readsClause 102 = .ok (.iconst 0, 1) := by decide +kernel
theorem dX11_readsClause_103 : decode cX11_readsClause 103 = .ok (.ireturn, 1) := by decide +kernel
theorem dX11_readsClause_104 : decode cX11_readsClause 104 = .ok (.aload_n 0, 1) := by decide +kernel
theorem dX11_readsClause_105 : decode cX11_readsClause 105 = .ok (.getfield 45, 3) := by decide +kernel
theorem dX11_readsClause_108 : decode cX11_readsClause 108 = .ok (.aload_n 0, 1) := by decide +kernel
theorem dX11_readsClause_109 : decode cX11_readsClause 109 = .ok (.getfield 239, 3) := by decide +kernel
theorem dX11_readsClause_112 : decode cX11_readsClause 112 = .ok (.aload_n 0, 1) := by decide +kernel
theorem dX11_readsClause_113 : decode cX11_readsClause 113 = .ok (.getfield 184, 3) := by decide +kernel
theorem dX11_readsClause_116 : decode cX11_readsClause 116 = .ok (.iastore, 1) := by decide +kernel
theorem dX11_readsClause_117 : decode cX11_readsClause 117 = .ok (.aload_n 0, 1) := by decide +kernel
theorem dX11_readsClause_118 : decode cX11_readsClause 118 = .ok (.invokevirtual 242, 3) := by decide +kernel
theorem dX11_readsClause_121 : decode cX11_readsClause 121 = .ok (.ifCond .ne 5, 3) := by decide +kernel
theorem dX11_readsClause_124 : decode cX11_readsClause 124 = .ok (.iconst 0, 1) := by decide +kernel
theorem dX11_readsClause_125 : decode cX11_readsClause 125 = .ok (.ireturn, 1) := by decide +kernel
theorem dX11_readsClause_126 : decode cX11_readsClause 126 = .ok (.aload_n 0, 1) := by decide +kernel
theorem dX11_readsClause_127 : decode cX11_readsClause 127 = .ok (.getfield 48, 3) := by decide +kernel
theorem dX11_readsClause_130 : decode cX11_readsClause 130 = .ok (.aload_n 0, 1) := by decide +kernel
theorem dX11_readsClause_131 : decode cX11_readsClause 131 = .ok (.getfield 239, 3) := by decide +kernel
theorem dX11_readsClause_134 : decode cX11_readsClause 134 = .ok (.aload_n 0, 1) := by decide +kernel
theorem dX11_readsClause_135 : decode cX11_readsClause 135 = .ok (.getfield 184, 3) := by decide +kernel
theorem dX11_readsClause_138 : decode cX11_readsClause 138 = .ok (.iastore, 1) := by decide +kernel
theorem dX11_readsClause_139 : decode cX11_readsClause 139 = .ok (.aload_n 0, 1) := by decide +kernel
theorem dX11_readsClause_140 : decode cX11_readsClause 140 = .ok (.aload_n 0, 1) := by decide +kernel
theorem dX11_readsClause_141 : decode cX11_readsClause 141 = .ok (.getfield 239, 3) := by decide +kernel
theorem dX11_readsClause_144 : decode cX11_readsClause 144 = .ok (.iconst 1, 1) := by decide +kernel
theorem dX11_readsClause_145 : decode cX11_readsClause 145 = .ok (.iadd, 1) := by decide +kernel
theorem dX11_readsClause_146 : decode cX11_readsClause 146 = .ok (.putfield 239, 3) := by decide +kernel
theorem dX11_readsClause_149 : decode cX11_readsClause 149 = .ok (.iconst 1, 1) := by decide +kernel
theorem dX11_readsClause_150 : decode cX11_readsClause 150 = .ok (.ireturn, 1) := by decide +kernel
theorem dX11_readsCompared_0 : decode cX11_readsCompared 0 = .ok (.aload_n 0, 1) := by decide +kernel
theorem dX11_readsCompared_1 : decode cX11_readsCompared 1 = .ok (.invokevirtual 224, 3) := by decide +kernel
theorem dX11_readsCompared_4 : decode cX11_readsCompared 4 = .ok (.ifCond .ne 5, 3) := by decide +kernel
theorem dX11_readsCompared_7 : decode cX11_readsCompared 7 = .ok (.iconst 0, 1) := by decide +kernel
theorem dX11_readsCompared_8 : decode cX11_readsCompared 8 = .ok (.ireturn, 1) := by decide +kernel
theorem dX11_readsCompared_9 : decode cX11_readsCompared 9 = .ok (.aload_n 0, 1) := by decide +kernel
theorem dX11_readsCompared_10 : decode cX11_readsCompared 10 = .ok (.invokevirtual 167, 3) := by decide +kernel
theorem dX11_readsCompared_13 : decode cX11_readsCompared 13 = .ok (.bipush 60, 2) := by decide +kernel
theorem dX11_readsCompared_15 : decode cX11_readsCompared 15 = .ok (.if_icmp .ne 8, 3) := by decide +kernel
theorem dX11_readsCompared_18 : decode cX11_readsCompared 18 = .ok (.bipush 7, 2) := by decide +kernel
theorem dX11_readsCompared_20 : decode cX11_readsCompared 20 = .ok (.goto 32, 3) := by decide +kernel
theorem dX11_readsCompared_23 : decode cX11_readsCompared 23 = .ok (.aload_n 0, 1) := by decide +kernel
theorem dX11_readsCompared_24 : decode cX11_readsCompared 24 = .ok (.invokevirtual 167, 3) := by decide +kernel
theorem dX11_readsCompared_27 : decode cX11_readsCompared 27 = .ok (.bipush 62, 2) := by decide +kernel
theorem dX11_readsCompared_29 : decode cX11_readsCompared 29 = .ok (.if_icmp .ne 8, 3) := by decide +kernel
theorem dX11_readsCompared_32 : decode cX11_readsCompared 32 = .ok (.bipush 8, 2) := by decide +kernel
theorem dX11_readsCompared_34 : decode cX11_readsCompared 34 = .ok (.goto 18, 3) := by decide +kernel
theorem dX11_readsCompared_37 : decode cX11_readsCompared 37 = .ok (.aload_n 0, 1) := by decide +kernel
theorem dX11_readsCompared_38 : decode cX11_readsCompared 38 = .ok (.invokevirtual 167, 3) := by decide +kernel
theorem dX11_readsCompared_41 : decode cX11_readsCompared 41 = .ok (.bipush 61, 2) := by decide +kernel
theorem dX11_readsCompared_43 : decode cX11_readsCompared 43 = .ok (.if_icmp .ne 8, 3) := by decide +kernel
theorem dX11_readsCompared_46 : decode cX11_readsCompared 46 = .ok (.bipush 9, 2) := by decide +kernel
theorem dX11_readsCompared_48 : decode cX11_readsCompared 48 = .ok (.goto 4, 3) := by decide +kernel
theorem dX11_readsCompared_51 : decode cX11_readsCompared 51 = .ok (.iconst (-1), 1) := by decide +kernel
theorem dX11_readsCompared_52 : decode cX11_readsCompared 52 = .ok (.istore_n 1, 1) := by decide +kernel
theorem dX11_readsCompared_53 : decode cX11_readsCompared 53 = .ok (.iload_n 1, 1) := by decide +kernel
theorem dX11_readsCompared_54 : decode cX11_readsCompared 54 = .ok (.iconst (-1), 1) := by decide +kernel
theorem dX11_readsCompared_55 : decode cX11_readsCompared 55 = .ok (.if_icmp .ne 13, 3) := by decide +kernel
theorem dX11_readsCompared_58 : decode cX11_readsCompared 58 = .ok (.aload_n 0, 1) := by decide +kernel
theorem dX11_readsCompared_59 : decode cX11_readsCompared 59 = .ok (.iconst 1, 1) := by decide +kernel
theorem dX11_readsCompared_60 : decode cX11_readsCompared 60 = .ok (.aload_n 0, 1) := by decide +kernel
theorem dX11_readsCompared_61 : decode cX11_readsCompared 61 = .ok (.getfield 161, 3) := by decide +kernel
theorem dX11_readsCompared_64 : decode cX11_readsCompared 64 = .ok (.invokevirtual 174, 3) := by decide +kernel
theorem dX11_readsCompared_67 : decode cX11_readsCompared 67 = .ok (.ireturn, 1) := by decide +kernel
theorem dX11_readsCompared_68 : decode cX11_readsCompared 68 = .ok (.aload_n 0, 1) := by decide +kernel
theorem dX11_readsCompared_69 : decode cX11_readsCompared 69 = .ok (.aload_n 0, 1) := by decide +kernel
theorem dX11_readsCompared_70 : decode cX11_readsCompared 70 = .ok (.getfield 161, 3) := by decide +kernel
theorem dX11_readsCompared_73 : decode cX11_readsCompared 73 = .ok (.iconst 1, 1) := by decide +kernel
theorem dX11_readsCompared_74 : decode cX11_readsCompared 74 = .ok (.iadd, 1) := by decide +kernel
theorem dX11_readsCompared_75 : decode cX11_readsCompared 75 = .ok (.putfield 161, 3) := by decide +kernel
theorem dX11_readsCompared_78 : decode cX11_readsCompared 78 = .ok (.aload_n 0, 1) := by decide +kernel
theorem dX11_readsCompared_79 : decode cX11_readsCompared 79 = .ok (.invokevirtual 224, 3) := by decide +kernel
theorem dX11_readsCompared_82 : decode cX11_readsCompared 82 = .ok (.ifCond .ne 5, 3) := by decide +kernel
theorem dX11_readsCompared_85 : decode cX11_readsCompared 85 = .ok (.iconst 0, 1) := by decide +kernel
theorem dX11_readsCompared_86 : decode cX11_readsCompared 86 = .ok (.ireturn, 1) := by decide +kernel
theorem dX11_readsCompared_87 : decode cX11_readsCompared 87 = .ok (.aload_n 0, 1) := by decide +kernel
theorem dX11_readsCompared_88 : decode cX11_readsCompared 88 = .ok (.iload_n 1, 1) := by decide +kernel
theorem dX11_readsCompared_89 : decode cX11_readsCompared 89 = .ok (.iconst 0, 1) := by decide +kernel
theorem dX11_readsCompared_90 : decode cX11_readsCompared 90 = .ok (.invokevirtual 197, 3) := by decide +kernel
theorem dX11_readsCompared_93 : decode cX11_readsCompared 93 = .ok (.aload_n 0, 1) := by decide +kernel
theorem dX11_readsCompared_94 : decode cX11_readsCompared 94 = .ok (.invokevirtual 227, 3) := by decide +kernel
theorem dX11_readsCompared_97 : decode cX11_readsCompared 97 = .ok (.iconst 1, 1) := by decide +kernel
theorem dX11_readsCompared_98 : decode cX11_readsCompared 98 = .ok (.ireturn, 1) := by decide +kernel
theorem dX11_readsCondition_0 : decode cX11_readsCondition 0 = .ok (.aload_n 0, 1) := by decide +kernel
theorem dX11_readsCondition_1 : decode cX11_readsCondition 1 = .ok (.invokevirtual 167, 3) := by decide +kernel
theorem dX11_readsCondition_4 : decode cX11_readsCondition 4 = .ok (.bipush 40, 2) := by decide +kernel
theorem dX11_readsCondition_6 : decode cX11_readsCondition 6 = .ok (.if_icmp .eq 13, 3) := by decide +kernel
theorem dX11_readsCondition_9 : decode cX11_readsCondition 9 = .ok (.aload_n 0, 1) := by decide +kernel
theorem dX11_readsCondition_10 : decode cX11_readsCondition 10 = .ok (.iconst 1, 1) := by decide +kernel
theorem dX11_readsCondition_11 : decode cX11_readsCondition 11 = .ok (.aload_n 0, 1) := by decide +kernel
theorem dX11_readsCondition_12 : decode cX11_readsCondition 12 = .ok (.getfield 161, 3) := by decide +kernel
theorem dX11_readsCondition_15 : decode cX11_readsCondition 15 = .ok (.invokevirtual 174, 3) := by decide +kernel
theorem dX11_readsCondition_18 : decode cX11_readsCondition 18 = .ok (.ireturn, 1) := by decide +kernel
theorem dX11_readsCondition_19 : decode cX11_readsCondition 19 = .ok (.aload_n 0, 1) := by decide +kernel
theorem dX11_readsCondition_20 : decode cX11_readsCondition 20 = .ok (.iconst 0, 1) := by decide +kernel
theorem dX11_readsCondition_21 : decode cX11_readsCondition 21 = .ok (.putfield 188, 3) := by decide +kernel
theorem dX11_readsCondition_24 : decode cX11_readsCondition 24 = .ok (.aload_n 0, 1) := by decide +kernel
theorem dX11_readsCondition_25 : decode cX11_readsCondition 25 = .ok (.iconst 0, 1) := by decide +kernel
theorem dX11_readsCondition_26 : decode cX11_readsCondition 26 = .ok (.putfield 191, 3) := by decide +kernel
theorem dX11_readsCondition_29 : decode cX11_readsCondition 29 = .ok (.aload_n 0, 1) := by decide +kernel
theorem dX11_readsCondition_30 : decode cX11_readsCondition 30 = .ok (.bipush 13, 2) := by decide +kernel
theorem dX11_readsCondition_32 : decode cX11_readsCondition 32 = .ok (.invokevirtual 201, 3) := by decide +kernel
theorem dX11_readsCondition_35 : decode cX11_readsCondition 35 = .ok (.ifCond .ne 5, 3) := by decide +kernel
theorem dX11_readsCondition_38 : decode cX11_readsCondition 38 = .ok (.iconst 0, 1) := by decide +kernel
theorem dX11_readsCondition_39 : decode cX11_readsCondition 39 = .ok (.ireturn, 1) := by decide +kernel
theorem dX11_readsCondition_40 : decode cX11_readsCondition 40 = .ok (.aload_n 0, 1) := by decide +kernel
theorem dX11_readsCondition_41 : decode cX11_readsCondition 41 = .ok (.invokevirtual 167, 3) := by decide +kernel
theorem dX11_readsCondition_44 : decode cX11_readsCondition 44 = .ok (.bipush 33, 2) := by decide +kernel
theorem dX11_readsCondition_46 : decode cX11_readsCondition 46 = .ok (.if_icmp .eq 12, 3) := by decide +kernel
theorem dX11_readsCondition_49 : decode cX11_readsCondition 49 = .ok (.aload_n 0, 1) := by decide +kernel
theorem dX11_readsCondition_50 : decode cX11_readsCondition 50 = .ok (.invokevirtual 167, 3) := by decide +kernel
theorem dX11_readsCondition_53 : decode cX11_readsCondition 53 = .ok (.bipush 40, 2) := by decide +kernel
theorem dX11_readsCondition_55 : decode cX11_readsCondition 55 = .ok (.if_icmp .ne 28, 3) := by decide +kernel
theorem dX11_readsCondition_58 : decode cX11_readsCondition 58 = .ok (.aload_n 0, 1) := by decide +kernel
theorem dX11_readsCondition_59 : decode cX11_readsCondition 59 = .ok (.aload_n 0, 1) := by decide +kernel
theorem dX11_readsCondition_60 : decode cX11_readsCondition 60 = .ok (.invokevirtual 167, 3) := by decide +kernel
theorem dX11_readsCondition_63 : decode cX11_readsCondition 63 = .ok (.bipush 33, 2) := by decide +kernel
theorem dX11_readsCondition_65 : decode cX11_readsCondition 65 = .ok (.if_icmp .ne 8, 3) := by decide +kernel
theorem dX11_readsCondition_68 : decode cX11_readsCondition 68 = .ok (.bipush 10, 2) := by decide +kernel
theorem dX11_readsCondition_70 : decode cX11_readsCondition 70 = .ok (.goto 5, 3) := by decide +kernel
theorem dX11_readsCondition_73 : decode cX11_readsCondition 73 = .ok (.bipush 13, 2) := by decide +kernel
theorem dX11_readsCondition_75 : decode cX11_readsCondition 75 = .ok (.invokevirtual 201, 3) := by decide +kernel
theorem dX11_readsCondition_78 : decode cX11_readsCondition 78 = .ok (.ifCond .ne (-38), 3) := by decide +kernel
theorem dX11_readsCondition_81 : decode cX11_readsCondition 81 = .ok (.iconst 0, 1) := by decide +kernel
theorem dX11_readsCondition_82 : decode cX11_readsCondition 82 = .ok (.ireturn, 1) := by decide +kernel
theorem dX11_readsCondition_83 : decode cX11_readsCondition 83 = .ok (.aload_n 0, 1) := by decide +kernel
theorem dX11_readsCondition_84 : decode cX11_readsCondition 84 = .ok (.invokevirtual 230, 3) := by decide +kernel
theorem dX11_readsCondition_87 : decode cX11_readsCondition 87 = .ok (.ifCond .ne 5, 3) := by decide +kernel
theorem dX11_readsCondition_90 : decode cX11_readsCondition 90 = .ok (.iconst 0, 1) := by decide +kernel
theorem dX11_readsCondition_91 : decode cX11_readsCondition 91 = .ok (.ireturn, 1) := by decide +kernel
theorem dX11_readsCondition_92 : decode cX11_readsCondition 92 = .ok (.aload_n 0, 1) := by decide +kernel
theorem dX11_readsCondition_93 : decode cX11_readsCondition 93 = .ok (.invokevirtual 167, 3) := by decide +kernel
theorem dX11_readsCondition_96 : decode cX11_readsCondition 96 = .ok (.bipush 41, 2) := by decide +kernel
theorem dX11_readsCondition_98 : decode cX11_readsCondition 98 = .ok (.if_icmp .ne 54, 3) := by decide +kernel
theorem dX11_readsCondition_101 : decode cX11_readsCondition 101 = .ok (.aload_n 0, 1) := by decide +kernel
theorem dX11_readsCondition_102 : decode cX11_readsCondition 102 = .ok (.iconst 1, 1) := by decide +kernel
theorem dX11_readsCondition_103 : decode cX11_readsCondition 103 = .ok (.invokevirtual 233, 3) := by decide +kernel
theorem dX11_readsCondition_106 : decode cX11_readsCondition 106 = .ok (.aload_n 0, 1) := by decide +kernel
theorem dX11_readsCondition_107 : decode cX11_readsCondition 107 = .ok (.aload_n 0, 1) := by decide +kernel
theorem dX11_readsCondition_108 : decode cX11_readsCondition 108 = .ok (.getfield 191, 3) := by decide +kernel
theorem dX11_readsCondition_111 : decode cX11_readsCondition 111 = .ok (.iconst 1, 1) := by decide +kernel
theorem dX11_readsCondition_112 : decode cX11_readsCondition 112 = .ok (.isub, 1) := by decide +kernel
theorem dX11_readsCondition_113 : decode cX11_readsCondition 113 = .ok (.putfield 191, 3) := by decide +kernel
theorem dX11_readsCondition_116 : decode cX11_readsCondition 116 = .ok (.aload_n 0, 1) := by decide +kernel
theorem dX11_readsCondition_117 : decode cX11_readsCondition 117 = .ok (.aload_n 0, 1) := by decide +kernel
theorem dX11_readsCondition_118 : decode cX11_readsCondition 118 = .ok (.getfield 188, 3) := by decide +kernel
theorem dX11_readsCondition_121 : decode cX11_readsCondition 121 = .ok (.iconst 1, 1) := by decide +kernel
theorem dX11_readsCondition_122 : decode cX11_readsCondition 122 = .ok (.isub, 1) := by decide +kernel
theorem dX11_readsCondition_123 : decode cX11_readsCondition 123 = .ok (.putfield 188, 3) := by decide +kernel
theorem dX11_readsCondition_126 : decode cX11_readsCondition 126 = .ok (.aload_n 0, 1) := by decide +kernel
theorem dX11_readsCondition_127 : decode cX11_readsCondition 127 = .ok (.aload_n 0, 1) := by decide +kernel
theorem dX11_readsCondition_128 : decode cX11_readsCondition 128 = .ok (.getfield 161, 3) := by decide +kernel
theorem dX11_readsCondition_131 : decode cX11_readsCondition 131 = .ok (.iconst 1, 1) := by decide +kernel
theorem dX11_readsCondition_132 : decode cX11_readsCondition 132 = .ok (.iadd, 1) := by decide +kernel
theorem dX11_readsCondition_133 : decode cX11_readsCondition 133 = .ok (.putfield 161, 3) := by decide +kernel
theorem dX11_readsCondition_136 : decode cX11_readsCondition 136 = .ok (.aload_n 0, 1) := by decide +kernel
theorem dX11_readsCondition_137 : decode cX11_readsCondition 137 = .ok (.getfield 191, 3) := by decide +kernel
theorem dX11_readsCondition_140 : decode cX11_readsCondition 140 = .ok (.ifCond .ne 5, 3) := by decide +kernel
theorem dX11_readsCondition_143 : decode cX11_readsCondition 143 = .ok (.iconst 1, 1) := by decide +kernel
theorem dX11_readsCondition_144 : decode cX11_readsCondition 144 = .ok (.ireturn, 1) := by decide +kernel
theorem dX11_readsCondition_145 : decode cX11_readsCondition 145 = .ok (.aload_n 0, 1) := by decide +kernel
theorem dX11_readsCondition_146 : decode cX11_readsCondition 146 = .ok (.invokevirtual 227, 3) := by decide +kernel
theorem dX11_readsCondition_149 : decode cX11_readsCondition 149 = .ok (.goto (-57), 3) := by decide +kernel
theorem dX11_readsCondition_152 : decode cX11_readsCondition 152 = .ok (.aload_n 0, 1) := by decide +kernel
theorem dX11_readsCondition_153 : decode cX11_readsCondition 153 = .ok (.invokevirtual 167, 3) := by decide +kernel
theorem dX11_readsCondition_156 : decode cX11_readsCondition 156 = .ok (.bipush 38, 2) := by decide +kernel
theorem dX11_readsCondition_158 : decode cX11_readsCondition 158 = .ok (.if_icmp .eq 22, 3) := by decide +kernel
theorem dX11_readsCondition_161 : decode cX11_readsCondition 161 = .ok (.aload_n 0, 1) := by decide +kernel
theorem dX11_readsCondition_162 : decode cX11_readsCondition 162 = .ok (.invokevirtual 167, 3) := by decide +kernel
theorem dX11_readsCondition_165 : decode cX11_readsCondition 165 = .ok (.bipush 124, 2) := by decide +kernel
theorem dX11_readsCondition_167 : decode cX11_readsCondition 167 = .ok (.if_icmp .eq 13, 3) := by decide +kernel
theorem dX11_readsCondition_170 : decode cX11_readsCondition 170 = .ok (.aload_n 0, 1) := by decide +kernel
theorem dX11_readsCondition_171 : decode cX11_readsCondition 171 = .ok (.iconst 1, 1) := by decide +kernel
theorem dX11_readsCondition_172 : decode cX11_readsCondition 172 = .ok (.aload_n 0, 1) := by decide +kernel
theorem dX11_readsCondition_173 : decode cX11_readsCondition 173 = .ok (.getfield 161, 3) := by decide +kernel
theorem dX11_readsCondition_176 : decode cX11_readsCondition 176 = .ok (.invokevirtual 174, 3) := by decide +kernel
theorem dX11_readsCondition_179 : decode cX11_readsCondition 179 = .ok (.ireturn, 1) := by decide +kernel
theorem dX11_readsCondition_180 : decode cX11_readsCondition 180 = .ok (.aload_n 0, 1) := by decide +kernel
theorem dX11_readsCondition_181 : decode cX11_readsCondition 181 = .ok (.aload_n 0, 1) := by decide +kernel
theorem dX11_readsCondition_182 : decode cX11_readsCondition 182 = .ok (.invokevirtual 167, 3) := by decide +kernel
theorem dX11_readsCondition_185 : decode cX11_readsCondition 185 = .ok (.bipush 124, 2) := by decide +kernel
theorem dX11_readsCondition_187 : decode cX11_readsCondition 187 = .ok (.if_icmp .ne 7, 3) := by decide +kernel
theorem dX11_readsCondition_190 : decode cX11_readsCondition 190 = .ok (.iconst 1, 1) := by decide +kernel
theorem dX11_readsCondition_191 : decode cX11_readsCondition 191 = .ok (.goto 4, 3) := by decide +kernel
theorem dX11_readsCondition_194 : decode cX11_readsCondition 194 = .ok (.iconst 0, 1) := by decide +kernel
theorem dX11_readsCondition_195 : decode cX11_readsCondition 195 = .ok (.invokevirtual 233, 3) := by decide +kernel
theorem dX11_readsCondition_198 : decode cX11_readsCondition 198 = .ok (.aload_n 0, 1) := by decide +kernel
theorem dX11_readsCondition_199 : decode cX11_readsCondition 199 = .ok (.aload_n 0, 1) := by decide +kernel
theorem dX11_readsCondition_200 : decode cX11_readsCondition 200 = .ok (.invokevirtual 167, 3) := by decide +kernel
theorem dX11_readsCondition_203 : decode cX11_readsCondition 203 = .ok (.bipush 38, 2) := by decide +kernel
theorem dX11_readsCondition_205 : decode cX11_readsCondition 205 = .ok (.if_icmp .ne 8, 3) := by decide +kernel
theorem dX11_readsCondition_208 : decode cX11_readsCondition 208 = .ok (.bipush 11, 2) := by decide +kernel
theorem dX11_readsCondition_210 : decode cX11_readsCondition 210 = .ok (.goto 5, 3) := by decide +kernel
theorem dX11_readsCondition_213 : decode cX11_readsCondition 213 = .ok (.bipush 12, 2) := by decide +kernel
theorem dX11_readsCondition_215 : decode cX11_readsCondition 215 = .ok (.invokevirtual 236, 3) := by decide +kernel
theorem dX11_readsCondition_218 : decode cX11_readsCondition 218 = .ok (.goto (-178), 3) := by decide +kernel
theorem dX11_readsFactor_0 : decode cX11_readsFactor 0 = .ok (.aload_n 0, 1) := by decide +kernel
theorem dX11_readsFactor_1 : decode cX11_readsFactor 1 = .ok (.invokevirtual 167, 3) := by decide +kernel
theorem dX11_readsFactor_4 : decode cX11_readsFactor 4 = .ok (.bipush 91, 2) := by decide +kernel
theorem dX11_readsFactor_6 : decode cX11_readsFactor 6 = .ok (.if_icmp .ne 14, 3) := by decide +kernel
theorem dX11_readsFactor_9 : decode cX11_readsFactor 9 = .ok (.aload_n 0, 1) := by decide +kernel
theorem dX11_readsFactor_10 : decode cX11_readsFactor 10 = .ok (.bipush 14, 2) := by decide +kernel
theorem dX11_readsFactor_12 : decode cX11_readsFactor 12 = .ok (.invokevirtual 201, 3) := by decide +kernel
theorem dX11_readsFactor_15 : decode cX11_readsFactor 15 = .ok (.ifCond .ne (-15), 3) := by decide +kernel
theorem dX11_readsFactor_18 : decode cX11_readsFactor 18 = .ok (.iconst 0, 1) := by decide +kernel
theorem dX11_readsFactor_19 : decode cX11_readsFactor 19 = .ok (.ireturn, 1) := by decide +kernel
theorem dX11_readsFactor_20 : decode cX11_readsFactor 20 = .ok (.aload_n 0, 1) := by decide +kernel
theorem dX11_readsFactor_21 : decode cX11_readsFactor 21 = .ok (.invokevirtual 181, 3) := by decide +kernel
theorem dX11_readsFactor_24 : decode cX11_readsFactor 24 = .ok (.ifCond .eq 23, 3) := by decide +kernel
theorem dX11_readsFactor_27 : decode cX11_readsFactor 27 = .ok (.aload_n 0, 1) := by decide +kernel
theorem dX11_readsFactor_28 : decode cX11_readsFactor 28 = .ok (.invokevirtual 204, 3) := by decide +kernel
theorem dX11_readsFactor_31 : decode cX11_readsFactor 31 = .ok (.ifCond .ne 5, 3) := by decide +kernel
theorem dX11_readsFactor_34 : decode cX11_readsFactor 34 = .ok (.iconst 0, 1) := by decide +kernel
theorem dX11_readsFactor_35 : decode cX11_readsFactor 35 = .ok (.ireturn, 1) := by decide +kernel
theorem dX11_readsFactor_36 : decode cX11_readsFactor 36 = .ok (.aload_n 0, 1) := by decide +kernel
theorem dX11_readsFactor_37 : decode cX11_readsFactor 37 = .ok (.iconst 0, 1) := by decide +kernel
theorem dX11_readsFactor_38 : decode cX11_readsFactor 38 = .ok (.aload_n 0, 1) := by decide +kernel
theorem dX11_readsFactor_39 : decode cX11_readsFactor 39 = .ok (.getfield 178, 3) := by decide +kernel
theorem dX11_readsFactor_42 : decode cX11_readsFactor 42 = .ok (.invokevirtual 197, 3) := by decide +kernel
theorem dX11_readsFactor_45 : decode cX11_readsFactor 45 = .ok (.iconst 1, 1) := by decide +kernel
theorem dX11_readsFactor_46 : decode cX11_readsFactor 46 = .ok (.ireturn, 1) := by decide +kernel
theorem dX11_readsFactor_47 : decode cX11_readsFactor 47 = .ok (.aload_n 0, 1) := by decide +kernel
theorem dX11_readsFactor_48 : decode cX11_readsFactor 48 = .ok (.invokevirtual 167, 3) := by decide +kernel
theorem dX11_readsFactor_51 : decode cX11_readsFactor 51 = .ok (.invokestatic 207, 3) := by decide +kernel
theorem dX11_readsFactor_54 : decode cX11_readsFactor 54 = .ok (.istore_n 1, 1) := by decide +kernel
theorem dX11_readsFactor_55 : decode cX11_readsFactor 55 = .ok (.iload_n 1, 1) := by decide +kernel
theorem dX11_readsFactor_56 : decode cX11_readsFactor 56 = .ok (.iconst (-1), 1) := by decide +kernel
theorem dX11_readsFactor_57 : decode cX11_readsFactor 57 = .ok (.if_icmp .ne 13, 3) := by decide +kernel
theorem dX11_readsFactor_60 : decode cX11_readsFactor 60 = .ok (.aload_n 0, 1) := by decide +kernel
theorem dX11_readsFactor_61 : decode cX11_readsFactor 61 = .ok (.iconst 1, 1) := by decide +kernel
theorem dX11_readsFactor_62 : decode cX11_readsFactor 62 = .ok (.aload_n 0, 1) := by decide +kernel
theorem dX11_readsFactor_63 : decode cX11_readsFactor 63 = .ok (.getfield 161, 3) := by decide +kernel
theorem dX11_readsFactor_66 : decode cX11_readsFactor 66 = .ok (.invokevirtual 174, 3) := by decide +kernel
theorem dX11_readsFactor_69 : decode cX11_readsFactor 69 = .ok (.ireturn, 1) := by decide +kernel
theorem dX11_readsFactor_70 : decode cX11_readsFactor 70 = .ok (.aload_n 0, 1) := by decide +kernel
theorem dX11_readsFactor_71 : decode cX11_readsFactor 71 = .ok (.iconst 1, 1) := by decide +kernel
theorem dX11_readsFactor_72 : decode cX11_readsFactor 72 = .ok (.iload_n 1, 1) := by decide +kernel
theorem dX11_readsFactor_73 : decode cX11_readsFactor 73 = .ok (.invokevirtual 197, 3) := by decide +kernel
theorem dX11_readsFactor_76 : decode cX11_readsFactor 76 = .ok (.aload_n 0, 1) := by decide +kernel
theorem dX11_readsFactor_77 : decode cX11_readsFactor 77 = .ok (.aload_n 0, 1) := by decide +kernel
theorem dX11_readsFactor_78 : decode cX11_readsFactor 78 = .ok (.getfield 161, 3) := by decide +kernel
theorem dX11_readsFactor_81 : decode cX11_readsFactor 81 = .ok (.iconst 1, 1) := by decide +kernel
theorem dX11_readsFactor_82 : decode cX11_readsFactor 82 = .ok (.iadd, 1) := by decide +kernel
theorem dX11_readsFactor_83 : decode cX11_readsFactor 83 = .ok (.putfield 161, 3) := by decide +kernel
theorem dX11_readsFactor_86 : decode cX11_readsFactor 86 = .ok (.iconst 1, 1) := by decide +kernel
theorem dX11_readsFactor_87 : decode cX11_readsFactor 87 = .ok (.ireturn, 1) := by decide +kernel
theorem dX11_readsNumber_0 : decode cX11_readsNumber 0 = .ok (.aload_n 0, 1) := by decide +kernel
theorem dX11_readsNumber_1 : decode cX11_readsNumber 1 = .ok (.getfield 161, 3) := by decide +kernel
theorem dX11_readsNumber_4 : decode cX11_readsNumber 4 = .ok (.istore_n 1, 1) := by decide +kernel
theorem dX11_readsNumber_5 : decode cX11_readsNumber 5 = .ok (.aload_n 0, 1) := by decide +kernel
theorem dX11_readsNumber_6 : decode cX11_readsNumber 6 = .ok (.iconst 0, 1) := by decide +kernel
theorem dX11_readsNumber_7 : decode cX11_readsNumber 7 = .ok (.putfield 178, 3) := by decide +kernel
theorem dX11_readsNumber_10 : decode cX11_readsNumber 10 = .ok (.aload_n 0, 1) := by decide +kernel
theorem dX11_readsNumber_11 : decode cX11_readsNumber 11 = .ok (.invokevirtual 181, 3) := by decide +kernel
theorem dX11_readsNumber_14 : decode cX11_readsNumber 14 = .ok (.ifCond .eq 55, 3) := by decide +kernel
theorem dX11_readsNumber_17 : decode cX11_readsNumber 17 = .ok (.aload_n 0, 1) := by decide +kernel
theorem dX11_readsNumber_18 : decode cX11_readsNumber 18 = .ok (.getfield 161, 3) := by decide +kernel
theorem dX11_readsNumber_21 : decode cX11_readsNumber 21 = .ok (.iload_n 1, 1) := by decide +kernel
theorem dX11_readsNumber_22 : decode cX11_readsNumber 22 = .ok (.iconst 5, 1) := by decide +kernel
theorem dX11_readsNumber_23 : decode cX11_readsNumber 23 = .ok (.iadd, 1) := by decide +kernel
theorem dX11_readsNumber_24 : decode cX11_readsNumber 24 = .ok (.if_icmp .ne 13, 3) := by decide +kernel
theorem dX11_readsNumber_27 : decode cX11_readsNumber 27 = .ok (.aload_n 0, 1) := by decide +kernel
theorem dX11_readsNumber_28 : decode cX11_readsNumber 28 = .ok (.iconst 2, 1) := by decide +kernel
theorem dX11_readsNumber_29 : decode cX11_readsNumber 29 = .ok (.aload_n 0, 1) := by decide +kernel
theorem dX11_readsNumber_30 : decode cX11_readsNumber 30 = .ok (.getfield 161, 3) := by decide +kernel
theorem dX11_readsNumber_33 : decode cX11_readsNumber 33 = .ok (.invokevirtual 174, 3) := by decide +kernel
theorem dX11_readsNumber_36 : decode cX11_readsNumber 36 = .ok (.ireturn, 1) := by decide +kernel
theorem dX11_readsNumber_37 : decode cX11_readsNumber 37 = .ok (.aload_n 0, 1) := by decide +kernel
theorem dX11_readsNumber_38 : decode cX11_readsNumber 38 = .ok (.bipush 10, 2) := by decide +kernel
theorem dX11_readsNumber_40 : decode cX11_readsNumber 40 = .ok (.aload_n 0, 1) := by decide +kernel
theorem dX11_readsNumber_41 : decode cX11_readsNumber 41 = .ok (.getfield 178, 3) := by decide +kernel
theorem dX11_readsNumber_44 : decode cX11_readsNumber 44 = .ok (.imul, 1) := by decide +kernel
theorem dX11_readsNumber_45 : decode cX11_readsNumber 45 = .ok (.aload_n 0, 1) := by decide +kernel
theorem dX11_readsNumber_46 : decode cX11_readsNumber 46 = .ok (.invokevirtual 167, 3) := by decide +kernel
theorem dX11_readsNumber_49 : decode cX11_readsNumber 49 = .ok (.iadd, 1) := by decide +kernel
theorem dX11_readsNumber_50 : decode cX11_readsNumber 50 = .ok (.bipush 48, 2) := by decide +kernel
theorem dX11_readsNumber_52 : decode cX11_readsNumber 52 = .ok (.isub, 1) := by decide +kernel
theorem dX11_readsNumber_53 : decode cX11_readsNumber 53 = .ok (.putfield 178, 3) := by decide +kernel
theorem dX11_readsNumber_56 : decode cX11_readsNumber 56 = .ok (.aload_n 0, 1) := by decide +kernel
theorem dX11_readsNumber_57 : decode cX11_readsNumber 57 = .ok (.aload_n 0, 1) := by decide +kernel
theorem dX11_readsNumber_58 : decode cX11_readsNumber 58 = .ok (.getfield 161, 3) := by decide +kernel
theorem dX11_readsNumber_61 : decode cX11_readsNumber 61 = .ok (.iconst 1, 1) := by decide +kernel
theorem dX11_readsNumber_62 : decode cX11_readsNumber 62 = .ok (.iadd, 1) := by decide +kernel
theorem dX11_readsNumber_63 : decode cX11_readsNumber 63 = .ok (.putfield 161, 3) := by decide +kernel
theorem dX11_readsNumber_66 : decode cX11_readsNumber 66 = .ok (.goto (-56), 3) := by decide +kernel
theorem dX11_readsNumber_69 : decode cX11_readsNumber 69 = .ok (.iconst 1, 1) := by decide +kernel
theorem dX11_readsNumber_70 : decode cX11_readsNumber 70 = .ok (.ireturn, 1) := by decide +kernel
theorem dX11_readsSum_0 : decode cX11_readsSum 0 = .ok (.aload_n 0, 1) := by decide +kernel
theorem dX11_readsSum_1 : decode cX11_readsSum 1 = .ok (.getfield 191, 3) := by decide +kernel
theorem dX11_readsSum_4 : decode cX11_readsSum 4 = .ok (.istore_n 1, 1) := by decide +kernel
theorem dX11_readsSum_5 : decode cX11_readsSum 5 = .ok (.aload_n 0, 1) := by decide +kernel
theorem dX11_readsSum_6 : decode cX11_readsSum 6 = .ok (.invokevirtual 211, 3) := by decide +kernel
theorem dX11_readsSum_9 : decode cX11_readsSum 9 = .ok (.ifCond .ne 5, 3) := by decide +kernel
theorem dX11_readsSum_12 : decode cX11_readsSum 12 = .ok (.iconst 0, 1) := by decide +kernel
theorem dX11_readsSum_13 : decode cX11_readsSum 13 = .ok (.ireturn, 1) := by decide +kernel
theorem dX11_readsSum_14 : decode cX11_readsSum 14 = .ok (.aload_n 0, 1) := by decide +kernel
theorem dX11_readsSum_15 : decode cX11_readsSum 15 = .ok (.invokevirtual 167, 3) := by decide +kernel
theorem dX11_readsSum_18 : decode cX11_readsSum 18 = .ok (.invokestatic 214, 3) := by decide +kernel
theorem dX11_readsSum_21 : decode cX11_readsSum 21 = .ok (.istore_n 2, 1) := by decide +kernel
theorem dX11_readsSum_22 : decode cX11_readsSum 22 = .ok (.iload_n 2, 1) := by decide +kernel
theorem dX11_readsSum_23 : decode cX11_readsSum 23 = .ok (.iconst (-1), 1) := by decide +kernel
theorem dX11_readsSum_24 : decode cX11_readsSum 24 = .ok (.if_icmp .eq 59, 3) := by decide +kernel
theorem dX11_readsSum_27 : decode cX11_readsSum 27 = .ok (.aload_n 0, 1) := by decide +kernel
theorem dX11_readsSum_28 : decode cX11_readsSum 28 = .ok (.iload_n 2, 1) := by decide +kernel
theorem dX11_readsSum_29 : decode cX11_readsSum 29 = .ok (.iconst 4, 1) := by decide +kernel
theorem dX11_readsSum_30 : decode cX11_readsSum 30 = .ok (.if_icmp .ge 7, 3) := by decide +kernel
theorem dX11_readsSum_33 : decode cX11_readsSum 33 = .ok (.iconst 1, 1) := by decide +kernel
theorem dX11_readsSum_34 : decode cX11_readsSum 34 = .ok (.goto 4, 3) := by decide +kernel
theorem dX11_readsSum_37 : decode cX11_readsSum 37 = .ok (.iconst 0, 1) := by decide +kernel
theorem dX11_readsSum_38 : decode cX11_readsSum 38 = .ok (.invokevirtual 217, 3) := by decide +kernel
theorem dX11_readsSum_41 : decode cX11_readsSum 41 = .ok (.aload_n 0, 1) := by decide +kernel
theorem dX11_readsSum_42 : decode cX11_readsSum 42 = .ok (.getfield 36, 3) := by decide +kernel
theorem dX11_readsSum_45 : decode cX11_readsSum 45 = .ok (.aload_n 0, 1) := by decide +kernel
theorem dX11_readsSum_46 : decode cX11_readsSum 46 = .ok (.getfield 191, 3) := by decide +kernel
theorem dX11_readsSum_49 : decode cX11_readsSum 49 = .ok (.ldc 187, 2) := by decide +kernel
theorem dX11_readsSum_51 : decode cX11_readsSum 51 = .ok (.iload_n 2, 1) := by decide +kernel
theorem dX11_readsSum_52 : decode cX11_readsSum 52 = .ok (.imul, 1) := by decide +kernel
theorem dX11_readsSum_53 : decode cX11_readsSum 53 = .ok (.iastore, 1) := by decide +kernel
theorem dX11_readsSum_54 : decode cX11_readsSum 54 = .ok (.aload_n 0, 1) := by decide +kernel
theorem dX11_readsSum_55 : decode cX11_readsSum 55 = .ok (.aload_n 0, 1) := by decide +kernel
theorem dX11_readsSum_56 : decode cX11_readsSum 56 = .ok (.getfield 191, 3) := by decide +kernel
theorem dX11_readsSum_59 : decode cX11_readsSum 59 = .ok (.iconst 1, 1) := by decide +kernel
theorem dX11_readsSum_60 : decode cX11_readsSum 60 = .ok (.iadd, 1) := by decide +kernel
theorem dX11_readsSum_61 : decode cX11_readsSum 61 = .ok (.putfield 191, 3) := by decide +kernel
theorem dX11_readsSum_64 : decode cX11_readsSum 64 = .ok (.aload_n 0, 1) := by decide +kernel
theorem dX11_readsSum_65 : decode cX11_readsSum 65 = .ok (.aload_n 0, 1) := by decide +kernel
theorem dX11_readsSum_66 : decode cX11_readsSum 66 = .ok (.getfield 161, 3) := by decide +kernel
theorem dX11_readsSum_69 : decode cX11_readsSum 69 = .ok (.iconst 1, 1) := by decide +kernel
theorem dX11_readsSum_70 : decode cX11_readsSum 70 = .ok (.iadd, 1) := by decide +kernel
theorem dX11_readsSum_71 : decode cX11_readsSum 71 = .ok (.putfield 161, 3) := by decide +kernel
theorem dX11_readsSum_74 : decode cX11_readsSum 74 = .ok (.aload_n 0, 1) := by decide +kernel
theorem dX11_readsSum_75 : decode cX11_readsSum 75 = .ok (.invokevirtual 211, 3) := by decide +kernel
theorem dX11_readsSum_78 : decode cX11_readsSum 78 = .ok (.ifCond .ne 85, 3) := by decide +kernel
theorem dX11_readsSum_81 : decode cX11_readsSum 81 = .ok (.iconst 0, 1) := by decide +kernel
theorem dX11_readsSum_82 : decode cX11_readsSum 82 = .ok (.ireturn, 1) := by decide +kernel
theorem dX11_readsSum_83 : decode cX11_readsSum 83 = .ok (.aload_n 0, 1) := by decide +kernel
theorem dX11_readsSum_84 : decode cX11_readsSum 84 = .ok (.invokevirtual 167, 3) := by decide +kernel
theorem dX11_readsSum_87 : decode cX11_readsSum 87 = .ok (.bipush 93, 2) := by decide +kernel
theorem dX11_readsSum_89 : decode cX11_readsSum 89 = .ok (.if_icmp .ne 49, 3) := by decide +kernel
theorem dX11_readsSum_92 : decode cX11_readsSum 92 = .ok (.aload_n 0, 1) := by decide +kernel
theorem dX11_readsSum_93 : decode cX11_readsSum 93 = .ok (.iload_n 1, 1) := by decide +kernel
theorem dX11_readsSum_94 : decode cX11_readsSum 94 = .ok (.invokevirtual 221, 3) := by decide +kernel
theorem dX11_readsSum_97 : decode cX11_readsSum 97 = .ok (.ifCond .eq 41, 3) := by decide +kernel
theorem dX11_readsSum_100 : decode cX11_readsSum 100 = .ok (.aload_n 0, 1) := by decide +kernel
theorem dX11_readsSum_101 : decode cX11_readsSum 101 = .ok (.iconst 1, 1) := by decide +kernel
theorem dX11_readsSum_102 : decode cX11_readsSum 102 = .ok (.invokevirtual 217, 3) := by decide +kernel
theorem dX11_readsSum_105 : decode cX11_readsSum 105 = .ok (.aload_n 0, 1) := by decide +kernel
theorem dX11_readsSum_106 : decode cX11_readsSum 106 = .ok (.aload_n 0, 1) := by decide +kernel
theorem dX11_readsSum_107 : decode cX11_readsSum 107 = .ok (.getfield 191, 3) := by decide +kernel
theorem dX11_readsSum_110 : decode cX11_readsSum 110 = .ok (.iconst 1, 1) := by decide +kernel
theorem dX11_readsSum_111 : decode cX11_readsSum 111 = .ok (.isub, 1) := by decide +kernel
theorem dX11_readsSum_112 : decode cX11_readsSum 112 = .ok (.putfield 191, 3) := by decide +kernel
theorem dX11_readsSum_115 : decode cX11_readsSum 115 = .ok (.aload_n 0, 1) := by decide +kernel
theorem dX11_readsSum_116 : decode cX11_readsSum 116 = .ok (.aload_n 0, 1) := by decide +kernel
theorem dX11_readsSum_117 : decode cX11_readsSum 117 = .ok (.getfield 188, 3) := by decide +kernel
theorem dX11_readsSum_120 : decode cX11_readsSum 120 = .ok (.iconst 1, 1) := by decide +kernel
theorem dX11_readsSum_121 : decode cX11_readsSum 121 = .ok (.isub, 1) := by decide +kernel
theorem dX11_readsSum_122 : decode cX11_readsSum 122 = .ok (.putfield 188, 3) := by decide +kernel
theorem dX11_readsSum_125 : decode cX11_readsSum 125 = .ok (.aload_n 0, 1) := by decide +kernel
theorem dX11_readsSum_126 : decode cX11_readsSum 126 = .ok (.aload_n 0, 1) := by decide +kernel
theorem dX11_readsSum_127 : decode cX11_readsSum 127 = .ok (.getfield 161, 3) := by decide +kernel
theorem dX11_readsSum_130 : decode cX11_readsSum 130 = .ok (.iconst 1, 1) := by decide +kernel
theorem dX11_readsSum_131 : decode cX11_readsSum 131 = .ok (.iadd, 1) := by decide +kernel
theorem dX11_readsSum_132 : decode cX11_readsSum 132 = .ok (.putfield 161, 3) := by decide +kernel
theorem dX11_readsSum_135 : decode cX11_readsSum 135 = .ok (.goto 28, 3) := by decide +kernel
theorem dX11_readsSum_138 : decode cX11_readsSum 138 = .ok (.aload_n 0, 1) := by decide +kernel
theorem dX11_readsSum_139 : decode cX11_readsSum 139 = .ok (.iload_n 1, 1) := by decide +kernel
theorem dX11_readsSum_140 : decode cX11_readsSum 140 = .ok (.invokevirtual 221, 3) := by decide +kernel
theorem dX11_readsSum_143 : decode cX11_readsSum 143 = .ok (.ifCond .eq 13, 3) := by decide +kernel
theorem dX11_readsSum_146 : decode cX11_readsSum 146 = .ok (.aload_n 0, 1) := by decide +kernel
theorem dX11_readsSum_147 : decode cX11_readsSum 147 = .ok (.iconst 1, 1) := by decide +kernel
theorem dX11_readsSum_148 : decode cX11_readsSum 148 = .ok (.aload_n 0, 1) := by decide +kernel
theorem dX11_readsSum_149 : decode cX11_readsSum 149 = .ok (.getfield 161, 3) := by decide +kernel
theorem dX11_readsSum_152 : decode cX11_readsSum 152 = .ok (.invokevirtual 174, 3) := by decide +kernel
theorem dX11_readsSum_155 : decode cX11_readsSum 155 = .ok (.ireturn, 1) := by decide +kernel
theorem dX11_readsSum_156 : decode cX11_readsSum 156 = .ok (.aload_n 0, 1) := by decide +kernel
theorem dX11_readsSum_157 : decode cX11_readsSum 157 = .ok (.iconst 1, 1) := by decide +kernel
theorem dX11_readsSum_158 : decode cX11_readsSum 158 = .ok (.invokevirtual 217, 3) := by decide +kernel
theorem dX11_readsSum_161 : decode cX11_readsSum 161 = .ok (.iconst 1, 1) := by decide +kernel
theorem dX11_readsSum_162 : decode cX11_readsSum 162 = .ok (.ireturn, 1) := by decide +kernel
theorem dX11_readsSum_163 : decode cX11_readsSum 163 = .ok (.goto (-149), 3) := by decide +kernel
theorem dX11_reckon_0 : decode cX11_reckon 0 = .ok (.iload_n 0, 1) := by decide +kernel
theorem dX11_reckon_1 : decode cX11_reckon 1 = .ok (.tableswitch 85 2 8 #[43, 47, 51, 55, 59, 63, 74], 43) := by decide +kernel
theorem dX11_reckon_44 : decode cX11_reckon 44 = .ok (.iload_n 1, 1) := by decide +kernel
theorem dX11_reckon_45 : decode cX11_reckon 45 = .ok (.iload_n 2, 1) := by decide +kernel
theorem dX11_reckon_46 : decode cX11_reckon 46 = .ok (.iadd, 1) := by decide +kernel
theorem dX11_reckon_47 : decode cX11_reckon 47 = .ok (.ireturn, 1) := by decide +kernel
theorem dX11_reckon_48 : decode cX11_reckon 48 = .ok (.iload_n 1, 1) := by decide +kernel
theorem dX11_reckon_49 : decode cX11_reckon 49 = .ok (.iload_n 2, 1) := by decide +kernel
theorem dX11_reckon_50 : decode cX11_reckon 50 = .ok (.isub, 1) := by decide +kernel
theorem dX11_reckon_51 : decode cX11_reckon 51 = .ok (.ireturn, 1) := by decide +kernel
theorem dX11_reckon_52 : decode cX11_reckon 52 = .ok (.iload_n 1, 1) := by decide +kernel
theorem dX11_reckon_53 : decode cX11_reckon 53 = .ok (.iload_n 2, 1) := by decide +kernel
theorem dX11_reckon_54 : decode cX11_reckon 54 = .ok (.imul, 1) := by decide +kernel
theorem dX11_reckon_55 : decode cX11_reckon 55 = .ok (.ireturn, 1) := by decide +kernel
theorem dX11_reckon_56 : decode cX11_reckon 56 = .ok (.iload_n 1, 1) := by decide +kernel
theorem dX11_reckon_57 : decode cX11_reckon 57 = .ok (.iload_n 2, 1) := by decide +kernel
theorem dX11_reckon_58 : decode cX11_reckon 58 = .ok (.idiv, 1) := by decide +kernel
theorem dX11_reckon_59 : decode cX11_reckon 59 = .ok (.ireturn, 1) := by decide +kernel
theorem dX11_reckon_60 : decode cX11_reckon 60 = .ok (.iload_n 1, 1) := by decide +kernel
theorem dX11_reckon_61 : decode cX11_reckon 61 = .ok (.iload_n 2, 1) := by decide +kernel
theorem dX11_reckon_62 : decode cX11_reckon 62 = .ok (.irem, 1) := by decide +kernel
theorem dX11_reckon_63 : decode cX11_reckon 63 = .ok (.ireturn, 1) := by decide +kernel
theorem dX11_reckon_64 : decode cX11_reckon 64 = .ok (.iload_n 1, 1) := by decide +kernel
theorem dX11_reckon_65 : decode cX11_reckon 65 = .ok (.iload_n 2, 1) := by decide +kernel
theorem dX11_reckon_66 : decode cX11_reckon 66 = .ok (.if_icmp .ge 7, 3) := by decide +kernel
theorem dX11_reckon_69 : decode cX11_reckon 69 = .ok (.iconst 1, 1) := by decide +kernel
theorem dX11_reckon_70 : decode cX11_reckon 70 = .ok (.goto 4, 3) := by decide +kernel
theorem dX11_reckon_73 : decode cX11_reckon 73 = .ok (.iconst 0, 1) := by decide +kernel
theorem dX11_reckon_74 : decode cX11_reckon 74 = .ok (.ireturn, 1) := by decide +kernel
theorem dX11_reckon_75 : decode cX11_reckon 75 = .ok (.iload_n 1, 1) := by decide +kernel
theorem dX11_reckon_76 : decode cX11_reckon 76 = .ok (.iload_n 2, 1) := by decide +kernel
theorem dX11_reckon_77 : decode cX11_reckon 77 = .ok (.if_icmp .le 7, 3) := by decide +kernel
theorem dX11_reckon_80 : decode cX11_reckon 80 = .ok (.iconst 1, 1) := by decide +kernel
theorem dX11_reckon_81 : decode cX11_reckon 81 = .ok (.goto 4, 3) := by decide +kernel
theorem dX11_reckon_84 : decode cX11_reckon 84 = .ok (.iconst 0, 1) := by decide +kernel
theorem dX11_reckon_85 : decode cX11_reckon 85 = .ok (.ireturn, 1) := by decide +kernel
theorem dX11_reckon_86 : decode cX11_reckon 86 = .ok (.iload_n 1, 1) := by decide +kernel
theorem dX11_reckon_87 : decode cX11_reckon 87 = .ok (.iload_n 2, 1) := by decide +kernel
theorem dX11_reckon_88 : decode cX11_reckon 88 = .ok (.if_icmp .ne 7, 3) := by decide +kernel
theorem dX11_reckon_91 : decode cX11_reckon 91 = .ok (.iconst 1, 1) := by decide +kernel
theorem dX11_reckon_92 : decode cX11_reckon 92 = .ok (.goto 4, 3) := by decide +kernel
theorem dX11_reckon_95 : decode cX11_reckon 95 = .ok (.iconst 0, 1) := by decide +kernel
theorem dX11_reckon_96 : decode cX11_reckon 96 = .ok (.ireturn, 1) := by decide +kernel
theorem dX11_row_0 : decode cX11_row 0 = .ok (.iload_n 1, 1) := by decide +kernel
theorem dX11_row_1 : decode cX11_row 1 = .ok (.iconst 2, 1) := by decide +kernel
theorem dX11_row_2 : decode cX11_row 2 = .ok (.bipush 10, 2) := by decide +kernel
theorem dX11_row_4 : decode cX11_row 4 = .ok (.invokestatic 139, 3) := by decide +kernel
theorem dX11_row_7 : decode cX11_row 7 = .ok (.ifCond .eq 22, 3) := by decide +kernel
theorem dX11_row_10 : decode cX11_row 10 = .ok (.iload_n 2, 1) := by decide +kernel
theorem dX11_row_11 : decode cX11_row 11 = .ok (.iconst (-1), 1) := by decide +kernel
theorem dX11_row_12 : decode cX11_row 12 = .ok (.iload_n 1, 1) := by decide +kernel
theorem dX11_row_13 : decode cX11_row 13 = .ok (.iconst 1, 1) := by decide +kernel
theorem dX11_row_14 : decode cX11_row 14 = .ok (.isub, 1) := by decide +kernel
theorem dX11_row_15 : decode cX11_row 15 = .ok (.invokestatic 139, 3) := by decide +kernel
theorem dX11_row_18 : decode cX11_row 18 = .ok (.ifCond .eq 11, 3) := by decide +kernel
theorem dX11_row_21 : decode cX11_row 21 = .ok (.iload_n 1, 1) := by decide +kernel
theorem dX11_row_22 : decode cX11_row 22 = .ok (.aload_n 0, 1) := by decide +kernel
theorem dX11_row_23 : decode cX11_row 23 = .ok (.getfield 133, 3) := by decide +kernel
theorem dX11_row_26 : decode cX11_row 26 = .ok (.if_icmp .le 5, 3) := by decide +kernel
theorem dX11_row_29 : decode cX11_row 29 = .ok (.iconst (-1), 1) := by decide +kernel
theorem dX11_row_30 : decode cX11_row 30 = .ok (.ireturn, 1) := by decide +kernel
theorem dX11_row_31 : decode cX11_row 31 = .ok (.aload_n 0, 1) := by decide +kernel
theorem dX11_row_32 : decode cX11_row 32 = .ok (.iload_n 1, 1) := by decide +kernel
theorem dX11_row_33 : decode cX11_row 33 = .ok (.invokevirtual 377, 3) := by decide +kernel
theorem dX11_row_36 : decode cX11_row 36 = .ok (.ifCond .eq 11, 3) := by decide +kernel
theorem dX11_row_39 : decode cX11_row 39 = .ok (.aload_n 0, 1) := by decide +kernel
theorem dX11_row_40 : decode cX11_row 40 = .ok (.iload_n 1, 1) := by decide +kernel
theorem dX11_row_41 : decode cX11_row 41 = .ok (.invokevirtual 380, 3) := by decide +kernel
theorem dX11_row_44 : decode cX11_row 44 = .ok (.ifCond .ne 6, 3) := by decide +kernel
theorem dX11_row_47 : decode cX11_row 47 = .ok (.bipush (-3), 2) := by decide +kernel
theorem dX11_row_49 : decode cX11_row 49 = .ok (.ireturn, 1) := by decide +kernel
theorem dX11_row_50 : decode cX11_row 50 = .ok (.aload_n 0, 1) := by decide +kernel
theorem dX11_row_51 : decode cX11_row 51 = .ok (.invokevirtual 291, 3) := by decide +kernel
theorem dX11_row_54 : decode cX11_row 54 = .ok (.aload_n 0, 1) := by decide +kernel
theorem dX11_row_55 : decode cX11_row 55 = .ok (.iload_n 1, 1) := by decide +kernel
theorem dX11_row_56 : decode cX11_row 56 = .ok (.invokevirtual 383, 3) := by decide +kernel
theorem dX11_row_59 : decode cX11_row 59 = .ok (.aload_n 0, 1) := by decide +kernel
theorem dX11_row_60 : decode cX11_row 60 = .ok (.getfield 107, 3) := by decide +kernel
theorem dX11_row_63 : decode cX11_row 63 = .ok (.iload_n 1, 1) := by decide +kernel
theorem dX11_row_64 : decode cX11_row 64 = .ok (.iaload, 1) := by decide +kernel
theorem dX11_row_65 : decode cX11_row 65 = .ok (.istore_n 3, 1) := by decide +kernel
theorem dX11_row_66 : decode cX11_row 66 = .ok (.iload_n 3, 1) := by decide +kernel
theorem dX11_row_67 : decode cX11_row 67 = .ok (.ldc 129, 2) := by decide +kernel
theorem dX11_row_69 : decode cX11_row 69 = .ok (.if_icmp .lt 6, 3) := by decide +kernel
theorem dX11_row_72 : decode cX11_row 72 = .ok (.bipush (-2), 2) := by decide +kernel
theorem dX11_row_74 : decode cX11_row 74 = .ok (.ireturn, 1) := by decide +kernel
theorem dX11_row_75 : decode cX11_row 75 = .ok (.iload_n 2, 1) := by decide +kernel
theorem dX11_row_76 : decode cX11_row 76 = .ok (.iconst (-1), 1) := by decide +kernel
theorem dX11_row_77 : decode cX11_row 77 = .ok (.if_icmp .ne 5, 3) := by decide +kernel
theorem dX11_row_80 : decode cX11_row 80 = .ok (.iload_n 3, 1) := by decide +kernel
theorem dX11_row_81 : decode cX11_row 81 = .ok (.ireturn, 1) := by decide +kernel
theorem dX11_row_82 : decode cX11_row 82 = .ok (.iconst 0, 1) := by decide +kernel
theorem dX11_row_83 : decode cX11_row 83 = .ok (.istore 4, 2) := by decide +kernel
theorem dX11_row_85 : decode cX11_row 85 = .ok (.iload_n 1, 1) := by decide +kernel
theorem dX11_row_86 : decode cX11_row 86 = .ok (.istore 5, 2) := by decide +kernel
theorem dX11_row_88 : decode cX11_row 88 = .ok (.iconst 0, 1) := by decide +kernel
theorem dX11_row_89 : decode cX11_row 89 = .ok (.istore 6, 2) := by decide +kernel
theorem dX11_row_91 : decode cX11_row 91 = .ok (.iconst (-1), 1) := by decide +kernel
theorem dX11_row_92 : decode cX11_row 92 = .ok (.istore 7, 2) := by decide +kernel
theorem dX11_row_94 : decode cX11_row 94 = .ok (.iconst 0, 1) := by decide +kernel
theorem dX11_row_95 : decode cX11_row 95 = .ok (.istore 8, 2) := by decide +kernel
theorem dX11_row_97 : decode cX11_row 97 = .ok (.iload 8, 2) := by decide +kernel
theorem dX11_row_99 : decode cX11_row 99 = .ok (.iload_n 1, 1) := by decide +kernel
theorem dX11_row_100 : decode cX11_row 100 = .ok (.if_icmp .ge 73, 3) := by decide +kernel
theorem dX11_row_103 : decode cX11_row 103 = .ok (.aload_n 0, 1) := by decide +kernel
theorem dX11_row_104 : decode cX11_row 104 = .ok (.iload_n 1, 1) := by decide +kernel
theorem dX11_row_105 : decode cX11_row 105 = .ok (.iload 4, 2) := by decide +kernel
theorem dX11_row_107 : decode cX11_row 107 = .ok (.iload 5, 2) := by decide +kernel
theorem dX11_row_109 : decode cX11_row 109 = .ok (.iload 8, 2) := by decide +kernel
theorem dX11_row_111 : decode cX11_row 111 = .ok (.invokevirtual 373, 3) := by decide +kernel
theorem dX11_row_114 : decode cX11_row 114 = .ok (.aload_n 0, 1) := by decide +kernel
theorem dX11_row_115 : decode cX11_row 115 = .ok (.getfield 107, 3) := by decide +kernel
theorem dX11_row_118 : decode cX11_row 118 = .ok (.bipush 13, 2) := by decide +kernel
theorem dX11_row_120 : decode cX11_row 120 = .ok (.iload 4, 2) := by decide +kernel
theorem dX11_row_122 : decode cX11_row 122 = .ok (.imul, 1) := by decide +kernel
theorem dX11_row_123 : decode cX11_row 123 = .ok (.iload 5, 2) := by decide +kernel
theorem dX11_row_125 : decode cX11_row 125 = .ok (.iadd, 1) := by decide +kernel
theorem dX11_row_126 : decode cX11_row 126 = .ok (.iaload, 1) := by decide +kernel
theorem dX11_row_127 : decode cX11_row 127 = .ok (.if_icmp .ne 40, 3) := by decide +kernel
theorem dX11_row_130 : decode cX11_row 130 = .ok (.iload 4, 2) := by decide +kernel
theorem dX11_row_132 : decode cX11_row 132 = .ok (.iload 8, 2) := by decide +kernel
theorem dX11_row_134 : decode cX11_row 134 = .ok (.ishr, 1) := by decide +kernel
theorem dX11_row_135 : decode cX11_row 135 = .ok (.iconst 1, 1) := by decide +kernel
theorem dX11_row_136 : decode cX11_row 136 = .ok (.iand, 1) := by decide +kernel
theorem dX11_row_137 : decode cX11_row 137 = .ok (.ifCond .ne 30, 3) := by decide +kernel
theorem dX11_row_140 : decode cX11_row 140 = .ok (.iload 7, 2) := by decide +kernel
theorem dX11_row_142 : decode cX11_row 142 = .ok (.iconst (-1), 1) := by decide +kernel
theorem dX11_row_143 : decode cX11_row 143 = .ok (.if_icmp .eq 20, 3) := by decide +kernel
theorem dX11_row_146 : decode cX11_row 146 = .ok (.aload_n 0, 1) := by decide +kernel
theorem dX11_row_147 : decode cX11_row 147 = .ok (.getfield 103, 3) := by decide +kernel
theorem dX11_row_150 : decode cX11_row 150 = .ok (.iload 8, 2) := by decide +kernel
theorem dX11_row_152 : decode cX11_row 152 = .ok (.iaload, 1) := by decide +kernel
theorem dX11_row_153 : decode cX11_row 153 = .ok (.aload_n 0, 1) := by decide +kernel
theorem dX11_row_154 : decode cX11_row 154 = .ok (.getfield 103, 3) := by decide +kernel
theorem dX11_row_157 : decode cX11_row 157 = .ok (.iload 7, 2) := by decide +kernel
theorem dX11_row_159 : decode cX11_row 159 = .ok (.iaload, 1) := by decide +kernel
theorem dX11_row_160 : decode cX11_row 160 = .ok (.if_icmp .ge 7, 3) := by decide +kernel
theorem dX11_row_163 : decode cX11_row 163 = .ok (.iload 8, 2) := by decide +kernel
theorem dX11_row_165 : decode cX11_row 165 = .ok (.istore 7, 2) := by decide +kernel
theorem dX11_row_167 : decode cX11_row 167 = .ok (.iinc 8 1, 3) := by decide +kernel
theorem dX11_row_170 : decode cX11_row 170 = .ok (.goto (-73), 3) := by decide +kernel
theorem dX11_row_173 : decode cX11_row 173 = .ok (.iload 6, 2) := by decide +kernel
theorem dX11_row_175 : decode cX11_row 175 = .ok (.iload_n 2, 1) := by decide +kernel
theorem dX11_row_176 : decode cX11_row 176 = .ok (.if_icmp .ne 11, 3) := by decide +kernel
theorem dX11_row_179 : decode cX11_row 179 = .ok (.aload_n 0, 1) := by decide +kernel
theorem dX11_row_180 : decode cX11_row 180 = .ok (.getfield 103, 3) := by decide +kernel
theorem dX11_row_183 : decode cX11_row 183 = .ok (.iload 7, 2) := by decide +kernel
theorem dX11_row_185 : decode cX11_row 185 = .ok (.iaload, 1) := by decide +kernel
theorem dX11_row_186 : decode cX11_row 186 = .ok (.ireturn, 1) := by decide +kernel
theorem dX11_row_187 : decode cX11_row 187 = .ok (.iload 4, 2) := by decide +kernel
theorem dX11_row_189 : decode cX11_row 189 = .ok (.iconst 1, 1) := by decide +kernel
theorem dX11_row_190 : decode cX11_row 190 = .ok (.iload 7, 2) := by decide +kernel
theorem dX11_row_192 : decode cX11_row 192 = .ok (.ishl, 1) := by decide +kernel
theorem dX11_row_193 : decode cX11_row 193 = .ok (.ior, 1) := by decide +kernel
theorem dX11_row_194 : decode cX11_row 194 = .ok (.istore 4, 2) := by decide +kernel
theorem dX11_row_196 : decode cX11_row 196 = .ok (.iload 7, 2) := by decide +kernel
theorem dX11_row_198 : decode cX11_row 198 = .ok (.istore 5, 2) := by decide +kernel
theorem dX11_row_200 : decode cX11_row 200 = .ok (.iinc 6 1, 3) := by decide +kernel
theorem dX11_row_203 : decode cX11_row 203 = .ok (.goto (-112), 3) := by decide +kernel
theorem dX11_rowBy_0 : decode cX11_rowBy 0 = .ok (.iload_n 2, 1) := by decide +kernel
theorem dX11_rowBy_1 : decode cX11_rowBy 1 = .ok (.iload 4, 2) := by decide +kernel
theorem dX11_rowBy_3 : decode cX11_rowBy 3 = .ok (.ishr, 1) := by decide +kernel
theorem dX11_rowBy_4 : decode cX11_rowBy 4 = .ok (.iconst 1, 1) := by decide +kernel
theorem dX11_rowBy_5 : decode cX11_rowBy 5 = .ok (.iand, 1) := by decide +kernel
theorem dX11_rowBy_6 : decode cX11_rowBy 6 = .ok (.iconst 1, 1) := by decide +kernel
theorem dX11_rowBy_7 : decode cX11_rowBy 7 = .ok (.if_icmp .ne 6, 3) := by decide +kernel
theorem dX11_rowBy_10 : decode cX11_rowBy 10 = .ok (.ldc 129, 2) := by decide +kernel
theorem dX11_rowBy_12 : decode cX11_rowBy 12 = .ok (.ireturn, 1) := by decide +kernel
theorem dX11_rowBy_13 : decode cX11_rowBy 13 = .ok (.iload_n 3, 1) := by decide +kernel
theorem dX11_rowBy_14 : decode cX11_rowBy 14 = .ok (.iload_n 1, 1) := by decide +kernel
theorem dX11_rowBy_15 : decode cX11_rowBy 15 = .ok (.if_icmp .ne 7, 3) := by decide +kernel
theorem dX11_rowBy_18 : decode cX11_rowBy 18 = .ok (.iconst 0, 1) := by decide +kernel
theorem dX11_rowBy_19 : decode cX11_rowBy 19 = .ok (.goto 10, 3) := by decide +kernel
theorem dX11_rowBy_22 : decode cX11_rowBy 22 = .ok (.aload_n 0, 1) := by decide +kernel
theorem dX11_rowBy_23 : decode cX11_rowBy 23 = .ok (.iload_n 3, 1) := by decide +kernel
theorem dX11_rowBy_24 : decode cX11_rowBy 24 = .ok (.iload 4, 2) := by decide +kernel
theorem dX11_rowBy_26 : decode cX11_rowBy 26 = .ok (.invokevirtual 370, 3) := by decide +kernel
theorem dX11_rowBy_29 : decode cX11_rowBy 29 = .ok (.aload_n 0, 1) := by decide +kernel
theorem dX11_rowBy_30 : decode cX11_rowBy 30 = .ok (.getfield 107, 3) := by decide +kernel
theorem dX11_rowBy_33 : decode cX11_rowBy 33 = .ok (.bipush 13, 2) := by decide +kernel
theorem dX11_rowBy_35 : decode cX11_rowBy 35 = .ok (.iload_n 2, 1) := by decide +kernel
theorem dX11_rowBy_36 : decode cX11_rowBy 36 = .ok (.iconst 1, 1) := by decide +kernel
theorem dX11_rowBy_37 : decode cX11_rowBy 37 = .ok (.iload 4, 2) := by decide +kernel
theorem dX11_rowBy_39 : decode cX11_rowBy 39 = .ok (.ishl, 1) := by decide +kernel
theorem dX11_rowBy_40 : decode cX11_rowBy 40 = .ok (.ior, 1) := by decide +kernel
theorem dX11_rowBy_41 : decode cX11_rowBy 41 = .ok (.imul, 1) := by decide +kernel
theorem dX11_rowBy_42 : decode cX11_rowBy 42 = .ok (.iload 4, 2) := by decide +kernel
theorem dX11_rowBy_44 : decode cX11_rowBy 44 = .ok (.iadd, 1) := by decide +kernel
theorem dX11_rowBy_45 : decode cX11_rowBy 45 = .ok (.iaload, 1) := by decide +kernel
theorem dX11_rowBy_46 : decode cX11_rowBy 46 = .ok (.invokestatic 300, 3) := by decide +kernel
theorem dX11_rowBy_49 : decode cX11_rowBy 49 = .ok (.ireturn, 1) := by decide +kernel
theorem dX11_rubbed_0 : decode cX11_rubbed 0 = .ok (.iload_n 1, 1) := by decide +kernel
theorem dX11_rubbed_1 : decode cX11_rubbed 1 = .ok (.iconst 1, 1) := by decide +kernel
theorem dX11_rubbed_2 : decode cX11_rubbed 2 = .ok (.bipush 8, 2) := by decide +kernel
theorem dX11_rubbed_4 : decode cX11_rubbed 4 = .ok (.invokestatic 139, 3) := by decide +kernel
theorem dX11_rubbed_7 : decode cX11_rubbed 7 = .ok (.ifCond .eq 11, 3) := by decide +kernel
theorem dX11_rubbed_10 : decode cX11_rubbed 10 = .ok (.iload_n 1, 1) := by decide +kernel
theorem dX11_rubbed_11 : decode cX11_rubbed 11 = .ok (.aload_n 0, 1) := by decide +kernel
theorem dX11_rubbed_12 : decode cX11_rubbed 12 = .ok (.getfield 133, 3) := by decide +kernel
theorem dX11_rubbed_15 : decode cX11_rubbed 15 = .ok (.if_icmp .le 7, 3) := by decide +kernel
theorem dX11_rubbed_18 : decode cX11_rubbed 18 = .ok (.ldc2_w 312, 3) := by decide +kernel
theorem dX11_rubbed_21 : decode cX11_rubbed 21 = .ok (.lreturn, 1) := by decide +kernel
theorem dX11_rubbed_22 : decode cX11_rubbed 22 = .ok (.aload_n 0, 1) := by decide +kernel
theorem dX11_rubbed_23 : decode cX11_rubbed 23 = .ok (.iconst 0, 1) := by decide +kernel
theorem dX11_rubbed_24 : decode cX11_rubbed 24 = .ok (.putfield 133, 3) := by decide +kernel
theorem dX11_rubbed_27 : decode cX11_rubbed 27 = .ok (.iconst 0, 1) := by decide +kernel
theorem dX11_rubbed_28 : decode cX11_rubbed 28 = .ok (.istore_n 2, 1) := by decide +kernel
theorem dX11_rubbed_29 : decode cX11_rubbed 29 = .ok (.iload_n 2, 1) := by decide +kernel
theorem dX11_rubbed_30 : decode cX11_rubbed 30 = .ok (.iload_n 1, 1) := by decide +kernel
theorem dX11_rubbed_31 : decode cX11_rubbed 31 = .ok (.if_icmp .ge 40, 3) := by decide +kernel
theorem dX11_rubbed_34 : decode cX11_rubbed 34 = .ok (.aload_n 0, 1) := by decide +kernel
theorem dX11_rubbed_35 : decode cX11_rubbed 35 = .ok (.getfield 29, 3) := by decide +kernel
theorem dX11_rubbed_38 : decode cX11_rubbed 38 = .ok (.iload_n 2, 1) := by decide +kernel
theorem dX11_rubbed_39 : decode cX11_rubbed 39 = .ok (.baload, 1) := by decide +kernel
theorem dX11_rubbed_40 : decode cX11_rubbed 40 = .ok (.bipush 63, 2) := by decide +kernel
theorem dX11_rubbed_42 : decode cX11_rubbed 42 = .ok (.if_icmp .eq 23, 3) := by decide +kernel
theorem dX11_rubbed_45 : decode cX11_rubbed 45 = .ok (.aload_n 0, 1) := by decide +kernel
theorem dX11_rubbed_46 : decode cX11_rubbed 46 = .ok (.getfield 29, 3) := by decide +kernel
theorem dX11_rubbed_49 : decode cX11_rubbed 49 = .ok (.iload_n 2, 1) := by decide +kernel
theorem dX11_rubbed_50 : decode cX11_rubbed 50 = .ok (.baload, 1) := by decide +kernel
theorem dX11_rubbed_51 : decode cX11_rubbed 51 = .ok (.bipush 97, 2) := by decide +kernel
theorem dX11_rubbed_53 : decode cX11_rubbed 53 = .ok (.bipush 122, 2) := by decide +kernel
theorem dX11_rubbed_55 : decode cX11_rubbed 55 = .ok (.invokestatic 139, 3) := by decide +kernel
theorem dX11_rubbed_58 : decode cX11_rubbed 58 = .ok (.ifCond .ne 7, 3) := by decide +kernel
theorem dX11_rubbed_61 : decode cX11_rubbed 61 = .ok (.ldc2_w 324, 3) := by decide +kernel
theorem dX11_rubbed_64 : decode cX11_rubbed 64 = .ok (.lreturn, 1) := by decide +kernel
theorem dX11_rubbed_65 : decode cX11_rubbed 65 = .ok (.iinc 2 1, 3) := by decide +kernel
theorem dX11_rubbed_68 : decode cX11_rubbed 68 = .ok (.goto (-39), 3) := by decide +kernel
theorem dX11_rubbed_71 : decode cX11_rubbed 71 = .ok (.lconst 0, 1) := by decide +kernel
theorem dX11_rubbed_72 : decode cX11_rubbed 72 = .ok (.lstore_n 2, 1) := by decide +kernel
theorem dX11_rubbed_73 : decode cX11_rubbed 73 = .ok (.iconst 0, 1) := by decide +kernel
theorem dX11_rubbed_74 : decode cX11_rubbed 74 = .ok (.istore 4, 2) := by decide +kernel
theorem dX11_rubbed_76 : decode cX11_rubbed 76 = .ok (.iload 4, 2) := by decide +kernel
theorem dX11_rubbed_78 : decode cX11_rubbed 78 = .ok (.aload_n 0, 1) := by decide +kernel
theorem dX11_rubbed_79 : decode cX11_rubbed 79 = .ok (.getfield 130, 3) := by decide +kernel
theorem dX11_rubbed_82 : decode cX11_rubbed 82 = .ok (.if_icmp .ge 35, 3) := by decide +kernel
theorem dX11_rubbed_85 : decode cX11_rubbed 85 = .ok (.aload_n 0, 1) := by decide +kernel
theorem dX11_rubbed_86 : decode cX11_rubbed 86 = .ok (.iload 4, 2) := by decide +kernel
theorem dX11_rubbed_88 : decode cX11_rubbed 88 = .ok (.invokevirtual 282, 3) := by decide +kernel
theorem dX11_rubbed_91 : decode cX11_rubbed 91 = .ok (.ifCond .eq 20, 3) := by decide +kernel
theorem dX11_rubbed_94 : decode cX11_rubbed 94 = .ok (.aload_n 0, 1) := by decide +kernel
theorem dX11_rubbed_95 : decode cX11_rubbed 95 = .ok (.iload 4, 2) := by decide +kernel
theorem dX11_rubbed_97 : decode cX11_rubbed 97 = .ok (.iload_n 1, 1) := by decide +kernel
theorem dX11_rubbed_98 : decode cX11_rubbed 98 = .ok (.invokevirtual 401, 3) := by decide +kernel
theorem dX11_rubbed_101 : decode cX11_rubbed 101 = .ok (.ifCond .eq 10, 3) := by decide +kernel
theorem dX11_rubbed_104 : decode cX11_rubbed 104 = .ok (.lload_n 2, 1) := by decide +kernel
theorem dX11_rubbed_105 : decode cX11_rubbed 105 = .ok (.lconst 1, 1) := by decide +kernel
theorem dX11_rubbed_106 : decode cX11_rubbed 106 = .ok (.iload 4, 2) := by decide +kernel
theorem dX11_rubbed_108 : decode cX11_rubbed 108 = .ok (.lshl, 1) := by decide +kernel
theorem dX11_rubbed_109 : decode cX11_rubbed 109 = .ok (.lor, 1) := by decide +kernel
theorem dX11_rubbed_110 : decode cX11_rubbed 110 = .ok (.lstore_n 2, 1) := by decide +kernel
theorem dX11_rubbed_111 : decode cX11_rubbed 111 = .ok (.iinc 4 1, 3) := by decide +kernel
theorem dX11_rubbed_114 : decode cX11_rubbed 114 = .ok (.goto (-38), 3) := by decide +kernel
theorem dX11_rubbed_117 : decode cX11_rubbed 117 = .ok (.lload_n 2, 1) := by decide +kernel
theorem dX11_rubbed_118 : decode cX11_rubbed 118 = .ok (.lreturn, 1) := by decide +kernel
theorem dX11_seed_0 : decode cX11_seed 0 = .ok (.iload_n 1, 1) := by decide +kernel
theorem dX11_seed_1 : decode cX11_seed 1 = .ok (.iconst 0, 1) := by decide +kernel
theorem dX11_seed_2 : decode cX11_seed 2 = .ok (.ldc_w 419, 3) := by decide +kernel
theorem dX11_seed_5 : decode cX11_seed 5 = .ok (.invokestatic 139, 3) := by decide +kernel
theorem dX11_seed_8 : decode cX11_seed 8 = .ok (.ifCond .ne 5, 3) := by decide +kernel
theorem dX11_seed_11 : decode cX11_seed 11 = .ok (.iconst 0, 1) := by decide +kernel
theorem dX11_seed_12 : decode cX11_seed 12 = .ok (.ireturn, 1) := by decide +kernel
theorem dX11_seed_13 : decode cX11_seed 13 = .ok (.aload_n 0, 1) := by decide +kernel
theorem dX11_seed_14 : decode cX11_seed 14 = .ok (.iload_n 1, 1) := by decide +kernel
theorem dX11_seed_15 : decode cX11_seed 15 = .ok (.putfield 122, 3) := by decide +kernel
theorem dX11_seed_18 : decode cX11_seed 18 = .ok (.iconst 1, 1) := by decide +kernel
theorem dX11_seed_19 : decode cX11_seed 19 = .ok (.ireturn, 1) := by decide +kernel
theorem dX11_speak_0 : decode cX11_speak 0 = .ok (.iload_n 1, 1) := by decide +kernel
theorem dX11_speak_1 : decode cX11_speak 1 = .ok (.iconst (-1), 1) := by decide +kernel
theorem dX11_speak_2 : decode cX11_speak 2 = .ok (.iconst 3, 1) := by decide +kernel
theorem dX11_speak_3 : decode cX11_speak 3 = .ok (.invokestatic 139, 3) := by decide +kernel
theorem dX11_speak_6 : decode cX11_speak 6 = .ok (.ifCond .ne 5, 3) := by decide +kernel
theorem dX11_speak_9 : decode cX11_speak 9 = .ok (.iconst 0, 1) := by decide +kernel
theorem dX11_speak_10 : decode cX11_speak 10 = .ok (.ireturn, 1) := by decide +kernel
theorem dX11_speak_11 : decode cX11_speak 11 = .ok (.aload_n 0, 1) := by decide +kernel
theorem dX11_speak_12 : decode cX11_speak 12 = .ok (.iload_n 1, 1) := by decide +kernel
theorem dX11_speak_13 : decode cX11_speak 13 = .ok (.putfield 126, 3) := by decide +kernel
theorem dX11_speak_16 : decode cX11_speak 16 = .ok (.iconst 1, 1) := by decide +kernel
theorem dX11_speak_17 : decode cX11_speak 17 = .ok (.ireturn, 1) := by decide +kernel
theorem dX11_square_0 : decode cX11_square 0 = .ok (.iload_n 1, 1) := by decide +kernel
theorem dX11_square_1 : decode cX11_square 1 = .ok (.iconst 2, 1) := by decide +kernel
theorem dX11_square_2 : decode cX11_square 2 = .ok (.iconst 4, 1) := by decide +kernel
theorem dX11_square_3 : decode cX11_square 3 = .ok (.invokestatic 139, 3) := by decide +kernel
theorem dX11_square_6 : decode cX11_square 6 = .ok (.ifCond .eq 14, 3) := by decide +kernel
theorem dX11_square_9 : decode cX11_square 9 = .ok (.iload_n 2, 1) := by decide +kernel
theorem dX11_square_10 : decode cX11_square 10 = .ok (.iconst (-1), 1) := by decide +kernel
theorem dX11_square_11 : decode cX11_square 11 = .ok (.iload_n 1, 1) := by decide +kernel
theorem dX11_square_12 : decode cX11_square 12 = .ok (.iconst 1, 1) := by decide +kernel
theorem dX11_square_13 : decode cX11_square 13 = .ok (.isub, 1) := by decide +kernel
theorem dX11_square_14 : decode cX11_square 14 = .ok (.invokestatic 139, 3) := by decide +kernel
theorem dX11_square_17 : decode cX11_square 17 = .ok (.ifCond .ne 5, 3) := by decide +kernel
theorem dX11_square_20 : decode cX11_square 20 = .ok (.iconst (-1), 1) := by decide +kernel
theorem dX11_square_21 : decode cX11_square 21 = .ok (.ireturn, 1) := by decide +kernel
theorem dX11_square_22 : decode cX11_square 22 = .ok (.aload_n 0, 1) := by decide +kernel
theorem dX11_square_23 : decode cX11_square 23 = .ok (.iload_n 1, 1) := by decide +kernel
theorem dX11_square_24 : decode cX11_square 24 = .ok (.invokevirtual 416, 3) := by decide +kernel
theorem dX11_square_27 : decode cX11_square 27 = .ok (.iload_n 2, 1) := by decide +kernel
theorem dX11_square_28 : decode cX11_square 28 = .ok (.iconst (-1), 1) := by decide +kernel
theorem dX11_square_29 : decode cX11_square 29 = .ok (.if_icmp .ne 10, 3) := by decide +kernel
theorem dX11_square_32 : decode cX11_square 32 = .ok (.aload_n 0, 1) := by decide +kernel
theorem dX11_square_33 : decode cX11_square 33 = .ok (.getfield 410, 3) := by decide +kernel
theorem dX11_square_36 : decode cX11_square 36 = .ok (.goto 21, 3) := by decide +kernel
theorem dX11_square_39 : decode cX11_square 39 = .ok (.aload_n 0, 1) := by decide +kernel
theorem dX11_square_40 : decode cX11_square 40 = .ok (.getfield 410, 3) := by decide +kernel
theorem dX11_square_43 : decode cX11_square 43 = .ok (.ifCond .ne 8, 3) := by decide +kernel
theorem dX11_square_46 : decode cX11_square 46 = .ok (.bipush (-2), 2) := by decide +kernel
theorem dX11_square_48 : decode cX11_square 48 = .ok (.goto 9, 3) := by decide +kernel
theorem dX11_square_51 : decode cX11_square 51 = .ok (.aload_n 0, 1) := by decide +kernel
theorem dX11_square_52 : decode cX11_square 52 = .ok (.getfield 119, 3) := by decide +kernel
theorem dX11_square_55 : decode cX11_square 55 = .ok (.iload_n 2, 1) := by decide +kernel
theorem dX11_square_56 : decode cX11_square 56 = .ok (.iaload, 1) := by decide +kernel
theorem dX11_square_57 : decode cX11_square 57 = .ok (.ireturn, 1) := by decide +kernel
theorem dX11_step_0 : decode cX11_step 0 = .ok (.aload_n 0, 1) := by decide +kernel
theorem dX11_step_1 : decode cX11_step 1 = .ok (.iload_n 1, 1) := by decide +kernel
theorem dX11_step_2 : decode cX11_step 2 = .ok (.invokevirtual 154, 3) := by decide +kernel
theorem dX11_step_5 : decode cX11_step 5 = .ok (.ifCond .eq 20, 3) := by decide +kernel
theorem dX11_step_8 : decode cX11_step 8 = .ok (.aload_n 0, 1) := by decide +kernel
theorem dX11_step_9 : decode cX11_step 9 = .ok (.iload_n 2, 1) := by decide +kernel
theorem dX11_step_10 : decode cX11_step 10 = .ok (.invokevirtual 154, 3) := by decide +kernel
theorem dX11_step_13 : decode cX11_step 13 = .ok (.ifCond .eq 12, 3) := by decide +kernel
theorem dX11_step_16 : decode cX11_step 16 = .ok (.iload_n 3, 1) := by decide +kernel
theorem dX11_step_17 : decode cX11_step 17 = .ok (.iconst 0, 1) := by decide +kernel
theorem dX11_step_18 : decode cX11_step 18 = .ok (.iconst 2, 1) := by decide +kernel
theorem dX11_step_19 : decode cX11_step 19 = .ok (.invokestatic 139, 3) := by decide +kernel
theorem dX11_step_22 : decode cX11_step 22 = .ok (.ifCond .ne 5, 3) := by decide +kernel
theorem dX11_step_25 : decode cX11_step 25 = .ok (.iconst (-1), 1) := by decide +kernel
theorem dX11_step_26 : decode cX11_step 26 = .ok (.ireturn, 1) := by decide +kernel
theorem dX11_step_27 : decode cX11_step 27 = .ok (.aload_n 0, 1) := by decide +kernel
theorem dX11_step_28 : decode cX11_step 28 = .ok (.invokevirtual 291, 3) := by decide +kernel
theorem dX11_step_31 : decode cX11_step 31 = .ok (.aload_n 0, 1) := by decide +kernel
theorem dX11_step_32 : decode cX11_step 32 = .ok (.iload_n 1, 1) := by decide +kernel
theorem dX11_step_33 : decode cX11_step 33 = .ok (.iload_n 2, 1) := by decide +kernel
theorem dX11_step_34 : decode cX11_step 34 = .ok (.invokevirtual 294, 3) := by decide +kernel
theorem dX11_step_37 : decode cX11_step 37 = .ok (.ifCond .ne 6, 3) := by decide +kernel
theorem dX11_step_40 : decode cX11_step 40 = .ok (.bipush (-2), 2) := by decide +kernel
theorem dX11_step_42 : decode cX11_step 42 = .ok (.ireturn, 1) := by decide +kernel
theorem dX11_step_43 : decode cX11_step 43 = .ok (.iload_n 3, 1) := by decide +kernel
theorem dX11_step_44 : decode cX11_step 44 = .ok (.ifCond .ne 17, 3) := by decide +kernel
theorem dX11_step_47 : decode cX11_step 47 = .ok (.aload_n 0, 1) := by decide +kernel
theorem dX11_step_48 : decode cX11_step 48 = .ok (.getfield 72, 3) := by decide +kernel
theorem dX11_step_51 : decode cX11_step 51 = .ok (.bipush 40, 2) := by decide +kernel
theorem dX11_step_53 : decode cX11_step 53 = .ok (.iload_n 1, 1) := by decide +kernel
theorem dX11_step_54 : decode cX11_step 54 = .ok (.imul, 1) := by decide +kernel
theorem dX11_step_55 : decode cX11_step 55 = .ok (.iload_n 2, 1) := by decide +kernel
theorem dX11_step_56 : decode cX11_step 56 = .ok (.iadd, 1) := by decide +kernel
theorem dX11_step_57 : decode cX11_step 57 = .ok (.iaload, 1) := by decide +kernel
theorem dX11_step_58 : decode cX11_step 58 = .ok (.goto 33, 3) := by decide +kernel
theorem dX11_step_61 : decode cX11_step 61 = .ok (.iload_n 3, 1) := by decide +kernel
theorem dX11_step_62 : decode cX11_step 62 = .ok (.iconst 1, 1) := by decide +kernel
theorem dX11_step_63 : decode cX11_step 63 = .ok (.if_icmp .ne 17, 3) := by decide +kernel
theorem dX11_step_66 : decode cX11_step 66 = .ok (.aload_n 0, 1) := by decide +kernel
theorem dX11_step_67 : decode cX11_step 67 = .ok (.getfield 75, 3) := by decide +kernel
theorem dX11_step_70 : decode cX11_step 70 = .ok (.bipush 40, 2) := by decide +kernel
theorem dX11_step_72 : decode cX11_step 72 = .ok (.iload_n 1, 1) := by decide +kernel
theorem dX11_step_73 : decode cX11_step 73 = .ok (.imul, 1) := by decide +kernel
theorem dX11_step_74 : decode cX11_step 74 = .ok (.iload_n 2, 1) := by decide +kernel
theorem dX11_step_75 : decode cX11_step 75 = .ok (.iadd, 1) := by decide +kernel
theorem dX11_step_76 : decode cX11_step 76 = .ok (.iaload, 1) := by decide +kernel
theorem dX11_step_77 : decode cX11_step 77 = .ok (.goto 14, 3) := by decide +kernel
theorem dX11_step_80 : decode cX11_step 80 = .ok (.aload_n 0, 1) := by decide +kernel
theorem dX11_step_81 : decode cX11_step 81 = .ok (.getfield 78, 3) := by decide +kernel
theorem dX11_step_84 : decode cX11_step 84 = .ok (.bipush 40, 2) := by decide +kernel
theorem dX11_step_86 : decode cX11_step 86 = .ok (.iload_n 1, 1) := by decide +kernel
theorem dX11_step_87 : decode cX11_step 87 = .ok (.imul, 1) := by decide +kernel
theorem dX11_step_88 : decode cX11_step 88 = .ok (.iload_n 2, 1) := by decide +kernel
theorem dX11_step_89 : decode cX11_step 89 = .ok (.iadd, 1) := by decide +kernel
theorem dX11_step_90 : decode cX11_step 90 = .ok (.iaload, 1) := by decide +kernel
theorem dX11_step_91 : decode cX11_step 91 = .ok (.ireturn, 1) := by decide +kernel
theorem dX11_stepTo_0 : decode cX11_stepTo 0 = .ok (.iload_n 2, 1) := by decide +kernel
theorem dX11_stepTo_1 : decode cX11_stepTo 1 = .ok (.istore_n 3, 1) := by decide +kernel
theorem dX11_stepTo_2 : decode cX11_stepTo 2 = .ok (.iconst 0, 1) := by decide +kernel
theorem dX11_stepTo_3 : decode cX11_stepTo 3 = .ok (.istore 4, 2) := by decide +kernel
theorem dX11_stepTo_5 : decode cX11_stepTo 5 = .ok (.aload_n 0, 1) := by decide +kernel
theorem dX11_stepTo_6 : decode cX11_stepTo 6 = .ok (.iload_n 1, 1) := by decide +kernel
theorem dX11_stepTo_7 : decode cX11_stepTo 7 = .ok (.iload 4, 2) := by decide +kernel
theorem dX11_stepTo_9 : decode cX11_stepTo 9 = .ok (.invokevirtual 294, 3) := by decide +kernel
theorem dX11_stepTo_12 : decode cX11_stepTo 12 = .ok (.ifCond .eq 7, 3) := by decide +kernel
theorem dX11_stepTo_15 : decode cX11_stepTo 15 = .ok (.iload_n 3, 1) := by decide +kernel
theorem dX11_stepTo_16 : decode cX11_stepTo 16 = .ok (.ifCond .le 30, 3) := by decide +kernel
theorem dX11_stepTo_19 : decode cX11_stepTo 19 = .ok (.aload_n 0, 1) := by decide +kernel
theorem dX11_stepTo_20 : decode cX11_stepTo 20 = .ok (.iload_n 1, 1) := by decide +kernel
theorem dX11_stepTo_21 : decode cX11_stepTo 21 = .ok (.iload 4, 2) := by decide +kernel
theorem dX11_stepTo_23 : decode cX11_stepTo 23 = .ok (.invokevirtual 294, 3) := by decide +kernel
theorem dX11_stepTo_26 : decode cX11_stepTo 26 = .ok (.ifCond .eq 9, 3) := by decide +kernel
theorem dX11_stepTo_29 : decode cX11_stepTo 29 = .ok (.iload_n 3, 1) := by decide +kernel
theorem dX11_stepTo_30 : decode cX11_stepTo 30 = .ok (.iconst 1, 1) := by decide +kernel
theorem dX11_stepTo_31 : decode cX11_stepTo 31 = .ok (.isub, 1) := by decide +kernel
theorem dX11_stepTo_32 : decode cX11_stepTo 32 = .ok (.goto 4, 3) := by decide +kernel
theorem dX11_stepTo_35 : decode cX11_stepTo 35 = .ok (.iload_n 3, 1) := by decide +kernel
theorem dX11_stepTo_36 : decode cX11_stepTo 36 = .ok (.istore_n 3, 1) := by decide +kernel
theorem dX11_stepTo_37 : decode cX11_stepTo 37 = .ok (.iload 4, 2) := by decide +kernel
theorem dX11_stepTo_39 : decode cX11_stepTo 39 = .ok (.iconst 1, 1) := by decide +kernel
theorem dX11_stepTo_40 : decode cX11_stepTo 40 = .ok (.iadd, 1) := by decide +kernel
theorem dX11_stepTo_41 : decode cX11_stepTo 41 = .ok (.istore 4, 2) := by decide +kernel
theorem dX11_stepTo_43 : decode cX11_stepTo 43 = .ok (.goto (-38), 3) := by decide +kernel
theorem dX11_stepTo_46 : decode cX11_stepTo 46 = .ok (.iload 4, 2) := by decide +kernel
theorem dX11_stepTo_48 : decode cX11_stepTo 48 = .ok (.ireturn, 1) := by decide +kernel
theorem dX11_stepTold_0 : decode cX11_stepTold 0 = .ok (.aload_n 0, 1) := by decide +kernel
theorem dX11_stepTold_1 : decode cX11_stepTold 1 = .ok (.getfield 72, 3) := by decide +kernel
theorem dX11_stepTold_4 : decode cX11_stepTold 4 = .ok (.bipush 40, 2) := by decide +kernel
theorem dX11_stepTold_6 : decode cX11_stepTold 6 = .ok (.aload_n 0, 1) := by decide +kernel
theorem dX11_stepTold_7 : decode cX11_stepTold 7 = .ok (.getfield 103, 3) := by decide +kernel
theorem dX11_stepTold_10 : decode cX11_stepTold 10 = .ok (.iload_n 1, 1) := by decide +kernel
theorem dX11_stepTold_11 : decode cX11_stepTold 11 = .ok (.iaload, 1) := by decide +kernel
theorem dX11_stepTold_12 : decode cX11_stepTold 12 = .ok (.imul, 1) := by decide +kernel
theorem dX11_stepTold_13 : decode cX11_stepTold 13 = .ok (.aload_n 0, 1) := by decide +kernel
theorem dX11_stepTold_14 : decode cX11_stepTold 14 = .ok (.getfield 103, 3) := by decide +kernel
theorem dX11_stepTold_17 : decode cX11_stepTold 17 = .ok (.iload_n 2, 1) := by decide +kernel
theorem dX11_stepTold_18 : decode cX11_stepTold 18 = .ok (.iaload, 1) := by decide +kernel
theorem dX11_stepTold_19 : decode cX11_stepTold 19 = .ok (.iadd, 1) := by decide +kernel
theorem dX11_stepTold_20 : decode cX11_stepTold 20 = .ok (.iaload, 1) := by decide +kernel
theorem dX11_stepTold_21 : decode cX11_stepTold 21 = .ok (.ireturn, 1) := by decide +kernel
theorem dX11_stepWay_0 : decode cX11_stepWay 0 = .ok (.aload_n 0, 1) := by decide +kernel
theorem dX11_stepWay_1 : decode cX11_stepWay 1 = .ok (.iload_n 1, 1) := by decide +kernel
theorem dX11_stepWay_2 : decode cX11_stepWay 2 = .ok (.iload_n 2, 1) := by decide +kernel
theorem dX11_stepWay_3 : decode cX11_stepWay 3 = .ok (.invokevirtual 294, 3) := by decide +kernel
theorem dX11_stepWay_6 : decode cX11_stepWay 6 = .ok (.ifCond .eq 22, 3) := by decide +kernel
theorem dX11_stepWay_9 : decode cX11_stepWay 9 = .ok (.bipush 64, 2) := by decide +kernel
theorem dX11_stepWay_11 : decode cX11_stepWay 11 = .ok (.aload_n 0, 1) := by decide +kernel
theorem dX11_stepWay_12 : decode cX11_stepWay 12 = .ok (.getfield 72, 3) := by decide +kernel
theorem dX11_stepWay_15 : decode cX11_stepWay 15 = .ok (.bipush 40, 2) := by decide +kernel
theorem dX11_stepWay_17 : decode cX11_stepWay 17 = .ok (.iload_n 1, 1) := by decide +kernel
theorem dX11_stepWay_18 : decode cX11_stepWay 18 = .ok (.imul, 1) := by decide +kernel
theorem dX11_stepWay_19 : decode cX11_stepWay 19 = .ok (.iload_n 2, 1) := by decide +kernel
theorem dX11_stepWay_20 : decode cX11_stepWay 20 = .ok (.iadd, 1) := by decide +kernel
theorem dX11_stepWay_21 : decode cX11_stepWay 21 = .ok (.iaload, 1) := by decide +kernel
theorem dX11_stepWay_22 : decode cX11_stepWay 22 = .ok (.imul, 1) := by decide +kernel
theorem dX11_stepWay_23 : decode cX11_stepWay 23 = .ok (.iconst 1, 1) := by decide +kernel
theorem dX11_stepWay_24 : decode cX11_stepWay 24 = .ok (.iadd, 1) := by decide +kernel
theorem dX11_stepWay_25 : decode cX11_stepWay 25 = .ok (.goto 5, 3) := by decide +kernel
theorem dX11_stepWay_28 : decode cX11_stepWay 28 = .ok (.ldc 129, 2) := by decide +kernel
theorem dX11_stepWay_30 : decode cX11_stepWay 30 = .ok (.ireturn, 1) := by decide +kernel
theorem dX11_stepsFrom_0 : decode cX11_stepsFrom 0 = .ok (.iconst 0, 1) := by decide +kernel
theorem dX11_stepsFrom_1 : decode cX11_stepsFrom 1 = .ok (.istore_n 2, 1) := by decide +kernel
theorem dX11_stepsFrom_2 : decode cX11_stepsFrom 2 = .ok (.iconst 0, 1) := by decide +kernel
theorem dX11_stepsFrom_3 : decode cX11_stepsFrom 3 = .ok (.istore_n 3, 1) := by decide +kernel
theorem dX11_stepsFrom_4 : decode cX11_stepsFrom 4 = .ok (.iload_n 3, 1) := by decide +kernel
theorem dX11_stepsFrom_5 : decode cX11_stepsFrom 5 = .ok (.aload_n 0, 1) := by decide +kernel
theorem dX11_stepsFrom_6 : decode cX11_stepsFrom 6 = .ok (.getfield 130, 3) := by decide +kernel
theorem dX11_stepsFrom_9 : decode cX11_stepsFrom 9 = .ok (.if_icmp .ge 26, 3) := by decide +kernel
theorem dX11_stepsFrom_12 : decode cX11_stepsFrom 12 = .ok (.iload_n 2, 1) := by decide +kernel
theorem dX11_stepsFrom_13 : decode cX11_stepsFrom 13 = .ok (.aload_n 0, 1) := by decide +kernel
theorem dX11_stepsFrom_14 : decode cX11_stepsFrom 14 = .ok (.iload_n 1, 1) := by decide +kernel
theorem dX11_stepsFrom_15 : decode cX11_stepsFrom 15 = .ok (.iload_n 3, 1) := by decide +kernel
theorem dX11_stepsFrom_16 : decode cX11_stepsFrom 16 = .ok (.invokevirtual 294, 3) := by decide +kernel
theorem dX11_stepsFrom_19 : decode cX11_stepsFrom 19 = .ok (.ifCond .eq 7, 3) := by decide +kernel
theorem dX11_stepsFrom_22 : decode cX11_stepsFrom 22 = .ok (.iconst 1, 1) := by decide +kernel
theorem dX11_stepsFrom_23 : decode cX11_stepsFrom 23 = .ok (.goto 4, 3) := by decide +kernel
theorem dX11_stepsFrom_26 : decode cX11_stepsFrom 26 = .ok (.iconst 0, 1) := by decide +kernel
theorem dX11_stepsFrom_27 : decode cX11_stepsFrom 27 = .ok (.iadd, 1) := by decide +kernel
theorem dX11_stepsFrom_28 : decode cX11_stepsFrom 28 = .ok (.istore_n 2, 1) := by decide +kernel
theorem dX11_stepsFrom_29 : decode cX11_stepsFrom 29 = .ok (.iinc 3 1, 3) := by decide +kernel
theorem dX11_stepsFrom_32 : decode cX11_stepsFrom 32 = .ok (.goto (-28), 3) := by decide +kernel
theorem dX11_stepsFrom_35 : decode cX11_stepsFrom 35 = .ok (.iload_n 2, 1) := by decide +kernel
theorem dX11_stepsFrom_36 : decode cX11_stepsFrom 36 = .ok (.ireturn, 1) := by decide +kernel
theorem dX11_sum_0 : decode cX11_sum 0 = .ok (.iload_n 0, 1) := by decide +kernel
theorem dX11_sum_1 : decode cX11_sum 1 = .ok (.ldc 129, 2) := by decide +kernel
theorem dX11_sum_3 : decode cX11_sum 3 = .ok (.if_icmp .ge 9, 3) := by decide +kernel
theorem dX11_sum_6 : decode cX11_sum 6 = .ok (.iload_n 1, 1) := by decide +kernel
theorem dX11_sum_7 : decode cX11_sum 7 = .ok (.ldc 129, 2) := by decide +kernel
theorem dX11_sum_9 : decode cX11_sum 9 = .ok (.if_icmp .lt 8, 3) := by decide +kernel
theorem dX11_sum_12 : decode cX11_sum 12 = .ok (.ldc 129, 2) := by decide +kernel
theorem dX11_sum_14 : decode cX11_sum 14 = .ok (.goto 6, 3) := by decide +kernel
theorem dX11_sum_17 : decode cX11_sum 17 = .ok (.iload_n 0, 1) := by decide +kernel
theorem dX11_sum_18 : decode cX11_sum 18 = .ok (.iload_n 1, 1) := by decide +kernel
theorem dX11_sum_19 : decode cX11_sum 19 = .ok (.iadd, 1) := by decide +kernel
theorem dX11_sum_20 : decode cX11_sum 20 = .ok (.ireturn, 1) := by decide +kernel
theorem dX11_sumOf_0 : decode cX11_sumOf 0 = .ok (.lconst 0, 1) := by decide +kernel
theorem dX11_sumOf_1 : decode cX11_sumOf 1 = .ok (.lstore 4, 2) := by decide +kernel
theorem dX11_sumOf_3 : decode cX11_sumOf 3 = .ok (.iconst 0, 1) := by decide +kernel
theorem dX11_sumOf_4 : decode cX11_sumOf 4 = .ok (.istore 6, 2) := by decide +kernel
theorem dX11_sumOf_6 : decode cX11_sumOf 6 = .ok (.iload 6, 2) := by decide +kernel
theorem dX11_sumOf_8 : decode cX11_sumOf 8 = .ok (.aload_n 0, 1) := by decide +kernel
theorem dX11_sumOf_9 : decode cX11_sumOf 9 = .ok (.getfield 130, 3) := by decide +kernel
theorem dX11_sumOf_12 : decode cX11_sumOf 12 = .ok (.if_icmp .ge 57, 3) := by decide +kernel
theorem dX11_sumOf_15 : decode cX11_sumOf 15 = .ok (.aload_n 0, 1) := by decide +kernel
theorem dX11_sumOf_16 : decode cX11_sumOf 16 = .ok (.iload_n 1, 1) := by decide +kernel
theorem dX11_sumOf_17 : decode cX11_sumOf 17 = .ok (.iload 6, 2) := by decide +kernel
theorem dX11_sumOf_19 : decode cX11_sumOf 19 = .ok (.invokevirtual 294, 3) := by decide +kernel
theorem dX11_sumOf_22 : decode cX11_sumOf 22 = .ok (.ifCond .eq 41, 3) := by decide +kernel
theorem dX11_sumOf_25 : decode cX11_sumOf 25 = .ok (.aload_n 0, 1) := by decide +kernel
theorem dX11_sumOf_26 : decode cX11_sumOf 26 = .ok (.getfield 72, 3) := by decide +kernel
theorem dX11_sumOf_29 : decode cX11_sumOf 29 = .ok (.bipush 40, 2) := by decide +kernel
theorem dX11_sumOf_31 : decode cX11_sumOf 31 = .ok (.iload_n 1, 1) := by decide +kernel
theorem dX11_sumOf_32 : decode cX11_sumOf 32 = .ok (.imul, 1) := by decide +kernel
theorem dX11_sumOf_33 : decode cX11_sumOf 33 = .ok (.iload 6, 2) := by decide +kernel
theorem dX11_sumOf_35 : decode cX11_sumOf 35 = .ok (.iadd, 1) := by decide +kernel
theorem dX11_sumOf_36 : decode cX11_sumOf 36 = .ok (.iaload, 1) := by decide +kernel
theorem dX11_sumOf_37 : decode cX11_sumOf 37 = .ok (.aload_n 0, 1) := by decide +kernel
theorem dX11_sumOf_38 : decode cX11_sumOf 38 = .ok (.iload 6, 2) := by decide +kernel
theorem dX11_sumOf_40 : decode cX11_sumOf 40 = .ok (.iload_n 2, 1) := by decide +kernel
theorem dX11_sumOf_41 : decode cX11_sumOf 41 = .ok (.invokevirtual 314, 3) := by decide +kernel
theorem dX11_sumOf_44 : decode cX11_sumOf 44 = .ok (.invokestatic 300, 3) := by decide +kernel
theorem dX11_sumOf_47 : decode cX11_sumOf 47 = .ok (.iload_n 3, 1) := by decide +kernel
theorem dX11_sumOf_48 : decode cX11_sumOf 48 = .ok (.if_icmp .ne 15, 3) := by decide +kernel
theorem dX11_sumOf_51 : decode cX11_sumOf 51 = .ok (.lload 4, 2) := by decide +kernel
theorem dX11_sumOf_53 : decode cX11_sumOf 53 = .ok (.aload_n 0, 1) := by decide +kernel
theorem dX11_sumOf_54 : decode cX11_sumOf 54 = .ok (.getfield 84, 3) := by decide +kernel
theorem dX11_sumOf_57 : decode cX11_sumOf 57 = .ok (.iload 6, 2) := by decide +kernel
theorem dX11_sumOf_59 : decode cX11_sumOf 59 = .ok (.laload, 1) := by decide +kernel
theorem dX11_sumOf_60 : decode cX11_sumOf 60 = .ok (.ladd, 1) := by decide +kernel
theorem dX11_sumOf_61 : decode cX11_sumOf 61 = .ok (.lstore 4, 2) := by decide +kernel
theorem dX11_sumOf_63 : decode cX11_sumOf 63 = .ok (.iinc 6 1, 3) := by decide +kernel
theorem dX11_sumOf_66 : decode cX11_sumOf 66 = .ok (.goto (-60), 3) := by decide +kernel
theorem dX11_sumOf_69 : decode cX11_sumOf 69 = .ok (.lload 4, 2) := by decide +kernel
theorem dX11_sumOf_71 : decode cX11_sumOf 71 = .ok (.lreturn, 1) := by decide +kernel
theorem dX11_sumSign_0 : decode cX11_sumSign 0 = .ok (.iload_n 0, 1) := by decide +kernel
theorem dX11_sumSign_1 : decode cX11_sumSign 1 = .ok (.bipush 43, 2) := by decide +kernel
theorem dX11_sumSign_3 : decode cX11_sumSign 3 = .ok (.if_icmp .ne 7, 3) := by decide +kernel
theorem dX11_sumSign_6 : decode cX11_sumSign 6 = .ok (.iconst 2, 1) := by decide +kernel
theorem dX11_sumSign_7 : decode cX11_sumSign 7 = .ok (.goto 45, 3) := by decide +kernel
theorem dX11_sumSign_10 : decode cX11_sumSign 10 = .ok (.iload_n 0, 1) := by decide +kernel
theorem dX11_sumSign_11 : decode cX11_sumSign 11 = .ok (.bipush 45, 2) := by decide +kernel
theorem dX11_sumSign_13 : decode cX11_sumSign 13 = .ok (.if_icmp .ne 7, 3) := by decide +kernel
theorem dX11_sumSign_16 : decode cX11_sumSign 16 = .ok (.iconst 3, 1) := by decide +kernel
theorem dX11_sumSign_17 : decode cX11_sumSign 17 = .ok (.goto 35, 3) := by decide +kernel
theorem dX11_sumSign_20 : decode cX11_sumSign 20 = .ok (.iload_n 0, 1) := by decide +kernel
theorem dX11_sumSign_21 : decode cX11_sumSign 21 = .ok (.bipush 42, 2) := by decide +kernel
theorem dX11_sumSign_23 : decode cX11_sumSign 23 = .ok (.if_icmp .ne 7, 3) := by decide +kernel
theorem dX11_sumSign_26 : decode cX11_sumSign 26 = .ok (.iconst 4, 1) := by decide +kernel
theorem dX11_sumSign_27 : decode cX11_sumSign 27 = .ok (.goto 25, 3) := by decide +kernel
theorem dX11_sumSign_30 : decode cX11_sumSign 30 = .ok (.iload_n 0, 1) := by decide +kernel
theorem dX11_sumSign_31 : decode cX11_sumSign 31 = .ok (.bipush 47, 2) := by decide +kernel
theorem dX11_sumSign_33 : decode cX11_sumSign 33 = .ok (.if_icmp .ne 7, 3) := by decide +kernel
theorem dX11_sumSign_36 : decode cX11_sumSign 36 = .ok (.iconst 5, 1) := by decide +kernel
theorem dX11_sumSign_37 : decode cX11_sumSign 37 = .ok (.goto 15, 3) := by decide +kernel
theorem dX11_sumSign_40 : decode cX11_sumSign 40 = .ok (.iload_n 0, 1) := by decide +kernel
theorem dX11_sumSign_41 : decode cX11_sumSign 41 = .ok (.bipush 37, 2) := by decide +kernel
theorem dX11_sumSign_43 : decode cX11_sumSign 43 = .ok (.if_icmp .ne 8, 3) := by decide +kernel
theorem dX11_sumSign_46 : decode cX11_sumSign 46 = .ok (.bipush 6, 2) := by decide +kernel
theorem dX11_sumSign_48 : decode cX11_sumSign 48 = .ok (.goto 4, 3) := by decide +kernel
theorem dX11_sumSign_51 : decode cX11_sumSign 51 = .ok (.iconst (-1), 1) := by decide +kernel
theorem dX11_sumSign_52 : decode cX11_sumSign 52 = .ok (.ireturn, 1) := by decide +kernel
theorem dX11_takes_0 : decode cX11_takes 0 = .ok (.aload_n 0, 1) := by decide +kernel
theorem dX11_takes_1 : decode cX11_takes 1 = .ok (.invokevirtual 167, 3) := by decide +kernel
theorem dX11_takes_4 : decode cX11_takes 4 = .ok (.iload_n 1, 1) := by decide +kernel
theorem dX11_takes_5 : decode cX11_takes 5 = .ok (.if_icmp .eq 13, 3) := by decide +kernel
theorem dX11_takes_8 : decode cX11_takes 8 = .ok (.aload_n 0, 1) := by decide +kernel
theorem dX11_takes_9 : decode cX11_takes 9 = .ok (.iconst 1, 1) := by decide +kernel
theorem dX11_takes_10 : decode cX11_takes 10 = .ok (.aload_n 0, 1) := by decide +kernel
theorem dX11_takes_11 : decode cX11_takes 11 = .ok (.getfield 161, 3) := by decide +kernel
theorem dX11_takes_14 : decode cX11_takes 14 = .ok (.invokevirtual 174, 3) := by decide +kernel
theorem dX11_takes_17 : decode cX11_takes 17 = .ok (.ireturn, 1) := by decide +kernel
theorem dX11_takes_18 : decode cX11_takes 18 = .ok (.aload_n 0, 1) := by decide +kernel
theorem dX11_takes_19 : decode cX11_takes 19 = .ok (.aload_n 0, 1) := by decide +kernel
theorem dX11_takes_20 : decode cX11_takes 20 = .ok (.getfield 161, 3) := by decide +kernel
theorem dX11_takes_23 : decode cX11_takes 23 = .ok (.iconst 1, 1) := by decide +kernel
theorem dX11_takes_24 : decode cX11_takes 24 = .ok (.iadd, 1) := by decide +kernel
theorem dX11_takes_25 : decode cX11_takes 25 = .ok (.putfield 161, 3) := by decide +kernel
theorem dX11_takes_28 : decode cX11_takes 28 = .ok (.iconst 1, 1) := by decide +kernel
theorem dX11_takes_29 : decode cX11_takes 29 = .ok (.ireturn, 1) := by decide +kernel
theorem dX11_takesLetters_0 : decode cX11_takesLetters 0 = .ok (.aload_n 0, 1) := by decide +kernel
theorem dX11_takesLetters_1 : decode cX11_takesLetters 1 = .ok (.iconst 0, 1) := by decide +kernel
theorem dX11_takesLetters_2 : decode cX11_takesLetters 2 = .ok (.putfield 133, 3) := by decide +kernel
theorem dX11_takesLetters_5 : decode cX11_takesLetters 5 = .ok (.aload_n 0, 1) := by decide +kernel
theorem dX11_takesLetters_6 : decode cX11_takesLetters 6 = .ok (.iload_n 1, 1) := by decide +kernel
theorem dX11_takesLetters_7 : decode cX11_takesLetters 7 = .ok (.putfield 136, 3) := by decide +kernel
theorem dX11_takesLetters_10 : decode cX11_takesLetters 10 = .ok (.iconst 0, 1) := by decide +kernel
theorem dX11_takesLetters_11 : decode cX11_takesLetters 11 = .ok (.istore_n 2, 1) := by decide +kernel
theorem dX11_takesLetters_12 : decode cX11_takesLetters 12 = .ok (.iload_n 2, 1) := by decide +kernel
theorem dX11_takesLetters_13 : decode cX11_takesLetters 13 = .ok (.iload_n 1, 1) := by decide +kernel
theorem dX11_takesLetters_14 : decode cX11_takesLetters 14 = .ok (.if_icmp .ge 42, 3) := by decide +kernel
theorem dX11_takesLetters_17 : decode cX11_takesLetters 17 = .ok (.aload_n 0, 1) := by decide +kernel
theorem dX11_takesLetters_18 : decode cX11_takesLetters 18 = .ok (.getfield 29, 3) := by decide +kernel
theorem dX11_takesLetters_21 : decode cX11_takesLetters 21 = .ok (.iload_n 2, 1) := by decide +kernel
theorem dX11_takesLetters_22 : decode cX11_takesLetters 22 = .ok (.baload, 1) := by decide +kernel
theorem dX11_takesLetters_23 : decode cX11_takesLetters 23 = .ok (.bipush 97, 2) := by decide +kernel
theorem dX11_takesLetters_25 : decode cX11_takesLetters 25 = .ok (.bipush 122, 2) := by decide +kernel
theorem dX11_takesLetters_27 : decode cX11_takesLetters 27 = .ok (.invokestatic 139, 3) := by decide +kernel
theorem dX11_takesLetters_30 : decode cX11_takesLetters 30 = .ok (.ifCond .ne 5, 3) := by decide +kernel
theorem dX11_takesLetters_33 : decode cX11_takesLetters 33 = .ok (.iconst 0, 1) := by decide +kernel
theorem dX11_takesLetters_34 : decode cX11_takesLetters 34 = .ok (.ireturn, 1) := by decide +kernel
theorem dX11_takesLetters_35 : decode cX11_takesLetters 35 = .ok (.aload_n 0, 1) := by decide +kernel
theorem dX11_takesLetters_36 : decode cX11_takesLetters 36 = .ok (.getfield 26, 3) := by decide +kernel
theorem dX11_takesLetters_39 : decode cX11_takesLetters 39 = .ok (.iload_n 2, 1) := by decide +kernel
theorem dX11_takesLetters_40 : decode cX11_takesLetters 40 = .ok (.aload_n 0, 1) := by decide +kernel
theorem dX11_takesLetters_41 : decode cX11_takesLetters 41 = .ok (.getfield 29, 3) := by decide +kernel
theorem dX11_takesLetters_44 : decode cX11_takesLetters 44 = .ok (.iload_n 2, 1) := by decide +kernel
theorem dX11_takesLetters_45 : decode cX11_takesLetters 45 = .ok (.baload, 1) := by decide +kernel
theorem dX11_takesLetters_46 : decode cX11_takesLetters 46 = .ok (.bipush 97, 2) := by decide +kernel
theorem dX11_takesLetters_48 : decode cX11_takesLetters 48 = .ok (.isub, 1) := by decide +kernel
theorem dX11_takesLetters_49 : decode cX11_takesLetters 49 = .ok (.iastore, 1) := by decide +kernel
theorem dX11_takesLetters_50 : decode cX11_takesLetters 50 = .ok (.iinc 2 1, 3) := by decide +kernel
theorem dX11_takesLetters_53 : decode cX11_takesLetters 53 = .ok (.goto (-41), 3) := by decide +kernel
theorem dX11_takesLetters_56 : decode cX11_takesLetters 56 = .ok (.iconst 1, 1) := by decide +kernel
theorem dX11_takesLetters_57 : decode cX11_takesLetters 57 = .ok (.ireturn, 1) := by decide +kernel
theorem dX11_takesWords_0 : decode cX11_takesWords 0 = .ok (.aload_n 0, 1) := by decide +kernel
theorem dX11_takesWords_1 : decode cX11_takesWords 1 = .ok (.iconst 0, 1) := by decide +kernel
theorem dX11_takesWords_2 : decode cX11_takesWords 2 = .ok (.putfield 133, 3) := by decide +kernel
theorem dX11_takesWords_5 : decode cX11_takesWords 5 = .ok (.iconst 0, 1) := by decide +kernel
theorem dX11_takesWords_6 : decode cX11_takesWords 6 = .ok (.istore_n 2, 1) := by decide +kernel
theorem dX11_takesWords_7 : decode cX11_takesWords 7 = .ok (.iload_n 2, 1) := by decide +kernel
theorem dX11_takesWords_8 : decode cX11_takesWords 8 = .ok (.iload_n 1, 1) := by decide +kernel
theorem dX11_takesWords_9 : decode cX11_takesWords 9 = .ok (.if_icmp .ge 66, 3) := by decide +kernel
theorem dX11_takesWords_12 : decode cX11_takesWords 12 = .ok (.aload_n 0, 1) := by decide +kernel
theorem dX11_takesWords_13 : decode cX11_takesWords 13 = .ok (.getfield 103, 3) := by decide +kernel
theorem dX11_takesWords_16 : decode cX11_takesWords 16 = .ok (.iload_n 2, 1) := by decide +kernel
theorem dX11_takesWords_17 : decode cX11_takesWords 17 = .ok (.aload_n 0, 1) := by decide +kernel
theorem dX11_takesWords_18 : decode cX11_takesWords 18 = .ok (.getfield 29, 3) := by decide +kernel
theorem dX11_takesWords_21 : decode cX11_takesWords 21 = .ok (.iload_n 2, 1) := by decide +kernel
theorem dX11_takesWords_22 : decode cX11_takesWords 22 = .ok (.baload, 1) := by decide +kernel
theorem dX11_takesWords_23 : decode cX11_takesWords 23 = .ok (.iastore, 1) := by decide +kernel
theorem dX11_takesWords_24 : decode cX11_takesWords 24 = .ok (.aload_n 0, 1) := by decide +kernel
theorem dX11_takesWords_25 : decode cX11_takesWords 25 = .ok (.aload_n 0, 1) := by decide +kernel
theorem dX11_takesWords_26 : decode cX11_takesWords 26 = .ok (.getfield 103, 3) := by decide +kernel
theorem dX11_takesWords_29 : decode cX11_takesWords 29 = .ok (.iload_n 2, 1) := by decide +kernel
theorem dX11_takesWords_30 : decode cX11_takesWords 30 = .ok (.iaload, 1) := by decide +kernel
theorem dX11_takesWords_31 : decode cX11_takesWords 31 = .ok (.invokevirtual 154, 3) := by decide +kernel
theorem dX11_takesWords_34 : decode cX11_takesWords 34 = .ok (.ifCond .ne 5, 3) := by decide +kernel
theorem dX11_takesWords_37 : decode cX11_takesWords 37 = .ok (.iconst 0, 1) := by decide +kernel
theorem dX11_takesWords_38 : decode cX11_takesWords 38 = .ok (.ireturn, 1) := by decide +kernel
theorem dX11_takesWords_39 : decode cX11_takesWords 39 = .ok (.iconst 0, 1) := by decide +kernel
theorem dX11_takesWords_40 : decode cX11_takesWords 40 = .ok (.istore_n 3, 1) := by decide +kernel
theorem dX11_takesWords_41 : decode cX11_takesWords 41 = .ok (.iload_n 3, 1) := by decide +kernel
theorem dX11_takesWords_42 : decode cX11_takesWords 42 = .ok (.iload_n 2, 1) := by decide +kernel
theorem dX11_takesWords_43 : decode cX11_takesWords 43 = .ok (.if_icmp .ge 26, 3) := by decide +kernel
theorem dX11_takesWords_46 : decode cX11_takesWords 46 = .ok (.aload_n 0, 1) := by decide +kernel
theorem dX11_takesWords_47 : decode cX11_takesWords 47 = .ok (.getfield 103, 3) := by decide +kernel
theorem dX11_takesWords_50 : decode cX11_takesWords 50 = .ok (.iload_n 3, 1) := by decide +kernel
theorem dX11_takesWords_51 : decode cX11_takesWords 51 = .ok (.iaload, 1) := by decide +kernel
theorem dX11_takesWords_52 : decode cX11_takesWords 52 = .ok (.aload_n 0, 1) := by decide +kernel
theorem dX11_takesWords_53 : decode cX11_takesWords 53 = .ok (.getfield 103, 3) := by decide +kernel
theorem dX11_takesWords_56 : decode cX11_takesWords 56 = .ok (.iload_n 2, 1) := by decide +kernel
theorem dX11_takesWords_57 : decode cX11_takesWords 57 = .ok (.iaload, 1) := by decide +kernel
theorem dX11_takesWords_58 : decode cX11_takesWords 58 = .ok (.if_icmp .ne 5, 3) := by decide +kernel
theorem dX11_takesWords_61 : decode cX11_takesWords 61 = .ok (.iconst 0, 1) := by decide +kernel
theorem dX11_takesWords_62 : decode cX11_takesWords 62 = .ok (.ireturn, 1) := by decide +kernel
theorem dX11_takesWords_63 : decode cX11_takesWords 63 = .ok (.iinc 3 1, 3) := by decide +kernel
theorem dX11_takesWords_66 : decode cX11_takesWords 66 = .ok (.goto (-25), 3) := by decide +kernel
theorem dX11_takesWords_69 : decode cX11_takesWords 69 = .ok (.iinc 2 1, 3) := by decide +kernel
theorem dX11_takesWords_72 : decode cX11_takesWords 72 = .ok (.goto (-65), 3) := by decide +kernel
theorem dX11_takesWords_75 : decode cX11_takesWords 75 = .ok (.iconst 1, 1) := by decide +kernel
theorem dX11_takesWords_76 : decode cX11_takesWords 76 = .ok (.ireturn, 1) := by decide +kernel
theorem dX11_tapeNumber_0 : decode cX11_tapeNumber 0 = .ok (.iconst 0, 1) := by decide +kernel
theorem dX11_tapeNumber_1 : decode cX11_tapeNumber 1 = .ok (.istore_n 2, 1) := by decide +kernel
theorem dX11_tapeNumber_2 : decode cX11_tapeNumber 2 = .ok (.iconst 4, 1) := by decide +kernel
theorem dX11_tapeNumber_3 : decode cX11_tapeNumber 3 = .ok (.iload_n 1, 1) := by decide +kernel
theorem dX11_tapeNumber_4 : decode cX11_tapeNumber 4 = .ok (.imul, 1) := by decide +kernel
theorem dX11_tapeNumber_5 : decode cX11_tapeNumber 5 = .ok (.istore_n 3, 1) := by decide +kernel
theorem dX11_tapeNumber_6 : decode cX11_tapeNumber 6 = .ok (.iload_n 3, 1) := by decide +kernel
theorem dX11_tapeNumber_7 : decode cX11_tapeNumber 7 = .ok (.iconst 4, 1) := by decide +kernel
theorem dX11_tapeNumber_8 : decode cX11_tapeNumber 8 = .ok (.iload_n 1, 1) := by decide +kernel
theorem dX11_tapeNumber_9 : decode cX11_tapeNumber 9 = .ok (.imul, 1) := by decide +kernel
theorem dX11_tapeNumber_10 : decode cX11_tapeNumber 10 = .ok (.iconst 4, 1) := by decide +kernel
theorem dX11_tapeNumber_11 : decode cX11_tapeNumber 11 = .ok (.iadd, 1) := by decide +kernel
theorem dX11_tapeNumber_12 : decode cX11_tapeNumber 12 = .ok (.if_icmp .ge 25, 3) := by decide +kernel
theorem dX11_tapeNumber_15 : decode cX11_tapeNumber 15 = .ok (.iload_n 2, 1) := by decide +kernel
theorem dX11_tapeNumber_16 : decode cX11_tapeNumber 16 = .ok (.bipush 8, 2) := by decide +kernel
theorem dX11_tapeNumber_18 : decode cX11_tapeNumber 18 = .ok (.ishl, 1) := by decide +kernel
theorem dX11_tapeNumber_19 : decode cX11_tapeNumber 19 = .ok (.aload_n 0, 1) := by decide +kernel
theorem dX11_tapeNumber_20 : decode cX11_tapeNumber 20 = .ok (.getfield 29, 3) := by decide +kernel
theorem dX11_tapeNumber_23 : decode cX11_tapeNumber 23 = .ok (.iload_n 3, 1) := by decide +kernel
theorem dX11_tapeNumber_24 : decode cX11_tapeNumber 24 = .ok (.baload, 1) := by decide +kernel
theorem dX11_tapeNumber_25 : decode cX11_tapeNumber 25 = .ok (.sipush 255, 3) := by decide +kernel
theorem dX11_tapeNumber_28 : decode cX11_tapeNumber 28 = .ok (.iand, 1) := by decide +kernel
theorem dX11_tapeNumber_29 : decode cX11_tapeNumber 29 = .ok (.ior, 1) := by decide +kernel
theorem dX11_tapeNumber_30 : decode cX11_tapeNumber 30 = .ok (.istore_n 2, 1) := by decide +kernel
theorem dX11_tapeNumber_31 : decode cX11_tapeNumber 31 = .ok (.iinc 3 1, 3) := by decide +kernel
theorem dX11_tapeNumber_34 : decode cX11_tapeNumber 34 = .ok (.goto (-28), 3) := by decide +kernel
theorem dX11_tapeNumber_37 : decode cX11_tapeNumber 37 = .ok (.iload_n 2, 1) := by decide +kernel
theorem dX11_tapeNumber_38 : decode cX11_tapeNumber 38 = .ok (.ireturn, 1) := by decide +kernel
theorem dX11_top_0 : decode cX11_top 0 = .ok (.aload_n 0, 1) := by decide +kernel
theorem dX11_top_1 : decode cX11_top 1 = .ok (.getfield 191, 3) := by decide +kernel
theorem dX11_top_4 : decode cX11_top 4 = .ok (.ifCond .ne 7, 3) := by decide +kernel
theorem dX11_top_7 : decode cX11_top 7 = .ok (.iconst (-1), 1) := by decide +kernel
theorem dX11_top_8 : decode cX11_top 8 = .ok (.goto 17, 3) := by decide +kernel
theorem dX11_top_11 : decode cX11_top 11 = .ok (.aload_n 0, 1) := by decide +kernel
theorem dX11_top_12 : decode cX11_top 12 = .ok (.getfield 36, 3) := by decide +kernel
theorem dX11_top_15 : decode cX11_top 15 = .ok (.aload_n 0, 1) := by decide +kernel
theorem dX11_top_16 : decode cX11_top 16 = .ok (.getfield 191, 3) := by decide +kernel
theorem dX11_top_19 : decode cX11_top 19 = .ok (.iconst 1, 1) := by decide +kernel
theorem dX11_top_20 : decode cX11_top 20 = .ok (.isub, 1) := by decide +kernel
theorem dX11_top_21 : decode cX11_top 21 = .ok (.iaload, 1) := by decide +kernel
theorem dX11_top_22 : decode cX11_top 22 = .ok (.ldc 187, 2) := by decide +kernel
theorem dX11_top_24 : decode cX11_top 24 = .ok (.idiv, 1) := by decide +kernel
theorem dX11_top_25 : decode cX11_top 25 = .ok (.ireturn, 1) := by decide +kernel
theorem dX11_triesAbout_0 : decode cX11_triesAbout 0 = .ok (.iconst 0, 1) := by decide +kernel
theorem dX11_triesAbout_1 : decode cX11_triesAbout 1 = .ok (.istore_n 2, 1) := by decide +kernel
theorem dX11_triesAbout_2 : decode cX11_triesAbout 2 = .ok (.iload_n 2, 1) := by decide +kernel
theorem dX11_triesAbout_3 : decode cX11_triesAbout 3 = .ok (.aload_n 0, 1) := by decide +kernel
theorem dX11_triesAbout_4 : decode cX11_triesAbout 4 = .ok (.getfield 7, 3) := by decide +kernel
theorem dX11_triesAbout_7 : decode cX11_triesAbout 7 = .ok (.iload_n 1, 1) := by decide +kernel
theorem dX11_triesAbout_8 : decode cX11_triesAbout 8 = .ok (.iaload, 1) := by decide +kernel
theorem dX11_triesAbout_9 : decode cX11_triesAbout 9 = .ok (.if_icmp .gt 138, 3) := by decide +kernel
theorem dX11_triesAbout_12 : decode cX11_triesAbout 12 = .ok (.iconst 0, 1) := by decide +kernel
theorem dX11_triesAbout_13 : decode cX11_triesAbout 13 = .ok (.istore_n 3, 1) := by decide +kernel
theorem dX11_triesAbout_14 : decode cX11_triesAbout 14 = .ok (.iload_n 3, 1) := by decide +kernel
theorem dX11_triesAbout_15 : decode cX11_triesAbout 15 = .ok (.bipush 26, 2) := by decide +kernel
theorem dX11_triesAbout_17 : decode cX11_triesAbout 17 = .ok (.if_icmp .ge 49, 3) := by decide +kernel
theorem dX11_triesAbout_20 : decode cX11_triesAbout 20 = .ok (.aload_n 0, 1) := by decide +kernel
theorem dX11_triesAbout_21 : decode cX11_triesAbout 21 = .ok (.iload_n 1, 1) := by decide +kernel
theorem dX11_triesAbout_22 : decode cX11_triesAbout 22 = .ok (.iload_n 2, 1) := by decide +kernel
theorem dX11_triesAbout_23 : decode cX11_triesAbout 23 = .ok (.iload_n 3, 1) := by decide +kernel
theorem dX11_triesAbout_24 : decode cX11_triesAbout 24 = .ok (.invokevirtual 354, 3) := by decide +kernel
theorem dX11_triesAbout_27 : decode cX11_triesAbout 27 = .ok (.aload_n 0, 1) := by decide +kernel
theorem dX11_triesAbout_28 : decode cX11_triesAbout 28 = .ok (.invokevirtual 358, 3) := by decide +kernel
theorem dX11_triesAbout_31 : decode cX11_triesAbout 31 = .ok (.iload_n 2, 1) := by decide +kernel
theorem dX11_triesAbout_32 : decode cX11_triesAbout 32 = .ok (.aload_n 0, 1) := by decide +kernel
theorem dX11_triesAbout_33 : decode cX11_triesAbout 33 = .ok (.getfield 7, 3) := by decide +kernel
theorem dX11_triesAbout_36 : decode cX11_triesAbout 36 = .ok (.iload_n 1, 1) := by decide +kernel
theorem dX11_triesAbout_37 : decode cX11_triesAbout 37 = .ok (.iaload, 1) := by decide +kernel
theorem dX11_triesAbout_38 : decode cX11_triesAbout 38 = .ok (.if_icmp .ne 6, 3) := by decide +kernel
theorem dX11_triesAbout_41 : decode cX11_triesAbout 41 = .ok (.goto 19, 3) := by decide +kernel
theorem dX11_triesAbout_44 : decode cX11_triesAbout 44 = .ok (.aload_n 0, 1) := by decide +kernel
theorem dX11_triesAbout_45 : decode cX11_triesAbout 45 = .ok (.iload_n 1, 1) := by decide +kernel
theorem dX11_triesAbout_46 : decode cX11_triesAbout 46 = .ok (.invokevirtual 361, 3) := by decide +kernel
theorem dX11_triesAbout_49 : decode cX11_triesAbout 49 = .ok (.aload_n 0, 1) := by decide +kernel
theorem dX11_triesAbout_50 : decode cX11_triesAbout 50 = .ok (.getfield 26, 3) := by decide +kernel
theorem dX11_triesAbout_53 : decode cX11_triesAbout 53 = .ok (.iload_n 2, 1) := by decide +kernel
theorem dX11_triesAbout_54 : decode cX11_triesAbout 54 = .ok (.iload_n 3, 1) := by decide +kernel
theorem dX11_triesAbout_55 : decode cX11_triesAbout 55 = .ok (.iastore, 1) := by decide +kernel
theorem dX11_triesAbout_56 : decode cX11_triesAbout 56 = .ok (.aload_n 0, 1) := by decide +kernel
theorem dX11_triesAbout_57 : decode cX11_triesAbout 57 = .ok (.invokevirtual 358, 3) := by decide +kernel
theorem dX11_triesAbout_60 : decode cX11_triesAbout 60 = .ok (.iinc 3 1, 3) := by decide +kernel
theorem dX11_triesAbout_63 : decode cX11_triesAbout 63 = .ok (.goto (-49), 3) := by decide +kernel
theorem dX11_triesAbout_66 : decode cX11_triesAbout 66 = .ok (.iload_n 2, 1) := by decide +kernel
theorem dX11_triesAbout_67 : decode cX11_triesAbout 67 = .ok (.aload_n 0, 1) := by decide +kernel
theorem dX11_triesAbout_68 : decode cX11_triesAbout 68 = .ok (.getfield 7, 3) := by decide +kernel
theorem dX11_triesAbout_71 : decode cX11_triesAbout 71 = .ok (.iload_n 1, 1) := by decide +kernel
theorem dX11_triesAbout_72 : decode cX11_triesAbout 72 = .ok (.iaload, 1) := by decide +kernel
theorem dX11_triesAbout_73 : decode cX11_triesAbout 73 = .ok (.if_icmp .ne 6, 3) := by decide +kernel
theorem dX11_triesAbout_76 : decode cX11_triesAbout 76 = .ok (.goto 65, 3) := by decide +kernel
theorem dX11_triesAbout_79 : decode cX11_triesAbout 79 = .ok (.aload_n 0, 1) := by decide +kernel
theorem dX11_triesAbout_80 : decode cX11_triesAbout 80 = .ok (.iload_n 1, 1) := by decide +kernel
theorem dX11_triesAbout_81 : decode cX11_triesAbout 81 = .ok (.iload_n 2, 1) := by decide +kernel
theorem dX11_triesAbout_82 : decode cX11_triesAbout 82 = .ok (.invokevirtual 364, 3) := by decide +kernel
theorem dX11_triesAbout_85 : decode cX11_triesAbout 85 = .ok (.aload_n 0, 1) := by decide +kernel
theorem dX11_triesAbout_86 : decode cX11_triesAbout 86 = .ok (.invokevirtual 358, 3) := by decide +kernel
theorem dX11_triesAbout_89 : decode cX11_triesAbout 89 = .ok (.iload_n 2, 1) := by decide +kernel
theorem dX11_triesAbout_90 : decode cX11_triesAbout 90 = .ok (.iconst 1, 1) := by decide +kernel
theorem dX11_triesAbout_91 : decode cX11_triesAbout 91 = .ok (.iadd, 1) := by decide +kernel
theorem dX11_triesAbout_92 : decode cX11_triesAbout 92 = .ok (.aload_n 0, 1) := by decide +kernel
theorem dX11_triesAbout_93 : decode cX11_triesAbout 93 = .ok (.getfield 7, 3) := by decide +kernel
theorem dX11_triesAbout_96 : decode cX11_triesAbout 96 = .ok (.iload_n 1, 1) := by decide +kernel
theorem dX11_triesAbout_97 : decode cX11_triesAbout 97 = .ok (.iaload, 1) := by decide +kernel
theorem dX11_triesAbout_98 : decode cX11_triesAbout 98 = .ok (.if_icmp .ne 6, 3) := by decide +kernel
theorem dX11_triesAbout_101 : decode cX11_triesAbout 101 = .ok (.goto 40, 3) := by decide +kernel
theorem dX11_triesAbout_104 : decode cX11_triesAbout 104 = .ok (.aload_n 0, 1) := by decide +kernel
theorem dX11_triesAbout_105 : decode cX11_triesAbout 105 = .ok (.iload_n 1, 1) := by decide +kernel
theorem dX11_triesAbout_106 : decode cX11_triesAbout 106 = .ok (.invokevirtual 361, 3) := by decide +kernel
theorem dX11_triesAbout_109 : decode cX11_triesAbout 109 = .ok (.aload_n 0, 1) := by decide +kernel
theorem dX11_triesAbout_110 : decode cX11_triesAbout 110 = .ok (.getfield 26, 3) := by decide +kernel
theorem dX11_triesAbout_113 : decode cX11_triesAbout 113 = .ok (.iload_n 2, 1) := by decide +kernel
theorem dX11_triesAbout_114 : decode cX11_triesAbout 114 = .ok (.aload_n 0, 1) := by decide +kernel
theorem dX11_triesAbout_115 : decode cX11_triesAbout 115 = .ok (.iload_n 1, 1) := by decide +kernel
theorem dX11_triesAbout_116 : decode cX11_triesAbout 116 = .ok (.iload_n 2, 1) := by decide +kernel
theorem dX11_triesAbout_117 : decode cX11_triesAbout 117 = .ok (.iconst 1, 1) := by decide +kernel
theorem dX11_triesAbout_118 : decode cX11_triesAbout 118 = .ok (.iadd, 1) := by decide +kernel
theorem dX11_triesAbout_119 : decode cX11_triesAbout 119 = .ok (.invokevirtual 262, 3) := by decide +kernel
theorem dX11_triesAbout_122 : decode cX11_triesAbout 122 = .ok (.iastore, 1) := by decide +kernel
theorem dX11_triesAbout_123 : decode cX11_triesAbout 123 = .ok (.aload_n 0, 1) := by decide +kernel
theorem dX11_triesAbout_124 : decode cX11_triesAbout 124 = .ok (.getfield 26, 3) := by decide +kernel
theorem dX11_triesAbout_127 : decode cX11_triesAbout 127 = .ok (.iload_n 2, 1) := by decide +kernel
theorem dX11_triesAbout_128 : decode cX11_triesAbout 128 = .ok (.iconst 1, 1) := by decide +kernel
theorem dX11_triesAbout_129 : decode cX11_triesAbout 129 = .ok (.iadd, 1) := by decide +kernel
theorem dX11_triesAbout_130 : decode cX11_triesAbout 130 = .ok (.aload_n 0, 1) := by decide +kernel
theorem dX11_triesAbout_131 : decode cX11_triesAbout 131 = .ok (.iload_n 1, 1) := by decide +kernel
theorem dX11_triesAbout_132 : decode cX11_triesAbout 132 = .ok (.iload_n 2, 1) := by decide +kernel
theorem dX11_triesAbout_133 : decode cX11_triesAbout 133 = .ok (.invokevirtual 262, 3) := by decide +kernel
theorem dX11_triesAbout_136 : decode cX11_triesAbout 136 = .ok (.iastore, 1) := by decide +kernel
theorem dX11_triesAbout_137 : decode cX11_triesAbout 137 = .ok (.aload_n 0, 1) := by decide +kernel
theorem dX11_triesAbout_138 : decode cX11_triesAbout 138 = .ok (.invokevirtual 358, 3) := by decide +kernel
theorem dX11_triesAbout_141 : decode cX11_triesAbout 141 = .ok (.iinc 2 1, 3) := by decide +kernel
theorem dX11_triesAbout_144 : decode cX11_triesAbout 144 = .ok (.goto (-142), 3) := by decide +kernel
theorem dX11_triesAbout_147 : decode cX11_triesAbout 147 = .ok (.return_, 1) := by decide +kernel
theorem dX11_triesNew_0 : decode cX11_triesNew 0 = .ok (.aload_n 0, 1) := by decide +kernel
theorem dX11_triesNew_1 : decode cX11_triesNew 1 = .ok (.getfield 136, 3) := by decide +kernel
theorem dX11_triesNew_4 : decode cX11_triesNew 4 = .ok (.iconst 1, 1) := by decide +kernel
theorem dX11_triesNew_5 : decode cX11_triesNew 5 = .ok (.if_icmp .lt 19, 3) := by decide +kernel
theorem dX11_triesNew_8 : decode cX11_triesNew 8 = .ok (.aload_n 0, 1) := by decide +kernel
theorem dX11_triesNew_9 : decode cX11_triesNew 9 = .ok (.getfield 136, 3) := by decide +kernel
theorem dX11_triesNew_12 : decode cX11_triesNew 12 = .ok (.bipush 8, 2) := by decide +kernel
theorem dX11_triesNew_14 : decode cX11_triesNew 14 = .ok (.if_icmp .gt 10, 3) := by decide +kernel
theorem dX11_triesNew_17 : decode cX11_triesNew 17 = .ok (.aload_n 0, 1) := by decide +kernel
theorem dX11_triesNew_18 : decode cX11_triesNew 18 = .ok (.invokevirtual 150, 3) := by decide +kernel
theorem dX11_triesNew_21 : decode cX11_triesNew 21 = .ok (.ifCond .eq 4, 3) := by decide +kernel
theorem dX11_triesNew_24 : decode cX11_triesNew 24 = .ok (.return_, 1) := by decide +kernel
theorem dX11_triesNew_25 : decode cX11_triesNew 25 = .ok (.lconst 0, 1) := by decide +kernel
theorem dX11_triesNew_26 : decode cX11_triesNew 26 = .ok (.lstore_n 1, 1) := by decide +kernel
theorem dX11_triesNew_27 : decode cX11_triesNew 27 = .ok (.iconst 0, 1) := by decide +kernel
theorem dX11_triesNew_28 : decode cX11_triesNew 28 = .ok (.istore_n 3, 1) := by decide +kernel
theorem dX11_triesNew_29 : decode cX11_triesNew 29 = .ok (.iconst 0, 1) := by decide +kernel
theorem dX11_triesNew_30 : decode cX11_triesNew 30 = .ok (.istore 4, 2) := by decide +kernel
theorem dX11_triesNew_32 : decode cX11_triesNew 32 = .ok (.iload 4, 2) := by decide +kernel
theorem dX11_triesNew_34 : decode cX11_triesNew 34 = .ok (.aload_n 0, 1) := by decide +kernel
theorem dX11_triesNew_35 : decode cX11_triesNew 35 = .ok (.getfield 130, 3) := by decide +kernel
theorem dX11_triesNew_38 : decode cX11_triesNew 38 = .ok (.if_icmp .ge 46, 3) := by decide +kernel
theorem dX11_triesNew_41 : decode cX11_triesNew 41 = .ok (.aload_n 0, 1) := by decide +kernel
theorem dX11_triesNew_42 : decode cX11_triesNew 42 = .ok (.iload 4, 2) := by decide +kernel
theorem dX11_triesNew_44 : decode cX11_triesNew 44 = .ok (.invokevirtual 282, 3) := by decide +kernel
theorem dX11_triesNew_47 : decode cX11_triesNew 47 = .ok (.ifCond .eq 31, 3) := by decide +kernel
theorem dX11_triesNew_50 : decode cX11_triesNew 50 = .ok (.aload_n 0, 1) := by decide +kernel
theorem dX11_triesNew_51 : decode cX11_triesNew 51 = .ok (.iload 4, 2) := by decide +kernel
theorem dX11_triesNew_53 : decode cX11_triesNew 53 = .ok (.invokevirtual 342, 3) := by decide +kernel
theorem dX11_triesNew_56 : decode cX11_triesNew 56 = .ok (.ifCond .ne 6, 3) := by decide +kernel
theorem dX11_triesNew_59 : decode cX11_triesNew 59 = .ok (.goto 19, 3) := by decide +kernel
theorem dX11_triesNew_62 : decode cX11_triesNew 62 = .ok (.iload_n 3, 1) := by decide +kernel
theorem dX11_triesNew_63 : decode cX11_triesNew 63 = .ok (.iconst 1, 1) := by decide +kernel
theorem dX11_triesNew_64 : decode cX11_triesNew 64 = .ok (.iadd, 1) := by decide +kernel
theorem dX11_triesNew_65 : decode cX11_triesNew 65 = .ok (.istore_n 3, 1) := by decide +kernel
theorem dX11_triesNew_66 : decode cX11_triesNew 66 = .ok (.lload_n 1, 1) := by decide +kernel
theorem dX11_triesNew_67 : decode cX11_triesNew 67 = .ok (.lconst 1, 1) := by decide +kernel
theorem dX11_triesNew_68 : decode cX11_triesNew 68 = .ok (.aload_n 0, 1) := by decide +kernel
theorem dX11_triesNew_69 : decode cX11_triesNew 69 = .ok (.getfield 94, 3) := by decide +kernel
theorem dX11_triesNew_72 : decode cX11_triesNew 72 = .ok (.iload 4, 2) := by decide +kernel
theorem dX11_triesNew_74 : decode cX11_triesNew 74 = .ok (.iaload, 1) := by decide +kernel
theorem dX11_triesNew_75 : decode cX11_triesNew 75 = .ok (.lshl, 1) := by decide +kernel
theorem dX11_triesNew_76 : decode cX11_triesNew 76 = .ok (.lor, 1) := by decide +kernel
theorem dX11_triesNew_77 : decode cX11_triesNew 77 = .ok (.lstore_n 1, 1) := by decide +kernel
theorem dX11_triesNew_78 : decode cX11_triesNew 78 = .ok (.iinc 4 1, 3) := by decide +kernel
theorem dX11_triesNew_81 : decode cX11_triesNew 81 = .ok (.goto (-49), 3) := by decide +kernel
theorem dX11_triesNew_84 : decode cX11_triesNew 84 = .ok (.iconst 0, 1) := by decide +kernel
theorem dX11_triesNew_85 : decode cX11_triesNew 85 = .ok (.istore 4, 2) := by decide +kernel
theorem dX11_triesNew_87 : decode cX11_triesNew 87 = .ok (.iconst 0, 1) := by decide +kernel
theorem dX11_triesNew_88 : decode cX11_triesNew 88 = .ok (.istore 5, 2) := by decide +kernel
theorem dX11_triesNew_90 : decode cX11_triesNew 90 = .ok (.iload 5, 2) := by decide +kernel
theorem dX11_triesNew_92 : decode cX11_triesNew 92 = .ok (.aload_n 0, 1) := by decide +kernel
theorem dX11_triesNew_93 : decode cX11_triesNew 93 = .ok (.getfield 130, 3) := by decide +kernel
theorem dX11_triesNew_96 : decode cX11_triesNew 96 = .ok (.if_icmp .ge 21, 3) := by decide +kernel
theorem dX11_triesNew_99 : decode cX11_triesNew 99 = .ok (.iload 4, 2) := by decide +kernel
theorem dX11_triesNew_101 : decode cX11_triesNew 101 = .ok (.lload_n 1, 1) := by decide +kernel
theorem dX11_triesNew_102 : decode cX11_triesNew 102 = .ok (.iload 5, 2) := by decide +kernel
theorem dX11_triesNew_104 : decode cX11_triesNew 104 = .ok (.lshr, 1) := by decide +kernel
theorem dX11_triesNew_105 : decode cX11_triesNew 105 = .ok (.lconst 1, 1) := by decide +kernel
theorem dX11_triesNew_106 : decode cX11_triesNew 106 = .ok (.land, 1) := by decide +kernel
theorem dX11_triesNew_107 : decode cX11_triesNew 107 = .ok (.l2i, 1) := by decide +kernel
theorem dX11_triesNew_108 : decode cX11_triesNew 108 = .ok (.iadd, 1) := by decide +kernel
theorem dX11_triesNew_109 : decode cX11_triesNew 109 = .ok (.istore 4, 2) := by decide +kernel
theorem dX11_triesNew_111 : decode cX11_triesNew 111 = .ok (.iinc 5 1, 3) := by decide +kernel
theorem dX11_triesNew_114 : decode cX11_triesNew 114 = .ok (.goto (-24), 3) := by decide +kernel
theorem dX11_triesNew_117 : decode cX11_triesNew 117 = .ok (.iload 4, 2) := by decide +kernel
theorem dX11_triesNew_119 : decode cX11_triesNew 119 = .ok (.aload_n 0, 1) := by decide +kernel
theorem dX11_triesNew_120 : decode cX11_triesNew 120 = .ok (.getfield 345, 3) := by decide +kernel
theorem dX11_triesNew_123 : decode cX11_triesNew 123 = .ok (.if_icmp .lt 35, 3) := by decide +kernel
theorem dX11_triesNew_126 : decode cX11_triesNew 126 = .ok (.iload 4, 2) := by decide +kernel
theorem dX11_triesNew_128 : decode cX11_triesNew 128 = .ok (.aload_n 0, 1) := by decide +kernel
theorem dX11_triesNew_129 : decode cX11_triesNew 129 = .ok (.getfield 345, 3) := by decide +kernel
theorem dX11_triesNew_132 : decode cX11_triesNew 132 = .ok (.if_icmp .ne 27, 3) := by decide +kernel
theorem dX11_triesNew_135 : decode cX11_triesNew 135 = .ok (.iload_n 3, 1) := by decide +kernel
theorem dX11_triesNew_136 : decode cX11_triesNew 136 = .ok (.aload_n 0, 1) := by decide +kernel
theorem dX11_triesNew_137 : decode cX11_triesNew 137 = .ok (.getfield 348, 3) := by decide +kernel
theorem dX11_triesNew_140 : decode cX11_triesNew 140 = .ok (.if_icmp .lt 18, 3) := by decide +kernel
theorem dX11_triesNew_143 : decode cX11_triesNew 143 = .ok (.iload_n 3, 1) := by decide +kernel
theorem dX11_triesNew_144 : decode cX11_triesNew 144 = .ok (.aload_n 0, 1) := by decide +kernel
theorem dX11_triesNew_145 : decode cX11_triesNew 145 = .ok (.getfield 348, 3) := by decide +kernel
theorem dX11_triesNew_148 : decode cX11_triesNew 148 = .ok (.if_icmp .ne 11, 3) := by decide +kernel
theorem dX11_triesNew_151 : decode cX11_triesNew 151 = .ok (.aload_n 0, 1) := by decide +kernel
theorem dX11_triesNew_152 : decode cX11_triesNew 152 = .ok (.invokevirtual 351, 3) := by decide +kernel
theorem dX11_triesNew_155 : decode cX11_triesNew 155 = .ok (.ifCond .ne 4, 3) := by decide +kernel
theorem dX11_triesNew_158 : decode cX11_triesNew 158 = .ok (.return_, 1) := by decide +kernel
theorem dX11_triesNew_159 : decode cX11_triesNew 159 = .ok (.aload_n 0, 1) := by decide +kernel
theorem dX11_triesNew_160 : decode cX11_triesNew 160 = .ok (.iload 4, 2) := by decide +kernel
theorem dX11_triesNew_162 : decode cX11_triesNew 162 = .ok (.putfield 345, 3) := by decide +kernel
theorem dX11_triesNew_165 : decode cX11_triesNew 165 = .ok (.aload_n 0, 1) := by decide +kernel
theorem dX11_triesNew_166 : decode cX11_triesNew 166 = .ok (.iload_n 3, 1) := by decide +kernel
theorem dX11_triesNew_167 : decode cX11_triesNew 167 = .ok (.putfield 348, 3) := by decide +kernel
theorem dX11_triesNew_170 : decode cX11_triesNew 170 = .ok (.aload_n 0, 1) := by decide +kernel
theorem dX11_triesNew_171 : decode cX11_triesNew 171 = .ok (.aload_n 0, 1) := by decide +kernel
theorem dX11_triesNew_172 : decode cX11_triesNew 172 = .ok (.getfield 136, 3) := by decide +kernel
theorem dX11_triesNew_175 : decode cX11_triesNew 175 = .ok (.putfield 339, 3) := by decide +kernel
theorem dX11_triesNew_178 : decode cX11_triesNew 178 = .ok (.iconst 0, 1) := by decide +kernel
theorem dX11_triesNew_179 : decode cX11_triesNew 179 = .ok (.istore 5, 2) := by decide +kernel
theorem dX11_triesNew_181 : decode cX11_triesNew 181 = .ok (.iload 5, 2) := by decide +kernel
theorem dX11_triesNew_183 : decode cX11_triesNew 183 = .ok (.aload_n 0, 1) := by decide +kernel
theorem dX11_triesNew_184 : decode cX11_triesNew 184 = .ok (.getfield 136, 3) := by decide +kernel
theorem dX11_triesNew_187 : decode cX11_triesNew 187 = .ok (.if_icmp .ge 23, 3) := by decide +kernel
theorem dX11_triesNew_190 : decode cX11_triesNew 190 = .ok (.aload_n 0, 1) := by decide +kernel
theorem dX11_triesNew_191 : decode cX11_triesNew 191 = .ok (.getfield 91, 3) := by decide +kernel
theorem dX11_triesNew_194 : decode cX11_triesNew 194 = .ok (.iload 5, 2) := by decide +kernel
theorem dX11_triesNew_196 : decode cX11_triesNew 196 = .ok (.aload_n 0, 1) := by decide +kernel
theorem dX11_triesNew_197 : decode cX11_triesNew 197 = .ok (.getfield 26, 3) := by decide +kernel
theorem dX11_triesNew_200 : decode cX11_triesNew 200 = .ok (.iload 5, 2) := by decide +kernel
theorem dX11_triesNew_202 : decode cX11_triesNew 202 = .ok (.iaload, 1) := by decide +kernel
theorem dX11_triesNew_203 : decode cX11_triesNew 203 = .ok (.iastore, 1) := by decide +kernel
theorem dX11_triesNew_204 : decode cX11_triesNew 204 = .ok (.iinc 5 1, 3) := by decide +kernel
theorem dX11_triesNew_207 : decode cX11_triesNew 207 = .ok (.goto (-26), 3) := by decide +kernel
theorem dX11_triesNew_210 : decode cX11_triesNew 210 = .ok (.return_, 1) := by decide +kernel
theorem dX11_twosBy_0 : decode cX11_twosBy 0 = .ok (.iconst 0, 1) := by decide +kernel
theorem dX11_twosBy_1 : decode cX11_twosBy 1 = .ok (.istore_n 2, 1) := by decide +kernel
theorem dX11_twosBy_2 : decode cX11_twosBy 2 = .ok (.iconst 0, 1) := by decide +kernel
theorem dX11_twosBy_3 : decode cX11_twosBy 3 = .ok (.istore_n 3, 1) := by decide +kernel
theorem dX11_twosBy_4 : decode cX11_twosBy 4 = .ok (.iload_n 3, 1) := by decide +kernel
theorem dX11_twosBy_5 : decode cX11_twosBy 5 = .ok (.aload_n 0, 1) := by decide +kernel
theorem dX11_twosBy_6 : decode cX11_twosBy 6 = .ok (.getfield 130, 3) := by decide +kernel
theorem dX11_twosBy_9 : decode cX11_twosBy 9 = .ok (.if_icmp .ge 86, 3) := by decide +kernel
theorem dX11_twosBy_12 : decode cX11_twosBy 12 = .ok (.iconst 0, 1) := by decide +kernel
theorem dX11_twosBy_13 : decode cX11_twosBy 13 = .ok (.istore 4, 2) := by decide +kernel
theorem dX11_twosBy_15 : decode cX11_twosBy 15 = .ok (.iload 4, 2) := by decide +kernel
theorem dX11_twosBy_17 : decode cX11_twosBy 17 = .ok (.aload_n 0, 1) := by decide +kernel
theorem dX11_twosBy_18 : decode cX11_twosBy 18 = .ok (.getfield 130, 3) := by decide +kernel
theorem dX11_twosBy_21 : decode cX11_twosBy 21 = .ok (.if_icmp .ge 68, 3) := by decide +kernel
theorem dX11_twosBy_24 : decode cX11_twosBy 24 = .ok (.iload_n 3, 1) := by decide +kernel
theorem dX11_twosBy_25 : decode cX11_twosBy 25 = .ok (.iload 4, 2) := by decide +kernel
theorem dX11_twosBy_27 : decode cX11_twosBy 27 = .ok (.if_icmp .eq 56, 3) := by decide +kernel
theorem dX11_twosBy_30 : decode cX11_twosBy 30 = .ok (.iload_n 3, 1) := by decide +kernel
theorem dX11_twosBy_31 : decode cX11_twosBy 31 = .ok (.iload_n 1, 1) := by decide +kernel
theorem dX11_twosBy_32 : decode cX11_twosBy 32 = .ok (.if_icmp .eq 51, 3) := by decide +kernel
theorem dX11_twosBy_35 : decode cX11_twosBy 35 = .ok (.iload 4, 2) := by decide +kernel
theorem dX11_twosBy_37 : decode cX11_twosBy 37 = .ok (.iload_n 1, 1) := by decide +kernel
theorem dX11_twosBy_38 : decode cX11_twosBy 38 = .ok (.if_icmp .eq 45, 3) := by decide +kernel
theorem dX11_twosBy_41 : decode cX11_twosBy 41 = .ok (.aload_n 0, 1) := by decide +kernel
theorem dX11_twosBy_42 : decode cX11_twosBy 42 = .ok (.iload_n 3, 1) := by decide +kernel
theorem dX11_twosBy_43 : decode cX11_twosBy 43 = .ok (.iload 4, 2) := by decide +kernel
theorem dX11_twosBy_45 : decode cX11_twosBy 45 = .ok (.invokevirtual 314, 3) := by decide +kernel
theorem dX11_twosBy_48 : decode cX11_twosBy 48 = .ok (.ldc 129, 2) := by decide +kernel
theorem dX11_twosBy_50 : decode cX11_twosBy 50 = .ok (.if_icmp .ge 33, 3) := by decide +kernel
theorem dX11_twosBy_53 : decode cX11_twosBy 53 = .ok (.aload_n 0, 1) := by decide +kernel
theorem dX11_twosBy_54 : decode cX11_twosBy 54 = .ok (.iload_n 3, 1) := by decide +kernel
theorem dX11_twosBy_55 : decode cX11_twosBy 55 = .ok (.iload_n 1, 1) := by decide +kernel
theorem dX11_twosBy_56 : decode cX11_twosBy 56 = .ok (.invokevirtual 314, 3) := by decide +kernel
theorem dX11_twosBy_59 : decode cX11_twosBy 59 = .ok (.aload_n 0, 1) := by decide +kernel
theorem dX11_twosBy_60 : decode cX11_twosBy 60 = .ok (.iload_n 1, 1) := by decide +kernel
theorem dX11_twosBy_61 : decode cX11_twosBy 61 = .ok (.iload 4, 2) := by decide +kernel
theorem dX11_twosBy_63 : decode cX11_twosBy 63 = .ok (.invokevirtual 314, 3) := by decide +kernel
theorem dX11_twosBy_66 : decode cX11_twosBy 66 = .ok (.invokestatic 300, 3) := by decide +kernel
theorem dX11_twosBy_69 : decode cX11_twosBy 69 = .ok (.aload_n 0, 1) := by decide +kernel
theorem dX11_twosBy_70 : decode cX11_twosBy 70 = .ok (.iload_n 3, 1) := by decide +kernel
theorem dX11_twosBy_71 : decode cX11_twosBy 71 = .ok (.iload 4, 2) := by decide +kernel
theorem dX11_twosBy_73 : decode cX11_twosBy 73 = .ok (.invokevirtual 314, 3) := by decide +kernel
theorem dX11_twosBy_76 : decode cX11_twosBy 76 = .ok (.if_icmp .ne 7, 3) := by decide +kernel
theorem dX11_twosBy_79 : decode cX11_twosBy 79 = .ok (.iload_n 2, 1) := by decide +kernel
theorem dX11_twosBy_80 : decode cX11_twosBy 80 = .ok (.iconst 1, 1) := by decide +kernel
theorem dX11_twosBy_81 : decode cX11_twosBy 81 = .ok (.iadd, 1) := by decide +kernel
theorem dX11_twosBy_82 : decode cX11_twosBy 82 = .ok (.istore_n 2, 1) := by decide +kernel
theorem dX11_twosBy_83 : decode cX11_twosBy 83 = .ok (.iinc 4 1, 3) := by decide +kernel
theorem dX11_twosBy_86 : decode cX11_twosBy 86 = .ok (.goto (-71), 3) := by decide +kernel
theorem dX11_twosBy_89 : decode cX11_twosBy 89 = .ok (.iinc 3 1, 3) := by decide +kernel
theorem dX11_twosBy_92 : decode cX11_twosBy 92 = .ok (.goto (-88), 3) := by decide +kernel
theorem dX11_twosBy_95 : decode cX11_twosBy 95 = .ok (.iload_n 2, 1) := by decide +kernel
theorem dX11_twosBy_96 : decode cX11_twosBy 96 = .ok (.ireturn, 1) := by decide +kernel
theorem dX11_types_0 : decode cX11_types 0 = .ok (.iconst 3, 1) := by decide +kernel
theorem dX11_types_1 : decode cX11_types 1 = .ok (.istore_n 2, 1) := by decide +kernel
theorem dX11_types_2 : decode cX11_types 2 = .ok (.iload_n 2, 1) := by decide +kernel
theorem dX11_types_3 : decode cX11_types 3 = .ok (.ifCond .lt 35, 3) := by decide +kernel
theorem dX11_types_6 : decode cX11_types 6 = .ok (.aload_n 0, 1) := by decide +kernel
theorem dX11_types_7 : decode cX11_types 7 = .ok (.getfield 29, 3) := by decide +kernel
theorem dX11_types_10 : decode cX11_types 10 = .ok (.aload_n 0, 1) := by decide +kernel
theorem dX11_types_11 : decode cX11_types 11 = .ok (.getfield 133, 3) := by decide +kernel
theorem dX11_types_14 : decode cX11_types 14 = .ok (.iload_n 1, 1) := by decide +kernel
theorem dX11_types_15 : decode cX11_types 15 = .ok (.bipush 8, 2) := by decide +kernel
theorem dX11_types_17 : decode cX11_types 17 = .ok (.iload_n 2, 1) := by decide +kernel
theorem dX11_types_18 : decode cX11_types 18 = .ok (.imul, 1) := by decide +kernel
theorem dX11_types_19 : decode cX11_types 19 = .ok (.ishr, 1) := by decide +kernel
theorem dX11_types_20 : decode cX11_types 20 = .ok (.i2b, 1) := by decide +kernel
theorem dX11_types_21 : decode cX11_types 21 = .ok (.bastore, 1) := by decide +kernel
theorem dX11_types_22 : decode cX11_types 22 = .ok (.aload_n 0, 1) := by decide +kernel
theorem dX11_types_23 : decode cX11_types 23 = .ok (.aload_n 0, 1) := by decide +kernel
theorem dX11_types_24 : decode cX11_types 24 = .ok (.getfield 133, 3) := by decide +kernel
theorem dX11_types_27 : decode cX11_types 27 = .ok (.iconst 1, 1) := by decide +kernel
theorem dX11_types_28 : decode cX11_types 28 = .ok (.iadd, 1) := by decide +kernel
theorem dX11_types_29 : decode cX11_types 29 = .ok (.putfield 133, 3) := by decide +kernel
theorem dX11_types_32 : decode cX11_types 32 = .ok (.iinc 2 (-1), 3) := by decide +kernel
theorem dX11_types_35 : decode cX11_types 35 = .ok (.goto (-33), 3) := by decide +kernel
theorem dX11_types_38 : decode cX11_types 38 = .ok (.return_, 1) := by decide +kernel
theorem dX11_usedMany_0 : decode cX11_usedMany 0 = .ok (.iconst 0, 1) := by decide +kernel
theorem dX11_usedMany_1 : decode cX11_usedMany 1 = .ok (.istore_n 1, 1) := by decide +kernel
theorem dX11_usedMany_2 : decode cX11_usedMany 2 = .ok (.iconst 0, 1) := by decide +kernel
theorem dX11_usedMany_3 : decode cX11_usedMany 3 = .ok (.istore_n 2, 1) := by decide +kernel
theorem dX11_usedMany_4 : decode cX11_usedMany 4 = .ok (.iload_n 2, 1) := by decide +kernel
theorem dX11_usedMany_5 : decode cX11_usedMany 5 = .ok (.aload_n 0, 1) := by decide +kernel
theorem dX11_usedMany_6 : decode cX11_usedMany 6 = .ok (.getfield 130, 3) := by decide +kernel
theorem dX11_usedMany_9 : decode cX11_usedMany 9 = .ok (.if_icmp .ge 25, 3) := by decide +kernel
theorem dX11_usedMany_12 : decode cX11_usedMany 12 = .ok (.iload_n 1, 1) := by decide +kernel
theorem dX11_usedMany_13 : decode cX11_usedMany 13 = .ok (.aload_n 0, 1) := by decide +kernel
theorem dX11_usedMany_14 : decode cX11_usedMany 14 = .ok (.iload_n 2, 1) := by decide +kernel
theorem dX11_usedMany_15 : decode cX11_usedMany 15 = .ok (.invokevirtual 282, 3) := by decide +kernel
theorem dX11_usedMany_18 : decode cX11_usedMany 18 = .ok (.ifCond .eq 7, 3) := by decide +kernel
theorem dX11_usedMany_21 : decode cX11_usedMany 21 = .ok (.iconst 1, 1) := by decide +kernel
theorem dX11_usedMany_22 : decode cX11_usedMany 22 = .ok (.goto 4, 3) := by decide +kernel
theorem dX11_usedMany_25 : decode cX11_usedMany 25 = .ok (.iconst 0, 1) := by decide +kernel
theorem dX11_usedMany_26 : decode cX11_usedMany 26 = .ok (.iadd, 1) := by decide +kernel
theorem dX11_usedMany_27 : decode cX11_usedMany 27 = .ok (.istore_n 1, 1) := by decide +kernel
theorem dX11_usedMany_28 : decode cX11_usedMany 28 = .ok (.iinc 2 1, 3) := by decide +kernel
theorem dX11_usedMany_31 : decode cX11_usedMany 31 = .ok (.goto (-27), 3) := by decide +kernel
theorem dX11_usedMany_34 : decode cX11_usedMany 34 = .ok (.iload_n 1, 1) := by decide +kernel
theorem dX11_usedMany_35 : decode cX11_usedMany 35 = .ok (.ireturn, 1) := by decide +kernel
theorem dX11_walks_0 : decode cX11_walks 0 = .ok (.aload_n 0, 1) := by decide +kernel
theorem dX11_walks_1 : decode cX11_walks 1 = .ok (.iload_n 1, 1) := by decide +kernel
theorem dX11_walks_2 : decode cX11_walks 2 = .ok (.invokevirtual 154, 3) := by decide +kernel
theorem dX11_walks_5 : decode cX11_walks 5 = .ok (.ifCond .eq 21, 3) := by decide +kernel
theorem dX11_walks_8 : decode cX11_walks 8 = .ok (.aload_n 0, 1) := by decide +kernel
theorem dX11_walks_9 : decode cX11_walks 9 = .ok (.iload_n 2, 1) := by decide +kernel
theorem dX11_walks_10 : decode cX11_walks 10 = .ok (.invokevirtual 154, 3) := by decide +kernel
theorem dX11_walks_13 : decode cX11_walks 13 = .ok (.ifCond .eq 13, 3) := by decide +kernel
theorem dX11_walks_16 : decode cX11_walks 16 = .ok (.iload_n 3, 1) := by decide +kernel
theorem dX11_walks_17 : decode cX11_walks 17 = .ok (.iconst 0, 1) := by decide +kernel
theorem dX11_walks_18 : decode cX11_walks 18 = .ok (.bipush 10, 2) := by decide +kernel
theorem dX11_walks_20 : decode cX11_walks 20 = .ok (.invokestatic 139, 3) := by decide +kernel
theorem dX11_walks_23 : decode cX11_walks 23 = .ok (.ifCond .ne 7, 3) := by decide +kernel
theorem dX11_walks_26 : decode cX11_walks 26 = .ok (.ldc2_w 312, 3) := by decide +kernel
theorem dX11_walks_29 : decode cX11_walks 29 = .ok (.lreturn, 1) := by decide +kernel
theorem dX11_walks_30 : decode cX11_walks 30 = .ok (.aload_n 0, 1) := by decide +kernel
theorem dX11_walks_31 : decode cX11_walks 31 = .ok (.iload_n 1, 1) := by decide +kernel
theorem dX11_walks_32 : decode cX11_walks 32 = .ok (.invokevirtual 282, 3) := by decide +kernel
theorem dX11_walks_35 : decode cX11_walks 35 = .ok (.ifCond .eq 11, 3) := by decide +kernel
theorem dX11_walks_38 : decode cX11_walks 38 = .ok (.aload_n 0, 1) := by decide +kernel
theorem dX11_walks_39 : decode cX11_walks 39 = .ok (.iload_n 2, 1) := by decide +kernel
theorem dX11_walks_40 : decode cX11_walks 40 = .ok (.invokevirtual 282, 3) := by decide +kernel
theorem dX11_walks_43 : decode cX11_walks 43 = .ok (.ifCond .ne 5, 3) := by decide +kernel
theorem dX11_walks_46 : decode cX11_walks 46 = .ok (.lconst 0, 1) := by decide +kernel
theorem dX11_walks_47 : decode cX11_walks 47 = .ok (.lreturn, 1) := by decide +kernel
theorem dX11_walks_48 : decode cX11_walks 48 = .ok (.aload_n 0, 1) := by decide +kernel
theorem dX11_walks_49 : decode cX11_walks 49 = .ok (.invokevirtual 291, 3) := by decide +kernel
theorem dX11_walks_52 : decode cX11_walks 52 = .ok (.iconst 0, 1) := by decide +kernel
theorem dX11_walks_53 : decode cX11_walks 53 = .ok (.istore 4, 2) := by decide +kernel
theorem dX11_walks_55 : decode cX11_walks 55 = .ok (.iload 4, 2) := by decide +kernel
theorem dX11_walks_57 : decode cX11_walks 57 = .ok (.aload_n 0, 1) := by decide +kernel
theorem dX11_walks_58 : decode cX11_walks 58 = .ok (.getfield 130, 3) := by decide +kernel
theorem dX11_walks_61 : decode cX11_walks 61 = .ok (.if_icmp .ge 27, 3) := by decide +kernel
theorem dX11_walks_64 : decode cX11_walks 64 = .ok (.aload_n 0, 1) := by decide +kernel
theorem dX11_walks_65 : decode cX11_walks 65 = .ok (.getfield 97, 3) := by decide +kernel
theorem dX11_walks_68 : decode cX11_walks 68 = .ok (.iload 4, 2) := by decide +kernel
theorem dX11_walks_70 : decode cX11_walks 70 = .ok (.iload 4, 2) := by decide +kernel
theorem dX11_walks_72 : decode cX11_walks 72 = .ok (.iload_n 1, 1) := by decide +kernel
theorem dX11_walks_73 : decode cX11_walks 73 = .ok (.if_icmp .ne 7, 3) := by decide +kernel
theorem dX11_walks_76 : decode cX11_walks 76 = .ok (.lconst 1, 1) := by decide +kernel
theorem dX11_walks_77 : decode cX11_walks 77 = .ok (.goto 4, 3) := by decide +kernel
theorem dX11_walks_80 : decode cX11_walks 80 = .ok (.lconst 0, 1) := by decide +kernel
theorem dX11_walks_81 : decode cX11_walks 81 = .ok (.lastore, 1) := by decide +kernel
theorem dX11_walks_82 : decode cX11_walks 82 = .ok (.iinc 4 1, 3) := by decide +kernel
theorem dX11_walks_85 : decode cX11_walks 85 = .ok (.goto (-30), 3) := by decide +kernel
theorem dX11_walks_88 : decode cX11_walks 88 = .ok (.iconst 0, 1) := by decide +kernel
theorem dX11_walks_89 : decode cX11_walks 89 = .ok (.istore 4, 2) := by decide +kernel
theorem dX11_walks_91 : decode cX11_walks 91 = .ok (.iload 4, 2) := by decide +kernel
theorem dX11_walks_93 : decode cX11_walks 93 = .ok (.iload_n 3, 1) := by decide +kernel
theorem dX11_walks_94 : decode cX11_walks 94 = .ok (.if_icmp .ge 118, 3) := by decide +kernel
theorem dX11_walks_97 : decode cX11_walks 97 = .ok (.iconst 0, 1) := by decide +kernel
theorem dX11_walks_98 : decode cX11_walks 98 = .ok (.istore 5, 2) := by decide +kernel
theorem dX11_walks_100 : decode cX11_walks 100 = .ok (.iload 5, 2) := by decide +kernel
theorem dX11_walks_102 : decode cX11_walks 102 = .ok (.aload_n 0, 1) := by decide +kernel
theorem dX11_walks_103 : decode cX11_walks 103 = .ok (.getfield 130, 3) := by decide +kernel
theorem dX11_walks_106 : decode cX11_walks 106 = .ok (.if_icmp .ge 68, 3) := by decide +kernel
theorem dX11_walks_109 : decode cX11_walks 109 = .ok (.aload_n 0, 1) := by decide +kernel
theorem dX11_walks_110 : decode cX11_walks 110 = .ok (.getfield 100, 3) := by decide +kernel
theorem dX11_walks_113 : decode cX11_walks 113 = .ok (.iload 5, 2) := by decide +kernel
theorem dX11_walks_115 : decode cX11_walks 115 = .ok (.lconst 0, 1) := by decide +kernel
theorem dX11_walks_116 : decode cX11_walks 116 = .ok (.lastore, 1) := by decide +kernel
theorem dX11_walks_117 : decode cX11_walks 117 = .ok (.iconst 0, 1) := by decide +kernel
theorem dX11_walks_118 : decode cX11_walks 118 = .ok (.istore 6, 2) := by decide +kernel
theorem dX11_walks_120 : decode cX11_walks 120 = .ok (.iload 6, 2) := by decide +kernel
theorem dX11_walks_122 : decode cX11_walks 122 = .ok (.aload_n 0, 1) := by decide +kernel
theorem dX11_walks_123 : decode cX11_walks 123 = .ok (.getfield 130, 3) := by decide +kernel
theorem dX11_walks_126 : decode cX11_walks 126 = .ok (.if_icmp .ge 42, 3) := by decide +kernel
theorem dX11_walks_129 : decode cX11_walks 129 = .ok (.aload_n 0, 1) := by decide +kernel
theorem dX11_walks_130 : decode cX11_walks 130 = .ok (.iload 6, 2) := by decide +kernel
theorem dX11_walks_132 : decode cX11_walks 132 = .ok (.iload 5, 2) := by decide +kernel
theorem dX11_walks_134 : decode cX11_walks 134 = .ok (.invokevirtual 294, 3) := by decide +kernel
theorem dX11_walks_137 : decode cX11_walks 137 = .ok (.ifCond .eq 25, 3) := by decide +kernel
theorem dX11_walks_140 : decode cX11_walks 140 = .ok (.aload_n 0, 1) := by decide +kernel
theorem dX11_walks_141 : decode cX11_walks 141 = .ok (.getfield 100, 3) := by decide +kernel
theorem dX11_walks_144 : decode cX11_walks 144 = .ok (.iload 5, 2) := by decide +kernel
theorem dX11_walks_146 : decode cX11_walks 146 = .ok (.aload_n 0, 1) := by decide +kernel
theorem dX11_walks_147 : decode cX11_walks 147 = .ok (.getfield 100, 3) := by decide +kernel
theorem dX11_walks_150 : decode cX11_walks 150 = .ok (.iload 5, 2) := by decide +kernel
theorem dX11_walks_152 : decode cX11_walks 152 = .ok (.laload, 1) := by decide +kernel
theorem dX11_walks_153 : decode cX11_walks 153 = .ok (.aload_n 0, 1) := by decide +kernel
theorem dX11_walks_154 : decode cX11_walks 154 = .ok (.getfield 97, 3) := by decide +kernel
theorem dX11_walks_157 : decode cX11_walks 157 = .ok (.iload 6, 2) := by decide +kernel
theorem dX11_walks_159 : decode cX11_walks 159 = .ok (.laload, 1) := by decide +kernel
theorem dX11_walks_160 : decode cX11_walks 160 = .ok (.ladd, 1) := by decide +kernel
theorem dX11_walks_161 : decode cX11_walks 161 = .ok (.lastore, 1) := by decide +kernel
theorem dX11_walks_162 : decode cX11_walks 162 = .ok (.iinc 6 1, 3) := by decide +kernel
theorem dX11_walks_165 : decode cX11_walks 165 = .ok (.goto (-45), 3) := by decide +kernel
theorem dX11_walks_168 : decode cX11_walks 168 = .ok (.iinc 5 1, 3) := by decide +kernel
theorem dX11_walks_171 : decode cX11_walks 171 = .ok (.goto (-71), 3) := by decide +kernel
theorem dX11_walks_174 : decode cX11_walks 174 = .ok (.iconst 0, 1) := by decide +kernel
theorem dX11_walks_175 : decode cX11_walks 175 = .ok (.istore 5, 2) := by decide +kernel
theorem dX11_walks_177 : decode cX11_walks 177 = .ok (.iload 5, 2) := by decide +kernel
theorem dX11_walks_179 : decode cX11_walks 179 = .ok (.aload_n 0, 1) := by decide +kernel
theorem dX11_walks_180 : decode cX11_walks 180 = .ok (.getfield 130, 3) := by decide +kernel
theorem dX11_walks_183 : decode cX11_walks 183 = .ok (.if_icmp .ge 23, 3) := by decide +kernel
theorem dX11_walks_186 : decode cX11_walks 186 = .ok (.aload_n 0, 1) := by decide +kernel
theorem dX11_walks_187 : decode cX11_walks 187 = .ok (.getfield 97, 3) := by decide +kernel
theorem dX11_walks_190 : decode cX11_walks 190 = .ok (.iload 5, 2) := by decide +kernel
theorem dX11_walks_192 : decode cX11_walks 192 = .ok (.aload_n 0, 1) := by decide +kernel
theorem dX11_walks_193 : decode cX11_walks 193 = .ok (.getfield 100, 3) := by decide +kernel
theorem dX11_walks_196 : decode cX11_walks 196 = .ok (.iload 5, 2) := by decide +kernel
theorem dX11_walks_198 : decode cX11_walks 198 = .ok (.laload, 1) := by decide +kernel
theorem dX11_walks_199 : decode cX11_walks 199 = .ok (.lastore, 1) := by decide +kernel
theorem dX11_walks_200 : decode cX11_walks 200 = .ok (.iinc 5 1, 3) := by decide +kernel
theorem dX11_walks_203 : decode cX11_walks 203 = .ok (.goto (-26), 3) := by decide +kernel
theorem dX11_walks_206 : decode cX11_walks 206 = .ok (.iinc 4 1, 3) := by decide +kernel
theorem dX11_walks_209 : decode cX11_walks 209 = .ok (.goto (-118), 3) := by decide +kernel
theorem dX11_walks_212 : decode cX11_walks 212 = .ok (.aload_n 0, 1) := by decide +kernel
theorem dX11_walks_213 : decode cX11_walks 213 = .ok (.getfield 97, 3) := by decide +kernel
theorem dX11_walks_216 : decode cX11_walks 216 = .ok (.iload_n 2, 1) := by decide +kernel
theorem dX11_walks_217 : decode cX11_walks 217 = .ok (.laload, 1) := by decide +kernel
theorem dX11_walks_218 : decode cX11_walks 218 = .ok (.lreturn, 1) := by decide +kernel
theorem dX11_wins_0 : decode cX11_wins 0 = .ok (.iconst 0, 1) := by decide +kernel
theorem dX11_wins_1 : decode cX11_wins 1 = .ok (.istore 4, 2) := by decide +kernel
theorem dX11_wins_3 : decode cX11_wins 3 = .ok (.iload 4, 2) := by decide +kernel
theorem dX11_wins_5 : decode cX11_wins 5 = .ok (.iload_n 1, 1) := by decide +kernel
theorem dX11_wins_6 : decode cX11_wins 6 = .ok (.if_icmp .ge 52, 3) := by decide +kernel
theorem dX11_wins_9 : decode cX11_wins 9 = .ok (.iload_n 2, 1) := by decide +kernel
theorem dX11_wins_10 : decode cX11_wins 10 = .ok (.iload 4, 2) := by decide +kernel
theorem dX11_wins_12 : decode cX11_wins 12 = .ok (.ishr, 1) := by decide +kernel
theorem dX11_wins_13 : decode cX11_wins 13 = .ok (.iconst 1, 1) := by decide +kernel
theorem dX11_wins_14 : decode cX11_wins 14 = .ok (.iand, 1) := by decide +kernel
theorem dX11_wins_15 : decode cX11_wins 15 = .ok (.ifCond .ne 37, 3) := by decide +kernel
theorem dX11_wins_18 : decode cX11_wins 18 = .ok (.aload_n 0, 1) := by decide +kernel
theorem dX11_wins_19 : decode cX11_wins 19 = .ok (.iload_n 3, 1) := by decide +kernel
theorem dX11_wins_20 : decode cX11_wins 20 = .ok (.iload 4, 2) := by decide +kernel
theorem dX11_wins_22 : decode cX11_wins 22 = .ok (.invokevirtual 370, 3) := by decide +kernel
theorem dX11_wins_25 : decode cX11_wins 25 = .ok (.ldc 129, 2) := by decide +kernel
theorem dX11_wins_27 : decode cX11_wins 27 = .ok (.if_icmp .ge 25, 3) := by decide +kernel
theorem dX11_wins_30 : decode cX11_wins 30 = .ok (.aload_n 0, 1) := by decide +kernel
theorem dX11_wins_31 : decode cX11_wins 31 = .ok (.getfield 107, 3) := by decide +kernel
theorem dX11_wins_34 : decode cX11_wins 34 = .ok (.bipush 13, 2) := by decide +kernel
theorem dX11_wins_36 : decode cX11_wins 36 = .ok (.iload_n 2, 1) := by decide +kernel
theorem dX11_wins_37 : decode cX11_wins 37 = .ok (.iconst 1, 1) := by decide +kernel
theorem dX11_wins_38 : decode cX11_wins 38 = .ok (.iload 4, 2) := by decide +kernel
theorem dX11_wins_40 : decode cX11_wins 40 = .ok (.ishl, 1) := by decide +kernel
theorem dX11_wins_41 : decode cX11_wins 41 = .ok (.ior, 1) := by decide +kernel
theorem dX11_wins_42 : decode cX11_wins 42 = .ok (.imul, 1) := by decide +kernel
theorem dX11_wins_43 : decode cX11_wins 43 = .ok (.iload 4, 2) := by decide +kernel
theorem dX11_wins_45 : decode cX11_wins 45 = .ok (.iadd, 1) := by decide +kernel
theorem dX11_wins_46 : decode cX11_wins 46 = .ok (.iaload, 1) := by decide +kernel
theorem dX11_wins_47 : decode cX11_wins 47 = .ok (.ifCond .ne 5, 3) := by decide +kernel
theorem dX11_wins_50 : decode cX11_wins 50 = .ok (.iconst 1, 1) := by decide +kernel
theorem dX11_wins_51 : decode cX11_wins 51 = .ok (.ireturn, 1) := by decide +kernel
theorem dX11_wins_52 : decode cX11_wins 52 = .ok (.iinc 4 1, 3) := by decide +kernel
theorem dX11_wins_55 : decode cX11_wins 55 = .ok (.goto (-52), 3) := by decide +kernel
theorem dX11_wins_58 : decode cX11_wins 58 = .ok (.iconst 0, 1) := by decide +kernel
theorem dX11_wins_59 : decode cX11_wins 59 = .ok (.ireturn, 1) := by decide +kernel
theorem dX11_without_0 : decode cX11_without 0 = .ok (.aload_n 0, 1) := by decide +kernel
theorem dX11_without_1 : decode cX11_without 1 = .ok (.iload_n 1, 1) := by decide +kernel
theorem dX11_without_2 : decode cX11_without 2 = .ok (.invokevirtual 154, 3) := by decide +kernel
theorem dX11_without_5 : decode cX11_without 5 = .ok (.ifCond .eq 11, 3) := by decide +kernel
theorem dX11_without_8 : decode cX11_without 8 = .ok (.aload_n 0, 1) := by decide +kernel
theorem dX11_without_9 : decode cX11_without 9 = .ok (.iload_n 2, 1) := by decide +kernel
theorem dX11_without_10 : decode cX11_without 10 = .ok (.invokevirtual 154, 3) := by decide +kernel
theorem dX11_without_13 : decode cX11_without 13 = .ok (.ifCond .ne 7, 3) := by decide +kernel
theorem dX11_without_16 : decode cX11_without 16 = .ok (.ldc2_w 312, 3) := by decide +kernel
theorem dX11_without_19 : decode cX11_without 19 = .ok (.lreturn, 1) := by decide +kernel
theorem dX11_without_20 : decode cX11_without 20 = .ok (.aload_n 0, 1) := by decide +kernel
theorem dX11_without_21 : decode cX11_without 21 = .ok (.invokevirtual 291, 3) := by decide +kernel
theorem dX11_without_24 : decode cX11_without 24 = .ok (.aload_n 0, 1) := by decide +kernel
theorem dX11_without_25 : decode cX11_without 25 = .ok (.iload_n 1, 1) := by decide +kernel
theorem dX11_without_26 : decode cX11_without 26 = .ok (.invokevirtual 282, 3) := by decide +kernel
theorem dX11_without_29 : decode cX11_without 29 = .ok (.ifCond .eq 21, 3) := by decide +kernel
theorem dX11_without_32 : decode cX11_without 32 = .ok (.aload_n 0, 1) := by decide +kernel
theorem dX11_without_33 : decode cX11_without 33 = .ok (.iload_n 2, 1) := by decide +kernel
theorem dX11_without_34 : decode cX11_without 34 = .ok (.invokevirtual 282, 3) := by decide +kernel
theorem dX11_without_37 : decode cX11_without 37 = .ok (.ifCond .eq 13, 3) := by decide +kernel
theorem dX11_without_40 : decode cX11_without 40 = .ok (.aload_n 0, 1) := by decide +kernel
theorem dX11_without_41 : decode cX11_without 41 = .ok (.iload_n 1, 1) := by decide +kernel
theorem dX11_without_42 : decode cX11_without 42 = .ok (.iload_n 2, 1) := by decide +kernel
theorem dX11_without_43 : decode cX11_without 43 = .ok (.iconst (-1), 1) := by decide +kernel
theorem dX11_without_44 : decode cX11_without 44 = .ok (.invokevirtual 321, 3) := by decide +kernel
theorem dX11_without_47 : decode cX11_without 47 = .ok (.ifCond .ne 7, 3) := by decide +kernel
theorem dX11_without_50 : decode cX11_without 50 = .ok (.ldc2_w 324, 3) := by decide +kernel
theorem dX11_without_53 : decode cX11_without 53 = .ok (.lreturn, 1) := by decide +kernel
theorem dX11_without_54 : decode cX11_without 54 = .ok (.lconst 0, 1) := by decide +kernel
theorem dX11_without_55 : decode cX11_without 55 = .ok (.lstore_n 3, 1) := by decide +kernel
theorem dX11_without_56 : decode cX11_without 56 = .ok (.iconst 0, 1) := by decide +kernel
theorem dX11_without_57 : decode cX11_without 57 = .ok (.istore 5, 2) := by decide +kernel
theorem dX11_without_59 : decode cX11_without 59 = .ok (.iload 5, 2) := by decide +kernel
theorem dX11_without_61 : decode cX11_without 61 = .ok (.aload_n 0, 1) := by decide +kernel
theorem dX11_without_62 : decode cX11_without 62 = .ok (.getfield 130, 3) := by decide +kernel
theorem dX11_without_65 : decode cX11_without 65 = .ok (.if_icmp .ge 39, 3) := by decide +kernel
theorem dX11_without_68 : decode cX11_without 68 = .ok (.iload 5, 2) := by decide +kernel
theorem dX11_without_70 : decode cX11_without 70 = .ok (.iload_n 1, 1) := by decide +kernel
theorem dX11_without_71 : decode cX11_without 71 = .ok (.if_icmp .eq 27, 3) := by decide +kernel
theorem dX11_without_74 : decode cX11_without 74 = .ok (.iload 5, 2) := by decide +kernel
theorem dX11_without_76 : decode cX11_without 76 = .ok (.iload_n 2, 1) := by decide +kernel
theorem dX11_without_77 : decode cX11_without 77 = .ok (.if_icmp .eq 21, 3) := by decide +kernel
theorem dX11_without_80 : decode cX11_without 80 = .ok (.aload_n 0, 1) := by decide +kernel
theorem dX11_without_81 : decode cX11_without 81 = .ok (.iload_n 1, 1) := by decide +kernel
theorem dX11_without_82 : decode cX11_without 82 = .ok (.iload_n 2, 1) := by decide +kernel
theorem dX11_without_83 : decode cX11_without 83 = .ok (.iload 5, 2) := by decide +kernel
theorem dX11_without_85 : decode cX11_without 85 = .ok (.invokevirtual 321, 3) := by decide +kernel
theorem dX11_without_88 : decode cX11_without 88 = .ok (.ifCond .ne 10, 3) := by decide +kernel
theorem dX11_without_91 : decode cX11_without 91 = .ok (.lload_n 3, 1) := by decide +kernel
theorem dX11_without_92 : decode cX11_without 92 = .ok (.lconst 1, 1) := by decide +kernel
theorem dX11_without_93 : decode cX11_without 93 = .ok (.iload 5, 2) := by decide +kernel
theorem dX11_without_95 : decode cX11_without 95 = .ok (.lshl, 1) := by decide +kernel
theorem dX11_without_96 : decode cX11_without 96 = .ok (.lor, 1) := by decide +kernel
theorem dX11_without_97 : decode cX11_without 97 = .ok (.lstore_n 3, 1) := by decide +kernel
theorem dX11_without_98 : decode cX11_without 98 = .ok (.iinc 5 1, 3) := by decide +kernel
theorem dX11_without_101 : decode cX11_without 101 = .ok (.goto (-42), 3) := by decide +kernel
theorem dX11_without_104 : decode cX11_without 104 = .ok (.lload_n 3, 1) := by decide +kernel
theorem dX11_without_105 : decode cX11_without 105 = .ok (.lreturn, 1) := by decide +kernel
theorem dX11_word_0 : decode cX11_word 0 = .ok (.iload_n 1, 1) := by decide +kernel
theorem dX11_word_1 : decode cX11_word 1 = .ok (.iconst 1, 1) := by decide +kernel
theorem dX11_word_2 : decode cX11_word 2 = .ok (.bipush 8, 2) := by decide +kernel
theorem dX11_word_4 : decode cX11_word 4 = .ok (.invokestatic 139, 3) := by decide +kernel
theorem dX11_word_7 : decode cX11_word 7 = .ok (.ifCond .eq 40, 3) := by decide +kernel
theorem dX11_word_10 : decode cX11_word 10 = .ok (.iload_n 2, 1) := by decide +kernel
theorem dX11_word_11 : decode cX11_word 11 = .ok (.iconst 0, 1) := by decide +kernel
theorem dX11_word_12 : decode cX11_word 12 = .ok (.bipush 99, 2) := by decide +kernel
theorem dX11_word_14 : decode cX11_word 14 = .ok (.invokestatic 139, 3) := by decide +kernel
theorem dX11_word_17 : decode cX11_word 17 = .ok (.ifCond .eq 30, 3) := by decide +kernel
theorem dX11_word_20 : decode cX11_word 20 = .ok (.iload_n 3, 1) := by decide +kernel
theorem dX11_word_21 : decode cX11_word 21 = .ok (.iconst 1, 1) := by decide +kernel
theorem dX11_word_22 : decode cX11_word 22 = .ok (.bipush 15, 2) := by decide +kernel
theorem dX11_word_24 : decode cX11_word 24 = .ok (.invokestatic 139, 3) := by decide +kernel
theorem dX11_word_27 : decode cX11_word 27 = .ok (.ifCond .eq 20, 3) := by decide +kernel
theorem dX11_word_30 : decode cX11_word 30 = .ok (.aload_n 0, 1) := by decide +kernel
theorem dX11_word_31 : decode cX11_word 31 = .ok (.getfield 130, 3) := by decide +kernel
theorem dX11_word_34 : decode cX11_word 34 = .ok (.bipush 40, 2) := by decide +kernel
theorem dX11_word_36 : decode cX11_word 36 = .ok (.if_icmp .eq 11, 3) := by decide +kernel
theorem dX11_word_39 : decode cX11_word 39 = .ok (.iload_n 1, 1) := by decide +kernel
theorem dX11_word_40 : decode cX11_word 40 = .ok (.aload_n 0, 1) := by decide +kernel
theorem dX11_word_41 : decode cX11_word 41 = .ok (.getfield 133, 3) := by decide +kernel
theorem dX11_word_44 : decode cX11_word 44 = .ok (.if_icmp .le 5, 3) := by decide +kernel
theorem dX11_word_47 : decode cX11_word 47 = .ok (.iconst (-1), 1) := by decide +kernel
theorem dX11_word_48 : decode cX11_word 48 = .ok (.ireturn, 1) := by decide +kernel
theorem dX11_word_49 : decode cX11_word 49 = .ok (.aload_n 0, 1) := by decide +kernel
theorem dX11_word_50 : decode cX11_word 50 = .ok (.iload_n 1, 1) := by decide +kernel
theorem dX11_word_51 : decode cX11_word 51 = .ok (.invokevirtual 147, 3) := by decide +kernel
theorem dX11_word_54 : decode cX11_word 54 = .ok (.ifCond .eq 10, 3) := by decide +kernel
theorem dX11_word_57 : decode cX11_word 57 = .ok (.aload_n 0, 1) := by decide +kernel
theorem dX11_word_58 : decode cX11_word 58 = .ok (.invokevirtual 150, 3) := by decide +kernel
theorem dX11_word_61 : decode cX11_word 61 = .ok (.ifCond .eq 6, 3) := by decide +kernel
theorem dX11_word_64 : decode cX11_word 64 = .ok (.bipush (-2), 2) := by decide +kernel
theorem dX11_word_66 : decode cX11_word 66 = .ok (.ireturn, 1) := by decide +kernel
theorem dX11_word_67 : decode cX11_word 67 = .ok (.iconst 0, 1) := by decide +kernel
theorem dX11_word_68 : decode cX11_word 68 = .ok (.istore 4, 2) := by decide +kernel
theorem dX11_word_70 : decode cX11_word 70 = .ok (.iload 4, 2) := by decide +kernel
theorem dX11_word_72 : decode cX11_word 72 = .ok (.iload_n 1, 1) := by decide +kernel
theorem dX11_word_73 : decode cX11_word 73 = .ok (.if_icmp .ge 31, 3) := by decide +kernel
theorem dX11_word_76 : decode cX11_word 76 = .ok (.aload_n 0, 1) := by decide +kernel
theorem dX11_word_77 : decode cX11_word 77 = .ok (.getfield 13, 3) := by decide +kernel
theorem dX11_word_80 : decode cX11_word 80 = .ok (.bipush 8, 2) := by decide +kernel
theorem dX11_word_82 : decode cX11_word 82 = .ok (.aload_n 0, 1) := by decide +kernel
theorem dX11_word_83 : decode cX11_word 83 = .ok (.getfield 130, 3) := by decide +kernel
theorem dX11_word_86 : decode cX11_word 86 = .ok (.imul, 1) := by decide +kernel
theorem dX11_word_87 : decode cX11_word 87 = .ok (.iload 4, 2) := by decide +kernel
theorem dX11_word_89 : decode cX11_word 89 = .ok (.iadd, 1) := by decide +kernel
theorem dX11_word_90 : decode cX11_word 90 = .ok (.aload_n 0, 1) := by decide +kernel
theorem dX11_word_91 : decode cX11_word 91 = .ok (.getfield 26, 3) := by decide +kernel
theorem dX11_word_94 : decode cX11_word 94 = .ok (.iload 4, 2) := by decide +kernel
theorem dX11_word_96 : decode cX11_word 96 = .ok (.iaload, 1) := by decide +kernel
theorem dX11_word_97 : decode cX11_word 97 = .ok (.iastore, 1) := by decide +kernel
theorem dX11_word_98 : decode cX11_word 98 = .ok (.iinc 4 1, 3) := by decide +kernel
theorem dX11_word_101 : decode cX11_word 101 = .ok (.goto (-31), 3) := by decide +kernel
theorem dX11_word_104 : decode cX11_word 104 = .ok (.aload_n 0, 1) := by decide +kernel
theorem dX11_word_105 : decode cX11_word 105 = .ok (.getfield 7, 3) := by decide +kernel
theorem dX11_word_108 : decode cX11_word 108 = .ok (.aload_n 0, 1) := by decide +kernel
theorem dX11_word_109 : decode cX11_word 109 = .ok (.getfield 130, 3) := by decide +kernel
theorem dX11_word_112 : decode cX11_word 112 = .ok (.iload_n 1, 1) := by decide +kernel
theorem dX11_word_113 : decode cX11_word 113 = .ok (.iastore, 1) := by decide +kernel
theorem dX11_word_114 : decode cX11_word 114 = .ok (.aload_n 0, 1) := by decide +kernel
theorem dX11_word_115 : decode cX11_word 115 = .ok (.getfield 16, 3) := by decide +kernel
theorem dX11_word_118 : decode cX11_word 118 = .ok (.aload_n 0, 1) := by decide +kernel
theorem dX11_word_119 : decode cX11_word 119 = .ok (.getfield 130, 3) := by decide +kernel
theorem dX11_word_122 : decode cX11_word 122 = .ok (.iload_n 2, 1) := by decide +kernel
theorem dX11_word_123 : decode cX11_word 123 = .ok (.iastore, 1) := by decide +kernel
theorem dX11_word_124 : decode cX11_word 124 = .ok (.aload_n 0, 1) := by decide +kernel
theorem dX11_word_125 : decode cX11_word 125 = .ok (.getfield 19, 3) := by decide +kernel
theorem dX11_word_128 : decode cX11_word 128 = .ok (.aload_n 0, 1) := by decide +kernel
theorem dX11_word_129 : decode cX11_word 129 = .ok (.getfield 130, 3) := by decide +kernel
theorem dX11_word_132 : decode cX11_word 132 = .ok (.iload_n 3, 1) := by decide +kernel
theorem dX11_word_133 : decode cX11_word 133 = .ok (.iastore, 1) := by decide +kernel
theorem dX11_word_134 : decode cX11_word 134 = .ok (.aload_n 0, 1) := by decide +kernel
theorem dX11_word_135 : decode cX11_word 135 = .ok (.getfield 22, 3) := by decide +kernel
theorem dX11_word_138 : decode cX11_word 138 = .ok (.aload_n 0, 1) := by decide +kernel
theorem dX11_word_139 : decode cX11_word 139 = .ok (.getfield 130, 3) := by decide +kernel
theorem dX11_word_142 : decode cX11_word 142 = .ok (.iconst 0, 1) := by decide +kernel
theorem dX11_word_143 : decode cX11_word 143 = .ok (.bastore, 1) := by decide +kernel
theorem dX11_word_144 : decode cX11_word 144 = .ok (.aload_n 0, 1) := by decide +kernel
theorem dX11_word_145 : decode cX11_word 145 = .ok (.aload_n 0, 1) := by decide +kernel
theorem dX11_word_146 : decode cX11_word 146 = .ok (.getfield 130, 3) := by decide +kernel
theorem dX11_word_149 : decode cX11_word 149 = .ok (.iconst 1, 1) := by decide +kernel
theorem dX11_word_150 : decode cX11_word 150 = .ok (.iadd, 1) := by decide +kernel
theorem dX11_word_151 : decode cX11_word 151 = .ok (.putfield 130, 3) := by decide +kernel
theorem dX11_word_154 : decode cX11_word 154 = .ok (.aload_n 0, 1) := by decide +kernel
theorem dX11_word_155 : decode cX11_word 155 = .ok (.getfield 130, 3) := by decide +kernel
theorem dX11_word_158 : decode cX11_word 158 = .ok (.iconst 1, 1) := by decide +kernel
theorem dX11_word_159 : decode cX11_word 159 = .ok (.isub, 1) := by decide +kernel
theorem dX11_word_160 : decode cX11_word 160 = .ok (.ireturn, 1) := by decide +kernel
theorem dX11_wrongAt_0 : decode cX11_wrongAt 0 = .ok (.aload_n 0, 1) := by decide +kernel
theorem dX11_wrongAt_1 : decode cX11_wrongAt 1 = .ok (.sipush (-1000), 3) := by decide +kernel
theorem dX11_wrongAt_4 : decode cX11_wrongAt 4 = .ok (.iload_n 1, 1) := by decide +kernel
theorem dX11_wrongAt_5 : decode cX11_wrongAt 5 = .ok (.imul, 1) := by decide +kernel
theorem dX11_wrongAt_6 : decode cX11_wrongAt 6 = .ok (.iload_n 2, 1) := by decide +kernel
theorem dX11_wrongAt_7 : decode cX11_wrongAt 7 = .ok (.isub, 1) := by decide +kernel
theorem dX11_wrongAt_8 : decode cX11_wrongAt 8 = .ok (.putfield 171, 3) := by decide +kernel
theorem dX11_wrongAt_11 : decode cX11_wrongAt 11 = .ok (.iconst 0, 1) := by decide +kernel
theorem dX11_wrongAt_12 : decode cX11_wrongAt 12 = .ok (.ireturn, 1) := by decide +kernel
