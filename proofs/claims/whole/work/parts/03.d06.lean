theorem dX11_meet_216 : decode cX11_meet 216 = .ok (.ireturn, 1) := by decide +kernel
theorem dX11_ones_0 : decode cX11_ones 0 = .ok (.iconst 0, 1) := by decide +kernel
theorem dX11_ones_1 : decode cX11_ones 1 = .ok (.istore_n 1, 1) := by decide +kernel
theorem dX11_ones_2 : decode cX11_ones 2 = .ok (.iconst 0, 1) := by decide +kernel
theorem dX11_ones_3 : decode cX11_ones 3 = .ok (.istore_n 2, 1) := by decide +kernel
theorem dX11_ones_4 : decode cX11_ones 4 = .ok (.iload_n 2, 1) := by decide +kernel
theorem dX11_ones_5 : decode cX11_ones 5 = .ok (.bipush 10, 2) := by decide +kernel
theorem dX11_ones_7 : decode cX11_ones 7 = .ok (.if_icmp .ge 17, 3) := by decide +kernel
theorem dX11_ones_10 : decode cX11_ones 10 = .ok (.iload_n 1, 1) := by decide +kernel
theorem dX11_ones_11 : decode cX11_ones 11 = .ok (.iload_n 0, 1) := by decide +kernel
theorem dX11_ones_12 : decode cX11_ones 12 = .ok (.iload_n 2, 1) := by decide +kernel
theorem dX11_ones_13 : decode cX11_ones 13 = .ok (.ishr, 1) := by decide +kernel
theorem dX11_ones_14 : decode cX11_ones 14 = .ok (.iconst 1, 1) := by decide +kernel
theorem dX11_ones_15 : decode cX11_ones 15 = .ok (.iand, 1) := by decide +kernel
theorem dX11_ones_16 : decode cX11_ones 16 = .ok (.iadd, 1) := by decide +kernel
theorem dX11_ones_17 : decode cX11_ones 17 = .ok (.istore_n 1, 1) := by decide +kernel
theorem dX11_ones_18 : decode cX11_ones 18 = .ok (.iinc 2 1, 3) := by decide +kernel
theorem dX11_ones_21 : decode cX11_ones 21 = .ok (.goto (-17), 3) := by decide +kernel
theorem dX11_ones_24 : decode cX11_ones 24 = .ok (.iload_n 1, 1) := by decide +kernel
theorem dX11_ones_25 : decode cX11_ones 25 = .ok (.ireturn, 1) := by decide +kernel
theorem dX11_isFirst_0 : decode cX11_isFirst 0 = .ok (.iload_n 0, 1) := by decide +kernel
theorem dX11_isFirst_1 : decode cX11_isFirst 1 = .ok (.iload_n 1, 1) := by decide +kernel
theorem dX11_isFirst_2 : decode cX11_isFirst 2 = .ok (.ixor, 1) := by decide +kernel
theorem dX11_isFirst_3 : decode cX11_isFirst 3 = .ok (.istore_n 2, 1) := by decide +kernel
theorem dX11_isFirst_4 : decode cX11_isFirst 4 = .ok (.iload_n 0, 1) := by decide +kernel
theorem dX11_isFirst_5 : decode cX11_isFirst 5 = .ok (.iload_n 2, 1) := by decide +kernel
theorem dX11_isFirst_6 : decode cX11_isFirst 6 = .ok (.iand, 1) := by decide +kernel
theorem dX11_isFirst_7 : decode cX11_isFirst 7 = .ok (.iload_n 2, 1) := by decide +kernel
theorem dX11_isFirst_8 : decode cX11_isFirst 8 = .ok (.ineg, 1) := by decide +kernel
theorem dX11_isFirst_9 : decode cX11_isFirst 9 = .ok (.iand, 1) := by decide +kernel
theorem dX11_isFirst_10 : decode cX11_isFirst 10 = .ok (.ifCond .eq 7, 3) := by decide +kernel
theorem dX11_isFirst_13 : decode cX11_isFirst 13 = .ok (.iconst 1, 1) := by decide +kernel
theorem dX11_isFirst_14 : decode cX11_isFirst 14 = .ok (.goto 4, 3) := by decide +kernel
theorem dX11_isFirst_17 : decode cX11_isFirst 17 = .ok (.iconst 0, 1) := by decide +kernel
theorem dX11_isFirst_18 : decode cX11_isFirst 18 = .ok (.ireturn, 1) := by decide +kernel
theorem dX11_givenSet_0 : decode cX11_givenSet 0 = .ok (.iconst 0, 1) := by decide +kernel
theorem dX11_givenSet_1 : decode cX11_givenSet 1 = .ok (.istore_n 1, 1) := by decide +kernel
theorem dX11_givenSet_2 : decode cX11_givenSet 2 = .ok (.iconst 0, 1) := by decide +kernel
theorem dX11_givenSet_3 : decode cX11_givenSet 3 = .ok (.istore_n 2, 1) := by decide +kernel
theorem dX11_givenSet_4 : decode cX11_givenSet 4 = .ok (.iload_n 2, 1) := by decide +kernel
theorem dX11_givenSet_5 : decode cX11_givenSet 5 = .ok (.aload_n 0, 1) := by decide +kernel
theorem dX11_givenSet_6 : decode cX11_givenSet 6 = .ok (.getfield 98, 3) := by decide +kernel
theorem dX11_givenSet_9 : decode cX11_givenSet 9 = .ok (.if_icmp .ge 28, 3) := by decide +kernel
theorem dX11_givenSet_12 : decode cX11_givenSet 12 = .ok (.iload_n 1, 1) := by decide +kernel
theorem dX11_givenSet_13 : decode cX11_givenSet 13 = .ok (.aload_n 0, 1) := by decide +kernel
theorem dX11_givenSet_14 : decode cX11_givenSet 14 = .ok (.getfield 33, 3) := by decide +kernel
theorem dX11_givenSet_17 : decode cX11_givenSet 17 = .ok (.iload_n 2, 1) := by decide +kernel
theorem dX11_givenSet_18 : decode cX11_givenSet 18 = .ok (.baload, 1) := by decide +kernel
theorem dX11_givenSet_19 : decode cX11_givenSet 19 = .ok (.ifCond .eq 9, 3) := by decide +kernel
theorem dX11_givenSet_22 : decode cX11_givenSet 22 = .ok (.iconst 1, 1) := by decide +kernel
theorem dX11_givenSet_23 : decode cX11_givenSet 23 = .ok (.iload_n 2, 1) := by decide +kernel
theorem dX11_givenSet_24 : decode cX11_givenSet 24 = .ok (.ishl, 1) := by decide +kernel
theorem dX11_givenSet_25 : decode cX11_givenSet 25 = .ok (.goto 4, 3) := by decide +kernel
theorem dX11_givenSet_28 : decode cX11_givenSet 28 = .ok (.iconst 0, 1) := by decide +kernel
theorem dX11_givenSet_29 : decode cX11_givenSet 29 = .ok (.ior, 1) := by decide +kernel
theorem dX11_givenSet_30 : decode cX11_givenSet 30 = .ok (.istore_n 1, 1) := by decide +kernel
theorem dX11_givenSet_31 : decode cX11_givenSet 31 = .ok (.iinc 2 1, 3) := by decide +kernel
theorem dX11_givenSet_34 : decode cX11_givenSet 34 = .ok (.goto (-30), 3) := by decide +kernel
theorem dX11_givenSet_37 : decode cX11_givenSet 37 = .ok (.iload_n 1, 1) := by decide +kernel
theorem dX11_givenSet_38 : decode cX11_givenSet 38 = .ok (.ireturn, 1) := by decide +kernel
theorem dX11_barSet_0 : decode cX11_barSet 0 = .ok (.aload_n 0, 1) := by decide +kernel
theorem dX11_barSet_1 : decode cX11_barSet 1 = .ok (.invokevirtual 208, 3) := by decide +kernel
theorem dX11_barSet_4 : decode cX11_barSet 4 = .ok (.aload_n 0, 1) := by decide +kernel
theorem dX11_barSet_5 : decode cX11_barSet 5 = .ok (.invokevirtual 223, 3) := by decide +kernel
theorem dX11_barSet_8 : decode cX11_barSet 8 = .ok (.istore_n 2, 1) := by decide +kernel
theorem dX11_barSet_9 : decode cX11_barSet 9 = .ok (.ldc 66, 2) := by decide +kernel
theorem dX11_barSet_11 : decode cX11_barSet 11 = .ok (.istore_n 3, 1) := by decide +kernel
theorem dX11_barSet_12 : decode cX11_barSet 12 = .ok (.iconst 0, 1) := by decide +kernel
theorem dX11_barSet_13 : decode cX11_barSet 13 = .ok (.istore 4, 2) := by decide +kernel
theorem dX11_barSet_15 : decode cX11_barSet 15 = .ok (.iload 4, 2) := by decide +kernel
theorem dX11_barSet_17 : decode cX11_barSet 17 = .ok (.iconst 1, 1) := by decide +kernel
theorem dX11_barSet_18 : decode cX11_barSet 18 = .ok (.aload_n 0, 1) := by decide +kernel
theorem dX11_barSet_19 : decode cX11_barSet 19 = .ok (.getfield 98, 3) := by decide +kernel
theorem dX11_barSet_22 : decode cX11_barSet 22 = .ok (.ishl, 1) := by decide +kernel
theorem dX11_barSet_23 : decode cX11_barSet 23 = .ok (.if_icmp .ge 86, 3) := by decide +kernel
theorem dX11_barSet_26 : decode cX11_barSet 26 = .ok (.iload 4, 2) := by decide +kernel
theorem dX11_barSet_28 : decode cX11_barSet 28 = .ok (.iload_n 2, 1) := by decide +kernel
theorem dX11_barSet_29 : decode cX11_barSet 29 = .ok (.iconst (-1), 1) := by decide +kernel
theorem dX11_barSet_30 : decode cX11_barSet 30 = .ok (.ixor, 1) := by decide +kernel
theorem dX11_barSet_31 : decode cX11_barSet 31 = .ok (.iand, 1) := by decide +kernel
theorem dX11_barSet_32 : decode cX11_barSet 32 = .ok (.ifCond .ne 46, 3) := by decide +kernel
theorem dX11_barSet_35 : decode cX11_barSet 35 = .ok (.iload_n 3, 1) := by decide +kernel
theorem dX11_barSet_36 : decode cX11_barSet 36 = .ok (.ldc 66, 2) := by decide +kernel
theorem dX11_barSet_38 : decode cX11_barSet 38 = .ok (.if_icmp .eq 36, 3) := by decide +kernel
theorem dX11_barSet_41 : decode cX11_barSet 41 = .ok (.iload 4, 2) := by decide +kernel
theorem dX11_barSet_43 : decode cX11_barSet 43 = .ok (.invokestatic 226, 3) := by decide +kernel
theorem dX11_barSet_46 : decode cX11_barSet 46 = .ok (.iload_n 3, 1) := by decide +kernel
theorem dX11_barSet_47 : decode cX11_barSet 47 = .ok (.invokestatic 226, 3) := by decide +kernel
theorem dX11_barSet_50 : decode cX11_barSet 50 = .ok (.if_icmp .lt 24, 3) := by decide +kernel
theorem dX11_barSet_53 : decode cX11_barSet 53 = .ok (.iload 4, 2) := by decide +kernel
theorem dX11_barSet_55 : decode cX11_barSet 55 = .ok (.invokestatic 226, 3) := by decide +kernel
theorem dX11_barSet_58 : decode cX11_barSet 58 = .ok (.iload_n 3, 1) := by decide +kernel
theorem dX11_barSet_59 : decode cX11_barSet 59 = .ok (.invokestatic 226, 3) := by decide +kernel
theorem dX11_barSet_62 : decode cX11_barSet 62 = .ok (.if_icmp .ne 16, 3) := by decide +kernel
theorem dX11_barSet_65 : decode cX11_barSet 65 = .ok (.iload 4, 2) := by decide +kernel
theorem dX11_barSet_67 : decode cX11_barSet 67 = .ok (.iload_n 3, 1) := by decide +kernel
theorem dX11_barSet_68 : decode cX11_barSet 68 = .ok (.invokestatic 229, 3) := by decide +kernel
theorem dX11_barSet_71 : decode cX11_barSet 71 = .ok (.ifCond .eq 7, 3) := by decide +kernel
theorem dX11_barSet_74 : decode cX11_barSet 74 = .ok (.iconst 1, 1) := by decide +kernel
theorem dX11_barSet_75 : decode cX11_barSet 75 = .ok (.goto 4, 3) := by decide +kernel
theorem dX11_barSet_78 : decode cX11_barSet 78 = .ok (.iconst 0, 1) := by decide +kernel
theorem dX11_barSet_79 : decode cX11_barSet 79 = .ok (.istore 5, 2) := by decide +kernel
theorem dX11_barSet_81 : decode cX11_barSet 81 = .ok (.iload 5, 2) := by decide +kernel
theorem dX11_barSet_83 : decode cX11_barSet 83 = .ok (.ifCond .eq 18, 3) := by decide +kernel
theorem dX11_barSet_86 : decode cX11_barSet 86 = .ok (.aload_n 0, 1) := by decide +kernel
theorem dX11_barSet_87 : decode cX11_barSet 87 = .ok (.iload_n 1, 1) := by decide +kernel
theorem dX11_barSet_88 : decode cX11_barSet 88 = .ok (.iload 4, 2) := by decide +kernel
theorem dX11_barSet_90 : decode cX11_barSet 90 = .ok (.invokevirtual 194, 3) := by decide +kernel
theorem dX11_barSet_93 : decode cX11_barSet 93 = .ok (.ifCond .eq 8, 3) := by decide +kernel
theorem dX11_barSet_96 : decode cX11_barSet 96 = .ok (.iload 4, 2) := by decide +kernel
theorem dX11_barSet_98 : decode cX11_barSet 98 = .ok (.goto 4, 3) := by decide +kernel
theorem dX11_barSet_101 : decode cX11_barSet 101 = .ok (.iload_n 3, 1) := by decide +kernel
theorem dX11_barSet_102 : decode cX11_barSet 102 = .ok (.istore_n 3, 1) := by decide +kernel
theorem dX11_barSet_103 : decode cX11_barSet 103 = .ok (.iinc 4 1, 3) := by decide +kernel
theorem dX11_barSet_106 : decode cX11_barSet 106 = .ok (.goto (-91), 3) := by decide +kernel
theorem dX11_barSet_109 : decode cX11_barSet 109 = .ok (.iload_n 3, 1) := by decide +kernel
theorem dX11_barSet_110 : decode cX11_barSet 110 = .ok (.ireturn, 1) := by decide +kernel
theorem dX11_nth_0 : decode cX11_nth 0 = .ok (.iload_n 1, 1) := by decide +kernel
theorem dX11_nth_1 : decode cX11_nth 1 = .ok (.istore_n 2, 1) := by decide +kernel
theorem dX11_nth_2 : decode cX11_nth 2 = .ok (.iconst 0, 1) := by decide +kernel
theorem dX11_nth_3 : decode cX11_nth 3 = .ok (.istore_n 3, 1) := by decide +kernel
theorem dX11_nth_4 : decode cX11_nth 4 = .ok (.iload_n 3, 1) := by decide +kernel
theorem dX11_nth_5 : decode cX11_nth 5 = .ok (.bipush 10, 2) := by decide +kernel
theorem dX11_nth_7 : decode cX11_nth 7 = .ok (.if_icmp .ge 31, 3) := by decide +kernel
theorem dX11_nth_10 : decode cX11_nth 10 = .ok (.iload_n 1, 1) := by decide +kernel
theorem dX11_nth_11 : decode cX11_nth 11 = .ok (.ifCond .lt 27, 3) := by decide +kernel
theorem dX11_nth_14 : decode cX11_nth 14 = .ok (.iload_n 0, 1) := by decide +kernel
theorem dX11_nth_15 : decode cX11_nth 15 = .ok (.iload_n 3, 1) := by decide +kernel
theorem dX11_nth_16 : decode cX11_nth 16 = .ok (.ishr, 1) := by decide +kernel
theorem dX11_nth_17 : decode cX11_nth 17 = .ok (.iconst 1, 1) := by decide +kernel
theorem dX11_nth_18 : decode cX11_nth 18 = .ok (.iand, 1) := by decide +kernel
theorem dX11_nth_19 : decode cX11_nth 19 = .ok (.iconst 1, 1) := by decide +kernel
theorem dX11_nth_20 : decode cX11_nth 20 = .ok (.if_icmp .ne 12, 3) := by decide +kernel
theorem dX11_nth_23 : decode cX11_nth 23 = .ok (.iload_n 2, 1) := by decide +kernel
theorem dX11_nth_24 : decode cX11_nth 24 = .ok (.ifCond .ne 5, 3) := by decide +kernel
theorem dX11_nth_27 : decode cX11_nth 27 = .ok (.iload_n 3, 1) := by decide +kernel
theorem dX11_nth_28 : decode cX11_nth 28 = .ok (.ireturn, 1) := by decide +kernel
theorem dX11_nth_29 : decode cX11_nth 29 = .ok (.iinc 2 (-1), 3) := by decide +kernel
theorem dX11_nth_32 : decode cX11_nth 32 = .ok (.iinc 3 1, 3) := by decide +kernel
theorem dX11_nth_35 : decode cX11_nth 35 = .ok (.goto (-31), 3) := by decide +kernel
theorem dX11_nth_38 : decode cX11_nth 38 = .ok (.ldc 66, 2) := by decide +kernel
theorem dX11_nth_40 : decode cX11_nth 40 = .ok (.ireturn, 1) := by decide +kernel
theorem dX11_bars_0 : decode cX11_bars 0 = .ok (.aload_n 0, 1) := by decide +kernel
theorem dX11_bars_1 : decode cX11_bars 1 = .ok (.iload_n 1, 1) := by decide +kernel
theorem dX11_bars_2 : decode cX11_bars 2 = .ok (.invokevirtual 205, 3) := by decide +kernel
theorem dX11_bars_5 : decode cX11_bars 5 = .ok (.istore_n 2, 1) := by decide +kernel
theorem dX11_bars_6 : decode cX11_bars 6 = .ok (.iload_n 2, 1) := by decide +kernel
theorem dX11_bars_7 : decode cX11_bars 7 = .ok (.ifCond .ge 5, 3) := by decide +kernel
theorem dX11_bars_10 : decode cX11_bars 10 = .ok (.iload_n 2, 1) := by decide +kernel
theorem dX11_bars_11 : decode cX11_bars 11 = .ok (.ireturn, 1) := by decide +kernel
theorem dX11_bars_12 : decode cX11_bars 12 = .ok (.aload_n 0, 1) := by decide +kernel
theorem dX11_bars_13 : decode cX11_bars 13 = .ok (.iload_n 1, 1) := by decide +kernel
theorem dX11_bars_14 : decode cX11_bars 14 = .ok (.invokevirtual 232, 3) := by decide +kernel
theorem dX11_bars_17 : decode cX11_bars 17 = .ok (.istore_n 3, 1) := by decide +kernel
theorem dX11_bars_18 : decode cX11_bars 18 = .ok (.iload_n 3, 1) := by decide +kernel
theorem dX11_bars_19 : decode cX11_bars 19 = .ok (.ldc 66, 2) := by decide +kernel
theorem dX11_bars_21 : decode cX11_bars 21 = .ok (.if_icmp .ne 8, 3) := by decide +kernel
theorem dX11_bars_24 : decode cX11_bars 24 = .ok (.ldc 66, 2) := by decide +kernel
theorem dX11_bars_26 : decode cX11_bars 26 = .ok (.goto 7, 3) := by decide +kernel
theorem dX11_bars_29 : decode cX11_bars 29 = .ok (.iload_n 3, 1) := by decide +kernel
theorem dX11_bars_30 : decode cX11_bars 30 = .ok (.invokestatic 226, 3) := by decide +kernel
theorem dX11_bars_33 : decode cX11_bars 33 = .ok (.ireturn, 1) := by decide +kernel
theorem dX11_bar_0 : decode cX11_bar 0 = .ok (.aload_n 0, 1) := by decide +kernel
theorem dX11_bar_1 : decode cX11_bar 1 = .ok (.iload_n 1, 1) := by decide +kernel
theorem dX11_bar_2 : decode cX11_bar 2 = .ok (.invokevirtual 205, 3) := by decide +kernel
theorem dX11_bar_5 : decode cX11_bar 5 = .ok (.istore_n 3, 1) := by decide +kernel
theorem dX11_bar_6 : decode cX11_bar 6 = .ok (.iload_n 3, 1) := by decide +kernel
theorem dX11_bar_7 : decode cX11_bar 7 = .ok (.ifCond .ge 5, 3) := by decide +kernel
theorem dX11_bar_10 : decode cX11_bar 10 = .ok (.iload_n 3, 1) := by decide +kernel
theorem dX11_bar_11 : decode cX11_bar 11 = .ok (.ireturn, 1) := by decide +kernel
theorem dX11_bar_12 : decode cX11_bar 12 = .ok (.aload_n 0, 1) := by decide +kernel
theorem dX11_bar_13 : decode cX11_bar 13 = .ok (.iload_n 1, 1) := by decide +kernel
theorem dX11_bar_14 : decode cX11_bar 14 = .ok (.invokevirtual 232, 3) := by decide +kernel
theorem dX11_bar_17 : decode cX11_bar 17 = .ok (.istore 4, 2) := by decide +kernel
theorem dX11_bar_19 : decode cX11_bar 19 = .ok (.iload 4, 2) := by decide +kernel
theorem dX11_bar_21 : decode cX11_bar 21 = .ok (.ldc 66, 2) := by decide +kernel
theorem dX11_bar_23 : decode cX11_bar 23 = .ok (.if_icmp .ne 8, 3) := by decide +kernel
theorem dX11_bar_26 : decode cX11_bar 26 = .ok (.ldc 66, 2) := by decide +kernel
theorem dX11_bar_28 : decode cX11_bar 28 = .ok (.goto 9, 3) := by decide +kernel
theorem dX11_bar_31 : decode cX11_bar 31 = .ok (.iload 4, 2) := by decide +kernel
theorem dX11_bar_33 : decode cX11_bar 33 = .ok (.iload_n 2, 1) := by decide +kernel
theorem dX11_bar_34 : decode cX11_bar 34 = .ok (.invokestatic 235, 3) := by decide +kernel
theorem dX11_bar_37 : decode cX11_bar 37 = .ok (.ireturn, 1) := by decide +kernel
theorem dX11_goRow_0 : decode cX11_goRow 0 = .ok (.iconst 0, 1) := by decide +kernel
theorem dX11_goRow_1 : decode cX11_goRow 1 = .ok (.istore_n 2, 1) := by decide +kernel
theorem dX11_goRow_2 : decode cX11_goRow 2 = .ok (.iconst 0, 1) := by decide +kernel
theorem dX11_goRow_3 : decode cX11_goRow 3 = .ok (.istore_n 3, 1) := by decide +kernel
theorem dX11_goRow_4 : decode cX11_goRow 4 = .ok (.iload_n 3, 1) := by decide +kernel
theorem dX11_goRow_5 : decode cX11_goRow 5 = .ok (.iload_n 1, 1) := by decide +kernel
theorem dX11_goRow_6 : decode cX11_goRow 6 = .ok (.if_icmp .ge 90, 3) := by decide +kernel
theorem dX11_goRow_9 : decode cX11_goRow 9 = .ok (.aload_n 0, 1) := by decide +kernel
theorem dX11_goRow_10 : decode cX11_goRow 10 = .ok (.getfield 60, 3) := by decide +kernel
theorem dX11_goRow_13 : decode cX11_goRow 13 = .ok (.iload_n 3, 1) := by decide +kernel
theorem dX11_goRow_14 : decode cX11_goRow 14 = .ok (.iaload, 1) := by decide +kernel
theorem dX11_goRow_15 : decode cX11_goRow 15 = .ok (.istore 4, 2) := by decide +kernel
theorem dX11_goRow_17 : decode cX11_goRow 17 = .ok (.aload_n 0, 1) := by decide +kernel
theorem dX11_goRow_18 : decode cX11_goRow 18 = .ok (.invokevirtual 191, 3) := by decide +kernel
theorem dX11_goRow_21 : decode cX11_goRow 21 = .ok (.aload_n 0, 1) := by decide +kernel
theorem dX11_goRow_22 : decode cX11_goRow 22 = .ok (.iload 4, 2) := by decide +kernel
theorem dX11_goRow_24 : decode cX11_goRow 24 = .ok (.invokevirtual 211, 3) := by decide +kernel
theorem dX11_goRow_27 : decode cX11_goRow 27 = .ok (.ifCond .eq 45, 3) := by decide +kernel
theorem dX11_goRow_30 : decode cX11_goRow 30 = .ok (.aload_n 0, 1) := by decide +kernel
theorem dX11_goRow_31 : decode cX11_goRow 31 = .ok (.iload 4, 2) := by decide +kernel
theorem dX11_goRow_33 : decode cX11_goRow 33 = .ok (.invokevirtual 217, 3) := by decide +kernel
theorem dX11_goRow_36 : decode cX11_goRow 36 = .ok (.iload_n 2, 1) := by decide +kernel
theorem dX11_goRow_37 : decode cX11_goRow 37 = .ok (.aload_n 0, 1) := by decide +kernel
theorem dX11_goRow_38 : decode cX11_goRow 38 = .ok (.getfield 24, 3) := by decide +kernel
theorem dX11_goRow_41 : decode cX11_goRow 41 = .ok (.bipush 8, 2) := by decide +kernel
theorem dX11_goRow_43 : decode cX11_goRow 43 = .ok (.iload 4, 2) := by decide +kernel
theorem dX11_goRow_45 : decode cX11_goRow 45 = .ok (.imul, 1) := by decide +kernel
theorem dX11_goRow_46 : decode cX11_goRow 46 = .ok (.iconst 5, 1) := by decide +kernel
theorem dX11_goRow_47 : decode cX11_goRow 47 = .ok (.iadd, 1) := by decide +kernel
theorem dX11_goRow_48 : decode cX11_goRow 48 = .ok (.iaload, 1) := by decide +kernel
theorem dX11_goRow_49 : decode cX11_goRow 49 = .ok (.aload_n 0, 1) := by decide +kernel
theorem dX11_goRow_50 : decode cX11_goRow 50 = .ok (.getfield 181, 3) := by decide +kernel
theorem dX11_goRow_53 : decode cX11_goRow 53 = .ok (.aload_n 0, 1) := by decide +kernel
theorem dX11_goRow_54 : decode cX11_goRow 54 = .ok (.getfield 24, 3) := by decide +kernel
theorem dX11_goRow_57 : decode cX11_goRow 57 = .ok (.bipush 8, 2) := by decide +kernel
theorem dX11_goRow_59 : decode cX11_goRow 59 = .ok (.iload 4, 2) := by decide +kernel
theorem dX11_goRow_61 : decode cX11_goRow 61 = .ok (.imul, 1) := by decide +kernel
theorem dX11_goRow_62 : decode cX11_goRow 62 = .ok (.iconst 2, 1) := by decide +kernel
theorem dX11_goRow_63 : decode cX11_goRow 63 = .ok (.iadd, 1) := by decide +kernel
theorem dX11_goRow_64 : decode cX11_goRow 64 = .ok (.iaload, 1) := by decide +kernel
theorem dX11_goRow_65 : decode cX11_goRow 65 = .ok (.isub, 1) := by decide +kernel
theorem dX11_goRow_66 : decode cX11_goRow 66 = .ok (.imul, 1) := by decide +kernel
theorem dX11_goRow_67 : decode cX11_goRow 67 = .ok (.iadd, 1) := by decide +kernel
theorem dX11_goRow_68 : decode cX11_goRow 68 = .ok (.istore_n 2, 1) := by decide +kernel
theorem dX11_goRow_69 : decode cX11_goRow 69 = .ok (.goto 21, 3) := by decide +kernel
theorem dX11_goRow_72 : decode cX11_goRow 72 = .ok (.iload_n 2, 1) := by decide +kernel
theorem dX11_goRow_73 : decode cX11_goRow 73 = .ok (.bipush 100, 2) := by decide +kernel
theorem dX11_goRow_75 : decode cX11_goRow 75 = .ok (.aload_n 0, 1) := by decide +kernel
theorem dX11_goRow_76 : decode cX11_goRow 76 = .ok (.getfield 24, 3) := by decide +kernel
theorem dX11_goRow_79 : decode cX11_goRow 79 = .ok (.bipush 8, 2) := by decide +kernel
theorem dX11_goRow_81 : decode cX11_goRow 81 = .ok (.iload 4, 2) := by decide +kernel
theorem dX11_goRow_83 : decode cX11_goRow 83 = .ok (.imul, 1) := by decide +kernel
theorem dX11_goRow_84 : decode cX11_goRow 84 = .ok (.iconst 5, 1) := by decide +kernel
theorem dX11_goRow_85 : decode cX11_goRow 85 = .ok (.iadd, 1) := by decide +kernel
theorem dX11_goRow_86 : decode cX11_goRow 86 = .ok (.iaload, 1) := by decide +kernel
theorem dX11_goRow_87 : decode cX11_goRow 87 = .ok (.imul, 1) := by decide +kernel
theorem dX11_goRow_88 : decode cX11_goRow 88 = .ok (.iadd, 1) := by decide +kernel
theorem dX11_goRow_89 : decode cX11_goRow 89 = .ok (.istore_n 2, 1) := by decide +kernel
theorem dX11_goRow_90 : decode cX11_goRow 90 = .ok (.iinc 3 1, 3) := by decide +kernel
theorem dX11_goRow_93 : decode cX11_goRow 93 = .ok (.goto (-89), 3) := by decide +kernel
theorem dX11_goRow_96 : decode cX11_goRow 96 = .ok (.iload_n 2, 1) := by decide +kernel
theorem dX11_goRow_97 : decode cX11_goRow 97 = .ok (.ireturn, 1) := by decide +kernel
theorem dX11_takeRow_0 : decode cX11_takeRow 0 = .ok (.iconst 0, 1) := by decide +kernel
theorem dX11_takeRow_1 : decode cX11_takeRow 1 = .ok (.istore_n 2, 1) := by decide +kernel
theorem dX11_takeRow_2 : decode cX11_takeRow 2 = .ok (.iload_n 2, 1) := by decide +kernel
theorem dX11_takeRow_3 : decode cX11_takeRow 3 = .ok (.aload_n 0, 1) := by decide +kernel
theorem dX11_takeRow_4 : decode cX11_takeRow 4 = .ok (.getfield 98, 3) := by decide +kernel
theorem dX11_takeRow_7 : decode cX11_takeRow 7 = .ok (.if_icmp .ge 37, 3) := by decide +kernel
theorem dX11_takeRow_10 : decode cX11_takeRow 10 = .ok (.aload_n 0, 1) := by decide +kernel
theorem dX11_takeRow_11 : decode cX11_takeRow 11 = .ok (.getfield 33, 3) := by decide +kernel
theorem dX11_takeRow_14 : decode cX11_takeRow 14 = .ok (.iload_n 2, 1) := by decide +kernel
theorem dX11_takeRow_15 : decode cX11_takeRow 15 = .ok (.aload_n 0, 1) := by decide +kernel
theorem dX11_takeRow_16 : decode cX11_takeRow 16 = .ok (.getfield 33, 3) := by decide +kernel
theorem dX11_takeRow_19 : decode cX11_takeRow 19 = .ok (.iload_n 2, 1) := by decide +kernel
theorem dX11_takeRow_20 : decode cX11_takeRow 20 = .ok (.baload, 1) := by decide +kernel
theorem dX11_takeRow_21 : decode cX11_takeRow 21 = .ok (.ifCond .eq 15, 3) := by decide +kernel
theorem dX11_takeRow_24 : decode cX11_takeRow 24 = .ok (.iload_n 1, 1) := by decide +kernel
theorem dX11_takeRow_25 : decode cX11_takeRow 25 = .ok (.iload_n 2, 1) := by decide +kernel
theorem dX11_takeRow_26 : decode cX11_takeRow 26 = .ok (.ishr, 1) := by decide +kernel
theorem dX11_takeRow_27 : decode cX11_takeRow 27 = .ok (.iconst 1, 1) := by decide +kernel
theorem dX11_takeRow_28 : decode cX11_takeRow 28 = .ok (.iand, 1) := by decide +kernel
theorem dX11_takeRow_29 : decode cX11_takeRow 29 = .ok (.ifCond .ne 7, 3) := by decide +kernel
theorem dX11_takeRow_32 : decode cX11_takeRow 32 = .ok (.iconst 1, 1) := by decide +kernel
theorem dX11_takeRow_33 : decode cX11_takeRow 33 = .ok (.goto 4, 3) := by decide +kernel
theorem dX11_takeRow_36 : decode cX11_takeRow 36 = .ok (.iconst 0, 1) := by decide +kernel
theorem dX11_takeRow_37 : decode cX11_takeRow 37 = .ok (.bastore, 1) := by decide +kernel
theorem dX11_takeRow_38 : decode cX11_takeRow 38 = .ok (.iinc 2 1, 3) := by decide +kernel
theorem dX11_takeRow_41 : decode cX11_takeRow 41 = .ok (.goto (-39), 3) := by decide +kernel
theorem dX11_takeRow_44 : decode cX11_takeRow 44 = .ok (.return_, 1) := by decide +kernel
theorem dX11_layRow_0 : decode cX11_layRow 0 = .ok (.iload_n 1, 1) := by decide +kernel
theorem dX11_layRow_1 : decode cX11_layRow 1 = .ok (.istore 4, 2) := by decide +kernel
theorem dX11_layRow_3 : decode cX11_layRow 3 = .ok (.iload_n 3, 1) := by decide +kernel
theorem dX11_layRow_4 : decode cX11_layRow 4 = .ok (.istore 5, 2) := by decide +kernel
theorem dX11_layRow_6 : decode cX11_layRow 6 = .ok (.iconst 1, 1) := by decide +kernel
theorem dX11_layRow_7 : decode cX11_layRow 7 = .ok (.istore 6, 2) := by decide +kernel
theorem dX11_layRow_9 : decode cX11_layRow 9 = .ok (.iconst 2, 1) := by decide +kernel
theorem dX11_layRow_10 : decode cX11_layRow 10 = .ok (.istore 7, 2) := by decide +kernel
theorem dX11_layRow_12 : decode cX11_layRow 12 = .ok (.iload 7, 2) := by decide +kernel
theorem dX11_layRow_14 : decode cX11_layRow 14 = .ok (.iload_n 2, 1) := by decide +kernel
theorem dX11_layRow_15 : decode cX11_layRow 15 = .ok (.if_icmp .ge 16, 3) := by decide +kernel
theorem dX11_layRow_18 : decode cX11_layRow 18 = .ok (.iload 6, 2) := by decide +kernel
theorem dX11_layRow_20 : decode cX11_layRow 20 = .ok (.iload 7, 2) := by decide +kernel
theorem dX11_layRow_22 : decode cX11_layRow 22 = .ok (.imul, 1) := by decide +kernel
theorem dX11_layRow_23 : decode cX11_layRow 23 = .ok (.istore 6, 2) := by decide +kernel
theorem dX11_layRow_25 : decode cX11_layRow 25 = .ok (.iinc 7 1, 3) := by decide +kernel
theorem dX11_layRow_28 : decode cX11_layRow 28 = .ok (.goto (-16), 3) := by decide +kernel
theorem dX11_layRow_31 : decode cX11_layRow 31 = .ok (.iconst 0, 1) := by decide +kernel
theorem dX11_layRow_32 : decode cX11_layRow 32 = .ok (.istore 7, 2) := by decide +kernel
theorem dX11_layRow_34 : decode cX11_layRow 34 = .ok (.iload 7, 2) := by decide +kernel
theorem dX11_layRow_36 : decode cX11_layRow 36 = .ok (.iload_n 2, 1) := by decide +kernel
theorem dX11_layRow_37 : decode cX11_layRow 37 = .ok (.if_icmp .ge 74, 3) := by decide +kernel
theorem dX11_layRow_40 : decode cX11_layRow 40 = .ok (.aload_n 0, 1) := by decide +kernel
theorem dX11_layRow_41 : decode cX11_layRow 41 = .ok (.getfield 60, 3) := by decide +kernel
theorem dX11_layRow_44 : decode cX11_layRow 44 = .ok (.iload 7, 2) := by decide +kernel
theorem dX11_layRow_46 : decode cX11_layRow 46 = .ok (.iload 4, 2) := by decide +kernel
theorem dX11_layRow_48 : decode cX11_layRow 48 = .ok (.iload 5, 2) := by decide +kernel
theorem dX11_layRow_50 : decode cX11_layRow 50 = .ok (.iload 6, 2) := by decide +kernel
theorem dX11_layRow_52 : decode cX11_layRow 52 = .ok (.idiv, 1) := by decide +kernel
theorem dX11_layRow_53 : decode cX11_layRow 53 = .ok (.invokestatic 235, 3) := by decide +kernel
theorem dX11_layRow_56 : decode cX11_layRow 56 = .ok (.iastore, 1) := by decide +kernel
theorem dX11_layRow_57 : decode cX11_layRow 57 = .ok (.iload 4, 2) := by decide +kernel
theorem dX11_layRow_59 : decode cX11_layRow 59 = .ok (.iconst 1, 1) := by decide +kernel
theorem dX11_layRow_60 : decode cX11_layRow 60 = .ok (.aload_n 0, 1) := by decide +kernel
theorem dX11_layRow_61 : decode cX11_layRow 61 = .ok (.getfield 60, 3) := by decide +kernel
theorem dX11_layRow_64 : decode cX11_layRow 64 = .ok (.iload 7, 2) := by decide +kernel
theorem dX11_layRow_66 : decode cX11_layRow 66 = .ok (.iaload, 1) := by decide +kernel
theorem dX11_layRow_67 : decode cX11_layRow 67 = .ok (.ishl, 1) := by decide +kernel
theorem dX11_layRow_68 : decode cX11_layRow 68 = .ok (.iconst (-1), 1) := by decide +kernel
theorem dX11_layRow_69 : decode cX11_layRow 69 = .ok (.ixor, 1) := by decide +kernel
theorem dX11_layRow_70 : decode cX11_layRow 70 = .ok (.iand, 1) := by decide +kernel
theorem dX11_layRow_71 : decode cX11_layRow 71 = .ok (.istore 4, 2) := by decide +kernel
theorem dX11_layRow_73 : decode cX11_layRow 73 = .ok (.iload 5, 2) := by decide +kernel
theorem dX11_layRow_75 : decode cX11_layRow 75 = .ok (.iload 6, 2) := by decide +kernel
theorem dX11_layRow_77 : decode cX11_layRow 77 = .ok (.irem, 1) := by decide +kernel
theorem dX11_layRow_78 : decode cX11_layRow 78 = .ok (.istore 5, 2) := by decide +kernel
theorem dX11_layRow_80 : decode cX11_layRow 80 = .ok (.iload_n 2, 1) := by decide +kernel
theorem dX11_layRow_81 : decode cX11_layRow 81 = .ok (.iconst 1, 1) := by decide +kernel
theorem dX11_layRow_82 : decode cX11_layRow 82 = .ok (.isub, 1) := by decide +kernel
theorem dX11_layRow_83 : decode cX11_layRow 83 = .ok (.iload 7, 2) := by decide +kernel
theorem dX11_layRow_85 : decode cX11_layRow 85 = .ok (.isub, 1) := by decide +kernel
theorem dX11_layRow_86 : decode cX11_layRow 86 = .ok (.iconst 1, 1) := by decide +kernel
theorem dX11_layRow_87 : decode cX11_layRow 87 = .ok (.if_icmp .le 15, 3) := by decide +kernel
theorem dX11_layRow_90 : decode cX11_layRow 90 = .ok (.iload 6, 2) := by decide +kernel
theorem dX11_layRow_92 : decode cX11_layRow 92 = .ok (.iload_n 2, 1) := by decide +kernel
theorem dX11_layRow_93 : decode cX11_layRow 93 = .ok (.iconst 1, 1) := by decide +kernel
theorem dX11_layRow_94 : decode cX11_layRow 94 = .ok (.isub, 1) := by decide +kernel
theorem dX11_layRow_95 : decode cX11_layRow 95 = .ok (.iload 7, 2) := by decide +kernel
theorem dX11_layRow_97 : decode cX11_layRow 97 = .ok (.isub, 1) := by decide +kernel
theorem dX11_layRow_98 : decode cX11_layRow 98 = .ok (.idiv, 1) := by decide +kernel
theorem dX11_layRow_99 : decode cX11_layRow 99 = .ok (.goto 4, 3) := by decide +kernel
theorem dX11_layRow_102 : decode cX11_layRow 102 = .ok (.iconst 1, 1) := by decide +kernel
theorem dX11_layRow_103 : decode cX11_layRow 103 = .ok (.istore 6, 2) := by decide +kernel
theorem dX11_layRow_105 : decode cX11_layRow 105 = .ok (.iinc 7 1, 3) := by decide +kernel
theorem dX11_layRow_108 : decode cX11_layRow 108 = .ok (.goto (-74), 3) := by decide +kernel
theorem dX11_layRow_111 : decode cX11_layRow 111 = .ok (.return_, 1) := by decide +kernel
theorem dX11_layOrders_0 : decode cX11_layOrders 0 = .ok (.iload_n 1, 1) := by decide +kernel
theorem dX11_layOrders_1 : decode cX11_layOrders 1 = .ok (.invokestatic 226, 3) := by decide +kernel
theorem dX11_layOrders_4 : decode cX11_layOrders 4 = .ok (.istore_n 2, 1) := by decide +kernel
theorem dX11_layOrders_5 : decode cX11_layOrders 5 = .ok (.iconst 1, 1) := by decide +kernel
theorem dX11_layOrders_6 : decode cX11_layOrders 6 = .ok (.istore_n 3, 1) := by decide +kernel
theorem dX11_layOrders_7 : decode cX11_layOrders 7 = .ok (.iconst 2, 1) := by decide +kernel
theorem dX11_layOrders_8 : decode cX11_layOrders 8 = .ok (.istore 4, 2) := by decide +kernel
theorem dX11_layOrders_10 : decode cX11_layOrders 10 = .ok (.iload 4, 2) := by decide +kernel
theorem dX11_layOrders_12 : decode cX11_layOrders 12 = .ok (.iload_n 2, 1) := by decide +kernel
theorem dX11_layOrders_13 : decode cX11_layOrders 13 = .ok (.if_icmp .gt 14, 3) := by decide +kernel
theorem dX11_layOrders_16 : decode cX11_layOrders 16 = .ok (.iload_n 3, 1) := by decide +kernel
theorem dX11_layOrders_17 : decode cX11_layOrders 17 = .ok (.iload 4, 2) := by decide +kernel
theorem dX11_layOrders_19 : decode cX11_layOrders 19 = .ok (.imul, 1) := by decide +kernel
theorem dX11_layOrders_20 : decode cX11_layOrders 20 = .ok (.istore_n 3, 1) := by decide +kernel
theorem dX11_layOrders_21 : decode cX11_layOrders 21 = .ok (.iinc 4 1, 3) := by decide +kernel
theorem dX11_layOrders_24 : decode cX11_layOrders 24 = .ok (.goto (-14), 3) := by decide +kernel
theorem dX11_layOrders_27 : decode cX11_layOrders 27 = .ok (.aload_n 0, 1) := by decide +kernel
theorem dX11_layOrders_28 : decode cX11_layOrders 28 = .ok (.ldc 184, 2) := by decide +kernel
theorem dX11_layOrders_30 : decode cX11_layOrders 30 = .ok (.putfield 238, 3) := by decide +kernel
theorem dX11_layOrders_33 : decode cX11_layOrders 33 = .ok (.aload_n 0, 1) := by decide +kernel
theorem dX11_layOrders_34 : decode cX11_layOrders 34 = .ok (.invokevirtual 188, 3) := by decide +kernel
theorem dX11_layOrders_37 : decode cX11_layOrders 37 = .ok (.iconst 0, 1) := by decide +kernel
theorem dX11_layOrders_38 : decode cX11_layOrders 38 = .ok (.istore 4, 2) := by decide +kernel
theorem dX11_layOrders_40 : decode cX11_layOrders 40 = .ok (.iload 4, 2) := by decide +kernel
theorem dX11_layOrders_42 : decode cX11_layOrders 42 = .ok (.iload_n 3, 1) := by decide +kernel
theorem dX11_layOrders_43 : decode cX11_layOrders 43 = .ok (.if_icmp .ge 73, 3) := by decide +kernel
theorem dX11_layOrders_46 : decode cX11_layOrders 46 = .ok (.aload_n 0, 1) := by decide +kernel
theorem dX11_layOrders_47 : decode cX11_layOrders 47 = .ok (.iload_n 1, 1) := by decide +kernel
theorem dX11_layOrders_48 : decode cX11_layOrders 48 = .ok (.iload_n 2, 1) := by decide +kernel
theorem dX11_layOrders_49 : decode cX11_layOrders 49 = .ok (.iload 4, 2) := by decide +kernel
theorem dX11_layOrders_51 : decode cX11_layOrders 51 = .ok (.invokevirtual 241, 3) := by decide +kernel
theorem dX11_layOrders_54 : decode cX11_layOrders 54 = .ok (.aload_n 0, 1) := by decide +kernel
theorem dX11_layOrders_55 : decode cX11_layOrders 55 = .ok (.iload_n 2, 1) := by decide +kernel
theorem dX11_layOrders_56 : decode cX11_layOrders 56 = .ok (.invokevirtual 244, 3) := by decide +kernel
theorem dX11_layOrders_59 : decode cX11_layOrders 59 = .ok (.istore 5, 2) := by decide +kernel
theorem dX11_layOrders_61 : decode cX11_layOrders 61 = .ok (.aload_n 0, 1) := by decide +kernel
theorem dX11_layOrders_62 : decode cX11_layOrders 62 = .ok (.iload_n 1, 1) := by decide +kernel
theorem dX11_layOrders_63 : decode cX11_layOrders 63 = .ok (.invokevirtual 247, 3) := by decide +kernel
theorem dX11_layOrders_66 : decode cX11_layOrders 66 = .ok (.iload 5, 2) := by decide +kernel
theorem dX11_layOrders_68 : decode cX11_layOrders 68 = .ok (.aload_n 0, 1) := by decide +kernel
theorem dX11_layOrders_69 : decode cX11_layOrders 69 = .ok (.getfield 238, 3) := by decide +kernel
theorem dX11_layOrders_72 : decode cX11_layOrders 72 = .ok (.if_icmp .ge 38, 3) := by decide +kernel
theorem dX11_layOrders_75 : decode cX11_layOrders 75 = .ok (.aload_n 0, 1) := by decide +kernel
theorem dX11_layOrders_76 : decode cX11_layOrders 76 = .ok (.iload 5, 2) := by decide +kernel
theorem dX11_layOrders_78 : decode cX11_layOrders 78 = .ok (.putfield 238, 3) := by decide +kernel
theorem dX11_layOrders_81 : decode cX11_layOrders 81 = .ok (.iconst 0, 1) := by decide +kernel
theorem dX11_layOrders_82 : decode cX11_layOrders 82 = .ok (.istore 6, 2) := by decide +kernel
theorem dX11_layOrders_84 : decode cX11_layOrders 84 = .ok (.iload 6, 2) := by decide +kernel
theorem dX11_layOrders_86 : decode cX11_layOrders 86 = .ok (.iload_n 2, 1) := by decide +kernel
theorem dX11_layOrders_87 : decode cX11_layOrders 87 = .ok (.if_icmp .ge 23, 3) := by decide +kernel
theorem dX11_layOrders_90 : decode cX11_layOrders 90 = .ok (.aload_n 0, 1) := by decide +kernel
theorem dX11_layOrders_91 : decode cX11_layOrders 91 = .ok (.getfield 63, 3) := by decide +kernel
theorem dX11_layOrders_94 : decode cX11_layOrders 94 = .ok (.iload 6, 2) := by decide +kernel
theorem dX11_layOrders_96 : decode cX11_layOrders 96 = .ok (.aload_n 0, 1) := by decide +kernel
theorem dX11_layOrders_97 : decode cX11_layOrders 97 = .ok (.getfield 60, 3) := by decide +kernel
theorem dX11_layOrders_100 : decode cX11_layOrders 100 = .ok (.iload 6, 2) := by decide +kernel
theorem dX11_layOrders_102 : decode cX11_layOrders 102 = .ok (.iaload, 1) := by decide +kernel
theorem dX11_layOrders_103 : decode cX11_layOrders 103 = .ok (.iastore, 1) := by decide +kernel
theorem dX11_layOrders_104 : decode cX11_layOrders 104 = .ok (.iinc 6 1, 3) := by decide +kernel
theorem dX11_layOrders_107 : decode cX11_layOrders 107 = .ok (.goto (-23), 3) := by decide +kernel
theorem dX11_layOrders_110 : decode cX11_layOrders 110 = .ok (.iinc 4 1, 3) := by decide +kernel
theorem dX11_layOrders_113 : decode cX11_layOrders 113 = .ok (.goto (-73), 3) := by decide +kernel
theorem dX11_layOrders_116 : decode cX11_layOrders 116 = .ok (.iload_n 2, 1) := by decide +kernel
theorem dX11_layOrders_117 : decode cX11_layOrders 117 = .ok (.ireturn, 1) := by decide +kernel
theorem dX11_maySet_0 : decode cX11_maySet 0 = .ok (.iload_n 1, 1) := by decide +kernel
theorem dX11_maySet_1 : decode cX11_maySet 1 = .ok (.i2l, 1) := by decide +kernel
theorem dX11_maySet_2 : decode cX11_maySet 2 = .ok (.lconst 0, 1) := by decide +kernel
theorem dX11_maySet_3 : decode cX11_maySet 3 = .ok (.iconst 1, 1) := by decide +kernel
theorem dX11_maySet_4 : decode cX11_maySet 4 = .ok (.aload_n 0, 1) := by decide +kernel
theorem dX11_maySet_5 : decode cX11_maySet 5 = .ok (.getfield 98, 3) := by decide +kernel
theorem dX11_maySet_8 : decode cX11_maySet 8 = .ok (.ishl, 1) := by decide +kernel
theorem dX11_maySet_9 : decode cX11_maySet 9 = .ok (.iconst 1, 1) := by decide +kernel
theorem dX11_maySet_10 : decode cX11_maySet 10 = .ok (.isub, 1) := by decide +kernel
theorem dX11_maySet_11 : decode cX11_maySet 11 = .ok (.i2l, 1) := by decide +kernel
theorem dX11_maySet_12 : decode cX11_maySet 12 = .ok (.invokestatic 82, 3) := by decide +kernel
theorem dX11_maySet_15 : decode cX11_maySet 15 = .ok (.ifCond .eq 11, 3) := by decide +kernel
theorem dX11_maySet_18 : decode cX11_maySet 18 = .ok (.iload_n 1, 1) := by decide +kernel
theorem dX11_maySet_19 : decode cX11_maySet 19 = .ok (.invokestatic 226, 3) := by decide +kernel
theorem dX11_maySet_22 : decode cX11_maySet 22 = .ok (.iconst 5, 1) := by decide +kernel
theorem dX11_maySet_23 : decode cX11_maySet 23 = .ok (.if_icmp .le 6, 3) := by decide +kernel
theorem dX11_maySet_26 : decode cX11_maySet 26 = .ok (.ldc 109, 2) := by decide +kernel
theorem dX11_maySet_28 : decode cX11_maySet 28 = .ok (.ireturn, 1) := by decide +kernel
theorem dX11_maySet_29 : decode cX11_maySet 29 = .ok (.iload_n 1, 1) := by decide +kernel
theorem dX11_maySet_30 : decode cX11_maySet 30 = .ok (.aload_n 0, 1) := by decide +kernel
theorem dX11_maySet_31 : decode cX11_maySet 31 = .ok (.invokevirtual 223, 3) := by decide +kernel
theorem dX11_maySet_34 : decode cX11_maySet 34 = .ok (.iand, 1) := by decide +kernel
theorem dX11_maySet_35 : decode cX11_maySet 35 = .ok (.ifCond .ne 7, 3) := by decide +kernel
theorem dX11_maySet_38 : decode cX11_maySet 38 = .ok (.iconst 0, 1) := by decide +kernel
theorem dX11_maySet_39 : decode cX11_maySet 39 = .ok (.goto 5, 3) := by decide +kernel
theorem dX11_maySet_42 : decode cX11_maySet 42 = .ok (.ldc 154, 2) := by decide +kernel
theorem dX11_maySet_44 : decode cX11_maySet 44 = .ok (.ireturn, 1) := by decide +kernel
theorem dX11_atOnce_0 : decode cX11_atOnce 0 = .ok (.aload_n 0, 1) := by decide +kernel
theorem dX11_atOnce_1 : decode cX11_atOnce 1 = .ok (.iload_n 1, 1) := by decide +kernel
theorem dX11_atOnce_2 : decode cX11_atOnce 2 = .ok (.invokevirtual 250, 3) := by decide +kernel
theorem dX11_atOnce_5 : decode cX11_atOnce 5 = .ok (.istore_n 2, 1) := by decide +kernel
theorem dX11_atOnce_6 : decode cX11_atOnce 6 = .ok (.iload_n 2, 1) := by decide +kernel
theorem dX11_atOnce_7 : decode cX11_atOnce 7 = .ok (.ifCond .ge 5, 3) := by decide +kernel
theorem dX11_atOnce_10 : decode cX11_atOnce 10 = .ok (.iload_n 2, 1) := by decide +kernel
theorem dX11_atOnce_11 : decode cX11_atOnce 11 = .ok (.ireturn, 1) := by decide +kernel
theorem dX11_atOnce_12 : decode cX11_atOnce 12 = .ok (.aload_n 0, 1) := by decide +kernel
theorem dX11_atOnce_13 : decode cX11_atOnce 13 = .ok (.iload_n 1, 1) := by decide +kernel
theorem dX11_atOnce_14 : decode cX11_atOnce 14 = .ok (.invokevirtual 253, 3) := by decide +kernel
theorem dX11_atOnce_17 : decode cX11_atOnce 17 = .ok (.istore_n 3, 1) := by decide +kernel
theorem dX11_atOnce_18 : decode cX11_atOnce 18 = .ok (.aload_n 0, 1) := by decide +kernel
theorem dX11_atOnce_19 : decode cX11_atOnce 19 = .ok (.getfield 238, 3) := by decide +kernel
theorem dX11_atOnce_22 : decode cX11_atOnce 22 = .ok (.ireturn, 1) := by decide +kernel
theorem dX11_order_0 : decode cX11_order 0 = .ok (.aload_n 0, 1) := by decide +kernel
theorem dX11_order_1 : decode cX11_order 1 = .ok (.iload_n 1, 1) := by decide +kernel
theorem dX11_order_2 : decode cX11_order 2 = .ok (.invokevirtual 250, 3) := by decide +kernel
theorem dX11_order_5 : decode cX11_order 5 = .ok (.istore_n 3, 1) := by decide +kernel
theorem dX11_order_6 : decode cX11_order 6 = .ok (.iload_n 3, 1) := by decide +kernel
theorem dX11_order_7 : decode cX11_order 7 = .ok (.ifCond .ge 5, 3) := by decide +kernel
theorem dX11_order_10 : decode cX11_order 10 = .ok (.iload_n 3, 1) := by decide +kernel
theorem dX11_order_11 : decode cX11_order 11 = .ok (.ireturn, 1) := by decide +kernel
theorem dX11_order_12 : decode cX11_order 12 = .ok (.aload_n 0, 1) := by decide +kernel
theorem dX11_order_13 : decode cX11_order 13 = .ok (.iload_n 1, 1) := by decide +kernel
theorem dX11_order_14 : decode cX11_order 14 = .ok (.invokevirtual 253, 3) := by decide +kernel
theorem dX11_order_17 : decode cX11_order 17 = .ok (.istore 4, 2) := by decide +kernel
theorem dX11_order_19 : decode cX11_order 19 = .ok (.iload_n 2, 1) := by decide +kernel
theorem dX11_order_20 : decode cX11_order 20 = .ok (.i2l, 1) := by decide +kernel
theorem dX11_order_21 : decode cX11_order 21 = .ok (.lconst 0, 1) := by decide +kernel
theorem dX11_order_22 : decode cX11_order 22 = .ok (.iload 4, 2) := by decide +kernel
theorem dX11_order_24 : decode cX11_order 24 = .ok (.iconst 1, 1) := by decide +kernel
theorem dX11_order_25 : decode cX11_order 25 = .ok (.isub, 1) := by decide +kernel
theorem dX11_order_26 : decode cX11_order 26 = .ok (.i2l, 1) := by decide +kernel
theorem dX11_order_27 : decode cX11_order 27 = .ok (.invokestatic 82, 3) := by decide +kernel
theorem dX11_order_30 : decode cX11_order 30 = .ok (.ifCond .eq 12, 3) := by decide +kernel
theorem dX11_order_33 : decode cX11_order 33 = .ok (.aload_n 0, 1) := by decide +kernel
theorem dX11_order_34 : decode cX11_order 34 = .ok (.getfield 63, 3) := by decide +kernel
theorem dX11_order_37 : decode cX11_order 37 = .ok (.iload_n 2, 1) := by decide +kernel
theorem dX11_order_38 : decode cX11_order 38 = .ok (.iaload, 1) := by decide +kernel
theorem dX11_order_39 : decode cX11_order 39 = .ok (.goto 5, 3) := by decide +kernel
theorem dX11_order_42 : decode cX11_order 42 = .ok (.ldc 66, 2) := by decide +kernel
theorem dX11_order_44 : decode cX11_order 44 = .ok (.ireturn, 1) := by decide +kernel
theorem dX11_giveAll_0 : decode cX11_giveAll 0 = .ok (.aload_n 0, 1) := by decide +kernel
theorem dX11_giveAll_1 : decode cX11_giveAll 1 = .ok (.iload_n 1, 1) := by decide +kernel
theorem dX11_giveAll_2 : decode cX11_giveAll 2 = .ok (.invokevirtual 250, 3) := by decide +kernel
theorem dX11_giveAll_5 : decode cX11_giveAll 5 = .ok (.istore_n 2, 1) := by decide +kernel
theorem dX11_giveAll_6 : decode cX11_giveAll 6 = .ok (.iload_n 2, 1) := by decide +kernel
theorem dX11_giveAll_7 : decode cX11_giveAll 7 = .ok (.ifCond .ge 5, 3) := by decide +kernel
theorem dX11_giveAll_10 : decode cX11_giveAll 10 = .ok (.iload_n 2, 1) := by decide +kernel
theorem dX11_giveAll_11 : decode cX11_giveAll 11 = .ok (.ireturn, 1) := by decide +kernel
theorem dX11_giveAll_12 : decode cX11_giveAll 12 = .ok (.aload_n 0, 1) := by decide +kernel
theorem dX11_giveAll_13 : decode cX11_giveAll 13 = .ok (.iload_n 1, 1) := by decide +kernel
theorem dX11_giveAll_14 : decode cX11_giveAll 14 = .ok (.invokevirtual 253, 3) := by decide +kernel
theorem dX11_giveAll_17 : decode cX11_giveAll 17 = .ok (.istore_n 3, 1) := by decide +kernel
theorem dX11_giveAll_18 : decode cX11_giveAll 18 = .ok (.iconst 0, 1) := by decide +kernel
theorem dX11_giveAll_19 : decode cX11_giveAll 19 = .ok (.istore 4, 2) := by decide +kernel
theorem dX11_giveAll_21 : decode cX11_giveAll 21 = .ok (.iload 4, 2) := by decide +kernel
theorem dX11_giveAll_23 : decode cX11_giveAll 23 = .ok (.iload_n 3, 1) := by decide +kernel
theorem dX11_giveAll_24 : decode cX11_giveAll 24 = .ok (.if_icmp .ge 23, 3) := by decide +kernel
theorem dX11_giveAll_27 : decode cX11_giveAll 27 = .ok (.aload_n 0, 1) := by decide +kernel
theorem dX11_giveAll_28 : decode cX11_giveAll 28 = .ok (.getfield 60, 3) := by decide +kernel
theorem dX11_giveAll_31 : decode cX11_giveAll 31 = .ok (.iload 4, 2) := by decide +kernel
theorem dX11_giveAll_33 : decode cX11_giveAll 33 = .ok (.aload_n 0, 1) := by decide +kernel
theorem dX11_giveAll_34 : decode cX11_giveAll 34 = .ok (.getfield 63, 3) := by decide +kernel
theorem dX11_giveAll_37 : decode cX11_giveAll 37 = .ok (.iload 4, 2) := by decide +kernel
theorem dX11_giveAll_39 : decode cX11_giveAll 39 = .ok (.iaload, 1) := by decide +kernel
theorem dX11_giveAll_40 : decode cX11_giveAll 40 = .ok (.iastore, 1) := by decide +kernel
theorem dX11_giveAll_41 : decode cX11_giveAll 41 = .ok (.iinc 4 1, 3) := by decide +kernel
theorem dX11_giveAll_44 : decode cX11_giveAll 44 = .ok (.goto (-23), 3) := by decide +kernel
theorem dX11_giveAll_47 : decode cX11_giveAll 47 = .ok (.aload_n 0, 1) := by decide +kernel
theorem dX11_giveAll_48 : decode cX11_giveAll 48 = .ok (.iload_n 3, 1) := by decide +kernel
theorem dX11_giveAll_49 : decode cX11_giveAll 49 = .ok (.invokevirtual 244, 3) := by decide +kernel
theorem dX11_giveAll_52 : decode cX11_giveAll 52 = .ok (.istore 4, 2) := by decide +kernel
theorem dX11_giveAll_54 : decode cX11_giveAll 54 = .ok (.iload_n 1, 1) := by decide +kernel
theorem dX11_giveAll_55 : decode cX11_giveAll 55 = .ok (.aload_n 0, 1) := by decide +kernel
theorem dX11_giveAll_56 : decode cX11_giveAll 56 = .ok (.invokevirtual 223, 3) := by decide +kernel
theorem dX11_giveAll_59 : decode cX11_giveAll 59 = .ok (.iand, 1) := by decide +kernel
theorem dX11_giveAll_60 : decode cX11_giveAll 60 = .ok (.invokestatic 226, 3) := by decide +kernel
theorem dX11_giveAll_63 : decode cX11_giveAll 63 = .ok (.ireturn, 1) := by decide +kernel
theorem dX11_silent_0 : decode cX11_silent 0 = .ok (.aload_n 0, 1) := by decide +kernel
theorem dX11_silent_1 : decode cX11_silent 1 = .ok (.iload_n 1, 1) := by decide +kernel
theorem dX11_silent_2 : decode cX11_silent 2 = .ok (.invokevirtual 110, 3) := by decide +kernel
theorem dX11_silent_5 : decode cX11_silent 5 = .ok (.ifCond .ne 6, 3) := by decide +kernel
theorem dX11_silent_8 : decode cX11_silent 8 = .ok (.ldc 114, 2) := by decide +kernel
theorem dX11_silent_10 : decode cX11_silent 10 = .ok (.ireturn, 1) := by decide +kernel
theorem dX11_silent_11 : decode cX11_silent 11 = .ok (.iload_n 2, 1) := by decide +kernel
theorem dX11_silent_12 : decode cX11_silent 12 = .ok (.invokestatic 115, 3) := by decide +kernel
theorem dX11_silent_15 : decode cX11_silent 15 = .ok (.ifCond .eq 15, 3) := by decide +kernel
theorem dX11_silent_18 : decode cX11_silent 18 = .ok (.iload_n 3, 1) := by decide +kernel
theorem dX11_silent_19 : decode cX11_silent 19 = .ok (.i2l, 1) := by decide +kernel
theorem dX11_silent_20 : decode cX11_silent 20 = .ok (.lconst 0, 1) := by decide +kernel
theorem dX11_silent_21 : decode cX11_silent 21 = .ok (.ldc2_w 121, 3) := by decide +kernel
theorem dX11_silent_24 : decode cX11_silent 24 = .ok (.invokestatic 82, 3) := by decide +kernel
theorem dX11_silent_27 : decode cX11_silent 27 = .ok (.ifCond .ne 6, 3) := by decide +kernel
theorem dX11_silent_30 : decode cX11_silent 30 = .ok (.ldc 109, 2) := by decide +kernel
theorem dX11_silent_32 : decode cX11_silent 32 = .ok (.ireturn, 1) := by decide +kernel
theorem dX11_silent_33 : decode cX11_silent 33 = .ok (.aload_n 0, 1) := by decide +kernel
theorem dX11_silent_34 : decode cX11_silent 34 = .ok (.iload_n 1, 1) := by decide +kernel
theorem dX11_silent_35 : decode cX11_silent 35 = .ok (.putfield 67, 3) := by decide +kernel
theorem dX11_silent_38 : decode cX11_silent 38 = .ok (.aload_n 0, 1) := by decide +kernel
theorem dX11_silent_39 : decode cX11_silent 39 = .ok (.iload_n 2, 1) := by decide +kernel
theorem dX11_silent_40 : decode cX11_silent 40 = .ok (.putfield 256, 3) := by decide +kernel
theorem dX11_silent_43 : decode cX11_silent 43 = .ok (.aload_n 0, 1) := by decide +kernel
theorem dX11_silent_44 : decode cX11_silent 44 = .ok (.iload_n 3, 1) := by decide +kernel
theorem dX11_silent_45 : decode cX11_silent 45 = .ok (.putfield 259, 3) := by decide +kernel
theorem dX11_silent_48 : decode cX11_silent 48 = .ok (.iconst 1, 1) := by decide +kernel
theorem dX11_silent_49 : decode cX11_silent 49 = .ok (.ireturn, 1) := by decide +kernel
theorem dX11_isSeenBy_0 : decode cX11_isSeenBy 0 = .ok (.aload_n 0, 1) := by decide +kernel
theorem dX11_isSeenBy_1 : decode cX11_isSeenBy 1 = .ok (.getfield 67, 3) := by decide +kernel
theorem dX11_isSeenBy_4 : decode cX11_isSeenBy 4 = .ok (.ldc 66, 2) := by decide +kernel
theorem dX11_isSeenBy_6 : decode cX11_isSeenBy 6 = .ok (.if_icmp .eq 15, 3) := by decide +kernel
theorem dX11_isSeenBy_9 : decode cX11_isSeenBy 9 = .ok (.aload_n 0, 1) := by decide +kernel
theorem dX11_isSeenBy_10 : decode cX11_isSeenBy 10 = .ok (.getfield 256, 3) := by decide +kernel
theorem dX11_isSeenBy_13 : decode cX11_isSeenBy 13 = .ok (.iload_n 1, 1) := by decide +kernel
theorem dX11_isSeenBy_14 : decode cX11_isSeenBy 14 = .ok (.if_icmp .gt 7, 3) := by decide +kernel
theorem dX11_isSeenBy_17 : decode cX11_isSeenBy 17 = .ok (.iconst 1, 1) := by decide +kernel
theorem dX11_isSeenBy_18 : decode cX11_isSeenBy 18 = .ok (.goto 4, 3) := by decide +kernel
theorem dX11_isSeenBy_21 : decode cX11_isSeenBy 21 = .ok (.iconst 0, 1) := by decide +kernel
theorem dX11_isSeenBy_22 : decode cX11_isSeenBy 22 = .ok (.ireturn, 1) := by decide +kernel
theorem dX11_layCould_0 : decode cX11_layCould 0 = .ok (.iconst 0, 1) := by decide +kernel
theorem dX11_layCould_1 : decode cX11_layCould 1 = .ok (.istore_n 2, 1) := by decide +kernel
theorem dX11_layCould_2 : decode cX11_layCould 2 = .ok (.iload_n 2, 1) := by decide +kernel
theorem dX11_layCould_3 : decode cX11_layCould 3 = .ok (.bipush 36, 2) := by decide +kernel
theorem dX11_layCould_5 : decode cX11_layCould 5 = .ok (.if_icmp .ge 36, 3) := by decide +kernel
theorem dX11_layCould_8 : decode cX11_layCould 8 = .ok (.aload_n 0, 1) := by decide +kernel
theorem dX11_layCould_9 : decode cX11_layCould 9 = .ok (.getfield 70, 3) := by decide +kernel
theorem dX11_layCould_12 : decode cX11_layCould 12 = .ok (.iload_n 2, 1) := by decide +kernel
theorem dX11_layCould_13 : decode cX11_layCould 13 = .ok (.iload_n 2, 1) := by decide +kernel
theorem dX11_layCould_14 : decode cX11_layCould 14 = .ok (.aload_n 0, 1) := by decide +kernel
theorem dX11_layCould_15 : decode cX11_layCould 15 = .ok (.getfield 67, 3) := by decide +kernel
theorem dX11_layCould_18 : decode cX11_layCould 18 = .ok (.if_icmp .ne 15, 3) := by decide +kernel
theorem dX11_layCould_21 : decode cX11_layCould 21 = .ok (.aload_n 0, 1) := by decide +kernel
theorem dX11_layCould_22 : decode cX11_layCould 22 = .ok (.iload_n 1, 1) := by decide +kernel
theorem dX11_layCould_23 : decode cX11_layCould 23 = .ok (.invokevirtual 262, 3) := by decide +kernel
theorem dX11_layCould_26 : decode cX11_layCould 26 = .ok (.ifCond .eq 7, 3) := by decide +kernel
theorem dX11_layCould_29 : decode cX11_layCould 29 = .ok (.iconst 1, 1) := by decide +kernel
theorem dX11_layCould_30 : decode cX11_layCould 30 = .ok (.goto 4, 3) := by decide +kernel
theorem dX11_layCould_33 : decode cX11_layCould 33 = .ok (.iconst 0, 1) := by decide +kernel
theorem dX11_layCould_34 : decode cX11_layCould 34 = .ok (.bastore, 1) := by decide +kernel
theorem dX11_layCould_35 : decode cX11_layCould 35 = .ok (.iinc 2 1, 3) := by decide +kernel
theorem dX11_layCould_38 : decode cX11_layCould 38 = .ok (.goto (-36), 3) := by decide +kernel
theorem dX11_layCould_41 : decode cX11_layCould 41 = .ok (.aload_n 0, 1) := by decide +kernel
theorem dX11_layCould_42 : decode cX11_layCould 42 = .ok (.getfield 256, 3) := by decide +kernel
theorem dX11_layCould_45 : decode cX11_layCould 45 = .ok (.iconst 1, 1) := by decide +kernel
theorem dX11_layCould_46 : decode cX11_layCould 46 = .ok (.iadd, 1) := by decide +kernel
theorem dX11_layCould_47 : decode cX11_layCould 47 = .ok (.istore_n 2, 1) := by decide +kernel
theorem dX11_layCould_48 : decode cX11_layCould 48 = .ok (.iload_n 2, 1) := by decide +kernel
theorem dX11_layCould_49 : decode cX11_layCould 49 = .ok (.iload_n 1, 1) := by decide +kernel
theorem dX11_layCould_50 : decode cX11_layCould 50 = .ok (.if_icmp .gt 39, 3) := by decide +kernel
theorem dX11_layCould_53 : decode cX11_layCould 53 = .ok (.aload_n 0, 1) := by decide +kernel
theorem dX11_layCould_54 : decode cX11_layCould 54 = .ok (.getfield 67, 3) := by decide +kernel
theorem dX11_layCould_57 : decode cX11_layCould 57 = .ok (.ldc 66, 2) := by decide +kernel
theorem dX11_layCould_59 : decode cX11_layCould 59 = .ok (.if_icmp .eq 30, 3) := by decide +kernel
theorem dX11_layCould_62 : decode cX11_layCould 62 = .ok (.iconst 0, 1) := by decide +kernel
theorem dX11_layCould_63 : decode cX11_layCould 63 = .ok (.istore_n 3, 1) := by decide +kernel
theorem dX11_layCould_64 : decode cX11_layCould 64 = .ok (.iload_n 3, 1) := by decide +kernel
theorem dX11_layCould_65 : decode cX11_layCould 65 = .ok (.aload_n 0, 1) := by decide +kernel
theorem dX11_layCould_66 : decode cX11_layCould 66 = .ok (.getfield 259, 3) := by decide +kernel
theorem dX11_layCould_69 : decode cX11_layCould 69 = .ok (.if_icmp .ge 14, 3) := by decide +kernel
theorem dX11_layCould_72 : decode cX11_layCould 72 = .ok (.aload_n 0, 1) := by decide +kernel
theorem dX11_layCould_73 : decode cX11_layCould 73 = .ok (.iload_n 2, 1) := by decide +kernel
theorem dX11_layCould_74 : decode cX11_layCould 74 = .ok (.invokevirtual 265, 3) := by decide +kernel
theorem dX11_layCould_77 : decode cX11_layCould 77 = .ok (.iinc 3 1, 3) := by decide +kernel
theorem dX11_layCould_80 : decode cX11_layCould 80 = .ok (.goto (-16), 3) := by decide +kernel
theorem dX11_layCould_83 : decode cX11_layCould 83 = .ok (.iinc 2 1, 3) := by decide +kernel
theorem dX11_layCould_86 : decode cX11_layCould 86 = .ok (.goto (-38), 3) := by decide +kernel
theorem dX11_layCould_89 : decode cX11_layCould 89 = .ok (.return_, 1) := by decide +kernel
theorem dX11_spread_0 : decode cX11_spread 0 = .ok (.iconst 0, 1) := by decide +kernel
theorem dX11_spread_1 : decode cX11_spread 1 = .ok (.istore_n 2, 1) := by decide +kernel
theorem dX11_spread_2 : decode cX11_spread 2 = .ok (.iload_n 2, 1) := by decide +kernel
theorem dX11_spread_3 : decode cX11_spread 3 = .ok (.aload_n 0, 1) := by decide +kernel
theorem dX11_spread_4 : decode cX11_spread 4 = .ok (.invokevirtual 101, 3) := by decide +kernel
theorem dX11_spread_7 : decode cX11_spread 7 = .ok (.if_icmp .ge 88, 3) := by decide +kernel
theorem dX11_spread_10 : decode cX11_spread 10 = .ok (.aload_n 0, 1) := by decide +kernel
theorem dX11_spread_11 : decode cX11_spread 11 = .ok (.getfield 73, 3) := by decide +kernel
theorem dX11_spread_14 : decode cX11_spread 14 = .ok (.iload_n 2, 1) := by decide +kernel
theorem dX11_spread_15 : decode cX11_spread 15 = .ok (.aload_n 0, 1) := by decide +kernel
theorem dX11_spread_16 : decode cX11_spread 16 = .ok (.getfield 70, 3) := by decide +kernel
theorem dX11_spread_19 : decode cX11_spread 19 = .ok (.iload_n 2, 1) := by decide +kernel
theorem dX11_spread_20 : decode cX11_spread 20 = .ok (.baload, 1) := by decide +kernel
theorem dX11_spread_21 : decode cX11_spread 21 = .ok (.bastore, 1) := by decide +kernel
theorem dX11_spread_22 : decode cX11_spread 22 = .ok (.iconst 0, 1) := by decide +kernel
theorem dX11_spread_23 : decode cX11_spread 23 = .ok (.istore_n 3, 1) := by decide +kernel
theorem dX11_spread_24 : decode cX11_spread 24 = .ok (.iload_n 3, 1) := by decide +kernel
theorem dX11_spread_25 : decode cX11_spread 25 = .ok (.iconst 4, 1) := by decide +kernel
theorem dX11_spread_26 : decode cX11_spread 26 = .ok (.if_icmp .ge 63, 3) := by decide +kernel
theorem dX11_spread_29 : decode cX11_spread 29 = .ok (.aload_n 0, 1) := by decide +kernel
theorem dX11_spread_30 : decode cX11_spread 30 = .ok (.iload_n 2, 1) := by decide +kernel
theorem dX11_spread_31 : decode cX11_spread 31 = .ok (.iload_n 3, 1) := by decide +kernel
theorem dX11_spread_32 : decode cX11_spread 32 = .ok (.invokevirtual 164, 3) := by decide +kernel
theorem dX11_spread_35 : decode cX11_spread 35 = .ok (.istore 4, 2) := by decide +kernel
theorem dX11_spread_37 : decode cX11_spread 37 = .ok (.aload_n 0, 1) := by decide +kernel
theorem dX11_spread_38 : decode cX11_spread 38 = .ok (.getfield 73, 3) := by decide +kernel
theorem dX11_spread_41 : decode cX11_spread 41 = .ok (.iload_n 2, 1) := by decide +kernel
theorem dX11_spread_42 : decode cX11_spread 42 = .ok (.aload_n 0, 1) := by decide +kernel
theorem dX11_spread_43 : decode cX11_spread 43 = .ok (.getfield 73, 3) := by decide +kernel
theorem dX11_spread_46 : decode cX11_spread 46 = .ok (.iload_n 2, 1) := by decide +kernel
theorem dX11_spread_47 : decode cX11_spread 47 = .ok (.baload, 1) := by decide +kernel
theorem dX11_spread_48 : decode cX11_spread 48 = .ok (.ifCond .ne 29, 3) := by decide +kernel
theorem dX11_spread_51 : decode cX11_spread 51 = .ok (.iload 4, 2) := by decide +kernel
theorem dX11_spread_53 : decode cX11_spread 53 = .ok (.ldc 66, 2) := by decide +kernel
theorem dX11_spread_55 : decode cX11_spread 55 = .ok (.if_icmp .eq 26, 3) := by decide +kernel
theorem dX11_spread_58 : decode cX11_spread 58 = .ok (.aload_n 0, 1) := by decide +kernel
theorem dX11_spread_59 : decode cX11_spread 59 = .ok (.getfield 70, 3) := by decide +kernel
theorem dX11_spread_62 : decode cX11_spread 62 = .ok (.iload 4, 2) := by decide +kernel
theorem dX11_spread_64 : decode cX11_spread 64 = .ok (.baload, 1) := by decide +kernel
theorem dX11_spread_65 : decode cX11_spread 65 = .ok (.ifCond .eq 16, 3) := by decide +kernel
theorem dX11_spread_68 : decode cX11_spread 68 = .ok (.aload_n 0, 1) := by decide +kernel
theorem dX11_spread_69 : decode cX11_spread 69 = .ok (.iload_n 2, 1) := by decide +kernel
theorem dX11_spread_70 : decode cX11_spread 70 = .ok (.iload_n 1, 1) := by decide +kernel
theorem dX11_spread_71 : decode cX11_spread 71 = .ok (.invokevirtual 144, 3) := by decide +kernel
theorem dX11_spread_74 : decode cX11_spread 74 = .ok (.ifCond .ne 7, 3) := by decide +kernel
theorem dX11_spread_77 : decode cX11_spread 77 = .ok (.iconst 1, 1) := by decide +kernel
theorem dX11_spread_78 : decode cX11_spread 78 = .ok (.goto 4, 3) := by decide +kernel
theorem dX11_spread_81 : decode cX11_spread 81 = .ok (.iconst 0, 1) := by decide +kernel
theorem dX11_spread_82 : decode cX11_spread 82 = .ok (.bastore, 1) := by decide +kernel
theorem dX11_spread_83 : decode cX11_spread 83 = .ok (.iinc 3 1, 3) := by decide +kernel
theorem dX11_spread_86 : decode cX11_spread 86 = .ok (.goto (-62), 3) := by decide +kernel
theorem dX11_spread_89 : decode cX11_spread 89 = .ok (.iinc 2 1, 3) := by decide +kernel
theorem dX11_spread_92 : decode cX11_spread 92 = .ok (.goto (-90), 3) := by decide +kernel
theorem dX11_spread_95 : decode cX11_spread 95 = .ok (.iconst 0, 1) := by decide +kernel
theorem dX11_spread_96 : decode cX11_spread 96 = .ok (.istore_n 2, 1) := by decide +kernel
theorem dX11_spread_97 : decode cX11_spread 97 = .ok (.iload_n 2, 1) := by decide +kernel
theorem dX11_spread_98 : decode cX11_spread 98 = .ok (.aload_n 0, 1) := by decide +kernel
theorem dX11_spread_99 : decode cX11_spread 99 = .ok (.invokevirtual 101, 3) := by decide +kernel
theorem dX11_spread_102 : decode cX11_spread 102 = .ok (.if_icmp .ge 21, 3) := by decide +kernel
theorem dX11_spread_105 : decode cX11_spread 105 = .ok (.aload_n 0, 1) := by decide +kernel
theorem dX11_spread_106 : decode cX11_spread 106 = .ok (.getfield 70, 3) := by decide +kernel
theorem dX11_spread_109 : decode cX11_spread 109 = .ok (.iload_n 2, 1) := by decide +kernel
theorem dX11_spread_110 : decode cX11_spread 110 = .ok (.aload_n 0, 1) := by decide +kernel
theorem dX11_spread_111 : decode cX11_spread 111 = .ok (.getfield 73, 3) := by decide +kernel
theorem dX11_spread_114 : decode cX11_spread 114 = .ok (.iload_n 2, 1) := by decide +kernel
theorem dX11_spread_115 : decode cX11_spread 115 = .ok (.baload, 1) := by decide +kernel
theorem dX11_spread_116 : decode cX11_spread 116 = .ok (.bastore, 1) := by decide +kernel
theorem dX11_spread_117 : decode cX11_spread 117 = .ok (.iinc 2 1, 3) := by decide +kernel
theorem dX11_spread_120 : decode cX11_spread 120 = .ok (.goto (-23), 3) := by decide +kernel
theorem dX11_spread_123 : decode cX11_spread 123 = .ok (.return_, 1) := by decide +kernel
theorem dX11_could_0 : decode cX11_could 0 = .ok (.iload_n 1, 1) := by decide +kernel
theorem dX11_could_1 : decode cX11_could 1 = .ok (.invokestatic 115, 3) := by decide +kernel
theorem dX11_could_4 : decode cX11_could 4 = .ok (.ifCond .ne 6, 3) := by decide +kernel
theorem dX11_could_7 : decode cX11_could 7 = .ok (.ldc 109, 2) := by decide +kernel
theorem dX11_could_9 : decode cX11_could 9 = .ok (.ireturn, 1) := by decide +kernel
theorem dX11_could_10 : decode cX11_could 10 = .ok (.aload_n 0, 1) := by decide +kernel
theorem dX11_could_11 : decode cX11_could 11 = .ok (.iload_n 1, 1) := by decide +kernel
theorem dX11_could_12 : decode cX11_could 12 = .ok (.invokevirtual 268, 3) := by decide +kernel
theorem dX11_could_15 : decode cX11_could 15 = .ok (.iconst 0, 1) := by decide +kernel
theorem dX11_could_16 : decode cX11_could 16 = .ok (.istore_n 2, 1) := by decide +kernel
theorem dX11_could_17 : decode cX11_could 17 = .ok (.iconst 0, 1) := by decide +kernel
theorem dX11_could_18 : decode cX11_could 18 = .ok (.istore_n 3, 1) := by decide +kernel
theorem dX11_could_19 : decode cX11_could 19 = .ok (.iload_n 3, 1) := by decide +kernel
theorem dX11_could_20 : decode cX11_could 20 = .ok (.aload_n 0, 1) := by decide +kernel
theorem dX11_could_21 : decode cX11_could 21 = .ok (.invokevirtual 101, 3) := by decide +kernel
theorem dX11_could_24 : decode cX11_could 24 = .ok (.if_icmp .ge 26, 3) := by decide +kernel
theorem dX11_could_27 : decode cX11_could 27 = .ok (.iload_n 2, 1) := by decide +kernel
theorem dX11_could_28 : decode cX11_could 28 = .ok (.aload_n 0, 1) := by decide +kernel
theorem dX11_could_29 : decode cX11_could 29 = .ok (.getfield 70, 3) := by decide +kernel
theorem dX11_could_32 : decode cX11_could 32 = .ok (.iload_n 3, 1) := by decide +kernel
theorem dX11_could_33 : decode cX11_could 33 = .ok (.baload, 1) := by decide +kernel
theorem dX11_could_34 : decode cX11_could 34 = .ok (.ifCond .eq 7, 3) := by decide +kernel
theorem dX11_could_37 : decode cX11_could 37 = .ok (.iconst 1, 1) := by decide +kernel
theorem dX11_could_38 : decode cX11_could 38 = .ok (.goto 4, 3) := by decide +kernel
theorem dX11_could_41 : decode cX11_could 41 = .ok (.iconst 0, 1) := by decide +kernel
theorem dX11_could_42 : decode cX11_could 42 = .ok (.iadd, 1) := by decide +kernel
theorem dX11_could_43 : decode cX11_could 43 = .ok (.istore_n 2, 1) := by decide +kernel
theorem dX11_could_44 : decode cX11_could 44 = .ok (.iinc 3 1, 3) := by decide +kernel
theorem dX11_could_47 : decode cX11_could 47 = .ok (.goto (-28), 3) := by decide +kernel
theorem dX11_could_50 : decode cX11_could 50 = .ok (.iload_n 2, 1) := by decide +kernel
theorem dX11_could_51 : decode cX11_could 51 = .ok (.ireturn, 1) := by decide +kernel
theorem dX11_couldBe_0 : decode cX11_couldBe 0 = .ok (.aload_n 0, 1) := by decide +kernel
theorem dX11_couldBe_1 : decode cX11_couldBe 1 = .ok (.iload_n 1, 1) := by decide +kernel
theorem dX11_couldBe_2 : decode cX11_couldBe 2 = .ok (.invokevirtual 110, 3) := by decide +kernel
theorem dX11_couldBe_5 : decode cX11_couldBe 5 = .ok (.ifCond .ne 6, 3) := by decide +kernel
theorem dX11_couldBe_8 : decode cX11_couldBe 8 = .ok (.ldc 114, 2) := by decide +kernel
theorem dX11_couldBe_10 : decode cX11_couldBe 10 = .ok (.ireturn, 1) := by decide +kernel
theorem dX11_couldBe_11 : decode cX11_couldBe 11 = .ok (.iload_n 2, 1) := by decide +kernel
theorem dX11_couldBe_12 : decode cX11_couldBe 12 = .ok (.invokestatic 115, 3) := by decide +kernel
theorem dX11_couldBe_15 : decode cX11_couldBe 15 = .ok (.ifCond .ne 6, 3) := by decide +kernel
theorem dX11_couldBe_18 : decode cX11_couldBe 18 = .ok (.ldc 109, 2) := by decide +kernel
theorem dX11_couldBe_20 : decode cX11_couldBe 20 = .ok (.ireturn, 1) := by decide +kernel
theorem dX11_couldBe_21 : decode cX11_couldBe 21 = .ok (.aload_n 0, 1) := by decide +kernel
theorem dX11_couldBe_22 : decode cX11_couldBe 22 = .ok (.iload_n 2, 1) := by decide +kernel
theorem dX11_couldBe_23 : decode cX11_couldBe 23 = .ok (.invokevirtual 268, 3) := by decide +kernel
theorem dX11_couldBe_26 : decode cX11_couldBe 26 = .ok (.aload_n 0, 1) := by decide +kernel
theorem dX11_couldBe_27 : decode cX11_couldBe 27 = .ok (.getfield 70, 3) := by decide +kernel
theorem dX11_couldBe_30 : decode cX11_couldBe 30 = .ok (.iload_n 1, 1) := by decide +kernel
theorem dX11_couldBe_31 : decode cX11_couldBe 31 = .ok (.baload, 1) := by decide +kernel
theorem dX11_couldBe_32 : decode cX11_couldBe 32 = .ok (.ifCond .eq 7, 3) := by decide +kernel
theorem dX11_couldBe_35 : decode cX11_couldBe 35 = .ok (.iconst 1, 1) := by decide +kernel
theorem dX11_couldBe_36 : decode cX11_couldBe 36 = .ok (.goto 4, 3) := by decide +kernel
theorem dX11_couldBe_39 : decode cX11_couldBe 39 = .ok (.iconst 0, 1) := by decide +kernel
theorem dX11_couldBe_40 : decode cX11_couldBe 40 = .ok (.ireturn, 1) := by decide +kernel
theorem dX11_ledOf_0 : decode cX11_ledOf 0 = .ok (.aload_n 0, 1) := by decide +kernel
theorem dX11_ledOf_1 : decode cX11_ledOf 1 = .ok (.getfield 256, 3) := by decide +kernel
theorem dX11_ledOf_4 : decode cX11_ledOf 4 = .ok (.istore_n 2, 1) := by decide +kernel
theorem dX11_ledOf_5 : decode cX11_ledOf 5 = .ok (.iload_n 2, 1) := by decide +kernel
theorem dX11_ledOf_6 : decode cX11_ledOf 6 = .ok (.bipush 60, 2) := by decide +kernel
theorem dX11_ledOf_8 : decode cX11_ledOf 8 = .ok (.if_icmp .ge 46, 3) := by decide +kernel
theorem dX11_ledOf_11 : decode cX11_ledOf 11 = .ok (.aload_n 0, 1) := by decide +kernel
theorem dX11_ledOf_12 : decode cX11_ledOf 12 = .ok (.iload_n 2, 1) := by decide +kernel
theorem dX11_ledOf_13 : decode cX11_ledOf 13 = .ok (.invokevirtual 262, 3) := by decide +kernel
theorem dX11_ledOf_16 : decode cX11_ledOf 16 = .ok (.ifCond .eq 38, 3) := by decide +kernel
theorem dX11_ledOf_19 : decode cX11_ledOf 19 = .ok (.aload_n 0, 1) := by decide +kernel
theorem dX11_ledOf_20 : decode cX11_ledOf 20 = .ok (.iload_n 1, 1) := by decide +kernel
theorem dX11_ledOf_21 : decode cX11_ledOf 21 = .ok (.iload_n 2, 1) := by decide +kernel
theorem dX11_ledOf_22 : decode cX11_ledOf 22 = .ok (.invokevirtual 220, 3) := by decide +kernel
theorem dX11_ledOf_25 : decode cX11_ledOf 25 = .ok (.istore_n 3, 1) := by decide +kernel
theorem dX11_ledOf_26 : decode cX11_ledOf 26 = .ok (.aload_n 0, 1) := by decide +kernel
theorem dX11_ledOf_27 : decode cX11_ledOf 27 = .ok (.iload_n 2, 1) := by decide +kernel
theorem dX11_ledOf_28 : decode cX11_ledOf 28 = .ok (.invokevirtual 268, 3) := by decide +kernel
theorem dX11_ledOf_31 : decode cX11_ledOf 31 = .ok (.iload_n 3, 1) := by decide +kernel
theorem dX11_ledOf_32 : decode cX11_ledOf 32 = .ok (.ldc 66, 2) := by decide +kernel
theorem dX11_ledOf_34 : decode cX11_ledOf 34 = .ok (.if_icmp .eq 14, 3) := by decide +kernel
theorem dX11_ledOf_37 : decode cX11_ledOf 37 = .ok (.aload_n 0, 1) := by decide +kernel
theorem dX11_ledOf_38 : decode cX11_ledOf 38 = .ok (.getfield 70, 3) := by decide +kernel
theorem dX11_ledOf_41 : decode cX11_ledOf 41 = .ok (.iload_n 3, 1) := by decide +kernel
theorem dX11_ledOf_42 : decode cX11_ledOf 42 = .ok (.baload, 1) := by decide +kernel
theorem dX11_ledOf_43 : decode cX11_ledOf 43 = .ok (.ifCond .eq 5, 3) := by decide +kernel
theorem dX11_ledOf_46 : decode cX11_ledOf 46 = .ok (.iload_n 2, 1) := by decide +kernel
theorem dX11_ledOf_47 : decode cX11_ledOf 47 = .ok (.ireturn, 1) := by decide +kernel
theorem dX11_ledOf_48 : decode cX11_ledOf 48 = .ok (.iinc 2 1, 3) := by decide +kernel
theorem dX11_ledOf_51 : decode cX11_ledOf 51 = .ok (.goto (-46), 3) := by decide +kernel
theorem dX11_ledOf_54 : decode cX11_ledOf 54 = .ok (.ldc 66, 2) := by decide +kernel
theorem dX11_ledOf_56 : decode cX11_ledOf 56 = .ok (.ireturn, 1) := by decide +kernel
theorem dX11_ledOff_0 : decode cX11_ledOff 0 = .ok (.iconst 0, 1) := by decide +kernel
theorem dX11_ledOff_1 : decode cX11_ledOff 1 = .ok (.istore_n 1, 1) := by decide +kernel
theorem dX11_ledOff_2 : decode cX11_ledOff 2 = .ok (.iconst 0, 1) := by decide +kernel
theorem dX11_ledOff_3 : decode cX11_ledOff 3 = .ok (.istore_n 2, 1) := by decide +kernel
theorem dX11_ledOff_4 : decode cX11_ledOff 4 = .ok (.iload_n 2, 1) := by decide +kernel
theorem dX11_ledOff_5 : decode cX11_ledOff 5 = .ok (.aload_n 0, 1) := by decide +kernel
theorem dX11_ledOff_6 : decode cX11_ledOff 6 = .ok (.getfield 98, 3) := by decide +kernel
theorem dX11_ledOff_9 : decode cX11_ledOff 9 = .ok (.if_icmp .ge 36, 3) := by decide +kernel
theorem dX11_ledOff_12 : decode cX11_ledOff 12 = .ok (.iload_n 1, 1) := by decide +kernel
theorem dX11_ledOff_13 : decode cX11_ledOff 13 = .ok (.aload_n 0, 1) := by decide +kernel
theorem dX11_ledOff_14 : decode cX11_ledOff 14 = .ok (.getfield 33, 3) := by decide +kernel
theorem dX11_ledOff_17 : decode cX11_ledOff 17 = .ok (.iload_n 2, 1) := by decide +kernel
theorem dX11_ledOff_18 : decode cX11_ledOff 18 = .ok (.baload, 1) := by decide +kernel
theorem dX11_ledOff_19 : decode cX11_ledOff 19 = .ok (.ifCond .eq 17, 3) := by decide +kernel
theorem dX11_ledOff_22 : decode cX11_ledOff 22 = .ok (.aload_n 0, 1) := by decide +kernel
theorem dX11_ledOff_23 : decode cX11_ledOff 23 = .ok (.iload_n 2, 1) := by decide +kernel
theorem dX11_ledOff_24 : decode cX11_ledOff 24 = .ok (.invokevirtual 271, 3) := by decide +kernel
theorem dX11_ledOff_27 : decode cX11_ledOff 27 = .ok (.ldc 66, 2) := by decide +kernel
theorem dX11_ledOff_29 : decode cX11_ledOff 29 = .ok (.if_icmp .eq 7, 3) := by decide +kernel
theorem dX11_ledOff_32 : decode cX11_ledOff 32 = .ok (.iconst 1, 1) := by decide +kernel
theorem dX11_ledOff_33 : decode cX11_ledOff 33 = .ok (.goto 4, 3) := by decide +kernel
theorem dX11_ledOff_36 : decode cX11_ledOff 36 = .ok (.iconst 0, 1) := by decide +kernel
theorem dX11_ledOff_37 : decode cX11_ledOff 37 = .ok (.iadd, 1) := by decide +kernel
theorem dX11_ledOff_38 : decode cX11_ledOff 38 = .ok (.istore_n 1, 1) := by decide +kernel
theorem dX11_ledOff_39 : decode cX11_ledOff 39 = .ok (.iinc 2 1, 3) := by decide +kernel
theorem dX11_ledOff_42 : decode cX11_ledOff 42 = .ok (.goto (-38), 3) := by decide +kernel
theorem dX11_ledOff_45 : decode cX11_ledOff 45 = .ok (.iload_n 1, 1) := by decide +kernel
theorem dX11_ledOff_46 : decode cX11_ledOff 46 = .ok (.ireturn, 1) := by decide +kernel
theorem dX11_led_0 : decode cX11_led 0 = .ok (.iconst 0, 1) := by decide +kernel
theorem dX11_led_1 : decode cX11_led 1 = .ok (.istore_n 2, 1) := by decide +kernel
theorem dX11_led_2 : decode cX11_led 2 = .ok (.iconst 0, 1) := by decide +kernel
theorem dX11_led_3 : decode cX11_led 3 = .ok (.istore_n 3, 1) := by decide +kernel
theorem dX11_led_4 : decode cX11_led 4 = .ok (.iload_n 3, 1) := by decide +kernel
theorem dX11_led_5 : decode cX11_led 5 = .ok (.aload_n 0, 1) := by decide +kernel
theorem dX11_led_6 : decode cX11_led 6 = .ok (.getfield 98, 3) := by decide +kernel
theorem dX11_led_9 : decode cX11_led 9 = .ok (.if_icmp .ge 38, 3) := by decide +kernel
theorem dX11_led_12 : decode cX11_led 12 = .ok (.iload_n 2, 1) := by decide +kernel
theorem dX11_led_13 : decode cX11_led 13 = .ok (.aload_n 0, 1) := by decide +kernel
theorem dX11_led_14 : decode cX11_led 14 = .ok (.getfield 33, 3) := by decide +kernel
theorem dX11_led_17 : decode cX11_led 17 = .ok (.iload_n 3, 1) := by decide +kernel
theorem dX11_led_18 : decode cX11_led 18 = .ok (.baload, 1) := by decide +kernel
theorem dX11_led_19 : decode cX11_led 19 = .ok (.ifCond .eq 19, 3) := by decide +kernel
theorem dX11_led_22 : decode cX11_led 22 = .ok (.aload_n 0, 1) := by decide +kernel
theorem dX11_led_23 : decode cX11_led 23 = .ok (.iload_n 3, 1) := by decide +kernel
theorem dX11_led_24 : decode cX11_led 24 = .ok (.invokevirtual 271, 3) := by decide +kernel
theorem dX11_led_27 : decode cX11_led 27 = .ok (.ldc 66, 2) := by decide +kernel
theorem dX11_led_29 : decode cX11_led 29 = .ok (.if_icmp .eq 9, 3) := by decide +kernel
theorem dX11_led_32 : decode cX11_led 32 = .ok (.iconst 1, 1) := by decide +kernel
theorem dX11_led_33 : decode cX11_led 33 = .ok (.iload_n 3, 1) := by decide +kernel
theorem dX11_led_34 : decode cX11_led 34 = .ok (.ishl, 1) := by decide +kernel
theorem dX11_led_35 : decode cX11_led 35 = .ok (.goto 4, 3) := by decide +kernel
theorem dX11_led_38 : decode cX11_led 38 = .ok (.iconst 0, 1) := by decide +kernel
theorem dX11_led_39 : decode cX11_led 39 = .ok (.ior, 1) := by decide +kernel
theorem dX11_led_40 : decode cX11_led 40 = .ok (.istore_n 2, 1) := by decide +kernel
theorem dX11_led_41 : decode cX11_led 41 = .ok (.iinc 3 1, 3) := by decide +kernel
theorem dX11_led_44 : decode cX11_led 44 = .ok (.goto (-40), 3) := by decide +kernel
theorem dX11_led_47 : decode cX11_led 47 = .ok (.iload_n 2, 1) := by decide +kernel
theorem dX11_led_48 : decode cX11_led 48 = .ok (.iload_n 1, 1) := by decide +kernel
theorem dX11_led_49 : decode cX11_led 49 = .ok (.invokestatic 235, 3) := by decide +kernel
theorem dX11_led_52 : decode cX11_led 52 = .ok (.ireturn, 1) := by decide +kernel
theorem dX11_ledAt_0 : decode cX11_ledAt 0 = .ok (.aload_n 0, 1) := by decide +kernel
theorem dX11_ledAt_1 : decode cX11_ledAt 1 = .ok (.iload_n 1, 1) := by decide +kernel
theorem dX11_ledAt_2 : decode cX11_ledAt 2 = .ok (.invokevirtual 155, 3) := by decide +kernel
theorem dX11_ledAt_5 : decode cX11_ledAt 5 = .ok (.ifCond .ne 6, 3) := by decide +kernel
theorem dX11_ledAt_8 : decode cX11_ledAt 8 = .ok (.ldc 114, 2) := by decide +kernel
theorem dX11_ledAt_10 : decode cX11_ledAt 10 = .ok (.ireturn, 1) := by decide +kernel
theorem dX11_ledAt_11 : decode cX11_ledAt 11 = .ok (.aload_n 0, 1) := by decide +kernel
theorem dX11_ledAt_12 : decode cX11_ledAt 12 = .ok (.getfield 33, 3) := by decide +kernel
theorem dX11_ledAt_15 : decode cX11_ledAt 15 = .ok (.iload_n 1, 1) := by decide +kernel
theorem dX11_ledAt_16 : decode cX11_ledAt 16 = .ok (.baload, 1) := by decide +kernel
theorem dX11_ledAt_17 : decode cX11_ledAt 17 = .ok (.ifCond .eq 11, 3) := by decide +kernel
theorem dX11_ledAt_20 : decode cX11_ledAt 20 = .ok (.aload_n 0, 1) := by decide +kernel
theorem dX11_ledAt_21 : decode cX11_ledAt 21 = .ok (.iload_n 1, 1) := by decide +kernel
theorem dX11_ledAt_22 : decode cX11_ledAt 22 = .ok (.invokevirtual 271, 3) := by decide +kernel
theorem dX11_ledAt_25 : decode cX11_ledAt 25 = .ok (.goto 5, 3) := by decide +kernel
theorem dX11_ledAt_28 : decode cX11_ledAt 28 = .ok (.ldc 154, 2) := by decide +kernel
theorem dX11_ledAt_30 : decode cX11_ledAt 30 = .ok (.ireturn, 1) := by decide +kernel
theorem dX11_ears_0 : decode cX11_ears 0 = .ok (.aload_n 0, 1) := by decide +kernel
theorem dX11_ears_1 : decode cX11_ears 1 = .ok (.iload_n 1, 1) := by decide +kernel
theorem dX11_ears_2 : decode cX11_ears 2 = .ok (.invokevirtual 110, 3) := by decide +kernel
theorem dX11_ears_5 : decode cX11_ears 5 = .ok (.ifCond .ne 6, 3) := by decide +kernel
theorem dX11_ears_8 : decode cX11_ears 8 = .ok (.ldc 114, 2) := by decide +kernel
theorem dX11_ears_10 : decode cX11_ears 10 = .ok (.ireturn, 1) := by decide +kernel
theorem dX11_ears_11 : decode cX11_ears 11 = .ok (.iload_n 2, 1) := by decide +kernel
theorem dX11_ears_12 : decode cX11_ears 12 = .ok (.i2l, 1) := by decide +kernel
theorem dX11_ears_13 : decode cX11_ears 13 = .ok (.lconst 0, 1) := by decide +kernel
theorem dX11_ears_14 : decode cX11_ears 14 = .ok (.ldc2_w 274, 3) := by decide +kernel
theorem dX11_ears_17 : decode cX11_ears 17 = .ok (.invokestatic 82, 3) := by decide +kernel
theorem dX11_ears_20 : decode cX11_ears 20 = .ok (.ifCond .ne 6, 3) := by decide +kernel
theorem dX11_ears_23 : decode cX11_ears 23 = .ok (.ldc 109, 2) := by decide +kernel
theorem dX11_ears_25 : decode cX11_ears 25 = .ok (.ireturn, 1) := by decide +kernel
theorem dX11_ears_26 : decode cX11_ears 26 = .ok (.aload_n 0, 1) := by decide +kernel
theorem dX11_ears_27 : decode cX11_ears 27 = .ok (.getfield 20, 3) := by decide +kernel
theorem dX11_ears_30 : decode cX11_ears 30 = .ok (.iload_n 1, 1) := by decide +kernel
theorem dX11_ears_31 : decode cX11_ears 31 = .ok (.iaload, 1) := by decide +kernel
theorem dX11_ears_32 : decode cX11_ears 32 = .ok (.istore_n 3, 1) := by decide +kernel
theorem dX11_ears_33 : decode cX11_ears 33 = .ok (.aload_n 0, 1) := by decide +kernel
theorem dX11_ears_34 : decode cX11_ears 34 = .ok (.getfield 20, 3) := by decide +kernel
theorem dX11_ears_37 : decode cX11_ears 37 = .ok (.iload_n 1, 1) := by decide +kernel
theorem dX11_ears_38 : decode cX11_ears 38 = .ok (.iload_n 2, 1) := by decide +kernel
theorem dX11_ears_39 : decode cX11_ears 39 = .ok (.iastore, 1) := by decide +kernel
theorem dX11_ears_40 : decode cX11_ears 40 = .ok (.iload_n 3, 1) := by decide +kernel
theorem dX11_ears_41 : decode cX11_ears 41 = .ok (.ireturn, 1) := by decide +kernel
theorem dX11_loud_0 : decode cX11_loud 0 = .ok (.aload_n 0, 1) := by decide +kernel
theorem dX11_loud_1 : decode cX11_loud 1 = .ok (.iload_n 1, 1) := by decide +kernel
theorem dX11_loud_2 : decode cX11_loud 2 = .ok (.iload_n 2, 1) := by decide +kernel
theorem dX11_loud_3 : decode cX11_loud 3 = .ok (.invokevirtual 130, 3) := by decide +kernel
theorem dX11_loud_6 : decode cX11_loud 6 = .ok (.istore_n 3, 1) := by decide +kernel
theorem dX11_loud_7 : decode cX11_loud 7 = .ok (.aload_n 0, 1) := by decide +kernel
theorem dX11_loud_8 : decode cX11_loud 8 = .ok (.iload_n 1, 1) := by decide +kernel
theorem dX11_loud_9 : decode cX11_loud 9 = .ok (.iload_n 2, 1) := by decide +kernel
theorem dX11_loud_10 : decode cX11_loud 10 = .ok (.invokevirtual 134, 3) := by decide +kernel
theorem dX11_loud_13 : decode cX11_loud 13 = .ok (.istore 4, 2) := by decide +kernel
theorem dX11_loud_15 : decode cX11_loud 15 = .ok (.iload_n 3, 1) := by decide +kernel
theorem dX11_loud_16 : decode cX11_loud 16 = .ok (.iconst 1, 1) := by decide +kernel
theorem dX11_loud_17 : decode cX11_loud 17 = .ok (.if_icmp .gt 9, 3) := by decide +kernel
theorem dX11_loud_20 : decode cX11_loud 20 = .ok (.iload 4, 2) := by decide +kernel
theorem dX11_loud_22 : decode cX11_loud 22 = .ok (.iconst 1, 1) := by decide +kernel
theorem dX11_loud_23 : decode cX11_loud 23 = .ok (.if_icmp .le 7, 3) := by decide +kernel
theorem dX11_loud_26 : decode cX11_loud 26 = .ok (.iconst 0, 1) := by decide +kernel
theorem dX11_loud_27 : decode cX11_loud 27 = .ok (.goto 27, 3) := by decide +kernel
theorem dX11_loud_30 : decode cX11_loud 30 = .ok (.iload_n 3, 1) := by decide +kernel
theorem dX11_loud_31 : decode cX11_loud 31 = .ok (.iload 4, 2) := by decide +kernel
theorem dX11_loud_33 : decode cX11_loud 33 = .ok (.iadd, 1) := by decide +kernel
theorem dX11_loud_34 : decode cX11_loud 34 = .ok (.ifCond .ne 7, 3) := by decide +kernel
theorem dX11_loud_37 : decode cX11_loud 37 = .ok (.iconst 4, 1) := by decide +kernel
theorem dX11_loud_38 : decode cX11_loud 38 = .ok (.goto 16, 3) := by decide +kernel
theorem dX11_loud_41 : decode cX11_loud 41 = .ok (.iload_n 3, 1) := by decide +kernel
theorem dX11_loud_42 : decode cX11_loud 42 = .ok (.iload 4, 2) := by decide +kernel
theorem dX11_loud_44 : decode cX11_loud 44 = .ok (.iadd, 1) := by decide +kernel
theorem dX11_loud_45 : decode cX11_loud 45 = .ok (.iconst 1, 1) := by decide +kernel
theorem dX11_loud_46 : decode cX11_loud 46 = .ok (.if_icmp .ne 7, 3) := by decide +kernel
theorem dX11_loud_49 : decode cX11_loud 49 = .ok (.iconst 2, 1) := by decide +kernel
theorem dX11_loud_50 : decode cX11_loud 50 = .ok (.goto 4, 3) := by decide +kernel
theorem dX11_loud_53 : decode cX11_loud 53 = .ok (.iconst 1, 1) := by decide +kernel
theorem dX11_loud_54 : decode cX11_loud 54 = .ok (.ireturn, 1) := by decide +kernel
theorem dX11_noiseOf_0 : decode cX11_noiseOf 0 = .ok (.iconst 0, 1) := by decide +kernel
theorem dX11_noiseOf_1 : decode cX11_noiseOf 1 = .ok (.istore_n 2, 1) := by decide +kernel
theorem dX11_noiseOf_2 : decode cX11_noiseOf 2 = .ok (.iconst 0, 1) := by decide +kernel
theorem dX11_noiseOf_3 : decode cX11_noiseOf 3 = .ok (.istore_n 3, 1) := by decide +kernel
theorem dX11_noiseOf_4 : decode cX11_noiseOf 4 = .ok (.iload_n 3, 1) := by decide +kernel
theorem dX11_noiseOf_5 : decode cX11_noiseOf 5 = .ok (.aload_n 0, 1) := by decide +kernel
theorem dX11_noiseOf_6 : decode cX11_noiseOf 6 = .ok (.getfield 98, 3) := by decide +kernel
theorem dX11_noiseOf_9 : decode cX11_noiseOf 9 = .ok (.if_icmp .ge 76, 3) := by decide +kernel
theorem dX11_noiseOf_12 : decode cX11_noiseOf 12 = .ok (.aload_n 0, 1) := by decide +kernel
theorem dX11_noiseOf_13 : decode cX11_noiseOf 13 = .ok (.getfield 27, 3) := by decide +kernel
theorem dX11_noiseOf_16 : decode cX11_noiseOf 16 = .ok (.iload_n 3, 1) := by decide +kernel
