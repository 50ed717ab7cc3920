theorem dX10_folk_14 : decode cX10_folk 14 = .ok (.istore 4, 2) := by decide +kernel
theorem dX10_folk_16 : decode cX10_folk 16 = .ok (.iload 4, 2) := by decide +kernel
theorem dX10_folk_18 : decode cX10_folk 18 = .ok (.ifCond .ne 16, 3) := by decide +kernel
theorem dX10_folk_21 : decode cX10_folk 21 = .ok (.aload_n 0, 1) := by decide +kernel
theorem dX10_folk_22 : decode cX10_folk 22 = .ok (.getfield 10, 3) := by decide +kernel
theorem dX10_folk_25 : decode cX10_folk 25 = .ok (.iload_n 1, 1) := by decide +kernel
theorem dX10_folk_26 : decode cX10_folk 26 = .ok (.iload_n 2, 1) := by decide +kernel
theorem dX10_folk_27 : decode cX10_folk 27 = .ok (.iload_n 3, 1) := by decide +kernel
theorem dX10_folk_28 : decode cX10_folk 28 = .ok (.invokevirtual 108, 3) := by decide +kernel
theorem dX10_folk_31 : decode cX10_folk 31 = .ok (.goto 5, 3) := by decide +kernel
theorem dX10_folk_34 : decode cX10_folk 34 = .ok (.iload 4, 2) := by decide +kernel
theorem dX10_folk_36 : decode cX10_folk 36 = .ok (.ireturn, 1) := by decide +kernel
theorem dX10_rule_0 : decode cX10_rule 0 = .ok (.iload_n 1, 1) := by decide +kernel
theorem dX10_rule_1 : decode cX10_rule 1 = .ok (.ifCond .ne 21, 3) := by decide +kernel
theorem dX10_rule_4 : decode cX10_rule 4 = .ok (.iload_n 2, 1) := by decide +kernel
theorem dX10_rule_5 : decode cX10_rule 5 = .ok (.iconst 0, 1) := by decide +kernel
theorem dX10_rule_6 : decode cX10_rule 6 = .ok (.iconst 4, 1) := by decide +kernel
theorem dX10_rule_7 : decode cX10_rule 7 = .ok (.invokestatic 71, 3) := by decide +kernel
theorem dX10_rule_10 : decode cX10_rule 10 = .ok (.ifCond .eq 12, 3) := by decide +kernel
theorem dX10_rule_13 : decode cX10_rule 13 = .ok (.aload_n 0, 1) := by decide +kernel
theorem dX10_rule_14 : decode cX10_rule 14 = .ok (.getfield 10, 3) := by decide +kernel
theorem dX10_rule_17 : decode cX10_rule 17 = .ok (.iload_n 2, 1) := by decide +kernel
theorem dX10_rule_18 : decode cX10_rule 18 = .ok (.invokevirtual 111, 3) := by decide +kernel
theorem dX10_rule_21 : decode cX10_rule 21 = .ok (.ireturn, 1) := by decide +kernel
theorem dX10_rule_22 : decode cX10_rule 22 = .ok (.iload_n 1, 1) := by decide +kernel
theorem dX10_rule_23 : decode cX10_rule 23 = .ok (.iconst 1, 1) := by decide +kernel
theorem dX10_rule_24 : decode cX10_rule 24 = .ok (.if_icmp .ne 21, 3) := by decide +kernel
theorem dX10_rule_27 : decode cX10_rule 27 = .ok (.iload_n 2, 1) := by decide +kernel
theorem dX10_rule_28 : decode cX10_rule 28 = .ok (.iconst 0, 1) := by decide +kernel
theorem dX10_rule_29 : decode cX10_rule 29 = .ok (.iconst 3, 1) := by decide +kernel
theorem dX10_rule_30 : decode cX10_rule 30 = .ok (.invokestatic 71, 3) := by decide +kernel
theorem dX10_rule_33 : decode cX10_rule 33 = .ok (.ifCond .eq 12, 3) := by decide +kernel
theorem dX10_rule_36 : decode cX10_rule 36 = .ok (.aload_n 0, 1) := by decide +kernel
theorem dX10_rule_37 : decode cX10_rule 37 = .ok (.getfield 10, 3) := by decide +kernel
theorem dX10_rule_40 : decode cX10_rule 40 = .ok (.iload_n 2, 1) := by decide +kernel
theorem dX10_rule_41 : decode cX10_rule 41 = .ok (.invokevirtual 115, 3) := by decide +kernel
theorem dX10_rule_44 : decode cX10_rule 44 = .ok (.ireturn, 1) := by decide +kernel
theorem dX10_rule_45 : decode cX10_rule 45 = .ok (.ldc 75, 2) := by decide +kernel
theorem dX10_rule_47 : decode cX10_rule 47 = .ok (.ireturn, 1) := by decide +kernel
theorem dX10_down_0 : decode cX10_down 0 = .ok (.aload_n 0, 1) := by decide +kernel
theorem dX10_down_1 : decode cX10_down 1 = .ok (.iload_n 1, 1) := by decide +kernel
theorem dX10_down_2 : decode cX10_down 2 = .ok (.iload_n 2, 1) := by decide +kernel
theorem dX10_down_3 : decode cX10_down 3 = .ok (.invokevirtual 118, 3) := by decide +kernel
theorem dX10_down_6 : decode cX10_down 6 = .ok (.istore_n 3, 1) := by decide +kernel
theorem dX10_down_7 : decode cX10_down 7 = .ok (.iload_n 3, 1) := by decide +kernel
theorem dX10_down_8 : decode cX10_down 8 = .ok (.ifCond .ne 15, 3) := by decide +kernel
theorem dX10_down_11 : decode cX10_down 11 = .ok (.aload_n 0, 1) := by decide +kernel
theorem dX10_down_12 : decode cX10_down 12 = .ok (.getfield 10, 3) := by decide +kernel
theorem dX10_down_15 : decode cX10_down 15 = .ok (.iload_n 1, 1) := by decide +kernel
theorem dX10_down_16 : decode cX10_down 16 = .ok (.iload_n 2, 1) := by decide +kernel
theorem dX10_down_17 : decode cX10_down 17 = .ok (.invokevirtual 122, 3) := by decide +kernel
theorem dX10_down_20 : decode cX10_down 20 = .ok (.goto 4, 3) := by decide +kernel
theorem dX10_down_23 : decode cX10_down 23 = .ok (.iload_n 3, 1) := by decide +kernel
theorem dX10_down_24 : decode cX10_down 24 = .ok (.ireturn, 1) := by decide +kernel
theorem dX10_open_0 : decode cX10_open 0 = .ok (.aload_n 0, 1) := by decide +kernel
theorem dX10_open_1 : decode cX10_open 1 = .ok (.iload_n 1, 1) := by decide +kernel
theorem dX10_open_2 : decode cX10_open 2 = .ok (.iload_n 2, 1) := by decide +kernel
theorem dX10_open_3 : decode cX10_open 3 = .ok (.invokevirtual 118, 3) := by decide +kernel
theorem dX10_open_6 : decode cX10_open 6 = .ok (.istore_n 3, 1) := by decide +kernel
theorem dX10_open_7 : decode cX10_open 7 = .ok (.iload_n 3, 1) := by decide +kernel
theorem dX10_open_8 : decode cX10_open 8 = .ok (.ifCond .ne 22, 3) := by decide +kernel
theorem dX10_open_11 : decode cX10_open 11 = .ok (.aload_n 0, 1) := by decide +kernel
theorem dX10_open_12 : decode cX10_open 12 = .ok (.getfield 10, 3) := by decide +kernel
theorem dX10_open_15 : decode cX10_open 15 = .ok (.getfield 125, 3) := by decide +kernel
theorem dX10_open_18 : decode cX10_open 18 = .ok (.iload_n 2, 1) := by decide +kernel
theorem dX10_open_19 : decode cX10_open 19 = .ok (.laload, 1) := by decide +kernel
theorem dX10_open_20 : decode cX10_open 20 = .ok (.iload_n 1, 1) := by decide +kernel
theorem dX10_open_21 : decode cX10_open 21 = .ok (.invokestatic 129, 3) := by decide +kernel
theorem dX10_open_24 : decode cX10_open 24 = .ok (.invokestatic 133, 3) := by decide +kernel
theorem dX10_open_27 : decode cX10_open 27 = .ok (.goto 4, 3) := by decide +kernel
theorem dX10_open_30 : decode cX10_open 30 = .ok (.iload_n 3, 1) := by decide +kernel
theorem dX10_open_31 : decode cX10_open 31 = .ok (.ireturn, 1) := by decide +kernel
theorem dX10_ask_0 : decode cX10_ask 0 = .ok (.aload_n 0, 1) := by decide +kernel
theorem dX10_ask_1 : decode cX10_ask 1 = .ok (.getfield 10, 3) := by decide +kernel
theorem dX10_ask_4 : decode cX10_ask 4 = .ok (.iload_n 1, 1) := by decide +kernel
theorem dX10_ask_5 : decode cX10_ask 5 = .ok (.invokevirtual 137, 3) := by decide +kernel
theorem dX10_ask_8 : decode cX10_ask 8 = .ok (.ifCond .eq 14, 3) := by decide +kernel
theorem dX10_ask_11 : decode cX10_ask 11 = .ok (.aload_n 0, 1) := by decide +kernel
theorem dX10_ask_12 : decode cX10_ask 12 = .ok (.getfield 10, 3) := by decide +kernel
theorem dX10_ask_15 : decode cX10_ask 15 = .ok (.iload_n 2, 1) := by decide +kernel
theorem dX10_ask_16 : decode cX10_ask 16 = .ok (.invokevirtual 137, 3) := by decide +kernel
theorem dX10_ask_19 : decode cX10_ask 19 = .ok (.ifCond .ne 6, 3) := by decide +kernel
theorem dX10_ask_22 : decode cX10_ask 22 = .ok (.ldc 141, 2) := by decide +kernel
theorem dX10_ask_24 : decode cX10_ask 24 = .ok (.ireturn, 1) := by decide +kernel
theorem dX10_ask_25 : decode cX10_ask 25 = .ok (.iload_n 3, 1) := by decide +kernel
theorem dX10_ask_26 : decode cX10_ask 26 = .ok (.invokestatic 142, 3) := by decide +kernel
theorem dX10_ask_29 : decode cX10_ask 29 = .ok (.ifCond .eq 50, 3) := by decide +kernel
theorem dX10_ask_32 : decode cX10_ask 32 = .ok (.iload 4, 2) := by decide +kernel
theorem dX10_ask_34 : decode cX10_ask 34 = .ok (.invokestatic 142, 3) := by decide +kernel
theorem dX10_ask_37 : decode cX10_ask 37 = .ok (.ifCond .eq 42, 3) := by decide +kernel
theorem dX10_ask_40 : decode cX10_ask 40 = .ok (.iload_n 3, 1) := by decide +kernel
theorem dX10_ask_41 : decode cX10_ask 41 = .ok (.iload 4, 2) := by decide +kernel
theorem dX10_ask_43 : decode cX10_ask 43 = .ok (.if_icmp .ge 36, 3) := by decide +kernel
theorem dX10_ask_46 : decode cX10_ask 46 = .ok (.iload 5, 2) := by decide +kernel
theorem dX10_ask_48 : decode cX10_ask 48 = .ok (.iconst 1, 1) := by decide +kernel
theorem dX10_ask_49 : decode cX10_ask 49 = .ok (.bipush 30, 2) := by decide +kernel
theorem dX10_ask_51 : decode cX10_ask 51 = .ok (.invokestatic 71, 3) := by decide +kernel
theorem dX10_ask_54 : decode cX10_ask 54 = .ok (.ifCond .eq 25, 3) := by decide +kernel
theorem dX10_ask_57 : decode cX10_ask 57 = .ok (.iload 6, 2) := by decide +kernel
theorem dX10_ask_59 : decode cX10_ask 59 = .ok (.iconst 1, 1) := by decide +kernel
theorem dX10_ask_60 : decode cX10_ask 60 = .ok (.bipush 9, 2) := by decide +kernel
theorem dX10_ask_62 : decode cX10_ask 62 = .ok (.invokestatic 71, 3) := by decide +kernel
theorem dX10_ask_65 : decode cX10_ask 65 = .ok (.ifCond .eq 14, 3) := by decide +kernel
theorem dX10_ask_68 : decode cX10_ask 68 = .ok (.iload 7, 2) := by decide +kernel
theorem dX10_ask_70 : decode cX10_ask 70 = .ok (.iconst 1, 1) := by decide +kernel
theorem dX10_ask_71 : decode cX10_ask 71 = .ok (.bipush 9, 2) := by decide +kernel
theorem dX10_ask_73 : decode cX10_ask 73 = .ok (.invokestatic 71, 3) := by decide +kernel
theorem dX10_ask_76 : decode cX10_ask 76 = .ok (.ifCond .ne 6, 3) := by decide +kernel
theorem dX10_ask_79 : decode cX10_ask 79 = .ok (.ldc 75, 2) := by decide +kernel
theorem dX10_ask_81 : decode cX10_ask 81 = .ok (.ireturn, 1) := by decide +kernel
theorem dX10_ask_82 : decode cX10_ask 82 = .ok (.iload_n 1, 1) := by decide +kernel
theorem dX10_ask_83 : decode cX10_ask 83 = .ok (.iload_n 2, 1) := by decide +kernel
theorem dX10_ask_84 : decode cX10_ask 84 = .ok (.if_icmp .ne 6, 3) := by decide +kernel
theorem dX10_ask_87 : decode cX10_ask 87 = .ok (.ldc 145, 2) := by decide +kernel
theorem dX10_ask_89 : decode cX10_ask 89 = .ok (.ireturn, 1) := by decide +kernel
theorem dX10_ask_90 : decode cX10_ask 90 = .ok (.aload_n 0, 1) := by decide +kernel
theorem dX10_ask_91 : decode cX10_ask 91 = .ok (.getfield 19, 3) := by decide +kernel
theorem dX10_ask_94 : decode cX10_ask 94 = .ok (.invokevirtual 146, 3) := by decide +kernel
theorem dX10_ask_97 : decode cX10_ask 97 = .ok (.ifCond .eq 6, 3) := by decide +kernel
theorem dX10_ask_100 : decode cX10_ask 100 = .ok (.ldc 150, 2) := by decide +kernel
theorem dX10_ask_102 : decode cX10_ask 102 = .ok (.ireturn, 1) := by decide +kernel
theorem dX10_ask_103 : decode cX10_ask 103 = .ok (.aload_n 0, 1) := by decide +kernel
theorem dX10_ask_104 : decode cX10_ask 104 = .ok (.getfield 19, 3) := by decide +kernel
theorem dX10_ask_107 : decode cX10_ask 107 = .ok (.invokevirtual 151, 3) := by decide +kernel
theorem dX10_ask_110 : decode cX10_ask 110 = .ok (.astore 8, 2) := by decide +kernel
theorem dX10_ask_112 : decode cX10_ask 112 = .ok (.aload 8, 2) := by decide +kernel
theorem dX10_ask_114 : decode cX10_ask 114 = .ok (.iload_n 1, 1) := by decide +kernel
theorem dX10_ask_115 : decode cX10_ask 115 = .ok (.iload_n 2, 1) := by decide +kernel
theorem dX10_ask_116 : decode cX10_ask 116 = .ok (.invokevirtual 155, 3) := by decide +kernel
theorem dX10_ask_119 : decode cX10_ask 119 = .ok (.aload 8, 2) := by decide +kernel
theorem dX10_ask_121 : decode cX10_ask 121 = .ok (.iload_n 3, 1) := by decide +kernel
theorem dX10_ask_122 : decode cX10_ask 122 = .ok (.iload 4, 2) := by decide +kernel
theorem dX10_ask_124 : decode cX10_ask 124 = .ok (.invokevirtual 160, 3) := by decide +kernel
theorem dX10_ask_127 : decode cX10_ask 127 = .ok (.aload 8, 2) := by decide +kernel
theorem dX10_ask_129 : decode cX10_ask 129 = .ok (.iload 5, 2) := by decide +kernel
theorem dX10_ask_131 : decode cX10_ask 131 = .ok (.iload 6, 2) := by decide +kernel
theorem dX10_ask_133 : decode cX10_ask 133 = .ok (.iload 7, 2) := by decide +kernel
theorem dX10_ask_135 : decode cX10_ask 135 = .ok (.invokevirtual 163, 3) := by decide +kernel
theorem dX10_ask_138 : decode cX10_ask 138 = .ok (.aload_n 0, 1) := by decide +kernel
theorem dX10_ask_139 : decode cX10_ask 139 = .ok (.getfield 19, 3) := by decide +kernel
theorem dX10_ask_142 : decode cX10_ask 142 = .ok (.getfield 80, 3) := by decide +kernel
theorem dX10_ask_145 : decode cX10_ask 145 = .ok (.iconst 1, 1) := by decide +kernel
theorem dX10_ask_146 : decode cX10_ask 146 = .ok (.isub, 1) := by decide +kernel
theorem dX10_ask_147 : decode cX10_ask 147 = .ok (.ireturn, 1) := by decide +kernel
theorem dX10_about_0 : decode cX10_about 0 = .ok (.aload_n 0, 1) := by decide +kernel
theorem dX10_about_1 : decode cX10_about 1 = .ok (.getfield 19, 3) := by decide +kernel
theorem dX10_about_4 : decode cX10_about 4 = .ok (.iload_n 1, 1) := by decide +kernel
theorem dX10_about_5 : decode cX10_about 5 = .ok (.invokevirtual 167, 3) := by decide +kernel
theorem dX10_about_8 : decode cX10_about 8 = .ok (.ifCond .ne 6, 3) := by decide +kernel
theorem dX10_about_11 : decode cX10_about 11 = .ok (.ldc 141, 2) := by decide +kernel
theorem dX10_about_13 : decode cX10_about 13 = .ok (.ireturn, 1) := by decide +kernel
theorem dX10_about_14 : decode cX10_about 14 = .ok (.aload_n 0, 1) := by decide +kernel
theorem dX10_about_15 : decode cX10_about 15 = .ok (.getfield 19, 3) := by decide +kernel
theorem dX10_about_18 : decode cX10_about 18 = .ok (.getfield 170, 3) := by decide +kernel
theorem dX10_about_21 : decode cX10_about 21 = .ok (.iload_n 1, 1) := by decide +kernel
theorem dX10_about_22 : decode cX10_about 22 = .ok (.aaload, 1) := by decide +kernel
theorem dX10_about_23 : decode cX10_about 23 = .ok (.astore_n 3, 1) := by decide +kernel
theorem dX10_about_24 : decode cX10_about 24 = .ok (.iload_n 2, 1) := by decide +kernel
theorem dX10_about_25 : decode cX10_about 25 = .ok (.tableswitch 90 0 7 #[47, 52, 57, 62, 67, 72, 77, 82], 47) := by decide +kernel
theorem dX10_about_72 : decode cX10_about 72 = .ok (.aload_n 3, 1) := by decide +kernel
theorem dX10_about_73 : decode cX10_about 73 = .ok (.getfield 174, 3) := by decide +kernel
theorem dX10_about_76 : decode cX10_about 76 = .ok (.ireturn, 1) := by decide +kernel
theorem dX10_about_77 : decode cX10_about 77 = .ok (.aload_n 3, 1) := by decide +kernel
theorem dX10_about_78 : decode cX10_about 78 = .ok (.getfield 177, 3) := by decide +kernel
theorem dX10_about_81 : decode cX10_about 81 = .ok (.ireturn, 1) := by decide +kernel
theorem dX10_about_82 : decode cX10_about 82 = .ok (.aload_n 3, 1) := by decide +kernel
theorem dX10_about_83 : decode cX10_about 83 = .ok (.getfield 180, 3) := by decide +kernel
theorem dX10_about_86 : decode cX10_about 86 = .ok (.ireturn, 1) := by decide +kernel
theorem dX10_about_87 : decode cX10_about 87 = .ok (.aload_n 3, 1) := by decide +kernel
theorem dX10_about_88 : decode cX10_about 88 = .ok (.getfield 183, 3) := by decide +kernel
theorem dX10_about_91 : decode cX10_about 91 = .ok (.ireturn, 1) := by decide +kernel
theorem dX10_about_92 : decode cX10_about 92 = .ok (.aload_n 3, 1) := by decide +kernel
theorem dX10_about_93 : decode cX10_about 93 = .ok (.getfield 186, 3) := by decide +kernel
theorem dX10_about_96 : decode cX10_about 96 = .ok (.ireturn, 1) := by decide +kernel
theorem dX10_about_97 : decode cX10_about 97 = .ok (.aload_n 3, 1) := by decide +kernel
theorem dX10_about_98 : decode cX10_about 98 = .ok (.getfield 189, 3) := by decide +kernel
theorem dX10_about_101 : decode cX10_about 101 = .ok (.ireturn, 1) := by decide +kernel
theorem dX10_about_102 : decode cX10_about 102 = .ok (.aload_n 3, 1) := by decide +kernel
theorem dX10_about_103 : decode cX10_about 103 = .ok (.getfield 192, 3) := by decide +kernel
theorem dX10_about_106 : decode cX10_about 106 = .ok (.ireturn, 1) := by decide +kernel
theorem dX10_about_107 : decode cX10_about 107 = .ok (.aload_n 3, 1) := by decide +kernel
theorem dX10_about_108 : decode cX10_about 108 = .ok (.getfield 195, 3) := by decide +kernel
theorem dX10_about_111 : decode cX10_about 111 = .ok (.invokestatic 133, 3) := by decide +kernel
theorem dX10_about_114 : decode cX10_about 114 = .ok (.ireturn, 1) := by decide +kernel
theorem dX10_about_115 : decode cX10_about 115 = .ok (.ldc 75, 2) := by decide +kernel
theorem dX10_about_117 : decode cX10_about 117 = .ok (.ireturn, 1) := by decide +kernel
theorem dX10_soonest_0 : decode cX10_soonest 0 = .ok (.aload_n 0, 1) := by decide +kernel
theorem dX10_soonest_1 : decode cX10_soonest 1 = .ok (.iload_n 1, 1) := by decide +kernel
theorem dX10_soonest_2 : decode cX10_soonest 2 = .ok (.invokevirtual 198, 3) := by decide +kernel
theorem dX10_soonest_5 : decode cX10_soonest 5 = .ok (.istore_n 2, 1) := by decide +kernel
theorem dX10_soonest_6 : decode cX10_soonest 6 = .ok (.iload_n 2, 1) := by decide +kernel
theorem dX10_soonest_7 : decode cX10_soonest 7 = .ok (.ifCond .ne 19, 3) := by decide +kernel
theorem dX10_soonest_10 : decode cX10_soonest 10 = .ok (.aload_n 0, 1) := by decide +kernel
theorem dX10_soonest_11 : decode cX10_soonest 11 = .ok (.aload_n 0, 1) := by decide +kernel
theorem dX10_soonest_12 : decode cX10_soonest 12 = .ok (.getfield 19, 3) := by decide +kernel
theorem dX10_soonest_15 : decode cX10_soonest 15 = .ok (.getfield 170, 3) := by decide +kernel
theorem dX10_soonest_18 : decode cX10_soonest 18 = .ok (.iload_n 1, 1) := by decide +kernel
theorem dX10_soonest_19 : decode cX10_soonest 19 = .ok (.aaload, 1) := by decide +kernel
theorem dX10_soonest_20 : decode cX10_soonest 20 = .ok (.invokevirtual 201, 3) := by decide +kernel
theorem dX10_soonest_23 : decode cX10_soonest 23 = .ok (.goto 4, 3) := by decide +kernel
theorem dX10_soonest_26 : decode cX10_soonest 26 = .ok (.iload_n 2, 1) := by decide +kernel
theorem dX10_soonest_27 : decode cX10_soonest 27 = .ok (.ireturn, 1) := by decide +kernel
theorem dX10_soonestAt_0 : decode cX10_soonestAt 0 = .ok (.aload_n 0, 1) := by decide +kernel
theorem dX10_soonestAt_1 : decode cX10_soonestAt 1 = .ok (.iload_n 1, 1) := by decide +kernel
theorem dX10_soonestAt_2 : decode cX10_soonestAt 2 = .ok (.iload_n 2, 1) := by decide +kernel
theorem dX10_soonestAt_3 : decode cX10_soonestAt 3 = .ok (.invokevirtual 205, 3) := by decide +kernel
theorem dX10_soonestAt_6 : decode cX10_soonestAt 6 = .ok (.istore 4, 2) := by decide +kernel
theorem dX10_soonestAt_8 : decode cX10_soonestAt 8 = .ok (.iload 4, 2) := by decide +kernel
theorem dX10_soonestAt_10 : decode cX10_soonestAt 10 = .ok (.ifCond .eq 6, 3) := by decide +kernel
theorem dX10_soonestAt_13 : decode cX10_soonestAt 13 = .ok (.iload 4, 2) := by decide +kernel
theorem dX10_soonestAt_15 : decode cX10_soonestAt 15 = .ok (.ireturn, 1) := by decide +kernel
theorem dX10_soonestAt_16 : decode cX10_soonestAt 16 = .ok (.aload_n 0, 1) := by decide +kernel
theorem dX10_soonestAt_17 : decode cX10_soonestAt 17 = .ok (.getfield 19, 3) := by decide +kernel
theorem dX10_soonestAt_20 : decode cX10_soonestAt 20 = .ok (.getfield 170, 3) := by decide +kernel
theorem dX10_soonestAt_23 : decode cX10_soonestAt 23 = .ok (.iload_n 1, 1) := by decide +kernel
theorem dX10_soonestAt_24 : decode cX10_soonestAt 24 = .ok (.aaload, 1) := by decide +kernel
theorem dX10_soonestAt_25 : decode cX10_soonestAt 25 = .ok (.astore 5, 2) := by decide +kernel
theorem dX10_soonestAt_27 : decode cX10_soonestAt 27 = .ok (.aload_n 0, 1) := by decide +kernel
theorem dX10_soonestAt_28 : decode cX10_soonestAt 28 = .ok (.getfield 35, 3) := by decide +kernel
theorem dX10_soonestAt_31 : decode cX10_soonestAt 31 = .ok (.aload 5, 2) := by decide +kernel
theorem dX10_soonestAt_33 : decode cX10_soonestAt 33 = .ok (.invokevirtual 208, 3) := by decide +kernel
theorem dX10_soonestAt_36 : decode cX10_soonestAt 36 = .ok (.ifCond .eq 16, 3) := by decide +kernel
theorem dX10_soonestAt_39 : decode cX10_soonestAt 39 = .ok (.aload 5, 2) := by decide +kernel
theorem dX10_soonestAt_41 : decode cX10_soonestAt 41 = .ok (.getfield 212, 3) := by decide +kernel
theorem dX10_soonestAt_44 : decode cX10_soonestAt 44 = .ok (.iload_n 2, 1) := by decide +kernel
theorem dX10_soonestAt_45 : decode cX10_soonestAt 45 = .ok (.iload_n 3, 1) := by decide +kernel
theorem dX10_soonestAt_46 : decode cX10_soonestAt 46 = .ok (.invokevirtual 216, 3) := by decide +kernel
theorem dX10_soonestAt_49 : decode cX10_soonestAt 49 = .ok (.goto 5, 3) := by decide +kernel
theorem dX10_soonestAt_52 : decode cX10_soonestAt 52 = .ok (.ldc 221, 2) := by decide +kernel
theorem dX10_soonestAt_54 : decode cX10_soonestAt 54 = .ok (.ireturn, 1) := by decide +kernel
theorem dX10_give_0 : decode cX10_give 0 = .ok (.aload_n 0, 1) := by decide +kernel
theorem dX10_give_1 : decode cX10_give 1 = .ok (.iload_n 1, 1) := by decide +kernel
theorem dX10_give_2 : decode cX10_give 2 = .ok (.invokevirtual 198, 3) := by decide +kernel
theorem dX10_give_5 : decode cX10_give 5 = .ok (.istore_n 2, 1) := by decide +kernel
theorem dX10_give_6 : decode cX10_give 6 = .ok (.iload_n 2, 1) := by decide +kernel
theorem dX10_give_7 : decode cX10_give 7 = .ok (.ifCond .eq 5, 3) := by decide +kernel
theorem dX10_give_10 : decode cX10_give 10 = .ok (.iload_n 2, 1) := by decide +kernel
theorem dX10_give_11 : decode cX10_give 11 = .ok (.ireturn, 1) := by decide +kernel
theorem dX10_give_12 : decode cX10_give 12 = .ok (.aload_n 0, 1) := by decide +kernel
theorem dX10_give_13 : decode cX10_give 13 = .ok (.getfield 19, 3) := by decide +kernel
theorem dX10_give_16 : decode cX10_give 16 = .ok (.getfield 170, 3) := by decide +kernel
theorem dX10_give_19 : decode cX10_give 19 = .ok (.iload_n 1, 1) := by decide +kernel
theorem dX10_give_20 : decode cX10_give 20 = .ok (.aaload, 1) := by decide +kernel
theorem dX10_give_21 : decode cX10_give 21 = .ok (.astore_n 3, 1) := by decide +kernel
theorem dX10_give_22 : decode cX10_give 22 = .ok (.aload_n 3, 1) := by decide +kernel
theorem dX10_give_23 : decode cX10_give 23 = .ok (.aload_n 0, 1) := by decide +kernel
theorem dX10_give_24 : decode cX10_give 24 = .ok (.getfield 35, 3) := by decide +kernel
theorem dX10_give_27 : decode cX10_give 27 = .ok (.aload_n 3, 1) := by decide +kernel
theorem dX10_give_28 : decode cX10_give 28 = .ok (.invokevirtual 208, 3) := by decide +kernel
theorem dX10_give_31 : decode cX10_give 31 = .ok (.invokestatic 222, 3) := by decide +kernel
theorem dX10_give_34 : decode cX10_give 34 = .ok (.ireturn, 1) := by decide +kernel
theorem dX10_giveQuiet_0 : decode cX10_giveQuiet 0 = .ok (.aload_n 0, 1) := by decide +kernel
theorem dX10_giveQuiet_1 : decode cX10_giveQuiet 1 = .ok (.iload_n 1, 1) := by decide +kernel
theorem dX10_giveQuiet_2 : decode cX10_giveQuiet 2 = .ok (.invokevirtual 198, 3) := by decide +kernel
theorem dX10_giveQuiet_5 : decode cX10_giveQuiet 5 = .ok (.istore_n 2, 1) := by decide +kernel
theorem dX10_giveQuiet_6 : decode cX10_giveQuiet 6 = .ok (.iload_n 2, 1) := by decide +kernel
theorem dX10_giveQuiet_7 : decode cX10_giveQuiet 7 = .ok (.ifCond .eq 5, 3) := by decide +kernel
theorem dX10_giveQuiet_10 : decode cX10_giveQuiet 10 = .ok (.iload_n 2, 1) := by decide +kernel
theorem dX10_giveQuiet_11 : decode cX10_giveQuiet 11 = .ok (.ireturn, 1) := by decide +kernel
theorem dX10_giveQuiet_12 : decode cX10_giveQuiet 12 = .ok (.aload_n 0, 1) := by decide +kernel
theorem dX10_giveQuiet_13 : decode cX10_giveQuiet 13 = .ok (.getfield 19, 3) := by decide +kernel
theorem dX10_giveQuiet_16 : decode cX10_giveQuiet 16 = .ok (.getfield 170, 3) := by decide +kernel
theorem dX10_giveQuiet_19 : decode cX10_giveQuiet 19 = .ok (.iload_n 1, 1) := by decide +kernel
theorem dX10_giveQuiet_20 : decode cX10_giveQuiet 20 = .ok (.aaload, 1) := by decide +kernel
theorem dX10_giveQuiet_21 : decode cX10_giveQuiet 21 = .ok (.astore_n 3, 1) := by decide +kernel
theorem dX10_giveQuiet_22 : decode cX10_giveQuiet 22 = .ok (.aload_n 3, 1) := by decide +kernel
theorem dX10_giveQuiet_23 : decode cX10_giveQuiet 23 = .ok (.aload_n 0, 1) := by decide +kernel
theorem dX10_giveQuiet_24 : decode cX10_giveQuiet 24 = .ok (.getfield 44, 3) := by decide +kernel
theorem dX10_giveQuiet_27 : decode cX10_giveQuiet 27 = .ok (.aload_n 3, 1) := by decide +kernel
theorem dX10_giveQuiet_28 : decode cX10_giveQuiet 28 = .ok (.invokevirtual 226, 3) := by decide +kernel
theorem dX10_giveQuiet_31 : decode cX10_giveQuiet 31 = .ok (.invokestatic 222, 3) := by decide +kernel
theorem dX10_giveQuiet_34 : decode cX10_giveQuiet 34 = .ok (.ireturn, 1) := by decide +kernel
theorem dX10_take_0 : decode cX10_take 0 = .ok (.aload_n 0, 1) := by decide +kernel
theorem dX10_take_1 : decode cX10_take 1 = .ok (.iload_n 1, 1) := by decide +kernel
theorem dX10_take_2 : decode cX10_take 2 = .ok (.invokevirtual 229, 3) := by decide +kernel
theorem dX10_take_5 : decode cX10_take 5 = .ok (.istore_n 2, 1) := by decide +kernel
theorem dX10_take_6 : decode cX10_take 6 = .ok (.iload_n 2, 1) := by decide +kernel
theorem dX10_take_7 : decode cX10_take 7 = .ok (.ifCond .eq 5, 3) := by decide +kernel
theorem dX10_take_10 : decode cX10_take 10 = .ok (.iload_n 2, 1) := by decide +kernel
theorem dX10_take_11 : decode cX10_take 11 = .ok (.ireturn, 1) := by decide +kernel
theorem dX10_take_12 : decode cX10_take 12 = .ok (.aload_n 0, 1) := by decide +kernel
theorem dX10_take_13 : decode cX10_take 13 = .ok (.getfield 19, 3) := by decide +kernel
theorem dX10_take_16 : decode cX10_take 16 = .ok (.getfield 170, 3) := by decide +kernel
theorem dX10_take_19 : decode cX10_take 19 = .ok (.iload_n 1, 1) := by decide +kernel
theorem dX10_take_20 : decode cX10_take 20 = .ok (.aaload, 1) := by decide +kernel
theorem dX10_take_21 : decode cX10_take 21 = .ok (.astore_n 3, 1) := by decide +kernel
theorem dX10_take_22 : decode cX10_take 22 = .ok (.aload_n 3, 1) := by decide +kernel
theorem dX10_take_23 : decode cX10_take 23 = .ok (.iconst 0, 1) := by decide +kernel
theorem dX10_take_24 : decode cX10_take 24 = .ok (.putfield 195, 3) := by decide +kernel
theorem dX10_take_27 : decode cX10_take 27 = .ok (.aload_n 3, 1) := by decide +kernel
theorem dX10_take_28 : decode cX10_take 28 = .ok (.getfield 212, 3) := by decide +kernel
theorem dX10_take_31 : decode cX10_take 31 = .ok (.getfield 232, 3) := by decide +kernel
theorem dX10_take_34 : decode cX10_take 34 = .ok (.ireturn, 1) := by decide +kernel
theorem dX10_where_0 : decode cX10_where 0 = .ok (.aload_n 0, 1) := by decide +kernel
theorem dX10_where_1 : decode cX10_where 1 = .ok (.getfield 19, 3) := by decide +kernel
theorem dX10_where_4 : decode cX10_where 4 = .ok (.iload_n 1, 1) := by decide +kernel
theorem dX10_where_5 : decode cX10_where 5 = .ok (.invokevirtual 167, 3) := by decide +kernel
theorem dX10_where_8 : decode cX10_where 8 = .ok (.ifCond .ne 6, 3) := by decide +kernel
theorem dX10_where_11 : decode cX10_where 11 = .ok (.ldc 141, 2) := by decide +kernel
theorem dX10_where_13 : decode cX10_where 13 = .ok (.ireturn, 1) := by decide +kernel
theorem dX10_where_14 : decode cX10_where 14 = .ok (.iload_n 2, 1) := by decide +kernel
theorem dX10_where_15 : decode cX10_where 15 = .ok (.invokestatic 142, 3) := by decide +kernel
theorem dX10_where_18 : decode cX10_where 18 = .ok (.ifCond .ne 6, 3) := by decide +kernel
theorem dX10_where_21 : decode cX10_where 21 = .ok (.ldc 75, 2) := by decide +kernel
theorem dX10_where_23 : decode cX10_where 23 = .ok (.ireturn, 1) := by decide +kernel
theorem dX10_where_24 : decode cX10_where 24 = .ok (.aload_n 0, 1) := by decide +kernel
theorem dX10_where_25 : decode cX10_where 25 = .ok (.getfield 19, 3) := by decide +kernel
theorem dX10_where_28 : decode cX10_where 28 = .ok (.getfield 170, 3) := by decide +kernel
theorem dX10_where_31 : decode cX10_where 31 = .ok (.iload_n 1, 1) := by decide +kernel
theorem dX10_where_32 : decode cX10_where 32 = .ok (.aaload, 1) := by decide +kernel
theorem dX10_where_33 : decode cX10_where 33 = .ok (.astore_n 3, 1) := by decide +kernel
theorem dX10_where_34 : decode cX10_where 34 = .ok (.aload_n 3, 1) := by decide +kernel
theorem dX10_where_35 : decode cX10_where 35 = .ok (.getfield 195, 3) := by decide +kernel
theorem dX10_where_38 : decode cX10_where 38 = .ok (.ifCond .ne 6, 3) := by decide +kernel
theorem dX10_where_41 : decode cX10_where 41 = .ok (.ldc 145, 2) := by decide +kernel
theorem dX10_where_43 : decode cX10_where 43 = .ok (.ireturn, 1) := by decide +kernel
theorem dX10_where_44 : decode cX10_where 44 = .ok (.aload_n 3, 1) := by decide +kernel
theorem dX10_where_45 : decode cX10_where 45 = .ok (.getfield 212, 3) := by decide +kernel
theorem dX10_where_48 : decode cX10_where 48 = .ok (.iload_n 2, 1) := by decide +kernel
theorem dX10_where_49 : decode cX10_where 49 = .ok (.invokevirtual 235, 3) := by decide +kernel
theorem dX10_where_52 : decode cX10_where 52 = .ok (.istore 4, 2) := by decide +kernel
theorem dX10_where_54 : decode cX10_where 54 = .ok (.iload 4, 2) := by decide +kernel
theorem dX10_where_56 : decode cX10_where 56 = .ok (.iconst (-1), 1) := by decide +kernel
theorem dX10_where_57 : decode cX10_where 57 = .ok (.if_icmp .ne 8, 3) := by decide +kernel
theorem dX10_where_60 : decode cX10_where 60 = .ok (.ldc 221, 2) := by decide +kernel
theorem dX10_where_62 : decode cX10_where 62 = .ok (.goto 5, 3) := by decide +kernel
theorem dX10_where_65 : decode cX10_where 65 = .ok (.iload 4, 2) := by decide +kernel
theorem dX10_where_67 : decode cX10_where 67 = .ok (.ireturn, 1) := by decide +kernel
theorem dX10_meet_0 : decode cX10_meet 0 = .ok (.aload_n 0, 1) := by decide +kernel
theorem dX10_meet_1 : decode cX10_meet 1 = .ok (.getfield 19, 3) := by decide +kernel
theorem dX10_meet_4 : decode cX10_meet 4 = .ok (.iload_n 1, 1) := by decide +kernel
theorem dX10_meet_5 : decode cX10_meet 5 = .ok (.invokevirtual 167, 3) := by decide +kernel
theorem dX10_meet_8 : decode cX10_meet 8 = .ok (.ifCond .eq 14, 3) := by decide +kernel
theorem dX10_meet_11 : decode cX10_meet 11 = .ok (.aload_n 0, 1) := by decide +kernel
theorem dX10_meet_12 : decode cX10_meet 12 = .ok (.getfield 19, 3) := by decide +kernel
theorem dX10_meet_15 : decode cX10_meet 15 = .ok (.iload_n 2, 1) := by decide +kernel
theorem dX10_meet_16 : decode cX10_meet 16 = .ok (.invokevirtual 167, 3) := by decide +kernel
theorem dX10_meet_19 : decode cX10_meet 19 = .ok (.ifCond .ne 6, 3) := by decide +kernel
theorem dX10_meet_22 : decode cX10_meet 22 = .ok (.ldc 141, 2) := by decide +kernel
theorem dX10_meet_24 : decode cX10_meet 24 = .ok (.ireturn, 1) := by decide +kernel
theorem dX10_meet_25 : decode cX10_meet 25 = .ok (.iload_n 3, 1) := by decide +kernel
theorem dX10_meet_26 : decode cX10_meet 26 = .ok (.iconst 0, 1) := by decide +kernel
theorem dX10_meet_27 : decode cX10_meet 27 = .ok (.iconst 3, 1) := by decide +kernel
theorem dX10_meet_28 : decode cX10_meet 28 = .ok (.invokestatic 71, 3) := by decide +kernel
theorem dX10_meet_31 : decode cX10_meet 31 = .ok (.ifCond .ne 6, 3) := by decide +kernel
theorem dX10_meet_34 : decode cX10_meet 34 = .ok (.ldc 75, 2) := by decide +kernel
theorem dX10_meet_36 : decode cX10_meet 36 = .ok (.ireturn, 1) := by decide +kernel
theorem dX10_meet_37 : decode cX10_meet 37 = .ok (.aload_n 0, 1) := by decide +kernel
theorem dX10_meet_38 : decode cX10_meet 38 = .ok (.getfield 19, 3) := by decide +kernel
theorem dX10_meet_41 : decode cX10_meet 41 = .ok (.getfield 170, 3) := by decide +kernel
theorem dX10_meet_44 : decode cX10_meet 44 = .ok (.iload_n 1, 1) := by decide +kernel
theorem dX10_meet_45 : decode cX10_meet 45 = .ok (.aaload, 1) := by decide +kernel
theorem dX10_meet_46 : decode cX10_meet 46 = .ok (.astore 4, 2) := by decide +kernel
theorem dX10_meet_48 : decode cX10_meet 48 = .ok (.aload_n 0, 1) := by decide +kernel
theorem dX10_meet_49 : decode cX10_meet 49 = .ok (.getfield 19, 3) := by decide +kernel
theorem dX10_meet_52 : decode cX10_meet 52 = .ok (.getfield 170, 3) := by decide +kernel
theorem dX10_meet_55 : decode cX10_meet 55 = .ok (.iload_n 2, 1) := by decide +kernel
theorem dX10_meet_56 : decode cX10_meet 56 = .ok (.aaload, 1) := by decide +kernel
theorem dX10_meet_57 : decode cX10_meet 57 = .ok (.astore 5, 2) := by decide +kernel
theorem dX10_meet_59 : decode cX10_meet 59 = .ok (.aload 4, 2) := by decide +kernel
theorem dX10_meet_61 : decode cX10_meet 61 = .ok (.getfield 195, 3) := by decide +kernel
theorem dX10_meet_64 : decode cX10_meet 64 = .ok (.ifCond .eq 11, 3) := by decide +kernel
theorem dX10_meet_67 : decode cX10_meet 67 = .ok (.aload 5, 2) := by decide +kernel
theorem dX10_meet_69 : decode cX10_meet 69 = .ok (.getfield 195, 3) := by decide +kernel
theorem dX10_meet_72 : decode cX10_meet 72 = .ok (.ifCond .ne 6, 3) := by decide +kernel
theorem dX10_meet_75 : decode cX10_meet 75 = .ok (.ldc 145, 2) := by decide +kernel
theorem dX10_meet_77 : decode cX10_meet 77 = .ok (.ireturn, 1) := by decide +kernel
theorem dX10_meet_78 : decode cX10_meet 78 = .ok (.aload_n 0, 1) := by decide +kernel
theorem dX10_meet_79 : decode cX10_meet 79 = .ok (.getfield 35, 3) := by decide +kernel
theorem dX10_meet_82 : decode cX10_meet 82 = .ok (.aload 4, 2) := by decide +kernel
theorem dX10_meet_84 : decode cX10_meet 84 = .ok (.getfield 212, 3) := by decide +kernel
theorem dX10_meet_87 : decode cX10_meet 87 = .ok (.aload 5, 2) := by decide +kernel
theorem dX10_meet_89 : decode cX10_meet 89 = .ok (.getfield 212, 3) := by decide +kernel
theorem dX10_meet_92 : decode cX10_meet 92 = .ok (.iload_n 3, 1) := by decide +kernel
theorem dX10_meet_93 : decode cX10_meet 93 = .ok (.invokevirtual 238, 3) := by decide +kernel
theorem dX10_meet_96 : decode cX10_meet 96 = .ok (.invokestatic 133, 3) := by decide +kernel
theorem dX10_meet_99 : decode cX10_meet 99 = .ok (.ireturn, 1) := by decide +kernel
theorem dX10_bars_0 : decode cX10_bars 0 = .ok (.aload_n 0, 1) := by decide +kernel
theorem dX10_bars_1 : decode cX10_bars 1 = .ok (.iload_n 1, 1) := by decide +kernel
theorem dX10_bars_2 : decode cX10_bars 2 = .ok (.invokevirtual 198, 3) := by decide +kernel
theorem dX10_bars_5 : decode cX10_bars 5 = .ok (.istore_n 2, 1) := by decide +kernel
theorem dX10_bars_6 : decode cX10_bars 6 = .ok (.iload_n 2, 1) := by decide +kernel
theorem dX10_bars_7 : decode cX10_bars 7 = .ok (.ifCond .eq 5, 3) := by decide +kernel
theorem dX10_bars_10 : decode cX10_bars 10 = .ok (.iload_n 2, 1) := by decide +kernel
theorem dX10_bars_11 : decode cX10_bars 11 = .ok (.ireturn, 1) := by decide +kernel
theorem dX10_bars_12 : decode cX10_bars 12 = .ok (.aload_n 0, 1) := by decide +kernel
theorem dX10_bars_13 : decode cX10_bars 13 = .ok (.getfield 53, 3) := by decide +kernel
theorem dX10_bars_16 : decode cX10_bars 16 = .ok (.aload_n 0, 1) := by decide +kernel
theorem dX10_bars_17 : decode cX10_bars 17 = .ok (.getfield 19, 3) := by decide +kernel
theorem dX10_bars_20 : decode cX10_bars 20 = .ok (.getfield 170, 3) := by decide +kernel
theorem dX10_bars_23 : decode cX10_bars 23 = .ok (.iload_n 1, 1) := by decide +kernel
theorem dX10_bars_24 : decode cX10_bars 24 = .ok (.aaload, 1) := by decide +kernel
theorem dX10_bars_25 : decode cX10_bars 25 = .ok (.invokevirtual 242, 3) := by decide +kernel
theorem dX10_bars_28 : decode cX10_bars 28 = .ok (.ifCond .eq 13, 3) := by decide +kernel
theorem dX10_bars_31 : decode cX10_bars 31 = .ok (.aload_n 0, 1) := by decide +kernel
theorem dX10_bars_32 : decode cX10_bars 32 = .ok (.getfield 53, 3) := by decide +kernel
theorem dX10_bars_35 : decode cX10_bars 35 = .ok (.getfield 245, 3) := by decide +kernel
theorem dX10_bars_38 : decode cX10_bars 38 = .ok (.goto 5, 3) := by decide +kernel
theorem dX10_bars_41 : decode cX10_bars 41 = .ok (.ldc 221, 2) := by decide +kernel
theorem dX10_bars_43 : decode cX10_bars 43 = .ok (.ireturn, 1) := by decide +kernel
theorem dX10_bar_0 : decode cX10_bar 0 = .ok (.aload_n 0, 1) := by decide +kernel
theorem dX10_bar_1 : decode cX10_bar 1 = .ok (.iload_n 1, 1) := by decide +kernel
theorem dX10_bar_2 : decode cX10_bar 2 = .ok (.invokevirtual 198, 3) := by decide +kernel
theorem dX10_bar_5 : decode cX10_bar 5 = .ok (.istore_n 3, 1) := by decide +kernel
theorem dX10_bar_6 : decode cX10_bar 6 = .ok (.iload_n 3, 1) := by decide +kernel
theorem dX10_bar_7 : decode cX10_bar 7 = .ok (.ifCond .eq 5, 3) := by decide +kernel
theorem dX10_bar_10 : decode cX10_bar 10 = .ok (.iload_n 3, 1) := by decide +kernel
theorem dX10_bar_11 : decode cX10_bar 11 = .ok (.ireturn, 1) := by decide +kernel
theorem dX10_bar_12 : decode cX10_bar 12 = .ok (.aload_n 0, 1) := by decide +kernel
theorem dX10_bar_13 : decode cX10_bar 13 = .ok (.getfield 53, 3) := by decide +kernel
theorem dX10_bar_16 : decode cX10_bar 16 = .ok (.aload_n 0, 1) := by decide +kernel
theorem dX10_bar_17 : decode cX10_bar 17 = .ok (.getfield 19, 3) := by decide +kernel
theorem dX10_bar_20 : decode cX10_bar 20 = .ok (.getfield 170, 3) := by decide +kernel
theorem dX10_bar_23 : decode cX10_bar 23 = .ok (.iload_n 1, 1) := by decide +kernel
theorem dX10_bar_24 : decode cX10_bar 24 = .ok (.aaload, 1) := by decide +kernel
theorem dX10_bar_25 : decode cX10_bar 25 = .ok (.invokevirtual 242, 3) := by decide +kernel
theorem dX10_bar_28 : decode cX10_bar 28 = .ok (.ifCond .eq 14, 3) := by decide +kernel
theorem dX10_bar_31 : decode cX10_bar 31 = .ok (.aload_n 0, 1) := by decide +kernel
theorem dX10_bar_32 : decode cX10_bar 32 = .ok (.getfield 53, 3) := by decide +kernel
theorem dX10_bar_35 : decode cX10_bar 35 = .ok (.iload_n 2, 1) := by decide +kernel
theorem dX10_bar_36 : decode cX10_bar 36 = .ok (.invokevirtual 246, 3) := by decide +kernel
theorem dX10_bar_39 : decode cX10_bar 39 = .ok (.goto 5, 3) := by decide +kernel
theorem dX10_bar_42 : decode cX10_bar 42 = .ok (.ldc 221, 2) := by decide +kernel
theorem dX10_bar_44 : decode cX10_bar 44 = .ok (.ireturn, 1) := by decide +kernel
theorem dX10_atOnce_0 : decode cX10_atOnce 0 = .ok (.aload_n 0, 1) := by decide +kernel
theorem dX10_atOnce_1 : decode cX10_atOnce 1 = .ok (.iload_n 1, 1) := by decide +kernel
theorem dX10_atOnce_2 : decode cX10_atOnce 2 = .ok (.invokevirtual 249, 3) := by decide +kernel
theorem dX10_atOnce_5 : decode cX10_atOnce 5 = .ok (.istore_n 2, 1) := by decide +kernel
theorem dX10_atOnce_6 : decode cX10_atOnce 6 = .ok (.iload_n 2, 1) := by decide +kernel
theorem dX10_atOnce_7 : decode cX10_atOnce 7 = .ok (.ifCond .eq 5, 3) := by decide +kernel
theorem dX10_atOnce_10 : decode cX10_atOnce 10 = .ok (.iload_n 2, 1) := by decide +kernel
theorem dX10_atOnce_11 : decode cX10_atOnce 11 = .ok (.ireturn, 1) := by decide +kernel
theorem dX10_atOnce_12 : decode cX10_atOnce 12 = .ok (.aload_n 0, 1) := by decide +kernel
theorem dX10_atOnce_13 : decode cX10_atOnce 13 = .ok (.getfield 60, 3) := by decide +kernel
theorem dX10_atOnce_16 : decode cX10_atOnce 16 = .ok (.iload_n 1, 1) := by decide +kernel
theorem dX10_atOnce_17 : decode cX10_atOnce 17 = .ok (.invokevirtual 252, 3) := by decide +kernel
theorem dX10_atOnce_20 : decode cX10_atOnce 20 = .ok (.aload_n 0, 1) := by decide +kernel
theorem dX10_atOnce_21 : decode cX10_atOnce 21 = .ok (.getfield 60, 3) := by decide +kernel
theorem dX10_atOnce_24 : decode cX10_atOnce 24 = .ok (.getfield 256, 3) := by decide +kernel
theorem dX10_atOnce_27 : decode cX10_atOnce 27 = .ok (.ireturn, 1) := by decide +kernel
theorem dX10_order_0 : decode cX10_order 0 = .ok (.aload_n 0, 1) := by decide +kernel
theorem dX10_order_1 : decode cX10_order 1 = .ok (.iload_n 1, 1) := by decide +kernel
theorem dX10_order_2 : decode cX10_order 2 = .ok (.invokevirtual 249, 3) := by decide +kernel
theorem dX10_order_5 : decode cX10_order 5 = .ok (.istore_n 3, 1) := by decide +kernel
theorem dX10_order_6 : decode cX10_order 6 = .ok (.iload_n 3, 1) := by decide +kernel
theorem dX10_order_7 : decode cX10_order 7 = .ok (.ifCond .eq 5, 3) := by decide +kernel
theorem dX10_order_10 : decode cX10_order 10 = .ok (.iload_n 3, 1) := by decide +kernel
theorem dX10_order_11 : decode cX10_order 11 = .ok (.ireturn, 1) := by decide +kernel
theorem dX10_order_12 : decode cX10_order 12 = .ok (.aload_n 0, 1) := by decide +kernel
theorem dX10_order_13 : decode cX10_order 13 = .ok (.getfield 60, 3) := by decide +kernel
theorem dX10_order_16 : decode cX10_order 16 = .ok (.iload_n 1, 1) := by decide +kernel
theorem dX10_order_17 : decode cX10_order 17 = .ok (.invokevirtual 252, 3) := by decide +kernel
theorem dX10_order_20 : decode cX10_order 20 = .ok (.aload_n 0, 1) := by decide +kernel
theorem dX10_order_21 : decode cX10_order 21 = .ok (.getfield 60, 3) := by decide +kernel
theorem dX10_order_24 : decode cX10_order 24 = .ok (.iload_n 2, 1) := by decide +kernel
theorem dX10_order_25 : decode cX10_order 25 = .ok (.invokevirtual 259, 3) := by decide +kernel
theorem dX10_order_28 : decode cX10_order 28 = .ok (.ireturn, 1) := by decide +kernel
theorem dX10_giveAll_0 : decode cX10_giveAll 0 = .ok (.aload_n 0, 1) := by decide +kernel
theorem dX10_giveAll_1 : decode cX10_giveAll 1 = .ok (.iload_n 1, 1) := by decide +kernel
theorem dX10_giveAll_2 : decode cX10_giveAll 2 = .ok (.invokevirtual 249, 3) := by decide +kernel
theorem dX10_giveAll_5 : decode cX10_giveAll 5 = .ok (.istore_n 2, 1) := by decide +kernel
theorem dX10_giveAll_6 : decode cX10_giveAll 6 = .ok (.iload_n 2, 1) := by decide +kernel
theorem dX10_giveAll_7 : decode cX10_giveAll 7 = .ok (.ifCond .eq 5, 3) := by decide +kernel
theorem dX10_giveAll_10 : decode cX10_giveAll 10 = .ok (.iload_n 2, 1) := by decide +kernel
theorem dX10_giveAll_11 : decode cX10_giveAll 11 = .ok (.ireturn, 1) := by decide +kernel
theorem dX10_giveAll_12 : decode cX10_giveAll 12 = .ok (.aload_n 0, 1) := by decide +kernel
theorem dX10_giveAll_13 : decode cX10_giveAll 13 = .ok (.getfield 60, 3) := by decide +kernel
theorem dX10_giveAll_16 : decode cX10_giveAll 16 = .ok (.iload_n 1, 1) := by decide +kernel
theorem dX10_giveAll_17 : decode cX10_giveAll 17 = .ok (.invokevirtual 252, 3) := by decide +kernel
theorem dX10_giveAll_20 : decode cX10_giveAll 20 = .ok (.aload_n 0, 1) := by decide +kernel
theorem dX10_giveAll_21 : decode cX10_giveAll 21 = .ok (.getfield 60, 3) := by decide +kernel
theorem dX10_giveAll_24 : decode cX10_giveAll 24 = .ok (.invokevirtual 260, 3) := by decide +kernel
theorem dX10_giveAll_27 : decode cX10_giveAll 27 = .ok (.ireturn, 1) := by decide +kernel
theorem dX10_silent_0 : decode cX10_silent 0 = .ok (.aload_n 0, 1) := by decide +kernel
theorem dX10_silent_1 : decode cX10_silent 1 = .ok (.iload_n 1, 1) := by decide +kernel
theorem dX10_silent_2 : decode cX10_silent 2 = .ok (.iload_n 2, 1) := by decide +kernel
theorem dX10_silent_3 : decode cX10_silent 3 = .ok (.invokevirtual 118, 3) := by decide +kernel
theorem dX10_silent_6 : decode cX10_silent 6 = .ok (.istore 4, 2) := by decide +kernel
theorem dX10_silent_8 : decode cX10_silent 8 = .ok (.iload 4, 2) := by decide +kernel
theorem dX10_silent_10 : decode cX10_silent 10 = .ok (.ifCond .eq 6, 3) := by decide +kernel
theorem dX10_silent_13 : decode cX10_silent 13 = .ok (.iload 4, 2) := by decide +kernel
theorem dX10_silent_15 : decode cX10_silent 15 = .ok (.ireturn, 1) := by decide +kernel
theorem dX10_silent_16 : decode cX10_silent 16 = .ok (.iload_n 3, 1) := by decide +kernel
theorem dX10_silent_17 : decode cX10_silent 17 = .ok (.iconst 0, 1) := by decide +kernel
theorem dX10_silent_18 : decode cX10_silent 18 = .ok (.iconst 3, 1) := by decide +kernel
theorem dX10_silent_19 : decode cX10_silent 19 = .ok (.invokestatic 71, 3) := by decide +kernel
theorem dX10_silent_22 : decode cX10_silent 22 = .ok (.ifCond .ne 6, 3) := by decide +kernel
theorem dX10_silent_25 : decode cX10_silent 25 = .ok (.ldc 75, 2) := by decide +kernel
theorem dX10_silent_27 : decode cX10_silent 27 = .ok (.ireturn, 1) := by decide +kernel
theorem dX10_silent_28 : decode cX10_silent 28 = .ok (.aload_n 0, 1) := by decide +kernel
theorem dX10_silent_29 : decode cX10_silent 29 = .ok (.getfield 67, 3) := by decide +kernel
theorem dX10_silent_32 : decode cX10_silent 32 = .ok (.iload_n 1, 1) := by decide +kernel
theorem dX10_silent_33 : decode cX10_silent 33 = .ok (.iload_n 2, 1) := by decide +kernel
theorem dX10_silent_34 : decode cX10_silent 34 = .ok (.iload_n 3, 1) := by decide +kernel
theorem dX10_silent_35 : decode cX10_silent 35 = .ok (.invokevirtual 264, 3) := by decide +kernel
theorem dX10_silent_38 : decode cX10_silent 38 = .ok (.iconst 1, 1) := by decide +kernel
theorem dX10_silent_39 : decode cX10_silent 39 = .ok (.ireturn, 1) := by decide +kernel
theorem dX10_could_0 : decode cX10_could 0 = .ok (.iload_n 1, 1) := by decide +kernel
theorem dX10_could_1 : decode cX10_could 1 = .ok (.invokestatic 142, 3) := by decide +kernel
theorem dX10_could_4 : decode cX10_could 4 = .ok (.ifCond .ne 6, 3) := by decide +kernel
theorem dX10_could_7 : decode cX10_could 7 = .ok (.ldc 75, 2) := by decide +kernel
theorem dX10_could_9 : decode cX10_could 9 = .ok (.ireturn, 1) := by decide +kernel
theorem dX10_could_10 : decode cX10_could 10 = .ok (.aload_n 0, 1) := by decide +kernel
theorem dX10_could_11 : decode cX10_could 11 = .ok (.getfield 67, 3) := by decide +kernel
theorem dX10_could_14 : decode cX10_could 14 = .ok (.invokevirtual 267, 3) := by decide +kernel
theorem dX10_could_17 : decode cX10_could 17 = .ok (.aload_n 0, 1) := by decide +kernel
theorem dX10_could_18 : decode cX10_could 18 = .ok (.getfield 67, 3) := by decide +kernel
theorem dX10_could_21 : decode cX10_could 21 = .ok (.getfield 270, 3) := by decide +kernel
theorem dX10_could_24 : decode cX10_could 24 = .ok (.iload_n 1, 1) := by decide +kernel
theorem dX10_could_25 : decode cX10_could 25 = .ok (.laload, 1) := by decide +kernel
theorem dX10_could_26 : decode cX10_could 26 = .ok (.invokestatic 273, 3) := by decide +kernel
theorem dX10_could_29 : decode cX10_could 29 = .ok (.ireturn, 1) := by decide +kernel
theorem dX10_couldBe_0 : decode cX10_couldBe 0 = .ok (.aload_n 0, 1) := by decide +kernel
theorem dX10_couldBe_1 : decode cX10_couldBe 1 = .ok (.iload_n 1, 1) := by decide +kernel
theorem dX10_couldBe_2 : decode cX10_couldBe 2 = .ok (.iload_n 2, 1) := by decide +kernel
theorem dX10_couldBe_3 : decode cX10_couldBe 3 = .ok (.invokevirtual 118, 3) := by decide +kernel
theorem dX10_couldBe_6 : decode cX10_couldBe 6 = .ok (.istore_n 3, 1) := by decide +kernel
theorem dX10_couldBe_7 : decode cX10_couldBe 7 = .ok (.iload_n 3, 1) := by decide +kernel
theorem dX10_couldBe_8 : decode cX10_couldBe 8 = .ok (.ifCond .eq 5, 3) := by decide +kernel
theorem dX10_couldBe_11 : decode cX10_couldBe 11 = .ok (.iload_n 3, 1) := by decide +kernel
theorem dX10_couldBe_12 : decode cX10_couldBe 12 = .ok (.ireturn, 1) := by decide +kernel
theorem dX10_couldBe_13 : decode cX10_couldBe 13 = .ok (.aload_n 0, 1) := by decide +kernel
theorem dX10_couldBe_14 : decode cX10_couldBe 14 = .ok (.getfield 67, 3) := by decide +kernel
theorem dX10_couldBe_17 : decode cX10_couldBe 17 = .ok (.invokevirtual 267, 3) := by decide +kernel
theorem dX10_couldBe_20 : decode cX10_couldBe 20 = .ok (.aload_n 0, 1) := by decide +kernel
theorem dX10_couldBe_21 : decode cX10_couldBe 21 = .ok (.getfield 67, 3) := by decide +kernel
theorem dX10_couldBe_24 : decode cX10_couldBe 24 = .ok (.getfield 270, 3) := by decide +kernel
theorem dX10_couldBe_27 : decode cX10_couldBe 27 = .ok (.iload_n 2, 1) := by decide +kernel
theorem dX10_couldBe_28 : decode cX10_couldBe 28 = .ok (.laload, 1) := by decide +kernel
theorem dX10_couldBe_29 : decode cX10_couldBe 29 = .ok (.iload_n 1, 1) := by decide +kernel
theorem dX10_couldBe_30 : decode cX10_couldBe 30 = .ok (.invokestatic 129, 3) := by decide +kernel
theorem dX10_couldBe_33 : decode cX10_couldBe 33 = .ok (.invokestatic 133, 3) := by decide +kernel
theorem dX10_couldBe_36 : decode cX10_couldBe 36 = .ok (.ireturn, 1) := by decide +kernel
theorem dX10_ledOff_0 : decode cX10_ledOff 0 = .ok (.aload_n 0, 1) := by decide +kernel
theorem dX10_ledOff_1 : decode cX10_ledOff 1 = .ok (.getfield 67, 3) := by decide +kernel
theorem dX10_ledOff_4 : decode cX10_ledOff 4 = .ok (.invokevirtual 267, 3) := by decide +kernel
theorem dX10_ledOff_7 : decode cX10_ledOff 7 = .ok (.aload_n 0, 1) := by decide +kernel
theorem dX10_ledOff_8 : decode cX10_ledOff 8 = .ok (.getfield 67, 3) := by decide +kernel
theorem dX10_ledOff_11 : decode cX10_ledOff 11 = .ok (.invokevirtual 279, 3) := by decide +kernel
theorem dX10_ledOff_14 : decode cX10_ledOff 14 = .ok (.ireturn, 1) := by decide +kernel
theorem dX10_led_0 : decode cX10_led 0 = .ok (.aload_n 0, 1) := by decide +kernel
theorem dX10_led_1 : decode cX10_led 1 = .ok (.getfield 67, 3) := by decide +kernel
theorem dX10_led_4 : decode cX10_led 4 = .ok (.invokevirtual 267, 3) := by decide +kernel
theorem dX10_led_7 : decode cX10_led 7 = .ok (.aload_n 0, 1) := by decide +kernel
theorem dX10_led_8 : decode cX10_led 8 = .ok (.getfield 67, 3) := by decide +kernel
theorem dX10_led_11 : decode cX10_led 11 = .ok (.iload_n 1, 1) := by decide +kernel
theorem dX10_led_12 : decode cX10_led 12 = .ok (.invokevirtual 282, 3) := by decide +kernel
theorem dX10_led_15 : decode cX10_led 15 = .ok (.ireturn, 1) := by decide +kernel
theorem dX10_ledAt_0 : decode cX10_ledAt 0 = .ok (.aload_n 0, 1) := by decide +kernel
theorem dX10_ledAt_1 : decode cX10_ledAt 1 = .ok (.iload_n 1, 1) := by decide +kernel
theorem dX10_ledAt_2 : decode cX10_ledAt 2 = .ok (.invokevirtual 229, 3) := by decide +kernel
theorem dX10_ledAt_5 : decode cX10_ledAt 5 = .ok (.istore_n 2, 1) := by decide +kernel
theorem dX10_ledAt_6 : decode cX10_ledAt 6 = .ok (.iload_n 2, 1) := by decide +kernel
theorem dX10_ledAt_7 : decode cX10_ledAt 7 = .ok (.ifCond .eq 5, 3) := by decide +kernel
theorem dX10_ledAt_10 : decode cX10_ledAt 10 = .ok (.iload_n 2, 1) := by decide +kernel
theorem dX10_ledAt_11 : decode cX10_ledAt 11 = .ok (.ireturn, 1) := by decide +kernel
theorem dX10_ledAt_12 : decode cX10_ledAt 12 = .ok (.aload_n 0, 1) := by decide +kernel
theorem dX10_ledAt_13 : decode cX10_ledAt 13 = .ok (.getfield 67, 3) := by decide +kernel
theorem dX10_ledAt_16 : decode cX10_ledAt 16 = .ok (.invokevirtual 267, 3) := by decide +kernel
theorem dX10_ledAt_19 : decode cX10_ledAt 19 = .ok (.aload_n 0, 1) := by decide +kernel
theorem dX10_ledAt_20 : decode cX10_ledAt 20 = .ok (.getfield 67, 3) := by decide +kernel
theorem dX10_ledAt_23 : decode cX10_ledAt 23 = .ok (.aload_n 0, 1) := by decide +kernel
theorem dX10_ledAt_24 : decode cX10_ledAt 24 = .ok (.getfield 19, 3) := by decide +kernel
theorem dX10_ledAt_27 : decode cX10_ledAt 27 = .ok (.getfield 170, 3) := by decide +kernel
theorem dX10_ledAt_30 : decode cX10_ledAt 30 = .ok (.iload_n 1, 1) := by decide +kernel
theorem dX10_ledAt_31 : decode cX10_ledAt 31 = .ok (.aaload, 1) := by decide +kernel
theorem dX10_ledAt_32 : decode cX10_ledAt 32 = .ok (.getfield 212, 3) := by decide +kernel
theorem dX10_ledAt_35 : decode cX10_ledAt 35 = .ok (.invokevirtual 285, 3) := by decide +kernel
theorem dX10_ledAt_38 : decode cX10_ledAt 38 = .ok (.ireturn, 1) := by decide +kernel
theorem dX10_ears_0 : decode cX10_ears 0 = .ok (.aload_n 0, 1) := by decide +kernel
theorem dX10_ears_1 : decode cX10_ears 1 = .ok (.getfield 10, 3) := by decide +kernel
theorem dX10_ears_4 : decode cX10_ears 4 = .ok (.iload_n 1, 1) := by decide +kernel
theorem dX10_ears_5 : decode cX10_ears 5 = .ok (.invokevirtual 137, 3) := by decide +kernel
theorem dX10_ears_8 : decode cX10_ears 8 = .ok (.ifCond .ne 6, 3) := by decide +kernel
theorem dX10_ears_11 : decode cX10_ears 11 = .ok (.ldc 141, 2) := by decide +kernel
theorem dX10_ears_13 : decode cX10_ears 13 = .ok (.ireturn, 1) := by decide +kernel
theorem dX10_ears_14 : decode cX10_ears 14 = .ok (.iload_n 2, 1) := by decide +kernel
theorem dX10_ears_15 : decode cX10_ears 15 = .ok (.iconst 0, 1) := by decide +kernel
theorem dX10_ears_16 : decode cX10_ears 16 = .ok (.bipush 99, 2) := by decide +kernel
theorem dX10_ears_18 : decode cX10_ears 18 = .ok (.invokestatic 71, 3) := by decide +kernel
theorem dX10_ears_21 : decode cX10_ears 21 = .ok (.ifCond .eq 15, 3) := by decide +kernel
theorem dX10_ears_24 : decode cX10_ears 24 = .ok (.aload_n 0, 1) := by decide +kernel
theorem dX10_ears_25 : decode cX10_ears 25 = .ok (.getfield 28, 3) := by decide +kernel
theorem dX10_ears_28 : decode cX10_ears 28 = .ok (.iload_n 1, 1) := by decide +kernel
theorem dX10_ears_29 : decode cX10_ears 29 = .ok (.iload_n 2, 1) := by decide +kernel
theorem dX10_ears_30 : decode cX10_ears 30 = .ok (.invokevirtual 289, 3) := by decide +kernel
theorem dX10_ears_33 : decode cX10_ears 33 = .ok (.goto 5, 3) := by decide +kernel
theorem dX10_ears_36 : decode cX10_ears 36 = .ok (.ldc 75, 2) := by decide +kernel
theorem dX10_ears_38 : decode cX10_ears 38 = .ok (.ireturn, 1) := by decide +kernel
theorem dX10_noise_0 : decode cX10_noise 0 = .ok (.aload_n 0, 1) := by decide +kernel
theorem dX10_noise_1 : decode cX10_noise 1 = .ok (.getfield 10, 3) := by decide +kernel
theorem dX10_noise_4 : decode cX10_noise 4 = .ok (.iload_n 1, 1) := by decide +kernel
theorem dX10_noise_5 : decode cX10_noise 5 = .ok (.invokevirtual 137, 3) := by decide +kernel
theorem dX10_noise_8 : decode cX10_noise 8 = .ok (.ifCond .eq 14, 3) := by decide +kernel
theorem dX10_noise_11 : decode cX10_noise 11 = .ok (.aload_n 0, 1) := by decide +kernel
theorem dX10_noise_12 : decode cX10_noise 12 = .ok (.getfield 28, 3) := by decide +kernel
theorem dX10_noise_15 : decode cX10_noise 15 = .ok (.iload_n 1, 1) := by decide +kernel
theorem dX10_noise_16 : decode cX10_noise 16 = .ok (.invokevirtual 292, 3) := by decide +kernel
theorem dX10_noise_19 : decode cX10_noise 19 = .ok (.goto 5, 3) := by decide +kernel
theorem dX10_noise_22 : decode cX10_noise 22 = .ok (.ldc 141, 2) := by decide +kernel
theorem dX10_noise_24 : decode cX10_noise 24 = .ok (.ireturn, 1) := by decide +kernel
theorem dX10_worst_0 : decode cX10_worst 0 = .ok (.aload_n 0, 1) := by decide +kernel
theorem dX10_worst_1 : decode cX10_worst 1 = .ok (.getfield 28, 3) := by decide +kernel
theorem dX10_worst_4 : decode cX10_worst 4 = .ok (.invokevirtual 295, 3) := by decide +kernel
theorem dX10_worst_7 : decode cX10_worst 7 = .ok (.istore_n 2, 1) := by decide +kernel
theorem dX10_worst_8 : decode cX10_worst 8 = .ok (.iload_n 1, 1) := by decide +kernel
theorem dX10_worst_9 : decode cX10_worst 9 = .ok (.ifCond .eq 7, 3) := by decide +kernel
theorem dX10_worst_12 : decode cX10_worst 12 = .ok (.iload_n 2, 1) := by decide +kernel
theorem dX10_worst_13 : decode cX10_worst 13 = .ok (.goto 11, 3) := by decide +kernel
theorem dX10_worst_16 : decode cX10_worst 16 = .ok (.aload_n 0, 1) := by decide +kernel
theorem dX10_worst_17 : decode cX10_worst 17 = .ok (.getfield 28, 3) := by decide +kernel
theorem dX10_worst_20 : decode cX10_worst 20 = .ok (.iload_n 2, 1) := by decide +kernel
theorem dX10_worst_21 : decode cX10_worst 21 = .ok (.invokevirtual 292, 3) := by decide +kernel
theorem dX10_worst_24 : decode cX10_worst 24 = .ok (.ireturn, 1) := by decide +kernel
theorem dX10_quietest_0 : decode cX10_quietest 0 = .ok (.aload_n 0, 1) := by decide +kernel
theorem dX10_quietest_1 : decode cX10_quietest 1 = .ok (.iload_n 1, 1) := by decide +kernel
theorem dX10_quietest_2 : decode cX10_quietest 2 = .ok (.invokevirtual 198, 3) := by decide +kernel
theorem dX10_quietest_5 : decode cX10_quietest 5 = .ok (.istore_n 2, 1) := by decide +kernel
theorem dX10_quietest_6 : decode cX10_quietest 6 = .ok (.iload_n 2, 1) := by decide +kernel
theorem dX10_quietest_7 : decode cX10_quietest 7 = .ok (.ifCond .eq 5, 3) := by decide +kernel
theorem dX10_quietest_10 : decode cX10_quietest 10 = .ok (.iload_n 2, 1) := by decide +kernel
theorem dX10_quietest_11 : decode cX10_quietest 11 = .ok (.ireturn, 1) := by decide +kernel
theorem dX10_quietest_12 : decode cX10_quietest 12 = .ok (.aload_n 0, 1) := by decide +kernel
theorem dX10_quietest_13 : decode cX10_quietest 13 = .ok (.getfield 19, 3) := by decide +kernel
theorem dX10_quietest_16 : decode cX10_quietest 16 = .ok (.getfield 170, 3) := by decide +kernel
theorem dX10_quietest_19 : decode cX10_quietest 19 = .ok (.iload_n 1, 1) := by decide +kernel
theorem dX10_quietest_20 : decode cX10_quietest 20 = .ok (.aaload, 1) := by decide +kernel
theorem dX10_quietest_21 : decode cX10_quietest 21 = .ok (.astore_n 3, 1) := by decide +kernel
theorem dX10_quietest_22 : decode cX10_quietest 22 = .ok (.aload_n 0, 1) := by decide +kernel
theorem dX10_quietest_23 : decode cX10_quietest 23 = .ok (.getfield 44, 3) := by decide +kernel
theorem dX10_quietest_26 : decode cX10_quietest 26 = .ok (.aload_n 3, 1) := by decide +kernel
theorem dX10_quietest_27 : decode cX10_quietest 27 = .ok (.invokevirtual 226, 3) := by decide +kernel
theorem dX10_quietest_30 : decode cX10_quietest 30 = .ok (.ifCond .eq 14, 3) := by decide +kernel
theorem dX10_quietest_33 : decode cX10_quietest 33 = .ok (.aload_n 0, 1) := by decide +kernel
theorem dX10_quietest_34 : decode cX10_quietest 34 = .ok (.getfield 44, 3) := by decide +kernel
theorem dX10_quietest_37 : decode cX10_quietest 37 = .ok (.aload_n 3, 1) := by decide +kernel
theorem dX10_quietest_38 : decode cX10_quietest 38 = .ok (.invokevirtual 298, 3) := by decide +kernel
theorem dX10_quietest_41 : decode cX10_quietest 41 = .ok (.goto 5, 3) := by decide +kernel
theorem dX10_quietest_44 : decode cX10_quietest 44 = .ok (.ldc 221, 2) := by decide +kernel
theorem dX10_quietest_46 : decode cX10_quietest 46 = .ok (.ireturn, 1) := by decide +kernel
theorem dX10_price_0 : decode cX10_price 0 = .ok (.aload_n 0, 1) := by decide +kernel
theorem dX10_price_1 : decode cX10_price 1 = .ok (.iload_n 1, 1) := by decide +kernel
theorem dX10_price_2 : decode cX10_price 2 = .ok (.invokevirtual 198, 3) := by decide +kernel
theorem dX10_price_5 : decode cX10_price 5 = .ok (.istore_n 2, 1) := by decide +kernel
theorem dX10_price_6 : decode cX10_price 6 = .ok (.iload_n 2, 1) := by decide +kernel
theorem dX10_price_7 : decode cX10_price 7 = .ok (.ifCond .eq 5, 3) := by decide +kernel
theorem dX10_price_10 : decode cX10_price 10 = .ok (.iload_n 2, 1) := by decide +kernel
theorem dX10_price_11 : decode cX10_price 11 = .ok (.ireturn, 1) := by decide +kernel
theorem dX10_price_12 : decode cX10_price 12 = .ok (.aload_n 0, 1) := by decide +kernel
theorem dX10_price_13 : decode cX10_price 13 = .ok (.getfield 19, 3) := by decide +kernel
theorem dX10_price_16 : decode cX10_price 16 = .ok (.getfield 170, 3) := by decide +kernel
theorem dX10_price_19 : decode cX10_price 19 = .ok (.iload_n 1, 1) := by decide +kernel
theorem dX10_price_20 : decode cX10_price 20 = .ok (.aaload, 1) := by decide +kernel
theorem dX10_price_21 : decode cX10_price 21 = .ok (.astore_n 3, 1) := by decide +kernel
theorem dX10_price_22 : decode cX10_price 22 = .ok (.aload_n 0, 1) := by decide +kernel
theorem dX10_price_23 : decode cX10_price 23 = .ok (.aload_n 3, 1) := by decide +kernel
theorem dX10_price_24 : decode cX10_price 24 = .ok (.invokevirtual 201, 3) := by decide +kernel
theorem dX10_price_27 : decode cX10_price 27 = .ok (.istore 4, 2) := by decide +kernel
theorem dX10_price_29 : decode cX10_price 29 = .ok (.aload_n 0, 1) := by decide +kernel
theorem dX10_price_30 : decode cX10_price 30 = .ok (.getfield 44, 3) := by decide +kernel
theorem dX10_price_33 : decode cX10_price 33 = .ok (.aload_n 3, 1) := by decide +kernel
theorem dX10_price_34 : decode cX10_price 34 = .ok (.invokevirtual 226, 3) := by decide +kernel
theorem dX10_price_37 : decode cX10_price 37 = .ok (.ifCond .eq 16, 3) := by decide +kernel
theorem dX10_price_40 : decode cX10_price 40 = .ok (.aload_n 3, 1) := by decide +kernel
theorem dX10_price_41 : decode cX10_price 41 = .ok (.getfield 212, 3) := by decide +kernel
theorem dX10_price_44 : decode cX10_price 44 = .ok (.getfield 232, 3) := by decide +kernel
theorem dX10_price_47 : decode cX10_price 47 = .ok (.iload 4, 2) := by decide +kernel
theorem dX10_price_49 : decode cX10_price 49 = .ok (.isub, 1) := by decide +kernel
theorem dX10_price_50 : decode cX10_price 50 = .ok (.goto 5, 3) := by decide +kernel
theorem dX10_price_53 : decode cX10_price 53 = .ok (.ldc 221, 2) := by decide +kernel
theorem dX10_price_55 : decode cX10_price 55 = .ok (.ireturn, 1) := by decide +kernel
theorem dX10_quietAt_0 : decode cX10_quietAt 0 = .ok (.aload_n 0, 1) := by decide +kernel
theorem dX10_quietAt_1 : decode cX10_quietAt 1 = .ok (.iload_n 1, 1) := by decide +kernel
theorem dX10_quietAt_2 : decode cX10_quietAt 2 = .ok (.iload_n 2, 1) := by decide +kernel
theorem dX10_quietAt_3 : decode cX10_quietAt 3 = .ok (.invokevirtual 205, 3) := by decide +kernel
theorem dX10_quietAt_6 : decode cX10_quietAt 6 = .ok (.istore 4, 2) := by decide +kernel
theorem dX10_quietAt_8 : decode cX10_quietAt 8 = .ok (.iload 4, 2) := by decide +kernel
theorem dX10_quietAt_10 : decode cX10_quietAt 10 = .ok (.ifCond .eq 6, 3) := by decide +kernel
theorem dX10_quietAt_13 : decode cX10_quietAt 13 = .ok (.iload 4, 2) := by decide +kernel
theorem dX10_quietAt_15 : decode cX10_quietAt 15 = .ok (.ireturn, 1) := by decide +kernel
theorem dX10_quietAt_16 : decode cX10_quietAt 16 = .ok (.aload_n 0, 1) := by decide +kernel
theorem dX10_quietAt_17 : decode cX10_quietAt 17 = .ok (.getfield 19, 3) := by decide +kernel
theorem dX10_quietAt_20 : decode cX10_quietAt 20 = .ok (.getfield 170, 3) := by decide +kernel
theorem dX10_quietAt_23 : decode cX10_quietAt 23 = .ok (.iload_n 1, 1) := by decide +kernel
theorem dX10_quietAt_24 : decode cX10_quietAt 24 = .ok (.aaload, 1) := by decide +kernel
theorem dX10_quietAt_25 : decode cX10_quietAt 25 = .ok (.astore 5, 2) := by decide +kernel
theorem dX10_quietAt_27 : decode cX10_quietAt 27 = .ok (.aload_n 0, 1) := by decide +kernel
theorem dX10_quietAt_28 : decode cX10_quietAt 28 = .ok (.getfield 44, 3) := by decide +kernel
theorem dX10_quietAt_31 : decode cX10_quietAt 31 = .ok (.aload 5, 2) := by decide +kernel
theorem dX10_quietAt_33 : decode cX10_quietAt 33 = .ok (.invokevirtual 226, 3) := by decide +kernel
theorem dX10_quietAt_36 : decode cX10_quietAt 36 = .ok (.ifCond .eq 16, 3) := by decide +kernel
theorem dX10_quietAt_39 : decode cX10_quietAt 39 = .ok (.aload 5, 2) := by decide +kernel
theorem dX10_quietAt_41 : decode cX10_quietAt 41 = .ok (.getfield 212, 3) := by decide +kernel
theorem dX10_quietAt_44 : decode cX10_quietAt 44 = .ok (.iload_n 2, 1) := by decide +kernel
theorem dX10_quietAt_45 : decode cX10_quietAt 45 = .ok (.iload_n 3, 1) := by decide +kernel
theorem dX10_quietAt_46 : decode cX10_quietAt 46 = .ok (.invokevirtual 216, 3) := by decide +kernel
theorem dX10_quietAt_49 : decode cX10_quietAt 49 = .ok (.goto 5, 3) := by decide +kernel
theorem dX10_quietAt_52 : decode cX10_quietAt 52 = .ok (.ldc 221, 2) := by decide +kernel
theorem dX10_quietAt_54 : decode cX10_quietAt 54 = .ok (.ireturn, 1) := by decide +kernel
theorem dX10_count_0 : decode cX10_count 0 = .ok (.iload_n 1, 1) := by decide +kernel
theorem dX10_count_1 : decode cX10_count 1 = .ok (.tableswitch 87 0 5 #[39, 47, 55, 63, 71, 79], 39) := by decide +kernel
theorem dX10_count_40 : decode cX10_count 40 = .ok (.aload_n 0, 1) := by decide +kernel
theorem dX10_count_41 : decode cX10_count 41 = .ok (.getfield 10, 3) := by decide +kernel
theorem dX10_count_44 : decode cX10_count 44 = .ok (.getfield 91, 3) := by decide +kernel
theorem dX10_count_47 : decode cX10_count 47 = .ok (.ireturn, 1) := by decide +kernel
theorem dX10_count_48 : decode cX10_count 48 = .ok (.aload_n 0, 1) := by decide +kernel
theorem dX10_count_49 : decode cX10_count 49 = .ok (.getfield 10, 3) := by decide +kernel
theorem dX10_count_52 : decode cX10_count 52 = .ok (.getfield 94, 3) := by decide +kernel
theorem dX10_count_55 : decode cX10_count 55 = .ok (.ireturn, 1) := by decide +kernel
theorem dX10_count_56 : decode cX10_count 56 = .ok (.aload_n 0, 1) := by decide +kernel
theorem dX10_count_57 : decode cX10_count 57 = .ok (.getfield 10, 3) := by decide +kernel
theorem dX10_count_60 : decode cX10_count 60 = .ok (.getfield 105, 3) := by decide +kernel
theorem dX10_count_63 : decode cX10_count 63 = .ok (.ireturn, 1) := by decide +kernel
theorem dX10_count_64 : decode cX10_count 64 = .ok (.aload_n 0, 1) := by decide +kernel
theorem dX10_count_65 : decode cX10_count 65 = .ok (.getfield 19, 3) := by decide +kernel
theorem dX10_count_68 : decode cX10_count 68 = .ok (.getfield 80, 3) := by decide +kernel
theorem dX10_count_71 : decode cX10_count 71 = .ok (.ireturn, 1) := by decide +kernel
theorem dX10_count_72 : decode cX10_count 72 = .ok (.aload_n 0, 1) := by decide +kernel
theorem dX10_count_73 : decode cX10_count 73 = .ok (.getfield 19, 3) := by decide +kernel
theorem dX10_count_76 : decode cX10_count 76 = .ok (.invokevirtual 301, 3) := by decide +kernel
theorem dX10_count_79 : decode cX10_count 79 = .ok (.ireturn, 1) := by decide +kernel
theorem dX10_count_80 : decode cX10_count 80 = .ok (.aload_n 0, 1) := by decide +kernel
theorem dX10_count_81 : decode cX10_count 81 = .ok (.getfield 19, 3) := by decide +kernel
theorem dX10_count_84 : decode cX10_count 84 = .ok (.invokevirtual 304, 3) := by decide +kernel
theorem dX10_count_87 : decode cX10_count 87 = .ok (.ireturn, 1) := by decide +kernel
theorem dX10_count_88 : decode cX10_count 88 = .ok (.ldc 75, 2) := by decide +kernel
theorem dX10_count_90 : decode cX10_count 90 = .ok (.ireturn, 1) := by decide +kernel
theorem dX10_refuseCellAt_0 : decode cX10_refuseCellAt 0 = .ok (.aload_n 0, 1) := by decide +kernel
theorem dX10_refuseCellAt_1 : decode cX10_refuseCellAt 1 = .ok (.getfield 10, 3) := by decide +kernel
theorem dX10_refuseCellAt_4 : decode cX10_refuseCellAt 4 = .ok (.iload_n 1, 1) := by decide +kernel
theorem dX10_refuseCellAt_5 : decode cX10_refuseCellAt 5 = .ok (.invokevirtual 137, 3) := by decide +kernel
theorem dX10_refuseCellAt_8 : decode cX10_refuseCellAt 8 = .ok (.ifCond .ne 6, 3) := by decide +kernel
theorem dX10_refuseCellAt_11 : decode cX10_refuseCellAt 11 = .ok (.ldc 141, 2) := by decide +kernel
theorem dX10_refuseCellAt_13 : decode cX10_refuseCellAt 13 = .ok (.ireturn, 1) := by decide +kernel
theorem dX10_refuseCellAt_14 : decode cX10_refuseCellAt 14 = .ok (.iload_n 2, 1) := by decide +kernel
theorem dX10_refuseCellAt_15 : decode cX10_refuseCellAt 15 = .ok (.invokestatic 142, 3) := by decide +kernel
theorem dX10_refuseCellAt_18 : decode cX10_refuseCellAt 18 = .ok (.ifCond .eq 7, 3) := by decide +kernel
theorem dX10_refuseCellAt_21 : decode cX10_refuseCellAt 21 = .ok (.iconst 0, 1) := by decide +kernel
theorem dX10_refuseCellAt_22 : decode cX10_refuseCellAt 22 = .ok (.goto 5, 3) := by decide +kernel
theorem dX10_refuseCellAt_25 : decode cX10_refuseCellAt 25 = .ok (.ldc 75, 2) := by decide +kernel
theorem dX10_refuseCellAt_27 : decode cX10_refuseCellAt 27 = .ok (.ireturn, 1) := by decide +kernel
theorem dX10_refuseSpan_0 : decode cX10_refuseSpan 0 = .ok (.aload_n 0, 1) := by decide +kernel
theorem dX10_refuseSpan_1 : decode cX10_refuseSpan 1 = .ok (.getfield 10, 3) := by decide +kernel
theorem dX10_refuseSpan_4 : decode cX10_refuseSpan 4 = .ok (.iload_n 1, 1) := by decide +kernel
theorem dX10_refuseSpan_5 : decode cX10_refuseSpan 5 = .ok (.invokevirtual 137, 3) := by decide +kernel
theorem dX10_refuseSpan_8 : decode cX10_refuseSpan 8 = .ok (.ifCond .ne 6, 3) := by decide +kernel
theorem dX10_refuseSpan_11 : decode cX10_refuseSpan 11 = .ok (.ldc 141, 2) := by decide +kernel
theorem dX10_refuseSpan_13 : decode cX10_refuseSpan 13 = .ok (.ireturn, 1) := by decide +kernel
theorem dX10_refuseSpan_14 : decode cX10_refuseSpan 14 = .ok (.iload_n 2, 1) := by decide +kernel
theorem dX10_refuseSpan_15 : decode cX10_refuseSpan 15 = .ok (.invokestatic 142, 3) := by decide +kernel
theorem dX10_refuseSpan_18 : decode cX10_refuseSpan 18 = .ok (.ifCond .eq 15, 3) := by decide +kernel
theorem dX10_refuseSpan_21 : decode cX10_refuseSpan 21 = .ok (.iload_n 3, 1) := by decide +kernel
theorem dX10_refuseSpan_22 : decode cX10_refuseSpan 22 = .ok (.invokestatic 142, 3) := by decide +kernel
theorem dX10_refuseSpan_25 : decode cX10_refuseSpan 25 = .ok (.ifCond .eq 8, 3) := by decide +kernel
theorem dX10_refuseSpan_28 : decode cX10_refuseSpan 28 = .ok (.iload_n 3, 1) := by decide +kernel
theorem dX10_refuseSpan_29 : decode cX10_refuseSpan 29 = .ok (.iload_n 2, 1) := by decide +kernel
theorem dX10_refuseSpan_30 : decode cX10_refuseSpan 30 = .ok (.if_icmp .ge 6, 3) := by decide +kernel
theorem dX10_refuseSpan_33 : decode cX10_refuseSpan 33 = .ok (.ldc 75, 2) := by decide +kernel
theorem dX10_refuseSpan_35 : decode cX10_refuseSpan 35 = .ok (.ireturn, 1) := by decide +kernel
theorem dX10_refuseSpan_36 : decode cX10_refuseSpan 36 = .ok (.iload 4, 2) := by decide +kernel
theorem dX10_refuseSpan_38 : decode cX10_refuseSpan 38 = .ok (.bipush 20, 2) := by decide +kernel
theorem dX10_refuseSpan_40 : decode cX10_refuseSpan 40 = .ok (.if_icmp .ge 7, 3) := by decide +kernel
theorem dX10_refuseSpan_43 : decode cX10_refuseSpan 43 = .ok (.iconst 0, 1) := by decide +kernel
theorem dX10_refuseSpan_44 : decode cX10_refuseSpan 44 = .ok (.goto 5, 3) := by decide +kernel
theorem dX10_refuseSpan_47 : decode cX10_refuseSpan 47 = .ok (.ldc 150, 2) := by decide +kernel
theorem dX10_refuseSpan_49 : decode cX10_refuseSpan 49 = .ok (.ireturn, 1) := by decide +kernel
theorem dX10_refuseGiven_0 : decode cX10_refuseGiven 0 = .ok (.aload_n 0, 1) := by decide +kernel
theorem dX10_refuseGiven_1 : decode cX10_refuseGiven 1 = .ok (.getfield 19, 3) := by decide +kernel
theorem dX10_refuseGiven_4 : decode cX10_refuseGiven 4 = .ok (.iload_n 1, 1) := by decide +kernel
theorem dX10_refuseGiven_5 : decode cX10_refuseGiven 5 = .ok (.invokevirtual 167, 3) := by decide +kernel
theorem dX10_refuseGiven_8 : decode cX10_refuseGiven 8 = .ok (.ifCond .ne 6, 3) := by decide +kernel
theorem dX10_refuseGiven_11 : decode cX10_refuseGiven 11 = .ok (.ldc 141, 2) := by decide +kernel
theorem dX10_refuseGiven_13 : decode cX10_refuseGiven 13 = .ok (.ireturn, 1) := by decide +kernel
theorem dX10_refuseGiven_14 : decode cX10_refuseGiven 14 = .ok (.aload_n 0, 1) := by decide +kernel
theorem dX10_refuseGiven_15 : decode cX10_refuseGiven 15 = .ok (.getfield 19, 3) := by decide +kernel
theorem dX10_refuseGiven_18 : decode cX10_refuseGiven 18 = .ok (.getfield 170, 3) := by decide +kernel
theorem dX10_refuseGiven_21 : decode cX10_refuseGiven 21 = .ok (.iload_n 1, 1) := by decide +kernel
theorem dX10_refuseGiven_22 : decode cX10_refuseGiven 22 = .ok (.aaload, 1) := by decide +kernel
theorem dX10_refuseGiven_23 : decode cX10_refuseGiven 23 = .ok (.getfield 195, 3) := by decide +kernel
theorem dX10_refuseGiven_26 : decode cX10_refuseGiven 26 = .ok (.ifCond .eq 8, 3) := by decide +kernel
theorem dX10_refuseGiven_29 : decode cX10_refuseGiven 29 = .ok (.ldc 145, 2) := by decide +kernel
theorem dX10_refuseGiven_31 : decode cX10_refuseGiven 31 = .ok (.goto 4, 3) := by decide +kernel
theorem dX10_refuseGiven_34 : decode cX10_refuseGiven 34 = .ok (.iconst 0, 1) := by decide +kernel
theorem dX10_refuseGiven_35 : decode cX10_refuseGiven 35 = .ok (.ireturn, 1) := by decide +kernel
theorem dX10_refuseNotGiven_0 : decode cX10_refuseNotGiven 0 = .ok (.aload_n 0, 1) := by decide +kernel
theorem dX10_refuseNotGiven_1 : decode cX10_refuseNotGiven 1 = .ok (.getfield 19, 3) := by decide +kernel
theorem dX10_refuseNotGiven_4 : decode cX10_refuseNotGiven 4 = .ok (.iload_n 1, 1) := by decide +kernel
theorem dX10_refuseNotGiven_5 : decode cX10_refuseNotGiven 5 = .ok (.invokevirtual 167, 3) := by decide +kernel
theorem dX10_refuseNotGiven_8 : decode cX10_refuseNotGiven 8 = .ok (.ifCond .ne 6, 3) := by decide +kernel
theorem dX10_refuseNotGiven_11 : decode cX10_refuseNotGiven 11 = .ok (.ldc 141, 2) := by decide +kernel
theorem dX10_refuseNotGiven_13 : decode cX10_refuseNotGiven 13 = .ok (.ireturn, 1) := by decide +kernel
theorem dX10_refuseNotGiven_14 : decode cX10_refuseNotGiven 14 = .ok (.aload_n 0, 1) := by decide +kernel
theorem dX10_refuseNotGiven_15 : decode cX10_refuseNotGiven 15 = .ok (.getfield 19, 3) := by decide +kernel
theorem dX10_refuseNotGiven_18 : decode cX10_refuseNotGiven 18 = .ok (.getfield 170, 3) := by decide +kernel
theorem dX10_refuseNotGiven_21 : decode cX10_refuseNotGiven 21 = .ok (.iload_n 1, 1) := by decide +kernel
theorem dX10_refuseNotGiven_22 : decode cX10_refuseNotGiven 22 = .ok (.aaload, 1) := by decide +kernel
theorem dX10_refuseNotGiven_23 : decode cX10_refuseNotGiven 23 = .ok (.getfield 195, 3) := by decide +kernel
theorem dX10_refuseNotGiven_26 : decode cX10_refuseNotGiven 26 = .ok (.ifCond .eq 7, 3) := by decide +kernel
theorem dX10_refuseNotGiven_29 : decode cX10_refuseNotGiven 29 = .ok (.iconst 0, 1) := by decide +kernel
theorem dX10_refuseNotGiven_30 : decode cX10_refuseNotGiven 30 = .ok (.goto 5, 3) := by decide +kernel
theorem dX10_refuseNotGiven_33 : decode cX10_refuseNotGiven 33 = .ok (.ldc 145, 2) := by decide +kernel
theorem dX10_refuseNotGiven_35 : decode cX10_refuseNotGiven 35 = .ok (.ireturn, 1) := by decide +kernel
theorem dX10_refuseTelling_0 : decode cX10_refuseTelling 0 = .ok (.aload_n 0, 1) := by decide +kernel
theorem dX10_refuseTelling_1 : decode cX10_refuseTelling 1 = .ok (.getfield 19, 3) := by decide +kernel
theorem dX10_refuseTelling_4 : decode cX10_refuseTelling 4 = .ok (.iload_n 1, 1) := by decide +kernel
theorem dX10_refuseTelling_5 : decode cX10_refuseTelling 5 = .ok (.invokevirtual 167, 3) := by decide +kernel
theorem dX10_refuseTelling_8 : decode cX10_refuseTelling 8 = .ok (.ifCond .ne 6, 3) := by decide +kernel
theorem dX10_refuseTelling_11 : decode cX10_refuseTelling 11 = .ok (.ldc 141, 2) := by decide +kernel
theorem dX10_refuseTelling_13 : decode cX10_refuseTelling 13 = .ok (.ireturn, 1) := by decide +kernel
theorem dX10_refuseTelling_14 : decode cX10_refuseTelling 14 = .ok (.iload_n 2, 1) := by decide +kernel
theorem dX10_refuseTelling_15 : decode cX10_refuseTelling 15 = .ok (.iconst 0, 1) := by decide +kernel
theorem dX10_refuseTelling_16 : decode cX10_refuseTelling 16 = .ok (.iconst 1, 1) := by decide +kernel
theorem dX10_refuseTelling_17 : decode cX10_refuseTelling 17 = .ok (.invokestatic 71, 3) := by decide +kernel
theorem dX10_refuseTelling_20 : decode cX10_refuseTelling 20 = .ok (.ifCond .ne 6, 3) := by decide +kernel
theorem dX10_refuseTelling_23 : decode cX10_refuseTelling 23 = .ok (.ldc 75, 2) := by decide +kernel
theorem dX10_refuseTelling_25 : decode cX10_refuseTelling 25 = .ok (.ireturn, 1) := by decide +kernel
theorem dX10_refuseTelling_26 : decode cX10_refuseTelling 26 = .ok (.aload_n 0, 1) := by decide +kernel
theorem dX10_refuseTelling_27 : decode cX10_refuseTelling 27 = .ok (.iload_n 1, 1) := by decide +kernel
theorem dX10_refuseTelling_28 : decode cX10_refuseTelling 28 = .ok (.invokevirtual 198, 3) := by decide +kernel
theorem dX10_refuseTelling_31 : decode cX10_refuseTelling 31 = .ok (.ireturn, 1) := by decide +kernel
theorem dX10_refuseSet_0 : decode cX10_refuseSet 0 = .ok (.iload_n 1, 1) := by decide +kernel
theorem dX10_refuseSet_1 : decode cX10_refuseSet 1 = .ok (.aload_n 0, 1) := by decide +kernel
theorem dX10_refuseSet_2 : decode cX10_refuseSet 2 = .ok (.getfield 19, 3) := by decide +kernel
theorem dX10_refuseSet_5 : decode cX10_refuseSet 5 = .ok (.getfield 80, 3) := by decide +kernel
theorem dX10_refuseSet_8 : decode cX10_refuseSet 8 = .ok (.iushr, 1) := by decide +kernel
theorem dX10_refuseSet_9 : decode cX10_refuseSet 9 = .ok (.ifCond .ne 11, 3) := by decide +kernel
theorem dX10_refuseSet_12 : decode cX10_refuseSet 12 = .ok (.iload_n 1, 1) := by decide +kernel
theorem dX10_refuseSet_13 : decode cX10_refuseSet 13 = .ok (.invokestatic 307, 3) := by decide +kernel
theorem dX10_refuseSet_16 : decode cX10_refuseSet 16 = .ok (.iconst 5, 1) := by decide +kernel
theorem dX10_refuseSet_17 : decode cX10_refuseSet 17 = .ok (.if_icmp .le 6, 3) := by decide +kernel
theorem dX10_refuseSet_20 : decode cX10_refuseSet 20 = .ok (.ldc 75, 2) := by decide +kernel
theorem dX10_refuseSet_22 : decode cX10_refuseSet 22 = .ok (.ireturn, 1) := by decide +kernel
theorem dX10_refuseSet_23 : decode cX10_refuseSet 23 = .ok (.iload_n 1, 1) := by decide +kernel
theorem dX10_refuseSet_24 : decode cX10_refuseSet 24 = .ok (.aload_n 0, 1) := by decide +kernel
theorem dX10_refuseSet_25 : decode cX10_refuseSet 25 = .ok (.getfield 19, 3) := by decide +kernel
theorem dX10_refuseSet_28 : decode cX10_refuseSet 28 = .ok (.invokevirtual 311, 3) := by decide +kernel
theorem dX10_refuseSet_31 : decode cX10_refuseSet 31 = .ok (.iand, 1) := by decide +kernel
theorem dX10_refuseSet_32 : decode cX10_refuseSet 32 = .ok (.ifCond .ne 7, 3) := by decide +kernel
theorem dX10_refuseSet_35 : decode cX10_refuseSet 35 = .ok (.iconst 0, 1) := by decide +kernel
theorem dX10_refuseSet_36 : decode cX10_refuseSet 36 = .ok (.goto 5, 3) := by decide +kernel
theorem dX10_refuseSet_39 : decode cX10_refuseSet 39 = .ok (.ldc 145, 2) := by decide +kernel
theorem dX10_refuseSet_41 : decode cX10_refuseSet 41 = .ok (.ireturn, 1) := by decide +kernel
theorem dX10_endOfSoonest_0 : decode cX10_endOfSoonest 0 = .ok (.aload_n 0, 1) := by decide +kernel
theorem dX10_endOfSoonest_1 : decode cX10_endOfSoonest 1 = .ok (.getfield 35, 3) := by decide +kernel
theorem dX10_endOfSoonest_4 : decode cX10_endOfSoonest 4 = .ok (.aload_n 1, 1) := by decide +kernel
theorem dX10_endOfSoonest_5 : decode cX10_endOfSoonest 5 = .ok (.invokevirtual 208, 3) := by decide +kernel
theorem dX10_endOfSoonest_8 : decode cX10_endOfSoonest 8 = .ok (.ifCond .eq 13, 3) := by decide +kernel
theorem dX10_endOfSoonest_11 : decode cX10_endOfSoonest 11 = .ok (.aload_n 1, 1) := by decide +kernel
theorem dX10_endOfSoonest_12 : decode cX10_endOfSoonest 12 = .ok (.getfield 212, 3) := by decide +kernel
theorem dX10_endOfSoonest_15 : decode cX10_endOfSoonest 15 = .ok (.getfield 232, 3) := by decide +kernel
theorem dX10_endOfSoonest_18 : decode cX10_endOfSoonest 18 = .ok (.goto 5, 3) := by decide +kernel
theorem dX10_endOfSoonest_21 : decode cX10_endOfSoonest 21 = .ok (.ldc 221, 2) := by decide +kernel
theorem dX10_endOfSoonest_23 : decode cX10_endOfSoonest 23 = .ok (.ireturn, 1) := by decide +kernel
theorem dX10_giveIf_0 : decode cX10_giveIf 0 = .ok (.iload_n 1, 1) := by decide +kernel
theorem dX10_giveIf_1 : decode cX10_giveIf 1 = .ok (.ifCond .ne 6, 3) := by decide +kernel
theorem dX10_giveIf_4 : decode cX10_giveIf 4 = .ok (.ldc 145, 2) := by decide +kernel
theorem dX10_giveIf_6 : decode cX10_giveIf 6 = .ok (.ireturn, 1) := by decide +kernel
theorem dX10_giveIf_7 : decode cX10_giveIf 7 = .ok (.aload_n 0, 1) := by decide +kernel
theorem dX10_giveIf_8 : decode cX10_giveIf 8 = .ok (.iconst 1, 1) := by decide +kernel
theorem dX10_giveIf_9 : decode cX10_giveIf 9 = .ok (.putfield 195, 3) := by decide +kernel
theorem dX10_giveIf_12 : decode cX10_giveIf 12 = .ok (.aload_n 0, 1) := by decide +kernel
theorem dX10_giveIf_13 : decode cX10_giveIf 13 = .ok (.getfield 212, 3) := by decide +kernel
theorem dX10_giveIf_16 : decode cX10_giveIf 16 = .ok (.getfield 232, 3) := by decide +kernel
theorem dX10_giveIf_19 : decode cX10_giveIf 19 = .ok (.ireturn, 1) := by decide +kernel
theorem dX10_isWithin_0 : decode cX10_isWithin 0 = .ok (.iload_n 0, 1) := by decide +kernel
theorem dX10_isWithin_1 : decode cX10_isWithin 1 = .ok (.iload_n 1, 1) := by decide +kernel
theorem dX10_isWithin_2 : decode cX10_isWithin 2 = .ok (.if_icmp .lt 12, 3) := by decide +kernel
theorem dX10_isWithin_5 : decode cX10_isWithin 5 = .ok (.iload_n 0, 1) := by decide +kernel
theorem dX10_isWithin_6 : decode cX10_isWithin 6 = .ok (.iload_n 2, 1) := by decide +kernel
theorem dX10_isWithin_7 : decode cX10_isWithin 7 = .ok (.if_icmp .gt 7, 3) := by decide +kernel
theorem dX10_isWithin_10 : decode cX10_isWithin 10 = .ok (.iconst 1, 1) := by decide +kernel
theorem dX10_isWithin_11 : decode cX10_isWithin 11 = .ok (.goto 4, 3) := by decide +kernel
theorem dX10_isWithin_14 : decode cX10_isWithin 14 = .ok (.iconst 0, 1) := by decide +kernel
theorem dX10_isWithin_15 : decode cX10_isWithin 15 = .ok (.ireturn, 1) := by decide +kernel
theorem dX10_isMinute_0 : decode cX10_isMinute 0 = .ok (.iload_n 0, 1) := by decide +kernel
theorem dX10_isMinute_1 : decode cX10_isMinute 1 = .ok (.iconst 0, 1) := by decide +kernel
theorem dX10_isMinute_2 : decode cX10_isMinute 2 = .ok (.bipush 59, 2) := by decide +kernel
theorem dX10_isMinute_4 : decode cX10_isMinute 4 = .ok (.invokestatic 71, 3) := by decide +kernel
theorem dX10_isMinute_7 : decode cX10_isMinute 7 = .ok (.ireturn, 1) := by decide +kernel
theorem dX10_oneIf_0 : decode cX10_oneIf 0 = .ok (.iload_n 0, 1) := by decide +kernel
theorem dX10_oneIf_1 : decode cX10_oneIf 1 = .ok (.ifCond .eq 7, 3) := by decide +kernel
theorem dX10_oneIf_4 : decode cX10_oneIf 4 = .ok (.iconst 1, 1) := by decide +kernel
theorem dX10_oneIf_5 : decode cX10_oneIf 5 = .ok (.goto 4, 3) := by decide +kernel
theorem dX10_oneIf_8 : decode cX10_oneIf 8 = .ok (.iconst 0, 1) := by decide +kernel
theorem dX10_oneIf_9 : decode cX10_oneIf 9 = .ok (.ireturn, 1) := by decide +kernel
theorem dX10_holds_0 : decode cX10_holds 0 = .ok (.lload_n 0, 1) := by decide +kernel
theorem dX10_holds_1 : decode cX10_holds 1 = .ok (.iload_n 2, 1) := by decide +kernel
theorem dX10_holds_2 : decode cX10_holds 2 = .ok (.lushr, 1) := by decide +kernel
theorem dX10_holds_3 : decode cX10_holds 3 = .ok (.lconst 1, 1) := by decide +kernel
theorem dX10_holds_4 : decode cX10_holds 4 = .ok (.land, 1) := by decide +kernel
theorem dX10_holds_5 : decode cX10_holds 5 = .ok (.lconst 0, 1) := by decide +kernel
theorem dX10_holds_6 : decode cX10_holds 6 = .ok (.lcmp, 1) := by decide +kernel
theorem dX10_holds_7 : decode cX10_holds 7 = .ok (.ifCond .eq 7, 3) := by decide +kernel
theorem dX10_holds_10 : decode cX10_holds 10 = .ok (.iconst 1, 1) := by decide +kernel
theorem dX10_holds_11 : decode cX10_holds 11 = .ok (.goto 4, 3) := by decide +kernel
theorem dX10_holds_14 : decode cX10_holds 14 = .ok (.iconst 0, 1) := by decide +kernel
theorem dX10_holds_15 : decode cX10_holds 15 = .ok (.ireturn, 1) := by decide +kernel
theorem dX10_isIn_0 : decode cX10_isIn 0 = .ok (.iload_n 0, 1) := by decide +kernel
theorem dX10_isIn_1 : decode cX10_isIn 1 = .ok (.iload_n 1, 1) := by decide +kernel
theorem dX10_isIn_2 : decode cX10_isIn 2 = .ok (.iushr, 1) := by decide +kernel
