theorem dX11_noiseOf_17 : decode cX11_noiseOf 17 = .ok (.iaload, 1) := by decide +kernel
theorem dX11_noiseOf_18 : decode cX11_noiseOf 18 = .ok (.istore 4, 2) := by decide +kernel
theorem dX11_noiseOf_20 : decode cX11_noiseOf 20 = .ok (.iload 4, 2) := by decide +kernel
theorem dX11_noiseOf_22 : decode cX11_noiseOf 22 = .ok (.aload_n 0, 1) := by decide +kernel
theorem dX11_noiseOf_23 : decode cX11_noiseOf 23 = .ok (.getfield 30, 3) := by decide +kernel
theorem dX11_noiseOf_26 : decode cX11_noiseOf 26 = .ok (.iload_n 3, 1) := by decide +kernel
theorem dX11_noiseOf_27 : decode cX11_noiseOf 27 = .ok (.iaload, 1) := by decide +kernel
theorem dX11_noiseOf_28 : decode cX11_noiseOf 28 = .ok (.if_icmp .gt 51, 3) := by decide +kernel
theorem dX11_noiseOf_31 : decode cX11_noiseOf 31 = .ok (.aload_n 0, 1) := by decide +kernel
theorem dX11_noiseOf_32 : decode cX11_noiseOf 32 = .ok (.getfield 33, 3) := by decide +kernel
theorem dX11_noiseOf_35 : decode cX11_noiseOf 35 = .ok (.iload_n 3, 1) := by decide +kernel
theorem dX11_noiseOf_36 : decode cX11_noiseOf 36 = .ok (.baload, 1) := by decide +kernel
theorem dX11_noiseOf_37 : decode cX11_noiseOf 37 = .ok (.ifCond .eq 42, 3) := by decide +kernel
theorem dX11_noiseOf_40 : decode cX11_noiseOf 40 = .ok (.iload_n 2, 1) := by decide +kernel
theorem dX11_noiseOf_41 : decode cX11_noiseOf 41 = .ok (.aload_n 0, 1) := by decide +kernel
theorem dX11_noiseOf_42 : decode cX11_noiseOf 42 = .ok (.aload_n 0, 1) := by decide +kernel
theorem dX11_noiseOf_43 : decode cX11_noiseOf 43 = .ok (.getfield 36, 3) := by decide +kernel
theorem dX11_noiseOf_46 : decode cX11_noiseOf 46 = .ok (.bipush 60, 2) := by decide +kernel
theorem dX11_noiseOf_48 : decode cX11_noiseOf 48 = .ok (.iload_n 3, 1) := by decide +kernel
theorem dX11_noiseOf_49 : decode cX11_noiseOf 49 = .ok (.imul, 1) := by decide +kernel
theorem dX11_noiseOf_50 : decode cX11_noiseOf 50 = .ok (.iload 4, 2) := by decide +kernel
theorem dX11_noiseOf_52 : decode cX11_noiseOf 52 = .ok (.iadd, 1) := by decide +kernel
theorem dX11_noiseOf_53 : decode cX11_noiseOf 53 = .ok (.iaload, 1) := by decide +kernel
theorem dX11_noiseOf_54 : decode cX11_noiseOf 54 = .ok (.iload_n 1, 1) := by decide +kernel
theorem dX11_noiseOf_55 : decode cX11_noiseOf 55 = .ok (.invokevirtual 276, 3) := by decide +kernel
theorem dX11_noiseOf_58 : decode cX11_noiseOf 58 = .ok (.aload_n 0, 1) := by decide +kernel
theorem dX11_noiseOf_59 : decode cX11_noiseOf 59 = .ok (.getfield 24, 3) := by decide +kernel
theorem dX11_noiseOf_62 : decode cX11_noiseOf 62 = .ok (.bipush 8, 2) := by decide +kernel
theorem dX11_noiseOf_64 : decode cX11_noiseOf 64 = .ok (.iload_n 3, 1) := by decide +kernel
theorem dX11_noiseOf_65 : decode cX11_noiseOf 65 = .ok (.imul, 1) := by decide +kernel
theorem dX11_noiseOf_66 : decode cX11_noiseOf 66 = .ok (.bipush 6, 2) := by decide +kernel
theorem dX11_noiseOf_68 : decode cX11_noiseOf 68 = .ok (.iadd, 1) := by decide +kernel
theorem dX11_noiseOf_69 : decode cX11_noiseOf 69 = .ok (.iaload, 1) := by decide +kernel
theorem dX11_noiseOf_70 : decode cX11_noiseOf 70 = .ok (.imul, 1) := by decide +kernel
theorem dX11_noiseOf_71 : decode cX11_noiseOf 71 = .ok (.iadd, 1) := by decide +kernel
theorem dX11_noiseOf_72 : decode cX11_noiseOf 72 = .ok (.istore_n 2, 1) := by decide +kernel
theorem dX11_noiseOf_73 : decode cX11_noiseOf 73 = .ok (.iinc 4 1, 3) := by decide +kernel
theorem dX11_noiseOf_76 : decode cX11_noiseOf 76 = .ok (.goto (-56), 3) := by decide +kernel
theorem dX11_noiseOf_79 : decode cX11_noiseOf 79 = .ok (.iinc 3 1, 3) := by decide +kernel
theorem dX11_noiseOf_82 : decode cX11_noiseOf 82 = .ok (.goto (-78), 3) := by decide +kernel
theorem dX11_noiseOf_85 : decode cX11_noiseOf 85 = .ok (.iload_n 2, 1) := by decide +kernel
theorem dX11_noiseOf_86 : decode cX11_noiseOf 86 = .ok (.aload_n 0, 1) := by decide +kernel
theorem dX11_noiseOf_87 : decode cX11_noiseOf 87 = .ok (.getfield 20, 3) := by decide +kernel
theorem dX11_noiseOf_90 : decode cX11_noiseOf 90 = .ok (.iload_n 1, 1) := by decide +kernel
theorem dX11_noiseOf_91 : decode cX11_noiseOf 91 = .ok (.iaload, 1) := by decide +kernel
theorem dX11_noiseOf_92 : decode cX11_noiseOf 92 = .ok (.imul, 1) := by decide +kernel
theorem dX11_noiseOf_93 : decode cX11_noiseOf 93 = .ok (.ireturn, 1) := by decide +kernel
theorem dX11_noise_0 : decode cX11_noise 0 = .ok (.aload_n 0, 1) := by decide +kernel
theorem dX11_noise_1 : decode cX11_noise 1 = .ok (.iload_n 1, 1) := by decide +kernel
theorem dX11_noise_2 : decode cX11_noise 2 = .ok (.invokevirtual 110, 3) := by decide +kernel
theorem dX11_noise_5 : decode cX11_noise 5 = .ok (.ifCond .eq 11, 3) := by decide +kernel
theorem dX11_noise_8 : decode cX11_noise 8 = .ok (.aload_n 0, 1) := by decide +kernel
theorem dX11_noise_9 : decode cX11_noise 9 = .ok (.iload_n 1, 1) := by decide +kernel
theorem dX11_noise_10 : decode cX11_noise 10 = .ok (.invokevirtual 279, 3) := by decide +kernel
theorem dX11_noise_13 : decode cX11_noise 13 = .ok (.goto 5, 3) := by decide +kernel
theorem dX11_noise_16 : decode cX11_noise 16 = .ok (.ldc 114, 2) := by decide +kernel
theorem dX11_noise_18 : decode cX11_noise 18 = .ok (.ireturn, 1) := by decide +kernel
theorem dX11_worst_0 : decode cX11_worst 0 = .ok (.iconst 0, 1) := by decide +kernel
theorem dX11_worst_1 : decode cX11_worst 1 = .ok (.istore_n 2, 1) := by decide +kernel
theorem dX11_worst_2 : decode cX11_worst 2 = .ok (.iconst 1, 1) := by decide +kernel
theorem dX11_worst_3 : decode cX11_worst 3 = .ok (.istore_n 3, 1) := by decide +kernel
theorem dX11_worst_4 : decode cX11_worst 4 = .ok (.iload_n 3, 1) := by decide +kernel
theorem dX11_worst_5 : decode cX11_worst 5 = .ok (.aload_n 0, 1) := by decide +kernel
theorem dX11_worst_6 : decode cX11_worst 6 = .ok (.invokevirtual 101, 3) := by decide +kernel
theorem dX11_worst_9 : decode cX11_worst 9 = .ok (.if_icmp .ge 28, 3) := by decide +kernel
theorem dX11_worst_12 : decode cX11_worst 12 = .ok (.aload_n 0, 1) := by decide +kernel
theorem dX11_worst_13 : decode cX11_worst 13 = .ok (.iload_n 3, 1) := by decide +kernel
theorem dX11_worst_14 : decode cX11_worst 14 = .ok (.invokevirtual 279, 3) := by decide +kernel
theorem dX11_worst_17 : decode cX11_worst 17 = .ok (.aload_n 0, 1) := by decide +kernel
theorem dX11_worst_18 : decode cX11_worst 18 = .ok (.iload_n 2, 1) := by decide +kernel
theorem dX11_worst_19 : decode cX11_worst 19 = .ok (.invokevirtual 279, 3) := by decide +kernel
theorem dX11_worst_22 : decode cX11_worst 22 = .ok (.if_icmp .le 7, 3) := by decide +kernel
theorem dX11_worst_25 : decode cX11_worst 25 = .ok (.iload_n 3, 1) := by decide +kernel
theorem dX11_worst_26 : decode cX11_worst 26 = .ok (.goto 4, 3) := by decide +kernel
theorem dX11_worst_29 : decode cX11_worst 29 = .ok (.iload_n 2, 1) := by decide +kernel
theorem dX11_worst_30 : decode cX11_worst 30 = .ok (.istore_n 2, 1) := by decide +kernel
theorem dX11_worst_31 : decode cX11_worst 31 = .ok (.iinc 3 1, 3) := by decide +kernel
theorem dX11_worst_34 : decode cX11_worst 34 = .ok (.goto (-30), 3) := by decide +kernel
theorem dX11_worst_37 : decode cX11_worst 37 = .ok (.iload_n 1, 1) := by decide +kernel
theorem dX11_worst_38 : decode cX11_worst 38 = .ok (.ifCond .eq 7, 3) := by decide +kernel
theorem dX11_worst_41 : decode cX11_worst 41 = .ok (.iload_n 2, 1) := by decide +kernel
theorem dX11_worst_42 : decode cX11_worst 42 = .ok (.goto 8, 3) := by decide +kernel
theorem dX11_worst_45 : decode cX11_worst 45 = .ok (.aload_n 0, 1) := by decide +kernel
theorem dX11_worst_46 : decode cX11_worst 46 = .ok (.iload_n 2, 1) := by decide +kernel
theorem dX11_worst_47 : decode cX11_worst 47 = .ok (.invokevirtual 279, 3) := by decide +kernel
theorem dX11_worst_50 : decode cX11_worst 50 = .ok (.ireturn, 1) := by decide +kernel
theorem dX11_layQuietest_0 : decode cX11_layQuietest 0 = .ok (.aload_n 0, 1) := by decide +kernel
theorem dX11_layQuietest_1 : decode cX11_layQuietest 1 = .ok (.invokevirtual 208, 3) := by decide +kernel
theorem dX11_layQuietest_4 : decode cX11_layQuietest 4 = .ok (.iconst 0, 1) := by decide +kernel
theorem dX11_layQuietest_5 : decode cX11_layQuietest 5 = .ok (.istore_n 2, 1) := by decide +kernel
theorem dX11_layQuietest_6 : decode cX11_layQuietest 6 = .ok (.iload_n 2, 1) := by decide +kernel
theorem dX11_layQuietest_7 : decode cX11_layQuietest 7 = .ok (.aload_n 0, 1) := by decide +kernel
theorem dX11_layQuietest_8 : decode cX11_layQuietest 8 = .ok (.invokevirtual 101, 3) := by decide +kernel
theorem dX11_layQuietest_11 : decode cX11_layQuietest 11 = .ok (.if_icmp .ge 67, 3) := by decide +kernel
theorem dX11_layQuietest_14 : decode cX11_layQuietest 14 = .ok (.aload_n 0, 1) := by decide +kernel
theorem dX11_layQuietest_15 : decode cX11_layQuietest 15 = .ok (.getfield 57, 3) := by decide +kernel
theorem dX11_layQuietest_18 : decode cX11_layQuietest 18 = .ok (.iload_n 2, 1) := by decide +kernel
theorem dX11_layQuietest_19 : decode cX11_layQuietest 19 = .ok (.iconst 0, 1) := by decide +kernel
theorem dX11_layQuietest_20 : decode cX11_layQuietest 20 = .ok (.iastore, 1) := by decide +kernel
theorem dX11_layQuietest_21 : decode cX11_layQuietest 21 = .ok (.iconst 0, 1) := by decide +kernel
theorem dX11_layQuietest_22 : decode cX11_layQuietest 22 = .ok (.istore_n 3, 1) := by decide +kernel
theorem dX11_layQuietest_23 : decode cX11_layQuietest 23 = .ok (.iload_n 3, 1) := by decide +kernel
theorem dX11_layQuietest_24 : decode cX11_layQuietest 24 = .ok (.aload_n 0, 1) := by decide +kernel
theorem dX11_layQuietest_25 : decode cX11_layQuietest 25 = .ok (.invokevirtual 101, 3) := by decide +kernel
theorem dX11_layQuietest_28 : decode cX11_layQuietest 28 = .ok (.if_icmp .ge 44, 3) := by decide +kernel
theorem dX11_layQuietest_31 : decode cX11_layQuietest 31 = .ok (.aload_n 0, 1) := by decide +kernel
theorem dX11_layQuietest_32 : decode cX11_layQuietest 32 = .ok (.getfield 57, 3) := by decide +kernel
theorem dX11_layQuietest_35 : decode cX11_layQuietest 35 = .ok (.iload_n 2, 1) := by decide +kernel
theorem dX11_layQuietest_36 : decode cX11_layQuietest 36 = .ok (.dup2, 1) := by decide +kernel
theorem dX11_layQuietest_37 : decode cX11_layQuietest 37 = .ok (.iaload, 1) := by decide +kernel
theorem dX11_layQuietest_38 : decode cX11_layQuietest 38 = .ok (.aload_n 0, 1) := by decide +kernel
theorem dX11_layQuietest_39 : decode cX11_layQuietest 39 = .ok (.iload_n 2, 1) := by decide +kernel
theorem dX11_layQuietest_40 : decode cX11_layQuietest 40 = .ok (.iload_n 3, 1) := by decide +kernel
theorem dX11_layQuietest_41 : decode cX11_layQuietest 41 = .ok (.invokevirtual 276, 3) := by decide +kernel
theorem dX11_layQuietest_44 : decode cX11_layQuietest 44 = .ok (.aload_n 0, 1) := by decide +kernel
theorem dX11_layQuietest_45 : decode cX11_layQuietest 45 = .ok (.getfield 20, 3) := by decide +kernel
theorem dX11_layQuietest_48 : decode cX11_layQuietest 48 = .ok (.iload_n 3, 1) := by decide +kernel
theorem dX11_layQuietest_49 : decode cX11_layQuietest 49 = .ok (.iaload, 1) := by decide +kernel
theorem dX11_layQuietest_50 : decode cX11_layQuietest 50 = .ok (.imul, 1) := by decide +kernel
theorem dX11_layQuietest_51 : decode cX11_layQuietest 51 = .ok (.aload_n 0, 1) := by decide +kernel
theorem dX11_layQuietest_52 : decode cX11_layQuietest 52 = .ok (.getfield 24, 3) := by decide +kernel
theorem dX11_layQuietest_55 : decode cX11_layQuietest 55 = .ok (.bipush 8, 2) := by decide +kernel
theorem dX11_layQuietest_57 : decode cX11_layQuietest 57 = .ok (.iload_n 1, 1) := by decide +kernel
theorem dX11_layQuietest_58 : decode cX11_layQuietest 58 = .ok (.imul, 1) := by decide +kernel
theorem dX11_layQuietest_59 : decode cX11_layQuietest 59 = .ok (.bipush 6, 2) := by decide +kernel
theorem dX11_layQuietest_61 : decode cX11_layQuietest 61 = .ok (.iadd, 1) := by decide +kernel
theorem dX11_layQuietest_62 : decode cX11_layQuietest 62 = .ok (.iaload, 1) := by decide +kernel
theorem dX11_layQuietest_63 : decode cX11_layQuietest 63 = .ok (.imul, 1) := by decide +kernel
theorem dX11_layQuietest_64 : decode cX11_layQuietest 64 = .ok (.iadd, 1) := by decide +kernel
theorem dX11_layQuietest_65 : decode cX11_layQuietest 65 = .ok (.iastore, 1) := by decide +kernel
theorem dX11_layQuietest_66 : decode cX11_layQuietest 66 = .ok (.iinc 3 1, 3) := by decide +kernel
theorem dX11_layQuietest_69 : decode cX11_layQuietest 69 = .ok (.goto (-46), 3) := by decide +kernel
theorem dX11_layQuietest_72 : decode cX11_layQuietest 72 = .ok (.iinc 2 1, 3) := by decide +kernel
theorem dX11_layQuietest_75 : decode cX11_layQuietest 75 = .ok (.goto (-69), 3) := by decide +kernel
theorem dX11_layQuietest_78 : decode cX11_layQuietest 78 = .ok (.ldc 184, 2) := by decide +kernel
theorem dX11_layQuietest_80 : decode cX11_layQuietest 80 = .ok (.istore_n 2, 1) := by decide +kernel
theorem dX11_layQuietest_81 : decode cX11_layQuietest 81 = .ok (.iconst 0, 1) := by decide +kernel
theorem dX11_layQuietest_82 : decode cX11_layQuietest 82 = .ok (.istore_n 3, 1) := by decide +kernel
theorem dX11_layQuietest_83 : decode cX11_layQuietest 83 = .ok (.iconst 0, 1) := by decide +kernel
theorem dX11_layQuietest_84 : decode cX11_layQuietest 84 = .ok (.istore 4, 2) := by decide +kernel
theorem dX11_layQuietest_86 : decode cX11_layQuietest 86 = .ok (.aload_n 0, 1) := by decide +kernel
theorem dX11_layQuietest_87 : decode cX11_layQuietest 87 = .ok (.getfield 24, 3) := by decide +kernel
theorem dX11_layQuietest_90 : decode cX11_layQuietest 90 = .ok (.bipush 8, 2) := by decide +kernel
theorem dX11_layQuietest_92 : decode cX11_layQuietest 92 = .ok (.iload_n 1, 1) := by decide +kernel
theorem dX11_layQuietest_93 : decode cX11_layQuietest 93 = .ok (.imul, 1) := by decide +kernel
theorem dX11_layQuietest_94 : decode cX11_layQuietest 94 = .ok (.iconst 2, 1) := by decide +kernel
theorem dX11_layQuietest_95 : decode cX11_layQuietest 95 = .ok (.iadd, 1) := by decide +kernel
theorem dX11_layQuietest_96 : decode cX11_layQuietest 96 = .ok (.iaload, 1) := by decide +kernel
theorem dX11_layQuietest_97 : decode cX11_layQuietest 97 = .ok (.iconst 1, 1) := by decide +kernel
theorem dX11_layQuietest_98 : decode cX11_layQuietest 98 = .ok (.iadd, 1) := by decide +kernel
theorem dX11_layQuietest_99 : decode cX11_layQuietest 99 = .ok (.istore 5, 2) := by decide +kernel
theorem dX11_layQuietest_101 : decode cX11_layQuietest 101 = .ok (.iload 5, 2) := by decide +kernel
theorem dX11_layQuietest_103 : decode cX11_layQuietest 103 = .ok (.aload_n 0, 1) := by decide +kernel
theorem dX11_layQuietest_104 : decode cX11_layQuietest 104 = .ok (.getfield 24, 3) := by decide +kernel
theorem dX11_layQuietest_107 : decode cX11_layQuietest 107 = .ok (.bipush 8, 2) := by decide +kernel
theorem dX11_layQuietest_109 : decode cX11_layQuietest 109 = .ok (.iload_n 1, 1) := by decide +kernel
theorem dX11_layQuietest_110 : decode cX11_layQuietest 110 = .ok (.imul, 1) := by decide +kernel
theorem dX11_layQuietest_111 : decode cX11_layQuietest 111 = .ok (.iconst 3, 1) := by decide +kernel
theorem dX11_layQuietest_112 : decode cX11_layQuietest 112 = .ok (.iadd, 1) := by decide +kernel
theorem dX11_layQuietest_113 : decode cX11_layQuietest 113 = .ok (.iaload, 1) := by decide +kernel
theorem dX11_layQuietest_114 : decode cX11_layQuietest 114 = .ok (.if_icmp .gt 133, 3) := by decide +kernel
theorem dX11_layQuietest_117 : decode cX11_layQuietest 117 = .ok (.iload 5, 2) := by decide +kernel
theorem dX11_layQuietest_119 : decode cX11_layQuietest 119 = .ok (.aload_n 0, 1) := by decide +kernel
theorem dX11_layQuietest_120 : decode cX11_layQuietest 120 = .ok (.getfield 24, 3) := by decide +kernel
theorem dX11_layQuietest_123 : decode cX11_layQuietest 123 = .ok (.bipush 8, 2) := by decide +kernel
theorem dX11_layQuietest_125 : decode cX11_layQuietest 125 = .ok (.iload_n 1, 1) := by decide +kernel
theorem dX11_layQuietest_126 : decode cX11_layQuietest 126 = .ok (.imul, 1) := by decide +kernel
theorem dX11_layQuietest_127 : decode cX11_layQuietest 127 = .ok (.iconst 4, 1) := by decide +kernel
theorem dX11_layQuietest_128 : decode cX11_layQuietest 128 = .ok (.iadd, 1) := by decide +kernel
theorem dX11_layQuietest_129 : decode cX11_layQuietest 129 = .ok (.iaload, 1) := by decide +kernel
theorem dX11_layQuietest_130 : decode cX11_layQuietest 130 = .ok (.isub, 1) := by decide +kernel
theorem dX11_layQuietest_131 : decode cX11_layQuietest 131 = .ok (.aload_n 0, 1) := by decide +kernel
theorem dX11_layQuietest_132 : decode cX11_layQuietest 132 = .ok (.getfield 24, 3) := by decide +kernel
theorem dX11_layQuietest_135 : decode cX11_layQuietest 135 = .ok (.bipush 8, 2) := by decide +kernel
theorem dX11_layQuietest_137 : decode cX11_layQuietest 137 = .ok (.iload_n 1, 1) := by decide +kernel
theorem dX11_layQuietest_138 : decode cX11_layQuietest 138 = .ok (.imul, 1) := by decide +kernel
theorem dX11_layQuietest_139 : decode cX11_layQuietest 139 = .ok (.iconst 2, 1) := by decide +kernel
theorem dX11_layQuietest_140 : decode cX11_layQuietest 140 = .ok (.iadd, 1) := by decide +kernel
theorem dX11_layQuietest_141 : decode cX11_layQuietest 141 = .ok (.iaload, 1) := by decide +kernel
theorem dX11_layQuietest_142 : decode cX11_layQuietest 142 = .ok (.if_icmp .le 20, 3) := by decide +kernel
theorem dX11_layQuietest_145 : decode cX11_layQuietest 145 = .ok (.iload 5, 2) := by decide +kernel
theorem dX11_layQuietest_147 : decode cX11_layQuietest 147 = .ok (.aload_n 0, 1) := by decide +kernel
theorem dX11_layQuietest_148 : decode cX11_layQuietest 148 = .ok (.getfield 24, 3) := by decide +kernel
theorem dX11_layQuietest_151 : decode cX11_layQuietest 151 = .ok (.bipush 8, 2) := by decide +kernel
theorem dX11_layQuietest_153 : decode cX11_layQuietest 153 = .ok (.iload_n 1, 1) := by decide +kernel
theorem dX11_layQuietest_154 : decode cX11_layQuietest 154 = .ok (.imul, 1) := by decide +kernel
theorem dX11_layQuietest_155 : decode cX11_layQuietest 155 = .ok (.iconst 4, 1) := by decide +kernel
theorem dX11_layQuietest_156 : decode cX11_layQuietest 156 = .ok (.iadd, 1) := by decide +kernel
theorem dX11_layQuietest_157 : decode cX11_layQuietest 157 = .ok (.iaload, 1) := by decide +kernel
theorem dX11_layQuietest_158 : decode cX11_layQuietest 158 = .ok (.isub, 1) := by decide +kernel
theorem dX11_layQuietest_159 : decode cX11_layQuietest 159 = .ok (.goto 14, 3) := by decide +kernel
theorem dX11_layQuietest_162 : decode cX11_layQuietest 162 = .ok (.aload_n 0, 1) := by decide +kernel
theorem dX11_layQuietest_163 : decode cX11_layQuietest 163 = .ok (.getfield 24, 3) := by decide +kernel
theorem dX11_layQuietest_166 : decode cX11_layQuietest 166 = .ok (.bipush 8, 2) := by decide +kernel
theorem dX11_layQuietest_168 : decode cX11_layQuietest 168 = .ok (.iload_n 1, 1) := by decide +kernel
theorem dX11_layQuietest_169 : decode cX11_layQuietest 169 = .ok (.imul, 1) := by decide +kernel
theorem dX11_layQuietest_170 : decode cX11_layQuietest 170 = .ok (.iconst 2, 1) := by decide +kernel
theorem dX11_layQuietest_171 : decode cX11_layQuietest 171 = .ok (.iadd, 1) := by decide +kernel
theorem dX11_layQuietest_172 : decode cX11_layQuietest 172 = .ok (.iaload, 1) := by decide +kernel
theorem dX11_layQuietest_173 : decode cX11_layQuietest 173 = .ok (.istore 6, 2) := by decide +kernel
theorem dX11_layQuietest_175 : decode cX11_layQuietest 175 = .ok (.aload_n 0, 1) := by decide +kernel
theorem dX11_layQuietest_176 : decode cX11_layQuietest 176 = .ok (.iload_n 1, 1) := by decide +kernel
theorem dX11_layQuietest_177 : decode cX11_layQuietest 177 = .ok (.iload 5, 2) := by decide +kernel
theorem dX11_layQuietest_179 : decode cX11_layQuietest 179 = .ok (.iload 6, 2) := by decide +kernel
theorem dX11_layQuietest_181 : decode cX11_layQuietest 181 = .ok (.invokevirtual 197, 3) := by decide +kernel
theorem dX11_layQuietest_184 : decode cX11_layQuietest 184 = .ok (.iload 5, 2) := by decide +kernel
theorem dX11_layQuietest_186 : decode cX11_layQuietest 186 = .ok (.iconst 1, 1) := by decide +kernel
theorem dX11_layQuietest_187 : decode cX11_layQuietest 187 = .ok (.isub, 1) := by decide +kernel
theorem dX11_layQuietest_188 : decode cX11_layQuietest 188 = .ok (.istore 7, 2) := by decide +kernel
theorem dX11_layQuietest_190 : decode cX11_layQuietest 190 = .ok (.iload 7, 2) := by decide +kernel
theorem dX11_layQuietest_192 : decode cX11_layQuietest 192 = .ok (.iload 6, 2) := by decide +kernel
theorem dX11_layQuietest_194 : decode cX11_layQuietest 194 = .ok (.if_icmp .lt 47, 3) := by decide +kernel
theorem dX11_layQuietest_197 : decode cX11_layQuietest 197 = .ok (.aload_n 0, 1) := by decide +kernel
theorem dX11_layQuietest_198 : decode cX11_layQuietest 198 = .ok (.getfield 54, 3) := by decide +kernel
theorem dX11_layQuietest_201 : decode cX11_layQuietest 201 = .ok (.bipush 36, 2) := by decide +kernel
theorem dX11_layQuietest_203 : decode cX11_layQuietest 203 = .ok (.iload 7, 2) := by decide +kernel
theorem dX11_layQuietest_205 : decode cX11_layQuietest 205 = .ok (.imul, 1) := by decide +kernel
theorem dX11_layQuietest_206 : decode cX11_layQuietest 206 = .ok (.aload_n 0, 1) := by decide +kernel
theorem dX11_layQuietest_207 : decode cX11_layQuietest 207 = .ok (.getfield 24, 3) := by decide +kernel
theorem dX11_layQuietest_210 : decode cX11_layQuietest 210 = .ok (.bipush 8, 2) := by decide +kernel
theorem dX11_layQuietest_212 : decode cX11_layQuietest 212 = .ok (.iload_n 1, 1) := by decide +kernel
theorem dX11_layQuietest_213 : decode cX11_layQuietest 213 = .ok (.imul, 1) := by decide +kernel
theorem dX11_layQuietest_214 : decode cX11_layQuietest 214 = .ok (.iaload, 1) := by decide +kernel
theorem dX11_layQuietest_215 : decode cX11_layQuietest 215 = .ok (.iadd, 1) := by decide +kernel
theorem dX11_layQuietest_216 : decode cX11_layQuietest 216 = .ok (.iaload, 1) := by decide +kernel
theorem dX11_layQuietest_217 : decode cX11_layQuietest 217 = .ok (.istore 8, 2) := by decide +kernel
theorem dX11_layQuietest_219 : decode cX11_layQuietest 219 = .ok (.iload 8, 2) := by decide +kernel
theorem dX11_layQuietest_221 : decode cX11_layQuietest 221 = .ok (.iload_n 2, 1) := by decide +kernel
theorem dX11_layQuietest_222 : decode cX11_layQuietest 222 = .ok (.if_icmp .ge 13, 3) := by decide +kernel
theorem dX11_layQuietest_225 : decode cX11_layQuietest 225 = .ok (.iload 8, 2) := by decide +kernel
theorem dX11_layQuietest_227 : decode cX11_layQuietest 227 = .ok (.istore_n 2, 1) := by decide +kernel
theorem dX11_layQuietest_228 : decode cX11_layQuietest 228 = .ok (.iload 7, 2) := by decide +kernel
theorem dX11_layQuietest_230 : decode cX11_layQuietest 230 = .ok (.istore_n 3, 1) := by decide +kernel
theorem dX11_layQuietest_231 : decode cX11_layQuietest 231 = .ok (.iload 5, 2) := by decide +kernel
theorem dX11_layQuietest_233 : decode cX11_layQuietest 233 = .ok (.istore 4, 2) := by decide +kernel
theorem dX11_layQuietest_235 : decode cX11_layQuietest 235 = .ok (.iinc 7 (-1), 3) := by decide +kernel
theorem dX11_layQuietest_238 : decode cX11_layQuietest 238 = .ok (.goto (-48), 3) := by decide +kernel
theorem dX11_layQuietest_241 : decode cX11_layQuietest 241 = .ok (.iinc 5 1, 3) := by decide +kernel
theorem dX11_layQuietest_244 : decode cX11_layQuietest 244 = .ok (.goto (-143), 3) := by decide +kernel
theorem dX11_layQuietest_247 : decode cX11_layQuietest 247 = .ok (.iload_n 2, 1) := by decide +kernel
theorem dX11_layQuietest_248 : decode cX11_layQuietest 248 = .ok (.ldc 184, 2) := by decide +kernel
theorem dX11_layQuietest_250 : decode cX11_layQuietest 250 = .ok (.if_icmp .ne 6, 3) := by decide +kernel
theorem dX11_layQuietest_253 : decode cX11_layQuietest 253 = .ok (.ldc 66, 2) := by decide +kernel
theorem dX11_layQuietest_255 : decode cX11_layQuietest 255 = .ok (.ireturn, 1) := by decide +kernel
theorem dX11_layQuietest_256 : decode cX11_layQuietest 256 = .ok (.aload_n 0, 1) := by decide +kernel
theorem dX11_layQuietest_257 : decode cX11_layQuietest 257 = .ok (.iload_n 3, 1) := by decide +kernel
theorem dX11_layQuietest_258 : decode cX11_layQuietest 258 = .ok (.putfield 178, 3) := by decide +kernel
theorem dX11_layQuietest_261 : decode cX11_layQuietest 261 = .ok (.aload_n 0, 1) := by decide +kernel
theorem dX11_layQuietest_262 : decode cX11_layQuietest 262 = .ok (.iload 4, 2) := by decide +kernel
theorem dX11_layQuietest_264 : decode cX11_layQuietest 264 = .ok (.putfield 181, 3) := by decide +kernel
theorem dX11_layQuietest_267 : decode cX11_layQuietest 267 = .ok (.aload_n 0, 1) := by decide +kernel
theorem dX11_layQuietest_268 : decode cX11_layQuietest 268 = .ok (.iload_n 1, 1) := by decide +kernel
theorem dX11_layQuietest_269 : decode cX11_layQuietest 269 = .ok (.iload 4, 2) := by decide +kernel
theorem dX11_layQuietest_271 : decode cX11_layQuietest 271 = .ok (.iload_n 3, 1) := by decide +kernel
theorem dX11_layQuietest_272 : decode cX11_layQuietest 272 = .ok (.invokevirtual 197, 3) := by decide +kernel
theorem dX11_layQuietest_275 : decode cX11_layQuietest 275 = .ok (.aload_n 0, 1) := by decide +kernel
theorem dX11_layQuietest_276 : decode cX11_layQuietest 276 = .ok (.iload_n 1, 1) := by decide +kernel
theorem dX11_layQuietest_277 : decode cX11_layQuietest 277 = .ok (.invokevirtual 201, 3) := by decide +kernel
theorem dX11_layQuietest_280 : decode cX11_layQuietest 280 = .ok (.iload_n 2, 1) := by decide +kernel
theorem dX11_layQuietest_281 : decode cX11_layQuietest 281 = .ok (.ireturn, 1) := by decide +kernel
theorem dX11_quietest_0 : decode cX11_quietest 0 = .ok (.aload_n 0, 1) := by decide +kernel
theorem dX11_quietest_1 : decode cX11_quietest 1 = .ok (.iload_n 1, 1) := by decide +kernel
theorem dX11_quietest_2 : decode cX11_quietest 2 = .ok (.invokevirtual 205, 3) := by decide +kernel
theorem dX11_quietest_5 : decode cX11_quietest 5 = .ok (.istore_n 2, 1) := by decide +kernel
theorem dX11_quietest_6 : decode cX11_quietest 6 = .ok (.iload_n 2, 1) := by decide +kernel
theorem dX11_quietest_7 : decode cX11_quietest 7 = .ok (.ifCond .ge 7, 3) := by decide +kernel
theorem dX11_quietest_10 : decode cX11_quietest 10 = .ok (.iload_n 2, 1) := by decide +kernel
theorem dX11_quietest_11 : decode cX11_quietest 11 = .ok (.goto 8, 3) := by decide +kernel
theorem dX11_quietest_14 : decode cX11_quietest 14 = .ok (.aload_n 0, 1) := by decide +kernel
theorem dX11_quietest_15 : decode cX11_quietest 15 = .ok (.iload_n 1, 1) := by decide +kernel
theorem dX11_quietest_16 : decode cX11_quietest 16 = .ok (.invokevirtual 282, 3) := by decide +kernel
theorem dX11_quietest_19 : decode cX11_quietest 19 = .ok (.ireturn, 1) := by decide +kernel
theorem dX11_price_0 : decode cX11_price 0 = .ok (.aload_n 0, 1) := by decide +kernel
theorem dX11_price_1 : decode cX11_price 1 = .ok (.iload_n 1, 1) := by decide +kernel
theorem dX11_price_2 : decode cX11_price 2 = .ok (.invokevirtual 205, 3) := by decide +kernel
theorem dX11_price_5 : decode cX11_price 5 = .ok (.istore_n 2, 1) := by decide +kernel
theorem dX11_price_6 : decode cX11_price 6 = .ok (.iload_n 2, 1) := by decide +kernel
theorem dX11_price_7 : decode cX11_price 7 = .ok (.ifCond .ge 5, 3) := by decide +kernel
theorem dX11_price_10 : decode cX11_price 10 = .ok (.iload_n 2, 1) := by decide +kernel
theorem dX11_price_11 : decode cX11_price 11 = .ok (.ireturn, 1) := by decide +kernel
theorem dX11_price_12 : decode cX11_price 12 = .ok (.aload_n 0, 1) := by decide +kernel
theorem dX11_price_13 : decode cX11_price 13 = .ok (.iload_n 1, 1) := by decide +kernel
theorem dX11_price_14 : decode cX11_price 14 = .ok (.invokevirtual 282, 3) := by decide +kernel
theorem dX11_price_17 : decode cX11_price 17 = .ok (.ldc 66, 2) := by decide +kernel
theorem dX11_price_19 : decode cX11_price 19 = .ok (.if_icmp .ne 6, 3) := by decide +kernel
theorem dX11_price_22 : decode cX11_price 22 = .ok (.ldc 66, 2) := by decide +kernel
theorem dX11_price_24 : decode cX11_price 24 = .ok (.ireturn, 1) := by decide +kernel
theorem dX11_price_25 : decode cX11_price 25 = .ok (.aload_n 0, 1) := by decide +kernel
theorem dX11_price_26 : decode cX11_price 26 = .ok (.getfield 181, 3) := by decide +kernel
theorem dX11_price_29 : decode cX11_price 29 = .ok (.istore_n 3, 1) := by decide +kernel
theorem dX11_price_30 : decode cX11_price 30 = .ok (.aload_n 0, 1) := by decide +kernel
theorem dX11_price_31 : decode cX11_price 31 = .ok (.iload_n 1, 1) := by decide +kernel
theorem dX11_price_32 : decode cX11_price 32 = .ok (.invokevirtual 211, 3) := by decide +kernel
theorem dX11_price_35 : decode cX11_price 35 = .ok (.istore 4, 2) := by decide +kernel
theorem dX11_price_37 : decode cX11_price 37 = .ok (.iload_n 3, 1) := by decide +kernel
theorem dX11_price_38 : decode cX11_price 38 = .ok (.aload_n 0, 1) := by decide +kernel
theorem dX11_price_39 : decode cX11_price 39 = .ok (.getfield 181, 3) := by decide +kernel
theorem dX11_price_42 : decode cX11_price 42 = .ok (.isub, 1) := by decide +kernel
theorem dX11_price_43 : decode cX11_price 43 = .ok (.ireturn, 1) := by decide +kernel
theorem dX11_quietAt_0 : decode cX11_quietAt 0 = .ok (.aload_n 0, 1) := by decide +kernel
theorem dX11_quietAt_1 : decode cX11_quietAt 1 = .ok (.iload_n 1, 1) := by decide +kernel
theorem dX11_quietAt_2 : decode cX11_quietAt 2 = .ok (.invokevirtual 155, 3) := by decide +kernel
theorem dX11_quietAt_5 : decode cX11_quietAt 5 = .ok (.ifCond .ne 6, 3) := by decide +kernel
theorem dX11_quietAt_8 : decode cX11_quietAt 8 = .ok (.ldc 114, 2) := by decide +kernel
theorem dX11_quietAt_10 : decode cX11_quietAt 10 = .ok (.ireturn, 1) := by decide +kernel
theorem dX11_quietAt_11 : decode cX11_quietAt 11 = .ok (.iload_n 2, 1) := by decide +kernel
theorem dX11_quietAt_12 : decode cX11_quietAt 12 = .ok (.i2l, 1) := by decide +kernel
theorem dX11_quietAt_13 : decode cX11_quietAt 13 = .ok (.lconst 0, 1) := by decide +kernel
theorem dX11_quietAt_14 : decode cX11_quietAt 14 = .ok (.lconst 1, 1) := by decide +kernel
theorem dX11_quietAt_15 : decode cX11_quietAt 15 = .ok (.invokestatic 82, 3) := by decide +kernel
theorem dX11_quietAt_18 : decode cX11_quietAt 18 = .ok (.ifCond .ne 6, 3) := by decide +kernel
theorem dX11_quietAt_21 : decode cX11_quietAt 21 = .ok (.ldc 109, 2) := by decide +kernel
theorem dX11_quietAt_23 : decode cX11_quietAt 23 = .ok (.ireturn, 1) := by decide +kernel
theorem dX11_quietAt_24 : decode cX11_quietAt 24 = .ok (.aload_n 0, 1) := by decide +kernel
theorem dX11_quietAt_25 : decode cX11_quietAt 25 = .ok (.getfield 33, 3) := by decide +kernel
theorem dX11_quietAt_28 : decode cX11_quietAt 28 = .ok (.iload_n 1, 1) := by decide +kernel
theorem dX11_quietAt_29 : decode cX11_quietAt 29 = .ok (.baload, 1) := by decide +kernel
theorem dX11_quietAt_30 : decode cX11_quietAt 30 = .ok (.ifCond .eq 6, 3) := by decide +kernel
theorem dX11_quietAt_33 : decode cX11_quietAt 33 = .ok (.ldc 154, 2) := by decide +kernel
theorem dX11_quietAt_35 : decode cX11_quietAt 35 = .ok (.ireturn, 1) := by decide +kernel
theorem dX11_quietAt_36 : decode cX11_quietAt 36 = .ok (.aload_n 0, 1) := by decide +kernel
theorem dX11_quietAt_37 : decode cX11_quietAt 37 = .ok (.iload_n 1, 1) := by decide +kernel
theorem dX11_quietAt_38 : decode cX11_quietAt 38 = .ok (.invokevirtual 282, 3) := by decide +kernel
theorem dX11_quietAt_41 : decode cX11_quietAt 41 = .ok (.ldc 66, 2) := by decide +kernel
theorem dX11_quietAt_43 : decode cX11_quietAt 43 = .ok (.if_icmp .ne 8, 3) := by decide +kernel
theorem dX11_quietAt_46 : decode cX11_quietAt 46 = .ok (.ldc 66, 2) := by decide +kernel
theorem dX11_quietAt_48 : decode cX11_quietAt 48 = .ok (.goto 9, 3) := by decide +kernel
theorem dX11_quietAt_51 : decode cX11_quietAt 51 = .ok (.aload_n 0, 1) := by decide +kernel
theorem dX11_quietAt_52 : decode cX11_quietAt 52 = .ok (.iload_n 2, 1) := by decide +kernel
theorem dX11_quietAt_53 : decode cX11_quietAt 53 = .ok (.iload_n 3, 1) := by decide +kernel
theorem dX11_quietAt_54 : decode cX11_quietAt 54 = .ok (.invokevirtual 214, 3) := by decide +kernel
theorem dX11_quietAt_57 : decode cX11_quietAt 57 = .ok (.ireturn, 1) := by decide +kernel
theorem dX11_giveQuiet_0 : decode cX11_giveQuiet 0 = .ok (.aload_n 0, 1) := by decide +kernel
theorem dX11_giveQuiet_1 : decode cX11_giveQuiet 1 = .ok (.iload_n 1, 1) := by decide +kernel
theorem dX11_giveQuiet_2 : decode cX11_giveQuiet 2 = .ok (.invokevirtual 205, 3) := by decide +kernel
theorem dX11_giveQuiet_5 : decode cX11_giveQuiet 5 = .ok (.istore_n 2, 1) := by decide +kernel
theorem dX11_giveQuiet_6 : decode cX11_giveQuiet 6 = .ok (.iload_n 2, 1) := by decide +kernel
theorem dX11_giveQuiet_7 : decode cX11_giveQuiet 7 = .ok (.ifCond .ge 5, 3) := by decide +kernel
theorem dX11_giveQuiet_10 : decode cX11_giveQuiet 10 = .ok (.iload_n 2, 1) := by decide +kernel
theorem dX11_giveQuiet_11 : decode cX11_giveQuiet 11 = .ok (.ireturn, 1) := by decide +kernel
theorem dX11_giveQuiet_12 : decode cX11_giveQuiet 12 = .ok (.aload_n 0, 1) := by decide +kernel
theorem dX11_giveQuiet_13 : decode cX11_giveQuiet 13 = .ok (.iload_n 1, 1) := by decide +kernel
theorem dX11_giveQuiet_14 : decode cX11_giveQuiet 14 = .ok (.invokevirtual 282, 3) := by decide +kernel
theorem dX11_giveQuiet_17 : decode cX11_giveQuiet 17 = .ok (.ldc 66, 2) := by decide +kernel
theorem dX11_giveQuiet_19 : decode cX11_giveQuiet 19 = .ok (.if_icmp .ne 6, 3) := by decide +kernel
theorem dX11_giveQuiet_22 : decode cX11_giveQuiet 22 = .ok (.ldc 154, 2) := by decide +kernel
theorem dX11_giveQuiet_24 : decode cX11_giveQuiet 24 = .ok (.ireturn, 1) := by decide +kernel
theorem dX11_giveQuiet_25 : decode cX11_giveQuiet 25 = .ok (.aload_n 0, 1) := by decide +kernel
theorem dX11_giveQuiet_26 : decode cX11_giveQuiet 26 = .ok (.iload_n 1, 1) := by decide +kernel
theorem dX11_giveQuiet_27 : decode cX11_giveQuiet 27 = .ok (.invokevirtual 217, 3) := by decide +kernel
theorem dX11_giveQuiet_30 : decode cX11_giveQuiet 30 = .ok (.aload_n 0, 1) := by decide +kernel
theorem dX11_giveQuiet_31 : decode cX11_giveQuiet 31 = .ok (.getfield 181, 3) := by decide +kernel
theorem dX11_giveQuiet_34 : decode cX11_giveQuiet 34 = .ok (.ireturn, 1) := by decide +kernel
theorem dX11_count_0 : decode cX11_count 0 = .ok (.iconst 0, 1) := by decide +kernel
theorem dX11_count_1 : decode cX11_count 1 = .ok (.istore_n 2, 1) := by decide +kernel
theorem dX11_count_2 : decode cX11_count 2 = .ok (.iconst 0, 1) := by decide +kernel
theorem dX11_count_3 : decode cX11_count 3 = .ok (.istore_n 3, 1) := by decide +kernel
theorem dX11_count_4 : decode cX11_count 4 = .ok (.iload_n 3, 1) := by decide +kernel
theorem dX11_count_5 : decode cX11_count 5 = .ok (.aload_n 0, 1) := by decide +kernel
theorem dX11_count_6 : decode cX11_count 6 = .ok (.getfield 98, 3) := by decide +kernel
theorem dX11_count_9 : decode cX11_count 9 = .ok (.if_icmp .ge 38, 3) := by decide +kernel
theorem dX11_count_12 : decode cX11_count 12 = .ok (.iload_n 2, 1) := by decide +kernel
theorem dX11_count_13 : decode cX11_count 13 = .ok (.aload_n 0, 1) := by decide +kernel
theorem dX11_count_14 : decode cX11_count 14 = .ok (.getfield 33, 3) := by decide +kernel
theorem dX11_count_17 : decode cX11_count 17 = .ok (.iload_n 3, 1) := by decide +kernel
theorem dX11_count_18 : decode cX11_count 18 = .ok (.baload, 1) := by decide +kernel
theorem dX11_count_19 : decode cX11_count 19 = .ok (.ifCond .eq 19, 3) := by decide +kernel
theorem dX11_count_22 : decode cX11_count 22 = .ok (.aload_n 0, 1) := by decide +kernel
theorem dX11_count_23 : decode cX11_count 23 = .ok (.getfield 30, 3) := by decide +kernel
theorem dX11_count_26 : decode cX11_count 26 = .ok (.iload_n 3, 1) := by decide +kernel
theorem dX11_count_27 : decode cX11_count 27 = .ok (.iaload, 1) := by decide +kernel
theorem dX11_count_28 : decode cX11_count 28 = .ok (.aload_n 0, 1) := by decide +kernel
theorem dX11_count_29 : decode cX11_count 29 = .ok (.getfield 27, 3) := by decide +kernel
theorem dX11_count_32 : decode cX11_count 32 = .ok (.iload_n 3, 1) := by decide +kernel
theorem dX11_count_33 : decode cX11_count 33 = .ok (.iaload, 1) := by decide +kernel
theorem dX11_count_34 : decode cX11_count 34 = .ok (.isub, 1) := by decide +kernel
theorem dX11_count_35 : decode cX11_count 35 = .ok (.goto 4, 3) := by decide +kernel
theorem dX11_count_38 : decode cX11_count 38 = .ok (.iconst 0, 1) := by decide +kernel
theorem dX11_count_39 : decode cX11_count 39 = .ok (.iadd, 1) := by decide +kernel
theorem dX11_count_40 : decode cX11_count 40 = .ok (.istore_n 2, 1) := by decide +kernel
theorem dX11_count_41 : decode cX11_count 41 = .ok (.iinc 3 1, 3) := by decide +kernel
theorem dX11_count_44 : decode cX11_count 44 = .ok (.goto (-40), 3) := by decide +kernel
theorem dX11_count_47 : decode cX11_count 47 = .ok (.iload_n 1, 1) := by decide +kernel
theorem dX11_count_48 : decode cX11_count 48 = .ok (.tableswitch 70 0 5 #[40, 45, 50, 55, 60, 68], 40) := by decide +kernel
theorem dX11_count_88 : decode cX11_count 88 = .ok (.aload_n 0, 1) := by decide +kernel
theorem dX11_count_89 : decode cX11_count 89 = .ok (.invokevirtual 101, 3) := by decide +kernel
theorem dX11_count_92 : decode cX11_count 92 = .ok (.ireturn, 1) := by decide +kernel
theorem dX11_count_93 : decode cX11_count 93 = .ok (.aload_n 0, 1) := by decide +kernel
theorem dX11_count_94 : decode cX11_count 94 = .ok (.getfield 92, 3) := by decide +kernel
theorem dX11_count_97 : decode cX11_count 97 = .ok (.ireturn, 1) := by decide +kernel
theorem dX11_count_98 : decode cX11_count 98 = .ok (.aload_n 0, 1) := by decide +kernel
theorem dX11_count_99 : decode cX11_count 99 = .ok (.getfield 95, 3) := by decide +kernel
theorem dX11_count_102 : decode cX11_count 102 = .ok (.ireturn, 1) := by decide +kernel
theorem dX11_count_103 : decode cX11_count 103 = .ok (.aload_n 0, 1) := by decide +kernel
theorem dX11_count_104 : decode cX11_count 104 = .ok (.getfield 98, 3) := by decide +kernel
theorem dX11_count_107 : decode cX11_count 107 = .ok (.ireturn, 1) := by decide +kernel
theorem dX11_count_108 : decode cX11_count 108 = .ok (.aload_n 0, 1) := by decide +kernel
theorem dX11_count_109 : decode cX11_count 109 = .ok (.invokevirtual 223, 3) := by decide +kernel
theorem dX11_count_112 : decode cX11_count 112 = .ok (.invokestatic 226, 3) := by decide +kernel
theorem dX11_count_115 : decode cX11_count 115 = .ok (.ireturn, 1) := by decide +kernel
theorem dX11_count_116 : decode cX11_count 116 = .ok (.iload_n 2, 1) := by decide +kernel
theorem dX11_count_117 : decode cX11_count 117 = .ok (.ireturn, 1) := by decide +kernel
theorem dX11_count_118 : decode cX11_count 118 = .ok (.ldc 109, 2) := by decide +kernel
theorem dX11_count_120 : decode cX11_count 120 = .ok (.ireturn, 1) := by decide +kernel
theorem dJ6_bitCount_0f7a4_0 : decode cJ6_bitCount_0f7a4 0 = .ok (.iload_n 0, 1) := by decide +kernel
theorem dJ6_bitCount_0f7a4_1 : decode cJ6_bitCount_0f7a4 1 = .ok (.iload_n 0, 1) := by decide +kernel
theorem dJ6_bitCount_0f7a4_2 : decode cJ6_bitCount_0f7a4 2 = .ok (.iconst 1, 1) := by decide +kernel
theorem dJ6_bitCount_0f7a4_3 : decode cJ6_bitCount_0f7a4 3 = .ok (.iushr, 1) := by decide +kernel
theorem dJ6_bitCount_0f7a4_4 : decode cJ6_bitCount_0f7a4 4 = .ok (.ldc_w 265, 3) := by decide +kernel
theorem dJ6_bitCount_0f7a4_7 : decode cJ6_bitCount_0f7a4 7 = .ok (.iand, 1) := by decide +kernel
theorem dJ6_bitCount_0f7a4_8 : decode cJ6_bitCount_0f7a4 8 = .ok (.isub, 1) := by decide +kernel
theorem dJ6_bitCount_0f7a4_9 : decode cJ6_bitCount_0f7a4 9 = .ok (.istore_n 0, 1) := by decide +kernel
theorem dJ6_bitCount_0f7a4_10 : decode cJ6_bitCount_0f7a4 10 = .ok (.iload_n 0, 1) := by decide +kernel
theorem dJ6_bitCount_0f7a4_11 : decode cJ6_bitCount_0f7a4 11 = .ok (.ldc_w 266, 3) := by decide +kernel
theorem dJ6_bitCount_0f7a4_14 : decode cJ6_bitCount_0f7a4 14 = .ok (.iand, 1) := by decide +kernel
theorem dJ6_bitCount_0f7a4_15 : decode cJ6_bitCount_0f7a4 15 = .ok (.iload_n 0, 1) := by decide +kernel
theorem dJ6_bitCount_0f7a4_16 : decode cJ6_bitCount_0f7a4 16 = .ok (.iconst 2, 1) := by decide +kernel
theorem dJ6_bitCount_0f7a4_17 : decode cJ6_bitCount_0f7a4 17 = .ok (.iushr, 1) := by decide +kernel
theorem dJ6_bitCount_0f7a4_18 : decode cJ6_bitCount_0f7a4 18 = .ok (.ldc_w 266, 3) := by decide +kernel
theorem dJ6_bitCount_0f7a4_21 : decode cJ6_bitCount_0f7a4 21 = .ok (.iand, 1) := by decide +kernel
theorem dJ6_bitCount_0f7a4_22 : decode cJ6_bitCount_0f7a4 22 = .ok (.iadd, 1) := by decide +kernel
theorem dJ6_bitCount_0f7a4_23 : decode cJ6_bitCount_0f7a4 23 = .ok (.istore_n 0, 1) := by decide +kernel
theorem dJ6_bitCount_0f7a4_24 : decode cJ6_bitCount_0f7a4 24 = .ok (.iload_n 0, 1) := by decide +kernel
theorem dJ6_bitCount_0f7a4_25 : decode cJ6_bitCount_0f7a4 25 = .ok (.iload_n 0, 1) := by decide +kernel
theorem dJ6_bitCount_0f7a4_26 : decode cJ6_bitCount_0f7a4 26 = .ok (.iconst 4, 1) := by decide +kernel
theorem dJ6_bitCount_0f7a4_27 : decode cJ6_bitCount_0f7a4 27 = .ok (.iushr, 1) := by decide +kernel
theorem dJ6_bitCount_0f7a4_28 : decode cJ6_bitCount_0f7a4 28 = .ok (.iadd, 1) := by decide +kernel
theorem dJ6_bitCount_0f7a4_29 : decode cJ6_bitCount_0f7a4 29 = .ok (.ldc_w 267, 3) := by decide +kernel
theorem dJ6_bitCount_0f7a4_32 : decode cJ6_bitCount_0f7a4 32 = .ok (.iand, 1) := by decide +kernel
theorem dJ6_bitCount_0f7a4_33 : decode cJ6_bitCount_0f7a4 33 = .ok (.istore_n 0, 1) := by decide +kernel
theorem dJ6_bitCount_0f7a4_34 : decode cJ6_bitCount_0f7a4 34 = .ok (.iload_n 0, 1) := by decide +kernel
theorem dJ6_bitCount_0f7a4_35 : decode cJ6_bitCount_0f7a4 35 = .ok (.iload_n 0, 1) := by decide +kernel
theorem dJ6_bitCount_0f7a4_36 : decode cJ6_bitCount_0f7a4 36 = .ok (.bipush 8, 2) := by decide +kernel
theorem dJ6_bitCount_0f7a4_38 : decode cJ6_bitCount_0f7a4 38 = .ok (.iushr, 1) := by decide +kernel
theorem dJ6_bitCount_0f7a4_39 : decode cJ6_bitCount_0f7a4 39 = .ok (.iadd, 1) := by decide +kernel
theorem dJ6_bitCount_0f7a4_40 : decode cJ6_bitCount_0f7a4 40 = .ok (.istore_n 0, 1) := by decide +kernel
theorem dJ6_bitCount_0f7a4_41 : decode cJ6_bitCount_0f7a4 41 = .ok (.iload_n 0, 1) := by decide +kernel
theorem dJ6_bitCount_0f7a4_42 : decode cJ6_bitCount_0f7a4 42 = .ok (.iload_n 0, 1) := by decide +kernel
theorem dJ6_bitCount_0f7a4_43 : decode cJ6_bitCount_0f7a4 43 = .ok (.bipush 16, 2) := by decide +kernel
theorem dJ6_bitCount_0f7a4_45 : decode cJ6_bitCount_0f7a4 45 = .ok (.iushr, 1) := by decide +kernel
theorem dJ6_bitCount_0f7a4_46 : decode cJ6_bitCount_0f7a4 46 = .ok (.iadd, 1) := by decide +kernel
theorem dJ6_bitCount_0f7a4_47 : decode cJ6_bitCount_0f7a4 47 = .ok (.istore_n 0, 1) := by decide +kernel
theorem dJ6_bitCount_0f7a4_48 : decode cJ6_bitCount_0f7a4 48 = .ok (.iload_n 0, 1) := by decide +kernel
theorem dJ6_bitCount_0f7a4_49 : decode cJ6_bitCount_0f7a4 49 = .ok (.bipush 63, 2) := by decide +kernel
theorem dJ6_bitCount_0f7a4_51 : decode cJ6_bitCount_0f7a4 51 = .ok (.iand, 1) := by decide +kernel
theorem dJ6_bitCount_0f7a4_52 : decode cJ6_bitCount_0f7a4 52 = .ok (.ireturn, 1) := by decide +kernel
theorem dJ13_bitCount_95d88_0 : decode cJ13_bitCount_95d88 0 = .ok (.lload_n 0, 1) := by decide +kernel
theorem dJ13_bitCount_95d88_1 : decode cJ13_bitCount_95d88 1 = .ok (.lload_n 0, 1) := by decide +kernel
theorem dJ13_bitCount_95d88_2 : decode cJ13_bitCount_95d88 2 = .ok (.iconst 1, 1) := by decide +kernel
theorem dJ13_bitCount_95d88_3 : decode cJ13_bitCount_95d88 3 = .ok (.lushr, 1) := by decide +kernel
theorem dJ13_bitCount_95d88_4 : decode cJ13_bitCount_95d88 4 = .ok (.ldc2_w 314, 3) := by decide +kernel
theorem dJ13_bitCount_95d88_7 : decode cJ13_bitCount_95d88 7 = .ok (.land, 1) := by decide +kernel
theorem dJ13_bitCount_95d88_8 : decode cJ13_bitCount_95d88 8 = .ok (.lsub, 1) := by decide +kernel
theorem dJ13_bitCount_95d88_9 : decode cJ13_bitCount_95d88 9 = .ok (.lstore_n 0, 1) := by decide +kernel
theorem dJ13_bitCount_95d88_10 : decode cJ13_bitCount_95d88 10 = .ok (.lload_n 0, 1) := by decide +kernel
theorem dJ13_bitCount_95d88_11 : decode cJ13_bitCount_95d88 11 = .ok (.ldc2_w 316, 3) := by decide +kernel
theorem dJ13_bitCount_95d88_14 : decode cJ13_bitCount_95d88 14 = .ok (.land, 1) := by decide +kernel
theorem dJ13_bitCount_95d88_15 : decode cJ13_bitCount_95d88 15 = .ok (.lload_n 0, 1) := by decide +kernel
theorem dJ13_bitCount_95d88_16 : decode cJ13_bitCount_95d88 16 = .ok (.iconst 2, 1) := by decide +kernel
theorem dJ13_bitCount_95d88_17 : decode cJ13_bitCount_95d88 17 = .ok (.lushr, 1) := by decide +kernel
theorem dJ13_bitCount_95d88_18 : decode cJ13_bitCount_95d88 18 = .ok (.ldc2_w 316, 3) := by decide +kernel
theorem dJ13_bitCount_95d88_21 : decode cJ13_bitCount_95d88 21 = .ok (.land, 1) := by decide +kernel
theorem dJ13_bitCount_95d88_22 : decode cJ13_bitCount_95d88 22 = .ok (.ladd, 1) := by decide +kernel
theorem dJ13_bitCount_95d88_23 : decode cJ13_bitCount_95d88 23 = .ok (.lstore_n 0, 1) := by decide +kernel
theorem dJ13_bitCount_95d88_24 : decode cJ13_bitCount_95d88 24 = .ok (.lload_n 0, 1) := by decide +kernel
theorem dJ13_bitCount_95d88_25 : decode cJ13_bitCount_95d88 25 = .ok (.lload_n 0, 1) := by decide +kernel
theorem dJ13_bitCount_95d88_26 : decode cJ13_bitCount_95d88 26 = .ok (.iconst 4, 1) := by decide +kernel
theorem dJ13_bitCount_95d88_27 : decode cJ13_bitCount_95d88 27 = .ok (.lushr, 1) := by decide +kernel
theorem dJ13_bitCount_95d88_28 : decode cJ13_bitCount_95d88 28 = .ok (.ladd, 1) := by decide +kernel
theorem dJ13_bitCount_95d88_29 : decode cJ13_bitCount_95d88 29 = .ok (.ldc2_w 318, 3) := by decide +kernel
theorem dJ13_bitCount_95d88_32 : decode cJ13_bitCount_95d88 32 = .ok (.land, 1) := by decide +kernel
theorem dJ13_bitCount_95d88_33 : decode cJ13_bitCount_95d88 33 = .ok (.lstore_n 0, 1) := by decide +kernel
theorem dJ13_bitCount_95d88_34 : decode cJ13_bitCount_95d88 34 = .ok (.lload_n 0, 1) := by decide +kernel
theorem dJ13_bitCount_95d88_35 : decode cJ13_bitCount_95d88 35 = .ok (.lload_n 0, 1) := by decide +kernel
theorem dJ13_bitCount_95d88_36 : decode cJ13_bitCount_95d88 36 = .ok (.bipush 8, 2) := by decide +kernel
theorem dJ13_bitCount_95d88_38 : decode cJ13_bitCount_95d88 38 = .ok (.lushr, 1) := by decide +kernel
theorem dJ13_bitCount_95d88_39 : decode cJ13_bitCount_95d88 39 = .ok (.ladd, 1) := by decide +kernel
theorem dJ13_bitCount_95d88_40 : decode cJ13_bitCount_95d88 40 = .ok (.lstore_n 0, 1) := by decide +kernel
theorem dJ13_bitCount_95d88_41 : decode cJ13_bitCount_95d88 41 = .ok (.lload_n 0, 1) := by decide +kernel
theorem dJ13_bitCount_95d88_42 : decode cJ13_bitCount_95d88 42 = .ok (.lload_n 0, 1) := by decide +kernel
theorem dJ13_bitCount_95d88_43 : decode cJ13_bitCount_95d88 43 = .ok (.bipush 16, 2) := by decide +kernel
theorem dJ13_bitCount_95d88_45 : decode cJ13_bitCount_95d88 45 = .ok (.lushr, 1) := by decide +kernel
theorem dJ13_bitCount_95d88_46 : decode cJ13_bitCount_95d88 46 = .ok (.ladd, 1) := by decide +kernel
theorem dJ13_bitCount_95d88_47 : decode cJ13_bitCount_95d88 47 = .ok (.lstore_n 0, 1) := by decide +kernel
theorem dJ13_bitCount_95d88_48 : decode cJ13_bitCount_95d88 48 = .ok (.lload_n 0, 1) := by decide +kernel
theorem dJ13_bitCount_95d88_49 : decode cJ13_bitCount_95d88 49 = .ok (.lload_n 0, 1) := by decide +kernel
theorem dJ13_bitCount_95d88_50 : decode cJ13_bitCount_95d88 50 = .ok (.bipush 32, 2) := by decide +kernel
theorem dJ13_bitCount_95d88_52 : decode cJ13_bitCount_95d88 52 = .ok (.lushr, 1) := by decide +kernel
theorem dJ13_bitCount_95d88_53 : decode cJ13_bitCount_95d88 53 = .ok (.ladd, 1) := by decide +kernel
theorem dJ13_bitCount_95d88_54 : decode cJ13_bitCount_95d88 54 = .ok (.lstore_n 0, 1) := by decide +kernel
theorem dJ13_bitCount_95d88_55 : decode cJ13_bitCount_95d88 55 = .ok (.lload_n 0, 1) := by decide +kernel
theorem dJ13_bitCount_95d88_56 : decode cJ13_bitCount_95d88 56 = .ok (.l2i, 1) := by decide +kernel
theorem dJ13_bitCount_95d88_57 : decode cJ13_bitCount_95d88 57 = .ok (.bipush 127, 2) := by decide +kernel
theorem dJ13_bitCount_95d88_59 : decode cJ13_bitCount_95d88 59 = .ok (.iand, 1) := by decide +kernel
theorem dJ13_bitCount_95d88_60 : decode cJ13_bitCount_95d88 60 = .ok (.ireturn, 1) := by decide +kernel
theorem dJ9_abs_0f7a4_0 : decode cJ9_abs_0f7a4 0 = .ok (.iload_n 0, 1) := by decide +kernel
theorem dJ9_abs_0f7a4_1 : decode cJ9_abs_0f7a4 1 = .ok (.ifCond .ge 8, 3) := by decide +kernel
theorem dJ9_abs_0f7a4_4 : decode cJ9_abs_0f7a4 4 = .ok (.iload_n 0, 1) := by decide +kernel
theorem dJ9_abs_0f7a4_5 : decode cJ9_abs_0f7a4 5 = .ok (.ineg, 1) := by decide +kernel
theorem dJ9_abs_0f7a4_6 : decode cJ9_abs_0f7a4 6 = .ok (.goto 4, 3) := by decide +kernel
theorem dJ9_abs_0f7a4_9 : decode cJ9_abs_0f7a4 9 = .ok (.iload_n 0, 1) := by decide +kernel
theorem dJ9_abs_0f7a4_10 : decode cJ9_abs_0f7a4 10 = .ok (.ireturn, 1) := by decide +kernel
theorem dJ9_max_7cf53_0 : decode cJ9_max_7cf53 0 = .ok (.iload_n 0, 1) := by decide +kernel
theorem dJ9_max_7cf53_1 : decode cJ9_max_7cf53 1 = .ok (.iload_n 1, 1) := by decide +kernel
theorem dJ9_max_7cf53_2 : decode cJ9_max_7cf53 2 = .ok (.if_icmp .lt 7, 3) := by decide +kernel
theorem dJ9_max_7cf53_5 : decode cJ9_max_7cf53 5 = .ok (.iload_n 0, 1) := by decide +kernel
theorem dJ9_max_7cf53_6 : decode cJ9_max_7cf53 6 = .ok (.goto 4, 3) := by decide +kernel
theorem dJ9_max_7cf53_9 : decode cJ9_max_7cf53 9 = .ok (.iload_n 1, 1) := by decide +kernel
theorem dJ9_max_7cf53_10 : decode cJ9_max_7cf53 10 = .ok (.ireturn, 1) := by decide +kernel
theorem dJ9_min_7cf53_0 : decode cJ9_min_7cf53 0 = .ok (.iload_n 0, 1) := by decide +kernel
theorem dJ9_min_7cf53_1 : decode cJ9_min_7cf53 1 = .ok (.iload_n 1, 1) := by decide +kernel
theorem dJ9_min_7cf53_2 : decode cJ9_min_7cf53 2 = .ok (.if_icmp .gt 7, 3) := by decide +kernel
theorem dJ9_min_7cf53_5 : decode cJ9_min_7cf53 5 = .ok (.iload_n 0, 1) := by decide +kernel
theorem dJ9_min_7cf53_6 : decode cJ9_min_7cf53 6 = .ok (.goto 4, 3) := by decide +kernel
theorem dJ9_min_7cf53_9 : decode cJ9_min_7cf53 9 = .ok (.iload_n 1, 1) := by decide +kernel
theorem dJ9_min_7cf53_10 : decode cJ9_min_7cf53 10 = .ok (.ireturn, 1) := by decide +kernel
theorem dL_law_0 : decode cL_law 0 = .ok (.new 7, 3) := by decide +kernel
theorem dL_law_3 : decode cL_law 3 = .ok (.dup, 1) := by decide +kernel
theorem dL_law_4 : decode cL_law 4 = .ok (.invokespecial 9, 3) := by decide +kernel
theorem dL_law_7 : decode cL_law 7 = .ok (.astore_n 1, 1) := by decide +kernel
theorem dL_law_8 : decode cL_law 8 = .ok (.new 10, 3) := by decide +kernel
theorem dL_law_11 : decode cL_law 11 = .ok (.dup, 1) := by decide +kernel
theorem dL_law_12 : decode cL_law 12 = .ok (.invokespecial 12, 3) := by decide +kernel
theorem dL_law_15 : decode cL_law 15 = .ok (.astore_n 2, 1) := by decide +kernel
theorem dL_law_16 : decode cL_law 16 = .ok (.iconst 0, 1) := by decide +kernel
theorem dL_law_17 : decode cL_law 17 = .ok (.istore_n 3, 1) := by decide +kernel
theorem dL_law_18 : decode cL_law 18 = .ok (.iload_n 3, 1) := by decide +kernel
theorem dL_law_19 : decode cL_law 19 = .ok (.aload_n 0, 1) := by decide +kernel
theorem dL_law_20 : decode cL_law 20 = .ok (.arraylength, 1) := by decide +kernel
theorem dL_law_21 : decode cL_law 21 = .ok (.bipush 8, 2) := by decide +kernel
theorem dL_law_23 : decode cL_law 23 = .ok (.isub, 1) := by decide +kernel
theorem dL_law_24 : decode cL_law 24 = .ok (.if_icmp .gt 1211, 3) := by decide +kernel
theorem dL_law_27 : decode cL_law 27 = .ok (.aload_n 0, 1) := by decide +kernel
theorem dL_law_28 : decode cL_law 28 = .ok (.iload_n 3, 1) := by decide +kernel
theorem dL_law_29 : decode cL_law 29 = .ok (.iaload, 1) := by decide +kernel
theorem dL_law_30 : decode cL_law 30 = .ok (.bipush 63, 2) := by decide +kernel
theorem dL_law_32 : decode cL_law 32 = .ok (.iand, 1) := by decide +kernel
theorem dL_law_33 : decode cL_law 33 = .ok (.tableswitch 1196 0 32 #[147, 180, 223, 266, 299, 332, 365, 452, 485, 508, 551, 574, 597, 620, 653, 696, 719, 752, 775, 808, 831, 874, 897, 930, 943, 966, 989, 1022, 1045, 1084, 1107, 1130, 1173], 147) := by decide +kernel
theorem dL_law_180 : decode cL_law 180 = .ok (.aload_n 1, 1) := by decide +kernel
theorem dL_law_181 : decode cL_law 181 = .ok (.aload_n 0, 1) := by decide +kernel
theorem dL_law_182 : decode cL_law 182 = .ok (.iload_n 3, 1) := by decide +kernel
theorem dL_law_183 : decode cL_law 183 = .ok (.iconst 1, 1) := by decide +kernel
theorem dL_law_184 : decode cL_law 184 = .ok (.iadd, 1) := by decide +kernel
theorem dL_law_185 : decode cL_law 185 = .ok (.iaload, 1) := by decide +kernel
theorem dL_law_186 : decode cL_law 186 = .ok (.aload_n 0, 1) := by decide +kernel
theorem dL_law_187 : decode cL_law 187 = .ok (.iload_n 3, 1) := by decide +kernel
theorem dL_law_188 : decode cL_law 188 = .ok (.iconst 2, 1) := by decide +kernel
theorem dL_law_189 : decode cL_law 189 = .ok (.iadd, 1) := by decide +kernel
theorem dL_law_190 : decode cL_law 190 = .ok (.iaload, 1) := by decide +kernel
theorem dL_law_191 : decode cL_law 191 = .ok (.invokevirtual 13, 3) := by decide +kernel
theorem dL_law_194 : decode cL_law 194 = .ok (.aload_n 2, 1) := by decide +kernel
theorem dL_law_195 : decode cL_law 195 = .ok (.aload_n 0, 1) := by decide +kernel
theorem dL_law_196 : decode cL_law 196 = .ok (.iload_n 3, 1) := by decide +kernel
theorem dL_law_197 : decode cL_law 197 = .ok (.iconst 1, 1) := by decide +kernel
theorem dL_law_198 : decode cL_law 198 = .ok (.iadd, 1) := by decide +kernel
theorem dL_law_199 : decode cL_law 199 = .ok (.iaload, 1) := by decide +kernel
theorem dL_law_200 : decode cL_law 200 = .ok (.aload_n 0, 1) := by decide +kernel
theorem dL_law_201 : decode cL_law 201 = .ok (.iload_n 3, 1) := by decide +kernel
theorem dL_law_202 : decode cL_law 202 = .ok (.iconst 2, 1) := by decide +kernel
theorem dL_law_203 : decode cL_law 203 = .ok (.iadd, 1) := by decide +kernel
theorem dL_law_204 : decode cL_law 204 = .ok (.iaload, 1) := by decide +kernel
theorem dL_law_205 : decode cL_law 205 = .ok (.invokevirtual 17, 3) := by decide +kernel
theorem dL_law_208 : decode cL_law 208 = .ok (.if_icmp .eq 1021, 3) := by decide +kernel
theorem dL_law_211 : decode cL_law 211 = .ok (.iconst 0, 1) := by decide +kernel
theorem dL_law_212 : decode cL_law 212 = .ok (.ireturn, 1) := by decide +kernel
theorem dL_law_213 : decode cL_law 213 = .ok (.aload_n 1, 1) := by decide +kernel
theorem dL_law_214 : decode cL_law 214 = .ok (.aload_n 0, 1) := by decide +kernel
theorem dL_law_215 : decode cL_law 215 = .ok (.iload_n 3, 1) := by decide +kernel
theorem dL_law_216 : decode cL_law 216 = .ok (.iconst 1, 1) := by decide +kernel
theorem dL_law_217 : decode cL_law 217 = .ok (.iadd, 1) := by decide +kernel
theorem dL_law_218 : decode cL_law 218 = .ok (.iaload, 1) := by decide +kernel
theorem dL_law_219 : decode cL_law 219 = .ok (.aload_n 0, 1) := by decide +kernel
theorem dL_law_220 : decode cL_law 220 = .ok (.iload_n 3, 1) := by decide +kernel
theorem dL_law_221 : decode cL_law 221 = .ok (.iconst 2, 1) := by decide +kernel
theorem dL_law_222 : decode cL_law 222 = .ok (.iadd, 1) := by decide +kernel
theorem dL_law_223 : decode cL_law 223 = .ok (.iaload, 1) := by decide +kernel
theorem dL_law_224 : decode cL_law 224 = .ok (.aload_n 0, 1) := by decide +kernel
theorem dL_law_225 : decode cL_law 225 = .ok (.iload_n 3, 1) := by decide +kernel
theorem dL_law_226 : decode cL_law 226 = .ok (.iconst 3, 1) := by decide +kernel
theorem dL_law_227 : decode cL_law 227 = .ok (.iadd, 1) := by decide +kernel
theorem dL_law_228 : decode cL_law 228 = .ok (.iaload, 1) := by decide +kernel
theorem dL_law_229 : decode cL_law 229 = .ok (.invokevirtual 18, 3) := by decide +kernel
theorem dL_law_232 : decode cL_law 232 = .ok (.aload_n 2, 1) := by decide +kernel
theorem dL_law_233 : decode cL_law 233 = .ok (.aload_n 0, 1) := by decide +kernel
theorem dL_law_234 : decode cL_law 234 = .ok (.iload_n 3, 1) := by decide +kernel
theorem dL_law_235 : decode cL_law 235 = .ok (.iconst 1, 1) := by decide +kernel
theorem dL_law_236 : decode cL_law 236 = .ok (.iadd, 1) := by decide +kernel
theorem dL_law_237 : decode cL_law 237 = .ok (.iaload, 1) := by decide +kernel
theorem dL_law_238 : decode cL_law 238 = .ok (.aload_n 0, 1) := by decide +kernel
theorem dL_law_239 : decode cL_law 239 = .ok (.iload_n 3, 1) := by decide +kernel
theorem dL_law_240 : decode cL_law 240 = .ok (.iconst 2, 1) := by decide +kernel
theorem dL_law_241 : decode cL_law 241 = .ok (.iadd, 1) := by decide +kernel
theorem dL_law_242 : decode cL_law 242 = .ok (.iaload, 1) := by decide +kernel
theorem dL_law_243 : decode cL_law 243 = .ok (.aload_n 0, 1) := by decide +kernel
theorem dL_law_244 : decode cL_law 244 = .ok (.iload_n 3, 1) := by decide +kernel
theorem dL_law_245 : decode cL_law 245 = .ok (.iconst 3, 1) := by decide +kernel
theorem dL_law_246 : decode cL_law 246 = .ok (.iadd, 1) := by decide +kernel
theorem dL_law_247 : decode cL_law 247 = .ok (.iaload, 1) := by decide +kernel
theorem dL_law_248 : decode cL_law 248 = .ok (.invokevirtual 22, 3) := by decide +kernel
theorem dL_law_251 : decode cL_law 251 = .ok (.if_icmp .eq 978, 3) := by decide +kernel
theorem dL_law_254 : decode cL_law 254 = .ok (.iconst 0, 1) := by decide +kernel
theorem dL_law_255 : decode cL_law 255 = .ok (.ireturn, 1) := by decide +kernel
theorem dL_law_256 : decode cL_law 256 = .ok (.aload_n 1, 1) := by decide +kernel
theorem dL_law_257 : decode cL_law 257 = .ok (.aload_n 0, 1) := by decide +kernel
theorem dL_law_258 : decode cL_law 258 = .ok (.iload_n 3, 1) := by decide +kernel
theorem dL_law_259 : decode cL_law 259 = .ok (.iconst 1, 1) := by decide +kernel
theorem dL_law_260 : decode cL_law 260 = .ok (.iadd, 1) := by decide +kernel
theorem dL_law_261 : decode cL_law 261 = .ok (.iaload, 1) := by decide +kernel
theorem dL_law_262 : decode cL_law 262 = .ok (.aload_n 0, 1) := by decide +kernel
theorem dL_law_263 : decode cL_law 263 = .ok (.iload_n 3, 1) := by decide +kernel
theorem dL_law_264 : decode cL_law 264 = .ok (.iconst 2, 1) := by decide +kernel
theorem dL_law_265 : decode cL_law 265 = .ok (.iadd, 1) := by decide +kernel
theorem dL_law_266 : decode cL_law 266 = .ok (.iaload, 1) := by decide +kernel
theorem dL_law_267 : decode cL_law 267 = .ok (.aload_n 0, 1) := by decide +kernel
theorem dL_law_268 : decode cL_law 268 = .ok (.iload_n 3, 1) := by decide +kernel
theorem dL_law_269 : decode cL_law 269 = .ok (.iconst 3, 1) := by decide +kernel
theorem dL_law_270 : decode cL_law 270 = .ok (.iadd, 1) := by decide +kernel
theorem dL_law_271 : decode cL_law 271 = .ok (.iaload, 1) := by decide +kernel
theorem dL_law_272 : decode cL_law 272 = .ok (.invokevirtual 23, 3) := by decide +kernel
theorem dL_law_275 : decode cL_law 275 = .ok (.aload_n 2, 1) := by decide +kernel
theorem dL_law_276 : decode cL_law 276 = .ok (.aload_n 0, 1) := by decide +kernel
theorem dL_law_277 : decode cL_law 277 = .ok (.iload_n 3, 1) := by decide +kernel
theorem dL_law_278 : decode cL_law 278 = .ok (.iconst 1, 1) := by decide +kernel
theorem dL_law_279 : decode cL_law 279 = .ok (.iadd, 1) := by decide +kernel
theorem dL_law_280 : decode cL_law 280 = .ok (.iaload, 1) := by decide +kernel
theorem dL_law_281 : decode cL_law 281 = .ok (.aload_n 0, 1) := by decide +kernel
theorem dL_law_282 : decode cL_law 282 = .ok (.iload_n 3, 1) := by decide +kernel
theorem dL_law_283 : decode cL_law 283 = .ok (.iconst 2, 1) := by decide +kernel
theorem dL_law_284 : decode cL_law 284 = .ok (.iadd, 1) := by decide +kernel
theorem dL_law_285 : decode cL_law 285 = .ok (.iaload, 1) := by decide +kernel
theorem dL_law_286 : decode cL_law 286 = .ok (.aload_n 0, 1) := by decide +kernel
theorem dL_law_287 : decode cL_law 287 = .ok (.iload_n 3, 1) := by decide +kernel
theorem dL_law_288 : decode cL_law 288 = .ok (.iconst 3, 1) := by decide +kernel
theorem dL_law_289 : decode cL_law 289 = .ok (.iadd, 1) := by decide +kernel
theorem dL_law_290 : decode cL_law 290 = .ok (.iaload, 1) := by decide +kernel
theorem dL_law_291 : decode cL_law 291 = .ok (.invokevirtual 26, 3) := by decide +kernel
theorem dL_law_294 : decode cL_law 294 = .ok (.if_icmp .eq 935, 3) := by decide +kernel
theorem dL_law_297 : decode cL_law 297 = .ok (.iconst 0, 1) := by decide +kernel
theorem dL_law_298 : decode cL_law 298 = .ok (.ireturn, 1) := by decide +kernel
theorem dL_law_299 : decode cL_law 299 = .ok (.aload_n 1, 1) := by decide +kernel
theorem dL_law_300 : decode cL_law 300 = .ok (.aload_n 0, 1) := by decide +kernel
theorem dL_law_301 : decode cL_law 301 = .ok (.iload_n 3, 1) := by decide +kernel
theorem dL_law_302 : decode cL_law 302 = .ok (.iconst 1, 1) := by decide +kernel
theorem dL_law_303 : decode cL_law 303 = .ok (.iadd, 1) := by decide +kernel
theorem dL_law_304 : decode cL_law 304 = .ok (.iaload, 1) := by decide +kernel
theorem dL_law_305 : decode cL_law 305 = .ok (.aload_n 0, 1) := by decide +kernel
theorem dL_law_306 : decode cL_law 306 = .ok (.iload_n 3, 1) := by decide +kernel
theorem dL_law_307 : decode cL_law 307 = .ok (.iconst 2, 1) := by decide +kernel
theorem dL_law_308 : decode cL_law 308 = .ok (.iadd, 1) := by decide +kernel
theorem dL_law_309 : decode cL_law 309 = .ok (.iaload, 1) := by decide +kernel
theorem dL_law_310 : decode cL_law 310 = .ok (.invokevirtual 27, 3) := by decide +kernel
theorem dL_law_313 : decode cL_law 313 = .ok (.aload_n 2, 1) := by decide +kernel
theorem dL_law_314 : decode cL_law 314 = .ok (.aload_n 0, 1) := by decide +kernel
theorem dL_law_315 : decode cL_law 315 = .ok (.iload_n 3, 1) := by decide +kernel
theorem dL_law_316 : decode cL_law 316 = .ok (.iconst 1, 1) := by decide +kernel
theorem dL_law_317 : decode cL_law 317 = .ok (.iadd, 1) := by decide +kernel
theorem dL_law_318 : decode cL_law 318 = .ok (.iaload, 1) := by decide +kernel
theorem dL_law_319 : decode cL_law 319 = .ok (.aload_n 0, 1) := by decide +kernel
theorem dL_law_320 : decode cL_law 320 = .ok (.iload_n 3, 1) := by decide +kernel
theorem dL_law_321 : decode cL_law 321 = .ok (.iconst 2, 1) := by decide +kernel
theorem dL_law_322 : decode cL_law 322 = .ok (.iadd, 1) := by decide +kernel
theorem dL_law_323 : decode cL_law 323 = .ok (.iaload, 1) := by decide +kernel
theorem dL_law_324 : decode cL_law 324 = .ok (.invokevirtual 30, 3) := by decide +kernel
theorem dL_law_327 : decode cL_law 327 = .ok (.if_icmp .eq 902, 3) := by decide +kernel
theorem dL_law_330 : decode cL_law 330 = .ok (.iconst 0, 1) := by decide +kernel
theorem dL_law_331 : decode cL_law 331 = .ok (.ireturn, 1) := by decide +kernel
theorem dL_law_332 : decode cL_law 332 = .ok (.aload_n 1, 1) := by decide +kernel
theorem dL_law_333 : decode cL_law 333 = .ok (.aload_n 0, 1) := by decide +kernel
theorem dL_law_334 : decode cL_law 334 = .ok (.iload_n 3, 1) := by decide +kernel
theorem dL_law_335 : decode cL_law 335 = .ok (.iconst 1, 1) := by decide +kernel
theorem dL_law_336 : decode cL_law 336 = .ok (.iadd, 1) := by decide +kernel
theorem dL_law_337 : decode cL_law 337 = .ok (.iaload, 1) := by decide +kernel
theorem dL_law_338 : decode cL_law 338 = .ok (.aload_n 0, 1) := by decide +kernel
theorem dL_law_339 : decode cL_law 339 = .ok (.iload_n 3, 1) := by decide +kernel
theorem dL_law_340 : decode cL_law 340 = .ok (.iconst 2, 1) := by decide +kernel
theorem dL_law_341 : decode cL_law 341 = .ok (.iadd, 1) := by decide +kernel
theorem dL_law_342 : decode cL_law 342 = .ok (.iaload, 1) := by decide +kernel
theorem dL_law_343 : decode cL_law 343 = .ok (.invokevirtual 31, 3) := by decide +kernel
theorem dL_law_346 : decode cL_law 346 = .ok (.aload_n 2, 1) := by decide +kernel
theorem dL_law_347 : decode cL_law 347 = .ok (.aload_n 0, 1) := by decide +kernel
theorem dL_law_348 : decode cL_law 348 = .ok (.iload_n 3, 1) := by decide +kernel
theorem dL_law_349 : decode cL_law 349 = .ok (.iconst 1, 1) := by decide +kernel
theorem dL_law_350 : decode cL_law 350 = .ok (.iadd, 1) := by decide +kernel
theorem dL_law_351 : decode cL_law 351 = .ok (.iaload, 1) := by decide +kernel
theorem dL_law_352 : decode cL_law 352 = .ok (.aload_n 0, 1) := by decide +kernel
theorem dL_law_353 : decode cL_law 353 = .ok (.iload_n 3, 1) := by decide +kernel
theorem dL_law_354 : decode cL_law 354 = .ok (.iconst 2, 1) := by decide +kernel
theorem dL_law_355 : decode cL_law 355 = .ok (.iadd, 1) := by decide +kernel
theorem dL_law_356 : decode cL_law 356 = .ok (.iaload, 1) := by decide +kernel
theorem dL_law_357 : decode cL_law 357 = .ok (.invokevirtual 34, 3) := by decide +kernel
theorem dL_law_360 : decode cL_law 360 = .ok (.if_icmp .eq 869, 3) := by decide +kernel
theorem dL_law_363 : decode cL_law 363 = .ok (.iconst 0, 1) := by decide +kernel
theorem dL_law_364 : decode cL_law 364 = .ok (.ireturn, 1) := by decide +kernel
theorem dL_law_365 : decode cL_law 365 = .ok (.aload_n 1, 1) := by decide +kernel
theorem dL_law_366 : decode cL_law 366 = .ok (.aload_n 0, 1) := by decide +kernel
theorem dL_law_367 : decode cL_law 367 = .ok (.iload_n 3, 1) := by decide +kernel
theorem dL_law_368 : decode cL_law 368 = .ok (.iconst 1, 1) := by decide +kernel
theorem dL_law_369 : decode cL_law 369 = .ok (.iadd, 1) := by decide +kernel
theorem dL_law_370 : decode cL_law 370 = .ok (.iaload, 1) := by decide +kernel
theorem dL_law_371 : decode cL_law 371 = .ok (.aload_n 0, 1) := by decide +kernel
theorem dL_law_372 : decode cL_law 372 = .ok (.iload_n 3, 1) := by decide +kernel
theorem dL_law_373 : decode cL_law 373 = .ok (.iconst 2, 1) := by decide +kernel
theorem dL_law_374 : decode cL_law 374 = .ok (.iadd, 1) := by decide +kernel
theorem dL_law_375 : decode cL_law 375 = .ok (.iaload, 1) := by decide +kernel
theorem dL_law_376 : decode cL_law 376 = .ok (.invokevirtual 35, 3) := by decide +kernel
theorem dL_law_379 : decode cL_law 379 = .ok (.aload_n 2, 1) := by decide +kernel
theorem dL_law_380 : decode cL_law 380 = .ok (.aload_n 0, 1) := by decide +kernel
theorem dL_law_381 : decode cL_law 381 = .ok (.iload_n 3, 1) := by decide +kernel
theorem dL_law_382 : decode cL_law 382 = .ok (.iconst 1, 1) := by decide +kernel
theorem dL_law_383 : decode cL_law 383 = .ok (.iadd, 1) := by decide +kernel
theorem dL_law_384 : decode cL_law 384 = .ok (.iaload, 1) := by decide +kernel
theorem dL_law_385 : decode cL_law 385 = .ok (.aload_n 0, 1) := by decide +kernel
theorem dL_law_386 : decode cL_law 386 = .ok (.iload_n 3, 1) := by decide +kernel
theorem dL_law_387 : decode cL_law 387 = .ok (.iconst 2, 1) := by decide +kernel
theorem dL_law_388 : decode cL_law 388 = .ok (.iadd, 1) := by decide +kernel
theorem dL_law_389 : decode cL_law 389 = .ok (.iaload, 1) := by decide +kernel
theorem dL_law_390 : decode cL_law 390 = .ok (.invokevirtual 38, 3) := by decide +kernel
theorem dL_law_393 : decode cL_law 393 = .ok (.if_icmp .eq 836, 3) := by decide +kernel
theorem dL_law_396 : decode cL_law 396 = .ok (.iconst 0, 1) := by decide +kernel
theorem dL_law_397 : decode cL_law 397 = .ok (.ireturn, 1) := by decide +kernel
theorem dL_law_398 : decode cL_law 398 = .ok (.aload_n 1, 1) := by decide +kernel
theorem dL_law_399 : decode cL_law 399 = .ok (.aload_n 0, 1) := by decide +kernel
theorem dL_law_400 : decode cL_law 400 = .ok (.iload_n 3, 1) := by decide +kernel
theorem dL_law_401 : decode cL_law 401 = .ok (.iconst 1, 1) := by decide +kernel
theorem dL_law_402 : decode cL_law 402 = .ok (.iadd, 1) := by decide +kernel
theorem dL_law_403 : decode cL_law 403 = .ok (.iaload, 1) := by decide +kernel
theorem dL_law_404 : decode cL_law 404 = .ok (.aload_n 0, 1) := by decide +kernel
theorem dL_law_405 : decode cL_law 405 = .ok (.iload_n 3, 1) := by decide +kernel
theorem dL_law_406 : decode cL_law 406 = .ok (.iconst 2, 1) := by decide +kernel
theorem dL_law_407 : decode cL_law 407 = .ok (.iadd, 1) := by decide +kernel
theorem dL_law_408 : decode cL_law 408 = .ok (.iaload, 1) := by decide +kernel
theorem dL_law_409 : decode cL_law 409 = .ok (.aload_n 0, 1) := by decide +kernel
theorem dL_law_410 : decode cL_law 410 = .ok (.iload_n 3, 1) := by decide +kernel
theorem dL_law_411 : decode cL_law 411 = .ok (.iconst 3, 1) := by decide +kernel
theorem dL_law_412 : decode cL_law 412 = .ok (.iadd, 1) := by decide +kernel
theorem dL_law_413 : decode cL_law 413 = .ok (.iaload, 1) := by decide +kernel
theorem dL_law_414 : decode cL_law 414 = .ok (.aload_n 0, 1) := by decide +kernel
theorem dL_law_415 : decode cL_law 415 = .ok (.iload_n 3, 1) := by decide +kernel
theorem dL_law_416 : decode cL_law 416 = .ok (.iconst 4, 1) := by decide +kernel
theorem dL_law_417 : decode cL_law 417 = .ok (.iadd, 1) := by decide +kernel
theorem dL_law_418 : decode cL_law 418 = .ok (.iaload, 1) := by decide +kernel
theorem dL_law_419 : decode cL_law 419 = .ok (.aload_n 0, 1) := by decide +kernel
theorem dL_law_420 : decode cL_law 420 = .ok (.iload_n 3, 1) := by decide +kernel
theorem dL_law_421 : decode cL_law 421 = .ok (.iconst 5, 1) := by decide +kernel
theorem dL_law_422 : decode cL_law 422 = .ok (.iadd, 1) := by decide +kernel
theorem dL_law_423 : decode cL_law 423 = .ok (.iaload, 1) := by decide +kernel
theorem dL_law_424 : decode cL_law 424 = .ok (.aload_n 0, 1) := by decide +kernel
theorem dL_law_425 : decode cL_law 425 = .ok (.iload_n 3, 1) := by decide +kernel
theorem dL_law_426 : decode cL_law 426 = .ok (.bipush 6, 2) := by decide +kernel
theorem dL_law_428 : decode cL_law 428 = .ok (.iadd, 1) := by decide +kernel
theorem dL_law_429 : decode cL_law 429 = .ok (.iaload, 1) := by decide +kernel
theorem dL_law_430 : decode cL_law 430 = .ok (.aload_n 0, 1) := by decide +kernel
theorem dL_law_431 : decode cL_law 431 = .ok (.iload_n 3, 1) := by decide +kernel
theorem dL_law_432 : decode cL_law 432 = .ok (.bipush 7, 2) := by decide +kernel
theorem dL_law_434 : decode cL_law 434 = .ok (.iadd, 1) := by decide +kernel
theorem dL_law_435 : decode cL_law 435 = .ok (.iaload, 1) := by decide +kernel
theorem dL_law_436 : decode cL_law 436 = .ok (.invokevirtual 39, 3) := by decide +kernel
theorem dL_law_439 : decode cL_law 439 = .ok (.aload_n 2, 1) := by decide +kernel
theorem dL_law_440 : decode cL_law 440 = .ok (.aload_n 0, 1) := by decide +kernel
theorem dL_law_441 : decode cL_law 441 = .ok (.iload_n 3, 1) := by decide +kernel
theorem dL_law_442 : decode cL_law 442 = .ok (.iconst 1, 1) := by decide +kernel
theorem dL_law_443 : decode cL_law 443 = .ok (.iadd, 1) := by decide +kernel
theorem dL_law_444 : decode cL_law 444 = .ok (.iaload, 1) := by decide +kernel
theorem dL_law_445 : decode cL_law 445 = .ok (.aload_n 0, 1) := by decide +kernel
theorem dL_law_446 : decode cL_law 446 = .ok (.iload_n 3, 1) := by decide +kernel
theorem dL_law_447 : decode cL_law 447 = .ok (.iconst 2, 1) := by decide +kernel
theorem dL_law_448 : decode cL_law 448 = .ok (.iadd, 1) := by decide +kernel
theorem dL_law_449 : decode cL_law 449 = .ok (.iaload, 1) := by decide +kernel
theorem dL_law_450 : decode cL_law 450 = .ok (.aload_n 0, 1) := by decide +kernel
theorem dL_law_451 : decode cL_law 451 = .ok (.iload_n 3, 1) := by decide +kernel
theorem dL_law_452 : decode cL_law 452 = .ok (.iconst 3, 1) := by decide +kernel
theorem dL_law_453 : decode cL_law 453 = .ok (.iadd, 1) := by decide +kernel
theorem dL_law_454 : decode cL_law 454 = .ok (.iaload, 1) := by decide +kernel
theorem dL_law_455 : decode cL_law 455 = .ok (.aload_n 0, 1) := by decide +kernel
theorem dL_law_456 : decode cL_law 456 = .ok (.iload_n 3, 1) := by decide +kernel
theorem dL_law_457 : decode cL_law 457 = .ok (.iconst 4, 1) := by decide +kernel
theorem dL_law_458 : decode cL_law 458 = .ok (.iadd, 1) := by decide +kernel
theorem dL_law_459 : decode cL_law 459 = .ok (.iaload, 1) := by decide +kernel
theorem dL_law_460 : decode cL_law 460 = .ok (.aload_n 0, 1) := by decide +kernel
theorem dL_law_461 : decode cL_law 461 = .ok (.iload_n 3, 1) := by decide +kernel
theorem dL_law_462 : decode cL_law 462 = .ok (.iconst 5, 1) := by decide +kernel
theorem dL_law_463 : decode cL_law 463 = .ok (.iadd, 1) := by decide +kernel
theorem dL_law_464 : decode cL_law 464 = .ok (.iaload, 1) := by decide +kernel
theorem dL_law_465 : decode cL_law 465 = .ok (.aload_n 0, 1) := by decide +kernel
theorem dL_law_466 : decode cL_law 466 = .ok (.iload_n 3, 1) := by decide +kernel
theorem dL_law_467 : decode cL_law 467 = .ok (.bipush 6, 2) := by decide +kernel
theorem dL_law_469 : decode cL_law 469 = .ok (.iadd, 1) := by decide +kernel
theorem dL_law_470 : decode cL_law 470 = .ok (.iaload, 1) := by decide +kernel
theorem dL_law_471 : decode cL_law 471 = .ok (.aload_n 0, 1) := by decide +kernel
theorem dL_law_472 : decode cL_law 472 = .ok (.iload_n 3, 1) := by decide +kernel
theorem dL_law_473 : decode cL_law 473 = .ok (.bipush 7, 2) := by decide +kernel
theorem dL_law_475 : decode cL_law 475 = .ok (.iadd, 1) := by decide +kernel
theorem dL_law_476 : decode cL_law 476 = .ok (.iaload, 1) := by decide +kernel
theorem dL_law_477 : decode cL_law 477 = .ok (.invokevirtual 43, 3) := by decide +kernel
theorem dL_law_480 : decode cL_law 480 = .ok (.if_icmp .eq 749, 3) := by decide +kernel
theorem dL_law_483 : decode cL_law 483 = .ok (.iconst 0, 1) := by decide +kernel
theorem dL_law_484 : decode cL_law 484 = .ok (.ireturn, 1) := by decide +kernel
theorem dL_law_485 : decode cL_law 485 = .ok (.aload_n 1, 1) := by decide +kernel
theorem dL_law_486 : decode cL_law 486 = .ok (.aload_n 0, 1) := by decide +kernel
theorem dL_law_487 : decode cL_law 487 = .ok (.iload_n 3, 1) := by decide +kernel
theorem dL_law_488 : decode cL_law 488 = .ok (.iconst 1, 1) := by decide +kernel
theorem dL_law_489 : decode cL_law 489 = .ok (.iadd, 1) := by decide +kernel
theorem dL_law_490 : decode cL_law 490 = .ok (.iaload, 1) := by decide +kernel
theorem dL_law_491 : decode cL_law 491 = .ok (.aload_n 0, 1) := by decide +kernel
theorem dL_law_492 : decode cL_law 492 = .ok (.iload_n 3, 1) := by decide +kernel
theorem dL_law_493 : decode cL_law 493 = .ok (.iconst 2, 1) := by decide +kernel
theorem dL_law_494 : decode cL_law 494 = .ok (.iadd, 1) := by decide +kernel
theorem dL_law_495 : decode cL_law 495 = .ok (.iaload, 1) := by decide +kernel
theorem dL_law_496 : decode cL_law 496 = .ok (.invokevirtual 44, 3) := by decide +kernel
theorem dL_law_499 : decode cL_law 499 = .ok (.aload_n 2, 1) := by decide +kernel
theorem dL_law_500 : decode cL_law 500 = .ok (.aload_n 0, 1) := by decide +kernel
theorem dL_law_501 : decode cL_law 501 = .ok (.iload_n 3, 1) := by decide +kernel
theorem dL_law_502 : decode cL_law 502 = .ok (.iconst 1, 1) := by decide +kernel
theorem dL_law_503 : decode cL_law 503 = .ok (.iadd, 1) := by decide +kernel
theorem dL_law_504 : decode cL_law 504 = .ok (.iaload, 1) := by decide +kernel
theorem dL_law_505 : decode cL_law 505 = .ok (.aload_n 0, 1) := by decide +kernel
theorem dL_law_506 : decode cL_law 506 = .ok (.iload_n 3, 1) := by decide +kernel
theorem dL_law_507 : decode cL_law 507 = .ok (.iconst 2, 1) := by decide +kernel
theorem dL_law_508 : decode cL_law 508 = .ok (.iadd, 1) := by decide +kernel
theorem dL_law_509 : decode cL_law 509 = .ok (.iaload, 1) := by decide +kernel
theorem dL_law_510 : decode cL_law 510 = .ok (.invokevirtual 47, 3) := by decide +kernel
theorem dL_law_513 : decode cL_law 513 = .ok (.if_icmp .eq 716, 3) := by decide +kernel
theorem dL_law_516 : decode cL_law 516 = .ok (.iconst 0, 1) := by decide +kernel
theorem dL_law_517 : decode cL_law 517 = .ok (.ireturn, 1) := by decide +kernel
theorem dL_law_518 : decode cL_law 518 = .ok (.aload_n 1, 1) := by decide +kernel
theorem dL_law_519 : decode cL_law 519 = .ok (.aload_n 0, 1) := by decide +kernel
theorem dL_law_520 : decode cL_law 520 = .ok (.iload_n 3, 1) := by decide +kernel
theorem dL_law_521 : decode cL_law 521 = .ok (.iconst 1, 1) := by decide +kernel
theorem dL_law_522 : decode cL_law 522 = .ok (.iadd, 1) := by decide +kernel
theorem dL_law_523 : decode cL_law 523 = .ok (.iaload, 1) := by decide +kernel
theorem dL_law_524 : decode cL_law 524 = .ok (.invokevirtual 48, 3) := by decide +kernel
theorem dL_law_527 : decode cL_law 527 = .ok (.aload_n 2, 1) := by decide +kernel
theorem dL_law_528 : decode cL_law 528 = .ok (.aload_n 0, 1) := by decide +kernel
theorem dL_law_529 : decode cL_law 529 = .ok (.iload_n 3, 1) := by decide +kernel
theorem dL_law_530 : decode cL_law 530 = .ok (.iconst 1, 1) := by decide +kernel
theorem dL_law_531 : decode cL_law 531 = .ok (.iadd, 1) := by decide +kernel
theorem dL_law_532 : decode cL_law 532 = .ok (.iaload, 1) := by decide +kernel
theorem dL_law_533 : decode cL_law 533 = .ok (.invokevirtual 52, 3) := by decide +kernel
theorem dL_law_536 : decode cL_law 536 = .ok (.if_icmp .eq 693, 3) := by decide +kernel
theorem dL_law_539 : decode cL_law 539 = .ok (.iconst 0, 1) := by decide +kernel
theorem dL_law_540 : decode cL_law 540 = .ok (.ireturn, 1) := by decide +kernel
theorem dL_law_541 : decode cL_law 541 = .ok (.aload_n 1, 1) := by decide +kernel
theorem dL_law_542 : decode cL_law 542 = .ok (.aload_n 0, 1) := by decide +kernel
theorem dL_law_543 : decode cL_law 543 = .ok (.iload_n 3, 1) := by decide +kernel
theorem dL_law_544 : decode cL_law 544 = .ok (.iconst 1, 1) := by decide +kernel
theorem dL_law_545 : decode cL_law 545 = .ok (.iadd, 1) := by decide +kernel
theorem dL_law_546 : decode cL_law 546 = .ok (.iaload, 1) := by decide +kernel
theorem dL_law_547 : decode cL_law 547 = .ok (.aload_n 0, 1) := by decide +kernel
theorem dL_law_548 : decode cL_law 548 = .ok (.iload_n 3, 1) := by decide +kernel
theorem dL_law_549 : decode cL_law 549 = .ok (.iconst 2, 1) := by decide +kernel
theorem dL_law_550 : decode cL_law 550 = .ok (.iadd, 1) := by decide +kernel
theorem dL_law_551 : decode cL_law 551 = .ok (.iaload, 1) := by decide +kernel
theorem dL_law_552 : decode cL_law 552 = .ok (.aload_n 0, 1) := by decide +kernel
theorem dL_law_553 : decode cL_law 553 = .ok (.iload_n 3, 1) := by decide +kernel
theorem dL_law_554 : decode cL_law 554 = .ok (.iconst 3, 1) := by decide +kernel
theorem dL_law_555 : decode cL_law 555 = .ok (.iadd, 1) := by decide +kernel
theorem dL_law_556 : decode cL_law 556 = .ok (.iaload, 1) := by decide +kernel
theorem dL_law_557 : decode cL_law 557 = .ok (.invokevirtual 53, 3) := by decide +kernel
theorem dL_law_560 : decode cL_law 560 = .ok (.aload_n 2, 1) := by decide +kernel
theorem dL_law_561 : decode cL_law 561 = .ok (.aload_n 0, 1) := by decide +kernel
theorem dL_law_562 : decode cL_law 562 = .ok (.iload_n 3, 1) := by decide +kernel
theorem dL_law_563 : decode cL_law 563 = .ok (.iconst 1, 1) := by decide +kernel
theorem dL_law_564 : decode cL_law 564 = .ok (.iadd, 1) := by decide +kernel
theorem dL_law_565 : decode cL_law 565 = .ok (.iaload, 1) := by decide +kernel
theorem dL_law_566 : decode cL_law 566 = .ok (.aload_n 0, 1) := by decide +kernel
theorem dL_law_567 : decode cL_law 567 = .ok (.iload_n 3, 1) := by decide +kernel
theorem dL_law_568 : decode cL_law 568 = .ok (.iconst 2, 1) := by decide +kernel
theorem dL_law_569 : decode cL_law 569 = .ok (.iadd, 1) := by decide +kernel
theorem dL_law_570 : decode cL_law 570 = .ok (.iaload, 1) := by decide +kernel
theorem dL_law_571 : decode cL_law 571 = .ok (.aload_n 0, 1) := by decide +kernel
theorem dL_law_572 : decode cL_law 572 = .ok (.iload_n 3, 1) := by decide +kernel
theorem dL_law_573 : decode cL_law 573 = .ok (.iconst 3, 1) := by decide +kernel
theorem dL_law_574 : decode cL_law 574 = .ok (.iadd, 1) := by decide +kernel
theorem dL_law_575 : decode cL_law 575 = .ok (.iaload, 1) := by decide +kernel
theorem dL_law_576 : decode cL_law 576 = .ok (.invokevirtual 56, 3) := by decide +kernel
theorem dL_law_579 : decode cL_law 579 = .ok (.if_icmp .eq 650, 3) := by decide +kernel
theorem dL_law_582 : decode cL_law 582 = .ok (.iconst 0, 1) := by decide +kernel
theorem dL_law_583 : decode cL_law 583 = .ok (.ireturn, 1) := by decide +kernel
theorem dL_law_584 : decode cL_law 584 = .ok (.aload_n 1, 1) := by decide +kernel
theorem dL_law_585 : decode cL_law 585 = .ok (.aload_n 0, 1) := by decide +kernel
theorem dL_law_586 : decode cL_law 586 = .ok (.iload_n 3, 1) := by decide +kernel
theorem dL_law_587 : decode cL_law 587 = .ok (.iconst 1, 1) := by decide +kernel
theorem dL_law_588 : decode cL_law 588 = .ok (.iadd, 1) := by decide +kernel
theorem dL_law_589 : decode cL_law 589 = .ok (.iaload, 1) := by decide +kernel
theorem dL_law_590 : decode cL_law 590 = .ok (.invokevirtual 57, 3) := by decide +kernel
theorem dL_law_593 : decode cL_law 593 = .ok (.aload_n 2, 1) := by decide +kernel
theorem dL_law_594 : decode cL_law 594 = .ok (.aload_n 0, 1) := by decide +kernel
theorem dL_law_595 : decode cL_law 595 = .ok (.iload_n 3, 1) := by decide +kernel
theorem dL_law_596 : decode cL_law 596 = .ok (.iconst 1, 1) := by decide +kernel
theorem dL_law_597 : decode cL_law 597 = .ok (.iadd, 1) := by decide +kernel
theorem dL_law_598 : decode cL_law 598 = .ok (.iaload, 1) := by decide +kernel
theorem dL_law_599 : decode cL_law 599 = .ok (.invokevirtual 60, 3) := by decide +kernel
theorem dL_law_602 : decode cL_law 602 = .ok (.if_icmp .eq 627, 3) := by decide +kernel
theorem dL_law_605 : decode cL_law 605 = .ok (.iconst 0, 1) := by decide +kernel
theorem dL_law_606 : decode cL_law 606 = .ok (.ireturn, 1) := by decide +kernel
theorem dL_law_607 : decode cL_law 607 = .ok (.aload_n 1, 1) := by decide +kernel
theorem dL_law_608 : decode cL_law 608 = .ok (.aload_n 0, 1) := by decide +kernel
theorem dL_law_609 : decode cL_law 609 = .ok (.iload_n 3, 1) := by decide +kernel
theorem dL_law_610 : decode cL_law 610 = .ok (.iconst 1, 1) := by decide +kernel
theorem dL_law_611 : decode cL_law 611 = .ok (.iadd, 1) := by decide +kernel
