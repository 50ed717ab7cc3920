theorem dX11_layChange_64 : decode cX11_layChange 64 = .ok (.goto 4, 3) := by decide +kernel
theorem dX11_layChange_67 : decode cX11_layChange 67 = .ok (.iconst 0, 1) := by decide +kernel
theorem dX11_layChange_68 : decode cX11_layChange 68 = .ok (.ior, 1) := by decide +kernel
theorem dX11_layChange_69 : decode cX11_layChange 69 = .ok (.iastore, 1) := by decide +kernel
theorem dX11_layChange_70 : decode cX11_layChange 70 = .ok (.iinc 4 1, 3) := by decide +kernel
theorem dX11_layChange_73 : decode cX11_layChange 73 = .ok (.goto (-56), 3) := by decide +kernel
theorem dX11_layChange_76 : decode cX11_layChange 76 = .ok (.return_, 1) := by decide +kernel
theorem dX11_isFree_0 : decode cX11_isFree 0 = .ok (.aload_n 0, 1) := by decide +kernel
theorem dX11_isFree_1 : decode cX11_isFree 1 = .ok (.getfield 45, 3) := by decide +kernel
theorem dX11_isFree_4 : decode cX11_isFree 4 = .ok (.bipush 36, 2) := by decide +kernel
theorem dX11_isFree_6 : decode cX11_isFree 6 = .ok (.iload_n 2, 1) := by decide +kernel
theorem dX11_isFree_7 : decode cX11_isFree 7 = .ok (.imul, 1) := by decide +kernel
theorem dX11_isFree_8 : decode cX11_isFree 8 = .ok (.iload_n 1, 1) := by decide +kernel
theorem dX11_isFree_9 : decode cX11_isFree 9 = .ok (.iadd, 1) := by decide +kernel
theorem dX11_isFree_10 : decode cX11_isFree 10 = .ok (.baload, 1) := by decide +kernel
theorem dX11_isFree_11 : decode cX11_isFree 11 = .ok (.ifCond .eq 25, 3) := by decide +kernel
theorem dX11_isFree_14 : decode cX11_isFree 14 = .ok (.aload_n 0, 1) := by decide +kernel
theorem dX11_isFree_15 : decode cX11_isFree 15 = .ok (.getfield 39, 3) := by decide +kernel
theorem dX11_isFree_18 : decode cX11_isFree 18 = .ok (.bipush 36, 2) := by decide +kernel
theorem dX11_isFree_20 : decode cX11_isFree 20 = .ok (.iload_n 2, 1) := by decide +kernel
theorem dX11_isFree_21 : decode cX11_isFree 21 = .ok (.imul, 1) := by decide +kernel
theorem dX11_isFree_22 : decode cX11_isFree 22 = .ok (.iload_n 1, 1) := by decide +kernel
theorem dX11_isFree_23 : decode cX11_isFree 23 = .ok (.iadd, 1) := by decide +kernel
theorem dX11_isFree_24 : decode cX11_isFree 24 = .ok (.iaload, 1) := by decide +kernel
theorem dX11_isFree_25 : decode cX11_isFree 25 = .ok (.iload_n 3, 1) := by decide +kernel
theorem dX11_isFree_26 : decode cX11_isFree 26 = .ok (.iconst (-1), 1) := by decide +kernel
theorem dX11_isFree_27 : decode cX11_isFree 27 = .ok (.ixor, 1) := by decide +kernel
theorem dX11_isFree_28 : decode cX11_isFree 28 = .ok (.iand, 1) := by decide +kernel
theorem dX11_isFree_29 : decode cX11_isFree 29 = .ok (.ifCond .ne 7, 3) := by decide +kernel
theorem dX11_isFree_32 : decode cX11_isFree 32 = .ok (.iconst 1, 1) := by decide +kernel
theorem dX11_isFree_33 : decode cX11_isFree 33 = .ok (.goto 4, 3) := by decide +kernel
theorem dX11_isFree_36 : decode cX11_isFree 36 = .ok (.iconst 0, 1) := by decide +kernel
theorem dX11_isFree_37 : decode cX11_isFree 37 = .ok (.ireturn, 1) := by decide +kernel
theorem dX11_goes_0 : decode cX11_goes 0 = .ok (.aload_n 0, 1) := by decide +kernel
theorem dX11_goes_1 : decode cX11_goes 1 = .ok (.iload_n 1, 1) := by decide +kernel
theorem dX11_goes_2 : decode cX11_goes 2 = .ok (.iload_n 3, 1) := by decide +kernel
theorem dX11_goes_3 : decode cX11_goes 3 = .ok (.invokevirtual 164, 3) := by decide +kernel
theorem dX11_goes_6 : decode cX11_goes 6 = .ok (.istore 5, 2) := by decide +kernel
theorem dX11_goes_8 : decode cX11_goes 8 = .ok (.iload 5, 2) := by decide +kernel
theorem dX11_goes_10 : decode cX11_goes 10 = .ok (.ldc 66, 2) := by decide +kernel
theorem dX11_goes_12 : decode cX11_goes 12 = .ok (.if_icmp .eq 44, 3) := by decide +kernel
theorem dX11_goes_15 : decode cX11_goes 15 = .ok (.aload_n 0, 1) := by decide +kernel
theorem dX11_goes_16 : decode cX11_goes 16 = .ok (.iload 5, 2) := by decide +kernel
theorem dX11_goes_18 : decode cX11_goes 18 = .ok (.iload_n 2, 1) := by decide +kernel
theorem dX11_goes_19 : decode cX11_goes 19 = .ok (.iconst 1, 1) := by decide +kernel
theorem dX11_goes_20 : decode cX11_goes 20 = .ok (.iadd, 1) := by decide +kernel
theorem dX11_goes_21 : decode cX11_goes 21 = .ok (.iload 4, 2) := by decide +kernel
theorem dX11_goes_23 : decode cX11_goes 23 = .ok (.invokevirtual 167, 3) := by decide +kernel
theorem dX11_goes_26 : decode cX11_goes 26 = .ok (.ifCond .eq 30, 3) := by decide +kernel
theorem dX11_goes_29 : decode cX11_goes 29 = .ok (.aload_n 0, 1) := by decide +kernel
theorem dX11_goes_30 : decode cX11_goes 30 = .ok (.getfield 42, 3) := by decide +kernel
theorem dX11_goes_33 : decode cX11_goes 33 = .ok (.iconst 5, 1) := by decide +kernel
theorem dX11_goes_34 : decode cX11_goes 34 = .ok (.bipush 36, 2) := by decide +kernel
theorem dX11_goes_36 : decode cX11_goes 36 = .ok (.iload_n 2, 1) := by decide +kernel
theorem dX11_goes_37 : decode cX11_goes 37 = .ok (.imul, 1) := by decide +kernel
theorem dX11_goes_38 : decode cX11_goes 38 = .ok (.iload_n 1, 1) := by decide +kernel
theorem dX11_goes_39 : decode cX11_goes 39 = .ok (.iadd, 1) := by decide +kernel
theorem dX11_goes_40 : decode cX11_goes 40 = .ok (.imul, 1) := by decide +kernel
theorem dX11_goes_41 : decode cX11_goes 41 = .ok (.iload_n 3, 1) := by decide +kernel
theorem dX11_goes_42 : decode cX11_goes 42 = .ok (.iadd, 1) := by decide +kernel
theorem dX11_goes_43 : decode cX11_goes 43 = .ok (.iaload, 1) := by decide +kernel
theorem dX11_goes_44 : decode cX11_goes 44 = .ok (.iload 4, 2) := by decide +kernel
theorem dX11_goes_46 : decode cX11_goes 46 = .ok (.iconst (-1), 1) := by decide +kernel
theorem dX11_goes_47 : decode cX11_goes 47 = .ok (.ixor, 1) := by decide +kernel
theorem dX11_goes_48 : decode cX11_goes 48 = .ok (.iand, 1) := by decide +kernel
theorem dX11_goes_49 : decode cX11_goes 49 = .ok (.ifCond .ne 7, 3) := by decide +kernel
theorem dX11_goes_52 : decode cX11_goes 52 = .ok (.iconst 1, 1) := by decide +kernel
theorem dX11_goes_53 : decode cX11_goes 53 = .ok (.goto 4, 3) := by decide +kernel
theorem dX11_goes_56 : decode cX11_goes 56 = .ok (.iconst 0, 1) := by decide +kernel
theorem dX11_goes_57 : decode cX11_goes 57 = .ok (.istore 6, 2) := by decide +kernel
theorem dX11_goes_59 : decode cX11_goes 59 = .ok (.iload 6, 2) := by decide +kernel
theorem dX11_goes_61 : decode cX11_goes 61 = .ok (.ifCond .eq 8, 3) := by decide +kernel
theorem dX11_goes_64 : decode cX11_goes 64 = .ok (.iload 5, 2) := by decide +kernel
theorem dX11_goes_66 : decode cX11_goes 66 = .ok (.goto 5, 3) := by decide +kernel
theorem dX11_goes_69 : decode cX11_goes 69 = .ok (.ldc 66, 2) := by decide +kernel
theorem dX11_goes_71 : decode cX11_goes 71 = .ok (.ireturn, 1) := by decide +kernel
theorem dX11_layLatest_0 : decode cX11_layLatest 0 = .ok (.iconst 0, 1) := by decide +kernel
theorem dX11_layLatest_1 : decode cX11_layLatest 1 = .ok (.istore_n 3, 1) := by decide +kernel
theorem dX11_layLatest_2 : decode cX11_layLatest 2 = .ok (.iload_n 3, 1) := by decide +kernel
theorem dX11_layLatest_3 : decode cX11_layLatest 3 = .ok (.sipush 2160, 3) := by decide +kernel
theorem dX11_layLatest_6 : decode cX11_layLatest 6 = .ok (.if_icmp .ge 17, 3) := by decide +kernel
theorem dX11_layLatest_9 : decode cX11_layLatest 9 = .ok (.aload_n 0, 1) := by decide +kernel
theorem dX11_layLatest_10 : decode cX11_layLatest 10 = .ok (.getfield 48, 3) := by decide +kernel
theorem dX11_layLatest_13 : decode cX11_layLatest 13 = .ok (.iload_n 3, 1) := by decide +kernel
theorem dX11_layLatest_14 : decode cX11_layLatest 14 = .ok (.ldc 66, 2) := by decide +kernel
theorem dX11_layLatest_16 : decode cX11_layLatest 16 = .ok (.iastore, 1) := by decide +kernel
theorem dX11_layLatest_17 : decode cX11_layLatest 17 = .ok (.iinc 3 1, 3) := by decide +kernel
theorem dX11_layLatest_20 : decode cX11_layLatest 20 = .ok (.goto (-18), 3) := by decide +kernel
theorem dX11_layLatest_23 : decode cX11_layLatest 23 = .ok (.aload_n 0, 1) := by decide +kernel
theorem dX11_layLatest_24 : decode cX11_layLatest 24 = .ok (.getfield 24, 3) := by decide +kernel
theorem dX11_layLatest_27 : decode cX11_layLatest 27 = .ok (.bipush 8, 2) := by decide +kernel
theorem dX11_layLatest_29 : decode cX11_layLatest 29 = .ok (.iload_n 1, 1) := by decide +kernel
theorem dX11_layLatest_30 : decode cX11_layLatest 30 = .ok (.imul, 1) := by decide +kernel
theorem dX11_layLatest_31 : decode cX11_layLatest 31 = .ok (.iaload, 1) := by decide +kernel
theorem dX11_layLatest_32 : decode cX11_layLatest 32 = .ok (.istore_n 3, 1) := by decide +kernel
theorem dX11_layLatest_33 : decode cX11_layLatest 33 = .ok (.aload_n 0, 1) := by decide +kernel
theorem dX11_layLatest_34 : decode cX11_layLatest 34 = .ok (.getfield 24, 3) := by decide +kernel
theorem dX11_layLatest_37 : decode cX11_layLatest 37 = .ok (.bipush 8, 2) := by decide +kernel
theorem dX11_layLatest_39 : decode cX11_layLatest 39 = .ok (.iload_n 1, 1) := by decide +kernel
theorem dX11_layLatest_40 : decode cX11_layLatest 40 = .ok (.imul, 1) := by decide +kernel
theorem dX11_layLatest_41 : decode cX11_layLatest 41 = .ok (.iconst 2, 1) := by decide +kernel
theorem dX11_layLatest_42 : decode cX11_layLatest 42 = .ok (.iadd, 1) := by decide +kernel
theorem dX11_layLatest_43 : decode cX11_layLatest 43 = .ok (.iaload, 1) := by decide +kernel
theorem dX11_layLatest_44 : decode cX11_layLatest 44 = .ok (.istore 4, 2) := by decide +kernel
theorem dX11_layLatest_46 : decode cX11_layLatest 46 = .ok (.iload 4, 2) := by decide +kernel
theorem dX11_layLatest_48 : decode cX11_layLatest 48 = .ok (.aload_n 0, 1) := by decide +kernel
theorem dX11_layLatest_49 : decode cX11_layLatest 49 = .ok (.getfield 24, 3) := by decide +kernel
theorem dX11_layLatest_52 : decode cX11_layLatest 52 = .ok (.bipush 8, 2) := by decide +kernel
theorem dX11_layLatest_54 : decode cX11_layLatest 54 = .ok (.iload_n 1, 1) := by decide +kernel
theorem dX11_layLatest_55 : decode cX11_layLatest 55 = .ok (.imul, 1) := by decide +kernel
theorem dX11_layLatest_56 : decode cX11_layLatest 56 = .ok (.iconst 3, 1) := by decide +kernel
theorem dX11_layLatest_57 : decode cX11_layLatest 57 = .ok (.iadd, 1) := by decide +kernel
theorem dX11_layLatest_58 : decode cX11_layLatest 58 = .ok (.iaload, 1) := by decide +kernel
theorem dX11_layLatest_59 : decode cX11_layLatest 59 = .ok (.if_icmp .gt 187, 3) := by decide +kernel
theorem dX11_layLatest_62 : decode cX11_layLatest 62 = .ok (.iconst 0, 1) := by decide +kernel
theorem dX11_layLatest_63 : decode cX11_layLatest 63 = .ok (.istore 5, 2) := by decide +kernel
theorem dX11_layLatest_65 : decode cX11_layLatest 65 = .ok (.iload 5, 2) := by decide +kernel
theorem dX11_layLatest_67 : decode cX11_layLatest 67 = .ok (.aload_n 0, 1) := by decide +kernel
theorem dX11_layLatest_68 : decode cX11_layLatest 68 = .ok (.invokevirtual 101, 3) := by decide +kernel
theorem dX11_layLatest_71 : decode cX11_layLatest 71 = .ok (.if_icmp .ge 144, 3) := by decide +kernel
theorem dX11_layLatest_74 : decode cX11_layLatest 74 = .ok (.iload 4, 2) := by decide +kernel
theorem dX11_layLatest_76 : decode cX11_layLatest 76 = .ok (.aload_n 0, 1) := by decide +kernel
theorem dX11_layLatest_77 : decode cX11_layLatest 77 = .ok (.getfield 24, 3) := by decide +kernel
theorem dX11_layLatest_80 : decode cX11_layLatest 80 = .ok (.bipush 8, 2) := by decide +kernel
theorem dX11_layLatest_82 : decode cX11_layLatest 82 = .ok (.iload_n 1, 1) := by decide +kernel
theorem dX11_layLatest_83 : decode cX11_layLatest 83 = .ok (.imul, 1) := by decide +kernel
theorem dX11_layLatest_84 : decode cX11_layLatest 84 = .ok (.iconst 2, 1) := by decide +kernel
theorem dX11_layLatest_85 : decode cX11_layLatest 85 = .ok (.iadd, 1) := by decide +kernel
theorem dX11_layLatest_86 : decode cX11_layLatest 86 = .ok (.iaload, 1) := by decide +kernel
theorem dX11_layLatest_87 : decode cX11_layLatest 87 = .ok (.if_icmp .le 128, 3) := by decide +kernel
theorem dX11_layLatest_90 : decode cX11_layLatest 90 = .ok (.iconst 0, 1) := by decide +kernel
theorem dX11_layLatest_91 : decode cX11_layLatest 91 = .ok (.istore 6, 2) := by decide +kernel
theorem dX11_layLatest_93 : decode cX11_layLatest 93 = .ok (.iload 6, 2) := by decide +kernel
theorem dX11_layLatest_95 : decode cX11_layLatest 95 = .ok (.iconst 5, 1) := by decide +kernel
theorem dX11_layLatest_96 : decode cX11_layLatest 96 = .ok (.if_icmp .ge 113, 3) := by decide +kernel
theorem dX11_layLatest_99 : decode cX11_layLatest 99 = .ok (.aload_n 0, 1) := by decide +kernel
theorem dX11_layLatest_100 : decode cX11_layLatest 100 = .ok (.getfield 48, 3) := by decide +kernel
theorem dX11_layLatest_103 : decode cX11_layLatest 103 = .ok (.bipush 36, 2) := by decide +kernel
theorem dX11_layLatest_105 : decode cX11_layLatest 105 = .ok (.iload 4, 2) := by decide +kernel
theorem dX11_layLatest_107 : decode cX11_layLatest 107 = .ok (.imul, 1) := by decide +kernel
theorem dX11_layLatest_108 : decode cX11_layLatest 108 = .ok (.bipush 36, 2) := by decide +kernel
theorem dX11_layLatest_110 : decode cX11_layLatest 110 = .ok (.isub, 1) := by decide +kernel
theorem dX11_layLatest_111 : decode cX11_layLatest 111 = .ok (.iload 5, 2) := by decide +kernel
theorem dX11_layLatest_113 : decode cX11_layLatest 113 = .ok (.iadd, 1) := by decide +kernel
theorem dX11_layLatest_114 : decode cX11_layLatest 114 = .ok (.iaload, 1) := by decide +kernel
theorem dX11_layLatest_115 : decode cX11_layLatest 115 = .ok (.ldc 66, 2) := by decide +kernel
theorem dX11_layLatest_117 : decode cX11_layLatest 117 = .ok (.if_icmp .eq 92, 3) := by decide +kernel
theorem dX11_layLatest_120 : decode cX11_layLatest 120 = .ok (.aload_n 0, 1) := by decide +kernel
theorem dX11_layLatest_121 : decode cX11_layLatest 121 = .ok (.iload 5, 2) := by decide +kernel
theorem dX11_layLatest_123 : decode cX11_layLatest 123 = .ok (.iload 4, 2) := by decide +kernel
theorem dX11_layLatest_125 : decode cX11_layLatest 125 = .ok (.iconst 1, 1) := by decide +kernel
theorem dX11_layLatest_126 : decode cX11_layLatest 126 = .ok (.isub, 1) := by decide +kernel
theorem dX11_layLatest_127 : decode cX11_layLatest 127 = .ok (.iload 6, 2) := by decide +kernel
theorem dX11_layLatest_129 : decode cX11_layLatest 129 = .ok (.iload_n 2, 1) := by decide +kernel
theorem dX11_layLatest_130 : decode cX11_layLatest 130 = .ok (.invokevirtual 171, 3) := by decide +kernel
theorem dX11_layLatest_133 : decode cX11_layLatest 133 = .ok (.istore 7, 2) := by decide +kernel
theorem dX11_layLatest_135 : decode cX11_layLatest 135 = .ok (.iload 7, 2) := by decide +kernel
theorem dX11_layLatest_137 : decode cX11_layLatest 137 = .ok (.ldc 66, 2) := by decide +kernel
theorem dX11_layLatest_139 : decode cX11_layLatest 139 = .ok (.if_icmp .eq 64, 3) := by decide +kernel
theorem dX11_layLatest_142 : decode cX11_layLatest 142 = .ok (.aload_n 0, 1) := by decide +kernel
theorem dX11_layLatest_143 : decode cX11_layLatest 143 = .ok (.getfield 48, 3) := by decide +kernel
theorem dX11_layLatest_146 : decode cX11_layLatest 146 = .ok (.bipush 36, 2) := by decide +kernel
theorem dX11_layLatest_148 : decode cX11_layLatest 148 = .ok (.iload 4, 2) := by decide +kernel
theorem dX11_layLatest_150 : decode cX11_layLatest 150 = .ok (.imul, 1) := by decide +kernel
theorem dX11_layLatest_151 : decode cX11_layLatest 151 = .ok (.bipush 36, 2) := by decide +kernel
theorem dX11_layLatest_153 : decode cX11_layLatest 153 = .ok (.isub, 1) := by decide +kernel
theorem dX11_layLatest_154 : decode cX11_layLatest 154 = .ok (.iload 5, 2) := by decide +kernel
theorem dX11_layLatest_156 : decode cX11_layLatest 156 = .ok (.iadd, 1) := by decide +kernel
theorem dX11_layLatest_157 : decode cX11_layLatest 157 = .ok (.iaload, 1) := by decide +kernel
theorem dX11_layLatest_158 : decode cX11_layLatest 158 = .ok (.aload_n 0, 1) := by decide +kernel
theorem dX11_layLatest_159 : decode cX11_layLatest 159 = .ok (.getfield 48, 3) := by decide +kernel
theorem dX11_layLatest_162 : decode cX11_layLatest 162 = .ok (.bipush 36, 2) := by decide +kernel
theorem dX11_layLatest_164 : decode cX11_layLatest 164 = .ok (.iload 4, 2) := by decide +kernel
theorem dX11_layLatest_166 : decode cX11_layLatest 166 = .ok (.imul, 1) := by decide +kernel
theorem dX11_layLatest_167 : decode cX11_layLatest 167 = .ok (.iload 7, 2) := by decide +kernel
theorem dX11_layLatest_169 : decode cX11_layLatest 169 = .ok (.iadd, 1) := by decide +kernel
theorem dX11_layLatest_170 : decode cX11_layLatest 170 = .ok (.iaload, 1) := by decide +kernel
theorem dX11_layLatest_171 : decode cX11_layLatest 171 = .ok (.if_icmp .le 32, 3) := by decide +kernel
theorem dX11_layLatest_174 : decode cX11_layLatest 174 = .ok (.aload_n 0, 1) := by decide +kernel
theorem dX11_layLatest_175 : decode cX11_layLatest 175 = .ok (.getfield 48, 3) := by decide +kernel
theorem dX11_layLatest_178 : decode cX11_layLatest 178 = .ok (.bipush 36, 2) := by decide +kernel
theorem dX11_layLatest_180 : decode cX11_layLatest 180 = .ok (.iload 4, 2) := by decide +kernel
theorem dX11_layLatest_182 : decode cX11_layLatest 182 = .ok (.imul, 1) := by decide +kernel
theorem dX11_layLatest_183 : decode cX11_layLatest 183 = .ok (.iload 7, 2) := by decide +kernel
theorem dX11_layLatest_185 : decode cX11_layLatest 185 = .ok (.iadd, 1) := by decide +kernel
theorem dX11_layLatest_186 : decode cX11_layLatest 186 = .ok (.aload_n 0, 1) := by decide +kernel
theorem dX11_layLatest_187 : decode cX11_layLatest 187 = .ok (.getfield 48, 3) := by decide +kernel
theorem dX11_layLatest_190 : decode cX11_layLatest 190 = .ok (.bipush 36, 2) := by decide +kernel
theorem dX11_layLatest_192 : decode cX11_layLatest 192 = .ok (.iload 4, 2) := by decide +kernel
theorem dX11_layLatest_194 : decode cX11_layLatest 194 = .ok (.imul, 1) := by decide +kernel
theorem dX11_layLatest_195 : decode cX11_layLatest 195 = .ok (.bipush 36, 2) := by decide +kernel
theorem dX11_layLatest_197 : decode cX11_layLatest 197 = .ok (.isub, 1) := by decide +kernel
theorem dX11_layLatest_198 : decode cX11_layLatest 198 = .ok (.iload 5, 2) := by decide +kernel
theorem dX11_layLatest_200 : decode cX11_layLatest 200 = .ok (.iadd, 1) := by decide +kernel
theorem dX11_layLatest_201 : decode cX11_layLatest 201 = .ok (.iaload, 1) := by decide +kernel
theorem dX11_layLatest_202 : decode cX11_layLatest 202 = .ok (.iastore, 1) := by decide +kernel
theorem dX11_layLatest_203 : decode cX11_layLatest 203 = .ok (.iinc 6 1, 3) := by decide +kernel
theorem dX11_layLatest_206 : decode cX11_layLatest 206 = .ok (.goto (-113), 3) := by decide +kernel
theorem dX11_layLatest_209 : decode cX11_layLatest 209 = .ok (.iinc 5 1, 3) := by decide +kernel
theorem dX11_layLatest_212 : decode cX11_layLatest 212 = .ok (.goto (-147), 3) := by decide +kernel
theorem dX11_layLatest_215 : decode cX11_layLatest 215 = .ok (.aload_n 0, 1) := by decide +kernel
theorem dX11_layLatest_216 : decode cX11_layLatest 216 = .ok (.iload_n 3, 1) := by decide +kernel
theorem dX11_layLatest_217 : decode cX11_layLatest 217 = .ok (.iload 4, 2) := by decide +kernel
theorem dX11_layLatest_219 : decode cX11_layLatest 219 = .ok (.iload_n 2, 1) := by decide +kernel
theorem dX11_layLatest_220 : decode cX11_layLatest 220 = .ok (.invokevirtual 167, 3) := by decide +kernel
theorem dX11_layLatest_223 : decode cX11_layLatest 223 = .ok (.ifCond .eq 17, 3) := by decide +kernel
theorem dX11_layLatest_226 : decode cX11_layLatest 226 = .ok (.aload_n 0, 1) := by decide +kernel
theorem dX11_layLatest_227 : decode cX11_layLatest 227 = .ok (.getfield 48, 3) := by decide +kernel
theorem dX11_layLatest_230 : decode cX11_layLatest 230 = .ok (.bipush 36, 2) := by decide +kernel
theorem dX11_layLatest_232 : decode cX11_layLatest 232 = .ok (.iload 4, 2) := by decide +kernel
theorem dX11_layLatest_234 : decode cX11_layLatest 234 = .ok (.imul, 1) := by decide +kernel
theorem dX11_layLatest_235 : decode cX11_layLatest 235 = .ok (.iload_n 3, 1) := by decide +kernel
theorem dX11_layLatest_236 : decode cX11_layLatest 236 = .ok (.iadd, 1) := by decide +kernel
theorem dX11_layLatest_237 : decode cX11_layLatest 237 = .ok (.iload 4, 2) := by decide +kernel
theorem dX11_layLatest_239 : decode cX11_layLatest 239 = .ok (.iastore, 1) := by decide +kernel
theorem dX11_layLatest_240 : decode cX11_layLatest 240 = .ok (.iinc 4 1, 3) := by decide +kernel
theorem dX11_layLatest_243 : decode cX11_layLatest 243 = .ok (.goto (-197), 3) := by decide +kernel
theorem dX11_layLatest_246 : decode cX11_layLatest 246 = .ok (.return_, 1) := by decide +kernel
theorem dX11_hasWay_0 : decode cX11_hasWay 0 = .ok (.aload_n 0, 1) := by decide +kernel
theorem dX11_hasWay_1 : decode cX11_hasWay 1 = .ok (.iload_n 1, 1) := by decide +kernel
theorem dX11_hasWay_2 : decode cX11_hasWay 2 = .ok (.iload_n 2, 1) := by decide +kernel
theorem dX11_hasWay_3 : decode cX11_hasWay 3 = .ok (.invokevirtual 175, 3) := by decide +kernel
theorem dX11_hasWay_6 : decode cX11_hasWay 6 = .ok (.aload_n 0, 1) := by decide +kernel
theorem dX11_hasWay_7 : decode cX11_hasWay 7 = .ok (.getfield 24, 3) := by decide +kernel
theorem dX11_hasWay_10 : decode cX11_hasWay 10 = .ok (.bipush 8, 2) := by decide +kernel
theorem dX11_hasWay_12 : decode cX11_hasWay 12 = .ok (.iload_n 1, 1) := by decide +kernel
theorem dX11_hasWay_13 : decode cX11_hasWay 13 = .ok (.imul, 1) := by decide +kernel
theorem dX11_hasWay_14 : decode cX11_hasWay 14 = .ok (.iconst 1, 1) := by decide +kernel
theorem dX11_hasWay_15 : decode cX11_hasWay 15 = .ok (.iadd, 1) := by decide +kernel
theorem dX11_hasWay_16 : decode cX11_hasWay 16 = .ok (.iaload, 1) := by decide +kernel
theorem dX11_hasWay_17 : decode cX11_hasWay 17 = .ok (.istore_n 3, 1) := by decide +kernel
theorem dX11_hasWay_18 : decode cX11_hasWay 18 = .ok (.aload_n 0, 1) := by decide +kernel
theorem dX11_hasWay_19 : decode cX11_hasWay 19 = .ok (.getfield 24, 3) := by decide +kernel
theorem dX11_hasWay_22 : decode cX11_hasWay 22 = .ok (.bipush 8, 2) := by decide +kernel
theorem dX11_hasWay_24 : decode cX11_hasWay 24 = .ok (.iload_n 1, 1) := by decide +kernel
theorem dX11_hasWay_25 : decode cX11_hasWay 25 = .ok (.imul, 1) := by decide +kernel
theorem dX11_hasWay_26 : decode cX11_hasWay 26 = .ok (.iconst 2, 1) := by decide +kernel
theorem dX11_hasWay_27 : decode cX11_hasWay 27 = .ok (.iadd, 1) := by decide +kernel
theorem dX11_hasWay_28 : decode cX11_hasWay 28 = .ok (.iaload, 1) := by decide +kernel
theorem dX11_hasWay_29 : decode cX11_hasWay 29 = .ok (.iconst 1, 1) := by decide +kernel
theorem dX11_hasWay_30 : decode cX11_hasWay 30 = .ok (.iadd, 1) := by decide +kernel
theorem dX11_hasWay_31 : decode cX11_hasWay 31 = .ok (.istore 4, 2) := by decide +kernel
theorem dX11_hasWay_33 : decode cX11_hasWay 33 = .ok (.iload 4, 2) := by decide +kernel
theorem dX11_hasWay_35 : decode cX11_hasWay 35 = .ok (.aload_n 0, 1) := by decide +kernel
theorem dX11_hasWay_36 : decode cX11_hasWay 36 = .ok (.getfield 24, 3) := by decide +kernel
theorem dX11_hasWay_39 : decode cX11_hasWay 39 = .ok (.bipush 8, 2) := by decide +kernel
theorem dX11_hasWay_41 : decode cX11_hasWay 41 = .ok (.iload_n 1, 1) := by decide +kernel
theorem dX11_hasWay_42 : decode cX11_hasWay 42 = .ok (.imul, 1) := by decide +kernel
theorem dX11_hasWay_43 : decode cX11_hasWay 43 = .ok (.iconst 3, 1) := by decide +kernel
theorem dX11_hasWay_44 : decode cX11_hasWay 44 = .ok (.iadd, 1) := by decide +kernel
theorem dX11_hasWay_45 : decode cX11_hasWay 45 = .ok (.iaload, 1) := by decide +kernel
theorem dX11_hasWay_46 : decode cX11_hasWay 46 = .ok (.if_icmp .gt 63, 3) := by decide +kernel
theorem dX11_hasWay_49 : decode cX11_hasWay 49 = .ok (.aload_n 0, 1) := by decide +kernel
theorem dX11_hasWay_50 : decode cX11_hasWay 50 = .ok (.getfield 48, 3) := by decide +kernel
theorem dX11_hasWay_53 : decode cX11_hasWay 53 = .ok (.bipush 36, 2) := by decide +kernel
theorem dX11_hasWay_55 : decode cX11_hasWay 55 = .ok (.iload 4, 2) := by decide +kernel
theorem dX11_hasWay_57 : decode cX11_hasWay 57 = .ok (.imul, 1) := by decide +kernel
theorem dX11_hasWay_58 : decode cX11_hasWay 58 = .ok (.iload_n 3, 1) := by decide +kernel
theorem dX11_hasWay_59 : decode cX11_hasWay 59 = .ok (.iadd, 1) := by decide +kernel
theorem dX11_hasWay_60 : decode cX11_hasWay 60 = .ok (.iaload, 1) := by decide +kernel
theorem dX11_hasWay_61 : decode cX11_hasWay 61 = .ok (.istore 5, 2) := by decide +kernel
theorem dX11_hasWay_63 : decode cX11_hasWay 63 = .ok (.iload 5, 2) := by decide +kernel
theorem dX11_hasWay_65 : decode cX11_hasWay 65 = .ok (.ldc 66, 2) := by decide +kernel
theorem dX11_hasWay_67 : decode cX11_hasWay 67 = .ok (.if_icmp .eq 36, 3) := by decide +kernel
theorem dX11_hasWay_70 : decode cX11_hasWay 70 = .ok (.iload 4, 2) := by decide +kernel
theorem dX11_hasWay_72 : decode cX11_hasWay 72 = .ok (.iload 5, 2) := by decide +kernel
theorem dX11_hasWay_74 : decode cX11_hasWay 74 = .ok (.isub, 1) := by decide +kernel
theorem dX11_hasWay_75 : decode cX11_hasWay 75 = .ok (.aload_n 0, 1) := by decide +kernel
theorem dX11_hasWay_76 : decode cX11_hasWay 76 = .ok (.getfield 24, 3) := by decide +kernel
theorem dX11_hasWay_79 : decode cX11_hasWay 79 = .ok (.bipush 8, 2) := by decide +kernel
theorem dX11_hasWay_81 : decode cX11_hasWay 81 = .ok (.iload_n 1, 1) := by decide +kernel
theorem dX11_hasWay_82 : decode cX11_hasWay 82 = .ok (.imul, 1) := by decide +kernel
theorem dX11_hasWay_83 : decode cX11_hasWay 83 = .ok (.iconst 4, 1) := by decide +kernel
theorem dX11_hasWay_84 : decode cX11_hasWay 84 = .ok (.iadd, 1) := by decide +kernel
theorem dX11_hasWay_85 : decode cX11_hasWay 85 = .ok (.iaload, 1) := by decide +kernel
theorem dX11_hasWay_86 : decode cX11_hasWay 86 = .ok (.if_icmp .gt 17, 3) := by decide +kernel
theorem dX11_hasWay_89 : decode cX11_hasWay 89 = .ok (.aload_n 0, 1) := by decide +kernel
theorem dX11_hasWay_90 : decode cX11_hasWay 90 = .ok (.iload 5, 2) := by decide +kernel
theorem dX11_hasWay_92 : decode cX11_hasWay 92 = .ok (.putfield 178, 3) := by decide +kernel
theorem dX11_hasWay_95 : decode cX11_hasWay 95 = .ok (.aload_n 0, 1) := by decide +kernel
theorem dX11_hasWay_96 : decode cX11_hasWay 96 = .ok (.iload 4, 2) := by decide +kernel
theorem dX11_hasWay_98 : decode cX11_hasWay 98 = .ok (.putfield 181, 3) := by decide +kernel
theorem dX11_hasWay_101 : decode cX11_hasWay 101 = .ok (.iconst 1, 1) := by decide +kernel
theorem dX11_hasWay_102 : decode cX11_hasWay 102 = .ok (.ireturn, 1) := by decide +kernel
theorem dX11_hasWay_103 : decode cX11_hasWay 103 = .ok (.iinc 4 1, 3) := by decide +kernel
theorem dX11_hasWay_106 : decode cX11_hasWay 106 = .ok (.goto (-73), 3) := by decide +kernel
theorem dX11_hasWay_109 : decode cX11_hasWay 109 = .ok (.iconst 0, 1) := by decide +kernel
theorem dX11_hasWay_110 : decode cX11_hasWay 110 = .ok (.ireturn, 1) := by decide +kernel
theorem dX11_layRest_0 : decode cX11_layRest 0 = .ok (.iconst 0, 1) := by decide +kernel
theorem dX11_layRest_1 : decode cX11_layRest 1 = .ok (.istore 4, 2) := by decide +kernel
theorem dX11_layRest_3 : decode cX11_layRest 3 = .ok (.iload 4, 2) := by decide +kernel
theorem dX11_layRest_5 : decode cX11_layRest 5 = .ok (.bipush 36, 2) := by decide +kernel
theorem dX11_layRest_7 : decode cX11_layRest 7 = .ok (.if_icmp .ge 23, 3) := by decide +kernel
theorem dX11_layRest_10 : decode cX11_layRest 10 = .ok (.aload_n 0, 1) := by decide +kernel
theorem dX11_layRest_11 : decode cX11_layRest 11 = .ok (.getfield 54, 3) := by decide +kernel
theorem dX11_layRest_14 : decode cX11_layRest 14 = .ok (.bipush 36, 2) := by decide +kernel
theorem dX11_layRest_16 : decode cX11_layRest 16 = .ok (.iload_n 2, 1) := by decide +kernel
theorem dX11_layRest_17 : decode cX11_layRest 17 = .ok (.imul, 1) := by decide +kernel
theorem dX11_layRest_18 : decode cX11_layRest 18 = .ok (.iload 4, 2) := by decide +kernel
theorem dX11_layRest_20 : decode cX11_layRest 20 = .ok (.iadd, 1) := by decide +kernel
theorem dX11_layRest_21 : decode cX11_layRest 21 = .ok (.ldc 184, 2) := by decide +kernel
theorem dX11_layRest_23 : decode cX11_layRest 23 = .ok (.iastore, 1) := by decide +kernel
theorem dX11_layRest_24 : decode cX11_layRest 24 = .ok (.iinc 4 1, 3) := by decide +kernel
theorem dX11_layRest_27 : decode cX11_layRest 27 = .ok (.goto (-24), 3) := by decide +kernel
theorem dX11_layRest_30 : decode cX11_layRest 30 = .ok (.aload_n 0, 1) := by decide +kernel
theorem dX11_layRest_31 : decode cX11_layRest 31 = .ok (.getfield 24, 3) := by decide +kernel
theorem dX11_layRest_34 : decode cX11_layRest 34 = .ok (.bipush 8, 2) := by decide +kernel
theorem dX11_layRest_36 : decode cX11_layRest 36 = .ok (.iload_n 1, 1) := by decide +kernel
theorem dX11_layRest_37 : decode cX11_layRest 37 = .ok (.imul, 1) := by decide +kernel
theorem dX11_layRest_38 : decode cX11_layRest 38 = .ok (.iconst 1, 1) := by decide +kernel
theorem dX11_layRest_39 : decode cX11_layRest 39 = .ok (.iadd, 1) := by decide +kernel
theorem dX11_layRest_40 : decode cX11_layRest 40 = .ok (.iaload, 1) := by decide +kernel
theorem dX11_layRest_41 : decode cX11_layRest 41 = .ok (.istore 4, 2) := by decide +kernel
theorem dX11_layRest_43 : decode cX11_layRest 43 = .ok (.aload_n 0, 1) := by decide +kernel
theorem dX11_layRest_44 : decode cX11_layRest 44 = .ok (.getfield 54, 3) := by decide +kernel
theorem dX11_layRest_47 : decode cX11_layRest 47 = .ok (.bipush 36, 2) := by decide +kernel
theorem dX11_layRest_49 : decode cX11_layRest 49 = .ok (.iload_n 2, 1) := by decide +kernel
theorem dX11_layRest_50 : decode cX11_layRest 50 = .ok (.imul, 1) := by decide +kernel
theorem dX11_layRest_51 : decode cX11_layRest 51 = .ok (.iload 4, 2) := by decide +kernel
theorem dX11_layRest_53 : decode cX11_layRest 53 = .ok (.iadd, 1) := by decide +kernel
theorem dX11_layRest_54 : decode cX11_layRest 54 = .ok (.aload_n 0, 1) := by decide +kernel
theorem dX11_layRest_55 : decode cX11_layRest 55 = .ok (.iload 4, 2) := by decide +kernel
theorem dX11_layRest_57 : decode cX11_layRest 57 = .ok (.iload_n 2, 1) := by decide +kernel
theorem dX11_layRest_58 : decode cX11_layRest 58 = .ok (.iconst 0, 1) := by decide +kernel
theorem dX11_layRest_59 : decode cX11_layRest 59 = .ok (.invokevirtual 167, 3) := by decide +kernel
theorem dX11_layRest_62 : decode cX11_layRest 62 = .ok (.ifCond .eq 13, 3) := by decide +kernel
theorem dX11_layRest_65 : decode cX11_layRest 65 = .ok (.aload_n 0, 1) := by decide +kernel
theorem dX11_layRest_66 : decode cX11_layRest 66 = .ok (.getfield 57, 3) := by decide +kernel
theorem dX11_layRest_69 : decode cX11_layRest 69 = .ok (.iload 4, 2) := by decide +kernel
theorem dX11_layRest_71 : decode cX11_layRest 71 = .ok (.iaload, 1) := by decide +kernel
theorem dX11_layRest_72 : decode cX11_layRest 72 = .ok (.goto 5, 3) := by decide +kernel
theorem dX11_layRest_75 : decode cX11_layRest 75 = .ok (.ldc 184, 2) := by decide +kernel
theorem dX11_layRest_77 : decode cX11_layRest 77 = .ok (.iastore, 1) := by decide +kernel
theorem dX11_layRest_78 : decode cX11_layRest 78 = .ok (.iload_n 2, 1) := by decide +kernel
theorem dX11_layRest_79 : decode cX11_layRest 79 = .ok (.iconst 1, 1) := by decide +kernel
theorem dX11_layRest_80 : decode cX11_layRest 80 = .ok (.isub, 1) := by decide +kernel
theorem dX11_layRest_81 : decode cX11_layRest 81 = .ok (.istore 5, 2) := by decide +kernel
theorem dX11_layRest_83 : decode cX11_layRest 83 = .ok (.iload 5, 2) := by decide +kernel
theorem dX11_layRest_85 : decode cX11_layRest 85 = .ok (.iload_n 3, 1) := by decide +kernel
theorem dX11_layRest_86 : decode cX11_layRest 86 = .ok (.if_icmp .lt 152, 3) := by decide +kernel
theorem dX11_layRest_89 : decode cX11_layRest 89 = .ok (.iconst 0, 1) := by decide +kernel
theorem dX11_layRest_90 : decode cX11_layRest 90 = .ok (.istore 6, 2) := by decide +kernel
theorem dX11_layRest_92 : decode cX11_layRest 92 = .ok (.iload 6, 2) := by decide +kernel
theorem dX11_layRest_94 : decode cX11_layRest 94 = .ok (.aload_n 0, 1) := by decide +kernel
theorem dX11_layRest_95 : decode cX11_layRest 95 = .ok (.invokevirtual 101, 3) := by decide +kernel
theorem dX11_layRest_98 : decode cX11_layRest 98 = .ok (.if_icmp .ge 134, 3) := by decide +kernel
theorem dX11_layRest_101 : decode cX11_layRest 101 = .ok (.ldc 184, 2) := by decide +kernel
theorem dX11_layRest_103 : decode cX11_layRest 103 = .ok (.istore 7, 2) := by decide +kernel
theorem dX11_layRest_105 : decode cX11_layRest 105 = .ok (.iconst 0, 1) := by decide +kernel
theorem dX11_layRest_106 : decode cX11_layRest 106 = .ok (.istore 8, 2) := by decide +kernel
theorem dX11_layRest_108 : decode cX11_layRest 108 = .ok (.iload 8, 2) := by decide +kernel
theorem dX11_layRest_110 : decode cX11_layRest 110 = .ok (.iconst 5, 1) := by decide +kernel
theorem dX11_layRest_111 : decode cX11_layRest 111 = .ok (.if_icmp .ge 80, 3) := by decide +kernel
theorem dX11_layRest_114 : decode cX11_layRest 114 = .ok (.aload_n 0, 1) := by decide +kernel
theorem dX11_layRest_115 : decode cX11_layRest 115 = .ok (.iload 6, 2) := by decide +kernel
theorem dX11_layRest_117 : decode cX11_layRest 117 = .ok (.iload 5, 2) := by decide +kernel
theorem dX11_layRest_119 : decode cX11_layRest 119 = .ok (.iconst 0, 1) := by decide +kernel
theorem dX11_layRest_120 : decode cX11_layRest 120 = .ok (.invokevirtual 167, 3) := by decide +kernel
theorem dX11_layRest_123 : decode cX11_layRest 123 = .ok (.ifCond .eq 68, 3) := by decide +kernel
theorem dX11_layRest_126 : decode cX11_layRest 126 = .ok (.aload_n 0, 1) := by decide +kernel
theorem dX11_layRest_127 : decode cX11_layRest 127 = .ok (.iload 6, 2) := by decide +kernel
theorem dX11_layRest_129 : decode cX11_layRest 129 = .ok (.iload 5, 2) := by decide +kernel
theorem dX11_layRest_131 : decode cX11_layRest 131 = .ok (.iload 8, 2) := by decide +kernel
theorem dX11_layRest_133 : decode cX11_layRest 133 = .ok (.iconst 0, 1) := by decide +kernel
theorem dX11_layRest_134 : decode cX11_layRest 134 = .ok (.invokevirtual 171, 3) := by decide +kernel
theorem dX11_layRest_137 : decode cX11_layRest 137 = .ok (.istore 9, 2) := by decide +kernel
theorem dX11_layRest_139 : decode cX11_layRest 139 = .ok (.iload 9, 2) := by decide +kernel
theorem dX11_layRest_141 : decode cX11_layRest 141 = .ok (.ldc 66, 2) := by decide +kernel
theorem dX11_layRest_143 : decode cX11_layRest 143 = .ok (.if_icmp .ne 8, 3) := by decide +kernel
theorem dX11_layRest_146 : decode cX11_layRest 146 = .ok (.ldc 184, 2) := by decide +kernel
theorem dX11_layRest_148 : decode cX11_layRest 148 = .ok (.goto 19, 3) := by decide +kernel
theorem dX11_layRest_151 : decode cX11_layRest 151 = .ok (.aload_n 0, 1) := by decide +kernel
theorem dX11_layRest_152 : decode cX11_layRest 152 = .ok (.getfield 54, 3) := by decide +kernel
theorem dX11_layRest_155 : decode cX11_layRest 155 = .ok (.bipush 36, 2) := by decide +kernel
theorem dX11_layRest_157 : decode cX11_layRest 157 = .ok (.iload 5, 2) := by decide +kernel
theorem dX11_layRest_159 : decode cX11_layRest 159 = .ok (.imul, 1) := by decide +kernel
theorem dX11_layRest_160 : decode cX11_layRest 160 = .ok (.bipush 36, 2) := by decide +kernel
theorem dX11_layRest_162 : decode cX11_layRest 162 = .ok (.iadd, 1) := by decide +kernel
theorem dX11_layRest_163 : decode cX11_layRest 163 = .ok (.iload 9, 2) := by decide +kernel
theorem dX11_layRest_165 : decode cX11_layRest 165 = .ok (.iadd, 1) := by decide +kernel
theorem dX11_layRest_166 : decode cX11_layRest 166 = .ok (.iaload, 1) := by decide +kernel
theorem dX11_layRest_167 : decode cX11_layRest 167 = .ok (.istore 10, 2) := by decide +kernel
theorem dX11_layRest_169 : decode cX11_layRest 169 = .ok (.iload 10, 2) := by decide +kernel
theorem dX11_layRest_171 : decode cX11_layRest 171 = .ok (.iload 7, 2) := by decide +kernel
theorem dX11_layRest_173 : decode cX11_layRest 173 = .ok (.if_icmp .ge 8, 3) := by decide +kernel
theorem dX11_layRest_176 : decode cX11_layRest 176 = .ok (.iload 10, 2) := by decide +kernel
theorem dX11_layRest_178 : decode cX11_layRest 178 = .ok (.goto 5, 3) := by decide +kernel
theorem dX11_layRest_181 : decode cX11_layRest 181 = .ok (.iload 7, 2) := by decide +kernel
theorem dX11_layRest_183 : decode cX11_layRest 183 = .ok (.istore 7, 2) := by decide +kernel
theorem dX11_layRest_185 : decode cX11_layRest 185 = .ok (.iinc 8 1, 3) := by decide +kernel
theorem dX11_layRest_188 : decode cX11_layRest 188 = .ok (.goto (-80), 3) := by decide +kernel
theorem dX11_layRest_191 : decode cX11_layRest 191 = .ok (.aload_n 0, 1) := by decide +kernel
theorem dX11_layRest_192 : decode cX11_layRest 192 = .ok (.getfield 54, 3) := by decide +kernel
theorem dX11_layRest_195 : decode cX11_layRest 195 = .ok (.bipush 36, 2) := by decide +kernel
theorem dX11_layRest_197 : decode cX11_layRest 197 = .ok (.iload 5, 2) := by decide +kernel
theorem dX11_layRest_199 : decode cX11_layRest 199 = .ok (.imul, 1) := by decide +kernel
theorem dX11_layRest_200 : decode cX11_layRest 200 = .ok (.iload 6, 2) := by decide +kernel
theorem dX11_layRest_202 : decode cX11_layRest 202 = .ok (.iadd, 1) := by decide +kernel
theorem dX11_layRest_203 : decode cX11_layRest 203 = .ok (.iload 7, 2) := by decide +kernel
theorem dX11_layRest_205 : decode cX11_layRest 205 = .ok (.ldc 184, 2) := by decide +kernel
theorem dX11_layRest_207 : decode cX11_layRest 207 = .ok (.if_icmp .lt 8, 3) := by decide +kernel
theorem dX11_layRest_210 : decode cX11_layRest 210 = .ok (.ldc 184, 2) := by decide +kernel
theorem dX11_layRest_212 : decode cX11_layRest 212 = .ok (.goto 13, 3) := by decide +kernel
theorem dX11_layRest_215 : decode cX11_layRest 215 = .ok (.iload 7, 2) := by decide +kernel
theorem dX11_layRest_217 : decode cX11_layRest 217 = .ok (.aload_n 0, 1) := by decide +kernel
theorem dX11_layRest_218 : decode cX11_layRest 218 = .ok (.getfield 57, 3) := by decide +kernel
theorem dX11_layRest_221 : decode cX11_layRest 221 = .ok (.iload 6, 2) := by decide +kernel
theorem dX11_layRest_223 : decode cX11_layRest 223 = .ok (.iaload, 1) := by decide +kernel
theorem dX11_layRest_224 : decode cX11_layRest 224 = .ok (.iadd, 1) := by decide +kernel
theorem dX11_layRest_225 : decode cX11_layRest 225 = .ok (.iastore, 1) := by decide +kernel
theorem dX11_layRest_226 : decode cX11_layRest 226 = .ok (.iinc 6 1, 3) := by decide +kernel
theorem dX11_layRest_229 : decode cX11_layRest 229 = .ok (.goto (-137), 3) := by decide +kernel
theorem dX11_layRest_232 : decode cX11_layRest 232 = .ok (.iinc 5 (-1), 3) := by decide +kernel
theorem dX11_layRest_235 : decode cX11_layRest 235 = .ok (.goto (-152), 3) := by decide +kernel
theorem dX11_layRest_238 : decode cX11_layRest 238 = .ok (.return_, 1) := by decide +kernel
theorem dX11_laySteps_0 : decode cX11_laySteps 0 = .ok (.aload_n 0, 1) := by decide +kernel
theorem dX11_laySteps_1 : decode cX11_laySteps 1 = .ok (.getfield 24, 3) := by decide +kernel
theorem dX11_laySteps_4 : decode cX11_laySteps 4 = .ok (.bipush 8, 2) := by decide +kernel
theorem dX11_laySteps_6 : decode cX11_laySteps 6 = .ok (.iload_n 1, 1) := by decide +kernel
theorem dX11_laySteps_7 : decode cX11_laySteps 7 = .ok (.imul, 1) := by decide +kernel
theorem dX11_laySteps_8 : decode cX11_laySteps 8 = .ok (.iaload, 1) := by decide +kernel
theorem dX11_laySteps_9 : decode cX11_laySteps 9 = .ok (.istore_n 2, 1) := by decide +kernel
theorem dX11_laySteps_10 : decode cX11_laySteps 10 = .ok (.aload_n 0, 1) := by decide +kernel
theorem dX11_laySteps_11 : decode cX11_laySteps 11 = .ok (.getfield 178, 3) := by decide +kernel
theorem dX11_laySteps_14 : decode cX11_laySteps 14 = .ok (.istore_n 3, 1) := by decide +kernel
theorem dX11_laySteps_15 : decode cX11_laySteps 15 = .ok (.iload_n 3, 1) := by decide +kernel
theorem dX11_laySteps_16 : decode cX11_laySteps 16 = .ok (.aload_n 0, 1) := by decide +kernel
theorem dX11_laySteps_17 : decode cX11_laySteps 17 = .ok (.getfield 181, 3) := by decide +kernel
theorem dX11_laySteps_20 : decode cX11_laySteps 20 = .ok (.if_icmp .ge 45, 3) := by decide +kernel
theorem dX11_laySteps_23 : decode cX11_laySteps 23 = .ok (.iconst 0, 1) := by decide +kernel
theorem dX11_laySteps_24 : decode cX11_laySteps 24 = .ok (.istore 4, 2) := by decide +kernel
theorem dX11_laySteps_26 : decode cX11_laySteps 26 = .ok (.aload_n 0, 1) := by decide +kernel
theorem dX11_laySteps_27 : decode cX11_laySteps 27 = .ok (.iload_n 2, 1) := by decide +kernel
theorem dX11_laySteps_28 : decode cX11_laySteps 28 = .ok (.iload_n 3, 1) := by decide +kernel
theorem dX11_laySteps_29 : decode cX11_laySteps 29 = .ok (.iload 4, 2) := by decide +kernel
theorem dX11_laySteps_31 : decode cX11_laySteps 31 = .ok (.invokevirtual 185, 3) := by decide +kernel
theorem dX11_laySteps_34 : decode cX11_laySteps 34 = .ok (.ifCond .ne 9, 3) := by decide +kernel
theorem dX11_laySteps_37 : decode cX11_laySteps 37 = .ok (.iinc 4 1, 3) := by decide +kernel
theorem dX11_laySteps_40 : decode cX11_laySteps 40 = .ok (.goto (-14), 3) := by decide +kernel
theorem dX11_laySteps_43 : decode cX11_laySteps 43 = .ok (.aload_n 0, 1) := by decide +kernel
theorem dX11_laySteps_44 : decode cX11_laySteps 44 = .ok (.getfield 51, 3) := by decide +kernel
theorem dX11_laySteps_47 : decode cX11_laySteps 47 = .ok (.iload_n 3, 1) := by decide +kernel
theorem dX11_laySteps_48 : decode cX11_laySteps 48 = .ok (.iload 4, 2) := by decide +kernel
theorem dX11_laySteps_50 : decode cX11_laySteps 50 = .ok (.iastore, 1) := by decide +kernel
theorem dX11_laySteps_51 : decode cX11_laySteps 51 = .ok (.aload_n 0, 1) := by decide +kernel
theorem dX11_laySteps_52 : decode cX11_laySteps 52 = .ok (.iload_n 2, 1) := by decide +kernel
theorem dX11_laySteps_53 : decode cX11_laySteps 53 = .ok (.iload 4, 2) := by decide +kernel
theorem dX11_laySteps_55 : decode cX11_laySteps 55 = .ok (.invokevirtual 164, 3) := by decide +kernel
theorem dX11_laySteps_58 : decode cX11_laySteps 58 = .ok (.istore_n 2, 1) := by decide +kernel
theorem dX11_laySteps_59 : decode cX11_laySteps 59 = .ok (.iinc 3 1, 3) := by decide +kernel
theorem dX11_laySteps_62 : decode cX11_laySteps 62 = .ok (.goto (-47), 3) := by decide +kernel
theorem dX11_laySteps_65 : decode cX11_laySteps 65 = .ok (.return_, 1) := by decide +kernel
theorem dX11_isLeast_0 : decode cX11_isLeast 0 = .ok (.aload_n 0, 1) := by decide +kernel
theorem dX11_isLeast_1 : decode cX11_isLeast 1 = .ok (.iload_n 1, 1) := by decide +kernel
theorem dX11_isLeast_2 : decode cX11_isLeast 2 = .ok (.iload_n 2, 1) := by decide +kernel
theorem dX11_isLeast_3 : decode cX11_isLeast 3 = .ok (.iload_n 3, 1) := by decide +kernel
theorem dX11_isLeast_4 : decode cX11_isLeast 4 = .ok (.iconst 0, 1) := by decide +kernel
theorem dX11_isLeast_5 : decode cX11_isLeast 5 = .ok (.invokevirtual 171, 3) := by decide +kernel
theorem dX11_isLeast_8 : decode cX11_isLeast 8 = .ok (.istore 4, 2) := by decide +kernel
theorem dX11_isLeast_10 : decode cX11_isLeast 10 = .ok (.iload 4, 2) := by decide +kernel
theorem dX11_isLeast_12 : decode cX11_isLeast 12 = .ok (.ldc 66, 2) := by decide +kernel
theorem dX11_isLeast_14 : decode cX11_isLeast 14 = .ok (.if_icmp .eq 63, 3) := by decide +kernel
theorem dX11_isLeast_17 : decode cX11_isLeast 17 = .ok (.aload_n 0, 1) := by decide +kernel
theorem dX11_isLeast_18 : decode cX11_isLeast 18 = .ok (.getfield 54, 3) := by decide +kernel
theorem dX11_isLeast_21 : decode cX11_isLeast 21 = .ok (.bipush 36, 2) := by decide +kernel
theorem dX11_isLeast_23 : decode cX11_isLeast 23 = .ok (.iload_n 2, 1) := by decide +kernel
theorem dX11_isLeast_24 : decode cX11_isLeast 24 = .ok (.imul, 1) := by decide +kernel
theorem dX11_isLeast_25 : decode cX11_isLeast 25 = .ok (.bipush 36, 2) := by decide +kernel
theorem dX11_isLeast_27 : decode cX11_isLeast 27 = .ok (.iadd, 1) := by decide +kernel
theorem dX11_isLeast_28 : decode cX11_isLeast 28 = .ok (.iload 4, 2) := by decide +kernel
theorem dX11_isLeast_30 : decode cX11_isLeast 30 = .ok (.iadd, 1) := by decide +kernel
theorem dX11_isLeast_31 : decode cX11_isLeast 31 = .ok (.iaload, 1) := by decide +kernel
theorem dX11_isLeast_32 : decode cX11_isLeast 32 = .ok (.ldc 184, 2) := by decide +kernel
theorem dX11_isLeast_34 : decode cX11_isLeast 34 = .ok (.if_icmp .ge 43, 3) := by decide +kernel
theorem dX11_isLeast_37 : decode cX11_isLeast 37 = .ok (.aload_n 0, 1) := by decide +kernel
theorem dX11_isLeast_38 : decode cX11_isLeast 38 = .ok (.getfield 54, 3) := by decide +kernel
theorem dX11_isLeast_41 : decode cX11_isLeast 41 = .ok (.bipush 36, 2) := by decide +kernel
theorem dX11_isLeast_43 : decode cX11_isLeast 43 = .ok (.iload_n 2, 1) := by decide +kernel
theorem dX11_isLeast_44 : decode cX11_isLeast 44 = .ok (.imul, 1) := by decide +kernel
theorem dX11_isLeast_45 : decode cX11_isLeast 45 = .ok (.bipush 36, 2) := by decide +kernel
theorem dX11_isLeast_47 : decode cX11_isLeast 47 = .ok (.iadd, 1) := by decide +kernel
theorem dX11_isLeast_48 : decode cX11_isLeast 48 = .ok (.iload 4, 2) := by decide +kernel
theorem dX11_isLeast_50 : decode cX11_isLeast 50 = .ok (.iadd, 1) := by decide +kernel
theorem dX11_isLeast_51 : decode cX11_isLeast 51 = .ok (.iaload, 1) := by decide +kernel
theorem dX11_isLeast_52 : decode cX11_isLeast 52 = .ok (.aload_n 0, 1) := by decide +kernel
theorem dX11_isLeast_53 : decode cX11_isLeast 53 = .ok (.getfield 57, 3) := by decide +kernel
theorem dX11_isLeast_56 : decode cX11_isLeast 56 = .ok (.iload_n 1, 1) := by decide +kernel
theorem dX11_isLeast_57 : decode cX11_isLeast 57 = .ok (.iaload, 1) := by decide +kernel
theorem dX11_isLeast_58 : decode cX11_isLeast 58 = .ok (.iadd, 1) := by decide +kernel
theorem dX11_isLeast_59 : decode cX11_isLeast 59 = .ok (.aload_n 0, 1) := by decide +kernel
theorem dX11_isLeast_60 : decode cX11_isLeast 60 = .ok (.getfield 54, 3) := by decide +kernel
theorem dX11_isLeast_63 : decode cX11_isLeast 63 = .ok (.bipush 36, 2) := by decide +kernel
theorem dX11_isLeast_65 : decode cX11_isLeast 65 = .ok (.iload_n 2, 1) := by decide +kernel
theorem dX11_isLeast_66 : decode cX11_isLeast 66 = .ok (.imul, 1) := by decide +kernel
theorem dX11_isLeast_67 : decode cX11_isLeast 67 = .ok (.iload_n 1, 1) := by decide +kernel
theorem dX11_isLeast_68 : decode cX11_isLeast 68 = .ok (.iadd, 1) := by decide +kernel
theorem dX11_isLeast_69 : decode cX11_isLeast 69 = .ok (.iaload, 1) := by decide +kernel
theorem dX11_isLeast_70 : decode cX11_isLeast 70 = .ok (.if_icmp .ne 7, 3) := by decide +kernel
theorem dX11_isLeast_73 : decode cX11_isLeast 73 = .ok (.iconst 1, 1) := by decide +kernel
theorem dX11_isLeast_74 : decode cX11_isLeast 74 = .ok (.goto 4, 3) := by decide +kernel
theorem dX11_isLeast_77 : decode cX11_isLeast 77 = .ok (.iconst 0, 1) := by decide +kernel
theorem dX11_isLeast_78 : decode cX11_isLeast 78 = .ok (.ireturn, 1) := by decide +kernel
theorem dX11_layAll_0 : decode cX11_layAll 0 = .ok (.aload_n 0, 1) := by decide +kernel
theorem dX11_layAll_1 : decode cX11_layAll 1 = .ok (.invokevirtual 188, 3) := by decide +kernel
theorem dX11_layAll_4 : decode cX11_layAll 4 = .ok (.aload_n 0, 1) := by decide +kernel
theorem dX11_layAll_5 : decode cX11_layAll 5 = .ok (.invokevirtual 191, 3) := by decide +kernel
theorem dX11_layAll_8 : decode cX11_layAll 8 = .ok (.return_, 1) := by decide +kernel
theorem dX11_laySoonest_0 : decode cX11_laySoonest 0 = .ok (.aload_n 0, 1) := by decide +kernel
theorem dX11_laySoonest_1 : decode cX11_laySoonest 1 = .ok (.iload_n 1, 1) := by decide +kernel
theorem dX11_laySoonest_2 : decode cX11_laySoonest 2 = .ok (.iconst 0, 1) := by decide +kernel
theorem dX11_laySoonest_3 : decode cX11_laySoonest 3 = .ok (.invokevirtual 194, 3) := by decide +kernel
theorem dX11_laySoonest_6 : decode cX11_laySoonest 6 = .ok (.ifCond .ne 5, 3) := by decide +kernel
theorem dX11_laySoonest_9 : decode cX11_laySoonest 9 = .ok (.iconst 0, 1) := by decide +kernel
theorem dX11_laySoonest_10 : decode cX11_laySoonest 10 = .ok (.ireturn, 1) := by decide +kernel
theorem dX11_laySoonest_11 : decode cX11_laySoonest 11 = .ok (.iconst 0, 1) := by decide +kernel
theorem dX11_laySoonest_12 : decode cX11_laySoonest 12 = .ok (.istore_n 2, 1) := by decide +kernel
theorem dX11_laySoonest_13 : decode cX11_laySoonest 13 = .ok (.iload_n 2, 1) := by decide +kernel
theorem dX11_laySoonest_14 : decode cX11_laySoonest 14 = .ok (.bipush 36, 2) := by decide +kernel
theorem dX11_laySoonest_16 : decode cX11_laySoonest 16 = .ok (.if_icmp .ge 16, 3) := by decide +kernel
theorem dX11_laySoonest_19 : decode cX11_laySoonest 19 = .ok (.aload_n 0, 1) := by decide +kernel
theorem dX11_laySoonest_20 : decode cX11_laySoonest 20 = .ok (.getfield 57, 3) := by decide +kernel
theorem dX11_laySoonest_23 : decode cX11_laySoonest 23 = .ok (.iload_n 2, 1) := by decide +kernel
theorem dX11_laySoonest_24 : decode cX11_laySoonest 24 = .ok (.iconst 0, 1) := by decide +kernel
theorem dX11_laySoonest_25 : decode cX11_laySoonest 25 = .ok (.iastore, 1) := by decide +kernel
theorem dX11_laySoonest_26 : decode cX11_laySoonest 26 = .ok (.iinc 2 1, 3) := by decide +kernel
theorem dX11_laySoonest_29 : decode cX11_laySoonest 29 = .ok (.goto (-16), 3) := by decide +kernel
theorem dX11_laySoonest_32 : decode cX11_laySoonest 32 = .ok (.aload_n 0, 1) := by decide +kernel
theorem dX11_laySoonest_33 : decode cX11_laySoonest 33 = .ok (.iload_n 1, 1) := by decide +kernel
theorem dX11_laySoonest_34 : decode cX11_laySoonest 34 = .ok (.aload_n 0, 1) := by decide +kernel
theorem dX11_laySoonest_35 : decode cX11_laySoonest 35 = .ok (.getfield 181, 3) := by decide +kernel
theorem dX11_laySoonest_38 : decode cX11_laySoonest 38 = .ok (.aload_n 0, 1) := by decide +kernel
theorem dX11_laySoonest_39 : decode cX11_laySoonest 39 = .ok (.getfield 178, 3) := by decide +kernel
theorem dX11_laySoonest_42 : decode cX11_laySoonest 42 = .ok (.invokevirtual 197, 3) := by decide +kernel
theorem dX11_laySoonest_45 : decode cX11_laySoonest 45 = .ok (.aload_n 0, 1) := by decide +kernel
theorem dX11_laySoonest_46 : decode cX11_laySoonest 46 = .ok (.iload_n 1, 1) := by decide +kernel
theorem dX11_laySoonest_47 : decode cX11_laySoonest 47 = .ok (.invokevirtual 201, 3) := by decide +kernel
theorem dX11_laySoonest_50 : decode cX11_laySoonest 50 = .ok (.iconst 1, 1) := by decide +kernel
theorem dX11_laySoonest_51 : decode cX11_laySoonest 51 = .ok (.ireturn, 1) := by decide +kernel
theorem dX11_mayAsk_0 : decode cX11_mayAsk 0 = .ok (.aload_n 0, 1) := by decide +kernel
theorem dX11_mayAsk_1 : decode cX11_mayAsk 1 = .ok (.iload_n 1, 1) := by decide +kernel
theorem dX11_mayAsk_2 : decode cX11_mayAsk 2 = .ok (.invokevirtual 155, 3) := by decide +kernel
theorem dX11_mayAsk_5 : decode cX11_mayAsk 5 = .ok (.ifCond .ne 8, 3) := by decide +kernel
theorem dX11_mayAsk_8 : decode cX11_mayAsk 8 = .ok (.ldc 114, 2) := by decide +kernel
theorem dX11_mayAsk_10 : decode cX11_mayAsk 10 = .ok (.goto 18, 3) := by decide +kernel
theorem dX11_mayAsk_13 : decode cX11_mayAsk 13 = .ok (.aload_n 0, 1) := by decide +kernel
theorem dX11_mayAsk_14 : decode cX11_mayAsk 14 = .ok (.getfield 33, 3) := by decide +kernel
theorem dX11_mayAsk_17 : decode cX11_mayAsk 17 = .ok (.iload_n 1, 1) := by decide +kernel
theorem dX11_mayAsk_18 : decode cX11_mayAsk 18 = .ok (.baload, 1) := by decide +kernel
theorem dX11_mayAsk_19 : decode cX11_mayAsk 19 = .ok (.ifCond .eq 8, 3) := by decide +kernel
theorem dX11_mayAsk_22 : decode cX11_mayAsk 22 = .ok (.ldc 154, 2) := by decide +kernel
theorem dX11_mayAsk_24 : decode cX11_mayAsk 24 = .ok (.goto 4, 3) := by decide +kernel
theorem dX11_mayAsk_27 : decode cX11_mayAsk 27 = .ok (.iconst 0, 1) := by decide +kernel
theorem dX11_mayAsk_28 : decode cX11_mayAsk 28 = .ok (.ireturn, 1) := by decide +kernel
theorem dX11_soonest_0 : decode cX11_soonest 0 = .ok (.aload_n 0, 1) := by decide +kernel
theorem dX11_soonest_1 : decode cX11_soonest 1 = .ok (.iload_n 1, 1) := by decide +kernel
theorem dX11_soonest_2 : decode cX11_soonest 2 = .ok (.invokevirtual 205, 3) := by decide +kernel
theorem dX11_soonest_5 : decode cX11_soonest 5 = .ok (.istore_n 2, 1) := by decide +kernel
theorem dX11_soonest_6 : decode cX11_soonest 6 = .ok (.iload_n 2, 1) := by decide +kernel
theorem dX11_soonest_7 : decode cX11_soonest 7 = .ok (.ifCond .ge 5, 3) := by decide +kernel
theorem dX11_soonest_10 : decode cX11_soonest 10 = .ok (.iload_n 2, 1) := by decide +kernel
theorem dX11_soonest_11 : decode cX11_soonest 11 = .ok (.ireturn, 1) := by decide +kernel
theorem dX11_soonest_12 : decode cX11_soonest 12 = .ok (.aload_n 0, 1) := by decide +kernel
theorem dX11_soonest_13 : decode cX11_soonest 13 = .ok (.invokevirtual 208, 3) := by decide +kernel
theorem dX11_soonest_16 : decode cX11_soonest 16 = .ok (.aload_n 0, 1) := by decide +kernel
theorem dX11_soonest_17 : decode cX11_soonest 17 = .ok (.iload_n 1, 1) := by decide +kernel
theorem dX11_soonest_18 : decode cX11_soonest 18 = .ok (.invokevirtual 211, 3) := by decide +kernel
theorem dX11_soonest_21 : decode cX11_soonest 21 = .ok (.ifCond .eq 10, 3) := by decide +kernel
theorem dX11_soonest_24 : decode cX11_soonest 24 = .ok (.aload_n 0, 1) := by decide +kernel
theorem dX11_soonest_25 : decode cX11_soonest 25 = .ok (.getfield 181, 3) := by decide +kernel
theorem dX11_soonest_28 : decode cX11_soonest 28 = .ok (.goto 5, 3) := by decide +kernel
theorem dX11_soonest_31 : decode cX11_soonest 31 = .ok (.ldc 66, 2) := by decide +kernel
theorem dX11_soonest_33 : decode cX11_soonest 33 = .ok (.ireturn, 1) := by decide +kernel
theorem dX11_told_0 : decode cX11_told 0 = .ok (.iload_n 1, 1) := by decide +kernel
theorem dX11_told_1 : decode cX11_told 1 = .ok (.ifCond .ne 10, 3) := by decide +kernel
theorem dX11_told_4 : decode cX11_told 4 = .ok (.aload_n 0, 1) := by decide +kernel
theorem dX11_told_5 : decode cX11_told 5 = .ok (.getfield 178, 3) := by decide +kernel
theorem dX11_told_8 : decode cX11_told 8 = .ok (.goto 40, 3) := by decide +kernel
theorem dX11_told_11 : decode cX11_told 11 = .ok (.iload_n 2, 1) := by decide +kernel
theorem dX11_told_12 : decode cX11_told 12 = .ok (.i2l, 1) := by decide +kernel
theorem dX11_told_13 : decode cX11_told 13 = .ok (.lconst 0, 1) := by decide +kernel
theorem dX11_told_14 : decode cX11_told 14 = .ok (.aload_n 0, 1) := by decide +kernel
theorem dX11_told_15 : decode cX11_told 15 = .ok (.getfield 181, 3) := by decide +kernel
theorem dX11_told_18 : decode cX11_told 18 = .ok (.aload_n 0, 1) := by decide +kernel
theorem dX11_told_19 : decode cX11_told 19 = .ok (.getfield 178, 3) := by decide +kernel
theorem dX11_told_22 : decode cX11_told 22 = .ok (.isub, 1) := by decide +kernel
theorem dX11_told_23 : decode cX11_told 23 = .ok (.iconst 1, 1) := by decide +kernel
theorem dX11_told_24 : decode cX11_told 24 = .ok (.isub, 1) := by decide +kernel
theorem dX11_told_25 : decode cX11_told 25 = .ok (.i2l, 1) := by decide +kernel
theorem dX11_told_26 : decode cX11_told 26 = .ok (.invokestatic 82, 3) := by decide +kernel
theorem dX11_told_29 : decode cX11_told 29 = .ok (.ifCond .eq 17, 3) := by decide +kernel
theorem dX11_told_32 : decode cX11_told 32 = .ok (.aload_n 0, 1) := by decide +kernel
theorem dX11_told_33 : decode cX11_told 33 = .ok (.getfield 51, 3) := by decide +kernel
theorem dX11_told_36 : decode cX11_told 36 = .ok (.aload_n 0, 1) := by decide +kernel
theorem dX11_told_37 : decode cX11_told 37 = .ok (.getfield 178, 3) := by decide +kernel
theorem dX11_told_40 : decode cX11_told 40 = .ok (.iload_n 2, 1) := by decide +kernel
theorem dX11_told_41 : decode cX11_told 41 = .ok (.iadd, 1) := by decide +kernel
theorem dX11_told_42 : decode cX11_told 42 = .ok (.iaload, 1) := by decide +kernel
theorem dX11_told_43 : decode cX11_told 43 = .ok (.goto 5, 3) := by decide +kernel
theorem dX11_told_46 : decode cX11_told 46 = .ok (.ldc 66, 2) := by decide +kernel
theorem dX11_told_48 : decode cX11_told 48 = .ok (.ireturn, 1) := by decide +kernel
theorem dX11_soonestAt_0 : decode cX11_soonestAt 0 = .ok (.aload_n 0, 1) := by decide +kernel
theorem dX11_soonestAt_1 : decode cX11_soonestAt 1 = .ok (.iload_n 1, 1) := by decide +kernel
theorem dX11_soonestAt_2 : decode cX11_soonestAt 2 = .ok (.invokevirtual 155, 3) := by decide +kernel
theorem dX11_soonestAt_5 : decode cX11_soonestAt 5 = .ok (.ifCond .ne 6, 3) := by decide +kernel
theorem dX11_soonestAt_8 : decode cX11_soonestAt 8 = .ok (.ldc 114, 2) := by decide +kernel
theorem dX11_soonestAt_10 : decode cX11_soonestAt 10 = .ok (.ireturn, 1) := by decide +kernel
theorem dX11_soonestAt_11 : decode cX11_soonestAt 11 = .ok (.iload_n 2, 1) := by decide +kernel
theorem dX11_soonestAt_12 : decode cX11_soonestAt 12 = .ok (.i2l, 1) := by decide +kernel
theorem dX11_soonestAt_13 : decode cX11_soonestAt 13 = .ok (.lconst 0, 1) := by decide +kernel
theorem dX11_soonestAt_14 : decode cX11_soonestAt 14 = .ok (.lconst 1, 1) := by decide +kernel
theorem dX11_soonestAt_15 : decode cX11_soonestAt 15 = .ok (.invokestatic 82, 3) := by decide +kernel
theorem dX11_soonestAt_18 : decode cX11_soonestAt 18 = .ok (.ifCond .ne 6, 3) := by decide +kernel
theorem dX11_soonestAt_21 : decode cX11_soonestAt 21 = .ok (.ldc 109, 2) := by decide +kernel
theorem dX11_soonestAt_23 : decode cX11_soonestAt 23 = .ok (.ireturn, 1) := by decide +kernel
theorem dX11_soonestAt_24 : decode cX11_soonestAt 24 = .ok (.aload_n 0, 1) := by decide +kernel
theorem dX11_soonestAt_25 : decode cX11_soonestAt 25 = .ok (.getfield 33, 3) := by decide +kernel
theorem dX11_soonestAt_28 : decode cX11_soonestAt 28 = .ok (.iload_n 1, 1) := by decide +kernel
theorem dX11_soonestAt_29 : decode cX11_soonestAt 29 = .ok (.baload, 1) := by decide +kernel
theorem dX11_soonestAt_30 : decode cX11_soonestAt 30 = .ok (.ifCond .eq 6, 3) := by decide +kernel
theorem dX11_soonestAt_33 : decode cX11_soonestAt 33 = .ok (.ldc 154, 2) := by decide +kernel
theorem dX11_soonestAt_35 : decode cX11_soonestAt 35 = .ok (.ireturn, 1) := by decide +kernel
theorem dX11_soonestAt_36 : decode cX11_soonestAt 36 = .ok (.aload_n 0, 1) := by decide +kernel
theorem dX11_soonestAt_37 : decode cX11_soonestAt 37 = .ok (.invokevirtual 208, 3) := by decide +kernel
theorem dX11_soonestAt_40 : decode cX11_soonestAt 40 = .ok (.aload_n 0, 1) := by decide +kernel
theorem dX11_soonestAt_41 : decode cX11_soonestAt 41 = .ok (.iload_n 1, 1) := by decide +kernel
theorem dX11_soonestAt_42 : decode cX11_soonestAt 42 = .ok (.invokevirtual 211, 3) := by decide +kernel
theorem dX11_soonestAt_45 : decode cX11_soonestAt 45 = .ok (.ifCond .eq 12, 3) := by decide +kernel
theorem dX11_soonestAt_48 : decode cX11_soonestAt 48 = .ok (.aload_n 0, 1) := by decide +kernel
theorem dX11_soonestAt_49 : decode cX11_soonestAt 49 = .ok (.iload_n 2, 1) := by decide +kernel
theorem dX11_soonestAt_50 : decode cX11_soonestAt 50 = .ok (.iload_n 3, 1) := by decide +kernel
theorem dX11_soonestAt_51 : decode cX11_soonestAt 51 = .ok (.invokevirtual 214, 3) := by decide +kernel
theorem dX11_soonestAt_54 : decode cX11_soonestAt 54 = .ok (.goto 5, 3) := by decide +kernel
theorem dX11_soonestAt_57 : decode cX11_soonestAt 57 = .ok (.ldc 66, 2) := by decide +kernel
theorem dX11_soonestAt_59 : decode cX11_soonestAt 59 = .ok (.ireturn, 1) := by decide +kernel
theorem dX11_keep_0 : decode cX11_keep 0 = .ok (.aload_n 0, 1) := by decide +kernel
theorem dX11_keep_1 : decode cX11_keep 1 = .ok (.getfield 33, 3) := by decide +kernel
theorem dX11_keep_4 : decode cX11_keep 4 = .ok (.iload_n 1, 1) := by decide +kernel
theorem dX11_keep_5 : decode cX11_keep 5 = .ok (.iconst 1, 1) := by decide +kernel
theorem dX11_keep_6 : decode cX11_keep 6 = .ok (.bastore, 1) := by decide +kernel
theorem dX11_keep_7 : decode cX11_keep 7 = .ok (.aload_n 0, 1) := by decide +kernel
theorem dX11_keep_8 : decode cX11_keep 8 = .ok (.getfield 27, 3) := by decide +kernel
theorem dX11_keep_11 : decode cX11_keep 11 = .ok (.iload_n 1, 1) := by decide +kernel
theorem dX11_keep_12 : decode cX11_keep 12 = .ok (.aload_n 0, 1) := by decide +kernel
theorem dX11_keep_13 : decode cX11_keep 13 = .ok (.getfield 178, 3) := by decide +kernel
theorem dX11_keep_16 : decode cX11_keep 16 = .ok (.iastore, 1) := by decide +kernel
theorem dX11_keep_17 : decode cX11_keep 17 = .ok (.aload_n 0, 1) := by decide +kernel
theorem dX11_keep_18 : decode cX11_keep 18 = .ok (.getfield 30, 3) := by decide +kernel
theorem dX11_keep_21 : decode cX11_keep 21 = .ok (.iload_n 1, 1) := by decide +kernel
theorem dX11_keep_22 : decode cX11_keep 22 = .ok (.aload_n 0, 1) := by decide +kernel
theorem dX11_keep_23 : decode cX11_keep 23 = .ok (.getfield 181, 3) := by decide +kernel
theorem dX11_keep_26 : decode cX11_keep 26 = .ok (.iastore, 1) := by decide +kernel
theorem dX11_keep_27 : decode cX11_keep 27 = .ok (.aload_n 0, 1) := by decide +kernel
theorem dX11_keep_28 : decode cX11_keep 28 = .ok (.getfield 24, 3) := by decide +kernel
theorem dX11_keep_31 : decode cX11_keep 31 = .ok (.bipush 8, 2) := by decide +kernel
theorem dX11_keep_33 : decode cX11_keep 33 = .ok (.iload_n 1, 1) := by decide +kernel
theorem dX11_keep_34 : decode cX11_keep 34 = .ok (.imul, 1) := by decide +kernel
theorem dX11_keep_35 : decode cX11_keep 35 = .ok (.iaload, 1) := by decide +kernel
theorem dX11_keep_36 : decode cX11_keep 36 = .ok (.istore_n 2, 1) := by decide +kernel
theorem dX11_keep_37 : decode cX11_keep 37 = .ok (.aload_n 0, 1) := by decide +kernel
theorem dX11_keep_38 : decode cX11_keep 38 = .ok (.getfield 178, 3) := by decide +kernel
theorem dX11_keep_41 : decode cX11_keep 41 = .ok (.istore_n 3, 1) := by decide +kernel
theorem dX11_keep_42 : decode cX11_keep 42 = .ok (.iload_n 3, 1) := by decide +kernel
theorem dX11_keep_43 : decode cX11_keep 43 = .ok (.aload_n 0, 1) := by decide +kernel
theorem dX11_keep_44 : decode cX11_keep 44 = .ok (.getfield 181, 3) := by decide +kernel
theorem dX11_keep_47 : decode cX11_keep 47 = .ok (.if_icmp .gt 45, 3) := by decide +kernel
theorem dX11_keep_50 : decode cX11_keep 50 = .ok (.aload_n 0, 1) := by decide +kernel
theorem dX11_keep_51 : decode cX11_keep 51 = .ok (.getfield 36, 3) := by decide +kernel
theorem dX11_keep_54 : decode cX11_keep 54 = .ok (.bipush 60, 2) := by decide +kernel
theorem dX11_keep_56 : decode cX11_keep 56 = .ok (.iload_n 1, 1) := by decide +kernel
theorem dX11_keep_57 : decode cX11_keep 57 = .ok (.imul, 1) := by decide +kernel
theorem dX11_keep_58 : decode cX11_keep 58 = .ok (.iload_n 3, 1) := by decide +kernel
theorem dX11_keep_59 : decode cX11_keep 59 = .ok (.iadd, 1) := by decide +kernel
theorem dX11_keep_60 : decode cX11_keep 60 = .ok (.iload_n 2, 1) := by decide +kernel
theorem dX11_keep_61 : decode cX11_keep 61 = .ok (.iastore, 1) := by decide +kernel
theorem dX11_keep_62 : decode cX11_keep 62 = .ok (.iload_n 3, 1) := by decide +kernel
theorem dX11_keep_63 : decode cX11_keep 63 = .ok (.aload_n 0, 1) := by decide +kernel
theorem dX11_keep_64 : decode cX11_keep 64 = .ok (.getfield 181, 3) := by decide +kernel
theorem dX11_keep_67 : decode cX11_keep 67 = .ok (.if_icmp .ge 17, 3) := by decide +kernel
theorem dX11_keep_70 : decode cX11_keep 70 = .ok (.aload_n 0, 1) := by decide +kernel
theorem dX11_keep_71 : decode cX11_keep 71 = .ok (.iload_n 2, 1) := by decide +kernel
theorem dX11_keep_72 : decode cX11_keep 72 = .ok (.aload_n 0, 1) := by decide +kernel
theorem dX11_keep_73 : decode cX11_keep 73 = .ok (.getfield 51, 3) := by decide +kernel
theorem dX11_keep_76 : decode cX11_keep 76 = .ok (.iload_n 3, 1) := by decide +kernel
theorem dX11_keep_77 : decode cX11_keep 77 = .ok (.iaload, 1) := by decide +kernel
theorem dX11_keep_78 : decode cX11_keep 78 = .ok (.invokevirtual 164, 3) := by decide +kernel
theorem dX11_keep_81 : decode cX11_keep 81 = .ok (.goto 4, 3) := by decide +kernel
theorem dX11_keep_84 : decode cX11_keep 84 = .ok (.iload_n 2, 1) := by decide +kernel
theorem dX11_keep_85 : decode cX11_keep 85 = .ok (.istore_n 2, 1) := by decide +kernel
theorem dX11_keep_86 : decode cX11_keep 86 = .ok (.iinc 3 1, 3) := by decide +kernel
theorem dX11_keep_89 : decode cX11_keep 89 = .ok (.goto (-47), 3) := by decide +kernel
theorem dX11_keep_92 : decode cX11_keep 92 = .ok (.return_, 1) := by decide +kernel
theorem dX11_give_0 : decode cX11_give 0 = .ok (.aload_n 0, 1) := by decide +kernel
theorem dX11_give_1 : decode cX11_give 1 = .ok (.iload_n 1, 1) := by decide +kernel
theorem dX11_give_2 : decode cX11_give 2 = .ok (.invokevirtual 205, 3) := by decide +kernel
theorem dX11_give_5 : decode cX11_give 5 = .ok (.istore_n 2, 1) := by decide +kernel
theorem dX11_give_6 : decode cX11_give 6 = .ok (.iload_n 2, 1) := by decide +kernel
theorem dX11_give_7 : decode cX11_give 7 = .ok (.ifCond .ge 5, 3) := by decide +kernel
theorem dX11_give_10 : decode cX11_give 10 = .ok (.iload_n 2, 1) := by decide +kernel
theorem dX11_give_11 : decode cX11_give 11 = .ok (.ireturn, 1) := by decide +kernel
theorem dX11_give_12 : decode cX11_give 12 = .ok (.aload_n 0, 1) := by decide +kernel
theorem dX11_give_13 : decode cX11_give 13 = .ok (.invokevirtual 208, 3) := by decide +kernel
theorem dX11_give_16 : decode cX11_give 16 = .ok (.aload_n 0, 1) := by decide +kernel
theorem dX11_give_17 : decode cX11_give 17 = .ok (.iload_n 1, 1) := by decide +kernel
theorem dX11_give_18 : decode cX11_give 18 = .ok (.invokevirtual 211, 3) := by decide +kernel
theorem dX11_give_21 : decode cX11_give 21 = .ok (.ifCond .ne 6, 3) := by decide +kernel
theorem dX11_give_24 : decode cX11_give 24 = .ok (.ldc 154, 2) := by decide +kernel
theorem dX11_give_26 : decode cX11_give 26 = .ok (.ireturn, 1) := by decide +kernel
theorem dX11_give_27 : decode cX11_give 27 = .ok (.aload_n 0, 1) := by decide +kernel
theorem dX11_give_28 : decode cX11_give 28 = .ok (.iload_n 1, 1) := by decide +kernel
theorem dX11_give_29 : decode cX11_give 29 = .ok (.invokevirtual 217, 3) := by decide +kernel
theorem dX11_give_32 : decode cX11_give 32 = .ok (.aload_n 0, 1) := by decide +kernel
theorem dX11_give_33 : decode cX11_give 33 = .ok (.getfield 181, 3) := by decide +kernel
theorem dX11_give_36 : decode cX11_give 36 = .ok (.ireturn, 1) := by decide +kernel
theorem dX11_take_0 : decode cX11_take 0 = .ok (.aload_n 0, 1) := by decide +kernel
theorem dX11_take_1 : decode cX11_take 1 = .ok (.iload_n 1, 1) := by decide +kernel
theorem dX11_take_2 : decode cX11_take 2 = .ok (.invokevirtual 155, 3) := by decide +kernel
theorem dX11_take_5 : decode cX11_take 5 = .ok (.ifCond .ne 6, 3) := by decide +kernel
theorem dX11_take_8 : decode cX11_take 8 = .ok (.ldc 114, 2) := by decide +kernel
theorem dX11_take_10 : decode cX11_take 10 = .ok (.ireturn, 1) := by decide +kernel
theorem dX11_take_11 : decode cX11_take 11 = .ok (.aload_n 0, 1) := by decide +kernel
theorem dX11_take_12 : decode cX11_take 12 = .ok (.getfield 33, 3) := by decide +kernel
theorem dX11_take_15 : decode cX11_take 15 = .ok (.iload_n 1, 1) := by decide +kernel
theorem dX11_take_16 : decode cX11_take 16 = .ok (.baload, 1) := by decide +kernel
theorem dX11_take_17 : decode cX11_take 17 = .ok (.ifCond .ne 6, 3) := by decide +kernel
theorem dX11_take_20 : decode cX11_take 20 = .ok (.ldc 154, 2) := by decide +kernel
theorem dX11_take_22 : decode cX11_take 22 = .ok (.ireturn, 1) := by decide +kernel
theorem dX11_take_23 : decode cX11_take 23 = .ok (.aload_n 0, 1) := by decide +kernel
theorem dX11_take_24 : decode cX11_take 24 = .ok (.getfield 33, 3) := by decide +kernel
theorem dX11_take_27 : decode cX11_take 27 = .ok (.iload_n 1, 1) := by decide +kernel
theorem dX11_take_28 : decode cX11_take 28 = .ok (.iconst 0, 1) := by decide +kernel
theorem dX11_take_29 : decode cX11_take 29 = .ok (.bastore, 1) := by decide +kernel
theorem dX11_take_30 : decode cX11_take 30 = .ok (.aload_n 0, 1) := by decide +kernel
theorem dX11_take_31 : decode cX11_take 31 = .ok (.getfield 30, 3) := by decide +kernel
theorem dX11_take_34 : decode cX11_take 34 = .ok (.iload_n 1, 1) := by decide +kernel
theorem dX11_take_35 : decode cX11_take 35 = .ok (.iaload, 1) := by decide +kernel
theorem dX11_take_36 : decode cX11_take 36 = .ok (.ireturn, 1) := by decide +kernel
theorem dX11_cellAt_0 : decode cX11_cellAt 0 = .ok (.aload_n 0, 1) := by decide +kernel
theorem dX11_cellAt_1 : decode cX11_cellAt 1 = .ok (.getfield 33, 3) := by decide +kernel
theorem dX11_cellAt_4 : decode cX11_cellAt 4 = .ok (.iload_n 1, 1) := by decide +kernel
theorem dX11_cellAt_5 : decode cX11_cellAt 5 = .ok (.baload, 1) := by decide +kernel
theorem dX11_cellAt_6 : decode cX11_cellAt 6 = .ok (.ifCond .eq 39, 3) := by decide +kernel
theorem dX11_cellAt_9 : decode cX11_cellAt 9 = .ok (.iload_n 2, 1) := by decide +kernel
theorem dX11_cellAt_10 : decode cX11_cellAt 10 = .ok (.i2l, 1) := by decide +kernel
theorem dX11_cellAt_11 : decode cX11_cellAt 11 = .ok (.aload_n 0, 1) := by decide +kernel
theorem dX11_cellAt_12 : decode cX11_cellAt 12 = .ok (.getfield 27, 3) := by decide +kernel
theorem dX11_cellAt_15 : decode cX11_cellAt 15 = .ok (.iload_n 1, 1) := by decide +kernel
theorem dX11_cellAt_16 : decode cX11_cellAt 16 = .ok (.iaload, 1) := by decide +kernel
theorem dX11_cellAt_17 : decode cX11_cellAt 17 = .ok (.i2l, 1) := by decide +kernel
theorem dX11_cellAt_18 : decode cX11_cellAt 18 = .ok (.aload_n 0, 1) := by decide +kernel
theorem dX11_cellAt_19 : decode cX11_cellAt 19 = .ok (.getfield 30, 3) := by decide +kernel
theorem dX11_cellAt_22 : decode cX11_cellAt 22 = .ok (.iload_n 1, 1) := by decide +kernel
theorem dX11_cellAt_23 : decode cX11_cellAt 23 = .ok (.iaload, 1) := by decide +kernel
theorem dX11_cellAt_24 : decode cX11_cellAt 24 = .ok (.i2l, 1) := by decide +kernel
theorem dX11_cellAt_25 : decode cX11_cellAt 25 = .ok (.invokestatic 82, 3) := by decide +kernel
theorem dX11_cellAt_28 : decode cX11_cellAt 28 = .ok (.ifCond .eq 17, 3) := by decide +kernel
theorem dX11_cellAt_31 : decode cX11_cellAt 31 = .ok (.aload_n 0, 1) := by decide +kernel
theorem dX11_cellAt_32 : decode cX11_cellAt 32 = .ok (.getfield 36, 3) := by decide +kernel
theorem dX11_cellAt_35 : decode cX11_cellAt 35 = .ok (.bipush 60, 2) := by decide +kernel
theorem dX11_cellAt_37 : decode cX11_cellAt 37 = .ok (.iload_n 1, 1) := by decide +kernel
theorem dX11_cellAt_38 : decode cX11_cellAt 38 = .ok (.imul, 1) := by decide +kernel
theorem dX11_cellAt_39 : decode cX11_cellAt 39 = .ok (.iload_n 2, 1) := by decide +kernel
theorem dX11_cellAt_40 : decode cX11_cellAt 40 = .ok (.iadd, 1) := by decide +kernel
theorem dX11_cellAt_41 : decode cX11_cellAt 41 = .ok (.iaload, 1) := by decide +kernel
theorem dX11_cellAt_42 : decode cX11_cellAt 42 = .ok (.goto 5, 3) := by decide +kernel
theorem dX11_cellAt_45 : decode cX11_cellAt 45 = .ok (.ldc 66, 2) := by decide +kernel
theorem dX11_cellAt_47 : decode cX11_cellAt 47 = .ok (.ireturn, 1) := by decide +kernel
theorem dX11_where_0 : decode cX11_where 0 = .ok (.aload_n 0, 1) := by decide +kernel
theorem dX11_where_1 : decode cX11_where 1 = .ok (.iload_n 1, 1) := by decide +kernel
theorem dX11_where_2 : decode cX11_where 2 = .ok (.invokevirtual 155, 3) := by decide +kernel
theorem dX11_where_5 : decode cX11_where 5 = .ok (.ifCond .ne 6, 3) := by decide +kernel
theorem dX11_where_8 : decode cX11_where 8 = .ok (.ldc 114, 2) := by decide +kernel
theorem dX11_where_10 : decode cX11_where 10 = .ok (.ireturn, 1) := by decide +kernel
theorem dX11_where_11 : decode cX11_where 11 = .ok (.iload_n 2, 1) := by decide +kernel
theorem dX11_where_12 : decode cX11_where 12 = .ok (.invokestatic 115, 3) := by decide +kernel
theorem dX11_where_15 : decode cX11_where 15 = .ok (.ifCond .ne 8, 3) := by decide +kernel
theorem dX11_where_18 : decode cX11_where 18 = .ok (.ldc 109, 2) := by decide +kernel
theorem dX11_where_20 : decode cX11_where 20 = .ok (.goto 23, 3) := by decide +kernel
theorem dX11_where_23 : decode cX11_where 23 = .ok (.aload_n 0, 1) := by decide +kernel
theorem dX11_where_24 : decode cX11_where 24 = .ok (.getfield 33, 3) := by decide +kernel
theorem dX11_where_27 : decode cX11_where 27 = .ok (.iload_n 1, 1) := by decide +kernel
theorem dX11_where_28 : decode cX11_where 28 = .ok (.baload, 1) := by decide +kernel
theorem dX11_where_29 : decode cX11_where 29 = .ok (.ifCond .eq 12, 3) := by decide +kernel
theorem dX11_where_32 : decode cX11_where 32 = .ok (.aload_n 0, 1) := by decide +kernel
theorem dX11_where_33 : decode cX11_where 33 = .ok (.iload_n 1, 1) := by decide +kernel
theorem dX11_where_34 : decode cX11_where 34 = .ok (.iload_n 2, 1) := by decide +kernel
theorem dX11_where_35 : decode cX11_where 35 = .ok (.invokevirtual 220, 3) := by decide +kernel
theorem dX11_where_38 : decode cX11_where 38 = .ok (.goto 5, 3) := by decide +kernel
theorem dX11_where_41 : decode cX11_where 41 = .ok (.ldc 154, 2) := by decide +kernel
theorem dX11_where_43 : decode cX11_where 43 = .ok (.ireturn, 1) := by decide +kernel
theorem dX11_meet_0 : decode cX11_meet 0 = .ok (.aload_n 0, 1) := by decide +kernel
theorem dX11_meet_1 : decode cX11_meet 1 = .ok (.iload_n 1, 1) := by decide +kernel
theorem dX11_meet_2 : decode cX11_meet 2 = .ok (.invokevirtual 155, 3) := by decide +kernel
theorem dX11_meet_5 : decode cX11_meet 5 = .ok (.ifCond .eq 11, 3) := by decide +kernel
theorem dX11_meet_8 : decode cX11_meet 8 = .ok (.aload_n 0, 1) := by decide +kernel
theorem dX11_meet_9 : decode cX11_meet 9 = .ok (.iload_n 2, 1) := by decide +kernel
theorem dX11_meet_10 : decode cX11_meet 10 = .ok (.invokevirtual 155, 3) := by decide +kernel
theorem dX11_meet_13 : decode cX11_meet 13 = .ok (.ifCond .ne 6, 3) := by decide +kernel
theorem dX11_meet_16 : decode cX11_meet 16 = .ok (.ldc 114, 2) := by decide +kernel
theorem dX11_meet_18 : decode cX11_meet 18 = .ok (.ireturn, 1) := by decide +kernel
theorem dX11_meet_19 : decode cX11_meet 19 = .ok (.iload_n 3, 1) := by decide +kernel
theorem dX11_meet_20 : decode cX11_meet 20 = .ok (.i2l, 1) := by decide +kernel
theorem dX11_meet_21 : decode cX11_meet 21 = .ok (.lconst 0, 1) := by decide +kernel
theorem dX11_meet_22 : decode cX11_meet 22 = .ok (.ldc2_w 121, 3) := by decide +kernel
theorem dX11_meet_25 : decode cX11_meet 25 = .ok (.invokestatic 82, 3) := by decide +kernel
theorem dX11_meet_28 : decode cX11_meet 28 = .ok (.ifCond .ne 6, 3) := by decide +kernel
theorem dX11_meet_31 : decode cX11_meet 31 = .ok (.ldc 109, 2) := by decide +kernel
theorem dX11_meet_33 : decode cX11_meet 33 = .ok (.ireturn, 1) := by decide +kernel
theorem dX11_meet_34 : decode cX11_meet 34 = .ok (.aload_n 0, 1) := by decide +kernel
theorem dX11_meet_35 : decode cX11_meet 35 = .ok (.getfield 33, 3) := by decide +kernel
theorem dX11_meet_38 : decode cX11_meet 38 = .ok (.iload_n 1, 1) := by decide +kernel
theorem dX11_meet_39 : decode cX11_meet 39 = .ok (.baload, 1) := by decide +kernel
theorem dX11_meet_40 : decode cX11_meet 40 = .ok (.ifCond .eq 12, 3) := by decide +kernel
theorem dX11_meet_43 : decode cX11_meet 43 = .ok (.aload_n 0, 1) := by decide +kernel
theorem dX11_meet_44 : decode cX11_meet 44 = .ok (.getfield 33, 3) := by decide +kernel
theorem dX11_meet_47 : decode cX11_meet 47 = .ok (.iload_n 2, 1) := by decide +kernel
theorem dX11_meet_48 : decode cX11_meet 48 = .ok (.baload, 1) := by decide +kernel
theorem dX11_meet_49 : decode cX11_meet 49 = .ok (.ifCond .ne 6, 3) := by decide +kernel
theorem dX11_meet_52 : decode cX11_meet 52 = .ok (.ldc 154, 2) := by decide +kernel
theorem dX11_meet_54 : decode cX11_meet 54 = .ok (.ireturn, 1) := by decide +kernel
theorem dX11_meet_55 : decode cX11_meet 55 = .ok (.iconst 0, 1) := by decide +kernel
theorem dX11_meet_56 : decode cX11_meet 56 = .ok (.istore 4, 2) := by decide +kernel
theorem dX11_meet_58 : decode cX11_meet 58 = .ok (.iconst 0, 1) := by decide +kernel
theorem dX11_meet_59 : decode cX11_meet 59 = .ok (.istore 5, 2) := by decide +kernel
theorem dX11_meet_61 : decode cX11_meet 61 = .ok (.iload 5, 2) := by decide +kernel
theorem dX11_meet_63 : decode cX11_meet 63 = .ok (.bipush 60, 2) := by decide +kernel
theorem dX11_meet_65 : decode cX11_meet 65 = .ok (.if_icmp .ge 141, 3) := by decide +kernel
theorem dX11_meet_68 : decode cX11_meet 68 = .ok (.aload_n 0, 1) := by decide +kernel
theorem dX11_meet_69 : decode cX11_meet 69 = .ok (.iload_n 1, 1) := by decide +kernel
theorem dX11_meet_70 : decode cX11_meet 70 = .ok (.iload 5, 2) := by decide +kernel
theorem dX11_meet_72 : decode cX11_meet 72 = .ok (.invokevirtual 220, 3) := by decide +kernel
theorem dX11_meet_75 : decode cX11_meet 75 = .ok (.istore 6, 2) := by decide +kernel
theorem dX11_meet_77 : decode cX11_meet 77 = .ok (.aload_n 0, 1) := by decide +kernel
theorem dX11_meet_78 : decode cX11_meet 78 = .ok (.iload_n 2, 1) := by decide +kernel
theorem dX11_meet_79 : decode cX11_meet 79 = .ok (.iload 5, 2) := by decide +kernel
theorem dX11_meet_81 : decode cX11_meet 81 = .ok (.invokevirtual 220, 3) := by decide +kernel
theorem dX11_meet_84 : decode cX11_meet 84 = .ok (.istore 7, 2) := by decide +kernel
theorem dX11_meet_86 : decode cX11_meet 86 = .ok (.iload 6, 2) := by decide +kernel
theorem dX11_meet_88 : decode cX11_meet 88 = .ok (.ldc 66, 2) := by decide +kernel
theorem dX11_meet_90 : decode cX11_meet 90 = .ok (.if_icmp .eq 14, 3) := by decide +kernel
theorem dX11_meet_93 : decode cX11_meet 93 = .ok (.iload 7, 2) := by decide +kernel
theorem dX11_meet_95 : decode cX11_meet 95 = .ok (.ldc 66, 2) := by decide +kernel
theorem dX11_meet_97 : decode cX11_meet 97 = .ok (.if_icmp .eq 7, 3) := by decide +kernel
theorem dX11_meet_100 : decode cX11_meet 100 = .ok (.iconst 1, 1) := by decide +kernel
theorem dX11_meet_101 : decode cX11_meet 101 = .ok (.goto 4, 3) := by decide +kernel
theorem dX11_meet_104 : decode cX11_meet 104 = .ok (.iconst 0, 1) := by decide +kernel
theorem dX11_meet_105 : decode cX11_meet 105 = .ok (.istore 8, 2) := by decide +kernel
theorem dX11_meet_107 : decode cX11_meet 107 = .ok (.iload 4, 2) := by decide +kernel
theorem dX11_meet_109 : decode cX11_meet 109 = .ok (.ifCond .ne 32, 3) := by decide +kernel
theorem dX11_meet_112 : decode cX11_meet 112 = .ok (.iload 8, 2) := by decide +kernel
theorem dX11_meet_114 : decode cX11_meet 114 = .ok (.ifCond .eq 31, 3) := by decide +kernel
theorem dX11_meet_117 : decode cX11_meet 117 = .ok (.aload_n 0, 1) := by decide +kernel
theorem dX11_meet_118 : decode cX11_meet 118 = .ok (.iload 6, 2) := by decide +kernel
theorem dX11_meet_120 : decode cX11_meet 120 = .ok (.iload 7, 2) := by decide +kernel
theorem dX11_meet_122 : decode cX11_meet 122 = .ok (.invokevirtual 130, 3) := by decide +kernel
theorem dX11_meet_125 : decode cX11_meet 125 = .ok (.iload_n 3, 1) := by decide +kernel
theorem dX11_meet_126 : decode cX11_meet 126 = .ok (.if_icmp .gt 19, 3) := by decide +kernel
theorem dX11_meet_129 : decode cX11_meet 129 = .ok (.aload_n 0, 1) := by decide +kernel
theorem dX11_meet_130 : decode cX11_meet 130 = .ok (.iload 6, 2) := by decide +kernel
theorem dX11_meet_132 : decode cX11_meet 132 = .ok (.iload 7, 2) := by decide +kernel
theorem dX11_meet_134 : decode cX11_meet 134 = .ok (.invokevirtual 134, 3) := by decide +kernel
theorem dX11_meet_137 : decode cX11_meet 137 = .ok (.iload_n 3, 1) := by decide +kernel
theorem dX11_meet_138 : decode cX11_meet 138 = .ok (.if_icmp .gt 7, 3) := by decide +kernel
theorem dX11_meet_141 : decode cX11_meet 141 = .ok (.iconst 1, 1) := by decide +kernel
theorem dX11_meet_142 : decode cX11_meet 142 = .ok (.goto 4, 3) := by decide +kernel
theorem dX11_meet_145 : decode cX11_meet 145 = .ok (.iconst 0, 1) := by decide +kernel
theorem dX11_meet_146 : decode cX11_meet 146 = .ok (.istore 4, 2) := by decide +kernel
theorem dX11_meet_148 : decode cX11_meet 148 = .ok (.iload 4, 2) := by decide +kernel
theorem dX11_meet_150 : decode cX11_meet 150 = .ok (.ifCond .ne 43, 3) := by decide +kernel
theorem dX11_meet_153 : decode cX11_meet 153 = .ok (.iload 8, 2) := by decide +kernel
theorem dX11_meet_155 : decode cX11_meet 155 = .ok (.ifCond .eq 42, 3) := by decide +kernel
theorem dX11_meet_158 : decode cX11_meet 158 = .ok (.iload 6, 2) := by decide +kernel
theorem dX11_meet_160 : decode cX11_meet 160 = .ok (.iload 7, 2) := by decide +kernel
theorem dX11_meet_162 : decode cX11_meet 162 = .ok (.if_icmp .eq 35, 3) := by decide +kernel
theorem dX11_meet_165 : decode cX11_meet 165 = .ok (.iload 6, 2) := by decide +kernel
theorem dX11_meet_167 : decode cX11_meet 167 = .ok (.aload_n 0, 1) := by decide +kernel
theorem dX11_meet_168 : decode cX11_meet 168 = .ok (.iload_n 2, 1) := by decide +kernel
theorem dX11_meet_169 : decode cX11_meet 169 = .ok (.iload 5, 2) := by decide +kernel
theorem dX11_meet_171 : decode cX11_meet 171 = .ok (.iconst 1, 1) := by decide +kernel
theorem dX11_meet_172 : decode cX11_meet 172 = .ok (.iadd, 1) := by decide +kernel
theorem dX11_meet_173 : decode cX11_meet 173 = .ok (.invokevirtual 220, 3) := by decide +kernel
theorem dX11_meet_176 : decode cX11_meet 176 = .ok (.if_icmp .ne 21, 3) := by decide +kernel
theorem dX11_meet_179 : decode cX11_meet 179 = .ok (.iload 7, 2) := by decide +kernel
theorem dX11_meet_181 : decode cX11_meet 181 = .ok (.aload_n 0, 1) := by decide +kernel
theorem dX11_meet_182 : decode cX11_meet 182 = .ok (.iload_n 1, 1) := by decide +kernel
theorem dX11_meet_183 : decode cX11_meet 183 = .ok (.iload 5, 2) := by decide +kernel
theorem dX11_meet_185 : decode cX11_meet 185 = .ok (.iconst 1, 1) := by decide +kernel
theorem dX11_meet_186 : decode cX11_meet 186 = .ok (.iadd, 1) := by decide +kernel
theorem dX11_meet_187 : decode cX11_meet 187 = .ok (.invokevirtual 220, 3) := by decide +kernel
theorem dX11_meet_190 : decode cX11_meet 190 = .ok (.if_icmp .ne 7, 3) := by decide +kernel
theorem dX11_meet_193 : decode cX11_meet 193 = .ok (.iconst 1, 1) := by decide +kernel
theorem dX11_meet_194 : decode cX11_meet 194 = .ok (.goto 4, 3) := by decide +kernel
theorem dX11_meet_197 : decode cX11_meet 197 = .ok (.iconst 0, 1) := by decide +kernel
theorem dX11_meet_198 : decode cX11_meet 198 = .ok (.istore 4, 2) := by decide +kernel
theorem dX11_meet_200 : decode cX11_meet 200 = .ok (.iinc 5 1, 3) := by decide +kernel
theorem dX11_meet_203 : decode cX11_meet 203 = .ok (.goto (-142), 3) := by decide +kernel
theorem dX11_meet_206 : decode cX11_meet 206 = .ok (.iload 4, 2) := by decide +kernel
theorem dX11_meet_208 : decode cX11_meet 208 = .ok (.ifCond .eq 7, 3) := by decide +kernel
theorem dX11_meet_211 : decode cX11_meet 211 = .ok (.iconst 1, 1) := by decide +kernel
theorem dX11_meet_212 : decode cX11_meet 212 = .ok (.goto 4, 3) := by decide +kernel
theorem dX11_meet_215 : decode cX11_meet 215 = .ok (.iconst 0, 1) := by decide +kernel
