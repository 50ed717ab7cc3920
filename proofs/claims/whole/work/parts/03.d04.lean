theorem dX10_isIn_3 : decode cX10_isIn 3 = .ok (.iconst 1, 1) := by decide +kernel
theorem dX10_isIn_4 : decode cX10_isIn 4 = .ok (.iand, 1) := by decide +kernel
theorem dX10_isIn_5 : decode cX10_isIn 5 = .ok (.ifCond .eq 7, 3) := by decide +kernel
theorem dX10_isIn_8 : decode cX10_isIn 8 = .ok (.iconst 1, 1) := by decide +kernel
theorem dX10_isIn_9 : decode cX10_isIn 9 = .ok (.goto 4, 3) := by decide +kernel
theorem dX10_isIn_12 : decode cX10_isIn 12 = .ok (.iconst 0, 1) := by decide +kernel
theorem dX10_isIn_13 : decode cX10_isIn 13 = .ok (.ireturn, 1) := by decide +kernel
theorem dX11_init_0 : decode cX11_init 0 = .ok (.aload_n 0, 1) := by decide +kernel
theorem dX11_init_1 : decode cX11_init 1 = .ok (.invokespecial 1, 3) := by decide +kernel
theorem dX11_init_4 : decode cX11_init 4 = .ok (.aload_n 0, 1) := by decide +kernel
theorem dX11_init_5 : decode cX11_init 5 = .ok (.iconst 1, 1) := by decide +kernel
theorem dX11_init_6 : decode cX11_init 6 = .ok (.putfield 7, 3) := by decide +kernel
theorem dX11_init_9 : decode cX11_init 9 = .ok (.aload_n 0, 1) := by decide +kernel
theorem dX11_init_10 : decode cX11_init 10 = .ok (.sipush 2160, 3) := by decide +kernel
theorem dX11_init_13 : decode cX11_init 13 = .ok (.newarray .boolean, 2) := by decide +kernel
theorem dX11_init_15 : decode cX11_init 15 = .ok (.putfield 13, 3) := by decide +kernel
theorem dX11_init_18 : decode cX11_init 18 = .ok (.aload_n 0, 1) := by decide +kernel
theorem dX11_init_19 : decode cX11_init 19 = .ok (.sipush 2340, 3) := by decide +kernel
theorem dX11_init_22 : decode cX11_init 22 = .ok (.newarray .boolean, 2) := by decide +kernel
theorem dX11_init_24 : decode cX11_init 24 = .ok (.putfield 17, 3) := by decide +kernel
theorem dX11_init_27 : decode cX11_init 27 = .ok (.aload_n 0, 1) := by decide +kernel
theorem dX11_init_28 : decode cX11_init 28 = .ok (.bipush 36, 2) := by decide +kernel
theorem dX11_init_30 : decode cX11_init 30 = .ok (.newarray .int, 2) := by decide +kernel
theorem dX11_init_32 : decode cX11_init 32 = .ok (.putfield 20, 3) := by decide +kernel
theorem dX11_init_35 : decode cX11_init 35 = .ok (.aload_n 0, 1) := by decide +kernel
theorem dX11_init_36 : decode cX11_init 36 = .ok (.bipush 80, 2) := by decide +kernel
theorem dX11_init_38 : decode cX11_init 38 = .ok (.newarray .int, 2) := by decide +kernel
theorem dX11_init_40 : decode cX11_init 40 = .ok (.putfield 24, 3) := by decide +kernel
theorem dX11_init_43 : decode cX11_init 43 = .ok (.aload_n 0, 1) := by decide +kernel
theorem dX11_init_44 : decode cX11_init 44 = .ok (.bipush 10, 2) := by decide +kernel
theorem dX11_init_46 : decode cX11_init 46 = .ok (.newarray .int, 2) := by decide +kernel
theorem dX11_init_48 : decode cX11_init 48 = .ok (.putfield 27, 3) := by decide +kernel
theorem dX11_init_51 : decode cX11_init 51 = .ok (.aload_n 0, 1) := by decide +kernel
theorem dX11_init_52 : decode cX11_init 52 = .ok (.bipush 10, 2) := by decide +kernel
theorem dX11_init_54 : decode cX11_init 54 = .ok (.newarray .int, 2) := by decide +kernel
theorem dX11_init_56 : decode cX11_init 56 = .ok (.putfield 30, 3) := by decide +kernel
theorem dX11_init_59 : decode cX11_init 59 = .ok (.aload_n 0, 1) := by decide +kernel
theorem dX11_init_60 : decode cX11_init 60 = .ok (.bipush 10, 2) := by decide +kernel
theorem dX11_init_62 : decode cX11_init 62 = .ok (.newarray .boolean, 2) := by decide +kernel
theorem dX11_init_64 : decode cX11_init 64 = .ok (.putfield 33, 3) := by decide +kernel
theorem dX11_init_67 : decode cX11_init 67 = .ok (.aload_n 0, 1) := by decide +kernel
theorem dX11_init_68 : decode cX11_init 68 = .ok (.sipush 600, 3) := by decide +kernel
theorem dX11_init_71 : decode cX11_init 71 = .ok (.newarray .int, 2) := by decide +kernel
theorem dX11_init_73 : decode cX11_init 73 = .ok (.putfield 36, 3) := by decide +kernel
theorem dX11_init_76 : decode cX11_init 76 = .ok (.aload_n 0, 1) := by decide +kernel
theorem dX11_init_77 : decode cX11_init 77 = .ok (.sipush 2160, 3) := by decide +kernel
theorem dX11_init_80 : decode cX11_init 80 = .ok (.newarray .int, 2) := by decide +kernel
theorem dX11_init_82 : decode cX11_init 82 = .ok (.putfield 39, 3) := by decide +kernel
theorem dX11_init_85 : decode cX11_init 85 = .ok (.aload_n 0, 1) := by decide +kernel
theorem dX11_init_86 : decode cX11_init 86 = .ok (.sipush 10800, 3) := by decide +kernel
theorem dX11_init_89 : decode cX11_init 89 = .ok (.newarray .int, 2) := by decide +kernel
theorem dX11_init_91 : decode cX11_init 91 = .ok (.putfield 42, 3) := by decide +kernel
theorem dX11_init_94 : decode cX11_init 94 = .ok (.aload_n 0, 1) := by decide +kernel
theorem dX11_init_95 : decode cX11_init 95 = .ok (.sipush 2160, 3) := by decide +kernel
theorem dX11_init_98 : decode cX11_init 98 = .ok (.newarray .boolean, 2) := by decide +kernel
theorem dX11_init_100 : decode cX11_init 100 = .ok (.putfield 45, 3) := by decide +kernel
theorem dX11_init_103 : decode cX11_init 103 = .ok (.aload_n 0, 1) := by decide +kernel
theorem dX11_init_104 : decode cX11_init 104 = .ok (.sipush 2160, 3) := by decide +kernel
theorem dX11_init_107 : decode cX11_init 107 = .ok (.newarray .int, 2) := by decide +kernel
theorem dX11_init_109 : decode cX11_init 109 = .ok (.putfield 48, 3) := by decide +kernel
theorem dX11_init_112 : decode cX11_init 112 = .ok (.aload_n 0, 1) := by decide +kernel
theorem dX11_init_113 : decode cX11_init 113 = .ok (.bipush 60, 2) := by decide +kernel
theorem dX11_init_115 : decode cX11_init 115 = .ok (.newarray .int, 2) := by decide +kernel
theorem dX11_init_117 : decode cX11_init 117 = .ok (.putfield 51, 3) := by decide +kernel
theorem dX11_init_120 : decode cX11_init 120 = .ok (.aload_n 0, 1) := by decide +kernel
theorem dX11_init_121 : decode cX11_init 121 = .ok (.sipush 2160, 3) := by decide +kernel
theorem dX11_init_124 : decode cX11_init 124 = .ok (.newarray .int, 2) := by decide +kernel
theorem dX11_init_126 : decode cX11_init 126 = .ok (.putfield 54, 3) := by decide +kernel
theorem dX11_init_129 : decode cX11_init 129 = .ok (.aload_n 0, 1) := by decide +kernel
theorem dX11_init_130 : decode cX11_init 130 = .ok (.bipush 36, 2) := by decide +kernel
theorem dX11_init_132 : decode cX11_init 132 = .ok (.newarray .int, 2) := by decide +kernel
theorem dX11_init_134 : decode cX11_init 134 = .ok (.putfield 57, 3) := by decide +kernel
theorem dX11_init_137 : decode cX11_init 137 = .ok (.aload_n 0, 1) := by decide +kernel
theorem dX11_init_138 : decode cX11_init 138 = .ok (.iconst 5, 1) := by decide +kernel
theorem dX11_init_139 : decode cX11_init 139 = .ok (.newarray .int, 2) := by decide +kernel
theorem dX11_init_141 : decode cX11_init 141 = .ok (.putfield 60, 3) := by decide +kernel
theorem dX11_init_144 : decode cX11_init 144 = .ok (.aload_n 0, 1) := by decide +kernel
theorem dX11_init_145 : decode cX11_init 145 = .ok (.iconst 5, 1) := by decide +kernel
theorem dX11_init_146 : decode cX11_init 146 = .ok (.newarray .int, 2) := by decide +kernel
theorem dX11_init_148 : decode cX11_init 148 = .ok (.putfield 63, 3) := by decide +kernel
theorem dX11_init_151 : decode cX11_init 151 = .ok (.aload_n 0, 1) := by decide +kernel
theorem dX11_init_152 : decode cX11_init 152 = .ok (.ldc 66, 2) := by decide +kernel
theorem dX11_init_154 : decode cX11_init 154 = .ok (.putfield 67, 3) := by decide +kernel
theorem dX11_init_157 : decode cX11_init 157 = .ok (.aload_n 0, 1) := by decide +kernel
theorem dX11_init_158 : decode cX11_init 158 = .ok (.bipush 36, 2) := by decide +kernel
theorem dX11_init_160 : decode cX11_init 160 = .ok (.newarray .boolean, 2) := by decide +kernel
theorem dX11_init_162 : decode cX11_init 162 = .ok (.putfield 70, 3) := by decide +kernel
theorem dX11_init_165 : decode cX11_init 165 = .ok (.aload_n 0, 1) := by decide +kernel
theorem dX11_init_166 : decode cX11_init 166 = .ok (.bipush 36, 2) := by decide +kernel
theorem dX11_init_168 : decode cX11_init 168 = .ok (.newarray .boolean, 2) := by decide +kernel
theorem dX11_init_170 : decode cX11_init 170 = .ok (.putfield 73, 3) := by decide +kernel
theorem dX11_init_173 : decode cX11_init 173 = .ok (.aload_n 0, 1) := by decide +kernel
theorem dX11_init_174 : decode cX11_init 174 = .ok (.iconst 4, 1) := by decide +kernel
theorem dX11_init_175 : decode cX11_init 175 = .ok (.iconst 4, 1) := by decide +kernel
theorem dX11_init_176 : decode cX11_init 176 = .ok (.invokevirtual 76, 3) := by decide +kernel
theorem dX11_init_179 : decode cX11_init 179 = .ok (.return_, 1) := by decide +kernel
theorem dX11_in_0 : decode cX11_in 0 = .ok (.lload_n 0, 1) := by decide +kernel
theorem dX11_in_1 : decode cX11_in 1 = .ok (.lload_n 2, 1) := by decide +kernel
theorem dX11_in_2 : decode cX11_in 2 = .ok (.lcmp, 1) := by decide +kernel
theorem dX11_in_3 : decode cX11_in 3 = .ok (.ifCond .lt 14, 3) := by decide +kernel
theorem dX11_in_6 : decode cX11_in 6 = .ok (.lload_n 0, 1) := by decide +kernel
theorem dX11_in_7 : decode cX11_in 7 = .ok (.lload 4, 2) := by decide +kernel
theorem dX11_in_9 : decode cX11_in 9 = .ok (.lcmp, 1) := by decide +kernel
theorem dX11_in_10 : decode cX11_in 10 = .ok (.ifCond .gt 7, 3) := by decide +kernel
theorem dX11_in_13 : decode cX11_in 13 = .ok (.iconst 1, 1) := by decide +kernel
theorem dX11_in_14 : decode cX11_in 14 = .ok (.goto 4, 3) := by decide +kernel
theorem dX11_in_17 : decode cX11_in 17 = .ok (.iconst 0, 1) := by decide +kernel
theorem dX11_in_18 : decode cX11_in 18 = .ok (.ireturn, 1) := by decide +kernel
theorem dX11_isMinute_0 : decode cX11_isMinute 0 = .ok (.iload_n 0, 1) := by decide +kernel
theorem dX11_isMinute_1 : decode cX11_isMinute 1 = .ok (.i2l, 1) := by decide +kernel
theorem dX11_isMinute_2 : decode cX11_isMinute 2 = .ok (.lconst 0, 1) := by decide +kernel
theorem dX11_isMinute_3 : decode cX11_isMinute 3 = .ok (.ldc2_w 80, 3) := by decide +kernel
theorem dX11_isMinute_6 : decode cX11_isMinute 6 = .ok (.invokestatic 82, 3) := by decide +kernel
theorem dX11_isMinute_9 : decode cX11_isMinute 9 = .ok (.ireturn, 1) := by decide +kernel
theorem dX11_layAir_0 : decode cX11_layAir 0 = .ok (.aload_n 0, 1) := by decide +kernel
theorem dX11_layAir_1 : decode cX11_layAir 1 = .ok (.iload_n 1, 1) := by decide +kernel
theorem dX11_layAir_2 : decode cX11_layAir 2 = .ok (.putfield 86, 3) := by decide +kernel
theorem dX11_layAir_5 : decode cX11_layAir 5 = .ok (.aload_n 0, 1) := by decide +kernel
theorem dX11_layAir_6 : decode cX11_layAir 6 = .ok (.iload_n 2, 1) := by decide +kernel
theorem dX11_layAir_7 : decode cX11_layAir 7 = .ok (.putfield 89, 3) := by decide +kernel
theorem dX11_layAir_10 : decode cX11_layAir 10 = .ok (.aload_n 0, 1) := by decide +kernel
theorem dX11_layAir_11 : decode cX11_layAir 11 = .ok (.iconst 0, 1) := by decide +kernel
theorem dX11_layAir_12 : decode cX11_layAir 12 = .ok (.putfield 92, 3) := by decide +kernel
theorem dX11_layAir_15 : decode cX11_layAir 15 = .ok (.aload_n 0, 1) := by decide +kernel
theorem dX11_layAir_16 : decode cX11_layAir 16 = .ok (.iconst 0, 1) := by decide +kernel
theorem dX11_layAir_17 : decode cX11_layAir 17 = .ok (.putfield 95, 3) := by decide +kernel
theorem dX11_layAir_20 : decode cX11_layAir 20 = .ok (.aload_n 0, 1) := by decide +kernel
theorem dX11_layAir_21 : decode cX11_layAir 21 = .ok (.iconst 0, 1) := by decide +kernel
theorem dX11_layAir_22 : decode cX11_layAir 22 = .ok (.putfield 98, 3) := by decide +kernel
theorem dX11_layAir_25 : decode cX11_layAir 25 = .ok (.aload_n 0, 1) := by decide +kernel
theorem dX11_layAir_26 : decode cX11_layAir 26 = .ok (.ldc 66, 2) := by decide +kernel
theorem dX11_layAir_28 : decode cX11_layAir 28 = .ok (.putfield 67, 3) := by decide +kernel
theorem dX11_layAir_31 : decode cX11_layAir 31 = .ok (.iconst 0, 1) := by decide +kernel
theorem dX11_layAir_32 : decode cX11_layAir 32 = .ok (.istore_n 3, 1) := by decide +kernel
theorem dX11_layAir_33 : decode cX11_layAir 33 = .ok (.iload_n 3, 1) := by decide +kernel
theorem dX11_layAir_34 : decode cX11_layAir 34 = .ok (.bipush 36, 2) := by decide +kernel
theorem dX11_layAir_36 : decode cX11_layAir 36 = .ok (.if_icmp .ge 16, 3) := by decide +kernel
theorem dX11_layAir_39 : decode cX11_layAir 39 = .ok (.aload_n 0, 1) := by decide +kernel
theorem dX11_layAir_40 : decode cX11_layAir 40 = .ok (.getfield 20, 3) := by decide +kernel
theorem dX11_layAir_43 : decode cX11_layAir 43 = .ok (.iload_n 3, 1) := by decide +kernel
theorem dX11_layAir_44 : decode cX11_layAir 44 = .ok (.iconst 0, 1) := by decide +kernel
theorem dX11_layAir_45 : decode cX11_layAir 45 = .ok (.iastore, 1) := by decide +kernel
theorem dX11_layAir_46 : decode cX11_layAir 46 = .ok (.iinc 3 1, 3) := by decide +kernel
theorem dX11_layAir_49 : decode cX11_layAir 49 = .ok (.goto (-16), 3) := by decide +kernel
theorem dX11_layAir_52 : decode cX11_layAir 52 = .ok (.iconst 0, 1) := by decide +kernel
theorem dX11_layAir_53 : decode cX11_layAir 53 = .ok (.istore_n 3, 1) := by decide +kernel
theorem dX11_layAir_54 : decode cX11_layAir 54 = .ok (.iload_n 3, 1) := by decide +kernel
theorem dX11_layAir_55 : decode cX11_layAir 55 = .ok (.sipush 2160, 3) := by decide +kernel
theorem dX11_layAir_58 : decode cX11_layAir 58 = .ok (.if_icmp .ge 23, 3) := by decide +kernel
theorem dX11_layAir_61 : decode cX11_layAir 61 = .ok (.aload_n 0, 1) := by decide +kernel
theorem dX11_layAir_62 : decode cX11_layAir 62 = .ok (.getfield 13, 3) := by decide +kernel
theorem dX11_layAir_65 : decode cX11_layAir 65 = .ok (.iload_n 3, 1) := by decide +kernel
theorem dX11_layAir_66 : decode cX11_layAir 66 = .ok (.iconst 0, 1) := by decide +kernel
theorem dX11_layAir_67 : decode cX11_layAir 67 = .ok (.bastore, 1) := by decide +kernel
theorem dX11_layAir_68 : decode cX11_layAir 68 = .ok (.aload_n 0, 1) := by decide +kernel
theorem dX11_layAir_69 : decode cX11_layAir 69 = .ok (.getfield 17, 3) := by decide +kernel
theorem dX11_layAir_72 : decode cX11_layAir 72 = .ok (.iload_n 3, 1) := by decide +kernel
theorem dX11_layAir_73 : decode cX11_layAir 73 = .ok (.iconst 0, 1) := by decide +kernel
theorem dX11_layAir_74 : decode cX11_layAir 74 = .ok (.bastore, 1) := by decide +kernel
theorem dX11_layAir_75 : decode cX11_layAir 75 = .ok (.iinc 3 1, 3) := by decide +kernel
theorem dX11_layAir_78 : decode cX11_layAir 78 = .ok (.goto (-24), 3) := by decide +kernel
theorem dX11_layAir_81 : decode cX11_layAir 81 = .ok (.return_, 1) := by decide +kernel
theorem dX11_cells_0 : decode cX11_cells 0 = .ok (.aload_n 0, 1) := by decide +kernel
theorem dX11_cells_1 : decode cX11_cells 1 = .ok (.getfield 86, 3) := by decide +kernel
theorem dX11_cells_4 : decode cX11_cells 4 = .ok (.aload_n 0, 1) := by decide +kernel
theorem dX11_cells_5 : decode cX11_cells 5 = .ok (.getfield 89, 3) := by decide +kernel
theorem dX11_cells_8 : decode cX11_cells 8 = .ok (.imul, 1) := by decide +kernel
theorem dX11_cells_9 : decode cX11_cells 9 = .ok (.ireturn, 1) := by decide +kernel
theorem dX11_isCell_0 : decode cX11_isCell 0 = .ok (.iload_n 1, 1) := by decide +kernel
theorem dX11_isCell_1 : decode cX11_isCell 1 = .ok (.i2l, 1) := by decide +kernel
theorem dX11_isCell_2 : decode cX11_isCell 2 = .ok (.lconst 0, 1) := by decide +kernel
theorem dX11_isCell_3 : decode cX11_isCell 3 = .ok (.aload_n 0, 1) := by decide +kernel
theorem dX11_isCell_4 : decode cX11_isCell 4 = .ok (.invokevirtual 101, 3) := by decide +kernel
theorem dX11_isCell_7 : decode cX11_isCell 7 = .ok (.iconst 1, 1) := by decide +kernel
theorem dX11_isCell_8 : decode cX11_isCell 8 = .ok (.isub, 1) := by decide +kernel
theorem dX11_isCell_9 : decode cX11_isCell 9 = .ok (.i2l, 1) := by decide +kernel
theorem dX11_isCell_10 : decode cX11_isCell 10 = .ok (.invokestatic 82, 3) := by decide +kernel
theorem dX11_isCell_13 : decode cX11_isCell 13 = .ok (.ireturn, 1) := by decide +kernel
theorem dX11_air_0 : decode cX11_air 0 = .ok (.iload_n 1, 1) := by decide +kernel
theorem dX11_air_1 : decode cX11_air 1 = .ok (.i2l, 1) := by decide +kernel
theorem dX11_air_2 : decode cX11_air 2 = .ok (.ldc2_w 105, 3) := by decide +kernel
theorem dX11_air_5 : decode cX11_air 5 = .ok (.ldc2_w 107, 3) := by decide +kernel
theorem dX11_air_8 : decode cX11_air 8 = .ok (.invokestatic 82, 3) := by decide +kernel
theorem dX11_air_11 : decode cX11_air 11 = .ok (.ifCond .eq 17, 3) := by decide +kernel
theorem dX11_air_14 : decode cX11_air 14 = .ok (.iload_n 2, 1) := by decide +kernel
theorem dX11_air_15 : decode cX11_air 15 = .ok (.i2l, 1) := by decide +kernel
theorem dX11_air_16 : decode cX11_air 16 = .ok (.ldc2_w 105, 3) := by decide +kernel
theorem dX11_air_19 : decode cX11_air 19 = .ok (.ldc2_w 107, 3) := by decide +kernel
theorem dX11_air_22 : decode cX11_air 22 = .ok (.invokestatic 82, 3) := by decide +kernel
theorem dX11_air_25 : decode cX11_air 25 = .ok (.ifCond .ne 6, 3) := by decide +kernel
theorem dX11_air_28 : decode cX11_air 28 = .ok (.ldc 109, 2) := by decide +kernel
theorem dX11_air_30 : decode cX11_air 30 = .ok (.ireturn, 1) := by decide +kernel
theorem dX11_air_31 : decode cX11_air 31 = .ok (.aload_n 0, 1) := by decide +kernel
theorem dX11_air_32 : decode cX11_air 32 = .ok (.iload_n 1, 1) := by decide +kernel
theorem dX11_air_33 : decode cX11_air 33 = .ok (.iload_n 2, 1) := by decide +kernel
theorem dX11_air_34 : decode cX11_air 34 = .ok (.invokevirtual 76, 3) := by decide +kernel
theorem dX11_air_37 : decode cX11_air 37 = .ok (.iload_n 1, 1) := by decide +kernel
theorem dX11_air_38 : decode cX11_air 38 = .ok (.iload_n 2, 1) := by decide +kernel
theorem dX11_air_39 : decode cX11_air 39 = .ok (.imul, 1) := by decide +kernel
theorem dX11_air_40 : decode cX11_air 40 = .ok (.ireturn, 1) := by decide +kernel
theorem dX11_shut_0 : decode cX11_shut 0 = .ok (.aload_n 0, 1) := by decide +kernel
theorem dX11_shut_1 : decode cX11_shut 1 = .ok (.iload_n 1, 1) := by decide +kernel
theorem dX11_shut_2 : decode cX11_shut 2 = .ok (.invokevirtual 110, 3) := by decide +kernel
theorem dX11_shut_5 : decode cX11_shut 5 = .ok (.ifCond .ne 6, 3) := by decide +kernel
theorem dX11_shut_8 : decode cX11_shut 8 = .ok (.ldc 114, 2) := by decide +kernel
theorem dX11_shut_10 : decode cX11_shut 10 = .ok (.ireturn, 1) := by decide +kernel
theorem dX11_shut_11 : decode cX11_shut 11 = .ok (.iload_n 2, 1) := by decide +kernel
theorem dX11_shut_12 : decode cX11_shut 12 = .ok (.invokestatic 115, 3) := by decide +kernel
theorem dX11_shut_15 : decode cX11_shut 15 = .ok (.ifCond .eq 16, 3) := by decide +kernel
theorem dX11_shut_18 : decode cX11_shut 18 = .ok (.iload_n 3, 1) := by decide +kernel
theorem dX11_shut_19 : decode cX11_shut 19 = .ok (.i2l, 1) := by decide +kernel
theorem dX11_shut_20 : decode cX11_shut 20 = .ok (.iload_n 2, 1) := by decide +kernel
theorem dX11_shut_21 : decode cX11_shut 21 = .ok (.i2l, 1) := by decide +kernel
theorem dX11_shut_22 : decode cX11_shut 22 = .ok (.ldc2_w 80, 3) := by decide +kernel
theorem dX11_shut_25 : decode cX11_shut 25 = .ok (.invokestatic 82, 3) := by decide +kernel
theorem dX11_shut_28 : decode cX11_shut 28 = .ok (.ifCond .ne 6, 3) := by decide +kernel
theorem dX11_shut_31 : decode cX11_shut 31 = .ok (.ldc 109, 2) := by decide +kernel
theorem dX11_shut_33 : decode cX11_shut 33 = .ok (.ireturn, 1) := by decide +kernel
theorem dX11_shut_34 : decode cX11_shut 34 = .ok (.aload_n 0, 1) := by decide +kernel
theorem dX11_shut_35 : decode cX11_shut 35 = .ok (.getfield 92, 3) := by decide +kernel
theorem dX11_shut_38 : decode cX11_shut 38 = .ok (.bipush 20, 2) := by decide +kernel
theorem dX11_shut_40 : decode cX11_shut 40 = .ok (.if_icmp .ne 6, 3) := by decide +kernel
theorem dX11_shut_43 : decode cX11_shut 43 = .ok (.ldc 118, 2) := by decide +kernel
theorem dX11_shut_45 : decode cX11_shut 45 = .ok (.ireturn, 1) := by decide +kernel
theorem dX11_shut_46 : decode cX11_shut 46 = .ok (.iload_n 2, 1) := by decide +kernel
theorem dX11_shut_47 : decode cX11_shut 47 = .ok (.istore 4, 2) := by decide +kernel
theorem dX11_shut_49 : decode cX11_shut 49 = .ok (.iload 4, 2) := by decide +kernel
theorem dX11_shut_51 : decode cX11_shut 51 = .ok (.iload_n 3, 1) := by decide +kernel
theorem dX11_shut_52 : decode cX11_shut 52 = .ok (.if_icmp .gt 22, 3) := by decide +kernel
theorem dX11_shut_55 : decode cX11_shut 55 = .ok (.aload_n 0, 1) := by decide +kernel
theorem dX11_shut_56 : decode cX11_shut 56 = .ok (.getfield 13, 3) := by decide +kernel
theorem dX11_shut_59 : decode cX11_shut 59 = .ok (.bipush 36, 2) := by decide +kernel
theorem dX11_shut_61 : decode cX11_shut 61 = .ok (.iload 4, 2) := by decide +kernel
theorem dX11_shut_63 : decode cX11_shut 63 = .ok (.imul, 1) := by decide +kernel
theorem dX11_shut_64 : decode cX11_shut 64 = .ok (.iload_n 1, 1) := by decide +kernel
theorem dX11_shut_65 : decode cX11_shut 65 = .ok (.iadd, 1) := by decide +kernel
theorem dX11_shut_66 : decode cX11_shut 66 = .ok (.iconst 1, 1) := by decide +kernel
theorem dX11_shut_67 : decode cX11_shut 67 = .ok (.bastore, 1) := by decide +kernel
theorem dX11_shut_68 : decode cX11_shut 68 = .ok (.iinc 4 1, 3) := by decide +kernel
theorem dX11_shut_71 : decode cX11_shut 71 = .ok (.goto (-22), 3) := by decide +kernel
theorem dX11_shut_74 : decode cX11_shut 74 = .ok (.aload_n 0, 1) := by decide +kernel
theorem dX11_shut_75 : decode cX11_shut 75 = .ok (.dup, 1) := by decide +kernel
theorem dX11_shut_76 : decode cX11_shut 76 = .ok (.getfield 92, 3) := by decide +kernel
theorem dX11_shut_79 : decode cX11_shut 79 = .ok (.iconst 1, 1) := by decide +kernel
theorem dX11_shut_80 : decode cX11_shut 80 = .ok (.iadd, 1) := by decide +kernel
theorem dX11_shut_81 : decode cX11_shut 81 = .ok (.putfield 92, 3) := by decide +kernel
theorem dX11_shut_84 : decode cX11_shut 84 = .ok (.aload_n 0, 1) := by decide +kernel
theorem dX11_shut_85 : decode cX11_shut 85 = .ok (.getfield 92, 3) := by decide +kernel
theorem dX11_shut_88 : decode cX11_shut 88 = .ok (.ireturn, 1) := by decide +kernel
theorem dX11_folk_0 : decode cX11_folk 0 = .ok (.aload_n 0, 1) := by decide +kernel
theorem dX11_folk_1 : decode cX11_folk 1 = .ok (.iload_n 1, 1) := by decide +kernel
theorem dX11_folk_2 : decode cX11_folk 2 = .ok (.invokevirtual 110, 3) := by decide +kernel
theorem dX11_folk_5 : decode cX11_folk 5 = .ok (.ifCond .ne 6, 3) := by decide +kernel
theorem dX11_folk_8 : decode cX11_folk 8 = .ok (.ldc 114, 2) := by decide +kernel
theorem dX11_folk_10 : decode cX11_folk 10 = .ok (.ireturn, 1) := by decide +kernel
theorem dX11_folk_11 : decode cX11_folk 11 = .ok (.iload_n 2, 1) := by decide +kernel
theorem dX11_folk_12 : decode cX11_folk 12 = .ok (.invokestatic 115, 3) := by decide +kernel
theorem dX11_folk_15 : decode cX11_folk 15 = .ok (.ifCond .eq 16, 3) := by decide +kernel
theorem dX11_folk_18 : decode cX11_folk 18 = .ok (.iload_n 3, 1) := by decide +kernel
theorem dX11_folk_19 : decode cX11_folk 19 = .ok (.i2l, 1) := by decide +kernel
theorem dX11_folk_20 : decode cX11_folk 20 = .ok (.iload_n 2, 1) := by decide +kernel
theorem dX11_folk_21 : decode cX11_folk 21 = .ok (.i2l, 1) := by decide +kernel
theorem dX11_folk_22 : decode cX11_folk 22 = .ok (.ldc2_w 80, 3) := by decide +kernel
theorem dX11_folk_25 : decode cX11_folk 25 = .ok (.invokestatic 82, 3) := by decide +kernel
theorem dX11_folk_28 : decode cX11_folk 28 = .ok (.ifCond .ne 6, 3) := by decide +kernel
theorem dX11_folk_31 : decode cX11_folk 31 = .ok (.ldc 109, 2) := by decide +kernel
theorem dX11_folk_33 : decode cX11_folk 33 = .ok (.ireturn, 1) := by decide +kernel
theorem dX11_folk_34 : decode cX11_folk 34 = .ok (.aload_n 0, 1) := by decide +kernel
theorem dX11_folk_35 : decode cX11_folk 35 = .ok (.getfield 95, 3) := by decide +kernel
theorem dX11_folk_38 : decode cX11_folk 38 = .ok (.bipush 20, 2) := by decide +kernel
theorem dX11_folk_40 : decode cX11_folk 40 = .ok (.if_icmp .ne 6, 3) := by decide +kernel
theorem dX11_folk_43 : decode cX11_folk 43 = .ok (.ldc 118, 2) := by decide +kernel
theorem dX11_folk_45 : decode cX11_folk 45 = .ok (.ireturn, 1) := by decide +kernel
theorem dX11_folk_46 : decode cX11_folk 46 = .ok (.iload_n 2, 1) := by decide +kernel
theorem dX11_folk_47 : decode cX11_folk 47 = .ok (.istore 4, 2) := by decide +kernel
theorem dX11_folk_49 : decode cX11_folk 49 = .ok (.iload 4, 2) := by decide +kernel
theorem dX11_folk_51 : decode cX11_folk 51 = .ok (.iload_n 3, 1) := by decide +kernel
theorem dX11_folk_52 : decode cX11_folk 52 = .ok (.if_icmp .gt 22, 3) := by decide +kernel
theorem dX11_folk_55 : decode cX11_folk 55 = .ok (.aload_n 0, 1) := by decide +kernel
theorem dX11_folk_56 : decode cX11_folk 56 = .ok (.getfield 17, 3) := by decide +kernel
theorem dX11_folk_59 : decode cX11_folk 59 = .ok (.bipush 36, 2) := by decide +kernel
theorem dX11_folk_61 : decode cX11_folk 61 = .ok (.iload 4, 2) := by decide +kernel
theorem dX11_folk_63 : decode cX11_folk 63 = .ok (.imul, 1) := by decide +kernel
theorem dX11_folk_64 : decode cX11_folk 64 = .ok (.iload_n 1, 1) := by decide +kernel
theorem dX11_folk_65 : decode cX11_folk 65 = .ok (.iadd, 1) := by decide +kernel
theorem dX11_folk_66 : decode cX11_folk 66 = .ok (.iconst 1, 1) := by decide +kernel
theorem dX11_folk_67 : decode cX11_folk 67 = .ok (.bastore, 1) := by decide +kernel
theorem dX11_folk_68 : decode cX11_folk 68 = .ok (.iinc 4 1, 3) := by decide +kernel
theorem dX11_folk_71 : decode cX11_folk 71 = .ok (.goto (-22), 3) := by decide +kernel
theorem dX11_folk_74 : decode cX11_folk 74 = .ok (.aload_n 0, 1) := by decide +kernel
theorem dX11_folk_75 : decode cX11_folk 75 = .ok (.dup, 1) := by decide +kernel
theorem dX11_folk_76 : decode cX11_folk 76 = .ok (.getfield 95, 3) := by decide +kernel
theorem dX11_folk_79 : decode cX11_folk 79 = .ok (.iconst 1, 1) := by decide +kernel
theorem dX11_folk_80 : decode cX11_folk 80 = .ok (.iadd, 1) := by decide +kernel
theorem dX11_folk_81 : decode cX11_folk 81 = .ok (.putfield 95, 3) := by decide +kernel
theorem dX11_folk_84 : decode cX11_folk 84 = .ok (.aload_n 0, 1) := by decide +kernel
theorem dX11_folk_85 : decode cX11_folk 85 = .ok (.getfield 95, 3) := by decide +kernel
theorem dX11_folk_88 : decode cX11_folk 88 = .ok (.ireturn, 1) := by decide +kernel
theorem dX11_rule_0 : decode cX11_rule 0 = .ok (.iload_n 1, 1) := by decide +kernel
theorem dX11_rule_1 : decode cX11_rule 1 = .ok (.ifCond .ne 15, 3) := by decide +kernel
theorem dX11_rule_4 : decode cX11_rule 4 = .ok (.iload_n 2, 1) := by decide +kernel
theorem dX11_rule_5 : decode cX11_rule 5 = .ok (.i2l, 1) := by decide +kernel
theorem dX11_rule_6 : decode cX11_rule 6 = .ok (.lconst 0, 1) := by decide +kernel
theorem dX11_rule_7 : decode cX11_rule 7 = .ok (.ldc2_w 119, 3) := by decide +kernel
theorem dX11_rule_10 : decode cX11_rule 10 = .ok (.invokestatic 82, 3) := by decide +kernel
theorem dX11_rule_13 : decode cX11_rule 13 = .ok (.ifCond .ne 23, 3) := by decide +kernel
theorem dX11_rule_16 : decode cX11_rule 16 = .ok (.iload_n 1, 1) := by decide +kernel
theorem dX11_rule_17 : decode cX11_rule 17 = .ok (.iconst 1, 1) := by decide +kernel
theorem dX11_rule_18 : decode cX11_rule 18 = .ok (.if_icmp .ne 15, 3) := by decide +kernel
theorem dX11_rule_21 : decode cX11_rule 21 = .ok (.iload_n 2, 1) := by decide +kernel
theorem dX11_rule_22 : decode cX11_rule 22 = .ok (.i2l, 1) := by decide +kernel
theorem dX11_rule_23 : decode cX11_rule 23 = .ok (.lconst 0, 1) := by decide +kernel
theorem dX11_rule_24 : decode cX11_rule 24 = .ok (.ldc2_w 121, 3) := by decide +kernel
theorem dX11_rule_27 : decode cX11_rule 27 = .ok (.invokestatic 82, 3) := by decide +kernel
theorem dX11_rule_30 : decode cX11_rule 30 = .ok (.ifCond .ne 6, 3) := by decide +kernel
theorem dX11_rule_33 : decode cX11_rule 33 = .ok (.ldc 109, 2) := by decide +kernel
theorem dX11_rule_35 : decode cX11_rule 35 = .ok (.ireturn, 1) := by decide +kernel
theorem dX11_rule_36 : decode cX11_rule 36 = .ok (.iload_n 1, 1) := by decide +kernel
theorem dX11_rule_37 : decode cX11_rule 37 = .ok (.ifCond .ne 10, 3) := by decide +kernel
theorem dX11_rule_40 : decode cX11_rule 40 = .ok (.aload_n 0, 1) := by decide +kernel
theorem dX11_rule_41 : decode cX11_rule 41 = .ok (.getfield 7, 3) := by decide +kernel
theorem dX11_rule_44 : decode cX11_rule 44 = .ok (.goto 7, 3) := by decide +kernel
theorem dX11_rule_47 : decode cX11_rule 47 = .ok (.aload_n 0, 1) := by decide +kernel
theorem dX11_rule_48 : decode cX11_rule 48 = .ok (.getfield 123, 3) := by decide +kernel
theorem dX11_rule_51 : decode cX11_rule 51 = .ok (.istore_n 3, 1) := by decide +kernel
theorem dX11_rule_52 : decode cX11_rule 52 = .ok (.aload_n 0, 1) := by decide +kernel
theorem dX11_rule_53 : decode cX11_rule 53 = .ok (.iload_n 1, 1) := by decide +kernel
theorem dX11_rule_54 : decode cX11_rule 54 = .ok (.ifCond .ne 7, 3) := by decide +kernel
theorem dX11_rule_57 : decode cX11_rule 57 = .ok (.iload_n 2, 1) := by decide +kernel
theorem dX11_rule_58 : decode cX11_rule 58 = .ok (.goto 7, 3) := by decide +kernel
theorem dX11_rule_61 : decode cX11_rule 61 = .ok (.aload_n 0, 1) := by decide +kernel
theorem dX11_rule_62 : decode cX11_rule 62 = .ok (.getfield 7, 3) := by decide +kernel
theorem dX11_rule_65 : decode cX11_rule 65 = .ok (.putfield 7, 3) := by decide +kernel
theorem dX11_rule_68 : decode cX11_rule 68 = .ok (.aload_n 0, 1) := by decide +kernel
theorem dX11_rule_69 : decode cX11_rule 69 = .ok (.iload_n 1, 1) := by decide +kernel
theorem dX11_rule_70 : decode cX11_rule 70 = .ok (.iconst 1, 1) := by decide +kernel
theorem dX11_rule_71 : decode cX11_rule 71 = .ok (.if_icmp .ne 7, 3) := by decide +kernel
theorem dX11_rule_74 : decode cX11_rule 74 = .ok (.iload_n 2, 1) := by decide +kernel
theorem dX11_rule_75 : decode cX11_rule 75 = .ok (.goto 7, 3) := by decide +kernel
theorem dX11_rule_78 : decode cX11_rule 78 = .ok (.aload_n 0, 1) := by decide +kernel
theorem dX11_rule_79 : decode cX11_rule 79 = .ok (.getfield 123, 3) := by decide +kernel
theorem dX11_rule_82 : decode cX11_rule 82 = .ok (.putfield 123, 3) := by decide +kernel
theorem dX11_rule_85 : decode cX11_rule 85 = .ok (.iload_n 3, 1) := by decide +kernel
theorem dX11_rule_86 : decode cX11_rule 86 = .ok (.ireturn, 1) := by decide +kernel
theorem dX11_isShut_0 : decode cX11_isShut 0 = .ok (.aload_n 0, 1) := by decide +kernel
theorem dX11_isShut_1 : decode cX11_isShut 1 = .ok (.getfield 13, 3) := by decide +kernel
theorem dX11_isShut_4 : decode cX11_isShut 4 = .ok (.bipush 36, 2) := by decide +kernel
theorem dX11_isShut_6 : decode cX11_isShut 6 = .ok (.iload_n 2, 1) := by decide +kernel
theorem dX11_isShut_7 : decode cX11_isShut 7 = .ok (.imul, 1) := by decide +kernel
theorem dX11_isShut_8 : decode cX11_isShut 8 = .ok (.iload_n 1, 1) := by decide +kernel
theorem dX11_isShut_9 : decode cX11_isShut 9 = .ok (.iadd, 1) := by decide +kernel
theorem dX11_isShut_10 : decode cX11_isShut 10 = .ok (.baload, 1) := by decide +kernel
theorem dX11_isShut_11 : decode cX11_isShut 11 = .ok (.ireturn, 1) := by decide +kernel
theorem dX11_hasFolk_0 : decode cX11_hasFolk 0 = .ok (.aload_n 0, 1) := by decide +kernel
theorem dX11_hasFolk_1 : decode cX11_hasFolk 1 = .ok (.getfield 17, 3) := by decide +kernel
theorem dX11_hasFolk_4 : decode cX11_hasFolk 4 = .ok (.bipush 36, 2) := by decide +kernel
theorem dX11_hasFolk_6 : decode cX11_hasFolk 6 = .ok (.iload_n 2, 1) := by decide +kernel
theorem dX11_hasFolk_7 : decode cX11_hasFolk 7 = .ok (.imul, 1) := by decide +kernel
theorem dX11_hasFolk_8 : decode cX11_hasFolk 8 = .ok (.iload_n 1, 1) := by decide +kernel
theorem dX11_hasFolk_9 : decode cX11_hasFolk 9 = .ok (.iadd, 1) := by decide +kernel
theorem dX11_hasFolk_10 : decode cX11_hasFolk 10 = .ok (.baload, 1) := by decide +kernel
theorem dX11_hasFolk_11 : decode cX11_hasFolk 11 = .ok (.ireturn, 1) := by decide +kernel
theorem dX11_size_0 : decode cX11_size 0 = .ok (.iload_n 0, 1) := by decide +kernel
theorem dX11_size_1 : decode cX11_size 1 = .ok (.ifCond .ge 8, 3) := by decide +kernel
theorem dX11_size_4 : decode cX11_size 4 = .ok (.iload_n 0, 1) := by decide +kernel
theorem dX11_size_5 : decode cX11_size 5 = .ok (.ineg, 1) := by decide +kernel
theorem dX11_size_6 : decode cX11_size 6 = .ok (.goto 4, 3) := by decide +kernel
theorem dX11_size_9 : decode cX11_size 9 = .ok (.iload_n 0, 1) := by decide +kernel
theorem dX11_size_10 : decode cX11_size 10 = .ok (.ireturn, 1) := by decide +kernel
theorem dX11_along_0 : decode cX11_along 0 = .ok (.iload_n 1, 1) := by decide +kernel
theorem dX11_along_1 : decode cX11_along 1 = .ok (.aload_n 0, 1) := by decide +kernel
theorem dX11_along_2 : decode cX11_along 2 = .ok (.getfield 86, 3) := by decide +kernel
theorem dX11_along_5 : decode cX11_along 5 = .ok (.irem, 1) := by decide +kernel
theorem dX11_along_6 : decode cX11_along 6 = .ok (.iload_n 2, 1) := by decide +kernel
theorem dX11_along_7 : decode cX11_along 7 = .ok (.aload_n 0, 1) := by decide +kernel
theorem dX11_along_8 : decode cX11_along 8 = .ok (.getfield 86, 3) := by decide +kernel
theorem dX11_along_11 : decode cX11_along 11 = .ok (.irem, 1) := by decide +kernel
theorem dX11_along_12 : decode cX11_along 12 = .ok (.isub, 1) := by decide +kernel
theorem dX11_along_13 : decode cX11_along 13 = .ok (.invokestatic 126, 3) := by decide +kernel
theorem dX11_along_16 : decode cX11_along 16 = .ok (.ireturn, 1) := by decide +kernel
theorem dX11_aside_0 : decode cX11_aside 0 = .ok (.iload_n 1, 1) := by decide +kernel
theorem dX11_aside_1 : decode cX11_aside 1 = .ok (.aload_n 0, 1) := by decide +kernel
theorem dX11_aside_2 : decode cX11_aside 2 = .ok (.getfield 86, 3) := by decide +kernel
theorem dX11_aside_5 : decode cX11_aside 5 = .ok (.idiv, 1) := by decide +kernel
theorem dX11_aside_6 : decode cX11_aside 6 = .ok (.iload_n 2, 1) := by decide +kernel
theorem dX11_aside_7 : decode cX11_aside 7 = .ok (.aload_n 0, 1) := by decide +kernel
theorem dX11_aside_8 : decode cX11_aside 8 = .ok (.getfield 86, 3) := by decide +kernel
theorem dX11_aside_11 : decode cX11_aside 11 = .ok (.idiv, 1) := by decide +kernel
theorem dX11_aside_12 : decode cX11_aside 12 = .ok (.isub, 1) := by decide +kernel
theorem dX11_aside_13 : decode cX11_aside 13 = .ok (.invokestatic 126, 3) := by decide +kernel
theorem dX11_aside_16 : decode cX11_aside 16 = .ok (.ireturn, 1) := by decide +kernel
theorem dX11_downOf_0 : decode cX11_downOf 0 = .ok (.iconst 0, 1) := by decide +kernel
theorem dX11_downOf_1 : decode cX11_downOf 1 = .ok (.istore_n 3, 1) := by decide +kernel
theorem dX11_downOf_2 : decode cX11_downOf 2 = .ok (.iload_n 3, 1) := by decide +kernel
theorem dX11_downOf_3 : decode cX11_downOf 3 = .ok (.aload_n 0, 1) := by decide +kernel
theorem dX11_downOf_4 : decode cX11_downOf 4 = .ok (.getfield 7, 3) := by decide +kernel
theorem dX11_downOf_7 : decode cX11_downOf 7 = .ok (.if_icmp .gt 73, 3) := by decide +kernel
theorem dX11_downOf_10 : decode cX11_downOf 10 = .ok (.iconst 0, 1) := by decide +kernel
theorem dX11_downOf_11 : decode cX11_downOf 11 = .ok (.istore 4, 2) := by decide +kernel
theorem dX11_downOf_13 : decode cX11_downOf 13 = .ok (.iload 4, 2) := by decide +kernel
theorem dX11_downOf_15 : decode cX11_downOf 15 = .ok (.aload_n 0, 1) := by decide +kernel
theorem dX11_downOf_16 : decode cX11_downOf 16 = .ok (.invokevirtual 101, 3) := by decide +kernel
theorem dX11_downOf_19 : decode cX11_downOf 19 = .ok (.if_icmp .ge 55, 3) := by decide +kernel
theorem dX11_downOf_22 : decode cX11_downOf 22 = .ok (.aload_n 0, 1) := by decide +kernel
theorem dX11_downOf_23 : decode cX11_downOf 23 = .ok (.iload_n 1, 1) := by decide +kernel
theorem dX11_downOf_24 : decode cX11_downOf 24 = .ok (.iload 4, 2) := by decide +kernel
theorem dX11_downOf_26 : decode cX11_downOf 26 = .ok (.invokevirtual 130, 3) := by decide +kernel
theorem dX11_downOf_29 : decode cX11_downOf 29 = .ok (.aload_n 0, 1) := by decide +kernel
theorem dX11_downOf_30 : decode cX11_downOf 30 = .ok (.iload_n 1, 1) := by decide +kernel
theorem dX11_downOf_31 : decode cX11_downOf 31 = .ok (.iload 4, 2) := by decide +kernel
theorem dX11_downOf_33 : decode cX11_downOf 33 = .ok (.invokevirtual 134, 3) := by decide +kernel
theorem dX11_downOf_36 : decode cX11_downOf 36 = .ok (.iadd, 1) := by decide +kernel
theorem dX11_downOf_37 : decode cX11_downOf 37 = .ok (.istore 5, 2) := by decide +kernel
theorem dX11_downOf_39 : decode cX11_downOf 39 = .ok (.iload 5, 2) := by decide +kernel
theorem dX11_downOf_41 : decode cX11_downOf 41 = .ok (.iload_n 3, 1) := by decide +kernel
theorem dX11_downOf_42 : decode cX11_downOf 42 = .ok (.if_icmp .gt 26, 3) := by decide +kernel
theorem dX11_downOf_45 : decode cX11_downOf 45 = .ok (.iload_n 3, 1) := by decide +kernel
theorem dX11_downOf_46 : decode cX11_downOf 46 = .ok (.iload 5, 2) := by decide +kernel
theorem dX11_downOf_48 : decode cX11_downOf 48 = .ok (.isub, 1) := by decide +kernel
theorem dX11_downOf_49 : decode cX11_downOf 49 = .ok (.iconst 2, 1) := by decide +kernel
theorem dX11_downOf_50 : decode cX11_downOf 50 = .ok (.irem, 1) := by decide +kernel
theorem dX11_downOf_51 : decode cX11_downOf 51 = .ok (.ifCond .ne 17, 3) := by decide +kernel
theorem dX11_downOf_54 : decode cX11_downOf 54 = .ok (.aload_n 0, 1) := by decide +kernel
theorem dX11_downOf_55 : decode cX11_downOf 55 = .ok (.iload 4, 2) := by decide +kernel
theorem dX11_downOf_57 : decode cX11_downOf 57 = .ok (.iload_n 2, 1) := by decide +kernel
theorem dX11_downOf_58 : decode cX11_downOf 58 = .ok (.iload_n 3, 1) := by decide +kernel
theorem dX11_downOf_59 : decode cX11_downOf 59 = .ok (.iadd, 1) := by decide +kernel
theorem dX11_downOf_60 : decode cX11_downOf 60 = .ok (.invokevirtual 137, 3) := by decide +kernel
theorem dX11_downOf_63 : decode cX11_downOf 63 = .ok (.ifCond .ne 5, 3) := by decide +kernel
theorem dX11_downOf_66 : decode cX11_downOf 66 = .ok (.iload_n 3, 1) := by decide +kernel
theorem dX11_downOf_67 : decode cX11_downOf 67 = .ok (.ireturn, 1) := by decide +kernel
theorem dX11_downOf_68 : decode cX11_downOf 68 = .ok (.iinc 4 1, 3) := by decide +kernel
theorem dX11_downOf_71 : decode cX11_downOf 71 = .ok (.goto (-58), 3) := by decide +kernel
theorem dX11_downOf_74 : decode cX11_downOf 74 = .ok (.iinc 3 1, 3) := by decide +kernel
theorem dX11_downOf_77 : decode cX11_downOf 77 = .ok (.goto (-75), 3) := by decide +kernel
theorem dX11_downOf_80 : decode cX11_downOf 80 = .ok (.ldc 66, 2) := by decide +kernel
theorem dX11_downOf_82 : decode cX11_downOf 82 = .ok (.ireturn, 1) := by decide +kernel
theorem dX11_down_0 : decode cX11_down 0 = .ok (.aload_n 0, 1) := by decide +kernel
theorem dX11_down_1 : decode cX11_down 1 = .ok (.iload_n 1, 1) := by decide +kernel
theorem dX11_down_2 : decode cX11_down 2 = .ok (.invokevirtual 110, 3) := by decide +kernel
theorem dX11_down_5 : decode cX11_down 5 = .ok (.ifCond .ne 6, 3) := by decide +kernel
theorem dX11_down_8 : decode cX11_down 8 = .ok (.ldc 114, 2) := by decide +kernel
theorem dX11_down_10 : decode cX11_down 10 = .ok (.ireturn, 1) := by decide +kernel
theorem dX11_down_11 : decode cX11_down 11 = .ok (.iload_n 2, 1) := by decide +kernel
theorem dX11_down_12 : decode cX11_down 12 = .ok (.invokestatic 115, 3) := by decide +kernel
theorem dX11_down_15 : decode cX11_down 15 = .ok (.ifCond .eq 12, 3) := by decide +kernel
theorem dX11_down_18 : decode cX11_down 18 = .ok (.aload_n 0, 1) := by decide +kernel
theorem dX11_down_19 : decode cX11_down 19 = .ok (.iload_n 1, 1) := by decide +kernel
theorem dX11_down_20 : decode cX11_down 20 = .ok (.iload_n 2, 1) := by decide +kernel
theorem dX11_down_21 : decode cX11_down 21 = .ok (.invokevirtual 141, 3) := by decide +kernel
theorem dX11_down_24 : decode cX11_down 24 = .ok (.goto 5, 3) := by decide +kernel
theorem dX11_down_27 : decode cX11_down 27 = .ok (.ldc 109, 2) := by decide +kernel
theorem dX11_down_29 : decode cX11_down 29 = .ok (.ireturn, 1) := by decide +kernel
theorem dX11_isOpen_0 : decode cX11_isOpen 0 = .ok (.aload_n 0, 1) := by decide +kernel
theorem dX11_isOpen_1 : decode cX11_isOpen 1 = .ok (.iload_n 1, 1) := by decide +kernel
theorem dX11_isOpen_2 : decode cX11_isOpen 2 = .ok (.iload_n 2, 1) := by decide +kernel
theorem dX11_isOpen_3 : decode cX11_isOpen 3 = .ok (.invokevirtual 144, 3) := by decide +kernel
theorem dX11_isOpen_6 : decode cX11_isOpen 6 = .ok (.ifCond .ne 18, 3) := by decide +kernel
theorem dX11_isOpen_9 : decode cX11_isOpen 9 = .ok (.aload_n 0, 1) := by decide +kernel
theorem dX11_isOpen_10 : decode cX11_isOpen 10 = .ok (.iload_n 1, 1) := by decide +kernel
theorem dX11_isOpen_11 : decode cX11_isOpen 11 = .ok (.iload_n 2, 1) := by decide +kernel
theorem dX11_isOpen_12 : decode cX11_isOpen 12 = .ok (.invokevirtual 141, 3) := by decide +kernel
theorem dX11_isOpen_15 : decode cX11_isOpen 15 = .ok (.ldc 66, 2) := by decide +kernel
theorem dX11_isOpen_17 : decode cX11_isOpen 17 = .ok (.if_icmp .eq 7, 3) := by decide +kernel
theorem dX11_isOpen_20 : decode cX11_isOpen 20 = .ok (.iconst 1, 1) := by decide +kernel
theorem dX11_isOpen_21 : decode cX11_isOpen 21 = .ok (.goto 4, 3) := by decide +kernel
theorem dX11_isOpen_24 : decode cX11_isOpen 24 = .ok (.iconst 0, 1) := by decide +kernel
theorem dX11_isOpen_25 : decode cX11_isOpen 25 = .ok (.ireturn, 1) := by decide +kernel
theorem dX11_open_0 : decode cX11_open 0 = .ok (.aload_n 0, 1) := by decide +kernel
theorem dX11_open_1 : decode cX11_open 1 = .ok (.iload_n 1, 1) := by decide +kernel
theorem dX11_open_2 : decode cX11_open 2 = .ok (.invokevirtual 110, 3) := by decide +kernel
theorem dX11_open_5 : decode cX11_open 5 = .ok (.ifCond .ne 6, 3) := by decide +kernel
theorem dX11_open_8 : decode cX11_open 8 = .ok (.ldc 114, 2) := by decide +kernel
theorem dX11_open_10 : decode cX11_open 10 = .ok (.ireturn, 1) := by decide +kernel
theorem dX11_open_11 : decode cX11_open 11 = .ok (.iload_n 2, 1) := by decide +kernel
theorem dX11_open_12 : decode cX11_open 12 = .ok (.invokestatic 115, 3) := by decide +kernel
theorem dX11_open_15 : decode cX11_open 15 = .ok (.ifCond .ne 8, 3) := by decide +kernel
theorem dX11_open_18 : decode cX11_open 18 = .ok (.ldc 109, 2) := by decide +kernel
theorem dX11_open_20 : decode cX11_open 20 = .ok (.goto 17, 3) := by decide +kernel
theorem dX11_open_23 : decode cX11_open 23 = .ok (.aload_n 0, 1) := by decide +kernel
theorem dX11_open_24 : decode cX11_open 24 = .ok (.iload_n 1, 1) := by decide +kernel
theorem dX11_open_25 : decode cX11_open 25 = .ok (.iload_n 2, 1) := by decide +kernel
theorem dX11_open_26 : decode cX11_open 26 = .ok (.invokevirtual 147, 3) := by decide +kernel
theorem dX11_open_29 : decode cX11_open 29 = .ok (.ifCond .eq 7, 3) := by decide +kernel
theorem dX11_open_32 : decode cX11_open 32 = .ok (.iconst 1, 1) := by decide +kernel
theorem dX11_open_33 : decode cX11_open 33 = .ok (.goto 4, 3) := by decide +kernel
theorem dX11_open_36 : decode cX11_open 36 = .ok (.iconst 0, 1) := by decide +kernel
theorem dX11_open_37 : decode cX11_open 37 = .ok (.ireturn, 1) := by decide +kernel
theorem dX11_step_0 : decode cX11_step 0 = .ok (.iload_n 1, 1) := by decide +kernel
theorem dX11_step_1 : decode cX11_step 1 = .ok (.aload_n 0, 1) := by decide +kernel
theorem dX11_step_2 : decode cX11_step 2 = .ok (.getfield 86, 3) := by decide +kernel
theorem dX11_step_5 : decode cX11_step 5 = .ok (.irem, 1) := by decide +kernel
theorem dX11_step_6 : decode cX11_step 6 = .ok (.iload_n 2, 1) := by decide +kernel
theorem dX11_step_7 : decode cX11_step 7 = .ok (.ifCond .ne 7, 3) := by decide +kernel
theorem dX11_step_10 : decode cX11_step 10 = .ok (.iconst 1, 1) := by decide +kernel
theorem dX11_step_11 : decode cX11_step 11 = .ok (.goto 13, 3) := by decide +kernel
theorem dX11_step_14 : decode cX11_step 14 = .ok (.iload_n 2, 1) := by decide +kernel
theorem dX11_step_15 : decode cX11_step 15 = .ok (.iconst 2, 1) := by decide +kernel
theorem dX11_step_16 : decode cX11_step 16 = .ok (.if_icmp .ne 7, 3) := by decide +kernel
theorem dX11_step_19 : decode cX11_step 19 = .ok (.iconst (-1), 1) := by decide +kernel
theorem dX11_step_20 : decode cX11_step 20 = .ok (.goto 4, 3) := by decide +kernel
theorem dX11_step_23 : decode cX11_step 23 = .ok (.iconst 0, 1) := by decide +kernel
theorem dX11_step_24 : decode cX11_step 24 = .ok (.iadd, 1) := by decide +kernel
theorem dX11_step_25 : decode cX11_step 25 = .ok (.istore_n 3, 1) := by decide +kernel
theorem dX11_step_26 : decode cX11_step 26 = .ok (.iload_n 1, 1) := by decide +kernel
theorem dX11_step_27 : decode cX11_step 27 = .ok (.aload_n 0, 1) := by decide +kernel
theorem dX11_step_28 : decode cX11_step 28 = .ok (.getfield 86, 3) := by decide +kernel
theorem dX11_step_31 : decode cX11_step 31 = .ok (.idiv, 1) := by decide +kernel
theorem dX11_step_32 : decode cX11_step 32 = .ok (.iload_n 2, 1) := by decide +kernel
theorem dX11_step_33 : decode cX11_step 33 = .ok (.iconst 1, 1) := by decide +kernel
theorem dX11_step_34 : decode cX11_step 34 = .ok (.if_icmp .ne 7, 3) := by decide +kernel
theorem dX11_step_37 : decode cX11_step 37 = .ok (.iconst 1, 1) := by decide +kernel
theorem dX11_step_38 : decode cX11_step 38 = .ok (.goto 13, 3) := by decide +kernel
theorem dX11_step_41 : decode cX11_step 41 = .ok (.iload_n 2, 1) := by decide +kernel
theorem dX11_step_42 : decode cX11_step 42 = .ok (.iconst 3, 1) := by decide +kernel
theorem dX11_step_43 : decode cX11_step 43 = .ok (.if_icmp .ne 7, 3) := by decide +kernel
theorem dX11_step_46 : decode cX11_step 46 = .ok (.iconst (-1), 1) := by decide +kernel
theorem dX11_step_47 : decode cX11_step 47 = .ok (.goto 4, 3) := by decide +kernel
theorem dX11_step_50 : decode cX11_step 50 = .ok (.iconst 0, 1) := by decide +kernel
theorem dX11_step_51 : decode cX11_step 51 = .ok (.iadd, 1) := by decide +kernel
theorem dX11_step_52 : decode cX11_step 52 = .ok (.istore 4, 2) := by decide +kernel
theorem dX11_step_54 : decode cX11_step 54 = .ok (.iload_n 3, 1) := by decide +kernel
theorem dX11_step_55 : decode cX11_step 55 = .ok (.i2l, 1) := by decide +kernel
theorem dX11_step_56 : decode cX11_step 56 = .ok (.lconst 0, 1) := by decide +kernel
theorem dX11_step_57 : decode cX11_step 57 = .ok (.aload_n 0, 1) := by decide +kernel
theorem dX11_step_58 : decode cX11_step 58 = .ok (.getfield 86, 3) := by decide +kernel
theorem dX11_step_61 : decode cX11_step 61 = .ok (.iconst 1, 1) := by decide +kernel
theorem dX11_step_62 : decode cX11_step 62 = .ok (.isub, 1) := by decide +kernel
theorem dX11_step_63 : decode cX11_step 63 = .ok (.i2l, 1) := by decide +kernel
theorem dX11_step_64 : decode cX11_step 64 = .ok (.invokestatic 82, 3) := by decide +kernel
theorem dX11_step_67 : decode cX11_step 67 = .ok (.ifCond .eq 32, 3) := by decide +kernel
theorem dX11_step_70 : decode cX11_step 70 = .ok (.iload 4, 2) := by decide +kernel
theorem dX11_step_72 : decode cX11_step 72 = .ok (.i2l, 1) := by decide +kernel
theorem dX11_step_73 : decode cX11_step 73 = .ok (.lconst 0, 1) := by decide +kernel
theorem dX11_step_74 : decode cX11_step 74 = .ok (.aload_n 0, 1) := by decide +kernel
theorem dX11_step_75 : decode cX11_step 75 = .ok (.getfield 89, 3) := by decide +kernel
theorem dX11_step_78 : decode cX11_step 78 = .ok (.iconst 1, 1) := by decide +kernel
theorem dX11_step_79 : decode cX11_step 79 = .ok (.isub, 1) := by decide +kernel
theorem dX11_step_80 : decode cX11_step 80 = .ok (.i2l, 1) := by decide +kernel
theorem dX11_step_81 : decode cX11_step 81 = .ok (.invokestatic 82, 3) := by decide +kernel
theorem dX11_step_84 : decode cX11_step 84 = .ok (.ifCond .eq 15, 3) := by decide +kernel
theorem dX11_step_87 : decode cX11_step 87 = .ok (.iload 4, 2) := by decide +kernel
theorem dX11_step_89 : decode cX11_step 89 = .ok (.aload_n 0, 1) := by decide +kernel
theorem dX11_step_90 : decode cX11_step 90 = .ok (.getfield 86, 3) := by decide +kernel
theorem dX11_step_93 : decode cX11_step 93 = .ok (.imul, 1) := by decide +kernel
theorem dX11_step_94 : decode cX11_step 94 = .ok (.iload_n 3, 1) := by decide +kernel
theorem dX11_step_95 : decode cX11_step 95 = .ok (.iadd, 1) := by decide +kernel
theorem dX11_step_96 : decode cX11_step 96 = .ok (.goto 5, 3) := by decide +kernel
theorem dX11_step_99 : decode cX11_step 99 = .ok (.ldc 66, 2) := by decide +kernel
theorem dX11_step_101 : decode cX11_step 101 = .ok (.ireturn, 1) := by decide +kernel
theorem dX11_isAsk_0 : decode cX11_isAsk 0 = .ok (.iload_n 1, 1) := by decide +kernel
theorem dX11_isAsk_1 : decode cX11_isAsk 1 = .ok (.i2l, 1) := by decide +kernel
theorem dX11_isAsk_2 : decode cX11_isAsk 2 = .ok (.lconst 0, 1) := by decide +kernel
theorem dX11_isAsk_3 : decode cX11_isAsk 3 = .ok (.aload_n 0, 1) := by decide +kernel
theorem dX11_isAsk_4 : decode cX11_isAsk 4 = .ok (.getfield 98, 3) := by decide +kernel
theorem dX11_isAsk_7 : decode cX11_isAsk 7 = .ok (.iconst 1, 1) := by decide +kernel
theorem dX11_isAsk_8 : decode cX11_isAsk 8 = .ok (.isub, 1) := by decide +kernel
theorem dX11_isAsk_9 : decode cX11_isAsk 9 = .ok (.i2l, 1) := by decide +kernel
theorem dX11_isAsk_10 : decode cX11_isAsk 10 = .ok (.invokestatic 82, 3) := by decide +kernel
theorem dX11_isAsk_13 : decode cX11_isAsk 13 = .ok (.ireturn, 1) := by decide +kernel
theorem dX11_ask_0 : decode cX11_ask 0 = .ok (.aload_n 0, 1) := by decide +kernel
theorem dX11_ask_1 : decode cX11_ask 1 = .ok (.iload_n 1, 1) := by decide +kernel
theorem dX11_ask_2 : decode cX11_ask 2 = .ok (.invokevirtual 110, 3) := by decide +kernel
theorem dX11_ask_5 : decode cX11_ask 5 = .ok (.ifCond .eq 11, 3) := by decide +kernel
theorem dX11_ask_8 : decode cX11_ask 8 = .ok (.aload_n 0, 1) := by decide +kernel
theorem dX11_ask_9 : decode cX11_ask 9 = .ok (.iload_n 2, 1) := by decide +kernel
theorem dX11_ask_10 : decode cX11_ask 10 = .ok (.invokevirtual 110, 3) := by decide +kernel
theorem dX11_ask_13 : decode cX11_ask 13 = .ok (.ifCond .ne 6, 3) := by decide +kernel
theorem dX11_ask_16 : decode cX11_ask 16 = .ok (.ldc 114, 2) := by decide +kernel
theorem dX11_ask_18 : decode cX11_ask 18 = .ok (.ireturn, 1) := by decide +kernel
theorem dX11_ask_19 : decode cX11_ask 19 = .ok (.iload_n 3, 1) := by decide +kernel
theorem dX11_ask_20 : decode cX11_ask 20 = .ok (.invokestatic 115, 3) := by decide +kernel
theorem dX11_ask_23 : decode cX11_ask 23 = .ok (.ifCond .eq 56, 3) := by decide +kernel
theorem dX11_ask_26 : decode cX11_ask 26 = .ok (.iload 4, 2) := by decide +kernel
theorem dX11_ask_28 : decode cX11_ask 28 = .ok (.invokestatic 115, 3) := by decide +kernel
theorem dX11_ask_31 : decode cX11_ask 31 = .ok (.ifCond .eq 48, 3) := by decide +kernel
theorem dX11_ask_34 : decode cX11_ask 34 = .ok (.iload_n 3, 1) := by decide +kernel
theorem dX11_ask_35 : decode cX11_ask 35 = .ok (.iload 4, 2) := by decide +kernel
theorem dX11_ask_37 : decode cX11_ask 37 = .ok (.if_icmp .ge 42, 3) := by decide +kernel
theorem dX11_ask_40 : decode cX11_ask 40 = .ok (.iload 5, 2) := by decide +kernel
theorem dX11_ask_42 : decode cX11_ask 42 = .ok (.i2l, 1) := by decide +kernel
theorem dX11_ask_43 : decode cX11_ask 43 = .ok (.lconst 1, 1) := by decide +kernel
theorem dX11_ask_44 : decode cX11_ask 44 = .ok (.ldc2_w 150, 3) := by decide +kernel
theorem dX11_ask_47 : decode cX11_ask 47 = .ok (.invokestatic 82, 3) := by decide +kernel
theorem dX11_ask_50 : decode cX11_ask 50 = .ok (.ifCond .eq 29, 3) := by decide +kernel
theorem dX11_ask_53 : decode cX11_ask 53 = .ok (.iload 6, 2) := by decide +kernel
theorem dX11_ask_55 : decode cX11_ask 55 = .ok (.i2l, 1) := by decide +kernel
theorem dX11_ask_56 : decode cX11_ask 56 = .ok (.lconst 1, 1) := by decide +kernel
theorem dX11_ask_57 : decode cX11_ask 57 = .ok (.ldc2_w 152, 3) := by decide +kernel
theorem dX11_ask_60 : decode cX11_ask 60 = .ok (.invokestatic 82, 3) := by decide +kernel
theorem dX11_ask_63 : decode cX11_ask 63 = .ok (.ifCond .eq 16, 3) := by decide +kernel
theorem dX11_ask_66 : decode cX11_ask 66 = .ok (.iload 7, 2) := by decide +kernel
theorem dX11_ask_68 : decode cX11_ask 68 = .ok (.i2l, 1) := by decide +kernel
theorem dX11_ask_69 : decode cX11_ask 69 = .ok (.lconst 1, 1) := by decide +kernel
theorem dX11_ask_70 : decode cX11_ask 70 = .ok (.ldc2_w 152, 3) := by decide +kernel
theorem dX11_ask_73 : decode cX11_ask 73 = .ok (.invokestatic 82, 3) := by decide +kernel
theorem dX11_ask_76 : decode cX11_ask 76 = .ok (.ifCond .ne 6, 3) := by decide +kernel
theorem dX11_ask_79 : decode cX11_ask 79 = .ok (.ldc 109, 2) := by decide +kernel
theorem dX11_ask_81 : decode cX11_ask 81 = .ok (.ireturn, 1) := by decide +kernel
theorem dX11_ask_82 : decode cX11_ask 82 = .ok (.iload_n 1, 1) := by decide +kernel
theorem dX11_ask_83 : decode cX11_ask 83 = .ok (.iload_n 2, 1) := by decide +kernel
theorem dX11_ask_84 : decode cX11_ask 84 = .ok (.if_icmp .ne 6, 3) := by decide +kernel
theorem dX11_ask_87 : decode cX11_ask 87 = .ok (.ldc 154, 2) := by decide +kernel
theorem dX11_ask_89 : decode cX11_ask 89 = .ok (.ireturn, 1) := by decide +kernel
theorem dX11_ask_90 : decode cX11_ask 90 = .ok (.aload_n 0, 1) := by decide +kernel
theorem dX11_ask_91 : decode cX11_ask 91 = .ok (.getfield 98, 3) := by decide +kernel
theorem dX11_ask_94 : decode cX11_ask 94 = .ok (.bipush 10, 2) := by decide +kernel
theorem dX11_ask_96 : decode cX11_ask 96 = .ok (.if_icmp .ne 6, 3) := by decide +kernel
theorem dX11_ask_99 : decode cX11_ask 99 = .ok (.ldc 118, 2) := by decide +kernel
theorem dX11_ask_101 : decode cX11_ask 101 = .ok (.ireturn, 1) := by decide +kernel
theorem dX11_ask_102 : decode cX11_ask 102 = .ok (.bipush 8, 2) := by decide +kernel
theorem dX11_ask_104 : decode cX11_ask 104 = .ok (.aload_n 0, 1) := by decide +kernel
theorem dX11_ask_105 : decode cX11_ask 105 = .ok (.getfield 98, 3) := by decide +kernel
theorem dX11_ask_108 : decode cX11_ask 108 = .ok (.imul, 1) := by decide +kernel
theorem dX11_ask_109 : decode cX11_ask 109 = .ok (.istore 8, 2) := by decide +kernel
theorem dX11_ask_111 : decode cX11_ask 111 = .ok (.aload_n 0, 1) := by decide +kernel
theorem dX11_ask_112 : decode cX11_ask 112 = .ok (.getfield 24, 3) := by decide +kernel
theorem dX11_ask_115 : decode cX11_ask 115 = .ok (.iload 8, 2) := by decide +kernel
theorem dX11_ask_117 : decode cX11_ask 117 = .ok (.iload_n 1, 1) := by decide +kernel
theorem dX11_ask_118 : decode cX11_ask 118 = .ok (.iastore, 1) := by decide +kernel
theorem dX11_ask_119 : decode cX11_ask 119 = .ok (.aload_n 0, 1) := by decide +kernel
theorem dX11_ask_120 : decode cX11_ask 120 = .ok (.getfield 24, 3) := by decide +kernel
theorem dX11_ask_123 : decode cX11_ask 123 = .ok (.iload 8, 2) := by decide +kernel
theorem dX11_ask_125 : decode cX11_ask 125 = .ok (.iconst 1, 1) := by decide +kernel
theorem dX11_ask_126 : decode cX11_ask 126 = .ok (.iadd, 1) := by decide +kernel
theorem dX11_ask_127 : decode cX11_ask 127 = .ok (.iload_n 2, 1) := by decide +kernel
theorem dX11_ask_128 : decode cX11_ask 128 = .ok (.iastore, 1) := by decide +kernel
theorem dX11_ask_129 : decode cX11_ask 129 = .ok (.aload_n 0, 1) := by decide +kernel
theorem dX11_ask_130 : decode cX11_ask 130 = .ok (.getfield 24, 3) := by decide +kernel
theorem dX11_ask_133 : decode cX11_ask 133 = .ok (.iload 8, 2) := by decide +kernel
theorem dX11_ask_135 : decode cX11_ask 135 = .ok (.iconst 2, 1) := by decide +kernel
theorem dX11_ask_136 : decode cX11_ask 136 = .ok (.iadd, 1) := by decide +kernel
theorem dX11_ask_137 : decode cX11_ask 137 = .ok (.iload_n 3, 1) := by decide +kernel
theorem dX11_ask_138 : decode cX11_ask 138 = .ok (.iastore, 1) := by decide +kernel
theorem dX11_ask_139 : decode cX11_ask 139 = .ok (.aload_n 0, 1) := by decide +kernel
theorem dX11_ask_140 : decode cX11_ask 140 = .ok (.getfield 24, 3) := by decide +kernel
theorem dX11_ask_143 : decode cX11_ask 143 = .ok (.iload 8, 2) := by decide +kernel
theorem dX11_ask_145 : decode cX11_ask 145 = .ok (.iconst 3, 1) := by decide +kernel
theorem dX11_ask_146 : decode cX11_ask 146 = .ok (.iadd, 1) := by decide +kernel
theorem dX11_ask_147 : decode cX11_ask 147 = .ok (.iload 4, 2) := by decide +kernel
theorem dX11_ask_149 : decode cX11_ask 149 = .ok (.iastore, 1) := by decide +kernel
theorem dX11_ask_150 : decode cX11_ask 150 = .ok (.aload_n 0, 1) := by decide +kernel
theorem dX11_ask_151 : decode cX11_ask 151 = .ok (.getfield 24, 3) := by decide +kernel
theorem dX11_ask_154 : decode cX11_ask 154 = .ok (.iload 8, 2) := by decide +kernel
theorem dX11_ask_156 : decode cX11_ask 156 = .ok (.iconst 4, 1) := by decide +kernel
theorem dX11_ask_157 : decode cX11_ask 157 = .ok (.iadd, 1) := by decide +kernel
theorem dX11_ask_158 : decode cX11_ask 158 = .ok (.iload 5, 2) := by decide +kernel
theorem dX11_ask_160 : decode cX11_ask 160 = .ok (.iastore, 1) := by decide +kernel
theorem dX11_ask_161 : decode cX11_ask 161 = .ok (.aload_n 0, 1) := by decide +kernel
theorem dX11_ask_162 : decode cX11_ask 162 = .ok (.getfield 24, 3) := by decide +kernel
theorem dX11_ask_165 : decode cX11_ask 165 = .ok (.iload 8, 2) := by decide +kernel
theorem dX11_ask_167 : decode cX11_ask 167 = .ok (.iconst 5, 1) := by decide +kernel
theorem dX11_ask_168 : decode cX11_ask 168 = .ok (.iadd, 1) := by decide +kernel
theorem dX11_ask_169 : decode cX11_ask 169 = .ok (.iload 6, 2) := by decide +kernel
theorem dX11_ask_171 : decode cX11_ask 171 = .ok (.iastore, 1) := by decide +kernel
theorem dX11_ask_172 : decode cX11_ask 172 = .ok (.aload_n 0, 1) := by decide +kernel
theorem dX11_ask_173 : decode cX11_ask 173 = .ok (.getfield 24, 3) := by decide +kernel
theorem dX11_ask_176 : decode cX11_ask 176 = .ok (.iload 8, 2) := by decide +kernel
theorem dX11_ask_178 : decode cX11_ask 178 = .ok (.bipush 6, 2) := by decide +kernel
theorem dX11_ask_180 : decode cX11_ask 180 = .ok (.iadd, 1) := by decide +kernel
theorem dX11_ask_181 : decode cX11_ask 181 = .ok (.iload 7, 2) := by decide +kernel
theorem dX11_ask_183 : decode cX11_ask 183 = .ok (.iastore, 1) := by decide +kernel
theorem dX11_ask_184 : decode cX11_ask 184 = .ok (.aload_n 0, 1) := by decide +kernel
theorem dX11_ask_185 : decode cX11_ask 185 = .ok (.getfield 33, 3) := by decide +kernel
theorem dX11_ask_188 : decode cX11_ask 188 = .ok (.aload_n 0, 1) := by decide +kernel
theorem dX11_ask_189 : decode cX11_ask 189 = .ok (.getfield 98, 3) := by decide +kernel
theorem dX11_ask_192 : decode cX11_ask 192 = .ok (.iconst 0, 1) := by decide +kernel
theorem dX11_ask_193 : decode cX11_ask 193 = .ok (.bastore, 1) := by decide +kernel
theorem dX11_ask_194 : decode cX11_ask 194 = .ok (.aload_n 0, 1) := by decide +kernel
theorem dX11_ask_195 : decode cX11_ask 195 = .ok (.dup, 1) := by decide +kernel
theorem dX11_ask_196 : decode cX11_ask 196 = .ok (.getfield 98, 3) := by decide +kernel
theorem dX11_ask_199 : decode cX11_ask 199 = .ok (.iconst 1, 1) := by decide +kernel
theorem dX11_ask_200 : decode cX11_ask 200 = .ok (.iadd, 1) := by decide +kernel
theorem dX11_ask_201 : decode cX11_ask 201 = .ok (.putfield 98, 3) := by decide +kernel
theorem dX11_ask_204 : decode cX11_ask 204 = .ok (.aload_n 0, 1) := by decide +kernel
theorem dX11_ask_205 : decode cX11_ask 205 = .ok (.getfield 98, 3) := by decide +kernel
theorem dX11_ask_208 : decode cX11_ask 208 = .ok (.iconst 1, 1) := by decide +kernel
theorem dX11_ask_209 : decode cX11_ask 209 = .ok (.isub, 1) := by decide +kernel
theorem dX11_ask_210 : decode cX11_ask 210 = .ok (.ireturn, 1) := by decide +kernel
theorem dX11_about_0 : decode cX11_about 0 = .ok (.aload_n 0, 1) := by decide +kernel
theorem dX11_about_1 : decode cX11_about 1 = .ok (.iload_n 1, 1) := by decide +kernel
theorem dX11_about_2 : decode cX11_about 2 = .ok (.invokevirtual 155, 3) := by decide +kernel
theorem dX11_about_5 : decode cX11_about 5 = .ok (.ifCond .ne 6, 3) := by decide +kernel
theorem dX11_about_8 : decode cX11_about 8 = .ok (.ldc 114, 2) := by decide +kernel
theorem dX11_about_10 : decode cX11_about 10 = .ok (.ireturn, 1) := by decide +kernel
theorem dX11_about_11 : decode cX11_about 11 = .ok (.iload_n 2, 1) := by decide +kernel
theorem dX11_about_12 : decode cX11_about 12 = .ok (.bipush 7, 2) := by decide +kernel
theorem dX11_about_14 : decode cX11_about 14 = .ok (.if_icmp .ne 20, 3) := by decide +kernel
theorem dX11_about_17 : decode cX11_about 17 = .ok (.aload_n 0, 1) := by decide +kernel
theorem dX11_about_18 : decode cX11_about 18 = .ok (.getfield 33, 3) := by decide +kernel
theorem dX11_about_21 : decode cX11_about 21 = .ok (.iload_n 1, 1) := by decide +kernel
theorem dX11_about_22 : decode cX11_about 22 = .ok (.baload, 1) := by decide +kernel
theorem dX11_about_23 : decode cX11_about 23 = .ok (.ifCond .eq 7, 3) := by decide +kernel
theorem dX11_about_26 : decode cX11_about 26 = .ok (.iconst 1, 1) := by decide +kernel
theorem dX11_about_27 : decode cX11_about 27 = .ok (.goto 35, 3) := by decide +kernel
theorem dX11_about_30 : decode cX11_about 30 = .ok (.iconst 0, 1) := by decide +kernel
theorem dX11_about_31 : decode cX11_about 31 = .ok (.goto 31, 3) := by decide +kernel
theorem dX11_about_34 : decode cX11_about 34 = .ok (.iload_n 2, 1) := by decide +kernel
theorem dX11_about_35 : decode cX11_about 35 = .ok (.i2l, 1) := by decide +kernel
theorem dX11_about_36 : decode cX11_about 36 = .ok (.lconst 0, 1) := by decide +kernel
theorem dX11_about_37 : decode cX11_about 37 = .ok (.ldc2_w 107, 3) := by decide +kernel
theorem dX11_about_40 : decode cX11_about 40 = .ok (.invokestatic 82, 3) := by decide +kernel
theorem dX11_about_43 : decode cX11_about 43 = .ok (.ifCond .eq 17, 3) := by decide +kernel
theorem dX11_about_46 : decode cX11_about 46 = .ok (.aload_n 0, 1) := by decide +kernel
theorem dX11_about_47 : decode cX11_about 47 = .ok (.getfield 24, 3) := by decide +kernel
theorem dX11_about_50 : decode cX11_about 50 = .ok (.bipush 8, 2) := by decide +kernel
theorem dX11_about_52 : decode cX11_about 52 = .ok (.iload_n 1, 1) := by decide +kernel
theorem dX11_about_53 : decode cX11_about 53 = .ok (.imul, 1) := by decide +kernel
theorem dX11_about_54 : decode cX11_about 54 = .ok (.iload_n 2, 1) := by decide +kernel
theorem dX11_about_55 : decode cX11_about 55 = .ok (.iadd, 1) := by decide +kernel
theorem dX11_about_56 : decode cX11_about 56 = .ok (.iaload, 1) := by decide +kernel
theorem dX11_about_57 : decode cX11_about 57 = .ok (.goto 5, 3) := by decide +kernel
theorem dX11_about_60 : decode cX11_about 60 = .ok (.ldc 109, 2) := by decide +kernel
theorem dX11_about_62 : decode cX11_about 62 = .ok (.ireturn, 1) := by decide +kernel
theorem dX11_layOpen_0 : decode cX11_layOpen 0 = .ok (.iconst 0, 1) := by decide +kernel
theorem dX11_layOpen_1 : decode cX11_layOpen 1 = .ok (.istore_n 1, 1) := by decide +kernel
theorem dX11_layOpen_2 : decode cX11_layOpen 2 = .ok (.iload_n 1, 1) := by decide +kernel
theorem dX11_layOpen_3 : decode cX11_layOpen 3 = .ok (.bipush 60, 2) := by decide +kernel
theorem dX11_layOpen_5 : decode cX11_layOpen 5 = .ok (.if_icmp .ge 42, 3) := by decide +kernel
theorem dX11_layOpen_8 : decode cX11_layOpen 8 = .ok (.iconst 0, 1) := by decide +kernel
theorem dX11_layOpen_9 : decode cX11_layOpen 9 = .ok (.istore_n 2, 1) := by decide +kernel
theorem dX11_layOpen_10 : decode cX11_layOpen 10 = .ok (.iload_n 2, 1) := by decide +kernel
theorem dX11_layOpen_11 : decode cX11_layOpen 11 = .ok (.aload_n 0, 1) := by decide +kernel
theorem dX11_layOpen_12 : decode cX11_layOpen 12 = .ok (.invokevirtual 101, 3) := by decide +kernel
theorem dX11_layOpen_15 : decode cX11_layOpen 15 = .ok (.if_icmp .ge 26, 3) := by decide +kernel
theorem dX11_layOpen_18 : decode cX11_layOpen 18 = .ok (.aload_n 0, 1) := by decide +kernel
theorem dX11_layOpen_19 : decode cX11_layOpen 19 = .ok (.getfield 45, 3) := by decide +kernel
theorem dX11_layOpen_22 : decode cX11_layOpen 22 = .ok (.bipush 36, 2) := by decide +kernel
theorem dX11_layOpen_24 : decode cX11_layOpen 24 = .ok (.iload_n 1, 1) := by decide +kernel
theorem dX11_layOpen_25 : decode cX11_layOpen 25 = .ok (.imul, 1) := by decide +kernel
theorem dX11_layOpen_26 : decode cX11_layOpen 26 = .ok (.iload_n 2, 1) := by decide +kernel
theorem dX11_layOpen_27 : decode cX11_layOpen 27 = .ok (.iadd, 1) := by decide +kernel
theorem dX11_layOpen_28 : decode cX11_layOpen 28 = .ok (.aload_n 0, 1) := by decide +kernel
theorem dX11_layOpen_29 : decode cX11_layOpen 29 = .ok (.iload_n 2, 1) := by decide +kernel
theorem dX11_layOpen_30 : decode cX11_layOpen 30 = .ok (.iload_n 1, 1) := by decide +kernel
theorem dX11_layOpen_31 : decode cX11_layOpen 31 = .ok (.invokevirtual 147, 3) := by decide +kernel
theorem dX11_layOpen_34 : decode cX11_layOpen 34 = .ok (.bastore, 1) := by decide +kernel
theorem dX11_layOpen_35 : decode cX11_layOpen 35 = .ok (.iinc 2 1, 3) := by decide +kernel
theorem dX11_layOpen_38 : decode cX11_layOpen 38 = .ok (.goto (-28), 3) := by decide +kernel
theorem dX11_layOpen_41 : decode cX11_layOpen 41 = .ok (.iinc 1 1, 3) := by decide +kernel
theorem dX11_layOpen_44 : decode cX11_layOpen 44 = .ok (.goto (-42), 3) := by decide +kernel
theorem dX11_layOpen_47 : decode cX11_layOpen 47 = .ok (.return_, 1) := by decide +kernel
theorem dX11_layBits_0 : decode cX11_layBits 0 = .ok (.iconst 0, 1) := by decide +kernel
theorem dX11_layBits_1 : decode cX11_layBits 1 = .ok (.istore_n 1, 1) := by decide +kernel
theorem dX11_layBits_2 : decode cX11_layBits 2 = .ok (.iload_n 1, 1) := by decide +kernel
theorem dX11_layBits_3 : decode cX11_layBits 3 = .ok (.sipush 2160, 3) := by decide +kernel
theorem dX11_layBits_6 : decode cX11_layBits 6 = .ok (.if_icmp .ge 16, 3) := by decide +kernel
theorem dX11_layBits_9 : decode cX11_layBits 9 = .ok (.aload_n 0, 1) := by decide +kernel
theorem dX11_layBits_10 : decode cX11_layBits 10 = .ok (.getfield 39, 3) := by decide +kernel
theorem dX11_layBits_13 : decode cX11_layBits 13 = .ok (.iload_n 1, 1) := by decide +kernel
theorem dX11_layBits_14 : decode cX11_layBits 14 = .ok (.iconst 0, 1) := by decide +kernel
theorem dX11_layBits_15 : decode cX11_layBits 15 = .ok (.iastore, 1) := by decide +kernel
theorem dX11_layBits_16 : decode cX11_layBits 16 = .ok (.iinc 1 1, 3) := by decide +kernel
theorem dX11_layBits_19 : decode cX11_layBits 19 = .ok (.goto (-17), 3) := by decide +kernel
theorem dX11_layBits_22 : decode cX11_layBits 22 = .ok (.iconst 0, 1) := by decide +kernel
theorem dX11_layBits_23 : decode cX11_layBits 23 = .ok (.istore_n 1, 1) := by decide +kernel
theorem dX11_layBits_24 : decode cX11_layBits 24 = .ok (.iload_n 1, 1) := by decide +kernel
theorem dX11_layBits_25 : decode cX11_layBits 25 = .ok (.sipush 10800, 3) := by decide +kernel
theorem dX11_layBits_28 : decode cX11_layBits 28 = .ok (.if_icmp .ge 16, 3) := by decide +kernel
theorem dX11_layBits_31 : decode cX11_layBits 31 = .ok (.aload_n 0, 1) := by decide +kernel
theorem dX11_layBits_32 : decode cX11_layBits 32 = .ok (.getfield 42, 3) := by decide +kernel
theorem dX11_layBits_35 : decode cX11_layBits 35 = .ok (.iload_n 1, 1) := by decide +kernel
theorem dX11_layBits_36 : decode cX11_layBits 36 = .ok (.iconst 0, 1) := by decide +kernel
theorem dX11_layBits_37 : decode cX11_layBits 37 = .ok (.iastore, 1) := by decide +kernel
theorem dX11_layBits_38 : decode cX11_layBits 38 = .ok (.iinc 1 1, 3) := by decide +kernel
theorem dX11_layBits_41 : decode cX11_layBits 41 = .ok (.goto (-17), 3) := by decide +kernel
theorem dX11_layBits_44 : decode cX11_layBits 44 = .ok (.iconst 0, 1) := by decide +kernel
theorem dX11_layBits_45 : decode cX11_layBits 45 = .ok (.istore_n 1, 1) := by decide +kernel
theorem dX11_layBits_46 : decode cX11_layBits 46 = .ok (.iload_n 1, 1) := by decide +kernel
theorem dX11_layBits_47 : decode cX11_layBits 47 = .ok (.aload_n 0, 1) := by decide +kernel
theorem dX11_layBits_48 : decode cX11_layBits 48 = .ok (.getfield 98, 3) := by decide +kernel
theorem dX11_layBits_51 : decode cX11_layBits 51 = .ok (.if_icmp .ge 63, 3) := by decide +kernel
theorem dX11_layBits_54 : decode cX11_layBits 54 = .ok (.aload_n 0, 1) := by decide +kernel
theorem dX11_layBits_55 : decode cX11_layBits 55 = .ok (.getfield 27, 3) := by decide +kernel
theorem dX11_layBits_58 : decode cX11_layBits 58 = .ok (.iload_n 1, 1) := by decide +kernel
theorem dX11_layBits_59 : decode cX11_layBits 59 = .ok (.iaload, 1) := by decide +kernel
theorem dX11_layBits_60 : decode cX11_layBits 60 = .ok (.istore_n 2, 1) := by decide +kernel
theorem dX11_layBits_61 : decode cX11_layBits 61 = .ok (.iload_n 2, 1) := by decide +kernel
theorem dX11_layBits_62 : decode cX11_layBits 62 = .ok (.aload_n 0, 1) := by decide +kernel
theorem dX11_layBits_63 : decode cX11_layBits 63 = .ok (.getfield 30, 3) := by decide +kernel
theorem dX11_layBits_66 : decode cX11_layBits 66 = .ok (.iload_n 1, 1) := by decide +kernel
theorem dX11_layBits_67 : decode cX11_layBits 67 = .ok (.iaload, 1) := by decide +kernel
theorem dX11_layBits_68 : decode cX11_layBits 68 = .ok (.if_icmp .gt 40, 3) := by decide +kernel
theorem dX11_layBits_71 : decode cX11_layBits 71 = .ok (.aload_n 0, 1) := by decide +kernel
theorem dX11_layBits_72 : decode cX11_layBits 72 = .ok (.getfield 33, 3) := by decide +kernel
theorem dX11_layBits_75 : decode cX11_layBits 75 = .ok (.iload_n 1, 1) := by decide +kernel
theorem dX11_layBits_76 : decode cX11_layBits 76 = .ok (.baload, 1) := by decide +kernel
theorem dX11_layBits_77 : decode cX11_layBits 77 = .ok (.ifCond .eq 31, 3) := by decide +kernel
theorem dX11_layBits_80 : decode cX11_layBits 80 = .ok (.aload_n 0, 1) := by decide +kernel
theorem dX11_layBits_81 : decode cX11_layBits 81 = .ok (.iload_n 1, 1) := by decide +kernel
theorem dX11_layBits_82 : decode cX11_layBits 82 = .ok (.iload_n 2, 1) := by decide +kernel
theorem dX11_layBits_83 : decode cX11_layBits 83 = .ok (.invokevirtual 158, 3) := by decide +kernel
theorem dX11_layBits_86 : decode cX11_layBits 86 = .ok (.iload_n 2, 1) := by decide +kernel
theorem dX11_layBits_87 : decode cX11_layBits 87 = .ok (.aload_n 0, 1) := by decide +kernel
theorem dX11_layBits_88 : decode cX11_layBits 88 = .ok (.getfield 30, 3) := by decide +kernel
theorem dX11_layBits_91 : decode cX11_layBits 91 = .ok (.iload_n 1, 1) := by decide +kernel
theorem dX11_layBits_92 : decode cX11_layBits 92 = .ok (.iaload, 1) := by decide +kernel
theorem dX11_layBits_93 : decode cX11_layBits 93 = .ok (.if_icmp .ge 9, 3) := by decide +kernel
theorem dX11_layBits_96 : decode cX11_layBits 96 = .ok (.aload_n 0, 1) := by decide +kernel
theorem dX11_layBits_97 : decode cX11_layBits 97 = .ok (.iload_n 1, 1) := by decide +kernel
theorem dX11_layBits_98 : decode cX11_layBits 98 = .ok (.iload_n 2, 1) := by decide +kernel
theorem dX11_layBits_99 : decode cX11_layBits 99 = .ok (.invokevirtual 161, 3) := by decide +kernel
theorem dX11_layBits_102 : decode cX11_layBits 102 = .ok (.iinc 2 1, 3) := by decide +kernel
theorem dX11_layBits_105 : decode cX11_layBits 105 = .ok (.goto (-44), 3) := by decide +kernel
theorem dX11_layBits_108 : decode cX11_layBits 108 = .ok (.iinc 1 1, 3) := by decide +kernel
theorem dX11_layBits_111 : decode cX11_layBits 111 = .ok (.goto (-65), 3) := by decide +kernel
theorem dX11_layBits_114 : decode cX11_layBits 114 = .ok (.return_, 1) := by decide +kernel
theorem dX11_layNear_0 : decode cX11_layNear 0 = .ok (.aload_n 0, 1) := by decide +kernel
theorem dX11_layNear_1 : decode cX11_layNear 1 = .ok (.getfield 36, 3) := by decide +kernel
theorem dX11_layNear_4 : decode cX11_layNear 4 = .ok (.bipush 60, 2) := by decide +kernel
theorem dX11_layNear_6 : decode cX11_layNear 6 = .ok (.iload_n 1, 1) := by decide +kernel
theorem dX11_layNear_7 : decode cX11_layNear 7 = .ok (.imul, 1) := by decide +kernel
theorem dX11_layNear_8 : decode cX11_layNear 8 = .ok (.iload_n 2, 1) := by decide +kernel
theorem dX11_layNear_9 : decode cX11_layNear 9 = .ok (.iadd, 1) := by decide +kernel
theorem dX11_layNear_10 : decode cX11_layNear 10 = .ok (.iaload, 1) := by decide +kernel
theorem dX11_layNear_11 : decode cX11_layNear 11 = .ok (.istore_n 3, 1) := by decide +kernel
theorem dX11_layNear_12 : decode cX11_layNear 12 = .ok (.iconst 0, 1) := by decide +kernel
theorem dX11_layNear_13 : decode cX11_layNear 13 = .ok (.istore 4, 2) := by decide +kernel
theorem dX11_layNear_15 : decode cX11_layNear 15 = .ok (.iload 4, 2) := by decide +kernel
theorem dX11_layNear_17 : decode cX11_layNear 17 = .ok (.aload_n 0, 1) := by decide +kernel
theorem dX11_layNear_18 : decode cX11_layNear 18 = .ok (.invokevirtual 101, 3) := by decide +kernel
theorem dX11_layNear_21 : decode cX11_layNear 21 = .ok (.if_icmp .ge 59, 3) := by decide +kernel
theorem dX11_layNear_24 : decode cX11_layNear 24 = .ok (.aload_n 0, 1) := by decide +kernel
theorem dX11_layNear_25 : decode cX11_layNear 25 = .ok (.getfield 39, 3) := by decide +kernel
theorem dX11_layNear_28 : decode cX11_layNear 28 = .ok (.bipush 36, 2) := by decide +kernel
theorem dX11_layNear_30 : decode cX11_layNear 30 = .ok (.iload_n 2, 1) := by decide +kernel
theorem dX11_layNear_31 : decode cX11_layNear 31 = .ok (.imul, 1) := by decide +kernel
theorem dX11_layNear_32 : decode cX11_layNear 32 = .ok (.iload 4, 2) := by decide +kernel
theorem dX11_layNear_34 : decode cX11_layNear 34 = .ok (.iadd, 1) := by decide +kernel
theorem dX11_layNear_35 : decode cX11_layNear 35 = .ok (.dup2, 1) := by decide +kernel
theorem dX11_layNear_36 : decode cX11_layNear 36 = .ok (.iaload, 1) := by decide +kernel
theorem dX11_layNear_37 : decode cX11_layNear 37 = .ok (.aload_n 0, 1) := by decide +kernel
theorem dX11_layNear_38 : decode cX11_layNear 38 = .ok (.iload 4, 2) := by decide +kernel
theorem dX11_layNear_40 : decode cX11_layNear 40 = .ok (.iload_n 3, 1) := by decide +kernel
theorem dX11_layNear_41 : decode cX11_layNear 41 = .ok (.invokevirtual 130, 3) := by decide +kernel
theorem dX11_layNear_44 : decode cX11_layNear 44 = .ok (.aload_n 0, 1) := by decide +kernel
theorem dX11_layNear_45 : decode cX11_layNear 45 = .ok (.getfield 123, 3) := by decide +kernel
theorem dX11_layNear_48 : decode cX11_layNear 48 = .ok (.if_icmp .gt 23, 3) := by decide +kernel
theorem dX11_layNear_51 : decode cX11_layNear 51 = .ok (.aload_n 0, 1) := by decide +kernel
theorem dX11_layNear_52 : decode cX11_layNear 52 = .ok (.iload 4, 2) := by decide +kernel
theorem dX11_layNear_54 : decode cX11_layNear 54 = .ok (.iload_n 3, 1) := by decide +kernel
theorem dX11_layNear_55 : decode cX11_layNear 55 = .ok (.invokevirtual 134, 3) := by decide +kernel
theorem dX11_layNear_58 : decode cX11_layNear 58 = .ok (.aload_n 0, 1) := by decide +kernel
theorem dX11_layNear_59 : decode cX11_layNear 59 = .ok (.getfield 123, 3) := by decide +kernel
theorem dX11_layNear_62 : decode cX11_layNear 62 = .ok (.if_icmp .gt 9, 3) := by decide +kernel
theorem dX11_layNear_65 : decode cX11_layNear 65 = .ok (.iconst 1, 1) := by decide +kernel
theorem dX11_layNear_66 : decode cX11_layNear 66 = .ok (.iload_n 1, 1) := by decide +kernel
theorem dX11_layNear_67 : decode cX11_layNear 67 = .ok (.ishl, 1) := by decide +kernel
theorem dX11_layNear_68 : decode cX11_layNear 68 = .ok (.goto 4, 3) := by decide +kernel
theorem dX11_layNear_71 : decode cX11_layNear 71 = .ok (.iconst 0, 1) := by decide +kernel
theorem dX11_layNear_72 : decode cX11_layNear 72 = .ok (.ior, 1) := by decide +kernel
theorem dX11_layNear_73 : decode cX11_layNear 73 = .ok (.iastore, 1) := by decide +kernel
theorem dX11_layNear_74 : decode cX11_layNear 74 = .ok (.iinc 4 1, 3) := by decide +kernel
theorem dX11_layNear_77 : decode cX11_layNear 77 = .ok (.goto (-62), 3) := by decide +kernel
theorem dX11_layNear_80 : decode cX11_layNear 80 = .ok (.return_, 1) := by decide +kernel
theorem dX11_layChange_0 : decode cX11_layChange 0 = .ok (.aload_n 0, 1) := by decide +kernel
theorem dX11_layChange_1 : decode cX11_layChange 1 = .ok (.getfield 36, 3) := by decide +kernel
theorem dX11_layChange_4 : decode cX11_layChange 4 = .ok (.bipush 60, 2) := by decide +kernel
theorem dX11_layChange_6 : decode cX11_layChange 6 = .ok (.iload_n 1, 1) := by decide +kernel
theorem dX11_layChange_7 : decode cX11_layChange 7 = .ok (.imul, 1) := by decide +kernel
theorem dX11_layChange_8 : decode cX11_layChange 8 = .ok (.iload_n 2, 1) := by decide +kernel
theorem dX11_layChange_9 : decode cX11_layChange 9 = .ok (.iadd, 1) := by decide +kernel
theorem dX11_layChange_10 : decode cX11_layChange 10 = .ok (.iconst 1, 1) := by decide +kernel
theorem dX11_layChange_11 : decode cX11_layChange 11 = .ok (.iadd, 1) := by decide +kernel
theorem dX11_layChange_12 : decode cX11_layChange 12 = .ok (.iaload, 1) := by decide +kernel
theorem dX11_layChange_13 : decode cX11_layChange 13 = .ok (.istore_n 3, 1) := by decide +kernel
theorem dX11_layChange_14 : decode cX11_layChange 14 = .ok (.iconst 0, 1) := by decide +kernel
theorem dX11_layChange_15 : decode cX11_layChange 15 = .ok (.istore 4, 2) := by decide +kernel
theorem dX11_layChange_17 : decode cX11_layChange 17 = .ok (.iload 4, 2) := by decide +kernel
theorem dX11_layChange_19 : decode cX11_layChange 19 = .ok (.iconst 4, 1) := by decide +kernel
theorem dX11_layChange_20 : decode cX11_layChange 20 = .ok (.if_icmp .ge 56, 3) := by decide +kernel
theorem dX11_layChange_23 : decode cX11_layChange 23 = .ok (.aload_n 0, 1) := by decide +kernel
theorem dX11_layChange_24 : decode cX11_layChange 24 = .ok (.getfield 42, 3) := by decide +kernel
theorem dX11_layChange_27 : decode cX11_layChange 27 = .ok (.iconst 5, 1) := by decide +kernel
theorem dX11_layChange_28 : decode cX11_layChange 28 = .ok (.bipush 36, 2) := by decide +kernel
theorem dX11_layChange_30 : decode cX11_layChange 30 = .ok (.iload_n 2, 1) := by decide +kernel
theorem dX11_layChange_31 : decode cX11_layChange 31 = .ok (.imul, 1) := by decide +kernel
theorem dX11_layChange_32 : decode cX11_layChange 32 = .ok (.iload_n 3, 1) := by decide +kernel
theorem dX11_layChange_33 : decode cX11_layChange 33 = .ok (.iadd, 1) := by decide +kernel
theorem dX11_layChange_34 : decode cX11_layChange 34 = .ok (.imul, 1) := by decide +kernel
theorem dX11_layChange_35 : decode cX11_layChange 35 = .ok (.iload 4, 2) := by decide +kernel
theorem dX11_layChange_37 : decode cX11_layChange 37 = .ok (.iadd, 1) := by decide +kernel
theorem dX11_layChange_38 : decode cX11_layChange 38 = .ok (.dup2, 1) := by decide +kernel
theorem dX11_layChange_39 : decode cX11_layChange 39 = .ok (.iaload, 1) := by decide +kernel
theorem dX11_layChange_40 : decode cX11_layChange 40 = .ok (.aload_n 0, 1) := by decide +kernel
theorem dX11_layChange_41 : decode cX11_layChange 41 = .ok (.iload_n 3, 1) := by decide +kernel
theorem dX11_layChange_42 : decode cX11_layChange 42 = .ok (.iload 4, 2) := by decide +kernel
theorem dX11_layChange_44 : decode cX11_layChange 44 = .ok (.invokevirtual 164, 3) := by decide +kernel
theorem dX11_layChange_47 : decode cX11_layChange 47 = .ok (.aload_n 0, 1) := by decide +kernel
theorem dX11_layChange_48 : decode cX11_layChange 48 = .ok (.getfield 36, 3) := by decide +kernel
theorem dX11_layChange_51 : decode cX11_layChange 51 = .ok (.bipush 60, 2) := by decide +kernel
theorem dX11_layChange_53 : decode cX11_layChange 53 = .ok (.iload_n 1, 1) := by decide +kernel
theorem dX11_layChange_54 : decode cX11_layChange 54 = .ok (.imul, 1) := by decide +kernel
theorem dX11_layChange_55 : decode cX11_layChange 55 = .ok (.iload_n 2, 1) := by decide +kernel
theorem dX11_layChange_56 : decode cX11_layChange 56 = .ok (.iadd, 1) := by decide +kernel
theorem dX11_layChange_57 : decode cX11_layChange 57 = .ok (.iaload, 1) := by decide +kernel
theorem dX11_layChange_58 : decode cX11_layChange 58 = .ok (.if_icmp .ne 9, 3) := by decide +kernel
theorem dX11_layChange_61 : decode cX11_layChange 61 = .ok (.iconst 1, 1) := by decide +kernel
theorem dX11_layChange_62 : decode cX11_layChange 62 = .ok (.iload_n 1, 1) := by decide +kernel
theorem dX11_layChange_63 : decode cX11_layChange 63 = .ok (.ishl, 1) := by decide +kernel
