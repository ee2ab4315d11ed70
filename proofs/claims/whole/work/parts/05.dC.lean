theorem dX9_init_0 : decode cX9_init 0 = .ok (.aload_n 0, 1) := by decide +kernel
theorem dX9_init_1 : decode cX9_init 1 = .ok (.invokespecial 1, 3) := by decide +kernel
theorem dX9_init_4 : decode cX9_init 4 = .ok (.aload_n 0, 1) := by decide +kernel
theorem dX9_init_5 : decode cX9_init 5 = .ok (.iconst 4, 1) := by decide +kernel
theorem dX9_init_6 : decode cX9_init 6 = .ok (.newarray .int, 2) := by decide +kernel
theorem dX9_init_8 : decode cX9_init 8 = .ok (.putfield 7, 3) := by decide +kernel
theorem dX9_init_11 : decode cX9_init 11 = .ok (.aload_n 0, 1) := by decide +kernel
theorem dX9_init_12 : decode cX9_init 12 = .ok (.iconst 4, 1) := by decide +kernel
theorem dX9_init_13 : decode cX9_init 13 = .ok (.newarray .int, 2) := by decide +kernel
theorem dX9_init_15 : decode cX9_init 15 = .ok (.putfield 13, 3) := by decide +kernel
theorem dX9_init_18 : decode cX9_init 18 = .ok (.aload_n 0, 1) := by decide +kernel
theorem dX9_init_19 : decode cX9_init 19 = .ok (.bipush 80, 2) := by decide +kernel
theorem dX9_init_21 : decode cX9_init 21 = .ok (.newarray .int, 2) := by decide +kernel
theorem dX9_init_23 : decode cX9_init 23 = .ok (.putfield 16, 3) := by decide +kernel
theorem dX9_init_26 : decode cX9_init 26 = .ok (.aload_n 0, 1) := by decide +kernel
theorem dX9_init_27 : decode cX9_init 27 = .ok (.iconst 4, 1) := by decide +kernel
theorem dX9_init_28 : decode cX9_init 28 = .ok (.newarray .int, 2) := by decide +kernel
theorem dX9_init_30 : decode cX9_init 30 = .ok (.putfield 19, 3) := by decide +kernel
theorem dX9_init_33 : decode cX9_init 33 = .ok (.aload_n 0, 1) := by decide +kernel
theorem dX9_init_34 : decode cX9_init 34 = .ok (.iconst 4, 1) := by decide +kernel
theorem dX9_init_35 : decode cX9_init 35 = .ok (.newarray .int, 2) := by decide +kernel
theorem dX9_init_37 : decode cX9_init 37 = .ok (.putfield 22, 3) := by decide +kernel
theorem dX9_init_40 : decode cX9_init 40 = .ok (.aload_n 0, 1) := by decide +kernel
theorem dX9_init_41 : decode cX9_init 41 = .ok (.iconst 4, 1) := by decide +kernel
theorem dX9_init_42 : decode cX9_init 42 = .ok (.newarray .int, 2) := by decide +kernel
theorem dX9_init_44 : decode cX9_init 44 = .ok (.putfield 25, 3) := by decide +kernel
theorem dX9_init_47 : decode cX9_init 47 = .ok (.aload_n 0, 1) := by decide +kernel
theorem dX9_init_48 : decode cX9_init 48 = .ok (.bipush 60, 2) := by decide +kernel
theorem dX9_init_50 : decode cX9_init 50 = .ok (.newarray .int, 2) := by decide +kernel
theorem dX9_init_52 : decode cX9_init 52 = .ok (.putfield 28, 3) := by decide +kernel
theorem dX9_init_55 : decode cX9_init 55 = .ok (.aload_n 0, 1) := by decide +kernel
theorem dX9_init_56 : decode cX9_init 56 = .ok (.iconst 4, 1) := by decide +kernel
theorem dX9_init_57 : decode cX9_init 57 = .ok (.newarray .int, 2) := by decide +kernel
theorem dX9_init_59 : decode cX9_init 59 = .ok (.putfield 31, 3) := by decide +kernel
theorem dX9_init_62 : decode cX9_init 62 = .ok (.aload_n 0, 1) := by decide +kernel
theorem dX9_init_63 : decode cX9_init 63 = .ok (.iconst 4, 1) := by decide +kernel
theorem dX9_init_64 : decode cX9_init 64 = .ok (.newarray .int, 2) := by decide +kernel
theorem dX9_init_66 : decode cX9_init 66 = .ok (.putfield 34, 3) := by decide +kernel
theorem dX9_init_69 : decode cX9_init 69 = .ok (.aload_n 0, 1) := by decide +kernel
theorem dX9_init_70 : decode cX9_init 70 = .ok (.iconst 4, 1) := by decide +kernel
theorem dX9_init_71 : decode cX9_init 71 = .ok (.newarray .int, 2) := by decide +kernel
theorem dX9_init_73 : decode cX9_init 73 = .ok (.putfield 37, 3) := by decide +kernel
theorem dX9_init_76 : decode cX9_init 76 = .ok (.aload_n 0, 1) := by decide +kernel
theorem dX9_init_77 : decode cX9_init 77 = .ok (.sipush 200, 3) := by decide +kernel
theorem dX9_init_80 : decode cX9_init 80 = .ok (.newarray .int, 2) := by decide +kernel
theorem dX9_init_82 : decode cX9_init 82 = .ok (.putfield 40, 3) := by decide +kernel
theorem dX9_init_85 : decode cX9_init 85 = .ok (.aload_n 0, 1) := by decide +kernel
theorem dX9_init_86 : decode cX9_init 86 = .ok (.bipush 100, 2) := by decide +kernel
theorem dX9_init_88 : decode cX9_init 88 = .ok (.newarray .long, 2) := by decide +kernel
theorem dX9_init_90 : decode cX9_init 90 = .ok (.putfield 43, 3) := by decide +kernel
theorem dX9_init_93 : decode cX9_init 93 = .ok (.aload_n 0, 1) := by decide +kernel
theorem dX9_init_94 : decode cX9_init 94 = .ok (.bipush 100, 2) := by decide +kernel
theorem dX9_init_96 : decode cX9_init 96 = .ok (.newarray .int, 2) := by decide +kernel
theorem dX9_init_98 : decode cX9_init 98 = .ok (.putfield 47, 3) := by decide +kernel
theorem dX9_init_101 : decode cX9_init 101 = .ok (.aload_n 0, 1) := by decide +kernel
theorem dX9_init_102 : decode cX9_init 102 = .ok (.bipush 100, 2) := by decide +kernel
theorem dX9_init_104 : decode cX9_init 104 = .ok (.newarray .int, 2) := by decide +kernel
theorem dX9_init_106 : decode cX9_init 106 = .ok (.putfield 50, 3) := by decide +kernel
theorem dX9_init_109 : decode cX9_init 109 = .ok (.aload_n 0, 1) := by decide +kernel
theorem dX9_init_110 : decode cX9_init 110 = .ok (.bipush 100, 2) := by decide +kernel
theorem dX9_init_112 : decode cX9_init 112 = .ok (.newarray .boolean, 2) := by decide +kernel
theorem dX9_init_114 : decode cX9_init 114 = .ok (.putfield 53, 3) := by decide +kernel
theorem dX9_init_117 : decode cX9_init 117 = .ok (.aload_n 0, 1) := by decide +kernel
theorem dX9_init_118 : decode cX9_init 118 = .ok (.sipush 601, 3) := by decide +kernel
theorem dX9_init_121 : decode cX9_init 121 = .ok (.newarray .long, 2) := by decide +kernel
theorem dX9_init_123 : decode cX9_init 123 = .ok (.putfield 57, 3) := by decide +kernel
theorem dX9_init_126 : decode cX9_init 126 = .ok (.aload_n 0, 1) := by decide +kernel
theorem dX9_init_127 : decode cX9_init 127 = .ok (.ldc 60, 2) := by decide +kernel
theorem dX9_init_129 : decode cX9_init 129 = .ok (.newarray .int, 2) := by decide +kernel
theorem dX9_init_131 : decode cX9_init 131 = .ok (.putfield 61, 3) := by decide +kernel
theorem dX9_init_134 : decode cX9_init 134 = .ok (.aload_n 0, 1) := by decide +kernel
theorem dX9_init_135 : decode cX9_init 135 = .ok (.ldc 60, 2) := by decide +kernel
theorem dX9_init_137 : decode cX9_init 137 = .ok (.newarray .int, 2) := by decide +kernel
theorem dX9_init_139 : decode cX9_init 139 = .ok (.putfield 64, 3) := by decide +kernel
theorem dX9_init_142 : decode cX9_init 142 = .ok (.aload_n 0, 1) := by decide +kernel
theorem dX9_init_143 : decode cX9_init 143 = .ok (.ldc 67, 2) := by decide +kernel
theorem dX9_init_145 : decode cX9_init 145 = .ok (.newarray .int, 2) := by decide +kernel
theorem dX9_init_147 : decode cX9_init 147 = .ok (.putfield 68, 3) := by decide +kernel
theorem dX9_init_150 : decode cX9_init 150 = .ok (.aload_n 0, 1) := by decide +kernel
theorem dX9_init_151 : decode cX9_init 151 = .ok (.sipush 600, 3) := by decide +kernel
theorem dX9_init_154 : decode cX9_init 154 = .ok (.newarray .int, 2) := by decide +kernel
theorem dX9_init_156 : decode cX9_init 156 = .ok (.putfield 71, 3) := by decide +kernel
theorem dX9_init_159 : decode cX9_init 159 = .ok (.aload_n 0, 1) := by decide +kernel
theorem dX9_init_160 : decode cX9_init 160 = .ok (.sipush 600, 3) := by decide +kernel
theorem dX9_init_163 : decode cX9_init 163 = .ok (.newarray .boolean, 2) := by decide +kernel
theorem dX9_init_165 : decode cX9_init 165 = .ok (.putfield 74, 3) := by decide +kernel
theorem dX9_init_168 : decode cX9_init 168 = .ok (.aload_n 0, 1) := by decide +kernel
theorem dX9_init_169 : decode cX9_init 169 = .ok (.bipush 60, 2) := by decide +kernel
theorem dX9_init_171 : decode cX9_init 171 = .ok (.newarray .int, 2) := by decide +kernel
theorem dX9_init_173 : decode cX9_init 173 = .ok (.putfield 77, 3) := by decide +kernel
theorem dX9_init_176 : decode cX9_init 176 = .ok (.iconst 0, 1) := by decide +kernel
theorem dX9_init_177 : decode cX9_init 177 = .ok (.istore_n 1, 1) := by decide +kernel
theorem dX9_init_178 : decode cX9_init 178 = .ok (.iload_n 1, 1) := by decide +kernel
theorem dX9_init_179 : decode cX9_init 179 = .ok (.iconst 4, 1) := by decide +kernel
theorem dX9_init_180 : decode cX9_init 180 = .ok (.if_icmp .ge 16, 3) := by decide +kernel
theorem dX9_init_183 : decode cX9_init 183 = .ok (.aload_n 0, 1) := by decide +kernel
theorem dX9_init_184 : decode cX9_init 184 = .ok (.getfield 13, 3) := by decide +kernel
theorem dX9_init_187 : decode cX9_init 187 = .ok (.iload_n 1, 1) := by decide +kernel
theorem dX9_init_188 : decode cX9_init 188 = .ok (.iconst (-1), 1) := by decide +kernel
theorem dX9_init_189 : decode cX9_init 189 = .ok (.iastore, 1) := by decide +kernel
theorem dX9_init_190 : decode cX9_init 190 = .ok (.iinc 1 1, 3) := by decide +kernel
theorem dX9_init_193 : decode cX9_init 193 = .ok (.goto (-15), 3) := by decide +kernel
theorem dX9_init_196 : decode cX9_init 196 = .ok (.aload_n 0, 1) := by decide +kernel
theorem dX9_init_197 : decode cX9_init 197 = .ok (.invokevirtual 80, 3) := by decide +kernel
theorem dX9_init_200 : decode cX9_init 200 = .ok (.return_, 1) := by decide +kernel
theorem dX9_in_0 : decode cX9_in 0 = .ok (.iload_n 0, 1) := by decide +kernel
theorem dX9_in_1 : decode cX9_in 1 = .ok (.iload_n 1, 1) := by decide +kernel
theorem dX9_in_2 : decode cX9_in 2 = .ok (.if_icmp .lt 12, 3) := by decide +kernel
theorem dX9_in_5 : decode cX9_in 5 = .ok (.iload_n 0, 1) := by decide +kernel
theorem dX9_in_6 : decode cX9_in 6 = .ok (.iload_n 2, 1) := by decide +kernel
theorem dX9_in_7 : decode cX9_in 7 = .ok (.if_icmp .gt 7, 3) := by decide +kernel
theorem dX9_in_10 : decode cX9_in 10 = .ok (.iconst 1, 1) := by decide +kernel
theorem dX9_in_11 : decode cX9_in 11 = .ok (.goto 4, 3) := by decide +kernel
theorem dX9_in_14 : decode cX9_in 14 = .ok (.iconst 0, 1) := by decide +kernel
theorem dX9_in_15 : decode cX9_in 15 = .ok (.ireturn, 1) := by decide +kernel
theorem dX9_isRow_0 : decode cX9_isRow 0 = .ok (.iload_n 0, 1) := by decide +kernel
theorem dX9_isRow_1 : decode cX9_isRow 1 = .ok (.iconst 0, 1) := by decide +kernel
theorem dX9_isRow_2 : decode cX9_isRow 2 = .ok (.iconst 3, 1) := by decide +kernel
theorem dX9_isRow_3 : decode cX9_isRow 3 = .ok (.invokestatic 83, 3) := by decide +kernel
theorem dX9_isRow_6 : decode cX9_isRow 6 = .ok (.ireturn, 1) := by decide +kernel
theorem dX9_isGlass_0 : decode cX9_isGlass 0 = .ok (.iload_n 1, 1) := by decide +kernel
theorem dX9_isGlass_1 : decode cX9_isGlass 1 = .ok (.iconst 0, 1) := by decide +kernel
theorem dX9_isGlass_2 : decode cX9_isGlass 2 = .ok (.aload_n 0, 1) := by decide +kernel
theorem dX9_isGlass_3 : decode cX9_isGlass 3 = .ok (.getfield 87, 3) := by decide +kernel
theorem dX9_isGlass_6 : decode cX9_isGlass 6 = .ok (.iconst 1, 1) := by decide +kernel
theorem dX9_isGlass_7 : decode cX9_isGlass 7 = .ok (.isub, 1) := by decide +kernel
theorem dX9_isGlass_8 : decode cX9_isGlass 8 = .ok (.invokestatic 83, 3) := by decide +kernel
theorem dX9_isGlass_11 : decode cX9_isGlass 11 = .ok (.ireturn, 1) := by decide +kernel
theorem dX9_row_0 : decode cX9_row 0 = .ok (.iload_n 1, 1) := by decide +kernel
theorem dX9_row_1 : decode cX9_row 1 = .ok (.invokestatic 91, 3) := by decide +kernel
theorem dX9_row_4 : decode cX9_row 4 = .ok (.ifCond .eq 12, 3) := by decide +kernel
theorem dX9_row_7 : decode cX9_row 7 = .ok (.iload_n 2, 1) := by decide +kernel
theorem dX9_row_8 : decode cX9_row 8 = .ok (.iconst 0, 1) := by decide +kernel
theorem dX9_row_9 : decode cX9_row 9 = .ok (.iconst 2, 1) := by decide +kernel
theorem dX9_row_10 : decode cX9_row 10 = .ok (.invokestatic 83, 3) := by decide +kernel
theorem dX9_row_13 : decode cX9_row 13 = .ok (.ifCond .ne 5, 3) := by decide +kernel
theorem dX9_row_16 : decode cX9_row 16 = .ok (.iconst (-1), 1) := by decide +kernel
theorem dX9_row_17 : decode cX9_row 17 = .ok (.ireturn, 1) := by decide +kernel
theorem dX9_row_18 : decode cX9_row 18 = .ok (.iload_n 3, 1) := by decide +kernel
theorem dX9_row_19 : decode cX9_row 19 = .ok (.ifCond .ge 6, 3) := by decide +kernel
theorem dX9_row_22 : decode cX9_row 22 = .ok (.bipush (-4), 2) := by decide +kernel
theorem dX9_row_24 : decode cX9_row 24 = .ok (.ireturn, 1) := by decide +kernel
theorem dX9_row_25 : decode cX9_row 25 = .ok (.iload_n 3, 1) := by decide +kernel
theorem dX9_row_26 : decode cX9_row 26 = .ok (.bipush 20, 2) := by decide +kernel
theorem dX9_row_28 : decode cX9_row 28 = .ok (.if_icmp .le 5, 3) := by decide +kernel
theorem dX9_row_31 : decode cX9_row 31 = .ok (.iconst (-1), 1) := by decide +kernel
theorem dX9_row_32 : decode cX9_row 32 = .ok (.ireturn, 1) := by decide +kernel
theorem dX9_row_33 : decode cX9_row 33 = .ok (.aload_n 0, 1) := by decide +kernel
theorem dX9_row_34 : decode cX9_row 34 = .ok (.getfield 7, 3) := by decide +kernel
theorem dX9_row_37 : decode cX9_row 37 = .ok (.iload_n 1, 1) := by decide +kernel
theorem dX9_row_38 : decode cX9_row 38 = .ok (.iload_n 2, 1) := by decide +kernel
theorem dX9_row_39 : decode cX9_row 39 = .ok (.iastore, 1) := by decide +kernel
theorem dX9_row_40 : decode cX9_row 40 = .ok (.aload_n 0, 1) := by decide +kernel
theorem dX9_row_41 : decode cX9_row 41 = .ok (.getfield 13, 3) := by decide +kernel
theorem dX9_row_44 : decode cX9_row 44 = .ok (.iload_n 1, 1) := by decide +kernel
theorem dX9_row_45 : decode cX9_row 45 = .ok (.iload_n 3, 1) := by decide +kernel
theorem dX9_row_46 : decode cX9_row 46 = .ok (.iastore, 1) := by decide +kernel
theorem dX9_row_47 : decode cX9_row 47 = .ok (.iconst 0, 1) := by decide +kernel
theorem dX9_row_48 : decode cX9_row 48 = .ok (.istore 4, 2) := by decide +kernel
theorem dX9_row_50 : decode cX9_row 50 = .ok (.iload 4, 2) := by decide +kernel
theorem dX9_row_52 : decode cX9_row 52 = .ok (.iload_n 3, 1) := by decide +kernel
theorem dX9_row_53 : decode cX9_row 53 = .ok (.if_icmp .ge 22, 3) := by decide +kernel
theorem dX9_row_56 : decode cX9_row 56 = .ok (.aload_n 0, 1) := by decide +kernel
theorem dX9_row_57 : decode cX9_row 57 = .ok (.getfield 16, 3) := by decide +kernel
theorem dX9_row_60 : decode cX9_row 60 = .ok (.bipush 20, 2) := by decide +kernel
theorem dX9_row_62 : decode cX9_row 62 = .ok (.iload_n 1, 1) := by decide +kernel
theorem dX9_row_63 : decode cX9_row 63 = .ok (.imul, 1) := by decide +kernel
theorem dX9_row_64 : decode cX9_row 64 = .ok (.iload 4, 2) := by decide +kernel
theorem dX9_row_66 : decode cX9_row 66 = .ok (.iadd, 1) := by decide +kernel
theorem dX9_row_67 : decode cX9_row 67 = .ok (.iconst 1, 1) := by decide +kernel
theorem dX9_row_68 : decode cX9_row 68 = .ok (.iastore, 1) := by decide +kernel
theorem dX9_row_69 : decode cX9_row 69 = .ok (.iinc 4 1, 3) := by decide +kernel
theorem dX9_row_72 : decode cX9_row 72 = .ok (.goto (-22), 3) := by decide +kernel
theorem dX9_row_75 : decode cX9_row 75 = .ok (.iconst 1, 1) := by decide +kernel
theorem dX9_row_76 : decode cX9_row 76 = .ok (.ireturn, 1) := by decide +kernel
theorem dX9_cell_0 : decode cX9_cell 0 = .ok (.iload_n 1, 1) := by decide +kernel
theorem dX9_cell_1 : decode cX9_cell 1 = .ok (.invokestatic 91, 3) := by decide +kernel
theorem dX9_cell_4 : decode cX9_cell 4 = .ok (.ifCond .ne 5, 3) := by decide +kernel
theorem dX9_cell_7 : decode cX9_cell 7 = .ok (.iconst (-1), 1) := by decide +kernel
theorem dX9_cell_8 : decode cX9_cell 8 = .ok (.ireturn, 1) := by decide +kernel
theorem dX9_cell_9 : decode cX9_cell 9 = .ok (.aload_n 0, 1) := by decide +kernel
theorem dX9_cell_10 : decode cX9_cell 10 = .ok (.getfield 13, 3) := by decide +kernel
theorem dX9_cell_13 : decode cX9_cell 13 = .ok (.iload_n 1, 1) := by decide +kernel
theorem dX9_cell_14 : decode cX9_cell 14 = .ok (.iaload, 1) := by decide +kernel
theorem dX9_cell_15 : decode cX9_cell 15 = .ok (.ifCond .ge 6, 3) := by decide +kernel
theorem dX9_cell_18 : decode cX9_cell 18 = .ok (.bipush (-3), 2) := by decide +kernel
theorem dX9_cell_20 : decode cX9_cell 20 = .ok (.ireturn, 1) := by decide +kernel
theorem dX9_cell_21 : decode cX9_cell 21 = .ok (.iload_n 2, 1) := by decide +kernel
theorem dX9_cell_22 : decode cX9_cell 22 = .ok (.iconst 0, 1) := by decide +kernel
theorem dX9_cell_23 : decode cX9_cell 23 = .ok (.aload_n 0, 1) := by decide +kernel
theorem dX9_cell_24 : decode cX9_cell 24 = .ok (.getfield 13, 3) := by decide +kernel
theorem dX9_cell_27 : decode cX9_cell 27 = .ok (.iload_n 1, 1) := by decide +kernel
theorem dX9_cell_28 : decode cX9_cell 28 = .ok (.iaload, 1) := by decide +kernel
theorem dX9_cell_29 : decode cX9_cell 29 = .ok (.iconst 1, 1) := by decide +kernel
theorem dX9_cell_30 : decode cX9_cell 30 = .ok (.isub, 1) := by decide +kernel
theorem dX9_cell_31 : decode cX9_cell 31 = .ok (.invokestatic 83, 3) := by decide +kernel
theorem dX9_cell_34 : decode cX9_cell 34 = .ok (.ifCond .ne 5, 3) := by decide +kernel
theorem dX9_cell_37 : decode cX9_cell 37 = .ok (.iconst (-1), 1) := by decide +kernel
theorem dX9_cell_38 : decode cX9_cell 38 = .ok (.ireturn, 1) := by decide +kernel
theorem dX9_cell_39 : decode cX9_cell 39 = .ok (.aload_n 0, 1) := by decide +kernel
theorem dX9_cell_40 : decode cX9_cell 40 = .ok (.getfield 16, 3) := by decide +kernel
theorem dX9_cell_43 : decode cX9_cell 43 = .ok (.bipush 20, 2) := by decide +kernel
theorem dX9_cell_45 : decode cX9_cell 45 = .ok (.iload_n 1, 1) := by decide +kernel
theorem dX9_cell_46 : decode cX9_cell 46 = .ok (.imul, 1) := by decide +kernel
theorem dX9_cell_47 : decode cX9_cell 47 = .ok (.iload_n 2, 1) := by decide +kernel
theorem dX9_cell_48 : decode cX9_cell 48 = .ok (.iadd, 1) := by decide +kernel
theorem dX9_cell_49 : decode cX9_cell 49 = .ok (.aload_n 0, 1) := by decide +kernel
theorem dX9_cell_50 : decode cX9_cell 50 = .ok (.getfield 7, 3) := by decide +kernel
theorem dX9_cell_53 : decode cX9_cell 53 = .ok (.iload_n 1, 1) := by decide +kernel
theorem dX9_cell_54 : decode cX9_cell 54 = .ok (.iaload, 1) := by decide +kernel
theorem dX9_cell_55 : decode cX9_cell 55 = .ok (.ifCond .ne 8, 3) := by decide +kernel
theorem dX9_cell_58 : decode cX9_cell 58 = .ok (.iload_n 3, 1) := by decide +kernel
theorem dX9_cell_59 : decode cX9_cell 59 = .ok (.i2b, 1) := by decide +kernel
theorem dX9_cell_60 : decode cX9_cell 60 = .ok (.goto 19, 3) := by decide +kernel
theorem dX9_cell_63 : decode cX9_cell 63 = .ok (.aload_n 0, 1) := by decide +kernel
theorem dX9_cell_64 : decode cX9_cell 64 = .ok (.getfield 7, 3) := by decide +kernel
theorem dX9_cell_67 : decode cX9_cell 67 = .ok (.iload_n 1, 1) := by decide +kernel
theorem dX9_cell_68 : decode cX9_cell 68 = .ok (.iaload, 1) := by decide +kernel
theorem dX9_cell_69 : decode cX9_cell 69 = .ok (.iconst 1, 1) := by decide +kernel
theorem dX9_cell_70 : decode cX9_cell 70 = .ok (.if_icmp .ne 8, 3) := by decide +kernel
theorem dX9_cell_73 : decode cX9_cell 73 = .ok (.iload_n 3, 1) := by decide +kernel
theorem dX9_cell_74 : decode cX9_cell 74 = .ok (.i2s, 1) := by decide +kernel
theorem dX9_cell_75 : decode cX9_cell 75 = .ok (.goto 4, 3) := by decide +kernel
theorem dX9_cell_78 : decode cX9_cell 78 = .ok (.iload_n 3, 1) := by decide +kernel
theorem dX9_cell_79 : decode cX9_cell 79 = .ok (.iastore, 1) := by decide +kernel
theorem dX9_cell_80 : decode cX9_cell 80 = .ok (.iconst 1, 1) := by decide +kernel
theorem dX9_cell_81 : decode cX9_cell 81 = .ok (.ireturn, 1) := by decide +kernel
theorem dX9_told_0 : decode cX9_told 0 = .ok (.iload_n 1, 1) := by decide +kernel
theorem dX9_told_1 : decode cX9_told 1 = .ok (.invokestatic 91, 3) := by decide +kernel
theorem dX9_told_4 : decode cX9_told 4 = .ok (.ifCond .eq 33, 3) := by decide +kernel
theorem dX9_told_7 : decode cX9_told 7 = .ok (.iload_n 2, 1) := by decide +kernel
theorem dX9_told_8 : decode cX9_told 8 = .ok (.iconst 0, 1) := by decide +kernel
theorem dX9_told_9 : decode cX9_told 9 = .ok (.aload_n 0, 1) := by decide +kernel
theorem dX9_told_10 : decode cX9_told 10 = .ok (.getfield 13, 3) := by decide +kernel
theorem dX9_told_13 : decode cX9_told 13 = .ok (.iload_n 1, 1) := by decide +kernel
theorem dX9_told_14 : decode cX9_told 14 = .ok (.iaload, 1) := by decide +kernel
theorem dX9_told_15 : decode cX9_told 15 = .ok (.iconst 1, 1) := by decide +kernel
theorem dX9_told_16 : decode cX9_told 16 = .ok (.isub, 1) := by decide +kernel
theorem dX9_told_17 : decode cX9_told 17 = .ok (.invokestatic 83, 3) := by decide +kernel
theorem dX9_told_20 : decode cX9_told 20 = .ok (.ifCond .eq 17, 3) := by decide +kernel
theorem dX9_told_23 : decode cX9_told 23 = .ok (.aload_n 0, 1) := by decide +kernel
theorem dX9_told_24 : decode cX9_told 24 = .ok (.getfield 16, 3) := by decide +kernel
theorem dX9_told_27 : decode cX9_told 27 = .ok (.bipush 20, 2) := by decide +kernel
theorem dX9_told_29 : decode cX9_told 29 = .ok (.iload_n 1, 1) := by decide +kernel
theorem dX9_told_30 : decode cX9_told 30 = .ok (.imul, 1) := by decide +kernel
theorem dX9_told_31 : decode cX9_told 31 = .ok (.iload_n 2, 1) := by decide +kernel
theorem dX9_told_32 : decode cX9_told 32 = .ok (.iadd, 1) := by decide +kernel
theorem dX9_told_33 : decode cX9_told 33 = .ok (.iaload, 1) := by decide +kernel
theorem dX9_told_34 : decode cX9_told 34 = .ok (.goto 5, 3) := by decide +kernel
theorem dX9_told_37 : decode cX9_told 37 = .ok (.ldc 97, 2) := by decide +kernel
theorem dX9_told_39 : decode cX9_told 39 = .ok (.ireturn, 1) := by decide +kernel
theorem dX9_lose_0 : decode cX9_lose 0 = .ok (.iload_n 1, 1) := by decide +kernel
theorem dX9_lose_1 : decode cX9_lose 1 = .ok (.invokestatic 91, 3) := by decide +kernel
theorem dX9_lose_4 : decode cX9_lose 4 = .ok (.ifCond .ne 5, 3) := by decide +kernel
theorem dX9_lose_7 : decode cX9_lose 7 = .ok (.iconst (-1), 1) := by decide +kernel
theorem dX9_lose_8 : decode cX9_lose 8 = .ok (.ireturn, 1) := by decide +kernel
theorem dX9_lose_9 : decode cX9_lose 9 = .ok (.aload_n 0, 1) := by decide +kernel
theorem dX9_lose_10 : decode cX9_lose 10 = .ok (.getfield 13, 3) := by decide +kernel
theorem dX9_lose_13 : decode cX9_lose 13 = .ok (.iload_n 1, 1) := by decide +kernel
theorem dX9_lose_14 : decode cX9_lose 14 = .ok (.iaload, 1) := by decide +kernel
theorem dX9_lose_15 : decode cX9_lose 15 = .ok (.ifCond .ge 6, 3) := by decide +kernel
theorem dX9_lose_18 : decode cX9_lose 18 = .ok (.bipush (-3), 2) := by decide +kernel
theorem dX9_lose_20 : decode cX9_lose 20 = .ok (.ireturn, 1) := by decide +kernel
theorem dX9_lose_21 : decode cX9_lose 21 = .ok (.aload_n 0, 1) := by decide +kernel
theorem dX9_lose_22 : decode cX9_lose 22 = .ok (.getfield 13, 3) := by decide +kernel
theorem dX9_lose_25 : decode cX9_lose 25 = .ok (.iload_n 1, 1) := by decide +kernel
theorem dX9_lose_26 : decode cX9_lose 26 = .ok (.iconst (-1), 1) := by decide +kernel
theorem dX9_lose_27 : decode cX9_lose 27 = .ok (.iastore, 1) := by decide +kernel
theorem dX9_lose_28 : decode cX9_lose 28 = .ok (.iconst 1, 1) := by decide +kernel
theorem dX9_lose_29 : decode cX9_lose 29 = .ok (.ireturn, 1) := by decide +kernel
theorem dX9_isGrains_0 : decode cX9_isGrains 0 = .ok (.iload_n 2, 1) := by decide +kernel
theorem dX9_isGrains_1 : decode cX9_isGrains 1 = .ok (.iconst 0, 1) := by decide +kernel
theorem dX9_isGrains_2 : decode cX9_isGrains 2 = .ok (.aload_n 0, 1) := by decide +kernel
theorem dX9_isGrains_3 : decode cX9_isGrains 3 = .ok (.getfield 13, 3) := by decide +kernel
theorem dX9_isGrains_6 : decode cX9_isGrains 6 = .ok (.iload_n 1, 1) := by decide +kernel
theorem dX9_isGrains_7 : decode cX9_isGrains 7 = .ok (.iaload, 1) := by decide +kernel
theorem dX9_isGrains_8 : decode cX9_isGrains 8 = .ok (.iconst 1, 1) := by decide +kernel
theorem dX9_isGrains_9 : decode cX9_isGrains 9 = .ok (.isub, 1) := by decide +kernel
theorem dX9_isGrains_10 : decode cX9_isGrains 10 = .ok (.invokestatic 83, 3) := by decide +kernel
theorem dX9_isGrains_13 : decode cX9_isGrains 13 = .ok (.ifCond .eq 27, 3) := by decide +kernel
theorem dX9_isGrains_16 : decode cX9_isGrains 16 = .ok (.aload_n 0, 1) := by decide +kernel
theorem dX9_isGrains_17 : decode cX9_isGrains 17 = .ok (.getfield 16, 3) := by decide +kernel
theorem dX9_isGrains_20 : decode cX9_isGrains 20 = .ok (.bipush 20, 2) := by decide +kernel
theorem dX9_isGrains_22 : decode cX9_isGrains 22 = .ok (.iload_n 1, 1) := by decide +kernel
theorem dX9_isGrains_23 : decode cX9_isGrains 23 = .ok (.imul, 1) := by decide +kernel
theorem dX9_isGrains_24 : decode cX9_isGrains 24 = .ok (.iload_n 2, 1) := by decide +kernel
theorem dX9_isGrains_25 : decode cX9_isGrains 25 = .ok (.iadd, 1) := by decide +kernel
theorem dX9_isGrains_26 : decode cX9_isGrains 26 = .ok (.iaload, 1) := by decide +kernel
theorem dX9_isGrains_27 : decode cX9_isGrains 27 = .ok (.iconst 1, 1) := by decide +kernel
theorem dX9_isGrains_28 : decode cX9_isGrains 28 = .ok (.bipush 30, 2) := by decide +kernel
theorem dX9_isGrains_30 : decode cX9_isGrains 30 = .ok (.invokestatic 83, 3) := by decide +kernel
theorem dX9_isGrains_33 : decode cX9_isGrains 33 = .ok (.ifCond .eq 7, 3) := by decide +kernel
theorem dX9_isGrains_36 : decode cX9_isGrains 36 = .ok (.iconst 1, 1) := by decide +kernel
theorem dX9_isGrains_37 : decode cX9_isGrains 37 = .ok (.goto 4, 3) := by decide +kernel
theorem dX9_isGrains_40 : decode cX9_isGrains 40 = .ok (.iconst 0, 1) := by decide +kernel
theorem dX9_isGrains_41 : decode cX9_isGrains 41 = .ok (.ireturn, 1) := by decide +kernel
theorem dX9_glass_0 : decode cX9_glass 0 = .ok (.iload_n 2, 1) := by decide +kernel
theorem dX9_glass_1 : decode cX9_glass 1 = .ok (.invokestatic 91, 3) := by decide +kernel
theorem dX9_glass_4 : decode cX9_glass 4 = .ok (.ifCond .eq 12, 3) := by decide +kernel
theorem dX9_glass_7 : decode cX9_glass 7 = .ok (.iload_n 1, 1) := by decide +kernel
theorem dX9_glass_8 : decode cX9_glass 8 = .ok (.iconst 0, 1) := by decide +kernel
theorem dX9_glass_9 : decode cX9_glass 9 = .ok (.iconst 4, 1) := by decide +kernel
theorem dX9_glass_10 : decode cX9_glass 10 = .ok (.invokestatic 83, 3) := by decide +kernel
theorem dX9_glass_13 : decode cX9_glass 13 = .ok (.ifCond .ne 5, 3) := by decide +kernel
theorem dX9_glass_16 : decode cX9_glass 16 = .ok (.iconst (-1), 1) := by decide +kernel
theorem dX9_glass_17 : decode cX9_glass 17 = .ok (.ireturn, 1) := by decide +kernel
theorem dX9_glass_18 : decode cX9_glass 18 = .ok (.aload_n 0, 1) := by decide +kernel
theorem dX9_glass_19 : decode cX9_glass 19 = .ok (.getfield 13, 3) := by decide +kernel
theorem dX9_glass_22 : decode cX9_glass 22 = .ok (.iload_n 2, 1) := by decide +kernel
theorem dX9_glass_23 : decode cX9_glass 23 = .ok (.iaload, 1) := by decide +kernel
theorem dX9_glass_24 : decode cX9_glass 24 = .ok (.ifCond .ge 6, 3) := by decide +kernel
theorem dX9_glass_27 : decode cX9_glass 27 = .ok (.bipush (-3), 2) := by decide +kernel
theorem dX9_glass_29 : decode cX9_glass 29 = .ok (.ireturn, 1) := by decide +kernel
theorem dX9_glass_30 : decode cX9_glass 30 = .ok (.aload_n 0, 1) := by decide +kernel
theorem dX9_glass_31 : decode cX9_glass 31 = .ok (.iload_n 2, 1) := by decide +kernel
theorem dX9_glass_32 : decode cX9_glass 32 = .ok (.iload_n 3, 1) := by decide +kernel
theorem dX9_glass_33 : decode cX9_glass 33 = .ok (.invokevirtual 98, 3) := by decide +kernel
theorem dX9_glass_36 : decode cX9_glass 36 = .ok (.ifCond .eq 33, 3) := by decide +kernel
theorem dX9_glass_39 : decode cX9_glass 39 = .ok (.iload_n 1, 1) := by decide +kernel
theorem dX9_glass_40 : decode cX9_glass 40 = .ok (.iconst 1, 1) := by decide +kernel
theorem dX9_glass_41 : decode cX9_glass 41 = .ok (.if_icmp .ne 12, 3) := by decide +kernel
theorem dX9_glass_44 : decode cX9_glass 44 = .ok (.aload_n 0, 1) := by decide +kernel
theorem dX9_glass_45 : decode cX9_glass 45 = .ok (.iload 4, 2) := by decide +kernel
theorem dX9_glass_47 : decode cX9_glass 47 = .ok (.invokevirtual 102, 3) := by decide +kernel
theorem dX9_glass_50 : decode cX9_glass 50 = .ok (.ifCond .eq 19, 3) := by decide +kernel
theorem dX9_glass_53 : decode cX9_glass 53 = .ok (.iload_n 1, 1) := by decide +kernel
theorem dX9_glass_54 : decode cX9_glass 54 = .ok (.iconst 4, 1) := by decide +kernel
theorem dX9_glass_55 : decode cX9_glass 55 = .ok (.if_icmp .ne 16, 3) := by decide +kernel
theorem dX9_glass_58 : decode cX9_glass 58 = .ok (.iload 4, 2) := by decide +kernel
theorem dX9_glass_60 : decode cX9_glass 60 = .ok (.iconst 1, 1) := by decide +kernel
theorem dX9_glass_61 : decode cX9_glass 61 = .ok (.bipush 9, 2) := by decide +kernel
theorem dX9_glass_63 : decode cX9_glass 63 = .ok (.invokestatic 83, 3) := by decide +kernel
theorem dX9_glass_66 : decode cX9_glass 66 = .ok (.ifCond .ne 5, 3) := by decide +kernel
theorem dX9_glass_69 : decode cX9_glass 69 = .ok (.iconst (-1), 1) := by decide +kernel
theorem dX9_glass_70 : decode cX9_glass 70 = .ok (.ireturn, 1) := by decide +kernel
theorem dX9_glass_71 : decode cX9_glass 71 = .ok (.aload_n 0, 1) := by decide +kernel
theorem dX9_glass_72 : decode cX9_glass 72 = .ok (.getfield 87, 3) := by decide +kernel
theorem dX9_glass_75 : decode cX9_glass 75 = .ok (.iconst 4, 1) := by decide +kernel
theorem dX9_glass_76 : decode cX9_glass 76 = .ok (.if_icmp .ne 6, 3) := by decide +kernel
theorem dX9_glass_79 : decode cX9_glass 79 = .ok (.bipush (-2), 2) := by decide +kernel
theorem dX9_glass_81 : decode cX9_glass 81 = .ok (.ireturn, 1) := by decide +kernel
theorem dX9_glass_82 : decode cX9_glass 82 = .ok (.aload_n 0, 1) := by decide +kernel
theorem dX9_glass_83 : decode cX9_glass 83 = .ok (.getfield 19, 3) := by decide +kernel
theorem dX9_glass_86 : decode cX9_glass 86 = .ok (.aload_n 0, 1) := by decide +kernel
theorem dX9_glass_87 : decode cX9_glass 87 = .ok (.getfield 87, 3) := by decide +kernel
theorem dX9_glass_90 : decode cX9_glass 90 = .ok (.iload_n 1, 1) := by decide +kernel
theorem dX9_glass_91 : decode cX9_glass 91 = .ok (.iastore, 1) := by decide +kernel
theorem dX9_glass_92 : decode cX9_glass 92 = .ok (.aload_n 0, 1) := by decide +kernel
theorem dX9_glass_93 : decode cX9_glass 93 = .ok (.getfield 22, 3) := by decide +kernel
theorem dX9_glass_96 : decode cX9_glass 96 = .ok (.aload_n 0, 1) := by decide +kernel
theorem dX9_glass_97 : decode cX9_glass 97 = .ok (.getfield 87, 3) := by decide +kernel
theorem dX9_glass_100 : decode cX9_glass 100 = .ok (.aload_n 0, 1) := by decide +kernel
theorem dX9_glass_101 : decode cX9_glass 101 = .ok (.getfield 16, 3) := by decide +kernel
theorem dX9_glass_104 : decode cX9_glass 104 = .ok (.bipush 20, 2) := by decide +kernel
theorem dX9_glass_106 : decode cX9_glass 106 = .ok (.iload_n 2, 1) := by decide +kernel
theorem dX9_glass_107 : decode cX9_glass 107 = .ok (.imul, 1) := by decide +kernel
theorem dX9_glass_108 : decode cX9_glass 108 = .ok (.iload_n 3, 1) := by decide +kernel
theorem dX9_glass_109 : decode cX9_glass 109 = .ok (.iadd, 1) := by decide +kernel
theorem dX9_glass_110 : decode cX9_glass 110 = .ok (.iaload, 1) := by decide +kernel
theorem dX9_glass_111 : decode cX9_glass 111 = .ok (.iastore, 1) := by decide +kernel
theorem dX9_glass_112 : decode cX9_glass 112 = .ok (.aload_n 0, 1) := by decide +kernel
theorem dX9_glass_113 : decode cX9_glass 113 = .ok (.getfield 25, 3) := by decide +kernel
theorem dX9_glass_116 : decode cX9_glass 116 = .ok (.aload_n 0, 1) := by decide +kernel
theorem dX9_glass_117 : decode cX9_glass 117 = .ok (.getfield 87, 3) := by decide +kernel
theorem dX9_glass_120 : decode cX9_glass 120 = .ok (.iload_n 1, 1) := by decide +kernel
theorem dX9_glass_121 : decode cX9_glass 121 = .ok (.iconst 1, 1) := by decide +kernel
theorem dX9_glass_122 : decode cX9_glass 122 = .ok (.if_icmp .eq 8, 3) := by decide +kernel
theorem dX9_glass_125 : decode cX9_glass 125 = .ok (.iload_n 1, 1) := by decide +kernel
theorem dX9_glass_126 : decode cX9_glass 126 = .ok (.iconst 4, 1) := by decide +kernel
theorem dX9_glass_127 : decode cX9_glass 127 = .ok (.if_icmp .ne 8, 3) := by decide +kernel
theorem dX9_glass_130 : decode cX9_glass 130 = .ok (.iload 4, 2) := by decide +kernel
theorem dX9_glass_132 : decode cX9_glass 132 = .ok (.goto 4, 3) := by decide +kernel
theorem dX9_glass_135 : decode cX9_glass 135 = .ok (.iconst (-1), 1) := by decide +kernel
theorem dX9_glass_136 : decode cX9_glass 136 = .ok (.iastore, 1) := by decide +kernel
theorem dX9_glass_137 : decode cX9_glass 137 = .ok (.aload_n 0, 1) := by decide +kernel
theorem dX9_glass_138 : decode cX9_glass 138 = .ok (.dup, 1) := by decide +kernel
theorem dX9_glass_139 : decode cX9_glass 139 = .ok (.getfield 87, 3) := by decide +kernel
theorem dX9_glass_142 : decode cX9_glass 142 = .ok (.iconst 1, 1) := by decide +kernel
theorem dX9_glass_143 : decode cX9_glass 143 = .ok (.iadd, 1) := by decide +kernel
theorem dX9_glass_144 : decode cX9_glass 144 = .ok (.putfield 87, 3) := by decide +kernel
theorem dX9_glass_147 : decode cX9_glass 147 = .ok (.aload_n 0, 1) := by decide +kernel
theorem dX9_glass_148 : decode cX9_glass 148 = .ok (.iconst 0, 1) := by decide +kernel
theorem dX9_glass_149 : decode cX9_glass 149 = .ok (.putfield 105, 3) := by decide +kernel
theorem dX9_glass_152 : decode cX9_glass 152 = .ok (.aload_n 0, 1) := by decide +kernel
theorem dX9_glass_153 : decode cX9_glass 153 = .ok (.invokevirtual 80, 3) := by decide +kernel
theorem dX9_glass_156 : decode cX9_glass 156 = .ok (.aload_n 0, 1) := by decide +kernel
theorem dX9_glass_157 : decode cX9_glass 157 = .ok (.getfield 87, 3) := by decide +kernel
theorem dX9_glass_160 : decode cX9_glass 160 = .ok (.iconst 1, 1) := by decide +kernel
theorem dX9_glass_161 : decode cX9_glass 161 = .ok (.isub, 1) := by decide +kernel
theorem dX9_glass_162 : decode cX9_glass 162 = .ok (.ireturn, 1) := by decide +kernel
theorem dX9_fill_0 : decode cX9_fill 0 = .ok (.aload_n 0, 1) := by decide +kernel
theorem dX9_fill_1 : decode cX9_fill 1 = .ok (.iload_n 1, 1) := by decide +kernel
theorem dX9_fill_2 : decode cX9_fill 2 = .ok (.invokevirtual 102, 3) := by decide +kernel
theorem dX9_fill_5 : decode cX9_fill 5 = .ok (.ifCond .eq 10, 3) := by decide +kernel
theorem dX9_fill_8 : decode cX9_fill 8 = .ok (.iload_n 2, 1) := by decide +kernel
theorem dX9_fill_9 : decode cX9_fill 9 = .ok (.invokestatic 91, 3) := by decide +kernel
theorem dX9_fill_12 : decode cX9_fill 12 = .ok (.ifCond .ne 5, 3) := by decide +kernel
theorem dX9_fill_15 : decode cX9_fill 15 = .ok (.iconst (-1), 1) := by decide +kernel
theorem dX9_fill_16 : decode cX9_fill 16 = .ok (.ireturn, 1) := by decide +kernel
theorem dX9_fill_17 : decode cX9_fill 17 = .ok (.aload_n 0, 1) := by decide +kernel
theorem dX9_fill_18 : decode cX9_fill 18 = .ok (.getfield 13, 3) := by decide +kernel
theorem dX9_fill_21 : decode cX9_fill 21 = .ok (.iload_n 2, 1) := by decide +kernel
theorem dX9_fill_22 : decode cX9_fill 22 = .ok (.iaload, 1) := by decide +kernel
theorem dX9_fill_23 : decode cX9_fill 23 = .ok (.ifCond .ge 6, 3) := by decide +kernel
theorem dX9_fill_26 : decode cX9_fill 26 = .ok (.bipush (-3), 2) := by decide +kernel
theorem dX9_fill_28 : decode cX9_fill 28 = .ok (.ireturn, 1) := by decide +kernel
theorem dX9_fill_29 : decode cX9_fill 29 = .ok (.aload_n 0, 1) := by decide +kernel
theorem dX9_fill_30 : decode cX9_fill 30 = .ok (.iload_n 2, 1) := by decide +kernel
theorem dX9_fill_31 : decode cX9_fill 31 = .ok (.iload_n 3, 1) := by decide +kernel
theorem dX9_fill_32 : decode cX9_fill 32 = .ok (.invokevirtual 98, 3) := by decide +kernel
theorem dX9_fill_35 : decode cX9_fill 35 = .ok (.ifCond .ne 5, 3) := by decide +kernel
theorem dX9_fill_38 : decode cX9_fill 38 = .ok (.iconst (-1), 1) := by decide +kernel
theorem dX9_fill_39 : decode cX9_fill 39 = .ok (.ireturn, 1) := by decide +kernel
theorem dX9_fill_40 : decode cX9_fill 40 = .ok (.aload_n 0, 1) := by decide +kernel
theorem dX9_fill_41 : decode cX9_fill 41 = .ok (.getfield 22, 3) := by decide +kernel
theorem dX9_fill_44 : decode cX9_fill 44 = .ok (.iload_n 1, 1) := by decide +kernel
theorem dX9_fill_45 : decode cX9_fill 45 = .ok (.aload_n 0, 1) := by decide +kernel
theorem dX9_fill_46 : decode cX9_fill 46 = .ok (.getfield 16, 3) := by decide +kernel
theorem dX9_fill_49 : decode cX9_fill 49 = .ok (.bipush 20, 2) := by decide +kernel
theorem dX9_fill_51 : decode cX9_fill 51 = .ok (.iload_n 2, 1) := by decide +kernel
theorem dX9_fill_52 : decode cX9_fill 52 = .ok (.imul, 1) := by decide +kernel
theorem dX9_fill_53 : decode cX9_fill 53 = .ok (.iload_n 3, 1) := by decide +kernel
theorem dX9_fill_54 : decode cX9_fill 54 = .ok (.iadd, 1) := by decide +kernel
theorem dX9_fill_55 : decode cX9_fill 55 = .ok (.iaload, 1) := by decide +kernel
theorem dX9_fill_56 : decode cX9_fill 56 = .ok (.iastore, 1) := by decide +kernel
theorem dX9_fill_57 : decode cX9_fill 57 = .ok (.aload_n 0, 1) := by decide +kernel
theorem dX9_fill_58 : decode cX9_fill 58 = .ok (.iconst 0, 1) := by decide +kernel
theorem dX9_fill_59 : decode cX9_fill 59 = .ok (.putfield 105, 3) := by decide +kernel
theorem dX9_fill_62 : decode cX9_fill 62 = .ok (.aload_n 0, 1) := by decide +kernel
theorem dX9_fill_63 : decode cX9_fill 63 = .ok (.invokevirtual 80, 3) := by decide +kernel
theorem dX9_fill_66 : decode cX9_fill 66 = .ok (.iconst 1, 1) := by decide +kernel
theorem dX9_fill_67 : decode cX9_fill 67 = .ok (.ireturn, 1) := by decide +kernel
theorem dX9_clear_0 : decode cX9_clear 0 = .ok (.aload_n 0, 1) := by decide +kernel
theorem dX9_clear_1 : decode cX9_clear 1 = .ok (.getfield 87, 3) := by decide +kernel
theorem dX9_clear_4 : decode cX9_clear 4 = .ok (.istore_n 1, 1) := by decide +kernel
theorem dX9_clear_5 : decode cX9_clear 5 = .ok (.aload_n 0, 1) := by decide +kernel
theorem dX9_clear_6 : decode cX9_clear 6 = .ok (.iconst 0, 1) := by decide +kernel
theorem dX9_clear_7 : decode cX9_clear 7 = .ok (.putfield 87, 3) := by decide +kernel
theorem dX9_clear_10 : decode cX9_clear 10 = .ok (.aload_n 0, 1) := by decide +kernel
theorem dX9_clear_11 : decode cX9_clear 11 = .ok (.iconst 0, 1) := by decide +kernel
theorem dX9_clear_12 : decode cX9_clear 12 = .ok (.putfield 105, 3) := by decide +kernel
theorem dX9_clear_15 : decode cX9_clear 15 = .ok (.aload_n 0, 1) := by decide +kernel
theorem dX9_clear_16 : decode cX9_clear 16 = .ok (.invokevirtual 80, 3) := by decide +kernel
theorem dX9_clear_19 : decode cX9_clear 19 = .ok (.iload_n 1, 1) := by decide +kernel
theorem dX9_clear_20 : decode cX9_clear 20 = .ok (.ireturn, 1) := by decide +kernel
theorem dX9_of_0 : decode cX9_of 0 = .ok (.aload_n 0, 1) := by decide +kernel
theorem dX9_of_1 : decode cX9_of 1 = .ok (.iload_n 1, 1) := by decide +kernel
theorem dX9_of_2 : decode cX9_of 2 = .ok (.invokevirtual 102, 3) := by decide +kernel
theorem dX9_of_5 : decode cX9_of 5 = .ok (.ifCond .ne 5, 3) := by decide +kernel
theorem dX9_of_8 : decode cX9_of 8 = .ok (.iconst (-1), 1) := by decide +kernel
theorem dX9_of_9 : decode cX9_of 9 = .ok (.ireturn, 1) := by decide +kernel
theorem dX9_of_10 : decode cX9_of 10 = .ok (.iload_n 2, 1) := by decide +kernel
theorem dX9_of_11 : decode cX9_of 11 = .ok (.tableswitch 85 0 5 #[37, 44, 51, 58, 67, 76], 37) := by decide +kernel
theorem dX9_of_48 : decode cX9_of 48 = .ok (.aload_n 0, 1) := by decide +kernel
theorem dX9_of_49 : decode cX9_of 49 = .ok (.getfield 19, 3) := by decide +kernel
theorem dX9_of_52 : decode cX9_of 52 = .ok (.iload_n 1, 1) := by decide +kernel
theorem dX9_of_53 : decode cX9_of 53 = .ok (.iaload, 1) := by decide +kernel
theorem dX9_of_54 : decode cX9_of 54 = .ok (.ireturn, 1) := by decide +kernel
theorem dX9_of_55 : decode cX9_of 55 = .ok (.aload_n 0, 1) := by decide +kernel
theorem dX9_of_56 : decode cX9_of 56 = .ok (.getfield 22, 3) := by decide +kernel
theorem dX9_of_59 : decode cX9_of 59 = .ok (.iload_n 1, 1) := by decide +kernel
theorem dX9_of_60 : decode cX9_of 60 = .ok (.iaload, 1) := by decide +kernel
theorem dX9_of_61 : decode cX9_of 61 = .ok (.ireturn, 1) := by decide +kernel
theorem dX9_of_62 : decode cX9_of 62 = .ok (.aload_n 0, 1) := by decide +kernel
theorem dX9_of_63 : decode cX9_of 63 = .ok (.getfield 25, 3) := by decide +kernel
theorem dX9_of_66 : decode cX9_of 66 = .ok (.iload_n 1, 1) := by decide +kernel
theorem dX9_of_67 : decode cX9_of 67 = .ok (.iaload, 1) := by decide +kernel
theorem dX9_of_68 : decode cX9_of 68 = .ok (.ireturn, 1) := by decide +kernel
theorem dX9_of_69 : decode cX9_of 69 = .ok (.aload_n 0, 1) := by decide +kernel
theorem dX9_of_70 : decode cX9_of 70 = .ok (.getfield 109, 3) := by decide +kernel
theorem dX9_of_73 : decode cX9_of 73 = .ok (.iload_n 1, 1) := by decide +kernel
theorem dX9_of_74 : decode cX9_of 74 = .ok (.invokestatic 113, 3) := by decide +kernel
theorem dX9_of_77 : decode cX9_of 77 = .ok (.ireturn, 1) := by decide +kernel
theorem dX9_of_78 : decode cX9_of 78 = .ok (.aload_n 0, 1) := by decide +kernel
theorem dX9_of_79 : decode cX9_of 79 = .ok (.getfield 109, 3) := by decide +kernel
theorem dX9_of_82 : decode cX9_of 82 = .ok (.iload_n 1, 1) := by decide +kernel
theorem dX9_of_83 : decode cX9_of 83 = .ok (.invokestatic 117, 3) := by decide +kernel
theorem dX9_of_86 : decode cX9_of 86 = .ok (.ireturn, 1) := by decide +kernel
theorem dX9_of_87 : decode cX9_of 87 = .ok (.aload_n 0, 1) := by decide +kernel
theorem dX9_of_88 : decode cX9_of 88 = .ok (.getfield 109, 3) := by decide +kernel
theorem dX9_of_91 : decode cX9_of 91 = .ok (.iload_n 1, 1) := by decide +kernel
theorem dX9_of_92 : decode cX9_of 92 = .ok (.invokestatic 120, 3) := by decide +kernel
theorem dX9_of_95 : decode cX9_of 95 = .ok (.ireturn, 1) := by decide +kernel
theorem dX9_of_96 : decode cX9_of 96 = .ok (.iconst (-1), 1) := by decide +kernel
theorem dX9_of_97 : decode cX9_of 97 = .ok (.ireturn, 1) := by decide +kernel
theorem dX9_glasses_0 : decode cX9_glasses 0 = .ok (.aload_n 0, 1) := by decide +kernel
theorem dX9_glasses_1 : decode cX9_glasses 1 = .ok (.getfield 87, 3) := by decide +kernel
theorem dX9_glasses_4 : decode cX9_glasses 4 = .ok (.ireturn, 1) := by decide +kernel
theorem dX9_part_0 : decode cX9_part 0 = .ok (.lconst 1, 1) := by decide +kernel
theorem dX9_part_1 : decode cX9_part 1 = .ok (.lstore_n 1, 1) := by decide +kernel
theorem dX9_part_2 : decode cX9_part 2 = .ok (.iload_n 0, 1) := by decide +kernel
theorem dX9_part_3 : decode cX9_part 3 = .ok (.istore_n 3, 1) := by decide +kernel
theorem dX9_part_4 : decode cX9_part 4 = .ok (.iload_n 3, 1) := by decide +kernel
theorem dX9_part_5 : decode cX9_part 5 = .ok (.iconst 3, 1) := by decide +kernel
theorem dX9_part_6 : decode cX9_part 6 = .ok (.if_icmp .ge 15, 3) := by decide +kernel
theorem dX9_part_9 : decode cX9_part 9 = .ok (.lload_n 1, 1) := by decide +kernel
theorem dX9_part_10 : decode cX9_part 10 = .ok (.ldc2_w 123, 3) := by decide +kernel
theorem dX9_part_13 : decode cX9_part 13 = .ok (.lmul, 1) := by decide +kernel
theorem dX9_part_14 : decode cX9_part 14 = .ok (.lstore_n 1, 1) := by decide +kernel
theorem dX9_part_15 : decode cX9_part 15 = .ok (.iinc 3 1, 3) := by decide +kernel
theorem dX9_part_18 : decode cX9_part 18 = .ok (.goto (-14), 3) := by decide +kernel
theorem dX9_part_21 : decode cX9_part 21 = .ok (.lload_n 1, 1) := by decide +kernel
theorem dX9_part_22 : decode cX9_part 22 = .ok (.lreturn, 1) := by decide +kernel
theorem dX9_partOf_0 : decode cX9_partOf 0 = .ok (.lload_n 0, 1) := by decide +kernel
theorem dX9_partOf_1 : decode cX9_partOf 1 = .ok (.iload_n 2, 1) := by decide +kernel
theorem dX9_partOf_2 : decode cX9_partOf 2 = .ok (.invokestatic 125, 3) := by decide +kernel
theorem dX9_partOf_5 : decode cX9_partOf 5 = .ok (.ldiv, 1) := by decide +kernel
theorem dX9_partOf_6 : decode cX9_partOf 6 = .ok (.ldc2_w 123, 3) := by decide +kernel
theorem dX9_partOf_9 : decode cX9_partOf 9 = .ok (.lrem, 1) := by decide +kernel
theorem dX9_partOf_10 : decode cX9_partOf 10 = .ok (.l2i, 1) := by decide +kernel
theorem dX9_partOf_11 : decode cX9_partOf 11 = .ok (.ireturn, 1) := by decide +kernel
theorem dX9_above_0 : decode cX9_above 0 = .ok (.lload_n 0, 1) := by decide +kernel
theorem dX9_above_1 : decode cX9_above 1 = .ok (.iload_n 2, 1) := by decide +kernel
theorem dX9_above_2 : decode cX9_above 2 = .ok (.invokestatic 129, 3) := by decide +kernel
theorem dX9_above_5 : decode cX9_above 5 = .ok (.bipush 20, 2) := by decide +kernel
theorem dX9_above_7 : decode cX9_above 7 = .ok (.idiv, 1) := by decide +kernel
theorem dX9_above_8 : decode cX9_above 8 = .ok (.ireturn, 1) := by decide +kernel
theorem dX9_laid_0 : decode cX9_laid 0 = .ok (.lload_n 0, 1) := by decide +kernel
theorem dX9_laid_1 : decode cX9_laid 1 = .ok (.iload_n 2, 1) := by decide +kernel
theorem dX9_laid_2 : decode cX9_laid 2 = .ok (.invokestatic 129, 3) := by decide +kernel
theorem dX9_laid_5 : decode cX9_laid 5 = .ok (.bipush 10, 2) := by decide +kernel
theorem dX9_laid_7 : decode cX9_laid 7 = .ok (.idiv, 1) := by decide +kernel
theorem dX9_laid_8 : decode cX9_laid 8 = .ok (.iconst 2, 1) := by decide +kernel
theorem dX9_laid_9 : decode cX9_laid 9 = .ok (.irem, 1) := by decide +kernel
theorem dX9_laid_10 : decode cX9_laid 10 = .ok (.ireturn, 1) := by decide +kernel
theorem dX9_waits_0 : decode cX9_waits 0 = .ok (.lload_n 0, 1) := by decide +kernel
theorem dX9_waits_1 : decode cX9_waits 1 = .ok (.iload_n 2, 1) := by decide +kernel
theorem dX9_waits_2 : decode cX9_waits 2 = .ok (.invokestatic 129, 3) := by decide +kernel
theorem dX9_waits_5 : decode cX9_waits 5 = .ok (.bipush 10, 2) := by decide +kernel
theorem dX9_waits_7 : decode cX9_waits 7 = .ok (.irem, 1) := by decide +kernel
theorem dX9_waits_8 : decode cX9_waits 8 = .ok (.ireturn, 1) := by decide +kernel
theorem dX9_open_0 : decode cX9_open 0 = .ok (.iconst 0, 1) := by decide +kernel
theorem dX9_open_1 : decode cX9_open 1 = .ok (.istore_n 3, 1) := by decide +kernel
theorem dX9_open_2 : decode cX9_open 2 = .ok (.iload_n 3, 1) := by decide +kernel
theorem dX9_open_3 : decode cX9_open 3 = .ok (.iconst 4, 1) := by decide +kernel
theorem dX9_open_4 : decode cX9_open 4 = .ok (.if_icmp .ge 42, 3) := by decide +kernel
theorem dX9_open_7 : decode cX9_open 7 = .ok (.aload_n 0, 1) := by decide +kernel
theorem dX9_open_8 : decode cX9_open 8 = .ok (.getfield 31, 3) := by decide +kernel
theorem dX9_open_11 : decode cX9_open 11 = .ok (.iload_n 3, 1) := by decide +kernel
theorem dX9_open_12 : decode cX9_open 12 = .ok (.lload_n 1, 1) := by decide +kernel
theorem dX9_open_13 : decode cX9_open 13 = .ok (.iload_n 3, 1) := by decide +kernel
theorem dX9_open_14 : decode cX9_open 14 = .ok (.invokestatic 113, 3) := by decide +kernel
theorem dX9_open_17 : decode cX9_open 17 = .ok (.iastore, 1) := by decide +kernel
theorem dX9_open_18 : decode cX9_open 18 = .ok (.aload_n 0, 1) := by decide +kernel
theorem dX9_open_19 : decode cX9_open 19 = .ok (.getfield 34, 3) := by decide +kernel
theorem dX9_open_22 : decode cX9_open 22 = .ok (.iload_n 3, 1) := by decide +kernel
theorem dX9_open_23 : decode cX9_open 23 = .ok (.lload_n 1, 1) := by decide +kernel
theorem dX9_open_24 : decode cX9_open 24 = .ok (.iload_n 3, 1) := by decide +kernel
theorem dX9_open_25 : decode cX9_open 25 = .ok (.invokestatic 117, 3) := by decide +kernel
theorem dX9_open_28 : decode cX9_open 28 = .ok (.iastore, 1) := by decide +kernel
theorem dX9_open_29 : decode cX9_open 29 = .ok (.aload_n 0, 1) := by decide +kernel
theorem dX9_open_30 : decode cX9_open 30 = .ok (.getfield 37, 3) := by decide +kernel
theorem dX9_open_33 : decode cX9_open 33 = .ok (.iload_n 3, 1) := by decide +kernel
theorem dX9_open_34 : decode cX9_open 34 = .ok (.lload_n 1, 1) := by decide +kernel
theorem dX9_open_35 : decode cX9_open 35 = .ok (.iload_n 3, 1) := by decide +kernel
theorem dX9_open_36 : decode cX9_open 36 = .ok (.invokestatic 120, 3) := by decide +kernel
theorem dX9_open_39 : decode cX9_open 39 = .ok (.iastore, 1) := by decide +kernel
theorem dX9_open_40 : decode cX9_open 40 = .ok (.iinc 3 1, 3) := by decide +kernel
theorem dX9_open_43 : decode cX9_open 43 = .ok (.goto (-41), 3) := by decide +kernel
theorem dX9_open_46 : decode cX9_open 46 = .ok (.return_, 1) := by decide +kernel
theorem dX9_close_0 : decode cX9_close 0 = .ok (.lconst 0, 1) := by decide +kernel
theorem dX9_close_1 : decode cX9_close 1 = .ok (.lstore_n 1, 1) := by decide +kernel
theorem dX9_close_2 : decode cX9_close 2 = .ok (.iconst 0, 1) := by decide +kernel
theorem dX9_close_3 : decode cX9_close 3 = .ok (.istore_n 3, 1) := by decide +kernel
theorem dX9_close_4 : decode cX9_close 4 = .ok (.iload_n 3, 1) := by decide +kernel
theorem dX9_close_5 : decode cX9_close 5 = .ok (.iconst 4, 1) := by decide +kernel
theorem dX9_close_6 : decode cX9_close 6 = .ok (.if_icmp .ge 45, 3) := by decide +kernel
theorem dX9_close_9 : decode cX9_close 9 = .ok (.lload_n 1, 1) := by decide +kernel
theorem dX9_close_10 : decode cX9_close 10 = .ok (.ldc2_w 123, 3) := by decide +kernel
theorem dX9_close_13 : decode cX9_close 13 = .ok (.lmul, 1) := by decide +kernel
theorem dX9_close_14 : decode cX9_close 14 = .ok (.bipush 20, 2) := by decide +kernel
theorem dX9_close_16 : decode cX9_close 16 = .ok (.aload_n 0, 1) := by decide +kernel
theorem dX9_close_17 : decode cX9_close 17 = .ok (.getfield 31, 3) := by decide +kernel
theorem dX9_close_20 : decode cX9_close 20 = .ok (.iload_n 3, 1) := by decide +kernel
theorem dX9_close_21 : decode cX9_close 21 = .ok (.iaload, 1) := by decide +kernel
theorem dX9_close_22 : decode cX9_close 22 = .ok (.imul, 1) := by decide +kernel
theorem dX9_close_23 : decode cX9_close 23 = .ok (.i2l, 1) := by decide +kernel
theorem dX9_close_24 : decode cX9_close 24 = .ok (.ladd, 1) := by decide +kernel
theorem dX9_close_25 : decode cX9_close 25 = .ok (.bipush 10, 2) := by decide +kernel
theorem dX9_close_27 : decode cX9_close 27 = .ok (.aload_n 0, 1) := by decide +kernel
theorem dX9_close_28 : decode cX9_close 28 = .ok (.getfield 34, 3) := by decide +kernel
theorem dX9_close_31 : decode cX9_close 31 = .ok (.iload_n 3, 1) := by decide +kernel
theorem dX9_close_32 : decode cX9_close 32 = .ok (.iaload, 1) := by decide +kernel
theorem dX9_close_33 : decode cX9_close 33 = .ok (.imul, 1) := by decide +kernel
theorem dX9_close_34 : decode cX9_close 34 = .ok (.i2l, 1) := by decide +kernel
theorem dX9_close_35 : decode cX9_close 35 = .ok (.ladd, 1) := by decide +kernel
theorem dX9_close_36 : decode cX9_close 36 = .ok (.aload_n 0, 1) := by decide +kernel
theorem dX9_close_37 : decode cX9_close 37 = .ok (.getfield 37, 3) := by decide +kernel
theorem dX9_close_40 : decode cX9_close 40 = .ok (.iload_n 3, 1) := by decide +kernel
theorem dX9_close_41 : decode cX9_close 41 = .ok (.iaload, 1) := by decide +kernel
theorem dX9_close_42 : decode cX9_close 42 = .ok (.i2l, 1) := by decide +kernel
theorem dX9_close_43 : decode cX9_close 43 = .ok (.ladd, 1) := by decide +kernel
theorem dX9_close_44 : decode cX9_close 44 = .ok (.lstore_n 1, 1) := by decide +kernel
theorem dX9_close_45 : decode cX9_close 45 = .ok (.iinc 3 1, 3) := by decide +kernel
theorem dX9_close_48 : decode cX9_close 48 = .ok (.goto (-44), 3) := by decide +kernel
theorem dX9_close_51 : decode cX9_close 51 = .ok (.lload_n 1, 1) := by decide +kernel
theorem dX9_close_52 : decode cX9_close 52 = .ok (.lreturn, 1) := by decide +kernel
theorem dX9_falls_0 : decode cX9_falls 0 = .ok (.aload_n 0, 1) := by decide +kernel
theorem dX9_falls_1 : decode cX9_falls 1 = .ok (.getfield 34, 3) := by decide +kernel
theorem dX9_falls_4 : decode cX9_falls 4 = .ok (.iload_n 1, 1) := by decide +kernel
theorem dX9_falls_5 : decode cX9_falls 5 = .ok (.iaload, 1) := by decide +kernel
theorem dX9_falls_6 : decode cX9_falls 6 = .ok (.ifCond .ne 25, 3) := by decide +kernel
theorem dX9_falls_9 : decode cX9_falls 9 = .ok (.aload_n 0, 1) := by decide +kernel
theorem dX9_falls_10 : decode cX9_falls 10 = .ok (.getfield 37, 3) := by decide +kernel
theorem dX9_falls_13 : decode cX9_falls 13 = .ok (.iload_n 1, 1) := by decide +kernel
theorem dX9_falls_14 : decode cX9_falls 14 = .ok (.iaload, 1) := by decide +kernel
theorem dX9_falls_15 : decode cX9_falls 15 = .ok (.ifCond .ne 16, 3) := by decide +kernel
theorem dX9_falls_18 : decode cX9_falls 18 = .ok (.aload_n 0, 1) := by decide +kernel
theorem dX9_falls_19 : decode cX9_falls 19 = .ok (.getfield 31, 3) := by decide +kernel
theorem dX9_falls_22 : decode cX9_falls 22 = .ok (.iload_n 1, 1) := by decide +kernel
theorem dX9_falls_23 : decode cX9_falls 23 = .ok (.iaload, 1) := by decide +kernel
theorem dX9_falls_24 : decode cX9_falls 24 = .ok (.ifCond .le 7, 3) := by decide +kernel
theorem dX9_falls_27 : decode cX9_falls 27 = .ok (.iconst 1, 1) := by decide +kernel
theorem dX9_falls_28 : decode cX9_falls 28 = .ok (.goto 4, 3) := by decide +kernel
theorem dX9_falls_31 : decode cX9_falls 31 = .ok (.iconst 0, 1) := by decide +kernel
theorem dX9_falls_32 : decode cX9_falls 32 = .ok (.ireturn, 1) := by decide +kernel
theorem dX9_digit_0 : decode cX9_digit 0 = .ok (.iload_n 0, 1) := by decide +kernel
theorem dX9_digit_1 : decode cX9_digit 1 = .ok (.iconst 2, 1) := by decide +kernel
theorem dX9_digit_2 : decode cX9_digit 2 = .ok (.iload_n 1, 1) := by decide +kernel
theorem dX9_digit_3 : decode cX9_digit 3 = .ok (.imul, 1) := by decide +kernel
theorem dX9_digit_4 : decode cX9_digit 4 = .ok (.ishr, 1) := by decide +kernel
theorem dX9_digit_5 : decode cX9_digit 5 = .ok (.iconst 3, 1) := by decide +kernel
theorem dX9_digit_6 : decode cX9_digit 6 = .ok (.iand, 1) := by decide +kernel
theorem dX9_digit_7 : decode cX9_digit 7 = .ok (.ireturn, 1) := by decide +kernel
theorem dX9_isAllowedFor_0 : decode cX9_isAllowedFor 0 = .ok (.iload_n 1, 1) := by decide +kernel
theorem dX9_isAllowedFor_1 : decode cX9_isAllowedFor 1 = .ok (.iload_n 2, 1) := by decide +kernel
theorem dX9_isAllowedFor_2 : decode cX9_isAllowedFor 2 = .ok (.invokestatic 132, 3) := by decide +kernel
theorem dX9_isAllowedFor_5 : decode cX9_isAllowedFor 5 = .ok (.istore_n 3, 1) := by decide +kernel
theorem dX9_isAllowedFor_6 : decode cX9_isAllowedFor 6 = .ok (.iload_n 3, 1) := by decide +kernel
theorem dX9_isAllowedFor_7 : decode cX9_isAllowedFor 7 = .ok (.ifCond .ne 5, 3) := by decide +kernel
theorem dX9_isAllowedFor_10 : decode cX9_isAllowedFor 10 = .ok (.iconst 1, 1) := by decide +kernel
theorem dX9_isAllowedFor_11 : decode cX9_isAllowedFor 11 = .ok (.ireturn, 1) := by decide +kernel
theorem dX9_isAllowedFor_12 : decode cX9_isAllowedFor 12 = .ok (.iload_n 2, 1) := by decide +kernel
theorem dX9_isAllowedFor_13 : decode cX9_isAllowedFor 13 = .ok (.aload_n 0, 1) := by decide +kernel
theorem dX9_isAllowedFor_14 : decode cX9_isAllowedFor 14 = .ok (.getfield 87, 3) := by decide +kernel
theorem dX9_isAllowedFor_17 : decode cX9_isAllowedFor 17 = .ok (.if_icmp .lt 5, 3) := by decide +kernel
theorem dX9_isAllowedFor_20 : decode cX9_isAllowedFor 20 = .ok (.iconst 0, 1) := by decide +kernel
theorem dX9_isAllowedFor_21 : decode cX9_isAllowedFor 21 = .ok (.ireturn, 1) := by decide +kernel
theorem dX9_isAllowedFor_22 : decode cX9_isAllowedFor 22 = .ok (.iload_n 3, 1) := by decide +kernel
theorem dX9_isAllowedFor_23 : decode cX9_isAllowedFor 23 = .ok (.iconst 1, 1) := by decide +kernel
theorem dX9_isAllowedFor_24 : decode cX9_isAllowedFor 24 = .ok (.if_icmp .ne 72, 3) := by decide +kernel
theorem dX9_isAllowedFor_27 : decode cX9_isAllowedFor 27 = .ok (.aload_n 0, 1) := by decide +kernel
theorem dX9_isAllowedFor_28 : decode cX9_isAllowedFor 28 = .ok (.getfield 19, 3) := by decide +kernel
theorem dX9_isAllowedFor_31 : decode cX9_isAllowedFor 31 = .ok (.iload_n 2, 1) := by decide +kernel
theorem dX9_isAllowedFor_32 : decode cX9_isAllowedFor 32 = .ok (.iaload, 1) := by decide +kernel
theorem dX9_isAllowedFor_33 : decode cX9_isAllowedFor 33 = .ok (.iconst 1, 1) := by decide +kernel
theorem dX9_isAllowedFor_34 : decode cX9_isAllowedFor 34 = .ok (.if_icmp .ne 17, 3) := by decide +kernel
theorem dX9_isAllowedFor_37 : decode cX9_isAllowedFor 37 = .ok (.iload_n 1, 1) := by decide +kernel
theorem dX9_isAllowedFor_38 : decode cX9_isAllowedFor 38 = .ok (.aload_n 0, 1) := by decide +kernel
theorem dX9_isAllowedFor_39 : decode cX9_isAllowedFor 39 = .ok (.getfield 25, 3) := by decide +kernel
theorem dX9_isAllowedFor_42 : decode cX9_isAllowedFor 42 = .ok (.iload_n 2, 1) := by decide +kernel
theorem dX9_isAllowedFor_43 : decode cX9_isAllowedFor 43 = .ok (.iaload, 1) := by decide +kernel
theorem dX9_isAllowedFor_44 : decode cX9_isAllowedFor 44 = .ok (.invokestatic 132, 3) := by decide +kernel
theorem dX9_isAllowedFor_47 : decode cX9_isAllowedFor 47 = .ok (.iconst 1, 1) := by decide +kernel
theorem dX9_isAllowedFor_48 : decode cX9_isAllowedFor 48 = .ok (.if_icmp .ne 7, 3) := by decide +kernel
theorem dX9_isAllowedFor_51 : decode cX9_isAllowedFor 51 = .ok (.iconst 1, 1) := by decide +kernel
theorem dX9_isAllowedFor_52 : decode cX9_isAllowedFor 52 = .ok (.goto 4, 3) := by decide +kernel
theorem dX9_isAllowedFor_55 : decode cX9_isAllowedFor 55 = .ok (.iconst 0, 1) := by decide +kernel
theorem dX9_isAllowedFor_56 : decode cX9_isAllowedFor 56 = .ok (.istore 4, 2) := by decide +kernel
theorem dX9_isAllowedFor_58 : decode cX9_isAllowedFor 58 = .ok (.aload_n 0, 1) := by decide +kernel
theorem dX9_isAllowedFor_59 : decode cX9_isAllowedFor 59 = .ok (.getfield 34, 3) := by decide +kernel
theorem dX9_isAllowedFor_62 : decode cX9_isAllowedFor 62 = .ok (.iload_n 2, 1) := by decide +kernel
theorem dX9_isAllowedFor_63 : decode cX9_isAllowedFor 63 = .ok (.iaload, 1) := by decide +kernel
theorem dX9_isAllowedFor_64 : decode cX9_isAllowedFor 64 = .ok (.ifCond .ne 30, 3) := by decide +kernel
theorem dX9_isAllowedFor_67 : decode cX9_isAllowedFor 67 = .ok (.iload 4, 2) := by decide +kernel
theorem dX9_isAllowedFor_69 : decode cX9_isAllowedFor 69 = .ok (.ifCond .eq 25, 3) := by decide +kernel
theorem dX9_isAllowedFor_72 : decode cX9_isAllowedFor 72 = .ok (.aload_n 0, 1) := by decide +kernel
theorem dX9_isAllowedFor_73 : decode cX9_isAllowedFor 73 = .ok (.getfield 19, 3) := by decide +kernel
theorem dX9_isAllowedFor_76 : decode cX9_isAllowedFor 76 = .ok (.iload_n 2, 1) := by decide +kernel
theorem dX9_isAllowedFor_77 : decode cX9_isAllowedFor 77 = .ok (.iaload, 1) := by decide +kernel
theorem dX9_isAllowedFor_78 : decode cX9_isAllowedFor 78 = .ok (.iconst 3, 1) := by decide +kernel
theorem dX9_isAllowedFor_79 : decode cX9_isAllowedFor 79 = .ok (.if_icmp .ne 11, 3) := by decide +kernel
theorem dX9_isAllowedFor_82 : decode cX9_isAllowedFor 82 = .ok (.aload_n 0, 1) := by decide +kernel
theorem dX9_isAllowedFor_83 : decode cX9_isAllowedFor 83 = .ok (.iload_n 2, 1) := by decide +kernel
theorem dX9_isAllowedFor_84 : decode cX9_isAllowedFor 84 = .ok (.invokevirtual 136, 3) := by decide +kernel
theorem dX9_isAllowedFor_87 : decode cX9_isAllowedFor 87 = .ok (.ifCond .ne 7, 3) := by decide +kernel
theorem dX9_isAllowedFor_90 : decode cX9_isAllowedFor 90 = .ok (.iconst 1, 1) := by decide +kernel
theorem dX9_isAllowedFor_91 : decode cX9_isAllowedFor 91 = .ok (.goto 4, 3) := by decide +kernel
theorem dX9_isAllowedFor_94 : decode cX9_isAllowedFor 94 = .ok (.iconst 0, 1) := by decide +kernel
theorem dX9_isAllowedFor_95 : decode cX9_isAllowedFor 95 = .ok (.ireturn, 1) := by decide +kernel
theorem dX9_isAllowedFor_96 : decode cX9_isAllowedFor 96 = .ok (.iload_n 3, 1) := by decide +kernel
theorem dX9_isAllowedFor_97 : decode cX9_isAllowedFor 97 = .ok (.iconst 2, 1) := by decide +kernel
theorem dX9_isAllowedFor_98 : decode cX9_isAllowedFor 98 = .ok (.if_icmp .ne 38, 3) := by decide +kernel
theorem dX9_isAllowedFor_101 : decode cX9_isAllowedFor 101 = .ok (.aload_n 0, 1) := by decide +kernel
theorem dX9_isAllowedFor_102 : decode cX9_isAllowedFor 102 = .ok (.getfield 34, 3) := by decide +kernel
theorem dX9_isAllowedFor_105 : decode cX9_isAllowedFor 105 = .ok (.iload_n 2, 1) := by decide +kernel
theorem dX9_isAllowedFor_106 : decode cX9_isAllowedFor 106 = .ok (.iaload, 1) := by decide +kernel
theorem dX9_isAllowedFor_107 : decode cX9_isAllowedFor 107 = .ok (.ifCond .ne 27, 3) := by decide +kernel
theorem dX9_isAllowedFor_110 : decode cX9_isAllowedFor 110 = .ok (.aload_n 0, 1) := by decide +kernel
theorem dX9_isAllowedFor_111 : decode cX9_isAllowedFor 111 = .ok (.getfield 19, 3) := by decide +kernel
theorem dX9_isAllowedFor_114 : decode cX9_isAllowedFor 114 = .ok (.iload_n 2, 1) := by decide +kernel
theorem dX9_isAllowedFor_115 : decode cX9_isAllowedFor 115 = .ok (.iaload, 1) := by decide +kernel
theorem dX9_isAllowedFor_116 : decode cX9_isAllowedFor 116 = .ok (.iconst 2, 1) := by decide +kernel
theorem dX9_isAllowedFor_117 : decode cX9_isAllowedFor 117 = .ok (.if_icmp .eq 13, 3) := by decide +kernel
theorem dX9_isAllowedFor_120 : decode cX9_isAllowedFor 120 = .ok (.aload_n 0, 1) := by decide +kernel
theorem dX9_isAllowedFor_121 : decode cX9_isAllowedFor 121 = .ok (.getfield 19, 3) := by decide +kernel
theorem dX9_isAllowedFor_124 : decode cX9_isAllowedFor 124 = .ok (.iload_n 2, 1) := by decide +kernel
theorem dX9_isAllowedFor_125 : decode cX9_isAllowedFor 125 = .ok (.iaload, 1) := by decide +kernel
theorem dX9_isAllowedFor_126 : decode cX9_isAllowedFor 126 = .ok (.iconst 4, 1) := by decide +kernel
theorem dX9_isAllowedFor_127 : decode cX9_isAllowedFor 127 = .ok (.if_icmp .ne 7, 3) := by decide +kernel
theorem dX9_isAllowedFor_130 : decode cX9_isAllowedFor 130 = .ok (.iconst 1, 1) := by decide +kernel
theorem dX9_isAllowedFor_131 : decode cX9_isAllowedFor 131 = .ok (.goto 4, 3) := by decide +kernel
theorem dX9_isAllowedFor_134 : decode cX9_isAllowedFor 134 = .ok (.iconst 0, 1) := by decide +kernel
theorem dX9_isAllowedFor_135 : decode cX9_isAllowedFor 135 = .ok (.ireturn, 1) := by decide +kernel
theorem dX9_isAllowedFor_136 : decode cX9_isAllowedFor 136 = .ok (.aload_n 0, 1) := by decide +kernel
theorem dX9_isAllowedFor_137 : decode cX9_isAllowedFor 137 = .ok (.getfield 34, 3) := by decide +kernel
theorem dX9_isAllowedFor_140 : decode cX9_isAllowedFor 140 = .ok (.iload_n 2, 1) := by decide +kernel
theorem dX9_isAllowedFor_141 : decode cX9_isAllowedFor 141 = .ok (.iaload, 1) := by decide +kernel
theorem dX9_isAllowedFor_142 : decode cX9_isAllowedFor 142 = .ok (.iconst 1, 1) := by decide +kernel
theorem dX9_isAllowedFor_143 : decode cX9_isAllowedFor 143 = .ok (.if_icmp .ne 7, 3) := by decide +kernel
theorem dX9_isAllowedFor_146 : decode cX9_isAllowedFor 146 = .ok (.iconst 1, 1) := by decide +kernel
theorem dX9_isAllowedFor_147 : decode cX9_isAllowedFor 147 = .ok (.goto 4, 3) := by decide +kernel
theorem dX9_isAllowedFor_150 : decode cX9_isAllowedFor 150 = .ok (.iconst 0, 1) := by decide +kernel
theorem dX9_isAllowedFor_151 : decode cX9_isAllowedFor 151 = .ok (.ireturn, 1) := by decide +kernel
theorem dX9_isAllowed_0 : decode cX9_isAllowed 0 = .ok (.iconst 1, 1) := by decide +kernel
theorem dX9_isAllowed_1 : decode cX9_isAllowed 1 = .ok (.istore_n 2, 1) := by decide +kernel
theorem dX9_isAllowed_2 : decode cX9_isAllowed 2 = .ok (.iconst 0, 1) := by decide +kernel
theorem dX9_isAllowed_3 : decode cX9_isAllowed 3 = .ok (.istore_n 3, 1) := by decide +kernel
theorem dX9_isAllowed_4 : decode cX9_isAllowed 4 = .ok (.iload_n 3, 1) := by decide +kernel
theorem dX9_isAllowed_5 : decode cX9_isAllowed 5 = .ok (.iconst 4, 1) := by decide +kernel
theorem dX9_isAllowed_6 : decode cX9_isAllowed 6 = .ok (.if_icmp .ge 28, 3) := by decide +kernel
theorem dX9_isAllowed_9 : decode cX9_isAllowed 9 = .ok (.iload_n 2, 1) := by decide +kernel
theorem dX9_isAllowed_10 : decode cX9_isAllowed 10 = .ok (.ifCond .eq 16, 3) := by decide +kernel
theorem dX9_isAllowed_13 : decode cX9_isAllowed 13 = .ok (.aload_n 0, 1) := by decide +kernel
theorem dX9_isAllowed_14 : decode cX9_isAllowed 14 = .ok (.iload_n 1, 1) := by decide +kernel
theorem dX9_isAllowed_15 : decode cX9_isAllowed 15 = .ok (.iload_n 3, 1) := by decide +kernel
theorem dX9_isAllowed_16 : decode cX9_isAllowed 16 = .ok (.invokevirtual 139, 3) := by decide +kernel
theorem dX9_isAllowed_19 : decode cX9_isAllowed 19 = .ok (.ifCond .eq 7, 3) := by decide +kernel
theorem dX9_isAllowed_22 : decode cX9_isAllowed 22 = .ok (.iconst 1, 1) := by decide +kernel
theorem dX9_isAllowed_23 : decode cX9_isAllowed 23 = .ok (.goto 4, 3) := by decide +kernel
theorem dX9_isAllowed_26 : decode cX9_isAllowed 26 = .ok (.iconst 0, 1) := by decide +kernel
theorem dX9_isAllowed_27 : decode cX9_isAllowed 27 = .ok (.istore_n 2, 1) := by decide +kernel
theorem dX9_isAllowed_28 : decode cX9_isAllowed 28 = .ok (.iinc 3 1, 3) := by decide +kernel
theorem dX9_isAllowed_31 : decode cX9_isAllowed 31 = .ok (.goto (-27), 3) := by decide +kernel
theorem dX9_isAllowed_34 : decode cX9_isAllowed 34 = .ok (.iload_n 2, 1) := by decide +kernel
theorem dX9_isAllowed_35 : decode cX9_isAllowed 35 = .ok (.ireturn, 1) := by decide +kernel
theorem dX9_handle_0 : decode cX9_handle 0 = .ok (.iconst 0, 1) := by decide +kernel
theorem dX9_handle_1 : decode cX9_handle 1 = .ok (.istore_n 2, 1) := by decide +kernel
theorem dX9_handle_2 : decode cX9_handle 2 = .ok (.iload_n 2, 1) := by decide +kernel
theorem dX9_handle_3 : decode cX9_handle 3 = .ok (.aload_n 0, 1) := by decide +kernel
theorem dX9_handle_4 : decode cX9_handle 4 = .ok (.getfield 87, 3) := by decide +kernel
theorem dX9_handle_7 : decode cX9_handle 7 = .ok (.if_icmp .ge 89, 3) := by decide +kernel
theorem dX9_handle_10 : decode cX9_handle 10 = .ok (.iload_n 1, 1) := by decide +kernel
theorem dX9_handle_11 : decode cX9_handle 11 = .ok (.iload_n 2, 1) := by decide +kernel
theorem dX9_handle_12 : decode cX9_handle 12 = .ok (.invokestatic 132, 3) := by decide +kernel
theorem dX9_handle_15 : decode cX9_handle 15 = .ok (.istore_n 3, 1) := by decide +kernel
theorem dX9_handle_16 : decode cX9_handle 16 = .ok (.iload_n 3, 1) := by decide +kernel
theorem dX9_handle_17 : decode cX9_handle 17 = .ok (.iconst 1, 1) := by decide +kernel
theorem dX9_handle_18 : decode cX9_handle 18 = .ok (.if_icmp .ne 51, 3) := by decide +kernel
theorem dX9_handle_21 : decode cX9_handle 21 = .ok (.aload_n 0, 1) := by decide +kernel
theorem dX9_handle_22 : decode cX9_handle 22 = .ok (.getfield 31, 3) := by decide +kernel
theorem dX9_handle_25 : decode cX9_handle 25 = .ok (.iload_n 2, 1) := by decide +kernel
theorem dX9_handle_26 : decode cX9_handle 26 = .ok (.aload_n 0, 1) := by decide +kernel
theorem dX9_handle_27 : decode cX9_handle 27 = .ok (.getfield 22, 3) := by decide +kernel
theorem dX9_handle_30 : decode cX9_handle 30 = .ok (.iload_n 2, 1) := by decide +kernel
theorem dX9_handle_31 : decode cX9_handle 31 = .ok (.iaload, 1) := by decide +kernel
theorem dX9_handle_32 : decode cX9_handle 32 = .ok (.aload_n 0, 1) := by decide +kernel
theorem dX9_handle_33 : decode cX9_handle 33 = .ok (.getfield 31, 3) := by decide +kernel
theorem dX9_handle_36 : decode cX9_handle 36 = .ok (.iload_n 2, 1) := by decide +kernel
theorem dX9_handle_37 : decode cX9_handle 37 = .ok (.iaload, 1) := by decide +kernel
theorem dX9_handle_38 : decode cX9_handle 38 = .ok (.isub, 1) := by decide +kernel
theorem dX9_handle_39 : decode cX9_handle 39 = .ok (.iastore, 1) := by decide +kernel
theorem dX9_handle_40 : decode cX9_handle 40 = .ok (.aload_n 0, 1) := by decide +kernel
theorem dX9_handle_41 : decode cX9_handle 41 = .ok (.getfield 37, 3) := by decide +kernel
theorem dX9_handle_44 : decode cX9_handle 44 = .ok (.iload_n 2, 1) := by decide +kernel
theorem dX9_handle_45 : decode cX9_handle 45 = .ok (.aload_n 0, 1) := by decide +kernel
theorem dX9_handle_46 : decode cX9_handle 46 = .ok (.getfield 19, 3) := by decide +kernel
theorem dX9_handle_49 : decode cX9_handle 49 = .ok (.iload_n 2, 1) := by decide +kernel
theorem dX9_handle_50 : decode cX9_handle 50 = .ok (.iaload, 1) := by decide +kernel
theorem dX9_handle_51 : decode cX9_handle 51 = .ok (.iconst 4, 1) := by decide +kernel
theorem dX9_handle_52 : decode cX9_handle 52 = .ok (.if_icmp .ne 12, 3) := by decide +kernel
theorem dX9_handle_55 : decode cX9_handle 55 = .ok (.aload_n 0, 1) := by decide +kernel
theorem dX9_handle_56 : decode cX9_handle 56 = .ok (.getfield 25, 3) := by decide +kernel
theorem dX9_handle_59 : decode cX9_handle 59 = .ok (.iload_n 2, 1) := by decide +kernel
theorem dX9_handle_60 : decode cX9_handle 60 = .ok (.iaload, 1) := by decide +kernel
theorem dX9_handle_61 : decode cX9_handle 61 = .ok (.goto 4, 3) := by decide +kernel
theorem dX9_handle_64 : decode cX9_handle 64 = .ok (.iconst 0, 1) := by decide +kernel
theorem dX9_handle_65 : decode cX9_handle 65 = .ok (.iastore, 1) := by decide +kernel
theorem dX9_handle_66 : decode cX9_handle 66 = .ok (.goto 24, 3) := by decide +kernel
theorem dX9_handle_69 : decode cX9_handle 69 = .ok (.iload_n 3, 1) := by decide +kernel
theorem dX9_handle_70 : decode cX9_handle 70 = .ok (.iconst 1, 1) := by decide +kernel
theorem dX9_handle_71 : decode cX9_handle 71 = .ok (.if_icmp .le 19, 3) := by decide +kernel
theorem dX9_handle_74 : decode cX9_handle 74 = .ok (.aload_n 0, 1) := by decide +kernel
theorem dX9_handle_75 : decode cX9_handle 75 = .ok (.getfield 34, 3) := by decide +kernel
theorem dX9_handle_78 : decode cX9_handle 78 = .ok (.iload_n 2, 1) := by decide +kernel
theorem dX9_handle_79 : decode cX9_handle 79 = .ok (.iload_n 3, 1) := by decide +kernel
theorem dX9_handle_80 : decode cX9_handle 80 = .ok (.iconst 2, 1) := by decide +kernel
theorem dX9_handle_81 : decode cX9_handle 81 = .ok (.if_icmp .ne 7, 3) := by decide +kernel
theorem dX9_handle_84 : decode cX9_handle 84 = .ok (.iconst 1, 1) := by decide +kernel
theorem dX9_handle_85 : decode cX9_handle 85 = .ok (.goto 4, 3) := by decide +kernel
theorem dX9_handle_88 : decode cX9_handle 88 = .ok (.iconst 0, 1) := by decide +kernel
theorem dX9_handle_89 : decode cX9_handle 89 = .ok (.iastore, 1) := by decide +kernel
theorem dX9_handle_90 : decode cX9_handle 90 = .ok (.iinc 2 1, 3) := by decide +kernel
theorem dX9_handle_93 : decode cX9_handle 93 = .ok (.goto (-91), 3) := by decide +kernel
theorem dX9_handle_96 : decode cX9_handle 96 = .ok (.return_, 1) := by decide +kernel
theorem dX9_passes_0 : decode cX9_passes 0 = .ok (.iconst 0, 1) := by decide +kernel
theorem dX9_passes_1 : decode cX9_passes 1 = .ok (.istore_n 1, 1) := by decide +kernel
theorem dX9_passes_2 : decode cX9_passes 2 = .ok (.iconst 0, 1) := by decide +kernel
theorem dX9_passes_3 : decode cX9_passes 3 = .ok (.istore_n 2, 1) := by decide +kernel
theorem dX9_passes_4 : decode cX9_passes 4 = .ok (.iload_n 2, 1) := by decide +kernel
theorem dX9_passes_5 : decode cX9_passes 5 = .ok (.aload_n 0, 1) := by decide +kernel
theorem dX9_passes_6 : decode cX9_passes 6 = .ok (.getfield 87, 3) := by decide +kernel
theorem dX9_passes_9 : decode cX9_passes 9 = .ok (.if_icmp .ge 77, 3) := by decide +kernel
theorem dX9_passes_12 : decode cX9_passes 12 = .ok (.aload_n 0, 1) := by decide +kernel
theorem dX9_passes_13 : decode cX9_passes 13 = .ok (.iload_n 2, 1) := by decide +kernel
theorem dX9_passes_14 : decode cX9_passes 14 = .ok (.invokevirtual 136, 3) := by decide +kernel
theorem dX9_passes_17 : decode cX9_passes 17 = .ok (.ifCond .eq 35, 3) := by decide +kernel
theorem dX9_passes_20 : decode cX9_passes 20 = .ok (.aload_n 0, 1) := by decide +kernel
theorem dX9_passes_21 : decode cX9_passes 21 = .ok (.getfield 31, 3) := by decide +kernel
theorem dX9_passes_24 : decode cX9_passes 24 = .ok (.iload_n 2, 1) := by decide +kernel
theorem dX9_passes_25 : decode cX9_passes 25 = .ok (.dup2, 1) := by decide +kernel
theorem dX9_passes_26 : decode cX9_passes 26 = .ok (.iaload, 1) := by decide +kernel
theorem dX9_passes_27 : decode cX9_passes 27 = .ok (.iconst 1, 1) := by decide +kernel
theorem dX9_passes_28 : decode cX9_passes 28 = .ok (.isub, 1) := by decide +kernel
theorem dX9_passes_29 : decode cX9_passes 29 = .ok (.iastore, 1) := by decide +kernel
theorem dX9_passes_30 : decode cX9_passes 30 = .ok (.iload_n 1, 1) := by decide +kernel
theorem dX9_passes_31 : decode cX9_passes 31 = .ok (.ifCond .ne 12, 3) := by decide +kernel
theorem dX9_passes_34 : decode cX9_passes 34 = .ok (.aload_n 0, 1) := by decide +kernel
theorem dX9_passes_35 : decode cX9_passes 35 = .ok (.getfield 31, 3) := by decide +kernel
theorem dX9_passes_38 : decode cX9_passes 38 = .ok (.iload_n 2, 1) := by decide +kernel
theorem dX9_passes_39 : decode cX9_passes 39 = .ok (.iaload, 1) := by decide +kernel
theorem dX9_passes_40 : decode cX9_passes 40 = .ok (.ifCond .ne 7, 3) := by decide +kernel
theorem dX9_passes_43 : decode cX9_passes 43 = .ok (.iconst 1, 1) := by decide +kernel
theorem dX9_passes_44 : decode cX9_passes 44 = .ok (.goto 4, 3) := by decide +kernel
theorem dX9_passes_47 : decode cX9_passes 47 = .ok (.iconst 0, 1) := by decide +kernel
theorem dX9_passes_48 : decode cX9_passes 48 = .ok (.istore_n 1, 1) := by decide +kernel
theorem dX9_passes_49 : decode cX9_passes 49 = .ok (.goto 31, 3) := by decide +kernel
theorem dX9_passes_52 : decode cX9_passes 52 = .ok (.aload_n 0, 1) := by decide +kernel
theorem dX9_passes_53 : decode cX9_passes 53 = .ok (.getfield 34, 3) := by decide +kernel
theorem dX9_passes_56 : decode cX9_passes 56 = .ok (.iload_n 2, 1) := by decide +kernel
theorem dX9_passes_57 : decode cX9_passes 57 = .ok (.iaload, 1) := by decide +kernel
theorem dX9_passes_58 : decode cX9_passes 58 = .ok (.ifCond .ne 22, 3) := by decide +kernel
theorem dX9_passes_61 : decode cX9_passes 61 = .ok (.aload_n 0, 1) := by decide +kernel
theorem dX9_passes_62 : decode cX9_passes 62 = .ok (.getfield 37, 3) := by decide +kernel
theorem dX9_passes_65 : decode cX9_passes 65 = .ok (.iload_n 2, 1) := by decide +kernel
theorem dX9_passes_66 : decode cX9_passes 66 = .ok (.iaload, 1) := by decide +kernel
theorem dX9_passes_67 : decode cX9_passes 67 = .ok (.ifCond .le 13, 3) := by decide +kernel
theorem dX9_passes_70 : decode cX9_passes 70 = .ok (.aload_n 0, 1) := by decide +kernel
theorem dX9_passes_71 : decode cX9_passes 71 = .ok (.getfield 37, 3) := by decide +kernel
theorem dX9_passes_74 : decode cX9_passes 74 = .ok (.iload_n 2, 1) := by decide +kernel
theorem dX9_passes_75 : decode cX9_passes 75 = .ok (.dup2, 1) := by decide +kernel
theorem dX9_passes_76 : decode cX9_passes 76 = .ok (.iaload, 1) := by decide +kernel
theorem dX9_passes_77 : decode cX9_passes 77 = .ok (.iconst 1, 1) := by decide +kernel
theorem dX9_passes_78 : decode cX9_passes 78 = .ok (.isub, 1) := by decide +kernel
theorem dX9_passes_79 : decode cX9_passes 79 = .ok (.iastore, 1) := by decide +kernel
theorem dX9_passes_80 : decode cX9_passes 80 = .ok (.iinc 2 1, 3) := by decide +kernel
theorem dX9_passes_83 : decode cX9_passes 83 = .ok (.goto (-79), 3) := by decide +kernel
theorem dX9_passes_86 : decode cX9_passes 86 = .ok (.iload_n 1, 1) := by decide +kernel
theorem dX9_passes_87 : decode cX9_passes 87 = .ok (.ireturn, 1) := by decide +kernel
theorem dX9_goOn_0 : decode cX9_goOn 0 = .ok (.iconst 0, 1) := by decide +kernel
theorem dX9_goOn_1 : decode cX9_goOn 1 = .ok (.istore_n 1, 1) := by decide +kernel
theorem dX9_goOn_2 : decode cX9_goOn 2 = .ok (.iconst 0, 1) := by decide +kernel
theorem dX9_goOn_3 : decode cX9_goOn 3 = .ok (.istore_n 2, 1) := by decide +kernel
theorem dX9_goOn_4 : decode cX9_goOn 4 = .ok (.iload_n 2, 1) := by decide +kernel
theorem dX9_goOn_5 : decode cX9_goOn 5 = .ok (.aload_n 0, 1) := by decide +kernel
theorem dX9_goOn_6 : decode cX9_goOn 6 = .ok (.getfield 87, 3) := by decide +kernel
theorem dX9_goOn_9 : decode cX9_goOn 9 = .ok (.if_icmp .ge 37, 3) := by decide +kernel
theorem dX9_goOn_12 : decode cX9_goOn 12 = .ok (.iload_n 1, 1) := by decide +kernel
theorem dX9_goOn_13 : decode cX9_goOn 13 = .ok (.ifCond .ne 21, 3) := by decide +kernel
theorem dX9_goOn_16 : decode cX9_goOn 16 = .ok (.aload_n 0, 1) := by decide +kernel
theorem dX9_goOn_17 : decode cX9_goOn 17 = .ok (.getfield 34, 3) := by decide +kernel
theorem dX9_goOn_20 : decode cX9_goOn 20 = .ok (.iload_n 2, 1) := by decide +kernel
theorem dX9_goOn_21 : decode cX9_goOn 21 = .ok (.iaload, 1) := by decide +kernel
theorem dX9_goOn_22 : decode cX9_goOn 22 = .ok (.ifCond .ne 16, 3) := by decide +kernel
theorem dX9_goOn_25 : decode cX9_goOn 25 = .ok (.aload_n 0, 1) := by decide +kernel
theorem dX9_goOn_26 : decode cX9_goOn 26 = .ok (.getfield 31, 3) := by decide +kernel
theorem dX9_goOn_29 : decode cX9_goOn 29 = .ok (.iload_n 2, 1) := by decide +kernel
theorem dX9_goOn_30 : decode cX9_goOn 30 = .ok (.iaload, 1) := by decide +kernel
theorem dX9_goOn_31 : decode cX9_goOn 31 = .ok (.ifCond .le 7, 3) := by decide +kernel
theorem dX9_goOn_34 : decode cX9_goOn 34 = .ok (.iconst 1, 1) := by decide +kernel
theorem dX9_goOn_35 : decode cX9_goOn 35 = .ok (.goto 4, 3) := by decide +kernel
theorem dX9_goOn_38 : decode cX9_goOn 38 = .ok (.iconst 0, 1) := by decide +kernel
theorem dX9_goOn_39 : decode cX9_goOn 39 = .ok (.istore_n 1, 1) := by decide +kernel
theorem dX9_goOn_40 : decode cX9_goOn 40 = .ok (.iinc 2 1, 3) := by decide +kernel
theorem dX9_goOn_43 : decode cX9_goOn 43 = .ok (.goto (-39), 3) := by decide +kernel
theorem dX9_goOn_46 : decode cX9_goOn 46 = .ok (.iload_n 1, 1) := by decide +kernel
theorem dX9_goOn_47 : decode cX9_goOn 47 = .ok (.ifCond .ne 5, 3) := by decide +kernel
theorem dX9_goOn_50 : decode cX9_goOn 50 = .ok (.iconst 0, 1) := by decide +kernel
theorem dX9_goOn_51 : decode cX9_goOn 51 = .ok (.ireturn, 1) := by decide +kernel
theorem dX9_goOn_52 : decode cX9_goOn 52 = .ok (.iconst 1, 1) := by decide +kernel
theorem dX9_goOn_53 : decode cX9_goOn 53 = .ok (.istore_n 2, 1) := by decide +kernel
theorem dX9_goOn_54 : decode cX9_goOn 54 = .ok (.aload_n 0, 1) := by decide +kernel
theorem dX9_goOn_55 : decode cX9_goOn 55 = .ok (.invokevirtual 142, 3) := by decide +kernel
theorem dX9_goOn_58 : decode cX9_goOn 58 = .ok (.ifCond .ne 9, 3) := by decide +kernel
theorem dX9_goOn_61 : decode cX9_goOn 61 = .ok (.iinc 2 1, 3) := by decide +kernel
theorem dX9_goOn_64 : decode cX9_goOn 64 = .ok (.goto (-10), 3) := by decide +kernel
theorem dX9_goOn_67 : decode cX9_goOn 67 = .ok (.iload_n 2, 1) := by decide +kernel
theorem dX9_goOn_68 : decode cX9_goOn 68 = .ok (.ireturn, 1) := by decide +kernel
theorem dX9_countOf_0 : decode cX9_countOf 0 = .ok (.iconst 0, 1) := by decide +kernel
theorem dX9_countOf_1 : decode cX9_countOf 1 = .ok (.istore_n 1, 1) := by decide +kernel
theorem dX9_countOf_2 : decode cX9_countOf 2 = .ok (.iconst 0, 1) := by decide +kernel
theorem dX9_countOf_3 : decode cX9_countOf 3 = .ok (.istore_n 2, 1) := by decide +kernel
theorem dX9_countOf_4 : decode cX9_countOf 4 = .ok (.iload_n 2, 1) := by decide +kernel
theorem dX9_countOf_5 : decode cX9_countOf 5 = .ok (.iconst 4, 1) := by decide +kernel
theorem dX9_countOf_6 : decode cX9_countOf 6 = .ok (.if_icmp .ge 25, 3) := by decide +kernel
theorem dX9_countOf_9 : decode cX9_countOf 9 = .ok (.iload_n 1, 1) := by decide +kernel
theorem dX9_countOf_10 : decode cX9_countOf 10 = .ok (.iload_n 0, 1) := by decide +kernel
theorem dX9_countOf_11 : decode cX9_countOf 11 = .ok (.iload_n 2, 1) := by decide +kernel
theorem dX9_countOf_12 : decode cX9_countOf 12 = .ok (.invokestatic 132, 3) := by decide +kernel
theorem dX9_countOf_15 : decode cX9_countOf 15 = .ok (.ifCond .eq 7, 3) := by decide +kernel
theorem dX9_countOf_18 : decode cX9_countOf 18 = .ok (.iconst 1, 1) := by decide +kernel
theorem dX9_countOf_19 : decode cX9_countOf 19 = .ok (.goto 4, 3) := by decide +kernel
theorem dX9_countOf_22 : decode cX9_countOf 22 = .ok (.iconst 0, 1) := by decide +kernel
theorem dX9_countOf_23 : decode cX9_countOf 23 = .ok (.iadd, 1) := by decide +kernel
theorem dX9_countOf_24 : decode cX9_countOf 24 = .ok (.istore_n 1, 1) := by decide +kernel
theorem dX9_countOf_25 : decode cX9_countOf 25 = .ok (.iinc 2 1, 3) := by decide +kernel
theorem dX9_countOf_28 : decode cX9_countOf 28 = .ok (.goto (-24), 3) := by decide +kernel
theorem dX9_countOf_31 : decode cX9_countOf 31 = .ok (.iload_n 1, 1) := by decide +kernel
theorem dX9_countOf_32 : decode cX9_countOf 32 = .ok (.ireturn, 1) := by decide +kernel
theorem dX9_start_0 : decode cX9_start 0 = .ok (.aload_n 0, 1) := by decide +kernel
theorem dX9_start_1 : decode cX9_start 1 = .ok (.lconst 0, 1) := by decide +kernel
theorem dX9_start_2 : decode cX9_start 2 = .ok (.putfield 109, 3) := by decide +kernel
theorem dX9_start_5 : decode cX9_start 5 = .ok (.aload_n 0, 1) := by decide +kernel
theorem dX9_start_6 : decode cX9_start 6 = .ok (.iconst 0, 1) := by decide +kernel
theorem dX9_start_7 : decode cX9_start 7 = .ok (.putfield 146, 3) := by decide +kernel
theorem dX9_start_10 : decode cX9_start 10 = .ok (.aload_n 0, 1) := by decide +kernel
theorem dX9_start_11 : decode cX9_start 11 = .ok (.iconst 0, 1) := by decide +kernel
theorem dX9_start_12 : decode cX9_start 12 = .ok (.putfield 149, 3) := by decide +kernel
theorem dX9_start_15 : decode cX9_start 15 = .ok (.aload_n 0, 1) := by decide +kernel
theorem dX9_start_16 : decode cX9_start 16 = .ok (.getfield 40, 3) := by decide +kernel
theorem dX9_start_19 : decode cX9_start 19 = .ok (.iconst 0, 1) := by decide +kernel
theorem dX9_start_20 : decode cX9_start 20 = .ok (.iconst 0, 1) := by decide +kernel
theorem dX9_start_21 : decode cX9_start 21 = .ok (.iastore, 1) := by decide +kernel
theorem dX9_start_22 : decode cX9_start 22 = .ok (.aload_n 0, 1) := by decide +kernel
theorem dX9_start_23 : decode cX9_start 23 = .ok (.iconst 1, 1) := by decide +kernel
theorem dX9_start_24 : decode cX9_start 24 = .ok (.putfield 152, 3) := by decide +kernel
theorem dX9_start_27 : decode cX9_start 27 = .ok (.aload_n 0, 1) := by decide +kernel
theorem dX9_start_28 : decode cX9_start 28 = .ok (.iconst 0, 1) := by decide +kernel
theorem dX9_start_29 : decode cX9_start 29 = .ok (.putfield 155, 3) := by decide +kernel
theorem dX9_start_32 : decode cX9_start 32 = .ok (.return_, 1) := by decide +kernel
theorem dX9_keep_0 : decode cX9_keep 0 = .ok (.aload_n 0, 1) := by decide +kernel
theorem dX9_keep_1 : decode cX9_keep 1 = .ok (.getfield 155, 3) := by decide +kernel
theorem dX9_keep_4 : decode cX9_keep 4 = .ok (.bipush 100, 2) := by decide +kernel
theorem dX9_keep_6 : decode cX9_keep 6 = .ok (.if_icmp .ne 83, 3) := by decide +kernel
theorem dX9_keep_9 : decode cX9_keep 9 = .ok (.iconst 1, 1) := by decide +kernel
theorem dX9_keep_10 : decode cX9_keep 10 = .ok (.istore_n 1, 1) := by decide +kernel
theorem dX9_keep_11 : decode cX9_keep 11 = .ok (.iload_n 1, 1) := by decide +kernel
theorem dX9_keep_12 : decode cX9_keep 12 = .ok (.bipush 100, 2) := by decide +kernel
theorem dX9_keep_14 : decode cX9_keep 14 = .ok (.if_icmp .ge 65, 3) := by decide +kernel
theorem dX9_keep_17 : decode cX9_keep 17 = .ok (.aload_n 0, 1) := by decide +kernel
theorem dX9_keep_18 : decode cX9_keep 18 = .ok (.getfield 43, 3) := by decide +kernel
theorem dX9_keep_21 : decode cX9_keep 21 = .ok (.iload_n 1, 1) := by decide +kernel
theorem dX9_keep_22 : decode cX9_keep 22 = .ok (.iconst 1, 1) := by decide +kernel
theorem dX9_keep_23 : decode cX9_keep 23 = .ok (.isub, 1) := by decide +kernel
theorem dX9_keep_24 : decode cX9_keep 24 = .ok (.aload_n 0, 1) := by decide +kernel
theorem dX9_keep_25 : decode cX9_keep 25 = .ok (.getfield 43, 3) := by decide +kernel
theorem dX9_keep_28 : decode cX9_keep 28 = .ok (.iload_n 1, 1) := by decide +kernel
theorem dX9_keep_29 : decode cX9_keep 29 = .ok (.laload, 1) := by decide +kernel
theorem dX9_keep_30 : decode cX9_keep 30 = .ok (.lastore, 1) := by decide +kernel
theorem dX9_keep_31 : decode cX9_keep 31 = .ok (.aload_n 0, 1) := by decide +kernel
theorem dX9_keep_32 : decode cX9_keep 32 = .ok (.getfield 47, 3) := by decide +kernel
theorem dX9_keep_35 : decode cX9_keep 35 = .ok (.iload_n 1, 1) := by decide +kernel
theorem dX9_keep_36 : decode cX9_keep 36 = .ok (.iconst 1, 1) := by decide +kernel
theorem dX9_keep_37 : decode cX9_keep 37 = .ok (.isub, 1) := by decide +kernel
theorem dX9_keep_38 : decode cX9_keep 38 = .ok (.aload_n 0, 1) := by decide +kernel
theorem dX9_keep_39 : decode cX9_keep 39 = .ok (.getfield 47, 3) := by decide +kernel
theorem dX9_keep_42 : decode cX9_keep 42 = .ok (.iload_n 1, 1) := by decide +kernel
theorem dX9_keep_43 : decode cX9_keep 43 = .ok (.iaload, 1) := by decide +kernel
theorem dX9_keep_44 : decode cX9_keep 44 = .ok (.iastore, 1) := by decide +kernel
theorem dX9_keep_45 : decode cX9_keep 45 = .ok (.aload_n 0, 1) := by decide +kernel
theorem dX9_keep_46 : decode cX9_keep 46 = .ok (.getfield 50, 3) := by decide +kernel
theorem dX9_keep_49 : decode cX9_keep 49 = .ok (.iload_n 1, 1) := by decide +kernel
theorem dX9_keep_50 : decode cX9_keep 50 = .ok (.iconst 1, 1) := by decide +kernel
theorem dX9_keep_51 : decode cX9_keep 51 = .ok (.isub, 1) := by decide +kernel
theorem dX9_keep_52 : decode cX9_keep 52 = .ok (.aload_n 0, 1) := by decide +kernel
theorem dX9_keep_53 : decode cX9_keep 53 = .ok (.getfield 50, 3) := by decide +kernel
theorem dX9_keep_56 : decode cX9_keep 56 = .ok (.iload_n 1, 1) := by decide +kernel
theorem dX9_keep_57 : decode cX9_keep 57 = .ok (.iaload, 1) := by decide +kernel
theorem dX9_keep_58 : decode cX9_keep 58 = .ok (.iastore, 1) := by decide +kernel
theorem dX9_keep_59 : decode cX9_keep 59 = .ok (.aload_n 0, 1) := by decide +kernel
theorem dX9_keep_60 : decode cX9_keep 60 = .ok (.getfield 53, 3) := by decide +kernel
theorem dX9_keep_63 : decode cX9_keep 63 = .ok (.iload_n 1, 1) := by decide +kernel
theorem dX9_keep_64 : decode cX9_keep 64 = .ok (.iconst 1, 1) := by decide +kernel
theorem dX9_keep_65 : decode cX9_keep 65 = .ok (.isub, 1) := by decide +kernel
theorem dX9_keep_66 : decode cX9_keep 66 = .ok (.aload_n 0, 1) := by decide +kernel
theorem dX9_keep_67 : decode cX9_keep 67 = .ok (.getfield 53, 3) := by decide +kernel
theorem dX9_keep_70 : decode cX9_keep 70 = .ok (.iload_n 1, 1) := by decide +kernel
theorem dX9_keep_71 : decode cX9_keep 71 = .ok (.baload, 1) := by decide +kernel
theorem dX9_keep_72 : decode cX9_keep 72 = .ok (.bastore, 1) := by decide +kernel
theorem dX9_keep_73 : decode cX9_keep 73 = .ok (.iinc 1 1, 3) := by decide +kernel
theorem dX9_keep_76 : decode cX9_keep 76 = .ok (.goto (-65), 3) := by decide +kernel
theorem dX9_keep_79 : decode cX9_keep 79 = .ok (.aload_n 0, 1) := by decide +kernel
theorem dX9_keep_80 : decode cX9_keep 80 = .ok (.dup, 1) := by decide +kernel
theorem dX9_keep_81 : decode cX9_keep 81 = .ok (.getfield 155, 3) := by decide +kernel
theorem dX9_keep_84 : decode cX9_keep 84 = .ok (.iconst 1, 1) := by decide +kernel
theorem dX9_keep_85 : decode cX9_keep 85 = .ok (.isub, 1) := by decide +kernel
theorem dX9_keep_86 : decode cX9_keep 86 = .ok (.putfield 155, 3) := by decide +kernel
theorem dX9_keep_89 : decode cX9_keep 89 = .ok (.aload_n 0, 1) := by decide +kernel
theorem dX9_keep_90 : decode cX9_keep 90 = .ok (.getfield 43, 3) := by decide +kernel
theorem dX9_keep_93 : decode cX9_keep 93 = .ok (.aload_n 0, 1) := by decide +kernel
theorem dX9_keep_94 : decode cX9_keep 94 = .ok (.getfield 155, 3) := by decide +kernel
theorem dX9_keep_97 : decode cX9_keep 97 = .ok (.aload_n 0, 1) := by decide +kernel
theorem dX9_keep_98 : decode cX9_keep 98 = .ok (.getfield 109, 3) := by decide +kernel
theorem dX9_keep_101 : decode cX9_keep 101 = .ok (.lastore, 1) := by decide +kernel
theorem dX9_keep_102 : decode cX9_keep 102 = .ok (.aload_n 0, 1) := by decide +kernel
theorem dX9_keep_103 : decode cX9_keep 103 = .ok (.getfield 47, 3) := by decide +kernel
theorem dX9_keep_106 : decode cX9_keep 106 = .ok (.aload_n 0, 1) := by decide +kernel
theorem dX9_keep_107 : decode cX9_keep 107 = .ok (.getfield 155, 3) := by decide +kernel
theorem dX9_keep_110 : decode cX9_keep 110 = .ok (.aload_n 0, 1) := by decide +kernel
theorem dX9_keep_111 : decode cX9_keep 111 = .ok (.getfield 146, 3) := by decide +kernel
theorem dX9_keep_114 : decode cX9_keep 114 = .ok (.iastore, 1) := by decide +kernel
theorem dX9_keep_115 : decode cX9_keep 115 = .ok (.aload_n 0, 1) := by decide +kernel
theorem dX9_keep_116 : decode cX9_keep 116 = .ok (.getfield 50, 3) := by decide +kernel
theorem dX9_keep_119 : decode cX9_keep 119 = .ok (.aload_n 0, 1) := by decide +kernel
theorem dX9_keep_120 : decode cX9_keep 120 = .ok (.getfield 155, 3) := by decide +kernel
theorem dX9_keep_123 : decode cX9_keep 123 = .ok (.aload_n 0, 1) := by decide +kernel
theorem dX9_keep_124 : decode cX9_keep 124 = .ok (.getfield 152, 3) := by decide +kernel
theorem dX9_keep_127 : decode cX9_keep 127 = .ok (.iastore, 1) := by decide +kernel
theorem dX9_keep_128 : decode cX9_keep 128 = .ok (.aload_n 0, 1) := by decide +kernel
theorem dX9_keep_129 : decode cX9_keep 129 = .ok (.getfield 53, 3) := by decide +kernel
theorem dX9_keep_132 : decode cX9_keep 132 = .ok (.aload_n 0, 1) := by decide +kernel
theorem dX9_keep_133 : decode cX9_keep 133 = .ok (.getfield 155, 3) := by decide +kernel
theorem dX9_keep_136 : decode cX9_keep 136 = .ok (.aload_n 0, 1) := by decide +kernel
theorem dX9_keep_137 : decode cX9_keep 137 = .ok (.getfield 149, 3) := by decide +kernel
theorem dX9_keep_140 : decode cX9_keep 140 = .ok (.bastore, 1) := by decide +kernel
theorem dX9_keep_141 : decode cX9_keep 141 = .ok (.aload_n 0, 1) := by decide +kernel
theorem dX9_keep_142 : decode cX9_keep 142 = .ok (.dup, 1) := by decide +kernel
theorem dX9_keep_143 : decode cX9_keep 143 = .ok (.getfield 155, 3) := by decide +kernel
theorem dX9_keep_146 : decode cX9_keep 146 = .ok (.iconst 1, 1) := by decide +kernel
theorem dX9_keep_147 : decode cX9_keep 147 = .ok (.iadd, 1) := by decide +kernel
theorem dX9_keep_148 : decode cX9_keep 148 = .ok (.putfield 155, 3) := by decide +kernel
theorem dX9_keep_151 : decode cX9_keep 151 = .ok (.return_, 1) := by decide +kernel
theorem dX9_can_0 : decode cX9_can 0 = .ok (.iload_n 1, 1) := by decide +kernel
theorem dX9_can_1 : decode cX9_can 1 = .ok (.iconst 0, 1) := by decide +kernel
theorem dX9_can_2 : decode cX9_can 2 = .ok (.sipush 255, 3) := by decide +kernel
theorem dX9_can_5 : decode cX9_can 5 = .ok (.invokestatic 83, 3) := by decide +kernel
theorem dX9_can_8 : decode cX9_can 8 = .ok (.ifCond .ne 5, 3) := by decide +kernel
theorem dX9_can_11 : decode cX9_can 11 = .ok (.iconst (-1), 1) := by decide +kernel
theorem dX9_can_12 : decode cX9_can 12 = .ok (.ireturn, 1) := by decide +kernel
theorem dX9_can_13 : decode cX9_can 13 = .ok (.aload_n 0, 1) := by decide +kernel
theorem dX9_can_14 : decode cX9_can 14 = .ok (.aload_n 0, 1) := by decide +kernel
theorem dX9_can_15 : decode cX9_can 15 = .ok (.getfield 109, 3) := by decide +kernel
theorem dX9_can_18 : decode cX9_can 18 = .ok (.invokevirtual 158, 3) := by decide +kernel
theorem dX9_can_21 : decode cX9_can 21 = .ok (.aload_n 0, 1) := by decide +kernel
theorem dX9_can_22 : decode cX9_can 22 = .ok (.iload_n 1, 1) := by decide +kernel
theorem dX9_can_23 : decode cX9_can 23 = .ok (.invokevirtual 162, 3) := by decide +kernel
theorem dX9_can_26 : decode cX9_can 26 = .ok (.ifCond .eq 7, 3) := by decide +kernel
theorem dX9_can_29 : decode cX9_can 29 = .ok (.iconst 1, 1) := by decide +kernel
theorem dX9_can_30 : decode cX9_can 30 = .ok (.goto 4, 3) := by decide +kernel
theorem dX9_can_33 : decode cX9_can 33 = .ok (.iconst 0, 1) := by decide +kernel
theorem dX9_can_34 : decode cX9_can 34 = .ok (.ireturn, 1) := by decide +kernel
theorem dX9_hand_0 : decode cX9_hand 0 = .ok (.iload_n 1, 1) := by decide +kernel
theorem dX9_hand_1 : decode cX9_hand 1 = .ok (.iconst 0, 1) := by decide +kernel
theorem dX9_hand_2 : decode cX9_hand 2 = .ok (.sipush 255, 3) := by decide +kernel
theorem dX9_hand_5 : decode cX9_hand 5 = .ok (.invokestatic 83, 3) := by decide +kernel
theorem dX9_hand_8 : decode cX9_hand 8 = .ok (.ifCond .ne 5, 3) := by decide +kernel
theorem dX9_hand_11 : decode cX9_hand 11 = .ok (.iconst (-1), 1) := by decide +kernel
theorem dX9_hand_12 : decode cX9_hand 12 = .ok (.ireturn, 1) := by decide +kernel
theorem dX9_hand_13 : decode cX9_hand 13 = .ok (.aload_n 0, 1) := by decide +kernel
theorem dX9_hand_14 : decode cX9_hand 14 = .ok (.getfield 149, 3) := by decide +kernel
theorem dX9_hand_17 : decode cX9_hand 17 = .ok (.ifCond .eq 6, 3) := by decide +kernel
theorem dX9_hand_20 : decode cX9_hand 20 = .ok (.bipush (-5), 2) := by decide +kernel
theorem dX9_hand_22 : decode cX9_hand 22 = .ok (.ireturn, 1) := by decide +kernel
theorem dX9_hand_23 : decode cX9_hand 23 = .ok (.aload_n 0, 1) := by decide +kernel
theorem dX9_hand_24 : decode cX9_hand 24 = .ok (.aload_n 0, 1) := by decide +kernel
theorem dX9_hand_25 : decode cX9_hand 25 = .ok (.getfield 109, 3) := by decide +kernel
theorem dX9_hand_28 : decode cX9_hand 28 = .ok (.invokevirtual 158, 3) := by decide +kernel
theorem dX9_hand_31 : decode cX9_hand 31 = .ok (.aload_n 0, 1) := by decide +kernel
theorem dX9_hand_32 : decode cX9_hand 32 = .ok (.iload_n 1, 1) := by decide +kernel
theorem dX9_hand_33 : decode cX9_hand 33 = .ok (.invokevirtual 162, 3) := by decide +kernel
theorem dX9_hand_36 : decode cX9_hand 36 = .ok (.ifCond .ne 6, 3) := by decide +kernel
theorem dX9_hand_39 : decode cX9_hand 39 = .ok (.bipush (-6), 2) := by decide +kernel
theorem dX9_hand_41 : decode cX9_hand 41 = .ok (.ireturn, 1) := by decide +kernel
theorem dX9_hand_42 : decode cX9_hand 42 = .ok (.aload_n 0, 1) := by decide +kernel
theorem dX9_hand_43 : decode cX9_hand 43 = .ok (.invokevirtual 165, 3) := by decide +kernel
theorem dX9_hand_46 : decode cX9_hand 46 = .ok (.aload_n 0, 1) := by decide +kernel
theorem dX9_hand_47 : decode cX9_hand 47 = .ok (.iload_n 1, 1) := by decide +kernel
theorem dX9_hand_48 : decode cX9_hand 48 = .ok (.invokevirtual 168, 3) := by decide +kernel
theorem dX9_hand_51 : decode cX9_hand 51 = .ok (.aload_n 0, 1) := by decide +kernel
theorem dX9_hand_52 : decode cX9_hand 52 = .ok (.aload_n 0, 1) := by decide +kernel
theorem dX9_hand_53 : decode cX9_hand 53 = .ok (.invokevirtual 172, 3) := by decide +kernel
theorem dX9_hand_56 : decode cX9_hand 56 = .ok (.putfield 109, 3) := by decide +kernel
theorem dX9_hand_59 : decode cX9_hand 59 = .ok (.aload_n 0, 1) := by decide +kernel
theorem dX9_hand_60 : decode cX9_hand 60 = .ok (.iconst 1, 1) := by decide +kernel
theorem dX9_hand_61 : decode cX9_hand 61 = .ok (.putfield 149, 3) := by decide +kernel
theorem dX9_hand_64 : decode cX9_hand 64 = .ok (.iload_n 1, 1) := by decide +kernel
theorem dX9_hand_65 : decode cX9_hand 65 = .ok (.invokestatic 176, 3) := by decide +kernel
theorem dX9_hand_68 : decode cX9_hand 68 = .ok (.ireturn, 1) := by decide +kernel
theorem dX9_next_0 : decode cX9_next 0 = .ok (.aload_n 0, 1) := by decide +kernel
theorem dX9_next_1 : decode cX9_next 1 = .ok (.getfield 152, 3) := by decide +kernel
theorem dX9_next_4 : decode cX9_next 4 = .ok (.sipush 200, 3) := by decide +kernel
theorem dX9_next_7 : decode cX9_next 7 = .ok (.if_icmp .ne 6, 3) := by decide +kernel
theorem dX9_next_10 : decode cX9_next 10 = .ok (.bipush (-2), 2) := by decide +kernel
theorem dX9_next_12 : decode cX9_next 12 = .ok (.ireturn, 1) := by decide +kernel
theorem dX9_next_13 : decode cX9_next 13 = .ok (.aload_n 0, 1) := by decide +kernel
theorem dX9_next_14 : decode cX9_next 14 = .ok (.aload_n 0, 1) := by decide +kernel
theorem dX9_next_15 : decode cX9_next 15 = .ok (.getfield 109, 3) := by decide +kernel
theorem dX9_next_18 : decode cX9_next 18 = .ok (.invokevirtual 158, 3) := by decide +kernel
theorem dX9_next_21 : decode cX9_next 21 = .ok (.aload_n 0, 1) := by decide +kernel
theorem dX9_next_22 : decode cX9_next 22 = .ok (.invokevirtual 180, 3) := by decide +kernel
theorem dX9_next_25 : decode cX9_next 25 = .ok (.istore_n 1, 1) := by decide +kernel
theorem dX9_next_26 : decode cX9_next 26 = .ok (.iload_n 1, 1) := by decide +kernel
theorem dX9_next_27 : decode cX9_next 27 = .ok (.ifCond .ne 6, 3) := by decide +kernel
theorem dX9_next_30 : decode cX9_next 30 = .ok (.bipush (-7), 2) := by decide +kernel
theorem dX9_next_32 : decode cX9_next 32 = .ok (.ireturn, 1) := by decide +kernel
theorem dX9_next_33 : decode cX9_next 33 = .ok (.aload_n 0, 1) := by decide +kernel
theorem dX9_next_34 : decode cX9_next 34 = .ok (.invokevirtual 165, 3) := by decide +kernel
theorem dX9_next_37 : decode cX9_next 37 = .ok (.aload_n 0, 1) := by decide +kernel
theorem dX9_next_38 : decode cX9_next 38 = .ok (.aload_n 0, 1) := by decide +kernel
theorem dX9_next_39 : decode cX9_next 39 = .ok (.invokevirtual 172, 3) := by decide +kernel
theorem dX9_next_42 : decode cX9_next 42 = .ok (.putfield 109, 3) := by decide +kernel
theorem dX9_next_45 : decode cX9_next 45 = .ok (.aload_n 0, 1) := by decide +kernel
theorem dX9_next_46 : decode cX9_next 46 = .ok (.dup, 1) := by decide +kernel
theorem dX9_next_47 : decode cX9_next 47 = .ok (.getfield 146, 3) := by decide +kernel
theorem dX9_next_50 : decode cX9_next 50 = .ok (.iload_n 1, 1) := by decide +kernel
theorem dX9_next_51 : decode cX9_next 51 = .ok (.iadd, 1) := by decide +kernel
theorem dX9_next_52 : decode cX9_next 52 = .ok (.putfield 146, 3) := by decide +kernel
theorem dX9_next_55 : decode cX9_next 55 = .ok (.aload_n 0, 1) := by decide +kernel
theorem dX9_next_56 : decode cX9_next 56 = .ok (.iconst 0, 1) := by decide +kernel
theorem dX9_next_57 : decode cX9_next 57 = .ok (.putfield 149, 3) := by decide +kernel
theorem dX9_next_60 : decode cX9_next 60 = .ok (.aload_n 0, 1) := by decide +kernel
theorem dX9_next_61 : decode cX9_next 61 = .ok (.getfield 40, 3) := by decide +kernel
theorem dX9_next_64 : decode cX9_next 64 = .ok (.aload_n 0, 1) := by decide +kernel
theorem dX9_next_65 : decode cX9_next 65 = .ok (.getfield 152, 3) := by decide +kernel
theorem dX9_next_68 : decode cX9_next 68 = .ok (.aload_n 0, 1) := by decide +kernel
theorem dX9_next_69 : decode cX9_next 69 = .ok (.getfield 146, 3) := by decide +kernel
theorem dX9_next_72 : decode cX9_next 72 = .ok (.iastore, 1) := by decide +kernel
theorem dX9_next_73 : decode cX9_next 73 = .ok (.aload_n 0, 1) := by decide +kernel
theorem dX9_next_74 : decode cX9_next 74 = .ok (.dup, 1) := by decide +kernel
theorem dX9_next_75 : decode cX9_next 75 = .ok (.getfield 152, 3) := by decide +kernel
theorem dX9_next_78 : decode cX9_next 78 = .ok (.iconst 1, 1) := by decide +kernel
theorem dX9_next_79 : decode cX9_next 79 = .ok (.iadd, 1) := by decide +kernel
theorem dX9_next_80 : decode cX9_next 80 = .ok (.putfield 152, 3) := by decide +kernel
theorem dX9_next_83 : decode cX9_next 83 = .ok (.aload_n 0, 1) := by decide +kernel
theorem dX9_next_84 : decode cX9_next 84 = .ok (.getfield 146, 3) := by decide +kernel
theorem dX9_next_87 : decode cX9_next 87 = .ok (.ireturn, 1) := by decide +kernel
theorem dX9_undo_0 : decode cX9_undo 0 = .ok (.aload_n 0, 1) := by decide +kernel
theorem dX9_undo_1 : decode cX9_undo 1 = .ok (.getfield 155, 3) := by decide +kernel
theorem dX9_undo_4 : decode cX9_undo 4 = .ok (.ifCond .ne 6, 3) := by decide +kernel
theorem dX9_undo_7 : decode cX9_undo 7 = .ok (.bipush (-5), 2) := by decide +kernel
theorem dX9_undo_9 : decode cX9_undo 9 = .ok (.ireturn, 1) := by decide +kernel
theorem dX9_undo_10 : decode cX9_undo 10 = .ok (.aload_n 0, 1) := by decide +kernel
theorem dX9_undo_11 : decode cX9_undo 11 = .ok (.dup, 1) := by decide +kernel
theorem dX9_undo_12 : decode cX9_undo 12 = .ok (.getfield 155, 3) := by decide +kernel
theorem dX9_undo_15 : decode cX9_undo 15 = .ok (.iconst 1, 1) := by decide +kernel
theorem dX9_undo_16 : decode cX9_undo 16 = .ok (.isub, 1) := by decide +kernel
theorem dX9_undo_17 : decode cX9_undo 17 = .ok (.putfield 155, 3) := by decide +kernel
theorem dX9_undo_20 : decode cX9_undo 20 = .ok (.aload_n 0, 1) := by decide +kernel
theorem dX9_undo_21 : decode cX9_undo 21 = .ok (.aload_n 0, 1) := by decide +kernel
theorem dX9_undo_22 : decode cX9_undo 22 = .ok (.getfield 43, 3) := by decide +kernel
theorem dX9_undo_25 : decode cX9_undo 25 = .ok (.aload_n 0, 1) := by decide +kernel
theorem dX9_undo_26 : decode cX9_undo 26 = .ok (.getfield 155, 3) := by decide +kernel
theorem dX9_undo_29 : decode cX9_undo 29 = .ok (.laload, 1) := by decide +kernel
theorem dX9_undo_30 : decode cX9_undo 30 = .ok (.putfield 109, 3) := by decide +kernel
theorem dX9_undo_33 : decode cX9_undo 33 = .ok (.aload_n 0, 1) := by decide +kernel
theorem dX9_undo_34 : decode cX9_undo 34 = .ok (.aload_n 0, 1) := by decide +kernel
theorem dX9_undo_35 : decode cX9_undo 35 = .ok (.getfield 47, 3) := by decide +kernel
theorem dX9_undo_38 : decode cX9_undo 38 = .ok (.aload_n 0, 1) := by decide +kernel
theorem dX9_undo_39 : decode cX9_undo 39 = .ok (.getfield 155, 3) := by decide +kernel
theorem dX9_undo_42 : decode cX9_undo 42 = .ok (.iaload, 1) := by decide +kernel
theorem dX9_undo_43 : decode cX9_undo 43 = .ok (.putfield 146, 3) := by decide +kernel
theorem dX9_undo_46 : decode cX9_undo 46 = .ok (.aload_n 0, 1) := by decide +kernel
theorem dX9_undo_47 : decode cX9_undo 47 = .ok (.aload_n 0, 1) := by decide +kernel
theorem dX9_undo_48 : decode cX9_undo 48 = .ok (.getfield 50, 3) := by decide +kernel
theorem dX9_undo_51 : decode cX9_undo 51 = .ok (.aload_n 0, 1) := by decide +kernel
theorem dX9_undo_52 : decode cX9_undo 52 = .ok (.getfield 155, 3) := by decide +kernel
theorem dX9_undo_55 : decode cX9_undo 55 = .ok (.iaload, 1) := by decide +kernel
theorem dX9_undo_56 : decode cX9_undo 56 = .ok (.putfield 152, 3) := by decide +kernel
theorem dX9_undo_59 : decode cX9_undo 59 = .ok (.aload_n 0, 1) := by decide +kernel
theorem dX9_undo_60 : decode cX9_undo 60 = .ok (.aload_n 0, 1) := by decide +kernel
theorem dX9_undo_61 : decode cX9_undo 61 = .ok (.getfield 53, 3) := by decide +kernel
theorem dX9_undo_64 : decode cX9_undo 64 = .ok (.aload_n 0, 1) := by decide +kernel
theorem dX9_undo_65 : decode cX9_undo 65 = .ok (.getfield 155, 3) := by decide +kernel
theorem dX9_undo_68 : decode cX9_undo 68 = .ok (.baload, 1) := by decide +kernel
theorem dX9_undo_69 : decode cX9_undo 69 = .ok (.putfield 149, 3) := by decide +kernel
theorem dX9_undo_72 : decode cX9_undo 72 = .ok (.aload_n 0, 1) := by decide +kernel
theorem dX9_undo_73 : decode cX9_undo 73 = .ok (.getfield 146, 3) := by decide +kernel
theorem dX9_undo_76 : decode cX9_undo 76 = .ok (.ireturn, 1) := by decide +kernel
theorem dX9_begin_0 : decode cX9_begin 0 = .ok (.aload_n 0, 1) := by decide +kernel
theorem dX9_begin_1 : decode cX9_begin 1 = .ok (.invokevirtual 80, 3) := by decide +kernel
theorem dX9_begin_4 : decode cX9_begin 4 = .ok (.iconst 1, 1) := by decide +kernel
theorem dX9_begin_5 : decode cX9_begin 5 = .ok (.ireturn, 1) := by decide +kernel
theorem dX9_moment_0 : decode cX9_moment 0 = .ok (.aload_n 0, 1) := by decide +kernel
theorem dX9_moment_1 : decode cX9_moment 1 = .ok (.getfield 146, 3) := by decide +kernel
theorem dX9_moment_4 : decode cX9_moment 4 = .ok (.ireturn, 1) := by decide +kernel
theorem dX9_event_0 : decode cX9_event 0 = .ok (.iload_n 1, 1) := by decide +kernel
theorem dX9_event_1 : decode cX9_event 1 = .ok (.iconst 0, 1) := by decide +kernel
theorem dX9_event_2 : decode cX9_event 2 = .ok (.aload_n 0, 1) := by decide +kernel
theorem dX9_event_3 : decode cX9_event 3 = .ok (.getfield 152, 3) := by decide +kernel
theorem dX9_event_6 : decode cX9_event 6 = .ok (.iconst 1, 1) := by decide +kernel
theorem dX9_event_7 : decode cX9_event 7 = .ok (.isub, 1) := by decide +kernel
theorem dX9_event_8 : decode cX9_event 8 = .ok (.invokestatic 83, 3) := by decide +kernel
theorem dX9_event_11 : decode cX9_event 11 = .ok (.ifCond .eq 12, 3) := by decide +kernel
theorem dX9_event_14 : decode cX9_event 14 = .ok (.aload_n 0, 1) := by decide +kernel
theorem dX9_event_15 : decode cX9_event 15 = .ok (.getfield 40, 3) := by decide +kernel
theorem dX9_event_18 : decode cX9_event 18 = .ok (.iload_n 1, 1) := by decide +kernel
theorem dX9_event_19 : decode cX9_event 19 = .ok (.iaload, 1) := by decide +kernel
theorem dX9_event_20 : decode cX9_event 20 = .ok (.goto 4, 3) := by decide +kernel
theorem dX9_event_23 : decode cX9_event 23 = .ok (.iconst (-1), 1) := by decide +kernel
theorem dX9_event_24 : decode cX9_event 24 = .ok (.ireturn, 1) := by decide +kernel
theorem dX9_findConfig_0 : decode cX9_findConfig 0 = .ok (.iconst (-1), 1) := by decide +kernel
theorem dX9_findConfig_1 : decode cX9_findConfig 1 = .ok (.istore_n 3, 1) := by decide +kernel
theorem dX9_findConfig_2 : decode cX9_findConfig 2 = .ok (.iconst 0, 1) := by decide +kernel
theorem dX9_findConfig_3 : decode cX9_findConfig 3 = .ok (.istore 4, 2) := by decide +kernel
theorem dX9_findConfig_5 : decode cX9_findConfig 5 = .ok (.iload 4, 2) := by decide +kernel
theorem dX9_findConfig_7 : decode cX9_findConfig 7 = .ok (.aload_n 0, 1) := by decide +kernel
theorem dX9_findConfig_8 : decode cX9_findConfig 8 = .ok (.getfield 184, 3) := by decide +kernel
theorem dX9_findConfig_11 : decode cX9_findConfig 11 = .ok (.if_icmp .ge 32, 3) := by decide +kernel
theorem dX9_findConfig_14 : decode cX9_findConfig 14 = .ok (.iload_n 3, 1) := by decide +kernel
theorem dX9_findConfig_15 : decode cX9_findConfig 15 = .ok (.ifCond .ge 28, 3) := by decide +kernel
theorem dX9_findConfig_18 : decode cX9_findConfig 18 = .ok (.aload_n 0, 1) := by decide +kernel
theorem dX9_findConfig_19 : decode cX9_findConfig 19 = .ok (.getfield 57, 3) := by decide +kernel
theorem dX9_findConfig_22 : decode cX9_findConfig 22 = .ok (.iload 4, 2) := by decide +kernel
theorem dX9_findConfig_24 : decode cX9_findConfig 24 = .ok (.laload, 1) := by decide +kernel
theorem dX9_findConfig_25 : decode cX9_findConfig 25 = .ok (.lload_n 1, 1) := by decide +kernel
theorem dX9_findConfig_26 : decode cX9_findConfig 26 = .ok (.lcmp, 1) := by decide +kernel
theorem dX9_findConfig_27 : decode cX9_findConfig 27 = .ok (.ifCond .ne 8, 3) := by decide +kernel
theorem dX9_findConfig_30 : decode cX9_findConfig 30 = .ok (.iload 4, 2) := by decide +kernel
theorem dX9_findConfig_32 : decode cX9_findConfig 32 = .ok (.goto 4, 3) := by decide +kernel
theorem dX9_findConfig_35 : decode cX9_findConfig 35 = .ok (.iconst (-1), 1) := by decide +kernel
theorem dX9_findConfig_36 : decode cX9_findConfig 36 = .ok (.istore_n 3, 1) := by decide +kernel
theorem dX9_findConfig_37 : decode cX9_findConfig 37 = .ok (.iinc 4 1, 3) := by decide +kernel
theorem dX9_findConfig_40 : decode cX9_findConfig 40 = .ok (.goto (-35), 3) := by decide +kernel
theorem dX9_findConfig_43 : decode cX9_findConfig 43 = .ok (.iload_n 3, 1) := by decide +kernel
theorem dX9_findConfig_44 : decode cX9_findConfig 44 = .ok (.ireturn, 1) := by decide +kernel
theorem dX9_goFrom_0 : decode cX9_goFrom 0 = .ok (.iconst 0, 1) := by decide +kernel
theorem dX9_goFrom_1 : decode cX9_goFrom 1 = .ok (.istore_n 2, 1) := by decide +kernel
theorem dX9_goFrom_2 : decode cX9_goFrom 2 = .ok (.iload_n 2, 1) := by decide +kernel
theorem dX9_goFrom_3 : decode cX9_goFrom 3 = .ok (.sipush 256, 3) := by decide +kernel
theorem dX9_goFrom_6 : decode cX9_goFrom 6 = .ok (.if_icmp .ge 130, 3) := by decide +kernel
theorem dX9_goFrom_9 : decode cX9_goFrom 9 = .ok (.sipush 256, 3) := by decide +kernel
theorem dX9_goFrom_12 : decode cX9_goFrom 12 = .ok (.iload_n 1, 1) := by decide +kernel
theorem dX9_goFrom_13 : decode cX9_goFrom 13 = .ok (.imul, 1) := by decide +kernel
theorem dX9_goFrom_14 : decode cX9_goFrom 14 = .ok (.iload_n 2, 1) := by decide +kernel
theorem dX9_goFrom_15 : decode cX9_goFrom 15 = .ok (.iadd, 1) := by decide +kernel
theorem dX9_goFrom_16 : decode cX9_goFrom 16 = .ok (.istore_n 3, 1) := by decide +kernel
theorem dX9_goFrom_17 : decode cX9_goFrom 17 = .ok (.aload_n 0, 1) := by decide +kernel
theorem dX9_goFrom_18 : decode cX9_goFrom 18 = .ok (.getfield 61, 3) := by decide +kernel
theorem dX9_goFrom_21 : decode cX9_goFrom 21 = .ok (.iload_n 3, 1) := by decide +kernel
theorem dX9_goFrom_22 : decode cX9_goFrom 22 = .ok (.iconst (-1), 1) := by decide +kernel
theorem dX9_goFrom_23 : decode cX9_goFrom 23 = .ok (.iastore, 1) := by decide +kernel
theorem dX9_goFrom_24 : decode cX9_goFrom 24 = .ok (.aload_n 0, 1) := by decide +kernel
theorem dX9_goFrom_25 : decode cX9_goFrom 25 = .ok (.aload_n 0, 1) := by decide +kernel
theorem dX9_goFrom_26 : decode cX9_goFrom 26 = .ok (.getfield 57, 3) := by decide +kernel
theorem dX9_goFrom_29 : decode cX9_goFrom 29 = .ok (.iload_n 1, 1) := by decide +kernel
theorem dX9_goFrom_30 : decode cX9_goFrom 30 = .ok (.laload, 1) := by decide +kernel
theorem dX9_goFrom_31 : decode cX9_goFrom 31 = .ok (.invokevirtual 158, 3) := by decide +kernel
theorem dX9_goFrom_34 : decode cX9_goFrom 34 = .ok (.aload_n 0, 1) := by decide +kernel
theorem dX9_goFrom_35 : decode cX9_goFrom 35 = .ok (.getfield 184, 3) := by decide +kernel
theorem dX9_goFrom_38 : decode cX9_goFrom 38 = .ok (.sipush 600, 3) := by decide +kernel
theorem dX9_goFrom_41 : decode cX9_goFrom 41 = .ok (.if_icmp .gt 89, 3) := by decide +kernel
theorem dX9_goFrom_44 : decode cX9_goFrom 44 = .ok (.aload_n 0, 1) := by decide +kernel
theorem dX9_goFrom_45 : decode cX9_goFrom 45 = .ok (.iload_n 2, 1) := by decide +kernel
theorem dX9_goFrom_46 : decode cX9_goFrom 46 = .ok (.invokevirtual 162, 3) := by decide +kernel
theorem dX9_goFrom_49 : decode cX9_goFrom 49 = .ok (.ifCond .eq 81, 3) := by decide +kernel
theorem dX9_goFrom_52 : decode cX9_goFrom 52 = .ok (.aload_n 0, 1) := by decide +kernel
theorem dX9_goFrom_53 : decode cX9_goFrom 53 = .ok (.iload_n 2, 1) := by decide +kernel
theorem dX9_goFrom_54 : decode cX9_goFrom 54 = .ok (.invokevirtual 168, 3) := by decide +kernel
theorem dX9_goFrom_57 : decode cX9_goFrom 57 = .ok (.aload_n 0, 1) := by decide +kernel
theorem dX9_goFrom_58 : decode cX9_goFrom 58 = .ok (.invokevirtual 180, 3) := by decide +kernel
theorem dX9_goFrom_61 : decode cX9_goFrom 61 = .ok (.istore 4, 2) := by decide +kernel
theorem dX9_goFrom_63 : decode cX9_goFrom 63 = .ok (.iload 4, 2) := by decide +kernel
theorem dX9_goFrom_65 : decode cX9_goFrom 65 = .ok (.ifCond .le 65, 3) := by decide +kernel
theorem dX9_goFrom_68 : decode cX9_goFrom 68 = .ok (.aload_n 0, 1) := by decide +kernel
theorem dX9_goFrom_69 : decode cX9_goFrom 69 = .ok (.invokevirtual 172, 3) := by decide +kernel
theorem dX9_goFrom_72 : decode cX9_goFrom 72 = .ok (.lstore 5, 2) := by decide +kernel
theorem dX9_goFrom_74 : decode cX9_goFrom 74 = .ok (.aload_n 0, 1) := by decide +kernel
theorem dX9_goFrom_75 : decode cX9_goFrom 75 = .ok (.lload 5, 2) := by decide +kernel
theorem dX9_goFrom_77 : decode cX9_goFrom 77 = .ok (.invokevirtual 187, 3) := by decide +kernel
theorem dX9_goFrom_80 : decode cX9_goFrom 80 = .ok (.istore 7, 2) := by decide +kernel
theorem dX9_goFrom_82 : decode cX9_goFrom 82 = .ok (.iload 7, 2) := by decide +kernel
theorem dX9_goFrom_84 : decode cX9_goFrom 84 = .ok (.ifCond .ge 30, 3) := by decide +kernel
theorem dX9_goFrom_87 : decode cX9_goFrom 87 = .ok (.aload_n 0, 1) := by decide +kernel
theorem dX9_goFrom_88 : decode cX9_goFrom 88 = .ok (.getfield 57, 3) := by decide +kernel
theorem dX9_goFrom_91 : decode cX9_goFrom 91 = .ok (.aload_n 0, 1) := by decide +kernel
theorem dX9_goFrom_92 : decode cX9_goFrom 92 = .ok (.getfield 184, 3) := by decide +kernel
theorem dX9_goFrom_95 : decode cX9_goFrom 95 = .ok (.lload 5, 2) := by decide +kernel
theorem dX9_goFrom_97 : decode cX9_goFrom 97 = .ok (.lastore, 1) := by decide +kernel
theorem dX9_goFrom_98 : decode cX9_goFrom 98 = .ok (.aload_n 0, 1) := by decide +kernel
theorem dX9_goFrom_99 : decode cX9_goFrom 99 = .ok (.getfield 184, 3) := by decide +kernel
theorem dX9_goFrom_102 : decode cX9_goFrom 102 = .ok (.istore 7, 2) := by decide +kernel
theorem dX9_goFrom_104 : decode cX9_goFrom 104 = .ok (.aload_n 0, 1) := by decide +kernel
theorem dX9_goFrom_105 : decode cX9_goFrom 105 = .ok (.dup, 1) := by decide +kernel
theorem dX9_goFrom_106 : decode cX9_goFrom 106 = .ok (.getfield 184, 3) := by decide +kernel
theorem dX9_goFrom_109 : decode cX9_goFrom 109 = .ok (.iconst 1, 1) := by decide +kernel
theorem dX9_goFrom_110 : decode cX9_goFrom 110 = .ok (.iadd, 1) := by decide +kernel
theorem dX9_goFrom_111 : decode cX9_goFrom 111 = .ok (.putfield 184, 3) := by decide +kernel
theorem dX9_goFrom_114 : decode cX9_goFrom 114 = .ok (.aload_n 0, 1) := by decide +kernel
theorem dX9_goFrom_115 : decode cX9_goFrom 115 = .ok (.getfield 61, 3) := by decide +kernel
theorem dX9_goFrom_118 : decode cX9_goFrom 118 = .ok (.iload_n 3, 1) := by decide +kernel
theorem dX9_goFrom_119 : decode cX9_goFrom 119 = .ok (.iload 7, 2) := by decide +kernel
theorem dX9_goFrom_121 : decode cX9_goFrom 121 = .ok (.iastore, 1) := by decide +kernel
theorem dX9_goFrom_122 : decode cX9_goFrom 122 = .ok (.aload_n 0, 1) := by decide +kernel
theorem dX9_goFrom_123 : decode cX9_goFrom 123 = .ok (.getfield 64, 3) := by decide +kernel
theorem dX9_goFrom_126 : decode cX9_goFrom 126 = .ok (.iload_n 3, 1) := by decide +kernel
theorem dX9_goFrom_127 : decode cX9_goFrom 127 = .ok (.iload 4, 2) := by decide +kernel
theorem dX9_goFrom_129 : decode cX9_goFrom 129 = .ok (.iastore, 1) := by decide +kernel
theorem dX9_goFrom_130 : decode cX9_goFrom 130 = .ok (.iinc 2 1, 3) := by decide +kernel
theorem dX9_goFrom_133 : decode cX9_goFrom 133 = .ok (.goto (-131), 3) := by decide +kernel
theorem dX9_goFrom_136 : decode cX9_goFrom 136 = .ok (.return_, 1) := by decide +kernel
theorem dX9_leastFrom_0 : decode cX9_leastFrom 0 = .ok (.iconst (-1), 1) := by decide +kernel
theorem dX9_leastFrom_1 : decode cX9_leastFrom 1 = .ok (.istore_n 3, 1) := by decide +kernel
theorem dX9_leastFrom_2 : decode cX9_leastFrom 2 = .ok (.iconst 0, 1) := by decide +kernel
theorem dX9_leastFrom_3 : decode cX9_leastFrom 3 = .ok (.istore 4, 2) := by decide +kernel
theorem dX9_leastFrom_5 : decode cX9_leastFrom 5 = .ok (.iload 4, 2) := by decide +kernel
theorem dX9_leastFrom_7 : decode cX9_leastFrom 7 = .ok (.sipush 256, 3) := by decide +kernel
theorem dX9_leastFrom_10 : decode cX9_leastFrom 10 = .ok (.if_icmp .ge 41, 3) := by decide +kernel
theorem dX9_leastFrom_13 : decode cX9_leastFrom 13 = .ok (.aload_n 0, 1) := by decide +kernel
theorem dX9_leastFrom_14 : decode cX9_leastFrom 14 = .ok (.iload_n 1, 1) := by decide +kernel
theorem dX9_leastFrom_15 : decode cX9_leastFrom 15 = .ok (.iload 4, 2) := by decide +kernel
theorem dX9_leastFrom_17 : decode cX9_leastFrom 17 = .ok (.iload_n 2, 1) := by decide +kernel
theorem dX9_leastFrom_18 : decode cX9_leastFrom 18 = .ok (.invokevirtual 191, 3) := by decide +kernel
theorem dX9_leastFrom_21 : decode cX9_leastFrom 21 = .ok (.istore 5, 2) := by decide +kernel
theorem dX9_leastFrom_23 : decode cX9_leastFrom 23 = .ok (.iload 5, 2) := by decide +kernel
theorem dX9_leastFrom_25 : decode cX9_leastFrom 25 = .ok (.ifCond .lt 18, 3) := by decide +kernel
theorem dX9_leastFrom_28 : decode cX9_leastFrom 28 = .ok (.iload_n 3, 1) := by decide +kernel
theorem dX9_leastFrom_29 : decode cX9_leastFrom 29 = .ok (.ifCond .lt 9, 3) := by decide +kernel
theorem dX9_leastFrom_32 : decode cX9_leastFrom 32 = .ok (.iload 5, 2) := by decide +kernel
theorem dX9_leastFrom_34 : decode cX9_leastFrom 34 = .ok (.iload_n 3, 1) := by decide +kernel
theorem dX9_leastFrom_35 : decode cX9_leastFrom 35 = .ok (.if_icmp .ge 8, 3) := by decide +kernel
theorem dX9_leastFrom_38 : decode cX9_leastFrom 38 = .ok (.iload 5, 2) := by decide +kernel
theorem dX9_leastFrom_40 : decode cX9_leastFrom 40 = .ok (.goto 4, 3) := by decide +kernel
theorem dX9_leastFrom_43 : decode cX9_leastFrom 43 = .ok (.iload_n 3, 1) := by decide +kernel
theorem dX9_leastFrom_44 : decode cX9_leastFrom 44 = .ok (.istore_n 3, 1) := by decide +kernel
theorem dX9_leastFrom_45 : decode cX9_leastFrom 45 = .ok (.iinc 4 1, 3) := by decide +kernel
theorem dX9_leastFrom_48 : decode cX9_leastFrom 48 = .ok (.goto (-43), 3) := by decide +kernel
theorem dX9_leastFrom_51 : decode cX9_leastFrom 51 = .ok (.iload_n 3, 1) := by decide +kernel
theorem dX9_leastFrom_52 : decode cX9_leastFrom 52 = .ok (.ireturn, 1) := by decide +kernel
theorem dX9_by_0 : decode cX9_by 0 = .ok (.sipush 256, 3) := by decide +kernel
theorem dX9_by_3 : decode cX9_by 3 = .ok (.iload_n 1, 1) := by decide +kernel
theorem dX9_by_4 : decode cX9_by 4 = .ok (.imul, 1) := by decide +kernel
theorem dX9_by_5 : decode cX9_by 5 = .ok (.iload_n 2, 1) := by decide +kernel
theorem dX9_by_6 : decode cX9_by 6 = .ok (.iadd, 1) := by decide +kernel
theorem dX9_by_7 : decode cX9_by 7 = .ok (.istore 4, 2) := by decide +kernel
theorem dX9_by_9 : decode cX9_by 9 = .ok (.aload_n 0, 1) := by decide +kernel
theorem dX9_by_10 : decode cX9_by 10 = .ok (.getfield 61, 3) := by decide +kernel
theorem dX9_by_13 : decode cX9_by 13 = .ok (.iload 4, 2) := by decide +kernel
theorem dX9_by_15 : decode cX9_by 15 = .ok (.iaload, 1) := by decide +kernel
theorem dX9_by_16 : decode cX9_by 16 = .ok (.ifCond .lt 14, 3) := by decide +kernel
theorem dX9_by_19 : decode cX9_by 19 = .ok (.aload_n 0, 1) := by decide +kernel
theorem dX9_by_20 : decode cX9_by 20 = .ok (.getfield 64, 3) := by decide +kernel
theorem dX9_by_23 : decode cX9_by 23 = .ok (.iload 4, 2) := by decide +kernel
theorem dX9_by_25 : decode cX9_by 25 = .ok (.iaload, 1) := by decide +kernel
theorem dX9_by_26 : decode cX9_by 26 = .ok (.iload_n 3, 1) := by decide +kernel
theorem dX9_by_27 : decode cX9_by 27 = .ok (.if_icmp .le 5, 3) := by decide +kernel
theorem dX9_by_30 : decode cX9_by 30 = .ok (.iconst (-1), 1) := by decide +kernel
theorem dX9_by_31 : decode cX9_by 31 = .ok (.ireturn, 1) := by decide +kernel
theorem dX9_by_32 : decode cX9_by 32 = .ok (.aload_n 0, 1) := by decide +kernel
theorem dX9_by_33 : decode cX9_by 33 = .ok (.getfield 68, 3) := by decide +kernel
theorem dX9_by_36 : decode cX9_by 36 = .ok (.sipush 600, 3) := by decide +kernel
theorem dX9_by_39 : decode cX9_by 39 = .ok (.iload_n 3, 1) := by decide +kernel
theorem dX9_by_40 : decode cX9_by 40 = .ok (.aload_n 0, 1) := by decide +kernel
theorem dX9_by_41 : decode cX9_by 41 = .ok (.getfield 64, 3) := by decide +kernel
theorem dX9_by_44 : decode cX9_by 44 = .ok (.iload 4, 2) := by decide +kernel
theorem dX9_by_46 : decode cX9_by 46 = .ok (.iaload, 1) := by decide +kernel
theorem dX9_by_47 : decode cX9_by 47 = .ok (.isub, 1) := by decide +kernel
theorem dX9_by_48 : decode cX9_by 48 = .ok (.imul, 1) := by decide +kernel
theorem dX9_by_49 : decode cX9_by 49 = .ok (.aload_n 0, 1) := by decide +kernel
theorem dX9_by_50 : decode cX9_by 50 = .ok (.getfield 61, 3) := by decide +kernel
theorem dX9_by_53 : decode cX9_by 53 = .ok (.iload 4, 2) := by decide +kernel
theorem dX9_by_55 : decode cX9_by 55 = .ok (.iaload, 1) := by decide +kernel
theorem dX9_by_56 : decode cX9_by 56 = .ok (.iadd, 1) := by decide +kernel
theorem dX9_by_57 : decode cX9_by 57 = .ok (.iaload, 1) := by decide +kernel
theorem dX9_by_58 : decode cX9_by 58 = .ok (.istore 5, 2) := by decide +kernel
theorem dX9_by_60 : decode cX9_by 60 = .ok (.iload 5, 2) := by decide +kernel
theorem dX9_by_62 : decode cX9_by 62 = .ok (.ifCond .ge 7, 3) := by decide +kernel
theorem dX9_by_65 : decode cX9_by 65 = .ok (.iconst (-1), 1) := by decide +kernel
theorem dX9_by_66 : decode cX9_by 66 = .ok (.goto 10, 3) := by decide +kernel
theorem dX9_by_69 : decode cX9_by 69 = .ok (.iload 5, 2) := by decide +kernel
theorem dX9_by_71 : decode cX9_by 71 = .ok (.iload_n 2, 1) := by decide +kernel
theorem dX9_by_72 : decode cX9_by 72 = .ok (.invokestatic 176, 3) := by decide +kernel
theorem dX9_by_75 : decode cX9_by 75 = .ok (.iadd, 1) := by decide +kernel
theorem dX9_by_76 : decode cX9_by 76 = .ok (.ireturn, 1) := by decide +kernel
theorem dX9_findSoon_0 : decode cX9_findSoon 0 = .ok (.iconst 0, 1) := by decide +kernel
theorem dX9_findSoon_1 : decode cX9_findSoon 1 = .ok (.istore_n 1, 1) := by decide +kernel
theorem dX9_findSoon_2 : decode cX9_findSoon 2 = .ok (.iload_n 1, 1) := by decide +kernel
theorem dX9_findSoon_3 : decode cX9_findSoon 3 = .ok (.aload_n 0, 1) := by decide +kernel
theorem dX9_findSoon_4 : decode cX9_findSoon 4 = .ok (.getfield 184, 3) := by decide +kernel
theorem dX9_findSoon_7 : decode cX9_findSoon 7 = .ok (.if_icmp .ge 32, 3) := by decide +kernel
theorem dX9_findSoon_10 : decode cX9_findSoon 10 = .ok (.aload_n 0, 1) := by decide +kernel
theorem dX9_findSoon_11 : decode cX9_findSoon 11 = .ok (.getfield 71, 3) := by decide +kernel
theorem dX9_findSoon_14 : decode cX9_findSoon 14 = .ok (.iload_n 1, 1) := by decide +kernel
theorem dX9_findSoon_15 : decode cX9_findSoon 15 = .ok (.iload_n 1, 1) := by decide +kernel
theorem dX9_findSoon_16 : decode cX9_findSoon 16 = .ok (.ifCond .ne 7, 3) := by decide +kernel
theorem dX9_findSoon_19 : decode cX9_findSoon 19 = .ok (.iconst 0, 1) := by decide +kernel
theorem dX9_findSoon_20 : decode cX9_findSoon 20 = .ok (.goto 5, 3) := by decide +kernel
theorem dX9_findSoon_23 : decode cX9_findSoon 23 = .ok (.ldc 195, 2) := by decide +kernel
theorem dX9_findSoon_25 : decode cX9_findSoon 25 = .ok (.iastore, 1) := by decide +kernel
theorem dX9_findSoon_26 : decode cX9_findSoon 26 = .ok (.aload_n 0, 1) := by decide +kernel
theorem dX9_findSoon_27 : decode cX9_findSoon 27 = .ok (.getfield 74, 3) := by decide +kernel
theorem dX9_findSoon_30 : decode cX9_findSoon 30 = .ok (.iload_n 1, 1) := by decide +kernel
theorem dX9_findSoon_31 : decode cX9_findSoon 31 = .ok (.iconst 0, 1) := by decide +kernel
theorem dX9_findSoon_32 : decode cX9_findSoon 32 = .ok (.bastore, 1) := by decide +kernel
theorem dX9_findSoon_33 : decode cX9_findSoon 33 = .ok (.iinc 1 1, 3) := by decide +kernel
theorem dX9_findSoon_36 : decode cX9_findSoon 36 = .ok (.goto (-34), 3) := by decide +kernel
theorem dX9_findSoon_39 : decode cX9_findSoon 39 = .ok (.iconst 0, 1) := by decide +kernel
theorem dX9_findSoon_40 : decode cX9_findSoon 40 = .ok (.istore_n 1, 1) := by decide +kernel
theorem dX9_findSoon_41 : decode cX9_findSoon 41 = .ok (.iload_n 1, 1) := by decide +kernel
theorem dX9_findSoon_42 : decode cX9_findSoon 42 = .ok (.aload_n 0, 1) := by decide +kernel
theorem dX9_findSoon_43 : decode cX9_findSoon 43 = .ok (.getfield 184, 3) := by decide +kernel
theorem dX9_findSoon_46 : decode cX9_findSoon 46 = .ok (.if_icmp .ge 157, 3) := by decide +kernel
theorem dX9_findSoon_49 : decode cX9_findSoon 49 = .ok (.iconst (-1), 1) := by decide +kernel
theorem dX9_findSoon_50 : decode cX9_findSoon 50 = .ok (.istore_n 2, 1) := by decide +kernel
theorem dX9_findSoon_51 : decode cX9_findSoon 51 = .ok (.iconst 0, 1) := by decide +kernel
theorem dX9_findSoon_52 : decode cX9_findSoon 52 = .ok (.istore_n 3, 1) := by decide +kernel
theorem dX9_findSoon_53 : decode cX9_findSoon 53 = .ok (.iload_n 3, 1) := by decide +kernel
theorem dX9_findSoon_54 : decode cX9_findSoon 54 = .ok (.aload_n 0, 1) := by decide +kernel
theorem dX9_findSoon_55 : decode cX9_findSoon 55 = .ok (.getfield 184, 3) := by decide +kernel
theorem dX9_findSoon_58 : decode cX9_findSoon 58 = .ok (.if_icmp .ge 43, 3) := by decide +kernel
theorem dX9_findSoon_61 : decode cX9_findSoon 61 = .ok (.aload_n 0, 1) := by decide +kernel
theorem dX9_findSoon_62 : decode cX9_findSoon 62 = .ok (.getfield 74, 3) := by decide +kernel
theorem dX9_findSoon_65 : decode cX9_findSoon 65 = .ok (.iload_n 3, 1) := by decide +kernel
theorem dX9_findSoon_66 : decode cX9_findSoon 66 = .ok (.baload, 1) := by decide +kernel
theorem dX9_findSoon_67 : decode cX9_findSoon 67 = .ok (.ifCond .ne 26, 3) := by decide +kernel
theorem dX9_findSoon_70 : decode cX9_findSoon 70 = .ok (.iload_n 2, 1) := by decide +kernel
theorem dX9_findSoon_71 : decode cX9_findSoon 71 = .ok (.ifCond .lt 18, 3) := by decide +kernel
theorem dX9_findSoon_74 : decode cX9_findSoon 74 = .ok (.aload_n 0, 1) := by decide +kernel
theorem dX9_findSoon_75 : decode cX9_findSoon 75 = .ok (.getfield 71, 3) := by decide +kernel
theorem dX9_findSoon_78 : decode cX9_findSoon 78 = .ok (.iload_n 3, 1) := by decide +kernel
theorem dX9_findSoon_79 : decode cX9_findSoon 79 = .ok (.iaload, 1) := by decide +kernel
theorem dX9_findSoon_80 : decode cX9_findSoon 80 = .ok (.aload_n 0, 1) := by decide +kernel
theorem dX9_findSoon_81 : decode cX9_findSoon 81 = .ok (.getfield 71, 3) := by decide +kernel
theorem dX9_findSoon_84 : decode cX9_findSoon 84 = .ok (.iload_n 2, 1) := by decide +kernel
theorem dX9_findSoon_85 : decode cX9_findSoon 85 = .ok (.iaload, 1) := by decide +kernel
theorem dX9_findSoon_86 : decode cX9_findSoon 86 = .ok (.if_icmp .ge 7, 3) := by decide +kernel
theorem dX9_findSoon_89 : decode cX9_findSoon 89 = .ok (.iload_n 3, 1) := by decide +kernel
theorem dX9_findSoon_90 : decode cX9_findSoon 90 = .ok (.goto 4, 3) := by decide +kernel
theorem dX9_findSoon_93 : decode cX9_findSoon 93 = .ok (.iload_n 2, 1) := by decide +kernel
theorem dX9_findSoon_94 : decode cX9_findSoon 94 = .ok (.istore_n 2, 1) := by decide +kernel
theorem dX9_findSoon_95 : decode cX9_findSoon 95 = .ok (.iinc 3 1, 3) := by decide +kernel
theorem dX9_findSoon_98 : decode cX9_findSoon 98 = .ok (.goto (-45), 3) := by decide +kernel
theorem dX9_findSoon_101 : decode cX9_findSoon 101 = .ok (.aload_n 0, 1) := by decide +kernel
theorem dX9_findSoon_102 : decode cX9_findSoon 102 = .ok (.getfield 74, 3) := by decide +kernel
theorem dX9_findSoon_105 : decode cX9_findSoon 105 = .ok (.iload_n 2, 1) := by decide +kernel
theorem dX9_findSoon_106 : decode cX9_findSoon 106 = .ok (.iconst 1, 1) := by decide +kernel
theorem dX9_findSoon_107 : decode cX9_findSoon 107 = .ok (.bastore, 1) := by decide +kernel
theorem dX9_findSoon_108 : decode cX9_findSoon 108 = .ok (.iconst 0, 1) := by decide +kernel
theorem dX9_findSoon_109 : decode cX9_findSoon 109 = .ok (.istore_n 3, 1) := by decide +kernel
theorem dX9_findSoon_110 : decode cX9_findSoon 110 = .ok (.iload_n 3, 1) := by decide +kernel
theorem dX9_findSoon_111 : decode cX9_findSoon 111 = .ok (.sipush 256, 3) := by decide +kernel
theorem dX9_findSoon_114 : decode cX9_findSoon 114 = .ok (.if_icmp .ge 83, 3) := by decide +kernel
theorem dX9_findSoon_117 : decode cX9_findSoon 117 = .ok (.sipush 256, 3) := by decide +kernel
theorem dX9_findSoon_120 : decode cX9_findSoon 120 = .ok (.iload_n 2, 1) := by decide +kernel
theorem dX9_findSoon_121 : decode cX9_findSoon 121 = .ok (.imul, 1) := by decide +kernel
theorem dX9_findSoon_122 : decode cX9_findSoon 122 = .ok (.iload_n 3, 1) := by decide +kernel
theorem dX9_findSoon_123 : decode cX9_findSoon 123 = .ok (.iadd, 1) := by decide +kernel
theorem dX9_findSoon_124 : decode cX9_findSoon 124 = .ok (.istore 4, 2) := by decide +kernel
theorem dX9_findSoon_126 : decode cX9_findSoon 126 = .ok (.aload_n 0, 1) := by decide +kernel
theorem dX9_findSoon_127 : decode cX9_findSoon 127 = .ok (.getfield 61, 3) := by decide +kernel
theorem dX9_findSoon_130 : decode cX9_findSoon 130 = .ok (.iload 4, 2) := by decide +kernel
theorem dX9_findSoon_132 : decode cX9_findSoon 132 = .ok (.iaload, 1) := by decide +kernel
theorem dX9_findSoon_133 : decode cX9_findSoon 133 = .ok (.ifCond .lt 58, 3) := by decide +kernel
theorem dX9_findSoon_136 : decode cX9_findSoon 136 = .ok (.aload_n 0, 1) := by decide +kernel
theorem dX9_findSoon_137 : decode cX9_findSoon 137 = .ok (.getfield 71, 3) := by decide +kernel
theorem dX9_findSoon_140 : decode cX9_findSoon 140 = .ok (.iload_n 2, 1) := by decide +kernel
theorem dX9_findSoon_141 : decode cX9_findSoon 141 = .ok (.iaload, 1) := by decide +kernel
theorem dX9_findSoon_142 : decode cX9_findSoon 142 = .ok (.aload_n 0, 1) := by decide +kernel
theorem dX9_findSoon_143 : decode cX9_findSoon 143 = .ok (.getfield 64, 3) := by decide +kernel
theorem dX9_findSoon_146 : decode cX9_findSoon 146 = .ok (.iload 4, 2) := by decide +kernel
theorem dX9_findSoon_148 : decode cX9_findSoon 148 = .ok (.iaload, 1) := by decide +kernel
theorem dX9_findSoon_149 : decode cX9_findSoon 149 = .ok (.iadd, 1) := by decide +kernel
theorem dX9_findSoon_150 : decode cX9_findSoon 150 = .ok (.aload_n 0, 1) := by decide +kernel
theorem dX9_findSoon_151 : decode cX9_findSoon 151 = .ok (.getfield 71, 3) := by decide +kernel
theorem dX9_findSoon_154 : decode cX9_findSoon 154 = .ok (.aload_n 0, 1) := by decide +kernel
theorem dX9_findSoon_155 : decode cX9_findSoon 155 = .ok (.getfield 61, 3) := by decide +kernel
theorem dX9_findSoon_158 : decode cX9_findSoon 158 = .ok (.iload 4, 2) := by decide +kernel
theorem dX9_findSoon_160 : decode cX9_findSoon 160 = .ok (.iaload, 1) := by decide +kernel
theorem dX9_findSoon_161 : decode cX9_findSoon 161 = .ok (.iaload, 1) := by decide +kernel
theorem dX9_findSoon_162 : decode cX9_findSoon 162 = .ok (.if_icmp .ge 29, 3) := by decide +kernel
theorem dX9_findSoon_165 : decode cX9_findSoon 165 = .ok (.aload_n 0, 1) := by decide +kernel
theorem dX9_findSoon_166 : decode cX9_findSoon 166 = .ok (.getfield 71, 3) := by decide +kernel
theorem dX9_findSoon_169 : decode cX9_findSoon 169 = .ok (.aload_n 0, 1) := by decide +kernel
theorem dX9_findSoon_170 : decode cX9_findSoon 170 = .ok (.getfield 61, 3) := by decide +kernel
theorem dX9_findSoon_173 : decode cX9_findSoon 173 = .ok (.iload 4, 2) := by decide +kernel
theorem dX9_findSoon_175 : decode cX9_findSoon 175 = .ok (.iaload, 1) := by decide +kernel
theorem dX9_findSoon_176 : decode cX9_findSoon 176 = .ok (.aload_n 0, 1) := by decide +kernel
theorem dX9_findSoon_177 : decode cX9_findSoon 177 = .ok (.getfield 71, 3) := by decide +kernel
theorem dX9_findSoon_180 : decode cX9_findSoon 180 = .ok (.iload_n 2, 1) := by decide +kernel
theorem dX9_findSoon_181 : decode cX9_findSoon 181 = .ok (.iaload, 1) := by decide +kernel
theorem dX9_findSoon_182 : decode cX9_findSoon 182 = .ok (.aload_n 0, 1) := by decide +kernel
theorem dX9_findSoon_183 : decode cX9_findSoon 183 = .ok (.getfield 64, 3) := by decide +kernel
theorem dX9_findSoon_186 : decode cX9_findSoon 186 = .ok (.iload 4, 2) := by decide +kernel
theorem dX9_findSoon_188 : decode cX9_findSoon 188 = .ok (.iaload, 1) := by decide +kernel
theorem dX9_findSoon_189 : decode cX9_findSoon 189 = .ok (.iadd, 1) := by decide +kernel
theorem dX9_findSoon_190 : decode cX9_findSoon 190 = .ok (.iastore, 1) := by decide +kernel
theorem dX9_findSoon_191 : decode cX9_findSoon 191 = .ok (.iinc 3 1, 3) := by decide +kernel
theorem dX9_findSoon_194 : decode cX9_findSoon 194 = .ok (.goto (-84), 3) := by decide +kernel
theorem dX9_findSoon_197 : decode cX9_findSoon 197 = .ok (.iinc 1 1, 3) := by decide +kernel
theorem dX9_findSoon_200 : decode cX9_findSoon 200 = .ok (.goto (-159), 3) := by decide +kernel
theorem dX9_findSoon_203 : decode cX9_findSoon 203 = .ok (.return_, 1) := by decide +kernel
theorem dX9_findAll_0 : decode cX9_findAll 0 = .ok (.aload_n 0, 1) := by decide +kernel
theorem dX9_findAll_1 : decode cX9_findAll 1 = .ok (.getfield 105, 3) := by decide +kernel
theorem dX9_findAll_4 : decode cX9_findAll 4 = .ok (.ifCond .ne 121, 3) := by decide +kernel
theorem dX9_findAll_7 : decode cX9_findAll 7 = .ok (.aload_n 0, 1) := by decide +kernel
theorem dX9_findAll_8 : decode cX9_findAll 8 = .ok (.iconst 1, 1) := by decide +kernel
theorem dX9_findAll_9 : decode cX9_findAll 9 = .ok (.putfield 105, 3) := by decide +kernel
theorem dX9_findAll_12 : decode cX9_findAll 12 = .ok (.aload_n 0, 1) := by decide +kernel
theorem dX9_findAll_13 : decode cX9_findAll 13 = .ok (.getfield 57, 3) := by decide +kernel
theorem dX9_findAll_16 : decode cX9_findAll 16 = .ok (.iconst 0, 1) := by decide +kernel
theorem dX9_findAll_17 : decode cX9_findAll 17 = .ok (.lconst 0, 1) := by decide +kernel
theorem dX9_findAll_18 : decode cX9_findAll 18 = .ok (.lastore, 1) := by decide +kernel
theorem dX9_findAll_19 : decode cX9_findAll 19 = .ok (.aload_n 0, 1) := by decide +kernel
theorem dX9_findAll_20 : decode cX9_findAll 20 = .ok (.iconst 1, 1) := by decide +kernel
theorem dX9_findAll_21 : decode cX9_findAll 21 = .ok (.putfield 184, 3) := by decide +kernel
theorem dX9_findAll_24 : decode cX9_findAll 24 = .ok (.iconst 0, 1) := by decide +kernel
theorem dX9_findAll_25 : decode cX9_findAll 25 = .ok (.istore_n 1, 1) := by decide +kernel
theorem dX9_findAll_26 : decode cX9_findAll 26 = .ok (.iload_n 1, 1) := by decide +kernel
theorem dX9_findAll_27 : decode cX9_findAll 27 = .ok (.aload_n 0, 1) := by decide +kernel
theorem dX9_findAll_28 : decode cX9_findAll 28 = .ok (.getfield 184, 3) := by decide +kernel
theorem dX9_findAll_31 : decode cX9_findAll 31 = .ok (.if_icmp .ge 24, 3) := by decide +kernel
theorem dX9_findAll_34 : decode cX9_findAll 34 = .ok (.aload_n 0, 1) := by decide +kernel
theorem dX9_findAll_35 : decode cX9_findAll 35 = .ok (.getfield 184, 3) := by decide +kernel
theorem dX9_findAll_38 : decode cX9_findAll 38 = .ok (.sipush 600, 3) := by decide +kernel
theorem dX9_findAll_41 : decode cX9_findAll 41 = .ok (.if_icmp .gt 14, 3) := by decide +kernel
theorem dX9_findAll_44 : decode cX9_findAll 44 = .ok (.aload_n 0, 1) := by decide +kernel
theorem dX9_findAll_45 : decode cX9_findAll 45 = .ok (.iload_n 1, 1) := by decide +kernel
theorem dX9_findAll_46 : decode cX9_findAll 46 = .ok (.invokevirtual 196, 3) := by decide +kernel
theorem dX9_findAll_49 : decode cX9_findAll 49 = .ok (.iinc 1 1, 3) := by decide +kernel
theorem dX9_findAll_52 : decode cX9_findAll 52 = .ok (.goto (-26), 3) := by decide +kernel
theorem dX9_findAll_55 : decode cX9_findAll 55 = .ok (.aload_n 0, 1) := by decide +kernel
theorem dX9_findAll_56 : decode cX9_findAll 56 = .ok (.getfield 184, 3) := by decide +kernel
theorem dX9_findAll_59 : decode cX9_findAll 59 = .ok (.sipush 600, 3) := by decide +kernel
theorem dX9_findAll_62 : decode cX9_findAll 62 = .ok (.if_icmp .gt 63, 3) := by decide +kernel
theorem dX9_findAll_65 : decode cX9_findAll 65 = .ok (.iconst 0, 1) := by decide +kernel
theorem dX9_findAll_66 : decode cX9_findAll 66 = .ok (.istore_n 1, 1) := by decide +kernel
theorem dX9_findAll_67 : decode cX9_findAll 67 = .ok (.iload_n 1, 1) := by decide +kernel
theorem dX9_findAll_68 : decode cX9_findAll 68 = .ok (.bipush 60, 2) := by decide +kernel
theorem dX9_findAll_70 : decode cX9_findAll 70 = .ok (.if_icmp .gt 51, 3) := by decide +kernel
theorem dX9_findAll_73 : decode cX9_findAll 73 = .ok (.iconst 0, 1) := by decide +kernel
theorem dX9_findAll_74 : decode cX9_findAll 74 = .ok (.istore_n 2, 1) := by decide +kernel
theorem dX9_findAll_75 : decode cX9_findAll 75 = .ok (.iload_n 2, 1) := by decide +kernel
theorem dX9_findAll_76 : decode cX9_findAll 76 = .ok (.aload_n 0, 1) := by decide +kernel
theorem dX9_findAll_77 : decode cX9_findAll 77 = .ok (.getfield 184, 3) := by decide +kernel
theorem dX9_findAll_80 : decode cX9_findAll 80 = .ok (.if_icmp .ge 35, 3) := by decide +kernel
theorem dX9_findAll_83 : decode cX9_findAll 83 = .ok (.aload_n 0, 1) := by decide +kernel
theorem dX9_findAll_84 : decode cX9_findAll 84 = .ok (.getfield 68, 3) := by decide +kernel
theorem dX9_findAll_87 : decode cX9_findAll 87 = .ok (.sipush 600, 3) := by decide +kernel
theorem dX9_findAll_90 : decode cX9_findAll 90 = .ok (.iload_n 1, 1) := by decide +kernel
theorem dX9_findAll_91 : decode cX9_findAll 91 = .ok (.imul, 1) := by decide +kernel
theorem dX9_findAll_92 : decode cX9_findAll 92 = .ok (.iload_n 2, 1) := by decide +kernel
theorem dX9_findAll_93 : decode cX9_findAll 93 = .ok (.iadd, 1) := by decide +kernel
theorem dX9_findAll_94 : decode cX9_findAll 94 = .ok (.iload_n 1, 1) := by decide +kernel
theorem dX9_findAll_95 : decode cX9_findAll 95 = .ok (.ifCond .ne 7, 3) := by decide +kernel
theorem dX9_findAll_98 : decode cX9_findAll 98 = .ok (.iconst 0, 1) := by decide +kernel
theorem dX9_findAll_99 : decode cX9_findAll 99 = .ok (.goto 9, 3) := by decide +kernel
theorem dX9_findAll_102 : decode cX9_findAll 102 = .ok (.aload_n 0, 1) := by decide +kernel
theorem dX9_findAll_103 : decode cX9_findAll 103 = .ok (.iload_n 2, 1) := by decide +kernel
theorem dX9_findAll_104 : decode cX9_findAll 104 = .ok (.iload_n 1, 1) := by decide +kernel
theorem dX9_findAll_105 : decode cX9_findAll 105 = .ok (.invokevirtual 199, 3) := by decide +kernel
theorem dX9_findAll_108 : decode cX9_findAll 108 = .ok (.iastore, 1) := by decide +kernel
theorem dX9_findAll_109 : decode cX9_findAll 109 = .ok (.iinc 2 1, 3) := by decide +kernel
theorem dX9_findAll_112 : decode cX9_findAll 112 = .ok (.goto (-37), 3) := by decide +kernel
theorem dX9_findAll_115 : decode cX9_findAll 115 = .ok (.iinc 1 1, 3) := by decide +kernel
theorem dX9_findAll_118 : decode cX9_findAll 118 = .ok (.goto (-51), 3) := by decide +kernel
theorem dX9_findAll_121 : decode cX9_findAll 121 = .ok (.aload_n 0, 1) := by decide +kernel
theorem dX9_findAll_122 : decode cX9_findAll 122 = .ok (.invokevirtual 202, 3) := by decide +kernel
theorem dX9_findAll_125 : decode cX9_findAll 125 = .ok (.aload_n 0, 1) := by decide +kernel
theorem dX9_findAll_126 : decode cX9_findAll 126 = .ok (.getfield 184, 3) := by decide +kernel
theorem dX9_findAll_129 : decode cX9_findAll 129 = .ok (.sipush 600, 3) := by decide +kernel
theorem dX9_findAll_132 : decode cX9_findAll 132 = .ok (.if_icmp .gt 7, 3) := by decide +kernel
theorem dX9_findAll_135 : decode cX9_findAll 135 = .ok (.iconst 1, 1) := by decide +kernel
theorem dX9_findAll_136 : decode cX9_findAll 136 = .ok (.goto 4, 3) := by decide +kernel
theorem dX9_findAll_139 : decode cX9_findAll 139 = .ok (.iconst 0, 1) := by decide +kernel
theorem dX9_findAll_140 : decode cX9_findAll 140 = .ok (.ireturn, 1) := by decide +kernel
theorem dX9_reach_0 : decode cX9_reach 0 = .ok (.aload_n 0, 1) := by decide +kernel
theorem dX9_reach_1 : decode cX9_reach 1 = .ok (.invokevirtual 205, 3) := by decide +kernel
theorem dX9_reach_4 : decode cX9_reach 4 = .ok (.ifCond .eq 10, 3) := by decide +kernel
theorem dX9_reach_7 : decode cX9_reach 7 = .ok (.aload_n 0, 1) := by decide +kernel
theorem dX9_reach_8 : decode cX9_reach 8 = .ok (.getfield 184, 3) := by decide +kernel
theorem dX9_reach_11 : decode cX9_reach 11 = .ok (.goto 5, 3) := by decide +kernel
theorem dX9_reach_14 : decode cX9_reach 14 = .ok (.bipush (-8), 2) := by decide +kernel
theorem dX9_reach_16 : decode cX9_reach 16 = .ok (.ireturn, 1) := by decide +kernel
theorem dX9_config_0 : decode cX9_config 0 = .ok (.aload_n 0, 1) := by decide +kernel
theorem dX9_config_1 : decode cX9_config 1 = .ok (.invokevirtual 205, 3) := by decide +kernel
theorem dX9_config_4 : decode cX9_config 4 = .ok (.ifCond .eq 34, 3) := by decide +kernel
theorem dX9_config_7 : decode cX9_config 7 = .ok (.iload_n 1, 1) := by decide +kernel
theorem dX9_config_8 : decode cX9_config 8 = .ok (.iconst 0, 1) := by decide +kernel
theorem dX9_config_9 : decode cX9_config 9 = .ok (.aload_n 0, 1) := by decide +kernel
theorem dX9_config_10 : decode cX9_config 10 = .ok (.getfield 184, 3) := by decide +kernel
theorem dX9_config_13 : decode cX9_config 13 = .ok (.iconst 1, 1) := by decide +kernel
theorem dX9_config_14 : decode cX9_config 14 = .ok (.isub, 1) := by decide +kernel
theorem dX9_config_15 : decode cX9_config 15 = .ok (.invokestatic 83, 3) := by decide +kernel
theorem dX9_config_18 : decode cX9_config 18 = .ok (.ifCond .eq 20, 3) := by decide +kernel
theorem dX9_config_21 : decode cX9_config 21 = .ok (.aload_n 0, 1) := by decide +kernel
theorem dX9_config_22 : decode cX9_config 22 = .ok (.iload_n 2, 1) := by decide +kernel
theorem dX9_config_23 : decode cX9_config 23 = .ok (.invokevirtual 102, 3) := by decide +kernel
theorem dX9_config_26 : decode cX9_config 26 = .ok (.ifCond .eq 12, 3) := by decide +kernel
theorem dX9_config_29 : decode cX9_config 29 = .ok (.iload_n 3, 1) := by decide +kernel
theorem dX9_config_30 : decode cX9_config 30 = .ok (.iconst 0, 1) := by decide +kernel
theorem dX9_config_31 : decode cX9_config 31 = .ok (.iconst 2, 1) := by decide +kernel
theorem dX9_config_32 : decode cX9_config 32 = .ok (.invokestatic 83, 3) := by decide +kernel
theorem dX9_config_35 : decode cX9_config 35 = .ok (.ifCond .ne 5, 3) := by decide +kernel
theorem dX9_config_38 : decode cX9_config 38 = .ok (.iconst (-1), 1) := by decide +kernel
theorem dX9_config_39 : decode cX9_config 39 = .ok (.ireturn, 1) := by decide +kernel
theorem dX9_config_40 : decode cX9_config 40 = .ok (.lconst 0, 1) := by decide +kernel
theorem dX9_config_41 : decode cX9_config 41 = .ok (.lstore 4, 2) := by decide +kernel
theorem dX9_config_43 : decode cX9_config 43 = .ok (.iconst 0, 1) := by decide +kernel
theorem dX9_config_44 : decode cX9_config 44 = .ok (.istore 6, 2) := by decide +kernel
theorem dX9_config_46 : decode cX9_config 46 = .ok (.iload 6, 2) := by decide +kernel
theorem dX9_config_48 : decode cX9_config 48 = .ok (.aload_n 0, 1) := by decide +kernel
theorem dX9_config_49 : decode cX9_config 49 = .ok (.getfield 184, 3) := by decide +kernel
theorem dX9_config_52 : decode cX9_config 52 = .ok (.if_icmp .ge 78, 3) := by decide +kernel
theorem dX9_config_55 : decode cX9_config 55 = .ok (.iconst 0, 1) := by decide +kernel
theorem dX9_config_56 : decode cX9_config 56 = .ok (.istore 7, 2) := by decide +kernel
theorem dX9_config_58 : decode cX9_config 58 = .ok (.iconst 0, 1) := by decide +kernel
theorem dX9_config_59 : decode cX9_config 59 = .ok (.istore 8, 2) := by decide +kernel
theorem dX9_config_61 : decode cX9_config 61 = .ok (.iload 8, 2) := by decide +kernel
theorem dX9_config_63 : decode cX9_config 63 = .ok (.aload_n 0, 1) := by decide +kernel
theorem dX9_config_64 : decode cX9_config 64 = .ok (.getfield 184, 3) := by decide +kernel
theorem dX9_config_67 : decode cX9_config 67 = .ok (.if_icmp .ge 37, 3) := by decide +kernel
theorem dX9_config_70 : decode cX9_config 70 = .ok (.iload 7, 2) := by decide +kernel
theorem dX9_config_72 : decode cX9_config 72 = .ok (.aload_n 0, 1) := by decide +kernel
theorem dX9_config_73 : decode cX9_config 73 = .ok (.getfield 57, 3) := by decide +kernel
theorem dX9_config_76 : decode cX9_config 76 = .ok (.iload 8, 2) := by decide +kernel
theorem dX9_config_78 : decode cX9_config 78 = .ok (.laload, 1) := by decide +kernel
theorem dX9_config_79 : decode cX9_config 79 = .ok (.aload_n 0, 1) := by decide +kernel
theorem dX9_config_80 : decode cX9_config 80 = .ok (.getfield 57, 3) := by decide +kernel
theorem dX9_config_83 : decode cX9_config 83 = .ok (.iload 6, 2) := by decide +kernel
theorem dX9_config_85 : decode cX9_config 85 = .ok (.laload, 1) := by decide +kernel
theorem dX9_config_86 : decode cX9_config 86 = .ok (.lcmp, 1) := by decide +kernel
theorem dX9_config_87 : decode cX9_config 87 = .ok (.ifCond .ge 7, 3) := by decide +kernel
theorem dX9_config_90 : decode cX9_config 90 = .ok (.iconst 1, 1) := by decide +kernel
theorem dX9_config_91 : decode cX9_config 91 = .ok (.goto 4, 3) := by decide +kernel
theorem dX9_config_94 : decode cX9_config 94 = .ok (.iconst 0, 1) := by decide +kernel
theorem dX9_config_95 : decode cX9_config 95 = .ok (.iadd, 1) := by decide +kernel
theorem dX9_config_96 : decode cX9_config 96 = .ok (.istore 7, 2) := by decide +kernel
theorem dX9_config_98 : decode cX9_config 98 = .ok (.iinc 8 1, 3) := by decide +kernel
theorem dX9_config_101 : decode cX9_config 101 = .ok (.goto (-40), 3) := by decide +kernel
theorem dX9_config_104 : decode cX9_config 104 = .ok (.iload 7, 2) := by decide +kernel
theorem dX9_config_106 : decode cX9_config 106 = .ok (.iload_n 1, 1) := by decide +kernel
theorem dX9_config_107 : decode cX9_config 107 = .ok (.if_icmp .ne 13, 3) := by decide +kernel
theorem dX9_config_110 : decode cX9_config 110 = .ok (.aload_n 0, 1) := by decide +kernel
theorem dX9_config_111 : decode cX9_config 111 = .ok (.getfield 57, 3) := by decide +kernel
theorem dX9_config_114 : decode cX9_config 114 = .ok (.iload 6, 2) := by decide +kernel
theorem dX9_config_116 : decode cX9_config 116 = .ok (.laload, 1) := by decide +kernel
theorem dX9_config_117 : decode cX9_config 117 = .ok (.goto 5, 3) := by decide +kernel
theorem dX9_config_120 : decode cX9_config 120 = .ok (.lload 4, 2) := by decide +kernel
theorem dX9_config_122 : decode cX9_config 122 = .ok (.lstore 4, 2) := by decide +kernel
theorem dX9_config_124 : decode cX9_config 124 = .ok (.iinc 6 1, 3) := by decide +kernel
theorem dX9_config_127 : decode cX9_config 127 = .ok (.goto (-81), 3) := by decide +kernel
theorem dX9_config_130 : decode cX9_config 130 = .ok (.iload_n 3, 1) := by decide +kernel
theorem dX9_config_131 : decode cX9_config 131 = .ok (.ifCond .ne 12, 3) := by decide +kernel
theorem dX9_config_134 : decode cX9_config 134 = .ok (.lload 4, 2) := by decide +kernel
theorem dX9_config_136 : decode cX9_config 136 = .ok (.iload_n 2, 1) := by decide +kernel
theorem dX9_config_137 : decode cX9_config 137 = .ok (.invokestatic 113, 3) := by decide +kernel
theorem dX9_config_140 : decode cX9_config 140 = .ok (.goto 23, 3) := by decide +kernel
theorem dX9_config_143 : decode cX9_config 143 = .ok (.iload_n 3, 1) := by decide +kernel
theorem dX9_config_144 : decode cX9_config 144 = .ok (.iconst 1, 1) := by decide +kernel
theorem dX9_config_145 : decode cX9_config 145 = .ok (.if_icmp .ne 12, 3) := by decide +kernel
theorem dX9_config_148 : decode cX9_config 148 = .ok (.lload 4, 2) := by decide +kernel
theorem dX9_config_150 : decode cX9_config 150 = .ok (.iload_n 2, 1) := by decide +kernel
theorem dX9_config_151 : decode cX9_config 151 = .ok (.invokestatic 117, 3) := by decide +kernel
theorem dX9_config_154 : decode cX9_config 154 = .ok (.goto 9, 3) := by decide +kernel
theorem dX9_config_157 : decode cX9_config 157 = .ok (.lload 4, 2) := by decide +kernel
theorem dX9_config_159 : decode cX9_config 159 = .ok (.iload_n 2, 1) := by decide +kernel
theorem dX9_config_160 : decode cX9_config 160 = .ok (.invokestatic 120, 3) := by decide +kernel
theorem dX9_config_163 : decode cX9_config 163 = .ok (.ireturn, 1) := by decide +kernel
theorem dX9_whyNot_0 : decode cX9_whyNot 0 = .ok (.iload_n 1, 1) := by decide +kernel
theorem dX9_whyNot_1 : decode cX9_whyNot 1 = .ok (.iconst 1, 1) := by decide +kernel
theorem dX9_whyNot_2 : decode cX9_whyNot 2 = .ok (.bipush 60, 2) := by decide +kernel
theorem dX9_whyNot_4 : decode cX9_whyNot 4 = .ok (.invokestatic 83, 3) := by decide +kernel
theorem dX9_whyNot_7 : decode cX9_whyNot 7 = .ok (.ifCond .ne 7, 3) := by decide +kernel
theorem dX9_whyNot_10 : decode cX9_whyNot 10 = .ok (.iconst (-1), 1) := by decide +kernel
theorem dX9_whyNot_11 : decode cX9_whyNot 11 = .ok (.goto 16, 3) := by decide +kernel
theorem dX9_whyNot_14 : decode cX9_whyNot 14 = .ok (.aload_n 0, 1) := by decide +kernel
theorem dX9_whyNot_15 : decode cX9_whyNot 15 = .ok (.invokevirtual 205, 3) := by decide +kernel
theorem dX9_whyNot_18 : decode cX9_whyNot 18 = .ok (.ifCond .eq 7, 3) := by decide +kernel
theorem dX9_whyNot_21 : decode cX9_whyNot 21 = .ok (.iconst 0, 1) := by decide +kernel
theorem dX9_whyNot_22 : decode cX9_whyNot 22 = .ok (.goto 5, 3) := by decide +kernel
theorem dX9_whyNot_25 : decode cX9_whyNot 25 = .ok (.bipush (-8), 2) := by decide +kernel
theorem dX9_whyNot_27 : decode cX9_whyNot 27 = .ok (.ireturn, 1) := by decide +kernel
theorem dX9_pure_0 : decode cX9_pure 0 = .ok (.aload_n 0, 1) := by decide +kernel
theorem dX9_pure_1 : decode cX9_pure 1 = .ok (.iload_n 1, 1) := by decide +kernel
theorem dX9_pure_2 : decode cX9_pure 2 = .ok (.invokevirtual 208, 3) := by decide +kernel
theorem dX9_pure_5 : decode cX9_pure 5 = .ok (.istore_n 2, 1) := by decide +kernel
theorem dX9_pure_6 : decode cX9_pure 6 = .ok (.iload_n 2, 1) := by decide +kernel
theorem dX9_pure_7 : decode cX9_pure 7 = .ok (.ifCond .eq 7, 3) := by decide +kernel
theorem dX9_pure_10 : decode cX9_pure 10 = .ok (.iload_n 2, 1) := by decide +kernel
theorem dX9_pure_11 : decode cX9_pure 11 = .ok (.goto 21, 3) := by decide +kernel
theorem dX9_pure_14 : decode cX9_pure 14 = .ok (.aload_n 0, 1) := by decide +kernel
theorem dX9_pure_15 : decode cX9_pure 15 = .ok (.getfield 68, 3) := by decide +kernel
theorem dX9_pure_18 : decode cX9_pure 18 = .ok (.sipush 600, 3) := by decide +kernel
theorem dX9_pure_21 : decode cX9_pure 21 = .ok (.iload_n 1, 1) := by decide +kernel
theorem dX9_pure_22 : decode cX9_pure 22 = .ok (.imul, 1) := by decide +kernel
theorem dX9_pure_23 : decode cX9_pure 23 = .ok (.iaload, 1) := by decide +kernel
theorem dX9_pure_24 : decode cX9_pure 24 = .ok (.ifCond .lt 7, 3) := by decide +kernel
theorem dX9_pure_27 : decode cX9_pure 27 = .ok (.iconst 1, 1) := by decide +kernel
theorem dX9_pure_28 : decode cX9_pure 28 = .ok (.goto 4, 3) := by decide +kernel
theorem dX9_pure_31 : decode cX9_pure 31 = .ok (.iconst 0, 1) := by decide +kernel
theorem dX9_pure_32 : decode cX9_pure 32 = .ok (.ireturn, 1) := by decide +kernel
theorem dX9_spans_0 : decode cX9_spans 0 = .ok (.aload_n 0, 1) := by decide +kernel
theorem dX9_spans_1 : decode cX9_spans 1 = .ok (.iload_n 1, 1) := by decide +kernel
theorem dX9_spans_2 : decode cX9_spans 2 = .ok (.invokevirtual 208, 3) := by decide +kernel
theorem dX9_spans_5 : decode cX9_spans 5 = .ok (.istore_n 2, 1) := by decide +kernel
theorem dX9_spans_6 : decode cX9_spans 6 = .ok (.iload_n 2, 1) := by decide +kernel
theorem dX9_spans_7 : decode cX9_spans 7 = .ok (.ifCond .eq 5, 3) := by decide +kernel
theorem dX9_spans_10 : decode cX9_spans 10 = .ok (.iload_n 2, 1) := by decide +kernel
theorem dX9_spans_11 : decode cX9_spans 11 = .ok (.ireturn, 1) := by decide +kernel
theorem dX9_spans_12 : decode cX9_spans 12 = .ok (.iconst 0, 1) := by decide +kernel
theorem dX9_spans_13 : decode cX9_spans 13 = .ok (.istore_n 3, 1) := by decide +kernel
theorem dX9_spans_14 : decode cX9_spans 14 = .ok (.iconst 1, 1) := by decide +kernel
theorem dX9_spans_15 : decode cX9_spans 15 = .ok (.istore 4, 2) := by decide +kernel
theorem dX9_spans_17 : decode cX9_spans 17 = .ok (.iload 4, 2) := by decide +kernel
theorem dX9_spans_19 : decode cX9_spans 19 = .ok (.iload_n 1, 1) := by decide +kernel
theorem dX9_spans_20 : decode cX9_spans 20 = .ok (.if_icmp .gt 31, 3) := by decide +kernel
theorem dX9_spans_23 : decode cX9_spans 23 = .ok (.iload_n 3, 1) := by decide +kernel
theorem dX9_spans_24 : decode cX9_spans 24 = .ok (.aload_n 0, 1) := by decide +kernel
theorem dX9_spans_25 : decode cX9_spans 25 = .ok (.getfield 68, 3) := by decide +kernel
theorem dX9_spans_28 : decode cX9_spans 28 = .ok (.sipush 600, 3) := by decide +kernel
theorem dX9_spans_31 : decode cX9_spans 31 = .ok (.iload 4, 2) := by decide +kernel
theorem dX9_spans_33 : decode cX9_spans 33 = .ok (.imul, 1) := by decide +kernel
theorem dX9_spans_34 : decode cX9_spans 34 = .ok (.iaload, 1) := by decide +kernel
theorem dX9_spans_35 : decode cX9_spans 35 = .ok (.ifCond .lt 7, 3) := by decide +kernel
theorem dX9_spans_38 : decode cX9_spans 38 = .ok (.iconst 1, 1) := by decide +kernel
theorem dX9_spans_39 : decode cX9_spans 39 = .ok (.goto 4, 3) := by decide +kernel
theorem dX9_spans_42 : decode cX9_spans 42 = .ok (.iconst 0, 1) := by decide +kernel
theorem dX9_spans_43 : decode cX9_spans 43 = .ok (.iadd, 1) := by decide +kernel
theorem dX9_spans_44 : decode cX9_spans 44 = .ok (.istore_n 3, 1) := by decide +kernel
theorem dX9_spans_45 : decode cX9_spans 45 = .ok (.iinc 4 1, 3) := by decide +kernel
theorem dX9_spans_48 : decode cX9_spans 48 = .ok (.goto (-31), 3) := by decide +kernel
theorem dX9_spans_51 : decode cX9_spans 51 = .ok (.iload_n 3, 1) := by decide +kernel
theorem dX9_spans_52 : decode cX9_spans 52 = .ok (.ireturn, 1) := by decide +kernel
theorem dX9_fewest_0 : decode cX9_fewest 0 = .ok (.aload_n 0, 1) := by decide +kernel
theorem dX9_fewest_1 : decode cX9_fewest 1 = .ok (.iload_n 1, 1) := by decide +kernel
theorem dX9_fewest_2 : decode cX9_fewest 2 = .ok (.invokevirtual 208, 3) := by decide +kernel
theorem dX9_fewest_5 : decode cX9_fewest 5 = .ok (.istore_n 2, 1) := by decide +kernel
theorem dX9_fewest_6 : decode cX9_fewest 6 = .ok (.iload_n 2, 1) := by decide +kernel
theorem dX9_fewest_7 : decode cX9_fewest 7 = .ok (.ifCond .eq 7, 3) := by decide +kernel
theorem dX9_fewest_10 : decode cX9_fewest 10 = .ok (.iload_n 2, 1) := by decide +kernel
theorem dX9_fewest_11 : decode cX9_fewest 11 = .ok (.goto 31, 3) := by decide +kernel
theorem dX9_fewest_14 : decode cX9_fewest 14 = .ok (.aload_n 0, 1) := by decide +kernel
theorem dX9_fewest_15 : decode cX9_fewest 15 = .ok (.getfield 68, 3) := by decide +kernel
theorem dX9_fewest_18 : decode cX9_fewest 18 = .ok (.sipush 600, 3) := by decide +kernel
theorem dX9_fewest_21 : decode cX9_fewest 21 = .ok (.iload_n 1, 1) := by decide +kernel
theorem dX9_fewest_22 : decode cX9_fewest 22 = .ok (.imul, 1) := by decide +kernel
theorem dX9_fewest_23 : decode cX9_fewest 23 = .ok (.iaload, 1) := by decide +kernel
theorem dX9_fewest_24 : decode cX9_fewest 24 = .ok (.ifCond .lt 16, 3) := by decide +kernel
theorem dX9_fewest_27 : decode cX9_fewest 27 = .ok (.aload_n 0, 1) := by decide +kernel
theorem dX9_fewest_28 : decode cX9_fewest 28 = .ok (.getfield 68, 3) := by decide +kernel
theorem dX9_fewest_31 : decode cX9_fewest 31 = .ok (.sipush 600, 3) := by decide +kernel
theorem dX9_fewest_34 : decode cX9_fewest 34 = .ok (.iload_n 1, 1) := by decide +kernel
theorem dX9_fewest_35 : decode cX9_fewest 35 = .ok (.imul, 1) := by decide +kernel
theorem dX9_fewest_36 : decode cX9_fewest 36 = .ok (.iaload, 1) := by decide +kernel
theorem dX9_fewest_37 : decode cX9_fewest 37 = .ok (.goto 5, 3) := by decide +kernel
theorem dX9_fewest_40 : decode cX9_fewest 40 = .ok (.bipush (-7), 2) := by decide +kernel
theorem dX9_fewest_42 : decode cX9_fewest 42 = .ok (.ireturn, 1) := by decide +kernel
theorem dX9_findPlan_0 : decode cX9_findPlan 0 = .ok (.iconst 0, 1) := by decide +kernel
theorem dX9_findPlan_1 : decode cX9_findPlan 1 = .ok (.istore_n 2, 1) := by decide +kernel
theorem dX9_findPlan_2 : decode cX9_findPlan 2 = .ok (.iconst 0, 1) := by decide +kernel
theorem dX9_findPlan_3 : decode cX9_findPlan 3 = .ok (.istore_n 3, 1) := by decide +kernel
theorem dX9_findPlan_4 : decode cX9_findPlan 4 = .ok (.iload_n 1, 1) := by decide +kernel
theorem dX9_findPlan_5 : decode cX9_findPlan 5 = .ok (.istore 4, 2) := by decide +kernel
theorem dX9_findPlan_7 : decode cX9_findPlan 7 = .ok (.iload 4, 2) := by decide +kernel
theorem dX9_findPlan_9 : decode cX9_findPlan 9 = .ok (.ifCond .le 83, 3) := by decide +kernel
theorem dX9_findPlan_12 : decode cX9_findPlan 12 = .ok (.iconst 0, 1) := by decide +kernel
theorem dX9_findPlan_13 : decode cX9_findPlan 13 = .ok (.istore 5, 2) := by decide +kernel
theorem dX9_findPlan_15 : decode cX9_findPlan 15 = .ok (.aload_n 0, 1) := by decide +kernel
theorem dX9_findPlan_16 : decode cX9_findPlan 16 = .ok (.iload_n 3, 1) := by decide +kernel
theorem dX9_findPlan_17 : decode cX9_findPlan 17 = .ok (.iload 5, 2) := by decide +kernel
theorem dX9_findPlan_19 : decode cX9_findPlan 19 = .ok (.iload 4, 2) := by decide +kernel
theorem dX9_findPlan_21 : decode cX9_findPlan 21 = .ok (.invokevirtual 191, 3) := by decide +kernel
theorem dX9_findPlan_24 : decode cX9_findPlan 24 = .ok (.aload_n 0, 1) := by decide +kernel
theorem dX9_findPlan_25 : decode cX9_findPlan 25 = .ok (.getfield 68, 3) := by decide +kernel
theorem dX9_findPlan_28 : decode cX9_findPlan 28 = .ok (.sipush 600, 3) := by decide +kernel
theorem dX9_findPlan_31 : decode cX9_findPlan 31 = .ok (.iload 4, 2) := by decide +kernel
theorem dX9_findPlan_33 : decode cX9_findPlan 33 = .ok (.imul, 1) := by decide +kernel
theorem dX9_findPlan_34 : decode cX9_findPlan 34 = .ok (.iload_n 3, 1) := by decide +kernel
theorem dX9_findPlan_35 : decode cX9_findPlan 35 = .ok (.iadd, 1) := by decide +kernel
theorem dX9_findPlan_36 : decode cX9_findPlan 36 = .ok (.iaload, 1) := by decide +kernel
theorem dX9_findPlan_37 : decode cX9_findPlan 37 = .ok (.if_icmp .eq 9, 3) := by decide +kernel
theorem dX9_findPlan_40 : decode cX9_findPlan 40 = .ok (.iinc 5 1, 3) := by decide +kernel
theorem dX9_findPlan_43 : decode cX9_findPlan 43 = .ok (.goto (-28), 3) := by decide +kernel
theorem dX9_findPlan_46 : decode cX9_findPlan 46 = .ok (.aload_n 0, 1) := by decide +kernel
theorem dX9_findPlan_47 : decode cX9_findPlan 47 = .ok (.getfield 77, 3) := by decide +kernel
theorem dX9_findPlan_50 : decode cX9_findPlan 50 = .ok (.iload_n 2, 1) := by decide +kernel
theorem dX9_findPlan_51 : decode cX9_findPlan 51 = .ok (.iload 5, 2) := by decide +kernel
theorem dX9_findPlan_53 : decode cX9_findPlan 53 = .ok (.iastore, 1) := by decide +kernel
theorem dX9_findPlan_54 : decode cX9_findPlan 54 = .ok (.iinc 2 1, 3) := by decide +kernel
theorem dX9_findPlan_57 : decode cX9_findPlan 57 = .ok (.iload 4, 2) := by decide +kernel
theorem dX9_findPlan_59 : decode cX9_findPlan 59 = .ok (.aload_n 0, 1) := by decide +kernel
theorem dX9_findPlan_60 : decode cX9_findPlan 60 = .ok (.getfield 64, 3) := by decide +kernel
theorem dX9_findPlan_63 : decode cX9_findPlan 63 = .ok (.sipush 256, 3) := by decide +kernel
theorem dX9_findPlan_66 : decode cX9_findPlan 66 = .ok (.iload_n 3, 1) := by decide +kernel
theorem dX9_findPlan_67 : decode cX9_findPlan 67 = .ok (.imul, 1) := by decide +kernel
theorem dX9_findPlan_68 : decode cX9_findPlan 68 = .ok (.iload 5, 2) := by decide +kernel
theorem dX9_findPlan_70 : decode cX9_findPlan 70 = .ok (.iadd, 1) := by decide +kernel
theorem dX9_findPlan_71 : decode cX9_findPlan 71 = .ok (.iaload, 1) := by decide +kernel
theorem dX9_findPlan_72 : decode cX9_findPlan 72 = .ok (.isub, 1) := by decide +kernel
theorem dX9_findPlan_73 : decode cX9_findPlan 73 = .ok (.istore 4, 2) := by decide +kernel
theorem dX9_findPlan_75 : decode cX9_findPlan 75 = .ok (.aload_n 0, 1) := by decide +kernel
theorem dX9_findPlan_76 : decode cX9_findPlan 76 = .ok (.getfield 61, 3) := by decide +kernel
theorem dX9_findPlan_79 : decode cX9_findPlan 79 = .ok (.sipush 256, 3) := by decide +kernel
theorem dX9_findPlan_82 : decode cX9_findPlan 82 = .ok (.iload_n 3, 1) := by decide +kernel
theorem dX9_findPlan_83 : decode cX9_findPlan 83 = .ok (.imul, 1) := by decide +kernel
theorem dX9_findPlan_84 : decode cX9_findPlan 84 = .ok (.iload 5, 2) := by decide +kernel
theorem dX9_findPlan_86 : decode cX9_findPlan 86 = .ok (.iadd, 1) := by decide +kernel
theorem dX9_findPlan_87 : decode cX9_findPlan 87 = .ok (.iaload, 1) := by decide +kernel
theorem dX9_findPlan_88 : decode cX9_findPlan 88 = .ok (.istore_n 3, 1) := by decide +kernel
theorem dX9_findPlan_89 : decode cX9_findPlan 89 = .ok (.goto (-82), 3) := by decide +kernel
theorem dX9_findPlan_92 : decode cX9_findPlan 92 = .ok (.iload_n 2, 1) := by decide +kernel
theorem dX9_findPlan_93 : decode cX9_findPlan 93 = .ok (.ireturn, 1) := by decide +kernel
theorem dX9_plan_0 : decode cX9_plan 0 = .ok (.aload_n 0, 1) := by decide +kernel
theorem dX9_plan_1 : decode cX9_plan 1 = .ok (.iload_n 1, 1) := by decide +kernel
theorem dX9_plan_2 : decode cX9_plan 2 = .ok (.invokevirtual 211, 3) := by decide +kernel
theorem dX9_plan_5 : decode cX9_plan 5 = .ok (.ifCond .ge 5, 3) := by decide +kernel
theorem dX9_plan_8 : decode cX9_plan 8 = .ok (.iconst (-1), 1) := by decide +kernel
theorem dX9_plan_9 : decode cX9_plan 9 = .ok (.ireturn, 1) := by decide +kernel
theorem dX9_plan_10 : decode cX9_plan 10 = .ok (.aload_n 0, 1) := by decide +kernel
theorem dX9_plan_11 : decode cX9_plan 11 = .ok (.iload_n 1, 1) := by decide +kernel
theorem dX9_plan_12 : decode cX9_plan 12 = .ok (.invokevirtual 214, 3) := by decide +kernel
theorem dX9_plan_15 : decode cX9_plan 15 = .ok (.istore_n 3, 1) := by decide +kernel
theorem dX9_plan_16 : decode cX9_plan 16 = .ok (.iload_n 2, 1) := by decide +kernel
theorem dX9_plan_17 : decode cX9_plan 17 = .ok (.iconst 0, 1) := by decide +kernel
theorem dX9_plan_18 : decode cX9_plan 18 = .ok (.iload_n 3, 1) := by decide +kernel
theorem dX9_plan_19 : decode cX9_plan 19 = .ok (.iconst 1, 1) := by decide +kernel
theorem dX9_plan_20 : decode cX9_plan 20 = .ok (.isub, 1) := by decide +kernel
theorem dX9_plan_21 : decode cX9_plan 21 = .ok (.invokestatic 83, 3) := by decide +kernel
theorem dX9_plan_24 : decode cX9_plan 24 = .ok (.ifCond .eq 12, 3) := by decide +kernel
theorem dX9_plan_27 : decode cX9_plan 27 = .ok (.aload_n 0, 1) := by decide +kernel
theorem dX9_plan_28 : decode cX9_plan 28 = .ok (.getfield 77, 3) := by decide +kernel
theorem dX9_plan_31 : decode cX9_plan 31 = .ok (.iload_n 2, 1) := by decide +kernel
theorem dX9_plan_32 : decode cX9_plan 32 = .ok (.iaload, 1) := by decide +kernel
theorem dX9_plan_33 : decode cX9_plan 33 = .ok (.goto 4, 3) := by decide +kernel
theorem dX9_plan_36 : decode cX9_plan 36 = .ok (.iconst (-1), 1) := by decide +kernel
theorem dX9_plan_37 : decode cX9_plan 37 = .ok (.ireturn, 1) := by decide +kernel
theorem dX9_soonest_0 : decode cX9_soonest 0 = .ok (.aload_n 0, 1) := by decide +kernel
theorem dX9_soonest_1 : decode cX9_soonest 1 = .ok (.iload_n 1, 1) := by decide +kernel
theorem dX9_soonest_2 : decode cX9_soonest 2 = .ok (.invokevirtual 208, 3) := by decide +kernel
theorem dX9_soonest_5 : decode cX9_soonest 5 = .ok (.istore_n 2, 1) := by decide +kernel
theorem dX9_soonest_6 : decode cX9_soonest 6 = .ok (.iload_n 2, 1) := by decide +kernel
theorem dX9_soonest_7 : decode cX9_soonest 7 = .ok (.ifCond .eq 5, 3) := by decide +kernel
theorem dX9_soonest_10 : decode cX9_soonest 10 = .ok (.iload_n 2, 1) := by decide +kernel
theorem dX9_soonest_11 : decode cX9_soonest 11 = .ok (.ireturn, 1) := by decide +kernel
theorem dX9_soonest_12 : decode cX9_soonest 12 = .ok (.iconst (-1), 1) := by decide +kernel
theorem dX9_soonest_13 : decode cX9_soonest 13 = .ok (.istore_n 3, 1) := by decide +kernel
theorem dX9_soonest_14 : decode cX9_soonest 14 = .ok (.iconst 0, 1) := by decide +kernel
theorem dX9_soonest_15 : decode cX9_soonest 15 = .ok (.istore 4, 2) := by decide +kernel
theorem dX9_soonest_17 : decode cX9_soonest 17 = .ok (.iload 4, 2) := by decide +kernel
theorem dX9_soonest_19 : decode cX9_soonest 19 = .ok (.aload_n 0, 1) := by decide +kernel
theorem dX9_soonest_20 : decode cX9_soonest 20 = .ok (.getfield 184, 3) := by decide +kernel
theorem dX9_soonest_23 : decode cX9_soonest 23 = .ok (.if_icmp .ge 53, 3) := by decide +kernel
theorem dX9_soonest_26 : decode cX9_soonest 26 = .ok (.aload_n 0, 1) := by decide +kernel
theorem dX9_soonest_27 : decode cX9_soonest 27 = .ok (.getfield 71, 3) := by decide +kernel
theorem dX9_soonest_30 : decode cX9_soonest 30 = .ok (.iload 4, 2) := by decide +kernel
theorem dX9_soonest_32 : decode cX9_soonest 32 = .ok (.iaload, 1) := by decide +kernel
theorem dX9_soonest_33 : decode cX9_soonest 33 = .ok (.iload_n 1, 1) := by decide +kernel
theorem dX9_soonest_34 : decode cX9_soonest 34 = .ok (.iadd, 1) := by decide +kernel
theorem dX9_soonest_35 : decode cX9_soonest 35 = .ok (.istore 5, 2) := by decide +kernel
theorem dX9_soonest_37 : decode cX9_soonest 37 = .ok (.aload_n 0, 1) := by decide +kernel
theorem dX9_soonest_38 : decode cX9_soonest 38 = .ok (.getfield 68, 3) := by decide +kernel
theorem dX9_soonest_41 : decode cX9_soonest 41 = .ok (.sipush 600, 3) := by decide +kernel
theorem dX9_soonest_44 : decode cX9_soonest 44 = .ok (.iload_n 1, 1) := by decide +kernel
theorem dX9_soonest_45 : decode cX9_soonest 45 = .ok (.imul, 1) := by decide +kernel
theorem dX9_soonest_46 : decode cX9_soonest 46 = .ok (.iload 4, 2) := by decide +kernel
theorem dX9_soonest_48 : decode cX9_soonest 48 = .ok (.iadd, 1) := by decide +kernel
theorem dX9_soonest_49 : decode cX9_soonest 49 = .ok (.iaload, 1) := by decide +kernel
theorem dX9_soonest_50 : decode cX9_soonest 50 = .ok (.ifCond .lt 18, 3) := by decide +kernel
theorem dX9_soonest_53 : decode cX9_soonest 53 = .ok (.iload_n 3, 1) := by decide +kernel
theorem dX9_soonest_54 : decode cX9_soonest 54 = .ok (.ifCond .lt 9, 3) := by decide +kernel
theorem dX9_soonest_57 : decode cX9_soonest 57 = .ok (.iload 5, 2) := by decide +kernel
theorem dX9_soonest_59 : decode cX9_soonest 59 = .ok (.iload_n 3, 1) := by decide +kernel
theorem dX9_soonest_60 : decode cX9_soonest 60 = .ok (.if_icmp .ge 8, 3) := by decide +kernel
theorem dX9_soonest_63 : decode cX9_soonest 63 = .ok (.iload 5, 2) := by decide +kernel
theorem dX9_soonest_65 : decode cX9_soonest 65 = .ok (.goto 4, 3) := by decide +kernel
theorem dX9_soonest_68 : decode cX9_soonest 68 = .ok (.iload_n 3, 1) := by decide +kernel
theorem dX9_soonest_69 : decode cX9_soonest 69 = .ok (.istore_n 3, 1) := by decide +kernel
theorem dX9_soonest_70 : decode cX9_soonest 70 = .ok (.iinc 4 1, 3) := by decide +kernel
theorem dX9_soonest_73 : decode cX9_soonest 73 = .ok (.goto (-56), 3) := by decide +kernel
theorem dX9_soonest_76 : decode cX9_soonest 76 = .ok (.iload_n 3, 1) := by decide +kernel
theorem dX9_soonest_77 : decode cX9_soonest 77 = .ok (.ifCond .ge 8, 3) := by decide +kernel
theorem dX9_soonest_80 : decode cX9_soonest 80 = .ok (.bipush (-7), 2) := by decide +kernel
theorem dX9_soonest_82 : decode cX9_soonest 82 = .ok (.goto 4, 3) := by decide +kernel
theorem dX9_soonest_85 : decode cX9_soonest 85 = .ok (.iload_n 3, 1) := by decide +kernel
theorem dX9_soonest_86 : decode cX9_soonest 86 = .ok (.ireturn, 1) := by decide +kernel
theorem dX9_claim_0 : decode cX9_claim 0 = .ok (.iload_n 1, 1) := by decide +kernel
theorem dX9_claim_1 : decode cX9_claim 1 = .ok (.iconst 0, 1) := by decide +kernel
theorem dX9_claim_2 : decode cX9_claim 2 = .ok (.sipush 255, 3) := by decide +kernel
theorem dX9_claim_5 : decode cX9_claim 5 = .ok (.invokestatic 83, 3) := by decide +kernel
theorem dX9_claim_8 : decode cX9_claim 8 = .ok (.ifCond .ne 5, 3) := by decide +kernel
theorem dX9_claim_11 : decode cX9_claim 11 = .ok (.iconst (-1), 1) := by decide +kernel
theorem dX9_claim_12 : decode cX9_claim 12 = .ok (.ireturn, 1) := by decide +kernel
theorem dX9_claim_13 : decode cX9_claim 13 = .ok (.aload_n 0, 1) := by decide +kernel
theorem dX9_claim_14 : decode cX9_claim 14 = .ok (.getfield 217, 3) := by decide +kernel
theorem dX9_claim_17 : decode cX9_claim 17 = .ok (.bipush 60, 2) := by decide +kernel
theorem dX9_claim_19 : decode cX9_claim 19 = .ok (.if_icmp .ne 6, 3) := by decide +kernel
theorem dX9_claim_22 : decode cX9_claim 22 = .ok (.bipush (-2), 2) := by decide +kernel
theorem dX9_claim_24 : decode cX9_claim 24 = .ok (.ireturn, 1) := by decide +kernel
theorem dX9_claim_25 : decode cX9_claim 25 = .ok (.aload_n 0, 1) := by decide +kernel
theorem dX9_claim_26 : decode cX9_claim 26 = .ok (.getfield 28, 3) := by decide +kernel
theorem dX9_claim_29 : decode cX9_claim 29 = .ok (.aload_n 0, 1) := by decide +kernel
theorem dX9_claim_30 : decode cX9_claim 30 = .ok (.getfield 217, 3) := by decide +kernel
theorem dX9_claim_33 : decode cX9_claim 33 = .ok (.iload_n 1, 1) := by decide +kernel
theorem dX9_claim_34 : decode cX9_claim 34 = .ok (.iastore, 1) := by decide +kernel
theorem dX9_claim_35 : decode cX9_claim 35 = .ok (.aload_n 0, 1) := by decide +kernel
theorem dX9_claim_36 : decode cX9_claim 36 = .ok (.dup, 1) := by decide +kernel
theorem dX9_claim_37 : decode cX9_claim 37 = .ok (.getfield 217, 3) := by decide +kernel
theorem dX9_claim_40 : decode cX9_claim 40 = .ok (.iconst 1, 1) := by decide +kernel
theorem dX9_claim_41 : decode cX9_claim 41 = .ok (.iadd, 1) := by decide +kernel
theorem dX9_claim_42 : decode cX9_claim 42 = .ok (.putfield 217, 3) := by decide +kernel
theorem dX9_claim_45 : decode cX9_claim 45 = .ok (.aload_n 0, 1) := by decide +kernel
theorem dX9_claim_46 : decode cX9_claim 46 = .ok (.getfield 217, 3) := by decide +kernel
theorem dX9_claim_49 : decode cX9_claim 49 = .ok (.ireturn, 1) := by decide +kernel
theorem dX9_copy_0 : decode cX9_copy 0 = .ok (.aload_n 0, 1) := by decide +kernel
theorem dX9_copy_1 : decode cX9_copy 1 = .ok (.iload_n 1, 1) := by decide +kernel
theorem dX9_copy_2 : decode cX9_copy 2 = .ok (.invokevirtual 211, 3) := by decide +kernel
theorem dX9_copy_5 : decode cX9_copy 5 = .ok (.istore_n 2, 1) := by decide +kernel
theorem dX9_copy_6 : decode cX9_copy 6 = .ok (.iload_n 2, 1) := by decide +kernel
theorem dX9_copy_7 : decode cX9_copy 7 = .ok (.ifCond .ge 5, 3) := by decide +kernel
theorem dX9_copy_10 : decode cX9_copy 10 = .ok (.iload_n 2, 1) := by decide +kernel
theorem dX9_copy_11 : decode cX9_copy 11 = .ok (.ireturn, 1) := by decide +kernel
theorem dX9_copy_12 : decode cX9_copy 12 = .ok (.aload_n 0, 1) := by decide +kernel
theorem dX9_copy_13 : decode cX9_copy 13 = .ok (.aload_n 0, 1) := by decide +kernel
theorem dX9_copy_14 : decode cX9_copy 14 = .ok (.iload_n 1, 1) := by decide +kernel
theorem dX9_copy_15 : decode cX9_copy 15 = .ok (.invokevirtual 214, 3) := by decide +kernel
theorem dX9_copy_18 : decode cX9_copy 18 = .ok (.putfield 217, 3) := by decide +kernel
theorem dX9_copy_21 : decode cX9_copy 21 = .ok (.iconst 0, 1) := by decide +kernel
theorem dX9_copy_22 : decode cX9_copy 22 = .ok (.istore_n 3, 1) := by decide +kernel
theorem dX9_copy_23 : decode cX9_copy 23 = .ok (.iload_n 3, 1) := by decide +kernel
theorem dX9_copy_24 : decode cX9_copy 24 = .ok (.aload_n 0, 1) := by decide +kernel
theorem dX9_copy_25 : decode cX9_copy 25 = .ok (.getfield 217, 3) := by decide +kernel
theorem dX9_copy_28 : decode cX9_copy 28 = .ok (.if_icmp .ge 21, 3) := by decide +kernel
theorem dX9_copy_31 : decode cX9_copy 31 = .ok (.aload_n 0, 1) := by decide +kernel
theorem dX9_copy_32 : decode cX9_copy 32 = .ok (.getfield 28, 3) := by decide +kernel
theorem dX9_copy_35 : decode cX9_copy 35 = .ok (.iload_n 3, 1) := by decide +kernel
theorem dX9_copy_36 : decode cX9_copy 36 = .ok (.aload_n 0, 1) := by decide +kernel
theorem dX9_copy_37 : decode cX9_copy 37 = .ok (.getfield 77, 3) := by decide +kernel
theorem dX9_copy_40 : decode cX9_copy 40 = .ok (.iload_n 3, 1) := by decide +kernel
theorem dX9_copy_41 : decode cX9_copy 41 = .ok (.iaload, 1) := by decide +kernel
theorem dX9_copy_42 : decode cX9_copy 42 = .ok (.iastore, 1) := by decide +kernel
theorem dX9_copy_43 : decode cX9_copy 43 = .ok (.iinc 3 1, 3) := by decide +kernel
theorem dX9_copy_46 : decode cX9_copy 46 = .ok (.goto (-23), 3) := by decide +kernel
theorem dX9_copy_49 : decode cX9_copy 49 = .ok (.aload_n 0, 1) := by decide +kernel
theorem dX9_copy_50 : decode cX9_copy 50 = .ok (.getfield 217, 3) := by decide +kernel
theorem dX9_copy_53 : decode cX9_copy 53 = .ok (.ireturn, 1) := by decide +kernel
theorem dX9_alter_0 : decode cX9_alter 0 = .ok (.iload_n 1, 1) := by decide +kernel
theorem dX9_alter_1 : decode cX9_alter 1 = .ok (.iconst 0, 1) := by decide +kernel
theorem dX9_alter_2 : decode cX9_alter 2 = .ok (.aload_n 0, 1) := by decide +kernel
theorem dX9_alter_3 : decode cX9_alter 3 = .ok (.getfield 217, 3) := by decide +kernel
theorem dX9_alter_6 : decode cX9_alter 6 = .ok (.iconst 1, 1) := by decide +kernel
theorem dX9_alter_7 : decode cX9_alter 7 = .ok (.isub, 1) := by decide +kernel
theorem dX9_alter_8 : decode cX9_alter 8 = .ok (.invokestatic 83, 3) := by decide +kernel
theorem dX9_alter_11 : decode cX9_alter 11 = .ok (.ifCond .eq 14, 3) := by decide +kernel
theorem dX9_alter_14 : decode cX9_alter 14 = .ok (.iload_n 2, 1) := by decide +kernel
theorem dX9_alter_15 : decode cX9_alter 15 = .ok (.iconst 0, 1) := by decide +kernel
theorem dX9_alter_16 : decode cX9_alter 16 = .ok (.sipush 255, 3) := by decide +kernel
theorem dX9_alter_19 : decode cX9_alter 19 = .ok (.invokestatic 83, 3) := by decide +kernel
theorem dX9_alter_22 : decode cX9_alter 22 = .ok (.ifCond .ne 5, 3) := by decide +kernel
theorem dX9_alter_25 : decode cX9_alter 25 = .ok (.iconst (-1), 1) := by decide +kernel
theorem dX9_alter_26 : decode cX9_alter 26 = .ok (.ireturn, 1) := by decide +kernel
theorem dX9_alter_27 : decode cX9_alter 27 = .ok (.aload_n 0, 1) := by decide +kernel
theorem dX9_alter_28 : decode cX9_alter 28 = .ok (.getfield 28, 3) := by decide +kernel
theorem dX9_alter_31 : decode cX9_alter 31 = .ok (.iload_n 1, 1) := by decide +kernel
theorem dX9_alter_32 : decode cX9_alter 32 = .ok (.iload_n 2, 1) := by decide +kernel
theorem dX9_alter_33 : decode cX9_alter 33 = .ok (.iastore, 1) := by decide +kernel
theorem dX9_alter_34 : decode cX9_alter 34 = .ok (.iconst 1, 1) := by decide +kernel
theorem dX9_alter_35 : decode cX9_alter 35 = .ok (.ireturn, 1) := by decide +kernel
theorem dX9_unclaim_0 : decode cX9_unclaim 0 = .ok (.aload_n 0, 1) := by decide +kernel
theorem dX9_unclaim_1 : decode cX9_unclaim 1 = .ok (.getfield 217, 3) := by decide +kernel
theorem dX9_unclaim_4 : decode cX9_unclaim 4 = .ok (.istore_n 1, 1) := by decide +kernel
theorem dX9_unclaim_5 : decode cX9_unclaim 5 = .ok (.aload_n 0, 1) := by decide +kernel
theorem dX9_unclaim_6 : decode cX9_unclaim 6 = .ok (.iconst 0, 1) := by decide +kernel
theorem dX9_unclaim_7 : decode cX9_unclaim 7 = .ok (.putfield 217, 3) := by decide +kernel
theorem dX9_unclaim_10 : decode cX9_unclaim 10 = .ok (.iload_n 1, 1) := by decide +kernel
theorem dX9_unclaim_11 : decode cX9_unclaim 11 = .ok (.ireturn, 1) := by decide +kernel
theorem dX9_check_0 : decode cX9_check 0 = .ok (.iconst 0, 1) := by decide +kernel
theorem dX9_check_1 : decode cX9_check 1 = .ok (.istore_n 1, 1) := by decide +kernel
theorem dX9_check_2 : decode cX9_check 2 = .ok (.aload_n 0, 1) := by decide +kernel
theorem dX9_check_3 : decode cX9_check 3 = .ok (.lconst 0, 1) := by decide +kernel
theorem dX9_check_4 : decode cX9_check 4 = .ok (.invokevirtual 158, 3) := by decide +kernel
theorem dX9_check_7 : decode cX9_check 7 = .ok (.iconst 0, 1) := by decide +kernel
theorem dX9_check_8 : decode cX9_check 8 = .ok (.istore_n 2, 1) := by decide +kernel
theorem dX9_check_9 : decode cX9_check 9 = .ok (.iload_n 2, 1) := by decide +kernel
theorem dX9_check_10 : decode cX9_check 10 = .ok (.aload_n 0, 1) := by decide +kernel
theorem dX9_check_11 : decode cX9_check 11 = .ok (.getfield 217, 3) := by decide +kernel
theorem dX9_check_14 : decode cX9_check 14 = .ok (.if_icmp .ge 55, 3) := by decide +kernel
theorem dX9_check_17 : decode cX9_check 17 = .ok (.aload_n 0, 1) := by decide +kernel
theorem dX9_check_18 : decode cX9_check 18 = .ok (.aload_n 0, 1) := by decide +kernel
theorem dX9_check_19 : decode cX9_check 19 = .ok (.getfield 28, 3) := by decide +kernel
theorem dX9_check_22 : decode cX9_check 22 = .ok (.iload_n 2, 1) := by decide +kernel
theorem dX9_check_23 : decode cX9_check 23 = .ok (.iaload, 1) := by decide +kernel
theorem dX9_check_24 : decode cX9_check 24 = .ok (.invokevirtual 162, 3) := by decide +kernel
theorem dX9_check_27 : decode cX9_check 27 = .ok (.ifCond .ne 8, 3) := by decide +kernel
theorem dX9_check_30 : decode cX9_check 30 = .ok (.bipush (-2), 2) := by decide +kernel
theorem dX9_check_32 : decode cX9_check 32 = .ok (.iload_n 2, 1) := by decide +kernel
theorem dX9_check_33 : decode cX9_check 33 = .ok (.isub, 1) := by decide +kernel
theorem dX9_check_34 : decode cX9_check 34 = .ok (.ireturn, 1) := by decide +kernel
theorem dX9_check_35 : decode cX9_check 35 = .ok (.aload_n 0, 1) := by decide +kernel
theorem dX9_check_36 : decode cX9_check 36 = .ok (.aload_n 0, 1) := by decide +kernel
theorem dX9_check_37 : decode cX9_check 37 = .ok (.getfield 28, 3) := by decide +kernel
theorem dX9_check_40 : decode cX9_check 40 = .ok (.iload_n 2, 1) := by decide +kernel
theorem dX9_check_41 : decode cX9_check 41 = .ok (.iaload, 1) := by decide +kernel
theorem dX9_check_42 : decode cX9_check 42 = .ok (.invokevirtual 168, 3) := by decide +kernel
theorem dX9_check_45 : decode cX9_check 45 = .ok (.aload_n 0, 1) := by decide +kernel
theorem dX9_check_46 : decode cX9_check 46 = .ok (.invokevirtual 180, 3) := by decide +kernel
theorem dX9_check_49 : decode cX9_check 49 = .ok (.istore_n 3, 1) := by decide +kernel
theorem dX9_check_50 : decode cX9_check 50 = .ok (.iload_n 3, 1) := by decide +kernel
theorem dX9_check_51 : decode cX9_check 51 = .ok (.ifCond .ne 8, 3) := by decide +kernel
theorem dX9_check_54 : decode cX9_check 54 = .ok (.bipush (-2), 2) := by decide +kernel
theorem dX9_check_56 : decode cX9_check 56 = .ok (.iload_n 2, 1) := by decide +kernel
theorem dX9_check_57 : decode cX9_check 57 = .ok (.isub, 1) := by decide +kernel
theorem dX9_check_58 : decode cX9_check 58 = .ok (.ireturn, 1) := by decide +kernel
theorem dX9_check_59 : decode cX9_check 59 = .ok (.iload_n 1, 1) := by decide +kernel
theorem dX9_check_60 : decode cX9_check 60 = .ok (.iload_n 3, 1) := by decide +kernel
theorem dX9_check_61 : decode cX9_check 61 = .ok (.iadd, 1) := by decide +kernel
theorem dX9_check_62 : decode cX9_check 62 = .ok (.istore_n 1, 1) := by decide +kernel
theorem dX9_check_63 : decode cX9_check 63 = .ok (.iinc 2 1, 3) := by decide +kernel
theorem dX9_check_66 : decode cX9_check 66 = .ok (.goto (-57), 3) := by decide +kernel
theorem dX9_check_69 : decode cX9_check 69 = .ok (.iload_n 1, 1) := by decide +kernel
theorem dX9_check_70 : decode cX9_check 70 = .ok (.ireturn, 1) := by decide +kernel
