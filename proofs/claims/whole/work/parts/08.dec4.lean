theorem dX12_init_0 : decode cX12_init 0 = .ok (.aload_n 0, 1) := by decide +kernel
theorem dX12_init_1 : decode cX12_init 1 = .ok (.invokespecial 1, 3) := by decide +kernel
theorem dX12_init_4 : decode cX12_init 4 = .ok (.aload_n 0, 1) := by decide +kernel
theorem dX12_init_5 : decode cX12_init 5 = .ok (.bipush 12, 2) := by decide +kernel
theorem dX12_init_7 : decode cX12_init 7 = .ok (.newarray .int, 2) := by decide +kernel
theorem dX12_init_9 : decode cX12_init 9 = .ok (.putfield 7, 3) := by decide +kernel
theorem dX12_init_12 : decode cX12_init 12 = .ok (.aload_n 0, 1) := by decide +kernel
theorem dX12_init_13 : decode cX12_init 13 = .ok (.bipush 12, 2) := by decide +kernel
theorem dX12_init_15 : decode cX12_init 15 = .ok (.newarray .int, 2) := by decide +kernel
theorem dX12_init_17 : decode cX12_init 17 = .ok (.putfield 13, 3) := by decide +kernel
theorem dX12_init_20 : decode cX12_init 20 = .ok (.aload_n 0, 1) := by decide +kernel
theorem dX12_init_21 : decode cX12_init 21 = .ok (.iconst 3, 1) := by decide +kernel
theorem dX12_init_22 : decode cX12_init 22 = .ok (.newarray .int, 2) := by decide +kernel
theorem dX12_init_24 : decode cX12_init 24 = .ok (.putfield 16, 3) := by decide +kernel
theorem dX12_init_27 : decode cX12_init 27 = .ok (.aload_n 0, 1) := by decide +kernel
theorem dX12_init_28 : decode cX12_init 28 = .ok (.bipush 10, 2) := by decide +kernel
theorem dX12_init_30 : decode cX12_init 30 = .ok (.newarray .int, 2) := by decide +kernel
theorem dX12_init_32 : decode cX12_init 32 = .ok (.putfield 19, 3) := by decide +kernel
theorem dX12_init_35 : decode cX12_init 35 = .ok (.aload_n 0, 1) := by decide +kernel
theorem dX12_init_36 : decode cX12_init 36 = .ok (.bipush 10, 2) := by decide +kernel
theorem dX12_init_38 : decode cX12_init 38 = .ok (.newarray .int, 2) := by decide +kernel
theorem dX12_init_40 : decode cX12_init 40 = .ok (.putfield 22, 3) := by decide +kernel
theorem dX12_init_43 : decode cX12_init 43 = .ok (.aload_n 0, 1) := by decide +kernel
theorem dX12_init_44 : decode cX12_init 44 = .ok (.sipush 150, 3) := by decide +kernel
theorem dX12_init_47 : decode cX12_init 47 = .ok (.newarray .int, 2) := by decide +kernel
theorem dX12_init_49 : decode cX12_init 49 = .ok (.putfield 25, 3) := by decide +kernel
theorem dX12_init_52 : decode cX12_init 52 = .ok (.aload_n 0, 1) := by decide +kernel
theorem dX12_init_53 : decode cX12_init 53 = .ok (.sipush 150, 3) := by decide +kernel
theorem dX12_init_56 : decode cX12_init 56 = .ok (.newarray .int, 2) := by decide +kernel
theorem dX12_init_58 : decode cX12_init 58 = .ok (.putfield 28, 3) := by decide +kernel
theorem dX12_init_61 : decode cX12_init 61 = .ok (.aload_n 0, 1) := by decide +kernel
theorem dX12_init_62 : decode cX12_init 62 = .ok (.sipush 150, 3) := by decide +kernel
theorem dX12_init_65 : decode cX12_init 65 = .ok (.newarray .int, 2) := by decide +kernel
theorem dX12_init_67 : decode cX12_init 67 = .ok (.putfield 31, 3) := by decide +kernel
theorem dX12_init_70 : decode cX12_init 70 = .ok (.aload_n 0, 1) := by decide +kernel
theorem dX12_init_71 : decode cX12_init 71 = .ok (.sipush 150, 3) := by decide +kernel
theorem dX12_init_74 : decode cX12_init 74 = .ok (.newarray .int, 2) := by decide +kernel
theorem dX12_init_76 : decode cX12_init 76 = .ok (.putfield 34, 3) := by decide +kernel
theorem dX12_init_79 : decode cX12_init 79 = .ok (.aload_n 0, 1) := by decide +kernel
theorem dX12_init_80 : decode cX12_init 80 = .ok (.bipush 120, 2) := by decide +kernel
theorem dX12_init_82 : decode cX12_init 82 = .ok (.newarray .int, 2) := by decide +kernel
theorem dX12_init_84 : decode cX12_init 84 = .ok (.putfield 37, 3) := by decide +kernel
theorem dX12_init_87 : decode cX12_init 87 = .ok (.aload_n 0, 1) := by decide +kernel
theorem dX12_init_88 : decode cX12_init 88 = .ok (.bipush 10, 2) := by decide +kernel
theorem dX12_init_90 : decode cX12_init 90 = .ok (.newarray .int, 2) := by decide +kernel
theorem dX12_init_92 : decode cX12_init 92 = .ok (.putfield 40, 3) := by decide +kernel
theorem dX12_init_95 : decode cX12_init 95 = .ok (.aload_n 0, 1) := by decide +kernel
theorem dX12_init_96 : decode cX12_init 96 = .ok (.bipush 10, 2) := by decide +kernel
theorem dX12_init_98 : decode cX12_init 98 = .ok (.newarray .int, 2) := by decide +kernel
theorem dX12_init_100 : decode cX12_init 100 = .ok (.putfield 43, 3) := by decide +kernel
theorem dX12_init_103 : decode cX12_init 103 = .ok (.aload_n 0, 1) := by decide +kernel
theorem dX12_init_104 : decode cX12_init 104 = .ok (.bipush 10, 2) := by decide +kernel
theorem dX12_init_106 : decode cX12_init 106 = .ok (.newarray .int, 2) := by decide +kernel
theorem dX12_init_108 : decode cX12_init 108 = .ok (.putfield 46, 3) := by decide +kernel
theorem dX12_init_111 : decode cX12_init 111 = .ok (.aload_n 0, 1) := by decide +kernel
theorem dX12_init_112 : decode cX12_init 112 = .ok (.bipush 9, 2) := by decide +kernel
theorem dX12_init_114 : decode cX12_init 114 = .ok (.newarray .long, 2) := by decide +kernel
theorem dX12_init_116 : decode cX12_init 116 = .ok (.putfield 49, 3) := by decide +kernel
theorem dX12_init_119 : decode cX12_init 119 = .ok (.aload_n 0, 1) := by decide +kernel
theorem dX12_init_120 : decode cX12_init 120 = .ok (.bipush 10, 2) := by decide +kernel
theorem dX12_init_122 : decode cX12_init 122 = .ok (.newarray .int, 2) := by decide +kernel
theorem dX12_init_124 : decode cX12_init 124 = .ok (.putfield 53, 3) := by decide +kernel
theorem dX12_init_127 : decode cX12_init 127 = .ok (.aload_n 0, 1) := by decide +kernel
theorem dX12_init_128 : decode cX12_init 128 = .ok (.bipush 100, 2) := by decide +kernel
theorem dX12_init_130 : decode cX12_init 130 = .ok (.newarray .int, 2) := by decide +kernel
theorem dX12_init_132 : decode cX12_init 132 = .ok (.putfield 56, 3) := by decide +kernel
theorem dX12_init_135 : decode cX12_init 135 = .ok (.aload_n 0, 1) := by decide +kernel
theorem dX12_init_136 : decode cX12_init 136 = .ok (.bipush 100, 2) := by decide +kernel
theorem dX12_init_138 : decode cX12_init 138 = .ok (.newarray .int, 2) := by decide +kernel
theorem dX12_init_140 : decode cX12_init 140 = .ok (.putfield 59, 3) := by decide +kernel
theorem dX12_init_143 : decode cX12_init 143 = .ok (.aload_n 0, 1) := by decide +kernel
theorem dX12_init_144 : decode cX12_init 144 = .ok (.bipush 10, 2) := by decide +kernel
theorem dX12_init_146 : decode cX12_init 146 = .ok (.newarray .int, 2) := by decide +kernel
theorem dX12_init_148 : decode cX12_init 148 = .ok (.putfield 62, 3) := by decide +kernel
theorem dX12_init_151 : decode cX12_init 151 = .ok (.aload_n 0, 1) := by decide +kernel
theorem dX12_init_152 : decode cX12_init 152 = .ok (.iconst 4, 1) := by decide +kernel
theorem dX12_init_153 : decode cX12_init 153 = .ok (.newarray .boolean, 2) := by decide +kernel
theorem dX12_init_155 : decode cX12_init 155 = .ok (.putfield 65, 3) := by decide +kernel
theorem dX12_init_158 : decode cX12_init 158 = .ok (.aload_n 0, 1) := by decide +kernel
theorem dX12_init_159 : decode cX12_init 159 = .ok (.iconst 4, 1) := by decide +kernel
theorem dX12_init_160 : decode cX12_init 160 = .ok (.newarray .int, 2) := by decide +kernel
theorem dX12_init_162 : decode cX12_init 162 = .ok (.putfield 69, 3) := by decide +kernel
theorem dX12_init_165 : decode cX12_init 165 = .ok (.aload_n 0, 1) := by decide +kernel
theorem dX12_init_166 : decode cX12_init 166 = .ok (.iconst 4, 1) := by decide +kernel
theorem dX12_init_167 : decode cX12_init 167 = .ok (.newarray .int, 2) := by decide +kernel
theorem dX12_init_169 : decode cX12_init 169 = .ok (.putfield 72, 3) := by decide +kernel
theorem dX12_init_172 : decode cX12_init 172 = .ok (.aload_n 0, 1) := by decide +kernel
theorem dX12_init_173 : decode cX12_init 173 = .ok (.sipush 192, 3) := by decide +kernel
theorem dX12_init_176 : decode cX12_init 176 = .ok (.newarray .int, 2) := by decide +kernel
theorem dX12_init_178 : decode cX12_init 178 = .ok (.putfield 75, 3) := by decide +kernel
theorem dX12_init_181 : decode cX12_init 181 = .ok (.aload_n 0, 1) := by decide +kernel
theorem dX12_init_182 : decode cX12_init 182 = .ok (.bipush 48, 2) := by decide +kernel
theorem dX12_init_184 : decode cX12_init 184 = .ok (.newarray .int, 2) := by decide +kernel
theorem dX12_init_186 : decode cX12_init 186 = .ok (.putfield 78, 3) := by decide +kernel
theorem dX12_init_189 : decode cX12_init 189 = .ok (.aload_n 0, 1) := by decide +kernel
theorem dX12_init_190 : decode cX12_init 190 = .ok (.bipush 10, 2) := by decide +kernel
theorem dX12_init_192 : decode cX12_init 192 = .ok (.putfield 81, 3) := by decide +kernel
theorem dX12_init_195 : decode cX12_init 195 = .ok (.aload_n 0, 1) := by decide +kernel
theorem dX12_init_196 : decode cX12_init 196 = .ok (.getfield 16, 3) := by decide +kernel
theorem dX12_init_199 : decode cX12_init 199 = .ok (.iconst 0, 1) := by decide +kernel
theorem dX12_init_200 : decode cX12_init 200 = .ok (.sipush 999, 3) := by decide +kernel
theorem dX12_init_203 : decode cX12_init 203 = .ok (.iastore, 1) := by decide +kernel
theorem dX12_init_204 : decode cX12_init 204 = .ok (.aload_n 0, 1) := by decide +kernel
theorem dX12_init_205 : decode cX12_init 205 = .ok (.getfield 16, 3) := by decide +kernel
theorem dX12_init_208 : decode cX12_init 208 = .ok (.iconst 1, 1) := by decide +kernel
theorem dX12_init_209 : decode cX12_init 209 = .ok (.bipush 50, 2) := by decide +kernel
theorem dX12_init_211 : decode cX12_init 211 = .ok (.iastore, 1) := by decide +kernel
theorem dX12_init_212 : decode cX12_init 212 = .ok (.aload_n 0, 1) := by decide +kernel
theorem dX12_init_213 : decode cX12_init 213 = .ok (.getfield 16, 3) := by decide +kernel
theorem dX12_init_216 : decode cX12_init 216 = .ok (.iconst 2, 1) := by decide +kernel
theorem dX12_init_217 : decode cX12_init 217 = .ok (.bipush 50, 2) := by decide +kernel
theorem dX12_init_219 : decode cX12_init 219 = .ok (.iastore, 1) := by decide +kernel
theorem dX12_init_220 : decode cX12_init 220 = .ok (.return_, 1) := by decide +kernel
theorem dX12_in_0 : decode cX12_in 0 = .ok (.iload_n 0, 1) := by decide +kernel
theorem dX12_in_1 : decode cX12_in 1 = .ok (.iload_n 1, 1) := by decide +kernel
theorem dX12_in_2 : decode cX12_in 2 = .ok (.if_icmp .lt 12, 3) := by decide +kernel
theorem dX12_in_5 : decode cX12_in 5 = .ok (.iload_n 0, 1) := by decide +kernel
theorem dX12_in_6 : decode cX12_in 6 = .ok (.iload_n 2, 1) := by decide +kernel
theorem dX12_in_7 : decode cX12_in 7 = .ok (.if_icmp .gt 7, 3) := by decide +kernel
theorem dX12_in_10 : decode cX12_in 10 = .ok (.iconst 1, 1) := by decide +kernel
theorem dX12_in_11 : decode cX12_in 11 = .ok (.goto 4, 3) := by decide +kernel
theorem dX12_in_14 : decode cX12_in 14 = .ok (.iconst 0, 1) := by decide +kernel
theorem dX12_in_15 : decode cX12_in 15 = .ok (.ireturn, 1) := by decide +kernel
theorem dX12_isIn_0 : decode cX12_isIn 0 = .ok (.iload_n 0, 1) := by decide +kernel
theorem dX12_isIn_1 : decode cX12_isIn 1 = .ok (.iload_n 1, 1) := by decide +kernel
theorem dX12_isIn_2 : decode cX12_isIn 2 = .ok (.ishr, 1) := by decide +kernel
theorem dX12_isIn_3 : decode cX12_isIn 3 = .ok (.iconst 1, 1) := by decide +kernel
theorem dX12_isIn_4 : decode cX12_isIn 4 = .ok (.iand, 1) := by decide +kernel
theorem dX12_isIn_5 : decode cX12_isIn 5 = .ok (.iconst 1, 1) := by decide +kernel
theorem dX12_isIn_6 : decode cX12_isIn 6 = .ok (.if_icmp .ne 7, 3) := by decide +kernel
theorem dX12_isIn_9 : decode cX12_isIn 9 = .ok (.iconst 1, 1) := by decide +kernel
theorem dX12_isIn_10 : decode cX12_isIn 10 = .ok (.goto 4, 3) := by decide +kernel
theorem dX12_isIn_13 : decode cX12_isIn 13 = .ok (.iconst 0, 1) := by decide +kernel
theorem dX12_isIn_14 : decode cX12_isIn 14 = .ok (.ireturn, 1) := by decide +kernel
theorem dX12_ones_0 : decode cX12_ones 0 = .ok (.iconst 0, 1) := by decide +kernel
theorem dX12_ones_1 : decode cX12_ones 1 = .ok (.istore_n 1, 1) := by decide +kernel
theorem dX12_ones_2 : decode cX12_ones 2 = .ok (.iconst 0, 1) := by decide +kernel
theorem dX12_ones_3 : decode cX12_ones 3 = .ok (.istore_n 2, 1) := by decide +kernel
theorem dX12_ones_4 : decode cX12_ones 4 = .ok (.iload_n 2, 1) := by decide +kernel
theorem dX12_ones_5 : decode cX12_ones 5 = .ok (.bipush 12, 2) := by decide +kernel
theorem dX12_ones_7 : decode cX12_ones 7 = .ok (.if_icmp .ge 17, 3) := by decide +kernel
theorem dX12_ones_10 : decode cX12_ones 10 = .ok (.iload_n 1, 1) := by decide +kernel
theorem dX12_ones_11 : decode cX12_ones 11 = .ok (.iload_n 0, 1) := by decide +kernel
theorem dX12_ones_12 : decode cX12_ones 12 = .ok (.iload_n 2, 1) := by decide +kernel
theorem dX12_ones_13 : decode cX12_ones 13 = .ok (.ishr, 1) := by decide +kernel
theorem dX12_ones_14 : decode cX12_ones 14 = .ok (.iconst 1, 1) := by decide +kernel
theorem dX12_ones_15 : decode cX12_ones 15 = .ok (.iand, 1) := by decide +kernel
theorem dX12_ones_16 : decode cX12_ones 16 = .ok (.iadd, 1) := by decide +kernel
theorem dX12_ones_17 : decode cX12_ones 17 = .ok (.istore_n 1, 1) := by decide +kernel
theorem dX12_ones_18 : decode cX12_ones 18 = .ok (.iinc 2 1, 3) := by decide +kernel
theorem dX12_ones_21 : decode cX12_ones 21 = .ok (.goto (-17), 3) := by decide +kernel
theorem dX12_ones_24 : decode cX12_ones 24 = .ok (.iload_n 1, 1) := by decide +kernel
theorem dX12_ones_25 : decode cX12_ones 25 = .ok (.ireturn, 1) := by decide +kernel
theorem dX12_no_0 : decode cX12_no 0 = .ok (.ldc2_w 85, 3) := by decide +kernel
theorem dX12_no_3 : decode cX12_no 3 = .ok (.iload_n 0, 1) := by decide +kernel
theorem dX12_no_4 : decode cX12_no 4 = .ok (.i2l, 1) := by decide +kernel
theorem dX12_no_5 : decode cX12_no 5 = .ok (.lsub, 1) := by decide +kernel
theorem dX12_no_6 : decode cX12_no 6 = .ok (.lreturn, 1) := by decide +kernel
theorem dX12_lowest_0 : decode cX12_lowest 0 = .ok (.lload_n 0, 1) := by decide +kernel
theorem dX12_lowest_1 : decode cX12_lowest 1 = .ok (.lconst 0, 1) := by decide +kernel
theorem dX12_lowest_2 : decode cX12_lowest 2 = .ok (.lcmp, 1) := by decide +kernel
theorem dX12_lowest_3 : decode cX12_lowest 3 = .ok (.ifCond .ge 8, 3) := by decide +kernel
theorem dX12_lowest_6 : decode cX12_lowest 6 = .ok (.lload_n 0, 1) := by decide +kernel
theorem dX12_lowest_7 : decode cX12_lowest 7 = .ok (.lneg, 1) := by decide +kernel
theorem dX12_lowest_8 : decode cX12_lowest 8 = .ok (.goto 4, 3) := by decide +kernel
theorem dX12_lowest_11 : decode cX12_lowest 11 = .ok (.lload_n 0, 1) := by decide +kernel
theorem dX12_lowest_12 : decode cX12_lowest 12 = .ok (.lstore 5, 2) := by decide +kernel
theorem dX12_lowest_14 : decode cX12_lowest 14 = .ok (.lload_n 2, 1) := by decide +kernel
theorem dX12_lowest_15 : decode cX12_lowest 15 = .ok (.lstore 7, 2) := by decide +kernel
theorem dX12_lowest_17 : decode cX12_lowest 17 = .ok (.lload 7, 2) := by decide +kernel
theorem dX12_lowest_19 : decode cX12_lowest 19 = .ok (.lconst 0, 1) := by decide +kernel
theorem dX12_lowest_20 : decode cX12_lowest 20 = .ok (.lcmp, 1) := by decide +kernel
theorem dX12_lowest_21 : decode cX12_lowest 21 = .ok (.ifCond .eq 21, 3) := by decide +kernel
theorem dX12_lowest_24 : decode cX12_lowest 24 = .ok (.lload 5, 2) := by decide +kernel
theorem dX12_lowest_26 : decode cX12_lowest 26 = .ok (.lload 7, 2) := by decide +kernel
theorem dX12_lowest_28 : decode cX12_lowest 28 = .ok (.lrem, 1) := by decide +kernel
theorem dX12_lowest_29 : decode cX12_lowest 29 = .ok (.lstore 9, 2) := by decide +kernel
theorem dX12_lowest_31 : decode cX12_lowest 31 = .ok (.lload 7, 2) := by decide +kernel
theorem dX12_lowest_33 : decode cX12_lowest 33 = .ok (.lstore 5, 2) := by decide +kernel
theorem dX12_lowest_35 : decode cX12_lowest 35 = .ok (.lload 9, 2) := by decide +kernel
theorem dX12_lowest_37 : decode cX12_lowest 37 = .ok (.lstore 7, 2) := by decide +kernel
theorem dX12_lowest_39 : decode cX12_lowest 39 = .ok (.goto (-22), 3) := by decide +kernel
theorem dX12_lowest_42 : decode cX12_lowest 42 = .ok (.iload 4, 2) := by decide +kernel
theorem dX12_lowest_44 : decode cX12_lowest 44 = .ok (.ifCond .ne 10, 3) := by decide +kernel
theorem dX12_lowest_47 : decode cX12_lowest 47 = .ok (.lload_n 0, 1) := by decide +kernel
theorem dX12_lowest_48 : decode cX12_lowest 48 = .ok (.lload 5, 2) := by decide +kernel
theorem dX12_lowest_50 : decode cX12_lowest 50 = .ok (.ldiv, 1) := by decide +kernel
theorem dX12_lowest_51 : decode cX12_lowest 51 = .ok (.goto 7, 3) := by decide +kernel
theorem dX12_lowest_54 : decode cX12_lowest 54 = .ok (.lload_n 2, 1) := by decide +kernel
theorem dX12_lowest_55 : decode cX12_lowest 55 = .ok (.lload 5, 2) := by decide +kernel
theorem dX12_lowest_57 : decode cX12_lowest 57 = .ok (.ldiv, 1) := by decide +kernel
theorem dX12_lowest_58 : decode cX12_lowest 58 = .ok (.lreturn, 1) := by decide +kernel
theorem dX12_choose_0 : decode cX12_choose 0 = .ok (.iload_n 1, 1) := by decide +kernel
theorem dX12_choose_1 : decode cX12_choose 1 = .ok (.iconst 0, 1) := by decide +kernel
theorem dX12_choose_2 : decode cX12_choose 2 = .ok (.iload_n 0, 1) := by decide +kernel
theorem dX12_choose_3 : decode cX12_choose 3 = .ok (.invokestatic 87, 3) := by decide +kernel
theorem dX12_choose_6 : decode cX12_choose 6 = .ok (.ifCond .eq 7, 3) := by decide +kernel
theorem dX12_choose_9 : decode cX12_choose 9 = .ok (.lconst 1, 1) := by decide +kernel
theorem dX12_choose_10 : decode cX12_choose 10 = .ok (.goto 4, 3) := by decide +kernel
theorem dX12_choose_13 : decode cX12_choose 13 = .ok (.lconst 0, 1) := by decide +kernel
theorem dX12_choose_14 : decode cX12_choose 14 = .ok (.lstore_n 2, 1) := by decide +kernel
theorem dX12_choose_15 : decode cX12_choose 15 = .ok (.iconst 0, 1) := by decide +kernel
theorem dX12_choose_16 : decode cX12_choose 16 = .ok (.istore 4, 2) := by decide +kernel
theorem dX12_choose_18 : decode cX12_choose 18 = .ok (.iload 4, 2) := by decide +kernel
theorem dX12_choose_20 : decode cX12_choose 20 = .ok (.iload_n 1, 1) := by decide +kernel
theorem dX12_choose_21 : decode cX12_choose 21 = .ok (.if_icmp .ge 29, 3) := by decide +kernel
theorem dX12_choose_24 : decode cX12_choose 24 = .ok (.lload_n 2, 1) := by decide +kernel
theorem dX12_choose_25 : decode cX12_choose 25 = .ok (.lconst 0, 1) := by decide +kernel
theorem dX12_choose_26 : decode cX12_choose 26 = .ok (.lcmp, 1) := by decide +kernel
theorem dX12_choose_27 : decode cX12_choose 27 = .ok (.ifCond .le 23, 3) := by decide +kernel
theorem dX12_choose_30 : decode cX12_choose 30 = .ok (.lload_n 2, 1) := by decide +kernel
theorem dX12_choose_31 : decode cX12_choose 31 = .ok (.iload_n 0, 1) := by decide +kernel
theorem dX12_choose_32 : decode cX12_choose 32 = .ok (.iload 4, 2) := by decide +kernel
theorem dX12_choose_34 : decode cX12_choose 34 = .ok (.isub, 1) := by decide +kernel
theorem dX12_choose_35 : decode cX12_choose 35 = .ok (.i2l, 1) := by decide +kernel
theorem dX12_choose_36 : decode cX12_choose 36 = .ok (.lmul, 1) := by decide +kernel
theorem dX12_choose_37 : decode cX12_choose 37 = .ok (.iload 4, 2) := by decide +kernel
theorem dX12_choose_39 : decode cX12_choose 39 = .ok (.i2l, 1) := by decide +kernel
theorem dX12_choose_40 : decode cX12_choose 40 = .ok (.lconst 1, 1) := by decide +kernel
theorem dX12_choose_41 : decode cX12_choose 41 = .ok (.ladd, 1) := by decide +kernel
theorem dX12_choose_42 : decode cX12_choose 42 = .ok (.ldiv, 1) := by decide +kernel
theorem dX12_choose_43 : decode cX12_choose 43 = .ok (.lstore_n 2, 1) := by decide +kernel
theorem dX12_choose_44 : decode cX12_choose 44 = .ok (.iinc 4 1, 3) := by decide +kernel
theorem dX12_choose_47 : decode cX12_choose 47 = .ok (.goto (-29), 3) := by decide +kernel
theorem dX12_choose_50 : decode cX12_choose 50 = .ok (.lload_n 2, 1) := by decide +kernel
theorem dX12_choose_51 : decode cX12_choose 51 = .ok (.lreturn, 1) := by decide +kernel
theorem dX12_isQuestion_0 : decode cX12_isQuestion 0 = .ok (.iload_n 1, 1) := by decide +kernel
theorem dX12_isQuestion_1 : decode cX12_isQuestion 1 = .ok (.iconst 0, 1) := by decide +kernel
theorem dX12_isQuestion_2 : decode cX12_isQuestion 2 = .ok (.aload_n 0, 1) := by decide +kernel
theorem dX12_isQuestion_3 : decode cX12_isQuestion 3 = .ok (.getfield 81, 3) := by decide +kernel
theorem dX12_isQuestion_6 : decode cX12_isQuestion 6 = .ok (.iconst 1, 1) := by decide +kernel
theorem dX12_isQuestion_7 : decode cX12_isQuestion 7 = .ok (.isub, 1) := by decide +kernel
theorem dX12_isQuestion_8 : decode cX12_isQuestion 8 = .ok (.invokestatic 87, 3) := by decide +kernel
theorem dX12_isQuestion_11 : decode cX12_isQuestion 11 = .ok (.ireturn, 1) := by decide +kernel
theorem dX12_questions_0 : decode cX12_questions 0 = .ok (.iload_n 1, 1) := by decide +kernel
theorem dX12_questions_1 : decode cX12_questions 1 = .ok (.iconst 1, 1) := by decide +kernel
theorem dX12_questions_2 : decode cX12_questions 2 = .ok (.bipush 12, 2) := by decide +kernel
theorem dX12_questions_4 : decode cX12_questions 4 = .ok (.invokestatic 87, 3) := by decide +kernel
theorem dX12_questions_7 : decode cX12_questions 7 = .ok (.ifCond .ne 6, 3) := by decide +kernel
theorem dX12_questions_10 : decode cX12_questions 10 = .ok (.bipush (-2), 2) := by decide +kernel
theorem dX12_questions_12 : decode cX12_questions 12 = .ok (.ireturn, 1) := by decide +kernel
theorem dX12_questions_13 : decode cX12_questions 13 = .ok (.aload_n 0, 1) := by decide +kernel
theorem dX12_questions_14 : decode cX12_questions 14 = .ok (.getfield 81, 3) := by decide +kernel
theorem dX12_questions_17 : decode cX12_questions 17 = .ok (.istore_n 2, 1) := by decide +kernel
theorem dX12_questions_18 : decode cX12_questions 18 = .ok (.aload_n 0, 1) := by decide +kernel
theorem dX12_questions_19 : decode cX12_questions 19 = .ok (.iload_n 1, 1) := by decide +kernel
theorem dX12_questions_20 : decode cX12_questions 20 = .ok (.putfield 81, 3) := by decide +kernel
theorem dX12_questions_23 : decode cX12_questions 23 = .ok (.iload_n 2, 1) := by decide +kernel
theorem dX12_questions_24 : decode cX12_questions 24 = .ok (.ireturn, 1) := by decide +kernel
theorem dX12_type_0 : decode cX12_type 0 = .ok (.iload_n 1, 1) := by decide +kernel
theorem dX12_type_1 : decode cX12_type 1 = .ok (.iconst 0, 1) := by decide +kernel
theorem dX12_type_2 : decode cX12_type 2 = .ok (.sipush 255, 3) := by decide +kernel
theorem dX12_type_5 : decode cX12_type 5 = .ok (.invokestatic 87, 3) := by decide +kernel
theorem dX12_type_8 : decode cX12_type 8 = .ok (.ifCond .ne 6, 3) := by decide +kernel
theorem dX12_type_11 : decode cX12_type 11 = .ok (.bipush (-2), 2) := by decide +kernel
theorem dX12_type_13 : decode cX12_type 13 = .ok (.ireturn, 1) := by decide +kernel
theorem dX12_type_14 : decode cX12_type 14 = .ok (.aload_n 0, 1) := by decide +kernel
theorem dX12_type_15 : decode cX12_type 15 = .ok (.getfield 91, 3) := by decide +kernel
theorem dX12_type_18 : decode cX12_type 18 = .ok (.bipush 12, 2) := by decide +kernel
theorem dX12_type_20 : decode cX12_type 20 = .ok (.if_icmp .ne 6, 3) := by decide +kernel
theorem dX12_type_23 : decode cX12_type 23 = .ok (.bipush (-4), 2) := by decide +kernel
theorem dX12_type_25 : decode cX12_type 25 = .ok (.ireturn, 1) := by decide +kernel
theorem dX12_type_26 : decode cX12_type 26 = .ok (.aload_n 0, 1) := by decide +kernel
theorem dX12_type_27 : decode cX12_type 27 = .ok (.getfield 7, 3) := by decide +kernel
theorem dX12_type_30 : decode cX12_type 30 = .ok (.aload_n 0, 1) := by decide +kernel
theorem dX12_type_31 : decode cX12_type 31 = .ok (.getfield 91, 3) := by decide +kernel
theorem dX12_type_34 : decode cX12_type 34 = .ok (.iload_n 1, 1) := by decide +kernel
theorem dX12_type_35 : decode cX12_type 35 = .ok (.iastore, 1) := by decide +kernel
theorem dX12_type_36 : decode cX12_type 36 = .ok (.aload_n 0, 1) := by decide +kernel
theorem dX12_type_37 : decode cX12_type 37 = .ok (.dup, 1) := by decide +kernel
theorem dX12_type_38 : decode cX12_type 38 = .ok (.getfield 91, 3) := by decide +kernel
theorem dX12_type_41 : decode cX12_type 41 = .ok (.iconst 1, 1) := by decide +kernel
theorem dX12_type_42 : decode cX12_type 42 = .ok (.iadd, 1) := by decide +kernel
theorem dX12_type_43 : decode cX12_type 43 = .ok (.putfield 91, 3) := by decide +kernel
theorem dX12_type_46 : decode cX12_type 46 = .ok (.aload_n 0, 1) := by decide +kernel
theorem dX12_type_47 : decode cX12_type 47 = .ok (.getfield 91, 3) := by decide +kernel
theorem dX12_type_50 : decode cX12_type 50 = .ok (.ireturn, 1) := by decide +kernel
theorem dX12_wipe_0 : decode cX12_wipe 0 = .ok (.aload_n 0, 1) := by decide +kernel
theorem dX12_wipe_1 : decode cX12_wipe 1 = .ok (.getfield 91, 3) := by decide +kernel
theorem dX12_wipe_4 : decode cX12_wipe 4 = .ok (.istore_n 1, 1) := by decide +kernel
theorem dX12_wipe_5 : decode cX12_wipe 5 = .ok (.aload_n 0, 1) := by decide +kernel
theorem dX12_wipe_6 : decode cX12_wipe 6 = .ok (.iconst 0, 1) := by decide +kernel
theorem dX12_wipe_7 : decode cX12_wipe 7 = .ok (.putfield 91, 3) := by decide +kernel
theorem dX12_wipe_10 : decode cX12_wipe 10 = .ok (.iload_n 1, 1) := by decide +kernel
theorem dX12_wipe_11 : decode cX12_wipe 11 = .ok (.ireturn, 1) := by decide +kernel
theorem dX12_faultNow_0 : decode cX12_faultNow 0 = .ok (.iconst 0, 1) := by decide +kernel
theorem dX12_faultNow_1 : decode cX12_faultNow 1 = .ok (.istore_n 1, 1) := by decide +kernel
theorem dX12_faultNow_2 : decode cX12_faultNow 2 = .ok (.iload_n 1, 1) := by decide +kernel
theorem dX12_faultNow_3 : decode cX12_faultNow 3 = .ok (.bipush 12, 2) := by decide +kernel
theorem dX12_faultNow_5 : decode cX12_faultNow 5 = .ok (.if_icmp .ge 16, 3) := by decide +kernel
theorem dX12_faultNow_8 : decode cX12_faultNow 8 = .ok (.aload_n 0, 1) := by decide +kernel
theorem dX12_faultNow_9 : decode cX12_faultNow 9 = .ok (.getfield 13, 3) := by decide +kernel
theorem dX12_faultNow_12 : decode cX12_faultNow 12 = .ok (.iload_n 1, 1) := by decide +kernel
theorem dX12_faultNow_13 : decode cX12_faultNow 13 = .ok (.iconst 0, 1) := by decide +kernel
theorem dX12_faultNow_14 : decode cX12_faultNow 14 = .ok (.iastore, 1) := by decide +kernel
theorem dX12_faultNow_15 : decode cX12_faultNow 15 = .ok (.iinc 1 1, 3) := by decide +kernel
theorem dX12_faultNow_18 : decode cX12_faultNow 18 = .ok (.goto (-16), 3) := by decide +kernel
theorem dX12_faultNow_21 : decode cX12_faultNow 21 = .ok (.iconst 0, 1) := by decide +kernel
theorem dX12_faultNow_22 : decode cX12_faultNow 22 = .ok (.istore_n 1, 1) := by decide +kernel
theorem dX12_faultNow_23 : decode cX12_faultNow 23 = .ok (.iload_n 1, 1) := by decide +kernel
theorem dX12_faultNow_24 : decode cX12_faultNow 24 = .ok (.aload_n 0, 1) := by decide +kernel
theorem dX12_faultNow_25 : decode cX12_faultNow 25 = .ok (.getfield 81, 3) := by decide +kernel
theorem dX12_faultNow_28 : decode cX12_faultNow 28 = .ok (.if_icmp .ge 56, 3) := by decide +kernel
theorem dX12_faultNow_31 : decode cX12_faultNow 31 = .ok (.iload_n 1, 1) := by decide +kernel
theorem dX12_faultNow_32 : decode cX12_faultNow 32 = .ok (.aload_n 0, 1) := by decide +kernel
theorem dX12_faultNow_33 : decode cX12_faultNow 33 = .ok (.getfield 91, 3) := by decide +kernel
theorem dX12_faultNow_36 : decode cX12_faultNow 36 = .ok (.if_icmp .ge 34, 3) := by decide +kernel
theorem dX12_faultNow_39 : decode cX12_faultNow 39 = .ok (.aload_n 0, 1) := by decide +kernel
theorem dX12_faultNow_40 : decode cX12_faultNow 40 = .ok (.getfield 7, 3) := by decide +kernel
theorem dX12_faultNow_43 : decode cX12_faultNow 43 = .ok (.iload_n 1, 1) := by decide +kernel
theorem dX12_faultNow_44 : decode cX12_faultNow 44 = .ok (.iaload, 1) := by decide +kernel
theorem dX12_faultNow_45 : decode cX12_faultNow 45 = .ok (.bipush 63, 2) := by decide +kernel
theorem dX12_faultNow_47 : decode cX12_faultNow 47 = .ok (.if_icmp .eq 19, 3) := by decide +kernel
theorem dX12_faultNow_50 : decode cX12_faultNow 50 = .ok (.aload_n 0, 1) := by decide +kernel
theorem dX12_faultNow_51 : decode cX12_faultNow 51 = .ok (.getfield 7, 3) := by decide +kernel
theorem dX12_faultNow_54 : decode cX12_faultNow 54 = .ok (.iload_n 1, 1) := by decide +kernel
theorem dX12_faultNow_55 : decode cX12_faultNow 55 = .ok (.iaload, 1) := by decide +kernel
theorem dX12_faultNow_56 : decode cX12_faultNow 56 = .ok (.bipush 49, 2) := by decide +kernel
theorem dX12_faultNow_58 : decode cX12_faultNow 58 = .ok (.bipush 53, 2) := by decide +kernel
theorem dX12_faultNow_60 : decode cX12_faultNow 60 = .ok (.invokestatic 87, 3) := by decide +kernel
theorem dX12_faultNow_63 : decode cX12_faultNow 63 = .ok (.ifCond .eq 7, 3) := by decide +kernel
theorem dX12_faultNow_66 : decode cX12_faultNow 66 = .ok (.iconst 1, 1) := by decide +kernel
theorem dX12_faultNow_67 : decode cX12_faultNow 67 = .ok (.goto 4, 3) := by decide +kernel
theorem dX12_faultNow_70 : decode cX12_faultNow 70 = .ok (.iconst 0, 1) := by decide +kernel
theorem dX12_faultNow_71 : decode cX12_faultNow 71 = .ok (.istore_n 2, 1) := by decide +kernel
theorem dX12_faultNow_72 : decode cX12_faultNow 72 = .ok (.iload_n 2, 1) := by decide +kernel
theorem dX12_faultNow_73 : decode cX12_faultNow 73 = .ok (.ifCond .ne 5, 3) := by decide +kernel
theorem dX12_faultNow_76 : decode cX12_faultNow 76 = .ok (.iload_n 1, 1) := by decide +kernel
theorem dX12_faultNow_77 : decode cX12_faultNow 77 = .ok (.ireturn, 1) := by decide +kernel
theorem dX12_faultNow_78 : decode cX12_faultNow 78 = .ok (.iinc 1 1, 3) := by decide +kernel
theorem dX12_faultNow_81 : decode cX12_faultNow 81 = .ok (.goto (-58), 3) := by decide +kernel
theorem dX12_faultNow_84 : decode cX12_faultNow 84 = .ok (.aload_n 0, 1) := by decide +kernel
theorem dX12_faultNow_85 : decode cX12_faultNow 85 = .ok (.getfield 91, 3) := by decide +kernel
theorem dX12_faultNow_88 : decode cX12_faultNow 88 = .ok (.aload_n 0, 1) := by decide +kernel
theorem dX12_faultNow_89 : decode cX12_faultNow 89 = .ok (.getfield 81, 3) := by decide +kernel
theorem dX12_faultNow_92 : decode cX12_faultNow 92 = .ok (.if_icmp .le 10, 3) := by decide +kernel
theorem dX12_faultNow_95 : decode cX12_faultNow 95 = .ok (.aload_n 0, 1) := by decide +kernel
theorem dX12_faultNow_96 : decode cX12_faultNow 96 = .ok (.getfield 81, 3) := by decide +kernel
theorem dX12_faultNow_99 : decode cX12_faultNow 99 = .ok (.goto 4, 3) := by decide +kernel
theorem dX12_faultNow_102 : decode cX12_faultNow 102 = .ok (.iconst (-1), 1) := by decide +kernel
theorem dX12_faultNow_103 : decode cX12_faultNow 103 = .ok (.ireturn, 1) := by decide +kernel
theorem dX12_keyNow_0 : decode cX12_keyNow 0 = .ok (.aload_n 0, 1) := by decide +kernel
theorem dX12_keyNow_1 : decode cX12_keyNow 1 = .ok (.invokevirtual 94, 3) := by decide +kernel
theorem dX12_keyNow_4 : decode cX12_keyNow 4 = .ok (.istore_n 1, 1) := by decide +kernel
theorem dX12_keyNow_5 : decode cX12_keyNow 5 = .ok (.iconst 0, 1) := by decide +kernel
theorem dX12_keyNow_6 : decode cX12_keyNow 6 = .ok (.istore_n 2, 1) := by decide +kernel
theorem dX12_keyNow_7 : decode cX12_keyNow 7 = .ok (.iload_n 2, 1) := by decide +kernel
theorem dX12_keyNow_8 : decode cX12_keyNow 8 = .ok (.aload_n 0, 1) := by decide +kernel
theorem dX12_keyNow_9 : decode cX12_keyNow 9 = .ok (.getfield 81, 3) := by decide +kernel
theorem dX12_keyNow_12 : decode cX12_keyNow 12 = .ok (.if_icmp .ge 44, 3) := by decide +kernel
theorem dX12_keyNow_15 : decode cX12_keyNow 15 = .ok (.iload_n 1, 1) := by decide +kernel
theorem dX12_keyNow_16 : decode cX12_keyNow 16 = .ok (.iconst (-1), 1) := by decide +kernel
theorem dX12_keyNow_17 : decode cX12_keyNow 17 = .ok (.if_icmp .ne 39, 3) := by decide +kernel
theorem dX12_keyNow_20 : decode cX12_keyNow 20 = .ok (.aload_n 0, 1) := by decide +kernel
theorem dX12_keyNow_21 : decode cX12_keyNow 21 = .ok (.getfield 13, 3) := by decide +kernel
theorem dX12_keyNow_24 : decode cX12_keyNow 24 = .ok (.iload_n 2, 1) := by decide +kernel
theorem dX12_keyNow_25 : decode cX12_keyNow 25 = .ok (.aload_n 0, 1) := by decide +kernel
theorem dX12_keyNow_26 : decode cX12_keyNow 26 = .ok (.getfield 7, 3) := by decide +kernel
theorem dX12_keyNow_29 : decode cX12_keyNow 29 = .ok (.iload_n 2, 1) := by decide +kernel
theorem dX12_keyNow_30 : decode cX12_keyNow 30 = .ok (.iaload, 1) := by decide +kernel
theorem dX12_keyNow_31 : decode cX12_keyNow 31 = .ok (.bipush 63, 2) := by decide +kernel
theorem dX12_keyNow_33 : decode cX12_keyNow 33 = .ok (.if_icmp .ne 7, 3) := by decide +kernel
theorem dX12_keyNow_36 : decode cX12_keyNow 36 = .ok (.iconst 0, 1) := by decide +kernel
theorem dX12_keyNow_37 : decode cX12_keyNow 37 = .ok (.goto 12, 3) := by decide +kernel
theorem dX12_keyNow_40 : decode cX12_keyNow 40 = .ok (.aload_n 0, 1) := by decide +kernel
theorem dX12_keyNow_41 : decode cX12_keyNow 41 = .ok (.getfield 7, 3) := by decide +kernel
theorem dX12_keyNow_44 : decode cX12_keyNow 44 = .ok (.iload_n 2, 1) := by decide +kernel
theorem dX12_keyNow_45 : decode cX12_keyNow 45 = .ok (.iaload, 1) := by decide +kernel
theorem dX12_keyNow_46 : decode cX12_keyNow 46 = .ok (.bipush 48, 2) := by decide +kernel
theorem dX12_keyNow_48 : decode cX12_keyNow 48 = .ok (.isub, 1) := by decide +kernel
theorem dX12_keyNow_49 : decode cX12_keyNow 49 = .ok (.iastore, 1) := by decide +kernel
theorem dX12_keyNow_50 : decode cX12_keyNow 50 = .ok (.iinc 2 1, 3) := by decide +kernel
theorem dX12_keyNow_53 : decode cX12_keyNow 53 = .ok (.goto (-46), 3) := by decide +kernel
theorem dX12_keyNow_56 : decode cX12_keyNow 56 = .ok (.iload_n 1, 1) := by decide +kernel
theorem dX12_keyNow_57 : decode cX12_keyNow 57 = .ok (.ireturn, 1) := by decide +kernel
theorem dX12_fault_0 : decode cX12_fault 0 = .ok (.aload_n 0, 1) := by decide +kernel
theorem dX12_fault_1 : decode cX12_fault 1 = .ok (.invokevirtual 94, 3) := by decide +kernel
theorem dX12_fault_4 : decode cX12_fault 4 = .ok (.ireturn, 1) := by decide +kernel
theorem dX12_keyOf_0 : decode cX12_keyOf 0 = .ok (.aload_n 0, 1) := by decide +kernel
theorem dX12_keyOf_1 : decode cX12_keyOf 1 = .ok (.invokevirtual 98, 3) := by decide +kernel
theorem dX12_keyOf_4 : decode cX12_keyOf 4 = .ok (.istore_n 2, 1) := by decide +kernel
theorem dX12_keyOf_5 : decode cX12_keyOf 5 = .ok (.aload_n 0, 1) := by decide +kernel
theorem dX12_keyOf_6 : decode cX12_keyOf 6 = .ok (.getfield 13, 3) := by decide +kernel
theorem dX12_keyOf_9 : decode cX12_keyOf 9 = .ok (.iload_n 1, 1) := by decide +kernel
theorem dX12_keyOf_10 : decode cX12_keyOf 10 = .ok (.iaload, 1) := by decide +kernel
theorem dX12_keyOf_11 : decode cX12_keyOf 11 = .ok (.ireturn, 1) := by decide +kernel
theorem dX12_key_0 : decode cX12_key 0 = .ok (.aload_n 0, 1) := by decide +kernel
theorem dX12_key_1 : decode cX12_key 1 = .ok (.iload_n 1, 1) := by decide +kernel
theorem dX12_key_2 : decode cX12_key 2 = .ok (.invokevirtual 101, 3) := by decide +kernel
theorem dX12_key_5 : decode cX12_key 5 = .ok (.ifCond .eq 11, 3) := by decide +kernel
theorem dX12_key_8 : decode cX12_key 8 = .ok (.aload_n 0, 1) := by decide +kernel
theorem dX12_key_9 : decode cX12_key 9 = .ok (.iload_n 1, 1) := by decide +kernel
theorem dX12_key_10 : decode cX12_key 10 = .ok (.invokevirtual 105, 3) := by decide +kernel
theorem dX12_key_13 : decode cX12_key 13 = .ok (.goto 5, 3) := by decide +kernel
theorem dX12_key_16 : decode cX12_key 16 = .ok (.bipush (-2), 2) := by decide +kernel
theorem dX12_key_18 : decode cX12_key 18 = .ok (.ireturn, 1) := by decide +kernel
theorem dX12_set_0 : decode cX12_set 0 = .ok (.iload_n 1, 1) := by decide +kernel
theorem dX12_set_1 : decode cX12_set 1 = .ok (.iconst 0, 1) := by decide +kernel
theorem dX12_set_2 : decode cX12_set 2 = .ok (.iconst 2, 1) := by decide +kernel
theorem dX12_set_3 : decode cX12_set 3 = .ok (.invokestatic 87, 3) := by decide +kernel
theorem dX12_set_6 : decode cX12_set 6 = .ok (.ifCond .eq 34, 3) := by decide +kernel
theorem dX12_set_9 : decode cX12_set 9 = .ok (.iload_n 2, 1) := by decide +kernel
theorem dX12_set_10 : decode cX12_set 10 = .ok (.iconst 0, 1) := by decide +kernel
theorem dX12_set_11 : decode cX12_set 11 = .ok (.iload_n 1, 1) := by decide +kernel
theorem dX12_set_12 : decode cX12_set 12 = .ok (.ifCond .ne 9, 3) := by decide +kernel
theorem dX12_set_15 : decode cX12_set 15 = .ok (.sipush 999, 3) := by decide +kernel
theorem dX12_set_18 : decode cX12_set 18 = .ok (.goto 16, 3) := by decide +kernel
theorem dX12_set_21 : decode cX12_set 21 = .ok (.iload_n 1, 1) := by decide +kernel
theorem dX12_set_22 : decode cX12_set 22 = .ok (.iconst 1, 1) := by decide +kernel
theorem dX12_set_23 : decode cX12_set 23 = .ok (.if_icmp .ne 8, 3) := by decide +kernel
theorem dX12_set_26 : decode cX12_set 26 = .ok (.bipush 100, 2) := by decide +kernel
theorem dX12_set_28 : decode cX12_set 28 = .ok (.goto 6, 3) := by decide +kernel
theorem dX12_set_31 : decode cX12_set 31 = .ok (.sipush 1000, 3) := by decide +kernel
theorem dX12_set_34 : decode cX12_set 34 = .ok (.invokestatic 87, 3) := by decide +kernel
theorem dX12_set_37 : decode cX12_set 37 = .ok (.ifCond .ne 6, 3) := by decide +kernel
theorem dX12_set_40 : decode cX12_set 40 = .ok (.bipush (-5), 2) := by decide +kernel
theorem dX12_set_42 : decode cX12_set 42 = .ok (.ireturn, 1) := by decide +kernel
theorem dX12_set_43 : decode cX12_set 43 = .ok (.aload_n 0, 1) := by decide +kernel
theorem dX12_set_44 : decode cX12_set 44 = .ok (.getfield 16, 3) := by decide +kernel
theorem dX12_set_47 : decode cX12_set 47 = .ok (.iload_n 1, 1) := by decide +kernel
theorem dX12_set_48 : decode cX12_set 48 = .ok (.iaload, 1) := by decide +kernel
theorem dX12_set_49 : decode cX12_set 49 = .ok (.istore_n 3, 1) := by decide +kernel
theorem dX12_set_50 : decode cX12_set 50 = .ok (.aload_n 0, 1) := by decide +kernel
theorem dX12_set_51 : decode cX12_set 51 = .ok (.getfield 16, 3) := by decide +kernel
theorem dX12_set_54 : decode cX12_set 54 = .ok (.iload_n 1, 1) := by decide +kernel
theorem dX12_set_55 : decode cX12_set 55 = .ok (.iload_n 2, 1) := by decide +kernel
theorem dX12_set_56 : decode cX12_set 56 = .ok (.iastore, 1) := by decide +kernel
theorem dX12_set_57 : decode cX12_set 57 = .ok (.iload_n 3, 1) := by decide +kernel
theorem dX12_set_58 : decode cX12_set 58 = .ok (.ireturn, 1) := by decide +kernel
theorem dX12_isPupil_0 : decode cX12_isPupil 0 = .ok (.iload_n 1, 1) := by decide +kernel
theorem dX12_isPupil_1 : decode cX12_isPupil 1 = .ok (.iconst 0, 1) := by decide +kernel
theorem dX12_isPupil_2 : decode cX12_isPupil 2 = .ok (.aload_n 0, 1) := by decide +kernel
theorem dX12_isPupil_3 : decode cX12_isPupil 3 = .ok (.getfield 109, 3) := by decide +kernel
theorem dX12_isPupil_6 : decode cX12_isPupil 6 = .ok (.iconst 1, 1) := by decide +kernel
theorem dX12_isPupil_7 : decode cX12_isPupil 7 = .ok (.isub, 1) := by decide +kernel
theorem dX12_isPupil_8 : decode cX12_isPupil 8 = .ok (.invokestatic 87, 3) := by decide +kernel
theorem dX12_isPupil_11 : decode cX12_isPupil 11 = .ok (.ireturn, 1) := by decide +kernel
theorem dX12_pupil_0 : decode cX12_pupil 0 = .ok (.iload_n 1, 1) := by decide +kernel
theorem dX12_pupil_1 : decode cX12_pupil 1 = .ok (.iconst 0, 1) := by decide +kernel
theorem dX12_pupil_2 : decode cX12_pupil 2 = .ok (.iconst 3, 1) := by decide +kernel
theorem dX12_pupil_3 : decode cX12_pupil 3 = .ok (.invokestatic 87, 3) := by decide +kernel
theorem dX12_pupil_6 : decode cX12_pupil 6 = .ok (.ifCond .eq 12, 3) := by decide +kernel
theorem dX12_pupil_9 : decode cX12_pupil 9 = .ok (.iload_n 2, 1) := by decide +kernel
theorem dX12_pupil_10 : decode cX12_pupil 10 = .ok (.iconst 0, 1) := by decide +kernel
theorem dX12_pupil_11 : decode cX12_pupil 11 = .ok (.iconst 4, 1) := by decide +kernel
theorem dX12_pupil_12 : decode cX12_pupil 12 = .ok (.invokestatic 87, 3) := by decide +kernel
theorem dX12_pupil_15 : decode cX12_pupil 15 = .ok (.ifCond .ne 6, 3) := by decide +kernel
theorem dX12_pupil_18 : decode cX12_pupil 18 = .ok (.bipush (-2), 2) := by decide +kernel
theorem dX12_pupil_20 : decode cX12_pupil 20 = .ok (.ireturn, 1) := by decide +kernel
theorem dX12_pupil_21 : decode cX12_pupil 21 = .ok (.iconst 0, 1) := by decide +kernel
theorem dX12_pupil_22 : decode cX12_pupil 22 = .ok (.istore_n 3, 1) := by decide +kernel
theorem dX12_pupil_23 : decode cX12_pupil 23 = .ok (.iload_n 3, 1) := by decide +kernel
theorem dX12_pupil_24 : decode cX12_pupil 24 = .ok (.aload_n 0, 1) := by decide +kernel
theorem dX12_pupil_25 : decode cX12_pupil 25 = .ok (.getfield 109, 3) := by decide +kernel
theorem dX12_pupil_28 : decode cX12_pupil 28 = .ok (.if_icmp .ge 32, 3) := by decide +kernel
theorem dX12_pupil_31 : decode cX12_pupil 31 = .ok (.aload_n 0, 1) := by decide +kernel
theorem dX12_pupil_32 : decode cX12_pupil 32 = .ok (.getfield 19, 3) := by decide +kernel
theorem dX12_pupil_35 : decode cX12_pupil 35 = .ok (.iload_n 3, 1) := by decide +kernel
theorem dX12_pupil_36 : decode cX12_pupil 36 = .ok (.iaload, 1) := by decide +kernel
theorem dX12_pupil_37 : decode cX12_pupil 37 = .ok (.iload_n 1, 1) := by decide +kernel
theorem dX12_pupil_38 : decode cX12_pupil 38 = .ok (.if_icmp .ne 16, 3) := by decide +kernel
theorem dX12_pupil_41 : decode cX12_pupil 41 = .ok (.aload_n 0, 1) := by decide +kernel
theorem dX12_pupil_42 : decode cX12_pupil 42 = .ok (.getfield 22, 3) := by decide +kernel
theorem dX12_pupil_45 : decode cX12_pupil 45 = .ok (.iload_n 3, 1) := by decide +kernel
theorem dX12_pupil_46 : decode cX12_pupil 46 = .ok (.iaload, 1) := by decide +kernel
theorem dX12_pupil_47 : decode cX12_pupil 47 = .ok (.iload_n 2, 1) := by decide +kernel
theorem dX12_pupil_48 : decode cX12_pupil 48 = .ok (.if_icmp .ne 6, 3) := by decide +kernel
theorem dX12_pupil_51 : decode cX12_pupil 51 = .ok (.bipush (-2), 2) := by decide +kernel
theorem dX12_pupil_53 : decode cX12_pupil 53 = .ok (.ireturn, 1) := by decide +kernel
theorem dX12_pupil_54 : decode cX12_pupil 54 = .ok (.iinc 3 1, 3) := by decide +kernel
theorem dX12_pupil_57 : decode cX12_pupil 57 = .ok (.goto (-34), 3) := by decide +kernel
theorem dX12_pupil_60 : decode cX12_pupil 60 = .ok (.aload_n 0, 1) := by decide +kernel
theorem dX12_pupil_61 : decode cX12_pupil 61 = .ok (.getfield 109, 3) := by decide +kernel
theorem dX12_pupil_64 : decode cX12_pupil 64 = .ok (.bipush 10, 2) := by decide +kernel
theorem dX12_pupil_66 : decode cX12_pupil 66 = .ok (.if_icmp .ne 6, 3) := by decide +kernel
theorem dX12_pupil_69 : decode cX12_pupil 69 = .ok (.bipush (-4), 2) := by decide +kernel
theorem dX12_pupil_71 : decode cX12_pupil 71 = .ok (.ireturn, 1) := by decide +kernel
theorem dX12_pupil_72 : decode cX12_pupil 72 = .ok (.aload_n 0, 1) := by decide +kernel
theorem dX12_pupil_73 : decode cX12_pupil 73 = .ok (.getfield 19, 3) := by decide +kernel
theorem dX12_pupil_76 : decode cX12_pupil 76 = .ok (.aload_n 0, 1) := by decide +kernel
theorem dX12_pupil_77 : decode cX12_pupil 77 = .ok (.getfield 109, 3) := by decide +kernel
theorem dX12_pupil_80 : decode cX12_pupil 80 = .ok (.iload_n 1, 1) := by decide +kernel
theorem dX12_pupil_81 : decode cX12_pupil 81 = .ok (.iastore, 1) := by decide +kernel
theorem dX12_pupil_82 : decode cX12_pupil 82 = .ok (.aload_n 0, 1) := by decide +kernel
theorem dX12_pupil_83 : decode cX12_pupil 83 = .ok (.getfield 22, 3) := by decide +kernel
theorem dX12_pupil_86 : decode cX12_pupil 86 = .ok (.aload_n 0, 1) := by decide +kernel
theorem dX12_pupil_87 : decode cX12_pupil 87 = .ok (.getfield 109, 3) := by decide +kernel
theorem dX12_pupil_90 : decode cX12_pupil 90 = .ok (.iload_n 2, 1) := by decide +kernel
theorem dX12_pupil_91 : decode cX12_pupil 91 = .ok (.iastore, 1) := by decide +kernel
theorem dX12_pupil_92 : decode cX12_pupil 92 = .ok (.aload_n 0, 1) := by decide +kernel
theorem dX12_pupil_93 : decode cX12_pupil 93 = .ok (.dup, 1) := by decide +kernel
theorem dX12_pupil_94 : decode cX12_pupil 94 = .ok (.getfield 109, 3) := by decide +kernel
theorem dX12_pupil_97 : decode cX12_pupil 97 = .ok (.iconst 1, 1) := by decide +kernel
theorem dX12_pupil_98 : decode cX12_pupil 98 = .ok (.iadd, 1) := by decide +kernel
theorem dX12_pupil_99 : decode cX12_pupil 99 = .ok (.putfield 109, 3) := by decide +kernel
theorem dX12_pupil_102 : decode cX12_pupil 102 = .ok (.aload_n 0, 1) := by decide +kernel
theorem dX12_pupil_103 : decode cX12_pupil 103 = .ok (.getfield 109, 3) := by decide +kernel
theorem dX12_pupil_106 : decode cX12_pupil 106 = .ok (.iconst 1, 1) := by decide +kernel
theorem dX12_pupil_107 : decode cX12_pupil 107 = .ok (.isub, 1) := by decide +kernel
theorem dX12_pupil_108 : decode cX12_pupil 108 = .ok (.ireturn, 1) := by decide +kernel
theorem dX12_lastTime_0 : decode cX12_lastTime 0 = .ok (.aload_n 0, 1) := by decide +kernel
theorem dX12_lastTime_1 : decode cX12_lastTime 1 = .ok (.getfield 112, 3) := by decide +kernel
theorem dX12_lastTime_4 : decode cX12_lastTime 4 = .ok (.ifCond .ne 7, 3) := by decide +kernel
theorem dX12_lastTime_7 : decode cX12_lastTime 7 = .ok (.iconst 0, 1) := by decide +kernel
theorem dX12_lastTime_8 : decode cX12_lastTime 8 = .ok (.goto 14, 3) := by decide +kernel
theorem dX12_lastTime_11 : decode cX12_lastTime 11 = .ok (.aload_n 0, 1) := by decide +kernel
theorem dX12_lastTime_12 : decode cX12_lastTime 12 = .ok (.getfield 34, 3) := by decide +kernel
theorem dX12_lastTime_15 : decode cX12_lastTime 15 = .ok (.aload_n 0, 1) := by decide +kernel
theorem dX12_lastTime_16 : decode cX12_lastTime 16 = .ok (.getfield 112, 3) := by decide +kernel
theorem dX12_lastTime_19 : decode cX12_lastTime 19 = .ok (.iconst 1, 1) := by decide +kernel
theorem dX12_lastTime_20 : decode cX12_lastTime 20 = .ok (.isub, 1) := by decide +kernel
theorem dX12_lastTime_21 : decode cX12_lastTime 21 = .ok (.iaload, 1) := by decide +kernel
theorem dX12_lastTime_22 : decode cX12_lastTime 22 = .ok (.ireturn, 1) := by decide +kernel
theorem dX12_more_0 : decode cX12_more 0 = .ok (.aload_n 0, 1) := by decide +kernel
theorem dX12_more_1 : decode cX12_more 1 = .ok (.iload_n 1, 1) := by decide +kernel
theorem dX12_more_2 : decode cX12_more 2 = .ok (.invokevirtual 115, 3) := by decide +kernel
theorem dX12_more_5 : decode cX12_more 5 = .ok (.ifCond .eq 35, 3) := by decide +kernel
theorem dX12_more_8 : decode cX12_more 8 = .ok (.aload_n 0, 1) := by decide +kernel
theorem dX12_more_9 : decode cX12_more 9 = .ok (.iload_n 2, 1) := by decide +kernel
theorem dX12_more_10 : decode cX12_more 10 = .ok (.invokevirtual 101, 3) := by decide +kernel
theorem dX12_more_13 : decode cX12_more 13 = .ok (.ifCond .eq 27, 3) := by decide +kernel
theorem dX12_more_16 : decode cX12_more 16 = .ok (.iload_n 3, 1) := by decide +kernel
theorem dX12_more_17 : decode cX12_more 17 = .ok (.iconst 0, 1) := by decide +kernel
theorem dX12_more_18 : decode cX12_more 18 = .ok (.iconst 5, 1) := by decide +kernel
theorem dX12_more_19 : decode cX12_more 19 = .ok (.invokestatic 87, 3) := by decide +kernel
theorem dX12_more_22 : decode cX12_more 22 = .ok (.ifCond .eq 18, 3) := by decide +kernel
theorem dX12_more_25 : decode cX12_more 25 = .ok (.iload 4, 2) := by decide +kernel
theorem dX12_more_27 : decode cX12_more 27 = .ok (.aload_n 0, 1) := by decide +kernel
theorem dX12_more_28 : decode cX12_more 28 = .ok (.invokevirtual 118, 3) := by decide +kernel
theorem dX12_more_31 : decode cX12_more 31 = .ok (.sipush 999, 3) := by decide +kernel
theorem dX12_more_34 : decode cX12_more 34 = .ok (.invokestatic 87, 3) := by decide +kernel
theorem dX12_more_37 : decode cX12_more 37 = .ok (.ifCond .ne 6, 3) := by decide +kernel
theorem dX12_more_40 : decode cX12_more 40 = .ok (.bipush (-2), 2) := by decide +kernel
theorem dX12_more_42 : decode cX12_more 42 = .ok (.ireturn, 1) := by decide +kernel
theorem dX12_more_43 : decode cX12_more 43 = .ok (.aload_n 0, 1) := by decide +kernel
theorem dX12_more_44 : decode cX12_more 44 = .ok (.getfield 112, 3) := by decide +kernel
theorem dX12_more_47 : decode cX12_more 47 = .ok (.sipush 150, 3) := by decide +kernel
theorem dX12_more_50 : decode cX12_more 50 = .ok (.if_icmp .ne 6, 3) := by decide +kernel
theorem dX12_more_53 : decode cX12_more 53 = .ok (.bipush (-4), 2) := by decide +kernel
theorem dX12_more_55 : decode cX12_more 55 = .ok (.ireturn, 1) := by decide +kernel
theorem dX12_more_56 : decode cX12_more 56 = .ok (.aload_n 0, 1) := by decide +kernel
theorem dX12_more_57 : decode cX12_more 57 = .ok (.getfield 25, 3) := by decide +kernel
theorem dX12_more_60 : decode cX12_more 60 = .ok (.aload_n 0, 1) := by decide +kernel
theorem dX12_more_61 : decode cX12_more 61 = .ok (.getfield 112, 3) := by decide +kernel
theorem dX12_more_64 : decode cX12_more 64 = .ok (.iload_n 1, 1) := by decide +kernel
theorem dX12_more_65 : decode cX12_more 65 = .ok (.iastore, 1) := by decide +kernel
theorem dX12_more_66 : decode cX12_more 66 = .ok (.aload_n 0, 1) := by decide +kernel
theorem dX12_more_67 : decode cX12_more 67 = .ok (.getfield 28, 3) := by decide +kernel
theorem dX12_more_70 : decode cX12_more 70 = .ok (.aload_n 0, 1) := by decide +kernel
theorem dX12_more_71 : decode cX12_more 71 = .ok (.getfield 112, 3) := by decide +kernel
theorem dX12_more_74 : decode cX12_more 74 = .ok (.iload_n 2, 1) := by decide +kernel
theorem dX12_more_75 : decode cX12_more 75 = .ok (.iastore, 1) := by decide +kernel
theorem dX12_more_76 : decode cX12_more 76 = .ok (.aload_n 0, 1) := by decide +kernel
theorem dX12_more_77 : decode cX12_more 77 = .ok (.getfield 31, 3) := by decide +kernel
theorem dX12_more_80 : decode cX12_more 80 = .ok (.aload_n 0, 1) := by decide +kernel
theorem dX12_more_81 : decode cX12_more 81 = .ok (.getfield 112, 3) := by decide +kernel
theorem dX12_more_84 : decode cX12_more 84 = .ok (.iload_n 3, 1) := by decide +kernel
theorem dX12_more_85 : decode cX12_more 85 = .ok (.iastore, 1) := by decide +kernel
theorem dX12_more_86 : decode cX12_more 86 = .ok (.aload_n 0, 1) := by decide +kernel
theorem dX12_more_87 : decode cX12_more 87 = .ok (.getfield 34, 3) := by decide +kernel
theorem dX12_more_90 : decode cX12_more 90 = .ok (.aload_n 0, 1) := by decide +kernel
theorem dX12_more_91 : decode cX12_more 91 = .ok (.getfield 112, 3) := by decide +kernel
theorem dX12_more_94 : decode cX12_more 94 = .ok (.iload 4, 2) := by decide +kernel
theorem dX12_more_96 : decode cX12_more 96 = .ok (.iastore, 1) := by decide +kernel
theorem dX12_more_97 : decode cX12_more 97 = .ok (.aload_n 0, 1) := by decide +kernel
theorem dX12_more_98 : decode cX12_more 98 = .ok (.dup, 1) := by decide +kernel
theorem dX12_more_99 : decode cX12_more 99 = .ok (.getfield 112, 3) := by decide +kernel
theorem dX12_more_102 : decode cX12_more 102 = .ok (.iconst 1, 1) := by decide +kernel
theorem dX12_more_103 : decode cX12_more 103 = .ok (.iadd, 1) := by decide +kernel
theorem dX12_more_104 : decode cX12_more 104 = .ok (.putfield 112, 3) := by decide +kernel
theorem dX12_more_107 : decode cX12_more 107 = .ok (.aload_n 0, 1) := by decide +kernel
theorem dX12_more_108 : decode cX12_more 108 = .ok (.getfield 112, 3) := by decide +kernel
theorem dX12_more_111 : decode cX12_more 111 = .ok (.ireturn, 1) := by decide +kernel
theorem dX12_answer_0 : decode cX12_answer 0 = .ok (.aload_n 0, 1) := by decide +kernel
theorem dX12_answer_1 : decode cX12_answer 1 = .ok (.iload_n 1, 1) := by decide +kernel
theorem dX12_answer_2 : decode cX12_answer 2 = .ok (.iload_n 2, 1) := by decide +kernel
theorem dX12_answer_3 : decode cX12_answer 3 = .ok (.iload_n 3, 1) := by decide +kernel
theorem dX12_answer_4 : decode cX12_answer 4 = .ok (.iload 4, 2) := by decide +kernel
theorem dX12_answer_6 : decode cX12_answer 6 = .ok (.invokevirtual 121, 3) := by decide +kernel
theorem dX12_answer_9 : decode cX12_answer 9 = .ok (.ireturn, 1) := by decide +kernel
theorem dX12_read_0 : decode cX12_read 0 = .ok (.iload_n 1, 1) := by decide +kernel
theorem dX12_read_1 : decode cX12_read 1 = .ok (.invokestatic 125, 3) := by decide +kernel
theorem dX12_read_4 : decode cX12_read 4 = .ok (.ifCond .eq 25, 3) := by decide +kernel
theorem dX12_read_7 : decode cX12_read 7 = .ok (.aload_n 0, 1) := by decide +kernel
theorem dX12_read_8 : decode cX12_read 8 = .ok (.iload_n 2, 1) := by decide +kernel
theorem dX12_read_9 : decode cX12_read 9 = .ok (.invokevirtual 115, 3) := by decide +kernel
theorem dX12_read_12 : decode cX12_read 12 = .ok (.ifCond .eq 17, 3) := by decide +kernel
theorem dX12_read_15 : decode cX12_read 15 = .ok (.iload_n 3, 1) := by decide +kernel
theorem dX12_read_16 : decode cX12_read 16 = .ok (.aload_n 0, 1) := by decide +kernel
theorem dX12_read_17 : decode cX12_read 17 = .ok (.invokevirtual 118, 3) := by decide +kernel
theorem dX12_read_20 : decode cX12_read 20 = .ok (.sipush 999, 3) := by decide +kernel
theorem dX12_read_23 : decode cX12_read 23 = .ok (.invokestatic 87, 3) := by decide +kernel
theorem dX12_read_26 : decode cX12_read 26 = .ok (.ifCond .ne 6, 3) := by decide +kernel
theorem dX12_read_29 : decode cX12_read 29 = .ok (.bipush (-2), 2) := by decide +kernel
theorem dX12_read_31 : decode cX12_read 31 = .ok (.ireturn, 1) := by decide +kernel
theorem dX12_read_32 : decode cX12_read 32 = .ok (.aload_n 0, 1) := by decide +kernel
theorem dX12_read_33 : decode cX12_read 33 = .ok (.getfield 65, 3) := by decide +kernel
theorem dX12_read_36 : decode cX12_read 36 = .ok (.iload_n 1, 1) := by decide +kernel
theorem dX12_read_37 : decode cX12_read 37 = .ok (.baload, 1) := by decide +kernel
theorem dX12_read_38 : decode cX12_read 38 = .ok (.ifCond .ne 9, 3) := by decide +kernel
theorem dX12_read_41 : decode cX12_read 41 = .ok (.aload_n 0, 1) := by decide +kernel
theorem dX12_read_42 : decode cX12_read 42 = .ok (.iconst 1, 1) := by decide +kernel
theorem dX12_read_43 : decode cX12_read 43 = .ok (.invokevirtual 128, 3) := by decide +kernel
theorem dX12_read_46 : decode cX12_read 46 = .ok (.ireturn, 1) := by decide +kernel
theorem dX12_read_47 : decode cX12_read 47 = .ok (.iconst 0, 1) := by decide +kernel
theorem dX12_read_48 : decode cX12_read 48 = .ok (.istore 4, 2) := by decide +kernel
theorem dX12_read_50 : decode cX12_read 50 = .ok (.iload 4, 2) := by decide +kernel
theorem dX12_read_52 : decode cX12_read 52 = .ok (.aload_n 0, 1) := by decide +kernel
theorem dX12_read_53 : decode cX12_read 53 = .ok (.getfield 72, 3) := by decide +kernel
theorem dX12_read_56 : decode cX12_read 56 = .ok (.iload_n 1, 1) := by decide +kernel
theorem dX12_read_57 : decode cX12_read 57 = .ok (.iaload, 1) := by decide +kernel
theorem dX12_read_58 : decode cX12_read 58 = .ok (.if_icmp .ge 32, 3) := by decide +kernel
theorem dX12_read_61 : decode cX12_read 61 = .ok (.aload_n 0, 1) := by decide +kernel
theorem dX12_read_62 : decode cX12_read 62 = .ok (.iload_n 2, 1) := by decide +kernel
theorem dX12_read_63 : decode cX12_read 63 = .ok (.iload 4, 2) := by decide +kernel
theorem dX12_read_65 : decode cX12_read 65 = .ok (.aload_n 0, 1) := by decide +kernel
theorem dX12_read_66 : decode cX12_read 66 = .ok (.getfield 75, 3) := by decide +kernel
theorem dX12_read_69 : decode cX12_read 69 = .ok (.bipush 48, 2) := by decide +kernel
theorem dX12_read_71 : decode cX12_read 71 = .ok (.iload_n 1, 1) := by decide +kernel
theorem dX12_read_72 : decode cX12_read 72 = .ok (.imul, 1) := by decide +kernel
theorem dX12_read_73 : decode cX12_read 73 = .ok (.iload 4, 2) := by decide +kernel
theorem dX12_read_75 : decode cX12_read 75 = .ok (.iadd, 1) := by decide +kernel
theorem dX12_read_76 : decode cX12_read 76 = .ok (.iaload, 1) := by decide +kernel
theorem dX12_read_77 : decode cX12_read 77 = .ok (.iload_n 3, 1) := by decide +kernel
theorem dX12_read_78 : decode cX12_read 78 = .ok (.invokevirtual 121, 3) := by decide +kernel
theorem dX12_read_81 : decode cX12_read 81 = .ok (.ifCond .le 9, 3) := by decide +kernel
theorem dX12_read_84 : decode cX12_read 84 = .ok (.iinc 4 1, 3) := by decide +kernel
theorem dX12_read_87 : decode cX12_read 87 = .ok (.goto (-37), 3) := by decide +kernel
theorem dX12_read_90 : decode cX12_read 90 = .ok (.iload 4, 2) := by decide +kernel
theorem dX12_read_92 : decode cX12_read 92 = .ok (.ireturn, 1) := by decide +kernel
theorem dX12_lays_0 : decode cX12_lays 0 = .ok (.aload_n 0, 1) := by decide +kernel
theorem dX12_lays_1 : decode cX12_lays 1 = .ok (.invokevirtual 98, 3) := by decide +kernel
theorem dX12_lays_4 : decode cX12_lays 4 = .ok (.istore_n 1, 1) := by decide +kernel
theorem dX12_lays_5 : decode cX12_lays 5 = .ok (.iconst 0, 1) := by decide +kernel
theorem dX12_lays_6 : decode cX12_lays 6 = .ok (.istore_n 2, 1) := by decide +kernel
theorem dX12_lays_7 : decode cX12_lays 7 = .ok (.iload_n 2, 1) := by decide +kernel
theorem dX12_lays_8 : decode cX12_lays 8 = .ok (.bipush 120, 2) := by decide +kernel
theorem dX12_lays_10 : decode cX12_lays 10 = .ok (.if_icmp .ge 16, 3) := by decide +kernel
theorem dX12_lays_13 : decode cX12_lays 13 = .ok (.aload_n 0, 1) := by decide +kernel
theorem dX12_lays_14 : decode cX12_lays 14 = .ok (.getfield 37, 3) := by decide +kernel
theorem dX12_lays_17 : decode cX12_lays 17 = .ok (.iload_n 2, 1) := by decide +kernel
theorem dX12_lays_18 : decode cX12_lays 18 = .ok (.iconst 0, 1) := by decide +kernel
theorem dX12_lays_19 : decode cX12_lays 19 = .ok (.iastore, 1) := by decide +kernel
theorem dX12_lays_20 : decode cX12_lays 20 = .ok (.iinc 2 1, 3) := by decide +kernel
theorem dX12_lays_23 : decode cX12_lays 23 = .ok (.goto (-16), 3) := by decide +kernel
theorem dX12_lays_26 : decode cX12_lays 26 = .ok (.iconst 0, 1) := by decide +kernel
theorem dX12_lays_27 : decode cX12_lays 27 = .ok (.istore_n 2, 1) := by decide +kernel
theorem dX12_lays_28 : decode cX12_lays 28 = .ok (.iload_n 2, 1) := by decide +kernel
theorem dX12_lays_29 : decode cX12_lays 29 = .ok (.bipush 10, 2) := by decide +kernel
theorem dX12_lays_31 : decode cX12_lays 31 = .ok (.if_icmp .ge 30, 3) := by decide +kernel
theorem dX12_lays_34 : decode cX12_lays 34 = .ok (.aload_n 0, 1) := by decide +kernel
theorem dX12_lays_35 : decode cX12_lays 35 = .ok (.getfield 40, 3) := by decide +kernel
theorem dX12_lays_38 : decode cX12_lays 38 = .ok (.iload_n 2, 1) := by decide +kernel
theorem dX12_lays_39 : decode cX12_lays 39 = .ok (.iconst 0, 1) := by decide +kernel
theorem dX12_lays_40 : decode cX12_lays 40 = .ok (.iastore, 1) := by decide +kernel
theorem dX12_lays_41 : decode cX12_lays 41 = .ok (.aload_n 0, 1) := by decide +kernel
theorem dX12_lays_42 : decode cX12_lays 42 = .ok (.getfield 43, 3) := by decide +kernel
theorem dX12_lays_45 : decode cX12_lays 45 = .ok (.iload_n 2, 1) := by decide +kernel
theorem dX12_lays_46 : decode cX12_lays 46 = .ok (.iconst 0, 1) := by decide +kernel
theorem dX12_lays_47 : decode cX12_lays 47 = .ok (.iastore, 1) := by decide +kernel
theorem dX12_lays_48 : decode cX12_lays 48 = .ok (.aload_n 0, 1) := by decide +kernel
theorem dX12_lays_49 : decode cX12_lays 49 = .ok (.getfield 46, 3) := by decide +kernel
theorem dX12_lays_52 : decode cX12_lays 52 = .ok (.iload_n 2, 1) := by decide +kernel
theorem dX12_lays_53 : decode cX12_lays 53 = .ok (.iconst 0, 1) := by decide +kernel
theorem dX12_lays_54 : decode cX12_lays 54 = .ok (.iastore, 1) := by decide +kernel
theorem dX12_lays_55 : decode cX12_lays 55 = .ok (.iinc 2 1, 3) := by decide +kernel
theorem dX12_lays_58 : decode cX12_lays 58 = .ok (.goto (-30), 3) := by decide +kernel
theorem dX12_lays_61 : decode cX12_lays 61 = .ok (.iconst 0, 1) := by decide +kernel
theorem dX12_lays_62 : decode cX12_lays 62 = .ok (.istore_n 2, 1) := by decide +kernel
theorem dX12_lays_63 : decode cX12_lays 63 = .ok (.iload_n 2, 1) := by decide +kernel
theorem dX12_lays_64 : decode cX12_lays 64 = .ok (.aload_n 0, 1) := by decide +kernel
theorem dX12_lays_65 : decode cX12_lays 65 = .ok (.getfield 112, 3) := by decide +kernel
theorem dX12_lays_68 : decode cX12_lays 68 = .ok (.if_icmp .ge 194, 3) := by decide +kernel
theorem dX12_lays_71 : decode cX12_lays 71 = .ok (.aload_n 0, 1) := by decide +kernel
theorem dX12_lays_72 : decode cX12_lays 72 = .ok (.getfield 34, 3) := by decide +kernel
theorem dX12_lays_75 : decode cX12_lays 75 = .ok (.iload_n 2, 1) := by decide +kernel
theorem dX12_lays_76 : decode cX12_lays 76 = .ok (.iaload, 1) := by decide +kernel
theorem dX12_lays_77 : decode cX12_lays 77 = .ok (.aload_n 0, 1) := by decide +kernel
theorem dX12_lays_78 : decode cX12_lays 78 = .ok (.getfield 16, 3) := by decide +kernel
theorem dX12_lays_81 : decode cX12_lays 81 = .ok (.iconst 0, 1) := by decide +kernel
theorem dX12_lays_82 : decode cX12_lays 82 = .ok (.iaload, 1) := by decide +kernel
theorem dX12_lays_83 : decode cX12_lays 83 = .ok (.if_icmp .gt 179, 3) := by decide +kernel
theorem dX12_lays_86 : decode cX12_lays 86 = .ok (.aload_n 0, 1) := by decide +kernel
theorem dX12_lays_87 : decode cX12_lays 87 = .ok (.getfield 25, 3) := by decide +kernel
theorem dX12_lays_90 : decode cX12_lays 90 = .ok (.iload_n 2, 1) := by decide +kernel
theorem dX12_lays_91 : decode cX12_lays 91 = .ok (.iaload, 1) := by decide +kernel
theorem dX12_lays_92 : decode cX12_lays 92 = .ok (.istore_n 3, 1) := by decide +kernel
theorem dX12_lays_93 : decode cX12_lays 93 = .ok (.aload_n 0, 1) := by decide +kernel
theorem dX12_lays_94 : decode cX12_lays 94 = .ok (.getfield 28, 3) := by decide +kernel
theorem dX12_lays_97 : decode cX12_lays 97 = .ok (.iload_n 2, 1) := by decide +kernel
theorem dX12_lays_98 : decode cX12_lays 98 = .ok (.iaload, 1) := by decide +kernel
theorem dX12_lays_99 : decode cX12_lays 99 = .ok (.istore 4, 2) := by decide +kernel
theorem dX12_lays_101 : decode cX12_lays 101 = .ok (.bipush 12, 2) := by decide +kernel
theorem dX12_lays_103 : decode cX12_lays 103 = .ok (.iload_n 3, 1) := by decide +kernel
theorem dX12_lays_104 : decode cX12_lays 104 = .ok (.imul, 1) := by decide +kernel
theorem dX12_lays_105 : decode cX12_lays 105 = .ok (.iload 4, 2) := by decide +kernel
theorem dX12_lays_107 : decode cX12_lays 107 = .ok (.iadd, 1) := by decide +kernel
theorem dX12_lays_108 : decode cX12_lays 108 = .ok (.istore 5, 2) := by decide +kernel
theorem dX12_lays_110 : decode cX12_lays 110 = .ok (.aload_n 0, 1) := by decide +kernel
theorem dX12_lays_111 : decode cX12_lays 111 = .ok (.getfield 37, 3) := by decide +kernel
theorem dX12_lays_114 : decode cX12_lays 114 = .ok (.iload 5, 2) := by decide +kernel
theorem dX12_lays_116 : decode cX12_lays 116 = .ok (.iaload, 1) := by decide +kernel
theorem dX12_lays_117 : decode cX12_lays 117 = .ok (.istore 6, 2) := by decide +kernel
theorem dX12_lays_119 : decode cX12_lays 119 = .ok (.aload_n 0, 1) := by decide +kernel
theorem dX12_lays_120 : decode cX12_lays 120 = .ok (.getfield 31, 3) := by decide +kernel
theorem dX12_lays_123 : decode cX12_lays 123 = .ok (.iload_n 2, 1) := by decide +kernel
theorem dX12_lays_124 : decode cX12_lays 124 = .ok (.iaload, 1) := by decide +kernel
theorem dX12_lays_125 : decode cX12_lays 125 = .ok (.istore 7, 2) := by decide +kernel
theorem dX12_lays_127 : decode cX12_lays 127 = .ok (.iload 6, 2) := by decide +kernel
theorem dX12_lays_129 : decode cX12_lays 129 = .ok (.ifCond .eq 118, 3) := by decide +kernel
theorem dX12_lays_132 : decode cX12_lays 132 = .ok (.iload 6, 2) := by decide +kernel
theorem dX12_lays_134 : decode cX12_lays 134 = .ok (.iload 7, 2) := by decide +kernel
theorem dX12_lays_136 : decode cX12_lays 136 = .ok (.if_icmp .eq 111, 3) := by decide +kernel
theorem dX12_lays_139 : decode cX12_lays 139 = .ok (.iload 4, 2) := by decide +kernel
theorem dX12_lays_141 : decode cX12_lays 141 = .ok (.aload_n 0, 1) := by decide +kernel
theorem dX12_lays_142 : decode cX12_lays 142 = .ok (.getfield 81, 3) := by decide +kernel
theorem dX12_lays_145 : decode cX12_lays 145 = .ok (.if_icmp .ge 102, 3) := by decide +kernel
theorem dX12_lays_148 : decode cX12_lays 148 = .ok (.aload_n 0, 1) := by decide +kernel
theorem dX12_lays_149 : decode cX12_lays 149 = .ok (.getfield 40, 3) := by decide +kernel
theorem dX12_lays_152 : decode cX12_lays 152 = .ok (.iload_n 3, 1) := by decide +kernel
theorem dX12_lays_153 : decode cX12_lays 153 = .ok (.dup2, 1) := by decide +kernel
theorem dX12_lays_154 : decode cX12_lays 154 = .ok (.iaload, 1) := by decide +kernel
theorem dX12_lays_155 : decode cX12_lays 155 = .ok (.iconst 1, 1) := by decide +kernel
theorem dX12_lays_156 : decode cX12_lays 156 = .ok (.iadd, 1) := by decide +kernel
theorem dX12_lays_157 : decode cX12_lays 157 = .ok (.iastore, 1) := by decide +kernel
theorem dX12_lays_158 : decode cX12_lays 158 = .ok (.aload_n 0, 1) := by decide +kernel
theorem dX12_lays_159 : decode cX12_lays 159 = .ok (.getfield 43, 3) := by decide +kernel
theorem dX12_lays_162 : decode cX12_lays 162 = .ok (.iload_n 3, 1) := by decide +kernel
theorem dX12_lays_163 : decode cX12_lays 163 = .ok (.dup2, 1) := by decide +kernel
theorem dX12_lays_164 : decode cX12_lays 164 = .ok (.iaload, 1) := by decide +kernel
theorem dX12_lays_165 : decode cX12_lays 165 = .ok (.aload_n 0, 1) := by decide +kernel
theorem dX12_lays_166 : decode cX12_lays 166 = .ok (.getfield 13, 3) := by decide +kernel
theorem dX12_lays_169 : decode cX12_lays 169 = .ok (.iload 4, 2) := by decide +kernel
theorem dX12_lays_171 : decode cX12_lays 171 = .ok (.iaload, 1) := by decide +kernel
theorem dX12_lays_172 : decode cX12_lays 172 = .ok (.ifCond .eq 31, 3) := by decide +kernel
theorem dX12_lays_175 : decode cX12_lays 175 = .ok (.iload 6, 2) := by decide +kernel
theorem dX12_lays_177 : decode cX12_lays 177 = .ok (.aload_n 0, 1) := by decide +kernel
theorem dX12_lays_178 : decode cX12_lays 178 = .ok (.getfield 13, 3) := by decide +kernel
theorem dX12_lays_181 : decode cX12_lays 181 = .ok (.iload 4, 2) := by decide +kernel
theorem dX12_lays_183 : decode cX12_lays 183 = .ok (.iaload, 1) := by decide +kernel
theorem dX12_lays_184 : decode cX12_lays 184 = .ok (.if_icmp .eq 19, 3) := by decide +kernel
theorem dX12_lays_187 : decode cX12_lays 187 = .ok (.iload 7, 2) := by decide +kernel
theorem dX12_lays_189 : decode cX12_lays 189 = .ok (.aload_n 0, 1) := by decide +kernel
theorem dX12_lays_190 : decode cX12_lays 190 = .ok (.getfield 13, 3) := by decide +kernel
theorem dX12_lays_193 : decode cX12_lays 193 = .ok (.iload 4, 2) := by decide +kernel
theorem dX12_lays_195 : decode cX12_lays 195 = .ok (.iaload, 1) := by decide +kernel
theorem dX12_lays_196 : decode cX12_lays 196 = .ok (.if_icmp .ne 7, 3) := by decide +kernel
theorem dX12_lays_199 : decode cX12_lays 199 = .ok (.iconst 1, 1) := by decide +kernel
theorem dX12_lays_200 : decode cX12_lays 200 = .ok (.goto 4, 3) := by decide +kernel
theorem dX12_lays_203 : decode cX12_lays 203 = .ok (.iconst 0, 1) := by decide +kernel
theorem dX12_lays_204 : decode cX12_lays 204 = .ok (.iadd, 1) := by decide +kernel
theorem dX12_lays_205 : decode cX12_lays 205 = .ok (.iastore, 1) := by decide +kernel
theorem dX12_lays_206 : decode cX12_lays 206 = .ok (.aload_n 0, 1) := by decide +kernel
theorem dX12_lays_207 : decode cX12_lays 207 = .ok (.getfield 46, 3) := by decide +kernel
theorem dX12_lays_210 : decode cX12_lays 210 = .ok (.iload_n 3, 1) := by decide +kernel
theorem dX12_lays_211 : decode cX12_lays 211 = .ok (.dup2, 1) := by decide +kernel
theorem dX12_lays_212 : decode cX12_lays 212 = .ok (.iaload, 1) := by decide +kernel
theorem dX12_lays_213 : decode cX12_lays 213 = .ok (.aload_n 0, 1) := by decide +kernel
theorem dX12_lays_214 : decode cX12_lays 214 = .ok (.getfield 13, 3) := by decide +kernel
theorem dX12_lays_217 : decode cX12_lays 217 = .ok (.iload 4, 2) := by decide +kernel
theorem dX12_lays_219 : decode cX12_lays 219 = .ok (.iaload, 1) := by decide +kernel
theorem dX12_lays_220 : decode cX12_lays 220 = .ok (.ifCond .eq 24, 3) := by decide +kernel
theorem dX12_lays_223 : decode cX12_lays 223 = .ok (.iload 6, 2) := by decide +kernel
theorem dX12_lays_225 : decode cX12_lays 225 = .ok (.aload_n 0, 1) := by decide +kernel
theorem dX12_lays_226 : decode cX12_lays 226 = .ok (.getfield 13, 3) := by decide +kernel
theorem dX12_lays_229 : decode cX12_lays 229 = .ok (.iload 4, 2) := by decide +kernel
theorem dX12_lays_231 : decode cX12_lays 231 = .ok (.iaload, 1) := by decide +kernel
theorem dX12_lays_232 : decode cX12_lays 232 = .ok (.if_icmp .ne 12, 3) := by decide +kernel
theorem dX12_lays_235 : decode cX12_lays 235 = .ok (.iload 7, 2) := by decide +kernel
theorem dX12_lays_237 : decode cX12_lays 237 = .ok (.ifCond .eq 7, 3) := by decide +kernel
theorem dX12_lays_240 : decode cX12_lays 240 = .ok (.iconst 1, 1) := by decide +kernel
theorem dX12_lays_241 : decode cX12_lays 241 = .ok (.goto 4, 3) := by decide +kernel
theorem dX12_lays_244 : decode cX12_lays 244 = .ok (.iconst 0, 1) := by decide +kernel
theorem dX12_lays_245 : decode cX12_lays 245 = .ok (.iadd, 1) := by decide +kernel
theorem dX12_lays_246 : decode cX12_lays 246 = .ok (.iastore, 1) := by decide +kernel
theorem dX12_lays_247 : decode cX12_lays 247 = .ok (.aload_n 0, 1) := by decide +kernel
theorem dX12_lays_248 : decode cX12_lays 248 = .ok (.getfield 37, 3) := by decide +kernel
theorem dX12_lays_251 : decode cX12_lays 251 = .ok (.iload 5, 2) := by decide +kernel
theorem dX12_lays_253 : decode cX12_lays 253 = .ok (.iload 7, 2) := by decide +kernel
theorem dX12_lays_255 : decode cX12_lays 255 = .ok (.iastore, 1) := by decide +kernel
theorem dX12_lays_256 : decode cX12_lays 256 = .ok (.iinc 2 1, 3) := by decide +kernel
theorem dX12_lays_259 : decode cX12_lays 259 = .ok (.goto (-196), 3) := by decide +kernel
theorem dX12_lays_262 : decode cX12_lays 262 = .ok (.return_, 1) := by decide +kernel
theorem dX12_isRight_0 : decode cX12_isRight 0 = .ok (.aload_n 0, 1) := by decide +kernel
theorem dX12_isRight_1 : decode cX12_isRight 1 = .ok (.getfield 13, 3) := by decide +kernel
theorem dX12_isRight_4 : decode cX12_isRight 4 = .ok (.iload_n 2, 1) := by decide +kernel
theorem dX12_isRight_5 : decode cX12_isRight 5 = .ok (.iaload, 1) := by decide +kernel
theorem dX12_isRight_6 : decode cX12_isRight 6 = .ok (.ifCond .eq 27, 3) := by decide +kernel
theorem dX12_isRight_9 : decode cX12_isRight 9 = .ok (.aload_n 0, 1) := by decide +kernel
theorem dX12_isRight_10 : decode cX12_isRight 10 = .ok (.getfield 37, 3) := by decide +kernel
theorem dX12_isRight_13 : decode cX12_isRight 13 = .ok (.bipush 12, 2) := by decide +kernel
theorem dX12_isRight_15 : decode cX12_isRight 15 = .ok (.iload_n 1, 1) := by decide +kernel
theorem dX12_isRight_16 : decode cX12_isRight 16 = .ok (.imul, 1) := by decide +kernel
theorem dX12_isRight_17 : decode cX12_isRight 17 = .ok (.iload_n 2, 1) := by decide +kernel
theorem dX12_isRight_18 : decode cX12_isRight 18 = .ok (.iadd, 1) := by decide +kernel
theorem dX12_isRight_19 : decode cX12_isRight 19 = .ok (.iaload, 1) := by decide +kernel
theorem dX12_isRight_20 : decode cX12_isRight 20 = .ok (.aload_n 0, 1) := by decide +kernel
theorem dX12_isRight_21 : decode cX12_isRight 21 = .ok (.getfield 13, 3) := by decide +kernel
theorem dX12_isRight_24 : decode cX12_isRight 24 = .ok (.iload_n 2, 1) := by decide +kernel
theorem dX12_isRight_25 : decode cX12_isRight 25 = .ok (.iaload, 1) := by decide +kernel
theorem dX12_isRight_26 : decode cX12_isRight 26 = .ok (.if_icmp .ne 7, 3) := by decide +kernel
theorem dX12_isRight_29 : decode cX12_isRight 29 = .ok (.iconst 1, 1) := by decide +kernel
theorem dX12_isRight_30 : decode cX12_isRight 30 = .ok (.goto 4, 3) := by decide +kernel
theorem dX12_isRight_33 : decode cX12_isRight 33 = .ok (.iconst 0, 1) := by decide +kernel
theorem dX12_isRight_34 : decode cX12_isRight 34 = .ok (.ireturn, 1) := by decide +kernel
theorem dX12_isWrong_0 : decode cX12_isWrong 0 = .ok (.aload_n 0, 1) := by decide +kernel
theorem dX12_isWrong_1 : decode cX12_isWrong 1 = .ok (.getfield 13, 3) := by decide +kernel
theorem dX12_isWrong_4 : decode cX12_isWrong 4 = .ok (.iload_n 2, 1) := by decide +kernel
theorem dX12_isWrong_5 : decode cX12_isWrong 5 = .ok (.iaload, 1) := by decide +kernel
theorem dX12_isWrong_6 : decode cX12_isWrong 6 = .ok (.ifCond .eq 41, 3) := by decide +kernel
theorem dX12_isWrong_9 : decode cX12_isWrong 9 = .ok (.aload_n 0, 1) := by decide +kernel
theorem dX12_isWrong_10 : decode cX12_isWrong 10 = .ok (.getfield 37, 3) := by decide +kernel
theorem dX12_isWrong_13 : decode cX12_isWrong 13 = .ok (.bipush 12, 2) := by decide +kernel
theorem dX12_isWrong_15 : decode cX12_isWrong 15 = .ok (.iload_n 1, 1) := by decide +kernel
theorem dX12_isWrong_16 : decode cX12_isWrong 16 = .ok (.imul, 1) := by decide +kernel
theorem dX12_isWrong_17 : decode cX12_isWrong 17 = .ok (.iload_n 2, 1) := by decide +kernel
theorem dX12_isWrong_18 : decode cX12_isWrong 18 = .ok (.iadd, 1) := by decide +kernel
theorem dX12_isWrong_19 : decode cX12_isWrong 19 = .ok (.iaload, 1) := by decide +kernel
theorem dX12_isWrong_20 : decode cX12_isWrong 20 = .ok (.ifCond .eq 27, 3) := by decide +kernel
theorem dX12_isWrong_23 : decode cX12_isWrong 23 = .ok (.aload_n 0, 1) := by decide +kernel
theorem dX12_isWrong_24 : decode cX12_isWrong 24 = .ok (.getfield 37, 3) := by decide +kernel
theorem dX12_isWrong_27 : decode cX12_isWrong 27 = .ok (.bipush 12, 2) := by decide +kernel
theorem dX12_isWrong_29 : decode cX12_isWrong 29 = .ok (.iload_n 1, 1) := by decide +kernel
theorem dX12_isWrong_30 : decode cX12_isWrong 30 = .ok (.imul, 1) := by decide +kernel
theorem dX12_isWrong_31 : decode cX12_isWrong 31 = .ok (.iload_n 2, 1) := by decide +kernel
theorem dX12_isWrong_32 : decode cX12_isWrong 32 = .ok (.iadd, 1) := by decide +kernel
theorem dX12_isWrong_33 : decode cX12_isWrong 33 = .ok (.iaload, 1) := by decide +kernel
theorem dX12_isWrong_34 : decode cX12_isWrong 34 = .ok (.aload_n 0, 1) := by decide +kernel
theorem dX12_isWrong_35 : decode cX12_isWrong 35 = .ok (.getfield 13, 3) := by decide +kernel
theorem dX12_isWrong_38 : decode cX12_isWrong 38 = .ok (.iload_n 2, 1) := by decide +kernel
theorem dX12_isWrong_39 : decode cX12_isWrong 39 = .ok (.iaload, 1) := by decide +kernel
theorem dX12_isWrong_40 : decode cX12_isWrong 40 = .ok (.if_icmp .eq 7, 3) := by decide +kernel
theorem dX12_isWrong_43 : decode cX12_isWrong 43 = .ok (.iconst 1, 1) := by decide +kernel
theorem dX12_isWrong_44 : decode cX12_isWrong 44 = .ok (.goto 4, 3) := by decide +kernel
theorem dX12_isWrong_47 : decode cX12_isWrong 47 = .ok (.iconst 0, 1) := by decide +kernel
theorem dX12_isWrong_48 : decode cX12_isWrong 48 = .ok (.ireturn, 1) := by decide +kernel
theorem dX12_said_0 : decode cX12_said 0 = .ok (.aload_n 0, 1) := by decide +kernel
theorem dX12_said_1 : decode cX12_said 1 = .ok (.iload_n 1, 1) := by decide +kernel
theorem dX12_said_2 : decode cX12_said 2 = .ok (.invokevirtual 115, 3) := by decide +kernel
theorem dX12_said_5 : decode cX12_said 5 = .ok (.ifCond .eq 11, 3) := by decide +kernel
theorem dX12_said_8 : decode cX12_said 8 = .ok (.aload_n 0, 1) := by decide +kernel
theorem dX12_said_9 : decode cX12_said 9 = .ok (.iload_n 2, 1) := by decide +kernel
theorem dX12_said_10 : decode cX12_said 10 = .ok (.invokevirtual 101, 3) := by decide +kernel
theorem dX12_said_13 : decode cX12_said 13 = .ok (.ifCond .ne 6, 3) := by decide +kernel
theorem dX12_said_16 : decode cX12_said 16 = .ok (.bipush (-2), 2) := by decide +kernel
theorem dX12_said_18 : decode cX12_said 18 = .ok (.ireturn, 1) := by decide +kernel
theorem dX12_said_19 : decode cX12_said 19 = .ok (.aload_n 0, 1) := by decide +kernel
theorem dX12_said_20 : decode cX12_said 20 = .ok (.invokevirtual 131, 3) := by decide +kernel
theorem dX12_said_23 : decode cX12_said 23 = .ok (.aload_n 0, 1) := by decide +kernel
theorem dX12_said_24 : decode cX12_said 24 = .ok (.getfield 37, 3) := by decide +kernel
theorem dX12_said_27 : decode cX12_said 27 = .ok (.bipush 12, 2) := by decide +kernel
theorem dX12_said_29 : decode cX12_said 29 = .ok (.iload_n 1, 1) := by decide +kernel
theorem dX12_said_30 : decode cX12_said 30 = .ok (.imul, 1) := by decide +kernel
theorem dX12_said_31 : decode cX12_said 31 = .ok (.iload_n 2, 1) := by decide +kernel
theorem dX12_said_32 : decode cX12_said 32 = .ok (.iadd, 1) := by decide +kernel
theorem dX12_said_33 : decode cX12_said 33 = .ok (.iaload, 1) := by decide +kernel
theorem dX12_said_34 : decode cX12_said 34 = .ok (.ireturn, 1) := by decide +kernel
theorem dX12_areTwo_0 : decode cX12_areTwo 0 = .ok (.aload_n 0, 1) := by decide +kernel
theorem dX12_areTwo_1 : decode cX12_areTwo 1 = .ok (.iload_n 1, 1) := by decide +kernel
theorem dX12_areTwo_2 : decode cX12_areTwo 2 = .ok (.invokevirtual 115, 3) := by decide +kernel
theorem dX12_areTwo_5 : decode cX12_areTwo 5 = .ok (.ifCond .eq 20, 3) := by decide +kernel
theorem dX12_areTwo_8 : decode cX12_areTwo 8 = .ok (.aload_n 0, 1) := by decide +kernel
theorem dX12_areTwo_9 : decode cX12_areTwo 9 = .ok (.iload_n 2, 1) := by decide +kernel
theorem dX12_areTwo_10 : decode cX12_areTwo 10 = .ok (.invokevirtual 115, 3) := by decide +kernel
theorem dX12_areTwo_13 : decode cX12_areTwo 13 = .ok (.ifCond .eq 12, 3) := by decide +kernel
theorem dX12_areTwo_16 : decode cX12_areTwo 16 = .ok (.iload_n 1, 1) := by decide +kernel
theorem dX12_areTwo_17 : decode cX12_areTwo 17 = .ok (.iload_n 2, 1) := by decide +kernel
theorem dX12_areTwo_18 : decode cX12_areTwo 18 = .ok (.if_icmp .eq 7, 3) := by decide +kernel
theorem dX12_areTwo_21 : decode cX12_areTwo 21 = .ok (.iconst 1, 1) := by decide +kernel
theorem dX12_areTwo_22 : decode cX12_areTwo 22 = .ok (.goto 4, 3) := by decide +kernel
theorem dX12_areTwo_25 : decode cX12_areTwo 25 = .ok (.iconst 0, 1) := by decide +kernel
theorem dX12_areTwo_26 : decode cX12_areTwo 26 = .ok (.ireturn, 1) := by decide +kernel
theorem dX12_amount_0 : decode cX12_amount 0 = .ok (.iload_n 0, 1) := by decide +kernel
theorem dX12_amount_1 : decode cX12_amount 1 = .ok (.ifCond .ge 8, 3) := by decide +kernel
theorem dX12_amount_4 : decode cX12_amount 4 = .ok (.iload_n 0, 1) := by decide +kernel
theorem dX12_amount_5 : decode cX12_amount 5 = .ok (.ineg, 1) := by decide +kernel
theorem dX12_amount_6 : decode cX12_amount 6 = .ok (.goto 4, 3) := by decide +kernel
theorem dX12_amount_9 : decode cX12_amount 9 = .ok (.iload_n 0, 1) := by decide +kernel
theorem dX12_amount_10 : decode cX12_amount 10 = .ok (.ireturn, 1) := by decide +kernel
theorem dX12_areBeside_0 : decode cX12_areBeside 0 = .ok (.aload_n 0, 1) := by decide +kernel
theorem dX12_areBeside_1 : decode cX12_areBeside 1 = .ok (.getfield 19, 3) := by decide +kernel
theorem dX12_areBeside_4 : decode cX12_areBeside 4 = .ok (.iload_n 1, 1) := by decide +kernel
theorem dX12_areBeside_5 : decode cX12_areBeside 5 = .ok (.iaload, 1) := by decide +kernel
theorem dX12_areBeside_6 : decode cX12_areBeside 6 = .ok (.aload_n 0, 1) := by decide +kernel
theorem dX12_areBeside_7 : decode cX12_areBeside 7 = .ok (.getfield 19, 3) := by decide +kernel
theorem dX12_areBeside_10 : decode cX12_areBeside 10 = .ok (.iload_n 2, 1) := by decide +kernel
theorem dX12_areBeside_11 : decode cX12_areBeside 11 = .ok (.iaload, 1) := by decide +kernel
theorem dX12_areBeside_12 : decode cX12_areBeside 12 = .ok (.isub, 1) := by decide +kernel
theorem dX12_areBeside_13 : decode cX12_areBeside 13 = .ok (.invokestatic 134, 3) := by decide +kernel
theorem dX12_areBeside_16 : decode cX12_areBeside 16 = .ok (.iconst 2, 1) := by decide +kernel
theorem dX12_areBeside_17 : decode cX12_areBeside 17 = .ok (.if_icmp .ge 27, 3) := by decide +kernel
theorem dX12_areBeside_20 : decode cX12_areBeside 20 = .ok (.aload_n 0, 1) := by decide +kernel
theorem dX12_areBeside_21 : decode cX12_areBeside 21 = .ok (.getfield 22, 3) := by decide +kernel
theorem dX12_areBeside_24 : decode cX12_areBeside 24 = .ok (.iload_n 1, 1) := by decide +kernel
theorem dX12_areBeside_25 : decode cX12_areBeside 25 = .ok (.iaload, 1) := by decide +kernel
theorem dX12_areBeside_26 : decode cX12_areBeside 26 = .ok (.aload_n 0, 1) := by decide +kernel
theorem dX12_areBeside_27 : decode cX12_areBeside 27 = .ok (.getfield 22, 3) := by decide +kernel
theorem dX12_areBeside_30 : decode cX12_areBeside 30 = .ok (.iload_n 2, 1) := by decide +kernel
theorem dX12_areBeside_31 : decode cX12_areBeside 31 = .ok (.iaload, 1) := by decide +kernel
theorem dX12_areBeside_32 : decode cX12_areBeside 32 = .ok (.isub, 1) := by decide +kernel
theorem dX12_areBeside_33 : decode cX12_areBeside 33 = .ok (.invokestatic 134, 3) := by decide +kernel
theorem dX12_areBeside_36 : decode cX12_areBeside 36 = .ok (.iconst 2, 1) := by decide +kernel
theorem dX12_areBeside_37 : decode cX12_areBeside 37 = .ok (.if_icmp .ge 7, 3) := by decide +kernel
theorem dX12_areBeside_40 : decode cX12_areBeside 40 = .ok (.iconst 1, 1) := by decide +kernel
theorem dX12_areBeside_41 : decode cX12_areBeside 41 = .ok (.goto 4, 3) := by decide +kernel
theorem dX12_areBeside_44 : decode cX12_areBeside 44 = .ok (.iconst 0, 1) := by decide +kernel
theorem dX12_areBeside_45 : decode cX12_areBeside 45 = .ok (.ireturn, 1) := by decide +kernel
theorem dX12_beside_0 : decode cX12_beside 0 = .ok (.aload_n 0, 1) := by decide +kernel
theorem dX12_beside_1 : decode cX12_beside 1 = .ok (.iload_n 1, 1) := by decide +kernel
theorem dX12_beside_2 : decode cX12_beside 2 = .ok (.iload_n 2, 1) := by decide +kernel
theorem dX12_beside_3 : decode cX12_beside 3 = .ok (.invokevirtual 137, 3) := by decide +kernel
theorem dX12_beside_6 : decode cX12_beside 6 = .ok (.ifCond .eq 20, 3) := by decide +kernel
theorem dX12_beside_9 : decode cX12_beside 9 = .ok (.aload_n 0, 1) := by decide +kernel
theorem dX12_beside_10 : decode cX12_beside 10 = .ok (.iload_n 1, 1) := by decide +kernel
theorem dX12_beside_11 : decode cX12_beside 11 = .ok (.iload_n 2, 1) := by decide +kernel
theorem dX12_beside_12 : decode cX12_beside 12 = .ok (.invokevirtual 141, 3) := by decide +kernel
theorem dX12_beside_15 : decode cX12_beside 15 = .ok (.ifCond .eq 7, 3) := by decide +kernel
theorem dX12_beside_18 : decode cX12_beside 18 = .ok (.iconst 1, 1) := by decide +kernel
theorem dX12_beside_19 : decode cX12_beside 19 = .ok (.goto 9, 3) := by decide +kernel
theorem dX12_beside_22 : decode cX12_beside 22 = .ok (.iconst 0, 1) := by decide +kernel
theorem dX12_beside_23 : decode cX12_beside 23 = .ok (.goto 5, 3) := by decide +kernel
theorem dX12_beside_26 : decode cX12_beside 26 = .ok (.bipush (-2), 2) := by decide +kernel
theorem dX12_beside_28 : decode cX12_beside 28 = .ok (.ireturn, 1) := by decide +kernel
theorem dX12_markBut_0 : decode cX12_markBut 0 = .ok (.iconst 0, 1) := by decide +kernel
theorem dX12_markBut_1 : decode cX12_markBut 1 = .ok (.istore_n 3, 1) := by decide +kernel
theorem dX12_markBut_2 : decode cX12_markBut 2 = .ok (.iconst 0, 1) := by decide +kernel
theorem dX12_markBut_3 : decode cX12_markBut 3 = .ok (.istore 4, 2) := by decide +kernel
theorem dX12_markBut_5 : decode cX12_markBut 5 = .ok (.iload 4, 2) := by decide +kernel
theorem dX12_markBut_7 : decode cX12_markBut 7 = .ok (.aload_n 0, 1) := by decide +kernel
theorem dX12_markBut_8 : decode cX12_markBut 8 = .ok (.getfield 81, 3) := by decide +kernel
theorem dX12_markBut_11 : decode cX12_markBut 11 = .ok (.if_icmp .ge 33, 3) := by decide +kernel
theorem dX12_markBut_14 : decode cX12_markBut 14 = .ok (.iload_n 3, 1) := by decide +kernel
theorem dX12_markBut_15 : decode cX12_markBut 15 = .ok (.iload 4, 2) := by decide +kernel
theorem dX12_markBut_17 : decode cX12_markBut 17 = .ok (.iload_n 2, 1) := by decide +kernel
theorem dX12_markBut_18 : decode cX12_markBut 18 = .ok (.if_icmp .eq 17, 3) := by decide +kernel
theorem dX12_markBut_21 : decode cX12_markBut 21 = .ok (.aload_n 0, 1) := by decide +kernel
theorem dX12_markBut_22 : decode cX12_markBut 22 = .ok (.iload_n 1, 1) := by decide +kernel
theorem dX12_markBut_23 : decode cX12_markBut 23 = .ok (.iload 4, 2) := by decide +kernel
theorem dX12_markBut_25 : decode cX12_markBut 25 = .ok (.invokevirtual 144, 3) := by decide +kernel
theorem dX12_markBut_28 : decode cX12_markBut 28 = .ok (.ifCond .eq 7, 3) := by decide +kernel
theorem dX12_markBut_31 : decode cX12_markBut 31 = .ok (.iconst 1, 1) := by decide +kernel
theorem dX12_markBut_32 : decode cX12_markBut 32 = .ok (.goto 4, 3) := by decide +kernel
theorem dX12_markBut_35 : decode cX12_markBut 35 = .ok (.iconst 0, 1) := by decide +kernel
theorem dX12_markBut_36 : decode cX12_markBut 36 = .ok (.iadd, 1) := by decide +kernel
theorem dX12_markBut_37 : decode cX12_markBut 37 = .ok (.istore_n 3, 1) := by decide +kernel
theorem dX12_markBut_38 : decode cX12_markBut 38 = .ok (.iinc 4 1, 3) := by decide +kernel
theorem dX12_markBut_41 : decode cX12_markBut 41 = .ok (.goto (-36), 3) := by decide +kernel
theorem dX12_markBut_44 : decode cX12_markBut 44 = .ok (.iload_n 3, 1) := by decide +kernel
theorem dX12_markBut_45 : decode cX12_markBut 45 = .ok (.ireturn, 1) := by decide +kernel
theorem dX12_rankBut_0 : decode cX12_rankBut 0 = .ok (.iconst 1, 1) := by decide +kernel
theorem dX12_rankBut_1 : decode cX12_rankBut 1 = .ok (.istore_n 3, 1) := by decide +kernel
theorem dX12_rankBut_2 : decode cX12_rankBut 2 = .ok (.iconst 0, 1) := by decide +kernel
theorem dX12_rankBut_3 : decode cX12_rankBut 3 = .ok (.istore 4, 2) := by decide +kernel
theorem dX12_rankBut_5 : decode cX12_rankBut 5 = .ok (.iload 4, 2) := by decide +kernel
theorem dX12_rankBut_7 : decode cX12_rankBut 7 = .ok (.aload_n 0, 1) := by decide +kernel
theorem dX12_rankBut_8 : decode cX12_rankBut 8 = .ok (.getfield 109, 3) := by decide +kernel
theorem dX12_rankBut_11 : decode cX12_rankBut 11 = .ok (.if_icmp .ge 33, 3) := by decide +kernel
theorem dX12_rankBut_14 : decode cX12_rankBut 14 = .ok (.iload_n 3, 1) := by decide +kernel
theorem dX12_rankBut_15 : decode cX12_rankBut 15 = .ok (.aload_n 0, 1) := by decide +kernel
theorem dX12_rankBut_16 : decode cX12_rankBut 16 = .ok (.iload 4, 2) := by decide +kernel
theorem dX12_rankBut_18 : decode cX12_rankBut 18 = .ok (.iload_n 2, 1) := by decide +kernel
theorem dX12_rankBut_19 : decode cX12_rankBut 19 = .ok (.invokevirtual 147, 3) := by decide +kernel
theorem dX12_rankBut_22 : decode cX12_rankBut 22 = .ok (.aload_n 0, 1) := by decide +kernel
theorem dX12_rankBut_23 : decode cX12_rankBut 23 = .ok (.iload_n 1, 1) := by decide +kernel
theorem dX12_rankBut_24 : decode cX12_rankBut 24 = .ok (.iload_n 2, 1) := by decide +kernel
theorem dX12_rankBut_25 : decode cX12_rankBut 25 = .ok (.invokevirtual 147, 3) := by decide +kernel
theorem dX12_rankBut_28 : decode cX12_rankBut 28 = .ok (.if_icmp .le 7, 3) := by decide +kernel
theorem dX12_rankBut_31 : decode cX12_rankBut 31 = .ok (.iconst 1, 1) := by decide +kernel
theorem dX12_rankBut_32 : decode cX12_rankBut 32 = .ok (.goto 4, 3) := by decide +kernel
theorem dX12_rankBut_35 : decode cX12_rankBut 35 = .ok (.iconst 0, 1) := by decide +kernel
theorem dX12_rankBut_36 : decode cX12_rankBut 36 = .ok (.iadd, 1) := by decide +kernel
theorem dX12_rankBut_37 : decode cX12_rankBut 37 = .ok (.istore_n 3, 1) := by decide +kernel
theorem dX12_rankBut_38 : decode cX12_rankBut 38 = .ok (.iinc 4 1, 3) := by decide +kernel
theorem dX12_rankBut_41 : decode cX12_rankBut 41 = .ok (.goto (-36), 3) := by decide +kernel
theorem dX12_rankBut_44 : decode cX12_rankBut 44 = .ok (.iload_n 3, 1) := by decide +kernel
theorem dX12_rankBut_45 : decode cX12_rankBut 45 = .ok (.ireturn, 1) := by decide +kernel
theorem dX12_openBut_0 : decode cX12_openBut 0 = .ok (.iconst 0, 1) := by decide +kernel
theorem dX12_openBut_1 : decode cX12_openBut 1 = .ok (.istore_n 2, 1) := by decide +kernel
theorem dX12_openBut_2 : decode cX12_openBut 2 = .ok (.iconst 0, 1) := by decide +kernel
theorem dX12_openBut_3 : decode cX12_openBut 3 = .ok (.istore_n 3, 1) := by decide +kernel
theorem dX12_openBut_4 : decode cX12_openBut 4 = .ok (.iload_n 3, 1) := by decide +kernel
theorem dX12_openBut_5 : decode cX12_openBut 5 = .ok (.aload_n 0, 1) := by decide +kernel
theorem dX12_openBut_6 : decode cX12_openBut 6 = .ok (.getfield 81, 3) := by decide +kernel
theorem dX12_openBut_9 : decode cX12_openBut 9 = .ok (.if_icmp .ge 31, 3) := by decide +kernel
theorem dX12_openBut_12 : decode cX12_openBut 12 = .ok (.iload_n 2, 1) := by decide +kernel
theorem dX12_openBut_13 : decode cX12_openBut 13 = .ok (.iload_n 3, 1) := by decide +kernel
theorem dX12_openBut_14 : decode cX12_openBut 14 = .ok (.iload_n 1, 1) := by decide +kernel
theorem dX12_openBut_15 : decode cX12_openBut 15 = .ok (.if_icmp .eq 16, 3) := by decide +kernel
theorem dX12_openBut_18 : decode cX12_openBut 18 = .ok (.aload_n 0, 1) := by decide +kernel
theorem dX12_openBut_19 : decode cX12_openBut 19 = .ok (.getfield 13, 3) := by decide +kernel
theorem dX12_openBut_22 : decode cX12_openBut 22 = .ok (.iload_n 3, 1) := by decide +kernel
theorem dX12_openBut_23 : decode cX12_openBut 23 = .ok (.iaload, 1) := by decide +kernel
theorem dX12_openBut_24 : decode cX12_openBut 24 = .ok (.ifCond .eq 7, 3) := by decide +kernel
theorem dX12_openBut_27 : decode cX12_openBut 27 = .ok (.iconst 1, 1) := by decide +kernel
theorem dX12_openBut_28 : decode cX12_openBut 28 = .ok (.goto 4, 3) := by decide +kernel
theorem dX12_openBut_31 : decode cX12_openBut 31 = .ok (.iconst 0, 1) := by decide +kernel
theorem dX12_openBut_32 : decode cX12_openBut 32 = .ok (.iadd, 1) := by decide +kernel
theorem dX12_openBut_33 : decode cX12_openBut 33 = .ok (.istore_n 2, 1) := by decide +kernel
theorem dX12_openBut_34 : decode cX12_openBut 34 = .ok (.iinc 3 1, 3) := by decide +kernel
theorem dX12_openBut_37 : decode cX12_openBut 37 = .ok (.goto (-33), 3) := by decide +kernel
theorem dX12_openBut_40 : decode cX12_openBut 40 = .ok (.iload_n 2, 1) := by decide +kernel
theorem dX12_openBut_41 : decode cX12_openBut 41 = .ok (.ireturn, 1) := by decide +kernel
theorem dX12_passesBut_0 : decode cX12_passesBut 0 = .ok (.aload_n 0, 1) := by decide +kernel
theorem dX12_passesBut_1 : decode cX12_passesBut 1 = .ok (.iload_n 1, 1) := by decide +kernel
theorem dX12_passesBut_2 : decode cX12_passesBut 2 = .ok (.iload_n 2, 1) := by decide +kernel
theorem dX12_passesBut_3 : decode cX12_passesBut 3 = .ok (.invokevirtual 147, 3) := by decide +kernel
theorem dX12_passesBut_6 : decode cX12_passesBut 6 = .ok (.bipush 100, 2) := by decide +kernel
theorem dX12_passesBut_8 : decode cX12_passesBut 8 = .ok (.imul, 1) := by decide +kernel
theorem dX12_passesBut_9 : decode cX12_passesBut 9 = .ok (.aload_n 0, 1) := by decide +kernel
theorem dX12_passesBut_10 : decode cX12_passesBut 10 = .ok (.getfield 16, 3) := by decide +kernel
theorem dX12_passesBut_13 : decode cX12_passesBut 13 = .ok (.iconst 1, 1) := by decide +kernel
theorem dX12_passesBut_14 : decode cX12_passesBut 14 = .ok (.iaload, 1) := by decide +kernel
theorem dX12_passesBut_15 : decode cX12_passesBut 15 = .ok (.aload_n 0, 1) := by decide +kernel
theorem dX12_passesBut_16 : decode cX12_passesBut 16 = .ok (.iload_n 2, 1) := by decide +kernel
theorem dX12_passesBut_17 : decode cX12_passesBut 17 = .ok (.invokevirtual 151, 3) := by decide +kernel
theorem dX12_passesBut_20 : decode cX12_passesBut 20 = .ok (.imul, 1) := by decide +kernel
theorem dX12_passesBut_21 : decode cX12_passesBut 21 = .ok (.if_icmp .lt 7, 3) := by decide +kernel
theorem dX12_passesBut_24 : decode cX12_passesBut 24 = .ok (.iconst 1, 1) := by decide +kernel
theorem dX12_passesBut_25 : decode cX12_passesBut 25 = .ok (.goto 4, 3) := by decide +kernel
theorem dX12_passesBut_28 : decode cX12_passesBut 28 = .ok (.iconst 0, 1) := by decide +kernel
theorem dX12_passesBut_29 : decode cX12_passesBut 29 = .ok (.ireturn, 1) := by decide +kernel
theorem dX12_wrongs_0 : decode cX12_wrongs 0 = .ok (.iconst 0, 1) := by decide +kernel
theorem dX12_wrongs_1 : decode cX12_wrongs 1 = .ok (.istore_n 2, 1) := by decide +kernel
theorem dX12_wrongs_2 : decode cX12_wrongs 2 = .ok (.iconst 0, 1) := by decide +kernel
theorem dX12_wrongs_3 : decode cX12_wrongs 3 = .ok (.istore_n 3, 1) := by decide +kernel
theorem dX12_wrongs_4 : decode cX12_wrongs 4 = .ok (.iload_n 3, 1) := by decide +kernel
theorem dX12_wrongs_5 : decode cX12_wrongs 5 = .ok (.aload_n 0, 1) := by decide +kernel
theorem dX12_wrongs_6 : decode cX12_wrongs 6 = .ok (.getfield 81, 3) := by decide +kernel
theorem dX12_wrongs_9 : decode cX12_wrongs 9 = .ok (.if_icmp .ge 26, 3) := by decide +kernel
theorem dX12_wrongs_12 : decode cX12_wrongs 12 = .ok (.iload_n 2, 1) := by decide +kernel
theorem dX12_wrongs_13 : decode cX12_wrongs 13 = .ok (.aload_n 0, 1) := by decide +kernel
theorem dX12_wrongs_14 : decode cX12_wrongs 14 = .ok (.iload_n 1, 1) := by decide +kernel
theorem dX12_wrongs_15 : decode cX12_wrongs 15 = .ok (.iload_n 3, 1) := by decide +kernel
theorem dX12_wrongs_16 : decode cX12_wrongs 16 = .ok (.invokevirtual 154, 3) := by decide +kernel
theorem dX12_wrongs_19 : decode cX12_wrongs 19 = .ok (.ifCond .eq 7, 3) := by decide +kernel
theorem dX12_wrongs_22 : decode cX12_wrongs 22 = .ok (.iconst 1, 1) := by decide +kernel
theorem dX12_wrongs_23 : decode cX12_wrongs 23 = .ok (.goto 4, 3) := by decide +kernel
theorem dX12_wrongs_26 : decode cX12_wrongs 26 = .ok (.iconst 0, 1) := by decide +kernel
theorem dX12_wrongs_27 : decode cX12_wrongs 27 = .ok (.iadd, 1) := by decide +kernel
theorem dX12_wrongs_28 : decode cX12_wrongs 28 = .ok (.istore_n 2, 1) := by decide +kernel
theorem dX12_wrongs_29 : decode cX12_wrongs 29 = .ok (.iinc 3 1, 3) := by decide +kernel
theorem dX12_wrongs_32 : decode cX12_wrongs 32 = .ok (.goto (-28), 3) := by decide +kernel
theorem dX12_wrongs_35 : decode cX12_wrongs 35 = .ok (.iload_n 2, 1) := by decide +kernel
theorem dX12_wrongs_36 : decode cX12_wrongs 36 = .ok (.ireturn, 1) := by decide +kernel
theorem dX12_markOf_0 : decode cX12_markOf 0 = .ok (.iload_n 2, 1) := by decide +kernel
theorem dX12_markOf_1 : decode cX12_markOf 1 = .ok (.ifCond .ne 12, 3) := by decide +kernel
theorem dX12_markOf_4 : decode cX12_markOf 4 = .ok (.aload_n 0, 1) := by decide +kernel
theorem dX12_markOf_5 : decode cX12_markOf 5 = .ok (.iload_n 1, 1) := by decide +kernel
theorem dX12_markOf_6 : decode cX12_markOf 6 = .ok (.iconst (-1), 1) := by decide +kernel
theorem dX12_markOf_7 : decode cX12_markOf 7 = .ok (.invokevirtual 147, 3) := by decide +kernel
theorem dX12_markOf_10 : decode cX12_markOf 10 = .ok (.goto 44, 3) := by decide +kernel
theorem dX12_markOf_13 : decode cX12_markOf 13 = .ok (.iload_n 2, 1) := by decide +kernel
theorem dX12_markOf_14 : decode cX12_markOf 14 = .ok (.iconst 1, 1) := by decide +kernel
theorem dX12_markOf_15 : decode cX12_markOf 15 = .ok (.if_icmp .ne 12, 3) := by decide +kernel
theorem dX12_markOf_18 : decode cX12_markOf 18 = .ok (.aload_n 0, 1) := by decide +kernel
theorem dX12_markOf_19 : decode cX12_markOf 19 = .ok (.iload_n 1, 1) := by decide +kernel
theorem dX12_markOf_20 : decode cX12_markOf 20 = .ok (.iconst (-1), 1) := by decide +kernel
theorem dX12_markOf_21 : decode cX12_markOf 21 = .ok (.invokevirtual 157, 3) := by decide +kernel
theorem dX12_markOf_24 : decode cX12_markOf 24 = .ok (.goto 30, 3) := by decide +kernel
theorem dX12_markOf_27 : decode cX12_markOf 27 = .ok (.iload_n 2, 1) := by decide +kernel
theorem dX12_markOf_28 : decode cX12_markOf 28 = .ok (.iconst 2, 1) := by decide +kernel
theorem dX12_markOf_29 : decode cX12_markOf 29 = .ok (.if_icmp .ne 20, 3) := by decide +kernel
theorem dX12_markOf_32 : decode cX12_markOf 32 = .ok (.aload_n 0, 1) := by decide +kernel
theorem dX12_markOf_33 : decode cX12_markOf 33 = .ok (.iload_n 1, 1) := by decide +kernel
theorem dX12_markOf_34 : decode cX12_markOf 34 = .ok (.iconst (-1), 1) := by decide +kernel
theorem dX12_markOf_35 : decode cX12_markOf 35 = .ok (.invokevirtual 160, 3) := by decide +kernel
theorem dX12_markOf_38 : decode cX12_markOf 38 = .ok (.ifCond .eq 7, 3) := by decide +kernel
theorem dX12_markOf_41 : decode cX12_markOf 41 = .ok (.iconst 1, 1) := by decide +kernel
theorem dX12_markOf_42 : decode cX12_markOf 42 = .ok (.goto 12, 3) := by decide +kernel
theorem dX12_markOf_45 : decode cX12_markOf 45 = .ok (.iconst 0, 1) := by decide +kernel
theorem dX12_markOf_46 : decode cX12_markOf 46 = .ok (.goto 8, 3) := by decide +kernel
theorem dX12_markOf_49 : decode cX12_markOf 49 = .ok (.aload_n 0, 1) := by decide +kernel
theorem dX12_markOf_50 : decode cX12_markOf 50 = .ok (.iload_n 1, 1) := by decide +kernel
theorem dX12_markOf_51 : decode cX12_markOf 51 = .ok (.invokevirtual 163, 3) := by decide +kernel
theorem dX12_markOf_54 : decode cX12_markOf 54 = .ok (.ireturn, 1) := by decide +kernel
theorem dX12_mark_0 : decode cX12_mark 0 = .ok (.aload_n 0, 1) := by decide +kernel
theorem dX12_mark_1 : decode cX12_mark 1 = .ok (.iload_n 1, 1) := by decide +kernel
theorem dX12_mark_2 : decode cX12_mark 2 = .ok (.invokevirtual 115, 3) := by decide +kernel
theorem dX12_mark_5 : decode cX12_mark 5 = .ok (.ifCond .eq 12, 3) := by decide +kernel
theorem dX12_mark_8 : decode cX12_mark 8 = .ok (.iload_n 2, 1) := by decide +kernel
theorem dX12_mark_9 : decode cX12_mark 9 = .ok (.iconst 0, 1) := by decide +kernel
theorem dX12_mark_10 : decode cX12_mark 10 = .ok (.iconst 3, 1) := by decide +kernel
theorem dX12_mark_11 : decode cX12_mark 11 = .ok (.invokestatic 87, 3) := by decide +kernel
theorem dX12_mark_14 : decode cX12_mark 14 = .ok (.ifCond .ne 6, 3) := by decide +kernel
theorem dX12_mark_17 : decode cX12_mark 17 = .ok (.bipush (-2), 2) := by decide +kernel
theorem dX12_mark_19 : decode cX12_mark 19 = .ok (.ireturn, 1) := by decide +kernel
theorem dX12_mark_20 : decode cX12_mark 20 = .ok (.aload_n 0, 1) := by decide +kernel
theorem dX12_mark_21 : decode cX12_mark 21 = .ok (.invokevirtual 131, 3) := by decide +kernel
theorem dX12_mark_24 : decode cX12_mark 24 = .ok (.aload_n 0, 1) := by decide +kernel
theorem dX12_mark_25 : decode cX12_mark 25 = .ok (.iload_n 1, 1) := by decide +kernel
theorem dX12_mark_26 : decode cX12_mark 26 = .ok (.iload_n 2, 1) := by decide +kernel
theorem dX12_mark_27 : decode cX12_mark 27 = .ok (.invokevirtual 166, 3) := by decide +kernel
theorem dX12_mark_30 : decode cX12_mark 30 = .ok (.ireturn, 1) := by decide +kernel
theorem dX12_sharedOf_0 : decode cX12_sharedOf 0 = .ok (.iconst 0, 1) := by decide +kernel
theorem dX12_sharedOf_1 : decode cX12_sharedOf 1 = .ok (.istore_n 3, 1) := by decide +kernel
theorem dX12_sharedOf_2 : decode cX12_sharedOf 2 = .ok (.iconst 0, 1) := by decide +kernel
theorem dX12_sharedOf_3 : decode cX12_sharedOf 3 = .ok (.istore 4, 2) := by decide +kernel
theorem dX12_sharedOf_5 : decode cX12_sharedOf 5 = .ok (.iload 4, 2) := by decide +kernel
theorem dX12_sharedOf_7 : decode cX12_sharedOf 7 = .ok (.aload_n 0, 1) := by decide +kernel
theorem dX12_sharedOf_8 : decode cX12_sharedOf 8 = .ok (.getfield 81, 3) := by decide +kernel
theorem dX12_sharedOf_11 : decode cX12_sharedOf 11 = .ok (.if_icmp .ge 54, 3) := by decide +kernel
theorem dX12_sharedOf_14 : decode cX12_sharedOf 14 = .ok (.iload_n 3, 1) := by decide +kernel
theorem dX12_sharedOf_15 : decode cX12_sharedOf 15 = .ok (.aload_n 0, 1) := by decide +kernel
theorem dX12_sharedOf_16 : decode cX12_sharedOf 16 = .ok (.iload_n 1, 1) := by decide +kernel
theorem dX12_sharedOf_17 : decode cX12_sharedOf 17 = .ok (.iload 4, 2) := by decide +kernel
theorem dX12_sharedOf_19 : decode cX12_sharedOf 19 = .ok (.invokevirtual 154, 3) := by decide +kernel
theorem dX12_sharedOf_22 : decode cX12_sharedOf 22 = .ok (.ifCond .eq 34, 3) := by decide +kernel
theorem dX12_sharedOf_25 : decode cX12_sharedOf 25 = .ok (.aload_n 0, 1) := by decide +kernel
theorem dX12_sharedOf_26 : decode cX12_sharedOf 26 = .ok (.getfield 37, 3) := by decide +kernel
theorem dX12_sharedOf_29 : decode cX12_sharedOf 29 = .ok (.bipush 12, 2) := by decide +kernel
theorem dX12_sharedOf_31 : decode cX12_sharedOf 31 = .ok (.iload_n 1, 1) := by decide +kernel
theorem dX12_sharedOf_32 : decode cX12_sharedOf 32 = .ok (.imul, 1) := by decide +kernel
theorem dX12_sharedOf_33 : decode cX12_sharedOf 33 = .ok (.iload 4, 2) := by decide +kernel
theorem dX12_sharedOf_35 : decode cX12_sharedOf 35 = .ok (.iadd, 1) := by decide +kernel
theorem dX12_sharedOf_36 : decode cX12_sharedOf 36 = .ok (.iaload, 1) := by decide +kernel
theorem dX12_sharedOf_37 : decode cX12_sharedOf 37 = .ok (.aload_n 0, 1) := by decide +kernel
theorem dX12_sharedOf_38 : decode cX12_sharedOf 38 = .ok (.getfield 37, 3) := by decide +kernel
theorem dX12_sharedOf_41 : decode cX12_sharedOf 41 = .ok (.bipush 12, 2) := by decide +kernel
theorem dX12_sharedOf_43 : decode cX12_sharedOf 43 = .ok (.iload_n 2, 1) := by decide +kernel
theorem dX12_sharedOf_44 : decode cX12_sharedOf 44 = .ok (.imul, 1) := by decide +kernel
theorem dX12_sharedOf_45 : decode cX12_sharedOf 45 = .ok (.iload 4, 2) := by decide +kernel
theorem dX12_sharedOf_47 : decode cX12_sharedOf 47 = .ok (.iadd, 1) := by decide +kernel
theorem dX12_sharedOf_48 : decode cX12_sharedOf 48 = .ok (.iaload, 1) := by decide +kernel
theorem dX12_sharedOf_49 : decode cX12_sharedOf 49 = .ok (.if_icmp .ne 7, 3) := by decide +kernel
theorem dX12_sharedOf_52 : decode cX12_sharedOf 52 = .ok (.iconst 1, 1) := by decide +kernel
theorem dX12_sharedOf_53 : decode cX12_sharedOf 53 = .ok (.goto 4, 3) := by decide +kernel
theorem dX12_sharedOf_56 : decode cX12_sharedOf 56 = .ok (.iconst 0, 1) := by decide +kernel
theorem dX12_sharedOf_57 : decode cX12_sharedOf 57 = .ok (.iadd, 1) := by decide +kernel
theorem dX12_sharedOf_58 : decode cX12_sharedOf 58 = .ok (.istore_n 3, 1) := by decide +kernel
theorem dX12_sharedOf_59 : decode cX12_sharedOf 59 = .ok (.iinc 4 1, 3) := by decide +kernel
theorem dX12_sharedOf_62 : decode cX12_sharedOf 62 = .ok (.goto (-57), 3) := by decide +kernel
theorem dX12_sharedOf_65 : decode cX12_sharedOf 65 = .ok (.iload_n 3, 1) := by decide +kernel
theorem dX12_sharedOf_66 : decode cX12_sharedOf 66 = .ok (.ireturn, 1) := by decide +kernel
theorem dX12_bothOf_0 : decode cX12_bothOf 0 = .ok (.iconst 0, 1) := by decide +kernel
theorem dX12_bothOf_1 : decode cX12_bothOf 1 = .ok (.istore_n 3, 1) := by decide +kernel
theorem dX12_bothOf_2 : decode cX12_bothOf 2 = .ok (.iconst 0, 1) := by decide +kernel
theorem dX12_bothOf_3 : decode cX12_bothOf 3 = .ok (.istore 4, 2) := by decide +kernel
theorem dX12_bothOf_5 : decode cX12_bothOf 5 = .ok (.iload 4, 2) := by decide +kernel
theorem dX12_bothOf_7 : decode cX12_bothOf 7 = .ok (.aload_n 0, 1) := by decide +kernel
theorem dX12_bothOf_8 : decode cX12_bothOf 8 = .ok (.getfield 81, 3) := by decide +kernel
theorem dX12_bothOf_11 : decode cX12_bothOf 11 = .ok (.if_icmp .ge 37, 3) := by decide +kernel
theorem dX12_bothOf_14 : decode cX12_bothOf 14 = .ok (.iload_n 3, 1) := by decide +kernel
theorem dX12_bothOf_15 : decode cX12_bothOf 15 = .ok (.aload_n 0, 1) := by decide +kernel
theorem dX12_bothOf_16 : decode cX12_bothOf 16 = .ok (.iload_n 1, 1) := by decide +kernel
theorem dX12_bothOf_17 : decode cX12_bothOf 17 = .ok (.iload 4, 2) := by decide +kernel
theorem dX12_bothOf_19 : decode cX12_bothOf 19 = .ok (.invokevirtual 154, 3) := by decide +kernel
theorem dX12_bothOf_22 : decode cX12_bothOf 22 = .ok (.ifCond .eq 17, 3) := by decide +kernel
theorem dX12_bothOf_25 : decode cX12_bothOf 25 = .ok (.aload_n 0, 1) := by decide +kernel
theorem dX12_bothOf_26 : decode cX12_bothOf 26 = .ok (.iload_n 2, 1) := by decide +kernel
theorem dX12_bothOf_27 : decode cX12_bothOf 27 = .ok (.iload 4, 2) := by decide +kernel
theorem dX12_bothOf_29 : decode cX12_bothOf 29 = .ok (.invokevirtual 154, 3) := by decide +kernel
theorem dX12_bothOf_32 : decode cX12_bothOf 32 = .ok (.ifCond .eq 7, 3) := by decide +kernel
theorem dX12_bothOf_35 : decode cX12_bothOf 35 = .ok (.iconst 1, 1) := by decide +kernel
theorem dX12_bothOf_36 : decode cX12_bothOf 36 = .ok (.goto 4, 3) := by decide +kernel
theorem dX12_bothOf_39 : decode cX12_bothOf 39 = .ok (.iconst 0, 1) := by decide +kernel
theorem dX12_bothOf_40 : decode cX12_bothOf 40 = .ok (.iadd, 1) := by decide +kernel
theorem dX12_bothOf_41 : decode cX12_bothOf 41 = .ok (.istore_n 3, 1) := by decide +kernel
theorem dX12_bothOf_42 : decode cX12_bothOf 42 = .ok (.iinc 4 1, 3) := by decide +kernel
theorem dX12_bothOf_45 : decode cX12_bothOf 45 = .ok (.goto (-40), 3) := by decide +kernel
theorem dX12_bothOf_48 : decode cX12_bothOf 48 = .ok (.iload_n 3, 1) := by decide +kernel
theorem dX12_bothOf_49 : decode cX12_bothOf 49 = .ok (.ireturn, 1) := by decide +kernel
theorem dX12_laysChance_0 : decode cX12_laysChance 0 = .ok (.aload_n 0, 1) := by decide +kernel
theorem dX12_laysChance_1 : decode cX12_laysChance 1 = .ok (.iload_n 1, 1) := by decide +kernel
theorem dX12_laysChance_2 : decode cX12_laysChance 2 = .ok (.iload_n 2, 1) := by decide +kernel
theorem dX12_laysChance_3 : decode cX12_laysChance 3 = .ok (.invokevirtual 169, 3) := by decide +kernel
theorem dX12_laysChance_6 : decode cX12_laysChance 6 = .ok (.bipush 7, 2) := by decide +kernel
theorem dX12_laysChance_8 : decode cX12_laysChance 8 = .ok (.if_icmp .le 5, 3) := by decide +kernel
theorem dX12_laysChance_11 : decode cX12_laysChance 11 = .ok (.iconst 0, 1) := by decide +kernel
theorem dX12_laysChance_12 : decode cX12_laysChance 12 = .ok (.ireturn, 1) := by decide +kernel
theorem dX12_laysChance_13 : decode cX12_laysChance 13 = .ok (.iconst 0, 1) := by decide +kernel
theorem dX12_laysChance_14 : decode cX12_laysChance 14 = .ok (.istore_n 3, 1) := by decide +kernel
theorem dX12_laysChance_15 : decode cX12_laysChance 15 = .ok (.iload_n 3, 1) := by decide +kernel
theorem dX12_laysChance_16 : decode cX12_laysChance 16 = .ok (.bipush 9, 2) := by decide +kernel
theorem dX12_laysChance_18 : decode cX12_laysChance 18 = .ok (.if_icmp .ge 24, 3) := by decide +kernel
theorem dX12_laysChance_21 : decode cX12_laysChance 21 = .ok (.aload_n 0, 1) := by decide +kernel
theorem dX12_laysChance_22 : decode cX12_laysChance 22 = .ok (.getfield 49, 3) := by decide +kernel
theorem dX12_laysChance_25 : decode cX12_laysChance 25 = .ok (.iload_n 3, 1) := by decide +kernel
theorem dX12_laysChance_26 : decode cX12_laysChance 26 = .ok (.iload_n 3, 1) := by decide +kernel
theorem dX12_laysChance_27 : decode cX12_laysChance 27 = .ok (.ifCond .ne 7, 3) := by decide +kernel
theorem dX12_laysChance_30 : decode cX12_laysChance 30 = .ok (.lconst 1, 1) := by decide +kernel
theorem dX12_laysChance_31 : decode cX12_laysChance 31 = .ok (.goto 4, 3) := by decide +kernel
theorem dX12_laysChance_34 : decode cX12_laysChance 34 = .ok (.lconst 0, 1) := by decide +kernel
theorem dX12_laysChance_35 : decode cX12_laysChance 35 = .ok (.lastore, 1) := by decide +kernel
theorem dX12_laysChance_36 : decode cX12_laysChance 36 = .ok (.iinc 3 1, 3) := by decide +kernel
theorem dX12_laysChance_39 : decode cX12_laysChance 39 = .ok (.goto (-24), 3) := by decide +kernel
theorem dX12_laysChance_42 : decode cX12_laysChance 42 = .ok (.aload_n 0, 1) := by decide +kernel
theorem dX12_laysChance_43 : decode cX12_laysChance 43 = .ok (.lconst 1, 1) := by decide +kernel
theorem dX12_laysChance_44 : decode cX12_laysChance 44 = .ok (.putfield 172, 3) := by decide +kernel
theorem dX12_laysChance_47 : decode cX12_laysChance 47 = .ok (.iconst 0, 1) := by decide +kernel
theorem dX12_laysChance_48 : decode cX12_laysChance 48 = .ok (.istore_n 3, 1) := by decide +kernel
theorem dX12_laysChance_49 : decode cX12_laysChance 49 = .ok (.iload_n 3, 1) := by decide +kernel
theorem dX12_laysChance_50 : decode cX12_laysChance 50 = .ok (.aload_n 0, 1) := by decide +kernel
theorem dX12_laysChance_51 : decode cX12_laysChance 51 = .ok (.getfield 81, 3) := by decide +kernel
theorem dX12_laysChance_54 : decode cX12_laysChance 54 = .ok (.if_icmp .ge 234, 3) := by decide +kernel
theorem dX12_laysChance_57 : decode cX12_laysChance 57 = .ok (.aload_n 0, 1) := by decide +kernel
theorem dX12_laysChance_58 : decode cX12_laysChance 58 = .ok (.iload_n 1, 1) := by decide +kernel
theorem dX12_laysChance_59 : decode cX12_laysChance 59 = .ok (.iload_n 3, 1) := by decide +kernel
theorem dX12_laysChance_60 : decode cX12_laysChance 60 = .ok (.invokevirtual 154, 3) := by decide +kernel
theorem dX12_laysChance_63 : decode cX12_laysChance 63 = .ok (.ifCond .eq 219, 3) := by decide +kernel
theorem dX12_laysChance_66 : decode cX12_laysChance 66 = .ok (.aload_n 0, 1) := by decide +kernel
theorem dX12_laysChance_67 : decode cX12_laysChance 67 = .ok (.iload_n 2, 1) := by decide +kernel
theorem dX12_laysChance_68 : decode cX12_laysChance 68 = .ok (.iload_n 3, 1) := by decide +kernel
theorem dX12_laysChance_69 : decode cX12_laysChance 69 = .ok (.invokevirtual 154, 3) := by decide +kernel
theorem dX12_laysChance_72 : decode cX12_laysChance 72 = .ok (.ifCond .eq 210, 3) := by decide +kernel
theorem dX12_laysChance_75 : decode cX12_laysChance 75 = .ok (.ldc2_w 176, 3) := by decide +kernel
theorem dX12_laysChance_78 : decode cX12_laysChance 78 = .ok (.lstore 4, 2) := by decide +kernel
theorem dX12_laysChance_80 : decode cX12_laysChance 80 = .ok (.lconst 0, 1) := by decide +kernel
theorem dX12_laysChance_81 : decode cX12_laysChance 81 = .ok (.lstore 6, 2) := by decide +kernel
theorem dX12_laysChance_83 : decode cX12_laysChance 83 = .ok (.iconst 1, 1) := by decide +kernel
theorem dX12_laysChance_84 : decode cX12_laysChance 84 = .ok (.istore 8, 2) := by decide +kernel
theorem dX12_laysChance_86 : decode cX12_laysChance 86 = .ok (.iload 8, 2) := by decide +kernel
theorem dX12_laysChance_88 : decode cX12_laysChance 88 = .ok (.bipush 6, 2) := by decide +kernel
theorem dX12_laysChance_90 : decode cX12_laysChance 90 = .ok (.if_icmp .ge 118, 3) := by decide +kernel
theorem dX12_laysChance_93 : decode cX12_laysChance 93 = .ok (.lconst 1, 1) := by decide +kernel
theorem dX12_laysChance_94 : decode cX12_laysChance 94 = .ok (.lstore 9, 2) := by decide +kernel
theorem dX12_laysChance_96 : decode cX12_laysChance 96 = .ok (.iconst 0, 1) := by decide +kernel
theorem dX12_laysChance_97 : decode cX12_laysChance 97 = .ok (.istore 11, 2) := by decide +kernel
theorem dX12_laysChance_99 : decode cX12_laysChance 99 = .ok (.iload 11, 2) := by decide +kernel
theorem dX12_laysChance_101 : decode cX12_laysChance 101 = .ok (.aload_n 0, 1) := by decide +kernel
theorem dX12_laysChance_102 : decode cX12_laysChance 102 = .ok (.getfield 109, 3) := by decide +kernel
theorem dX12_laysChance_105 : decode cX12_laysChance 105 = .ok (.if_icmp .ge 48, 3) := by decide +kernel
theorem dX12_laysChance_108 : decode cX12_laysChance 108 = .ok (.lload 9, 2) := by decide +kernel
theorem dX12_laysChance_110 : decode cX12_laysChance 110 = .ok (.iload 11, 2) := by decide +kernel
theorem dX12_laysChance_112 : decode cX12_laysChance 112 = .ok (.iload_n 1, 1) := by decide +kernel
theorem dX12_laysChance_113 : decode cX12_laysChance 113 = .ok (.if_icmp .eq 30, 3) := by decide +kernel
theorem dX12_laysChance_116 : decode cX12_laysChance 116 = .ok (.iload 11, 2) := by decide +kernel
theorem dX12_laysChance_118 : decode cX12_laysChance 118 = .ok (.iload_n 2, 1) := by decide +kernel
theorem dX12_laysChance_119 : decode cX12_laysChance 119 = .ok (.if_icmp .eq 24, 3) := by decide +kernel
theorem dX12_laysChance_122 : decode cX12_laysChance 122 = .ok (.aload_n 0, 1) := by decide +kernel
theorem dX12_laysChance_123 : decode cX12_laysChance 123 = .ok (.getfield 37, 3) := by decide +kernel
theorem dX12_laysChance_126 : decode cX12_laysChance 126 = .ok (.bipush 12, 2) := by decide +kernel
theorem dX12_laysChance_128 : decode cX12_laysChance 128 = .ok (.iload 11, 2) := by decide +kernel
theorem dX12_laysChance_130 : decode cX12_laysChance 130 = .ok (.imul, 1) := by decide +kernel
theorem dX12_laysChance_131 : decode cX12_laysChance 131 = .ok (.iload_n 3, 1) := by decide +kernel
theorem dX12_laysChance_132 : decode cX12_laysChance 132 = .ok (.iadd, 1) := by decide +kernel
theorem dX12_laysChance_133 : decode cX12_laysChance 133 = .ok (.iaload, 1) := by decide +kernel
theorem dX12_laysChance_134 : decode cX12_laysChance 134 = .ok (.iload 8, 2) := by decide +kernel
theorem dX12_laysChance_136 : decode cX12_laysChance 136 = .ok (.if_icmp .ne 7, 3) := by decide +kernel
theorem dX12_laysChance_139 : decode cX12_laysChance 139 = .ok (.lconst 1, 1) := by decide +kernel
theorem dX12_laysChance_140 : decode cX12_laysChance 140 = .ok (.goto 4, 3) := by decide +kernel
theorem dX12_laysChance_143 : decode cX12_laysChance 143 = .ok (.lconst 0, 1) := by decide +kernel
theorem dX12_laysChance_144 : decode cX12_laysChance 144 = .ok (.ladd, 1) := by decide +kernel
theorem dX12_laysChance_145 : decode cX12_laysChance 145 = .ok (.lstore 9, 2) := by decide +kernel
theorem dX12_laysChance_147 : decode cX12_laysChance 147 = .ok (.iinc 11 1, 3) := by decide +kernel
theorem dX12_laysChance_150 : decode cX12_laysChance 150 = .ok (.goto (-51), 3) := by decide +kernel
theorem dX12_laysChance_153 : decode cX12_laysChance 153 = .ok (.lload 4, 2) := by decide +kernel
theorem dX12_laysChance_155 : decode cX12_laysChance 155 = .ok (.iload 8, 2) := by decide +kernel
theorem dX12_laysChance_157 : decode cX12_laysChance 157 = .ok (.aload_n 0, 1) := by decide +kernel
theorem dX12_laysChance_158 : decode cX12_laysChance 158 = .ok (.getfield 13, 3) := by decide +kernel
theorem dX12_laysChance_161 : decode cX12_laysChance 161 = .ok (.iload_n 3, 1) := by decide +kernel
theorem dX12_laysChance_162 : decode cX12_laysChance 162 = .ok (.iaload, 1) := by decide +kernel
theorem dX12_laysChance_163 : decode cX12_laysChance 163 = .ok (.if_icmp .ne 7, 3) := by decide +kernel
theorem dX12_laysChance_166 : decode cX12_laysChance 166 = .ok (.lconst 0, 1) := by decide +kernel
theorem dX12_laysChance_167 : decode cX12_laysChance 167 = .ok (.goto 7, 3) := by decide +kernel
theorem dX12_laysChance_170 : decode cX12_laysChance 170 = .ok (.lload 9, 2) := by decide +kernel
theorem dX12_laysChance_172 : decode cX12_laysChance 172 = .ok (.lconst 1, 1) := by decide +kernel
theorem dX12_laysChance_173 : decode cX12_laysChance 173 = .ok (.lsub, 1) := by decide +kernel
theorem dX12_laysChance_174 : decode cX12_laysChance 174 = .ok (.ladd, 1) := by decide +kernel
theorem dX12_laysChance_175 : decode cX12_laysChance 175 = .ok (.lstore 4, 2) := by decide +kernel
theorem dX12_laysChance_177 : decode cX12_laysChance 177 = .ok (.lload 6, 2) := by decide +kernel
theorem dX12_laysChance_179 : decode cX12_laysChance 179 = .ok (.iload 8, 2) := by decide +kernel
theorem dX12_laysChance_181 : decode cX12_laysChance 181 = .ok (.aload_n 0, 1) := by decide +kernel
theorem dX12_laysChance_182 : decode cX12_laysChance 182 = .ok (.getfield 13, 3) := by decide +kernel
theorem dX12_laysChance_185 : decode cX12_laysChance 185 = .ok (.iload_n 3, 1) := by decide +kernel
theorem dX12_laysChance_186 : decode cX12_laysChance 186 = .ok (.iaload, 1) := by decide +kernel
theorem dX12_laysChance_187 : decode cX12_laysChance 187 = .ok (.if_icmp .ne 7, 3) := by decide +kernel
theorem dX12_laysChance_190 : decode cX12_laysChance 190 = .ok (.lconst 0, 1) := by decide +kernel
theorem dX12_laysChance_191 : decode cX12_laysChance 191 = .ok (.goto 8, 3) := by decide +kernel
theorem dX12_laysChance_194 : decode cX12_laysChance 194 = .ok (.lload 9, 2) := by decide +kernel
theorem dX12_laysChance_196 : decode cX12_laysChance 196 = .ok (.lload 9, 2) := by decide +kernel
theorem dX12_laysChance_198 : decode cX12_laysChance 198 = .ok (.lmul, 1) := by decide +kernel
theorem dX12_laysChance_199 : decode cX12_laysChance 199 = .ok (.ladd, 1) := by decide +kernel
theorem dX12_laysChance_200 : decode cX12_laysChance 200 = .ok (.lstore 6, 2) := by decide +kernel
theorem dX12_laysChance_202 : decode cX12_laysChance 202 = .ok (.iinc 8 1, 3) := by decide +kernel
theorem dX12_laysChance_205 : decode cX12_laysChance 205 = .ok (.goto (-119), 3) := by decide +kernel
theorem dX12_laysChance_208 : decode cX12_laysChance 208 = .ok (.bipush 8, 2) := by decide +kernel
theorem dX12_laysChance_210 : decode cX12_laysChance 210 = .ok (.istore 8, 2) := by decide +kernel
theorem dX12_laysChance_212 : decode cX12_laysChance 212 = .ok (.iload 8, 2) := by decide +kernel
theorem dX12_laysChance_214 : decode cX12_laysChance 214 = .ok (.ifCond .lt 54, 3) := by decide +kernel
theorem dX12_laysChance_217 : decode cX12_laysChance 217 = .ok (.aload_n 0, 1) := by decide +kernel
theorem dX12_laysChance_218 : decode cX12_laysChance 218 = .ok (.getfield 49, 3) := by decide +kernel
theorem dX12_laysChance_221 : decode cX12_laysChance 221 = .ok (.iload 8, 2) := by decide +kernel
theorem dX12_laysChance_223 : decode cX12_laysChance 223 = .ok (.aload_n 0, 1) := by decide +kernel
theorem dX12_laysChance_224 : decode cX12_laysChance 224 = .ok (.getfield 49, 3) := by decide +kernel
theorem dX12_laysChance_227 : decode cX12_laysChance 227 = .ok (.iload 8, 2) := by decide +kernel
theorem dX12_laysChance_229 : decode cX12_laysChance 229 = .ok (.laload, 1) := by decide +kernel
theorem dX12_laysChance_230 : decode cX12_laysChance 230 = .ok (.lload 4, 2) := by decide +kernel
theorem dX12_laysChance_232 : decode cX12_laysChance 232 = .ok (.lload 4, 2) := by decide +kernel
theorem dX12_laysChance_234 : decode cX12_laysChance 234 = .ok (.lmul, 1) := by decide +kernel
theorem dX12_laysChance_235 : decode cX12_laysChance 235 = .ok (.lload 6, 2) := by decide +kernel
theorem dX12_laysChance_237 : decode cX12_laysChance 237 = .ok (.lsub, 1) := by decide +kernel
theorem dX12_laysChance_238 : decode cX12_laysChance 238 = .ok (.lmul, 1) := by decide +kernel
theorem dX12_laysChance_239 : decode cX12_laysChance 239 = .ok (.iload 8, 2) := by decide +kernel
theorem dX12_laysChance_241 : decode cX12_laysChance 241 = .ok (.ifCond .le 18, 3) := by decide +kernel
theorem dX12_laysChance_244 : decode cX12_laysChance 244 = .ok (.aload_n 0, 1) := by decide +kernel
theorem dX12_laysChance_245 : decode cX12_laysChance 245 = .ok (.getfield 49, 3) := by decide +kernel
theorem dX12_laysChance_248 : decode cX12_laysChance 248 = .ok (.iload 8, 2) := by decide +kernel
theorem dX12_laysChance_250 : decode cX12_laysChance 250 = .ok (.iconst 1, 1) := by decide +kernel
theorem dX12_laysChance_251 : decode cX12_laysChance 251 = .ok (.isub, 1) := by decide +kernel
theorem dX12_laysChance_252 : decode cX12_laysChance 252 = .ok (.laload, 1) := by decide +kernel
theorem dX12_laysChance_253 : decode cX12_laysChance 253 = .ok (.lload 6, 2) := by decide +kernel
theorem dX12_laysChance_255 : decode cX12_laysChance 255 = .ok (.lmul, 1) := by decide +kernel
theorem dX12_laysChance_256 : decode cX12_laysChance 256 = .ok (.goto 4, 3) := by decide +kernel
theorem dX12_laysChance_259 : decode cX12_laysChance 259 = .ok (.lconst 0, 1) := by decide +kernel
theorem dX12_laysChance_260 : decode cX12_laysChance 260 = .ok (.ladd, 1) := by decide +kernel
theorem dX12_laysChance_261 : decode cX12_laysChance 261 = .ok (.lastore, 1) := by decide +kernel
theorem dX12_laysChance_262 : decode cX12_laysChance 262 = .ok (.iinc 8 (-1), 3) := by decide +kernel
theorem dX12_laysChance_265 : decode cX12_laysChance 265 = .ok (.goto (-53), 3) := by decide +kernel
theorem dX12_laysChance_268 : decode cX12_laysChance 268 = .ok (.aload_n 0, 1) := by decide +kernel
theorem dX12_laysChance_269 : decode cX12_laysChance 269 = .ok (.dup, 1) := by decide +kernel
theorem dX12_laysChance_270 : decode cX12_laysChance 270 = .ok (.getfield 172, 3) := by decide +kernel
theorem dX12_laysChance_273 : decode cX12_laysChance 273 = .ok (.lload 4, 2) := by decide +kernel
theorem dX12_laysChance_275 : decode cX12_laysChance 275 = .ok (.lload 4, 2) := by decide +kernel
theorem dX12_laysChance_277 : decode cX12_laysChance 277 = .ok (.lmul, 1) := by decide +kernel
theorem dX12_laysChance_278 : decode cX12_laysChance 278 = .ok (.lmul, 1) := by decide +kernel
theorem dX12_laysChance_279 : decode cX12_laysChance 279 = .ok (.putfield 172, 3) := by decide +kernel
theorem dX12_laysChance_282 : decode cX12_laysChance 282 = .ok (.iinc 3 1, 3) := by decide +kernel
theorem dX12_laysChance_285 : decode cX12_laysChance 285 = .ok (.goto (-236), 3) := by decide +kernel
theorem dX12_laysChance_288 : decode cX12_laysChance 288 = .ok (.aload_n 0, 1) := by decide +kernel
theorem dX12_laysChance_289 : decode cX12_laysChance 289 = .ok (.lconst 0, 1) := by decide +kernel
theorem dX12_laysChance_290 : decode cX12_laysChance 290 = .ok (.putfield 178, 3) := by decide +kernel
theorem dX12_laysChance_293 : decode cX12_laysChance 293 = .ok (.aload_n 0, 1) := by decide +kernel
theorem dX12_laysChance_294 : decode cX12_laysChance 294 = .ok (.iload_n 1, 1) := by decide +kernel
theorem dX12_laysChance_295 : decode cX12_laysChance 295 = .ok (.iload_n 2, 1) := by decide +kernel
theorem dX12_laysChance_296 : decode cX12_laysChance 296 = .ok (.invokevirtual 181, 3) := by decide +kernel
theorem dX12_laysChance_299 : decode cX12_laysChance 299 = .ok (.istore_n 3, 1) := by decide +kernel
theorem dX12_laysChance_300 : decode cX12_laysChance 300 = .ok (.iload_n 3, 1) := by decide +kernel
theorem dX12_laysChance_301 : decode cX12_laysChance 301 = .ok (.bipush 9, 2) := by decide +kernel
theorem dX12_laysChance_303 : decode cX12_laysChance 303 = .ok (.if_icmp .ge 24, 3) := by decide +kernel
theorem dX12_laysChance_306 : decode cX12_laysChance 306 = .ok (.aload_n 0, 1) := by decide +kernel
theorem dX12_laysChance_307 : decode cX12_laysChance 307 = .ok (.dup, 1) := by decide +kernel
theorem dX12_laysChance_308 : decode cX12_laysChance 308 = .ok (.getfield 178, 3) := by decide +kernel
theorem dX12_laysChance_311 : decode cX12_laysChance 311 = .ok (.aload_n 0, 1) := by decide +kernel
theorem dX12_laysChance_312 : decode cX12_laysChance 312 = .ok (.getfield 49, 3) := by decide +kernel
theorem dX12_laysChance_315 : decode cX12_laysChance 315 = .ok (.iload_n 3, 1) := by decide +kernel
theorem dX12_laysChance_316 : decode cX12_laysChance 316 = .ok (.laload, 1) := by decide +kernel
theorem dX12_laysChance_317 : decode cX12_laysChance 317 = .ok (.ladd, 1) := by decide +kernel
theorem dX12_laysChance_318 : decode cX12_laysChance 318 = .ok (.putfield 178, 3) := by decide +kernel
theorem dX12_laysChance_321 : decode cX12_laysChance 321 = .ok (.iinc 3 1, 3) := by decide +kernel
theorem dX12_laysChance_324 : decode cX12_laysChance 324 = .ok (.goto (-24), 3) := by decide +kernel
theorem dX12_laysChance_327 : decode cX12_laysChance 327 = .ok (.iconst 1, 1) := by decide +kernel
theorem dX12_laysChance_328 : decode cX12_laysChance 328 = .ok (.ireturn, 1) := by decide +kernel
theorem dX12_areOdd_0 : decode cX12_areOdd 0 = .ok (.aload_n 0, 1) := by decide +kernel
theorem dX12_areOdd_1 : decode cX12_areOdd 1 = .ok (.iload_n 1, 1) := by decide +kernel
theorem dX12_areOdd_2 : decode cX12_areOdd 2 = .ok (.iload_n 2, 1) := by decide +kernel
theorem dX12_areOdd_3 : decode cX12_areOdd 3 = .ok (.invokevirtual 181, 3) := by decide +kernel
theorem dX12_areOdd_6 : decode cX12_areOdd 6 = .ok (.ifCond .le 40, 3) := by decide +kernel
theorem dX12_areOdd_9 : decode cX12_areOdd 9 = .ok (.aload_n 0, 1) := by decide +kernel
theorem dX12_areOdd_10 : decode cX12_areOdd 10 = .ok (.iload_n 1, 1) := by decide +kernel
theorem dX12_areOdd_11 : decode cX12_areOdd 11 = .ok (.iload_n 2, 1) := by decide +kernel
theorem dX12_areOdd_12 : decode cX12_areOdd 12 = .ok (.invokevirtual 184, 3) := by decide +kernel
theorem dX12_areOdd_15 : decode cX12_areOdd 15 = .ok (.ifCond .eq 31, 3) := by decide +kernel
theorem dX12_areOdd_18 : decode cX12_areOdd 18 = .ok (.ldc2_w 187, 3) := by decide +kernel
theorem dX12_areOdd_21 : decode cX12_areOdd 21 = .ok (.aload_n 0, 1) := by decide +kernel
theorem dX12_areOdd_22 : decode cX12_areOdd 22 = .ok (.getfield 178, 3) := by decide +kernel
theorem dX12_areOdd_25 : decode cX12_areOdd 25 = .ok (.lmul, 1) := by decide +kernel
theorem dX12_areOdd_26 : decode cX12_areOdd 26 = .ok (.aload_n 0, 1) := by decide +kernel
theorem dX12_areOdd_27 : decode cX12_areOdd 27 = .ok (.getfield 16, 3) := by decide +kernel
theorem dX12_areOdd_30 : decode cX12_areOdd 30 = .ok (.iconst 2, 1) := by decide +kernel
theorem dX12_areOdd_31 : decode cX12_areOdd 31 = .ok (.iaload, 1) := by decide +kernel
theorem dX12_areOdd_32 : decode cX12_areOdd 32 = .ok (.i2l, 1) := by decide +kernel
theorem dX12_areOdd_33 : decode cX12_areOdd 33 = .ok (.aload_n 0, 1) := by decide +kernel
theorem dX12_areOdd_34 : decode cX12_areOdd 34 = .ok (.getfield 172, 3) := by decide +kernel
theorem dX12_areOdd_37 : decode cX12_areOdd 37 = .ok (.lmul, 1) := by decide +kernel
theorem dX12_areOdd_38 : decode cX12_areOdd 38 = .ok (.lcmp, 1) := by decide +kernel
theorem dX12_areOdd_39 : decode cX12_areOdd 39 = .ok (.ifCond .gt 7, 3) := by decide +kernel
theorem dX12_areOdd_42 : decode cX12_areOdd 42 = .ok (.iconst 1, 1) := by decide +kernel
theorem dX12_areOdd_43 : decode cX12_areOdd 43 = .ok (.goto 4, 3) := by decide +kernel
theorem dX12_areOdd_46 : decode cX12_areOdd 46 = .ok (.iconst 0, 1) := by decide +kernel
theorem dX12_areOdd_47 : decode cX12_areOdd 47 = .ok (.ireturn, 1) := by decide +kernel
theorem dX12_shared_0 : decode cX12_shared 0 = .ok (.aload_n 0, 1) := by decide +kernel
theorem dX12_shared_1 : decode cX12_shared 1 = .ok (.iload_n 1, 1) := by decide +kernel
theorem dX12_shared_2 : decode cX12_shared 2 = .ok (.iload_n 2, 1) := by decide +kernel
theorem dX12_shared_3 : decode cX12_shared 3 = .ok (.invokevirtual 137, 3) := by decide +kernel
theorem dX12_shared_6 : decode cX12_shared 6 = .ok (.ifCond .eq 12, 3) := by decide +kernel
theorem dX12_shared_9 : decode cX12_shared 9 = .ok (.iload_n 3, 1) := by decide +kernel
theorem dX12_shared_10 : decode cX12_shared 10 = .ok (.iconst 0, 1) := by decide +kernel
theorem dX12_shared_11 : decode cX12_shared 11 = .ok (.iconst 2, 1) := by decide +kernel
theorem dX12_shared_12 : decode cX12_shared 12 = .ok (.invokestatic 87, 3) := by decide +kernel
theorem dX12_shared_15 : decode cX12_shared 15 = .ok (.ifCond .ne 6, 3) := by decide +kernel
theorem dX12_shared_18 : decode cX12_shared 18 = .ok (.bipush (-2), 2) := by decide +kernel
theorem dX12_shared_20 : decode cX12_shared 20 = .ok (.ireturn, 1) := by decide +kernel
theorem dX12_shared_21 : decode cX12_shared 21 = .ok (.aload_n 0, 1) := by decide +kernel
theorem dX12_shared_22 : decode cX12_shared 22 = .ok (.invokevirtual 131, 3) := by decide +kernel
theorem dX12_shared_25 : decode cX12_shared 25 = .ok (.iload_n 3, 1) := by decide +kernel
theorem dX12_shared_26 : decode cX12_shared 26 = .ok (.ifCond .ne 12, 3) := by decide +kernel
theorem dX12_shared_29 : decode cX12_shared 29 = .ok (.aload_n 0, 1) := by decide +kernel
theorem dX12_shared_30 : decode cX12_shared 30 = .ok (.iload_n 1, 1) := by decide +kernel
theorem dX12_shared_31 : decode cX12_shared 31 = .ok (.iload_n 2, 1) := by decide +kernel
theorem dX12_shared_32 : decode cX12_shared 32 = .ok (.invokevirtual 181, 3) := by decide +kernel
theorem dX12_shared_35 : decode cX12_shared 35 = .ok (.goto 31, 3) := by decide +kernel
theorem dX12_shared_38 : decode cX12_shared 38 = .ok (.iload_n 3, 1) := by decide +kernel
theorem dX12_shared_39 : decode cX12_shared 39 = .ok (.iconst 1, 1) := by decide +kernel
theorem dX12_shared_40 : decode cX12_shared 40 = .ok (.if_icmp .ne 12, 3) := by decide +kernel
theorem dX12_shared_43 : decode cX12_shared 43 = .ok (.aload_n 0, 1) := by decide +kernel
theorem dX12_shared_44 : decode cX12_shared 44 = .ok (.iload_n 1, 1) := by decide +kernel
theorem dX12_shared_45 : decode cX12_shared 45 = .ok (.iload_n 2, 1) := by decide +kernel
theorem dX12_shared_46 : decode cX12_shared 46 = .ok (.invokevirtual 169, 3) := by decide +kernel
theorem dX12_shared_49 : decode cX12_shared 49 = .ok (.goto 17, 3) := by decide +kernel
theorem dX12_shared_52 : decode cX12_shared 52 = .ok (.aload_n 0, 1) := by decide +kernel
theorem dX12_shared_53 : decode cX12_shared 53 = .ok (.iload_n 1, 1) := by decide +kernel
theorem dX12_shared_54 : decode cX12_shared 54 = .ok (.iload_n 2, 1) := by decide +kernel
theorem dX12_shared_55 : decode cX12_shared 55 = .ok (.invokevirtual 189, 3) := by decide +kernel
theorem dX12_shared_58 : decode cX12_shared 58 = .ok (.ifCond .eq 7, 3) := by decide +kernel
theorem dX12_shared_61 : decode cX12_shared 61 = .ok (.iconst 1, 1) := by decide +kernel
theorem dX12_shared_62 : decode cX12_shared 62 = .ok (.goto 4, 3) := by decide +kernel
theorem dX12_shared_65 : decode cX12_shared 65 = .ok (.iconst 0, 1) := by decide +kernel
theorem dX12_shared_66 : decode cX12_shared 66 = .ok (.ireturn, 1) := by decide +kernel
theorem dX12_chance_0 : decode cX12_chance 0 = .ok (.aload_n 0, 1) := by decide +kernel
theorem dX12_chance_1 : decode cX12_chance 1 = .ok (.iload_n 1, 1) := by decide +kernel
theorem dX12_chance_2 : decode cX12_chance 2 = .ok (.iload_n 2, 1) := by decide +kernel
theorem dX12_chance_3 : decode cX12_chance 3 = .ok (.invokevirtual 137, 3) := by decide +kernel
theorem dX12_chance_6 : decode cX12_chance 6 = .ok (.ifCond .eq 12, 3) := by decide +kernel
theorem dX12_chance_9 : decode cX12_chance 9 = .ok (.iload_n 3, 1) := by decide +kernel
theorem dX12_chance_10 : decode cX12_chance 10 = .ok (.iconst 0, 1) := by decide +kernel
theorem dX12_chance_11 : decode cX12_chance 11 = .ok (.iconst 1, 1) := by decide +kernel
theorem dX12_chance_12 : decode cX12_chance 12 = .ok (.invokestatic 87, 3) := by decide +kernel
theorem dX12_chance_15 : decode cX12_chance 15 = .ok (.ifCond .ne 9, 3) := by decide +kernel
theorem dX12_chance_18 : decode cX12_chance 18 = .ok (.bipush (-2), 2) := by decide +kernel
theorem dX12_chance_20 : decode cX12_chance 20 = .ok (.invokestatic 192, 3) := by decide +kernel
theorem dX12_chance_23 : decode cX12_chance 23 = .ok (.lreturn, 1) := by decide +kernel
theorem dX12_chance_24 : decode cX12_chance 24 = .ok (.aload_n 0, 1) := by decide +kernel
theorem dX12_chance_25 : decode cX12_chance 25 = .ok (.invokevirtual 131, 3) := by decide +kernel
theorem dX12_chance_28 : decode cX12_chance 28 = .ok (.aload_n 0, 1) := by decide +kernel
theorem dX12_chance_29 : decode cX12_chance 29 = .ok (.iload_n 1, 1) := by decide +kernel
theorem dX12_chance_30 : decode cX12_chance 30 = .ok (.iload_n 2, 1) := by decide +kernel
theorem dX12_chance_31 : decode cX12_chance 31 = .ok (.invokevirtual 184, 3) := by decide +kernel
theorem dX12_chance_34 : decode cX12_chance 34 = .ok (.ifCond .eq 18, 3) := by decide +kernel
theorem dX12_chance_37 : decode cX12_chance 37 = .ok (.aload_n 0, 1) := by decide +kernel
theorem dX12_chance_38 : decode cX12_chance 38 = .ok (.getfield 178, 3) := by decide +kernel
theorem dX12_chance_41 : decode cX12_chance 41 = .ok (.aload_n 0, 1) := by decide +kernel
theorem dX12_chance_42 : decode cX12_chance 42 = .ok (.getfield 172, 3) := by decide +kernel
theorem dX12_chance_45 : decode cX12_chance 45 = .ok (.iload_n 3, 1) := by decide +kernel
theorem dX12_chance_46 : decode cX12_chance 46 = .ok (.invokestatic 196, 3) := by decide +kernel
theorem dX12_chance_49 : decode cX12_chance 49 = .ok (.goto 8, 3) := by decide +kernel
theorem dX12_chance_52 : decode cX12_chance 52 = .ok (.bipush (-4), 2) := by decide +kernel
theorem dX12_chance_54 : decode cX12_chance 54 = .ok (.invokestatic 192, 3) := by decide +kernel
theorem dX12_chance_57 : decode cX12_chance 57 = .ok (.lreturn, 1) := by decide +kernel
theorem dX12_besideNow_0 : decode cX12_besideNow 0 = .ok (.iconst 0, 1) := by decide +kernel
theorem dX12_besideNow_1 : decode cX12_besideNow 1 = .ok (.istore_n 1, 1) := by decide +kernel
theorem dX12_besideNow_2 : decode cX12_besideNow 2 = .ok (.iconst 0, 1) := by decide +kernel
theorem dX12_besideNow_3 : decode cX12_besideNow 3 = .ok (.istore_n 2, 1) := by decide +kernel
theorem dX12_besideNow_4 : decode cX12_besideNow 4 = .ok (.iload_n 2, 1) := by decide +kernel
theorem dX12_besideNow_5 : decode cX12_besideNow 5 = .ok (.aload_n 0, 1) := by decide +kernel
theorem dX12_besideNow_6 : decode cX12_besideNow 6 = .ok (.getfield 109, 3) := by decide +kernel
theorem dX12_besideNow_9 : decode cX12_besideNow 9 = .ok (.if_icmp .ge 59, 3) := by decide +kernel
theorem dX12_besideNow_12 : decode cX12_besideNow 12 = .ok (.iconst 0, 1) := by decide +kernel
theorem dX12_besideNow_13 : decode cX12_besideNow 13 = .ok (.istore_n 3, 1) := by decide +kernel
theorem dX12_besideNow_14 : decode cX12_besideNow 14 = .ok (.iload_n 3, 1) := by decide +kernel
theorem dX12_besideNow_15 : decode cX12_besideNow 15 = .ok (.iload_n 2, 1) := by decide +kernel
theorem dX12_besideNow_16 : decode cX12_besideNow 16 = .ok (.if_icmp .ge 46, 3) := by decide +kernel
theorem dX12_besideNow_19 : decode cX12_besideNow 19 = .ok (.iload_n 1, 1) := by decide +kernel
theorem dX12_besideNow_20 : decode cX12_besideNow 20 = .ok (.aload_n 0, 1) := by decide +kernel
theorem dX12_besideNow_21 : decode cX12_besideNow 21 = .ok (.iload_n 2, 1) := by decide +kernel
theorem dX12_besideNow_22 : decode cX12_besideNow 22 = .ok (.iload_n 3, 1) := by decide +kernel
theorem dX12_besideNow_23 : decode cX12_besideNow 23 = .ok (.invokevirtual 141, 3) := by decide +kernel
theorem dX12_besideNow_26 : decode cX12_besideNow 26 = .ok (.ifCond .eq 27, 3) := by decide +kernel
theorem dX12_besideNow_29 : decode cX12_besideNow 29 = .ok (.aload_n 0, 1) := by decide +kernel
theorem dX12_besideNow_30 : decode cX12_besideNow 30 = .ok (.getfield 56, 3) := by decide +kernel
theorem dX12_besideNow_33 : decode cX12_besideNow 33 = .ok (.bipush 10, 2) := by decide +kernel
theorem dX12_besideNow_35 : decode cX12_besideNow 35 = .ok (.aload_n 0, 1) := by decide +kernel
theorem dX12_besideNow_36 : decode cX12_besideNow 36 = .ok (.getfield 53, 3) := by decide +kernel
theorem dX12_besideNow_39 : decode cX12_besideNow 39 = .ok (.iload_n 2, 1) := by decide +kernel
theorem dX12_besideNow_40 : decode cX12_besideNow 40 = .ok (.iaload, 1) := by decide +kernel
theorem dX12_besideNow_41 : decode cX12_besideNow 41 = .ok (.imul, 1) := by decide +kernel
theorem dX12_besideNow_42 : decode cX12_besideNow 42 = .ok (.aload_n 0, 1) := by decide +kernel
theorem dX12_besideNow_43 : decode cX12_besideNow 43 = .ok (.getfield 53, 3) := by decide +kernel
theorem dX12_besideNow_46 : decode cX12_besideNow 46 = .ok (.iload_n 3, 1) := by decide +kernel
theorem dX12_besideNow_47 : decode cX12_besideNow 47 = .ok (.iaload, 1) := by decide +kernel
theorem dX12_besideNow_48 : decode cX12_besideNow 48 = .ok (.iadd, 1) := by decide +kernel
theorem dX12_besideNow_49 : decode cX12_besideNow 49 = .ok (.iaload, 1) := by decide +kernel
theorem dX12_besideNow_50 : decode cX12_besideNow 50 = .ok (.goto 4, 3) := by decide +kernel
theorem dX12_besideNow_53 : decode cX12_besideNow 53 = .ok (.iconst 0, 1) := by decide +kernel
theorem dX12_besideNow_54 : decode cX12_besideNow 54 = .ok (.iadd, 1) := by decide +kernel
theorem dX12_besideNow_55 : decode cX12_besideNow 55 = .ok (.istore_n 1, 1) := by decide +kernel
theorem dX12_besideNow_56 : decode cX12_besideNow 56 = .ok (.iinc 3 1, 3) := by decide +kernel
theorem dX12_besideNow_59 : decode cX12_besideNow 59 = .ok (.goto (-45), 3) := by decide +kernel
theorem dX12_besideNow_62 : decode cX12_besideNow 62 = .ok (.iinc 2 1, 3) := by decide +kernel
theorem dX12_besideNow_65 : decode cX12_besideNow 65 = .ok (.goto (-61), 3) := by decide +kernel
theorem dX12_besideNow_68 : decode cX12_besideNow 68 = .ok (.iload_n 1, 1) := by decide +kernel
theorem dX12_besideNow_69 : decode cX12_besideNow 69 = .ok (.ireturn, 1) := by decide +kernel
theorem dX12_turns_0 : decode cX12_turns 0 = .ok (.aload_n 0, 1) := by decide +kernel
theorem dX12_turns_1 : decode cX12_turns 1 = .ok (.getfield 109, 3) := by decide +kernel
theorem dX12_turns_4 : decode cX12_turns 4 = .ok (.iconst 2, 1) := by decide +kernel
theorem dX12_turns_5 : decode cX12_turns 5 = .ok (.isub, 1) := by decide +kernel
theorem dX12_turns_6 : decode cX12_turns 6 = .ok (.istore_n 1, 1) := by decide +kernel
theorem dX12_turns_7 : decode cX12_turns 7 = .ok (.iload_n 1, 1) := by decide +kernel
theorem dX12_turns_8 : decode cX12_turns 8 = .ok (.ifCond .lt 26, 3) := by decide +kernel
theorem dX12_turns_11 : decode cX12_turns 11 = .ok (.aload_n 0, 1) := by decide +kernel
theorem dX12_turns_12 : decode cX12_turns 12 = .ok (.getfield 53, 3) := by decide +kernel
theorem dX12_turns_15 : decode cX12_turns 15 = .ok (.iload_n 1, 1) := by decide +kernel
theorem dX12_turns_16 : decode cX12_turns 16 = .ok (.iaload, 1) := by decide +kernel
theorem dX12_turns_17 : decode cX12_turns 17 = .ok (.aload_n 0, 1) := by decide +kernel
theorem dX12_turns_18 : decode cX12_turns 18 = .ok (.getfield 53, 3) := by decide +kernel
theorem dX12_turns_21 : decode cX12_turns 21 = .ok (.iload_n 1, 1) := by decide +kernel
theorem dX12_turns_22 : decode cX12_turns 22 = .ok (.iconst 1, 1) := by decide +kernel
theorem dX12_turns_23 : decode cX12_turns 23 = .ok (.iadd, 1) := by decide +kernel
theorem dX12_turns_24 : decode cX12_turns 24 = .ok (.iaload, 1) := by decide +kernel
theorem dX12_turns_25 : decode cX12_turns 25 = .ok (.if_icmp .le 9, 3) := by decide +kernel
theorem dX12_turns_28 : decode cX12_turns 28 = .ok (.iinc 1 (-1), 3) := by decide +kernel
theorem dX12_turns_31 : decode cX12_turns 31 = .ok (.goto (-24), 3) := by decide +kernel
theorem dX12_turns_34 : decode cX12_turns 34 = .ok (.iload_n 1, 1) := by decide +kernel
theorem dX12_turns_35 : decode cX12_turns 35 = .ok (.ifCond .ge 5, 3) := by decide +kernel
theorem dX12_turns_38 : decode cX12_turns 38 = .ok (.iconst 0, 1) := by decide +kernel
theorem dX12_turns_39 : decode cX12_turns 39 = .ok (.ireturn, 1) := by decide +kernel
theorem dX12_turns_40 : decode cX12_turns 40 = .ok (.aload_n 0, 1) := by decide +kernel
theorem dX12_turns_41 : decode cX12_turns 41 = .ok (.getfield 109, 3) := by decide +kernel
theorem dX12_turns_44 : decode cX12_turns 44 = .ok (.iconst 1, 1) := by decide +kernel
theorem dX12_turns_45 : decode cX12_turns 45 = .ok (.isub, 1) := by decide +kernel
theorem dX12_turns_46 : decode cX12_turns 46 = .ok (.istore_n 2, 1) := by decide +kernel
theorem dX12_turns_47 : decode cX12_turns 47 = .ok (.aload_n 0, 1) := by decide +kernel
theorem dX12_turns_48 : decode cX12_turns 48 = .ok (.getfield 53, 3) := by decide +kernel
theorem dX12_turns_51 : decode cX12_turns 51 = .ok (.iload_n 2, 1) := by decide +kernel
theorem dX12_turns_52 : decode cX12_turns 52 = .ok (.iaload, 1) := by decide +kernel
theorem dX12_turns_53 : decode cX12_turns 53 = .ok (.aload_n 0, 1) := by decide +kernel
theorem dX12_turns_54 : decode cX12_turns 54 = .ok (.getfield 53, 3) := by decide +kernel
theorem dX12_turns_57 : decode cX12_turns 57 = .ok (.iload_n 1, 1) := by decide +kernel
theorem dX12_turns_58 : decode cX12_turns 58 = .ok (.iaload, 1) := by decide +kernel
theorem dX12_turns_59 : decode cX12_turns 59 = .ok (.if_icmp .ge 9, 3) := by decide +kernel
theorem dX12_turns_62 : decode cX12_turns 62 = .ok (.iinc 2 (-1), 3) := by decide +kernel
theorem dX12_turns_65 : decode cX12_turns 65 = .ok (.goto (-18), 3) := by decide +kernel
theorem dX12_turns_68 : decode cX12_turns 68 = .ok (.aload_n 0, 1) := by decide +kernel
theorem dX12_turns_69 : decode cX12_turns 69 = .ok (.getfield 53, 3) := by decide +kernel
theorem dX12_turns_72 : decode cX12_turns 72 = .ok (.iload_n 1, 1) := by decide +kernel
theorem dX12_turns_73 : decode cX12_turns 73 = .ok (.iaload, 1) := by decide +kernel
theorem dX12_turns_74 : decode cX12_turns 74 = .ok (.istore_n 3, 1) := by decide +kernel
theorem dX12_turns_75 : decode cX12_turns 75 = .ok (.aload_n 0, 1) := by decide +kernel
theorem dX12_turns_76 : decode cX12_turns 76 = .ok (.getfield 53, 3) := by decide +kernel
theorem dX12_turns_79 : decode cX12_turns 79 = .ok (.iload_n 1, 1) := by decide +kernel
theorem dX12_turns_80 : decode cX12_turns 80 = .ok (.aload_n 0, 1) := by decide +kernel
theorem dX12_turns_81 : decode cX12_turns 81 = .ok (.getfield 53, 3) := by decide +kernel
theorem dX12_turns_84 : decode cX12_turns 84 = .ok (.iload_n 2, 1) := by decide +kernel
theorem dX12_turns_85 : decode cX12_turns 85 = .ok (.iaload, 1) := by decide +kernel
theorem dX12_turns_86 : decode cX12_turns 86 = .ok (.iastore, 1) := by decide +kernel
theorem dX12_turns_87 : decode cX12_turns 87 = .ok (.aload_n 0, 1) := by decide +kernel
theorem dX12_turns_88 : decode cX12_turns 88 = .ok (.getfield 53, 3) := by decide +kernel
theorem dX12_turns_91 : decode cX12_turns 91 = .ok (.iload_n 2, 1) := by decide +kernel
theorem dX12_turns_92 : decode cX12_turns 92 = .ok (.iload_n 3, 1) := by decide +kernel
theorem dX12_turns_93 : decode cX12_turns 93 = .ok (.iastore, 1) := by decide +kernel
theorem dX12_turns_94 : decode cX12_turns 94 = .ok (.iload_n 1, 1) := by decide +kernel
theorem dX12_turns_95 : decode cX12_turns 95 = .ok (.iconst 1, 1) := by decide +kernel
theorem dX12_turns_96 : decode cX12_turns 96 = .ok (.iadd, 1) := by decide +kernel
theorem dX12_turns_97 : decode cX12_turns 97 = .ok (.istore 4, 2) := by decide +kernel
theorem dX12_turns_99 : decode cX12_turns 99 = .ok (.aload_n 0, 1) := by decide +kernel
theorem dX12_turns_100 : decode cX12_turns 100 = .ok (.getfield 109, 3) := by decide +kernel
theorem dX12_turns_103 : decode cX12_turns 103 = .ok (.iconst 1, 1) := by decide +kernel
theorem dX12_turns_104 : decode cX12_turns 104 = .ok (.isub, 1) := by decide +kernel
theorem dX12_turns_105 : decode cX12_turns 105 = .ok (.istore 5, 2) := by decide +kernel
theorem dX12_turns_107 : decode cX12_turns 107 = .ok (.iload 4, 2) := by decide +kernel
theorem dX12_turns_109 : decode cX12_turns 109 = .ok (.iload 5, 2) := by decide +kernel
theorem dX12_turns_111 : decode cX12_turns 111 = .ok (.if_icmp .ge 42, 3) := by decide +kernel
theorem dX12_turns_114 : decode cX12_turns 114 = .ok (.aload_n 0, 1) := by decide +kernel
theorem dX12_turns_115 : decode cX12_turns 115 = .ok (.getfield 53, 3) := by decide +kernel
theorem dX12_turns_118 : decode cX12_turns 118 = .ok (.iload 4, 2) := by decide +kernel
theorem dX12_turns_120 : decode cX12_turns 120 = .ok (.iaload, 1) := by decide +kernel
theorem dX12_turns_121 : decode cX12_turns 121 = .ok (.istore_n 3, 1) := by decide +kernel
theorem dX12_turns_122 : decode cX12_turns 122 = .ok (.aload_n 0, 1) := by decide +kernel
theorem dX12_turns_123 : decode cX12_turns 123 = .ok (.getfield 53, 3) := by decide +kernel
theorem dX12_turns_126 : decode cX12_turns 126 = .ok (.iload 4, 2) := by decide +kernel
theorem dX12_turns_128 : decode cX12_turns 128 = .ok (.aload_n 0, 1) := by decide +kernel
theorem dX12_turns_129 : decode cX12_turns 129 = .ok (.getfield 53, 3) := by decide +kernel
theorem dX12_turns_132 : decode cX12_turns 132 = .ok (.iload 5, 2) := by decide +kernel
theorem dX12_turns_134 : decode cX12_turns 134 = .ok (.iaload, 1) := by decide +kernel
theorem dX12_turns_135 : decode cX12_turns 135 = .ok (.iastore, 1) := by decide +kernel
theorem dX12_turns_136 : decode cX12_turns 136 = .ok (.aload_n 0, 1) := by decide +kernel
theorem dX12_turns_137 : decode cX12_turns 137 = .ok (.getfield 53, 3) := by decide +kernel
theorem dX12_turns_140 : decode cX12_turns 140 = .ok (.iload 5, 2) := by decide +kernel
theorem dX12_turns_142 : decode cX12_turns 142 = .ok (.iload_n 3, 1) := by decide +kernel
theorem dX12_turns_143 : decode cX12_turns 143 = .ok (.iastore, 1) := by decide +kernel
theorem dX12_turns_144 : decode cX12_turns 144 = .ok (.iinc 4 1, 3) := by decide +kernel
theorem dX12_turns_147 : decode cX12_turns 147 = .ok (.iinc 5 (-1), 3) := by decide +kernel
theorem dX12_turns_150 : decode cX12_turns 150 = .ok (.goto (-43), 3) := by decide +kernel
theorem dX12_turns_153 : decode cX12_turns 153 = .ok (.iconst 1, 1) := by decide +kernel
theorem dX12_turns_154 : decode cX12_turns 154 = .ok (.ireturn, 1) := by decide +kernel
theorem dX12_seatsNow_0 : decode cX12_seatsNow 0 = .ok (.iconst 0, 1) := by decide +kernel
theorem dX12_seatsNow_1 : decode cX12_seatsNow 1 = .ok (.istore_n 2, 1) := by decide +kernel
theorem dX12_seatsNow_2 : decode cX12_seatsNow 2 = .ok (.iload_n 2, 1) := by decide +kernel
theorem dX12_seatsNow_3 : decode cX12_seatsNow 3 = .ok (.aload_n 0, 1) := by decide +kernel
theorem dX12_seatsNow_4 : decode cX12_seatsNow 4 = .ok (.getfield 109, 3) := by decide +kernel
theorem dX12_seatsNow_7 : decode cX12_seatsNow 7 = .ok (.if_icmp .ge 58, 3) := by decide +kernel
theorem dX12_seatsNow_10 : decode cX12_seatsNow 10 = .ok (.aload_n 0, 1) := by decide +kernel
theorem dX12_seatsNow_11 : decode cX12_seatsNow 11 = .ok (.getfield 53, 3) := by decide +kernel
theorem dX12_seatsNow_14 : decode cX12_seatsNow 14 = .ok (.iload_n 2, 1) := by decide +kernel
theorem dX12_seatsNow_15 : decode cX12_seatsNow 15 = .ok (.iload_n 2, 1) := by decide +kernel
theorem dX12_seatsNow_16 : decode cX12_seatsNow 16 = .ok (.iastore, 1) := by decide +kernel
theorem dX12_seatsNow_17 : decode cX12_seatsNow 17 = .ok (.iconst 0, 1) := by decide +kernel
theorem dX12_seatsNow_18 : decode cX12_seatsNow 18 = .ok (.istore_n 3, 1) := by decide +kernel
theorem dX12_seatsNow_19 : decode cX12_seatsNow 19 = .ok (.iload_n 3, 1) := by decide +kernel
theorem dX12_seatsNow_20 : decode cX12_seatsNow 20 = .ok (.aload_n 0, 1) := by decide +kernel
theorem dX12_seatsNow_21 : decode cX12_seatsNow 21 = .ok (.getfield 109, 3) := by decide +kernel
theorem dX12_seatsNow_24 : decode cX12_seatsNow 24 = .ok (.if_icmp .ge 35, 3) := by decide +kernel
theorem dX12_seatsNow_27 : decode cX12_seatsNow 27 = .ok (.aload_n 0, 1) := by decide +kernel
theorem dX12_seatsNow_28 : decode cX12_seatsNow 28 = .ok (.getfield 56, 3) := by decide +kernel
theorem dX12_seatsNow_31 : decode cX12_seatsNow 31 = .ok (.bipush 10, 2) := by decide +kernel
theorem dX12_seatsNow_33 : decode cX12_seatsNow 33 = .ok (.iload_n 2, 1) := by decide +kernel
theorem dX12_seatsNow_34 : decode cX12_seatsNow 34 = .ok (.imul, 1) := by decide +kernel
theorem dX12_seatsNow_35 : decode cX12_seatsNow 35 = .ok (.iload_n 3, 1) := by decide +kernel
theorem dX12_seatsNow_36 : decode cX12_seatsNow 36 = .ok (.iadd, 1) := by decide +kernel
theorem dX12_seatsNow_37 : decode cX12_seatsNow 37 = .ok (.iload_n 2, 1) := by decide +kernel
theorem dX12_seatsNow_38 : decode cX12_seatsNow 38 = .ok (.iload_n 3, 1) := by decide +kernel
theorem dX12_seatsNow_39 : decode cX12_seatsNow 39 = .ok (.if_icmp .ne 7, 3) := by decide +kernel
theorem dX12_seatsNow_42 : decode cX12_seatsNow 42 = .ok (.iconst 0, 1) := by decide +kernel
theorem dX12_seatsNow_43 : decode cX12_seatsNow 43 = .ok (.goto 9, 3) := by decide +kernel
theorem dX12_seatsNow_46 : decode cX12_seatsNow 46 = .ok (.aload_n 0, 1) := by decide +kernel
theorem dX12_seatsNow_47 : decode cX12_seatsNow 47 = .ok (.iload_n 2, 1) := by decide +kernel
theorem dX12_seatsNow_48 : decode cX12_seatsNow 48 = .ok (.iload_n 3, 1) := by decide +kernel
theorem dX12_seatsNow_49 : decode cX12_seatsNow 49 = .ok (.invokevirtual 181, 3) := by decide +kernel
theorem dX12_seatsNow_52 : decode cX12_seatsNow 52 = .ok (.iastore, 1) := by decide +kernel
theorem dX12_seatsNow_53 : decode cX12_seatsNow 53 = .ok (.iinc 3 1, 3) := by decide +kernel
theorem dX12_seatsNow_56 : decode cX12_seatsNow 56 = .ok (.goto (-37), 3) := by decide +kernel
theorem dX12_seatsNow_59 : decode cX12_seatsNow 59 = .ok (.iinc 2 1, 3) := by decide +kernel
theorem dX12_seatsNow_62 : decode cX12_seatsNow 62 = .ok (.goto (-60), 3) := by decide +kernel
theorem dX12_seatsNow_65 : decode cX12_seatsNow 65 = .ok (.aload_n 0, 1) := by decide +kernel
theorem dX12_seatsNow_66 : decode cX12_seatsNow 66 = .ok (.invokevirtual 200, 3) := by decide +kernel
theorem dX12_seatsNow_69 : decode cX12_seatsNow 69 = .ok (.istore_n 2, 1) := by decide +kernel
theorem dX12_seatsNow_70 : decode cX12_seatsNow 70 = .ok (.iload_n 1, 1) := by decide +kernel
theorem dX12_seatsNow_71 : decode cX12_seatsNow 71 = .ok (.ifCond .ne 5, 3) := by decide +kernel
theorem dX12_seatsNow_74 : decode cX12_seatsNow 74 = .ok (.iload_n 2, 1) := by decide +kernel
theorem dX12_seatsNow_75 : decode cX12_seatsNow 75 = .ok (.ireturn, 1) := by decide +kernel
theorem dX12_seatsNow_76 : decode cX12_seatsNow 76 = .ok (.aload_n 0, 1) := by decide +kernel
theorem dX12_seatsNow_77 : decode cX12_seatsNow 77 = .ok (.getfield 109, 3) := by decide +kernel
theorem dX12_seatsNow_80 : decode cX12_seatsNow 80 = .ok (.bipush 7, 2) := by decide +kernel
theorem dX12_seatsNow_82 : decode cX12_seatsNow 82 = .ok (.if_icmp .le 6, 3) := by decide +kernel
theorem dX12_seatsNow_85 : decode cX12_seatsNow 85 = .ok (.bipush (-4), 2) := by decide +kernel
theorem dX12_seatsNow_87 : decode cX12_seatsNow 87 = .ok (.ireturn, 1) := by decide +kernel
theorem dX12_seatsNow_88 : decode cX12_seatsNow 88 = .ok (.lconst 0, 1) := by decide +kernel
theorem dX12_seatsNow_89 : decode cX12_seatsNow 89 = .ok (.lstore_n 3, 1) := by decide +kernel
theorem dX12_seatsNow_90 : decode cX12_seatsNow 90 = .ok (.lconst 0, 1) := by decide +kernel
theorem dX12_seatsNow_91 : decode cX12_seatsNow 91 = .ok (.lstore 5, 2) := by decide +kernel
theorem dX12_seatsNow_93 : decode cX12_seatsNow 93 = .ok (.iconst 1, 1) := by decide +kernel
theorem dX12_seatsNow_94 : decode cX12_seatsNow 94 = .ok (.istore 7, 2) := by decide +kernel
theorem dX12_seatsNow_96 : decode cX12_seatsNow 96 = .ok (.iload 7, 2) := by decide +kernel
theorem dX12_seatsNow_98 : decode cX12_seatsNow 98 = .ok (.ifCond .eq 34, 3) := by decide +kernel
theorem dX12_seatsNow_101 : decode cX12_seatsNow 101 = .ok (.lload_n 3, 1) := by decide +kernel
theorem dX12_seatsNow_102 : decode cX12_seatsNow 102 = .ok (.lconst 1, 1) := by decide +kernel
theorem dX12_seatsNow_103 : decode cX12_seatsNow 103 = .ok (.ladd, 1) := by decide +kernel
theorem dX12_seatsNow_104 : decode cX12_seatsNow 104 = .ok (.lstore_n 3, 1) := by decide +kernel
theorem dX12_seatsNow_105 : decode cX12_seatsNow 105 = .ok (.lload 5, 2) := by decide +kernel
theorem dX12_seatsNow_107 : decode cX12_seatsNow 107 = .ok (.aload_n 0, 1) := by decide +kernel
theorem dX12_seatsNow_108 : decode cX12_seatsNow 108 = .ok (.invokevirtual 200, 3) := by decide +kernel
theorem dX12_seatsNow_111 : decode cX12_seatsNow 111 = .ok (.iload_n 2, 1) := by decide +kernel
theorem dX12_seatsNow_112 : decode cX12_seatsNow 112 = .ok (.if_icmp .lt 7, 3) := by decide +kernel
theorem dX12_seatsNow_115 : decode cX12_seatsNow 115 = .ok (.lconst 1, 1) := by decide +kernel
theorem dX12_seatsNow_116 : decode cX12_seatsNow 116 = .ok (.goto 4, 3) := by decide +kernel
theorem dX12_seatsNow_119 : decode cX12_seatsNow 119 = .ok (.lconst 0, 1) := by decide +kernel
theorem dX12_seatsNow_120 : decode cX12_seatsNow 120 = .ok (.ladd, 1) := by decide +kernel
theorem dX12_seatsNow_121 : decode cX12_seatsNow 121 = .ok (.lstore 5, 2) := by decide +kernel
theorem dX12_seatsNow_123 : decode cX12_seatsNow 123 = .ok (.aload_n 0, 1) := by decide +kernel
theorem dX12_seatsNow_124 : decode cX12_seatsNow 124 = .ok (.invokevirtual 203, 3) := by decide +kernel
theorem dX12_seatsNow_127 : decode cX12_seatsNow 127 = .ok (.istore 7, 2) := by decide +kernel
theorem dX12_seatsNow_129 : decode cX12_seatsNow 129 = .ok (.goto (-33), 3) := by decide +kernel
theorem dX12_seatsNow_132 : decode cX12_seatsNow 132 = .ok (.ldc2_w 207, 3) := by decide +kernel
theorem dX12_seatsNow_135 : decode cX12_seatsNow 135 = .ok (.lload 5, 2) := by decide +kernel
theorem dX12_seatsNow_137 : decode cX12_seatsNow 137 = .ok (.lmul, 1) := by decide +kernel
theorem dX12_seatsNow_138 : decode cX12_seatsNow 138 = .ok (.lload_n 3, 1) := by decide +kernel
theorem dX12_seatsNow_139 : decode cX12_seatsNow 139 = .ok (.ldiv, 1) := by decide +kernel
theorem dX12_seatsNow_140 : decode cX12_seatsNow 140 = .ok (.l2i, 1) := by decide +kernel
theorem dX12_seatsNow_141 : decode cX12_seatsNow 141 = .ok (.ireturn, 1) := by decide +kernel
theorem dX12_seats_0 : decode cX12_seats 0 = .ok (.iload_n 1, 1) := by decide +kernel
theorem dX12_seats_1 : decode cX12_seats 1 = .ok (.iconst 0, 1) := by decide +kernel
theorem dX12_seats_2 : decode cX12_seats 2 = .ok (.iconst 1, 1) := by decide +kernel
theorem dX12_seats_3 : decode cX12_seats 3 = .ok (.invokestatic 87, 3) := by decide +kernel
theorem dX12_seats_6 : decode cX12_seats 6 = .ok (.ifCond .ne 6, 3) := by decide +kernel
theorem dX12_seats_9 : decode cX12_seats 9 = .ok (.bipush (-2), 2) := by decide +kernel
theorem dX12_seats_11 : decode cX12_seats 11 = .ok (.ireturn, 1) := by decide +kernel
theorem dX12_seats_12 : decode cX12_seats 12 = .ok (.aload_n 0, 1) := by decide +kernel
theorem dX12_seats_13 : decode cX12_seats 13 = .ok (.invokevirtual 131, 3) := by decide +kernel
theorem dX12_seats_16 : decode cX12_seats 16 = .ok (.aload_n 0, 1) := by decide +kernel
theorem dX12_seats_17 : decode cX12_seats 17 = .ok (.iload_n 1, 1) := by decide +kernel
theorem dX12_seats_18 : decode cX12_seats 18 = .ok (.invokevirtual 209, 3) := by decide +kernel
theorem dX12_seats_21 : decode cX12_seats 21 = .ok (.ireturn, 1) := by decide +kernel
theorem dX12_laysPairs_0 : decode cX12_laysPairs 0 = .ok (.iconst 0, 1) := by decide +kernel
theorem dX12_laysPairs_1 : decode cX12_laysPairs 1 = .ok (.istore_n 1, 1) := by decide +kernel
theorem dX12_laysPairs_2 : decode cX12_laysPairs 2 = .ok (.iload_n 1, 1) := by decide +kernel
theorem dX12_laysPairs_3 : decode cX12_laysPairs 3 = .ok (.aload_n 0, 1) := by decide +kernel
theorem dX12_laysPairs_4 : decode cX12_laysPairs 4 = .ok (.getfield 109, 3) := by decide +kernel
theorem dX12_laysPairs_7 : decode cX12_laysPairs 7 = .ok (.if_icmp .ge 56, 3) := by decide +kernel
theorem dX12_laysPairs_10 : decode cX12_laysPairs 10 = .ok (.iconst 0, 1) := by decide +kernel
theorem dX12_laysPairs_11 : decode cX12_laysPairs 11 = .ok (.istore_n 2, 1) := by decide +kernel
theorem dX12_laysPairs_12 : decode cX12_laysPairs 12 = .ok (.iload_n 2, 1) := by decide +kernel
theorem dX12_laysPairs_13 : decode cX12_laysPairs 13 = .ok (.iload_n 1, 1) := by decide +kernel
theorem dX12_laysPairs_14 : decode cX12_laysPairs 14 = .ok (.if_icmp .ge 43, 3) := by decide +kernel
theorem dX12_laysPairs_17 : decode cX12_laysPairs 17 = .ok (.aload_n 0, 1) := by decide +kernel
theorem dX12_laysPairs_18 : decode cX12_laysPairs 18 = .ok (.getfield 59, 3) := by decide +kernel
theorem dX12_laysPairs_21 : decode cX12_laysPairs 21 = .ok (.bipush 10, 2) := by decide +kernel
theorem dX12_laysPairs_23 : decode cX12_laysPairs 23 = .ok (.iload_n 1, 1) := by decide +kernel
theorem dX12_laysPairs_24 : decode cX12_laysPairs 24 = .ok (.imul, 1) := by decide +kernel
theorem dX12_laysPairs_25 : decode cX12_laysPairs 25 = .ok (.iload_n 2, 1) := by decide +kernel
theorem dX12_laysPairs_26 : decode cX12_laysPairs 26 = .ok (.iadd, 1) := by decide +kernel
theorem dX12_laysPairs_27 : decode cX12_laysPairs 27 = .ok (.aload_n 0, 1) := by decide +kernel
theorem dX12_laysPairs_28 : decode cX12_laysPairs 28 = .ok (.iload_n 1, 1) := by decide +kernel
theorem dX12_laysPairs_29 : decode cX12_laysPairs 29 = .ok (.iload_n 2, 1) := by decide +kernel
theorem dX12_laysPairs_30 : decode cX12_laysPairs 30 = .ok (.invokevirtual 141, 3) := by decide +kernel
theorem dX12_laysPairs_33 : decode cX12_laysPairs 33 = .ok (.ifCond .eq 16, 3) := by decide +kernel
theorem dX12_laysPairs_36 : decode cX12_laysPairs 36 = .ok (.aload_n 0, 1) := by decide +kernel
theorem dX12_laysPairs_37 : decode cX12_laysPairs 37 = .ok (.iload_n 1, 1) := by decide +kernel
theorem dX12_laysPairs_38 : decode cX12_laysPairs 38 = .ok (.iload_n 2, 1) := by decide +kernel
theorem dX12_laysPairs_39 : decode cX12_laysPairs 39 = .ok (.invokevirtual 189, 3) := by decide +kernel
theorem dX12_laysPairs_42 : decode cX12_laysPairs 42 = .ok (.ifCond .eq 7, 3) := by decide +kernel
theorem dX12_laysPairs_45 : decode cX12_laysPairs 45 = .ok (.iconst 1, 1) := by decide +kernel
theorem dX12_laysPairs_46 : decode cX12_laysPairs 46 = .ok (.goto 4, 3) := by decide +kernel
theorem dX12_laysPairs_49 : decode cX12_laysPairs 49 = .ok (.iconst 0, 1) := by decide +kernel
theorem dX12_laysPairs_50 : decode cX12_laysPairs 50 = .ok (.iastore, 1) := by decide +kernel
theorem dX12_laysPairs_51 : decode cX12_laysPairs 51 = .ok (.iinc 2 1, 3) := by decide +kernel
theorem dX12_laysPairs_54 : decode cX12_laysPairs 54 = .ok (.goto (-42), 3) := by decide +kernel
theorem dX12_laysPairs_57 : decode cX12_laysPairs 57 = .ok (.iinc 1 1, 3) := by decide +kernel
theorem dX12_laysPairs_60 : decode cX12_laysPairs 60 = .ok (.goto (-58), 3) := by decide +kernel
theorem dX12_laysPairs_63 : decode cX12_laysPairs 63 = .ok (.return_, 1) := by decide +kernel
theorem dX12_isPair_0 : decode cX12_isPair 0 = .ok (.iload_n 1, 1) := by decide +kernel
theorem dX12_isPair_1 : decode cX12_isPair 1 = .ok (.iload_n 2, 1) := by decide +kernel
theorem dX12_isPair_2 : decode cX12_isPair 2 = .ok (.if_icmp .le 26, 3) := by decide +kernel
theorem dX12_isPair_5 : decode cX12_isPair 5 = .ok (.aload_n 0, 1) := by decide +kernel
theorem dX12_isPair_6 : decode cX12_isPair 6 = .ok (.getfield 59, 3) := by decide +kernel
theorem dX12_isPair_9 : decode cX12_isPair 9 = .ok (.bipush 10, 2) := by decide +kernel
theorem dX12_isPair_11 : decode cX12_isPair 11 = .ok (.iload_n 1, 1) := by decide +kernel
theorem dX12_isPair_12 : decode cX12_isPair 12 = .ok (.imul, 1) := by decide +kernel
theorem dX12_isPair_13 : decode cX12_isPair 13 = .ok (.iload_n 2, 1) := by decide +kernel
theorem dX12_isPair_14 : decode cX12_isPair 14 = .ok (.iadd, 1) := by decide +kernel
theorem dX12_isPair_15 : decode cX12_isPair 15 = .ok (.iaload, 1) := by decide +kernel
theorem dX12_isPair_16 : decode cX12_isPair 16 = .ok (.iconst 1, 1) := by decide +kernel
theorem dX12_isPair_17 : decode cX12_isPair 17 = .ok (.if_icmp .ne 7, 3) := by decide +kernel
theorem dX12_isPair_20 : decode cX12_isPair 20 = .ok (.iconst 1, 1) := by decide +kernel
theorem dX12_isPair_21 : decode cX12_isPair 21 = .ok (.goto 32, 3) := by decide +kernel
theorem dX12_isPair_24 : decode cX12_isPair 24 = .ok (.iconst 0, 1) := by decide +kernel
theorem dX12_isPair_25 : decode cX12_isPair 25 = .ok (.goto 28, 3) := by decide +kernel
theorem dX12_isPair_28 : decode cX12_isPair 28 = .ok (.iload_n 1, 1) := by decide +kernel
theorem dX12_isPair_29 : decode cX12_isPair 29 = .ok (.iload_n 2, 1) := by decide +kernel
theorem dX12_isPair_30 : decode cX12_isPair 30 = .ok (.if_icmp .ge 22, 3) := by decide +kernel
theorem dX12_isPair_33 : decode cX12_isPair 33 = .ok (.aload_n 0, 1) := by decide +kernel
theorem dX12_isPair_34 : decode cX12_isPair 34 = .ok (.getfield 59, 3) := by decide +kernel
theorem dX12_isPair_37 : decode cX12_isPair 37 = .ok (.bipush 10, 2) := by decide +kernel
theorem dX12_isPair_39 : decode cX12_isPair 39 = .ok (.iload_n 2, 1) := by decide +kernel
theorem dX12_isPair_40 : decode cX12_isPair 40 = .ok (.imul, 1) := by decide +kernel
theorem dX12_isPair_41 : decode cX12_isPair 41 = .ok (.iload_n 1, 1) := by decide +kernel
theorem dX12_isPair_42 : decode cX12_isPair 42 = .ok (.iadd, 1) := by decide +kernel
theorem dX12_isPair_43 : decode cX12_isPair 43 = .ok (.iaload, 1) := by decide +kernel
theorem dX12_isPair_44 : decode cX12_isPair 44 = .ok (.iconst 1, 1) := by decide +kernel
theorem dX12_isPair_45 : decode cX12_isPair 45 = .ok (.if_icmp .ne 7, 3) := by decide +kernel
theorem dX12_isPair_48 : decode cX12_isPair 48 = .ok (.iconst 1, 1) := by decide +kernel
theorem dX12_isPair_49 : decode cX12_isPair 49 = .ok (.goto 4, 3) := by decide +kernel
theorem dX12_isPair_52 : decode cX12_isPair 52 = .ok (.iconst 0, 1) := by decide +kernel
theorem dX12_isPair_53 : decode cX12_isPair 53 = .ok (.ireturn, 1) := by decide +kernel
theorem dX12_sourcesNow_0 : decode cX12_sourcesNow 0 = .ok (.aload_n 0, 1) := by decide +kernel
theorem dX12_sourcesNow_1 : decode cX12_sourcesNow 1 = .ok (.invokevirtual 212, 3) := by decide +kernel
theorem dX12_sourcesNow_4 : decode cX12_sourcesNow 4 = .ok (.iconst (-1), 1) := by decide +kernel
theorem dX12_sourcesNow_5 : decode cX12_sourcesNow 5 = .ok (.istore_n 1, 1) := by decide +kernel
theorem dX12_sourcesNow_6 : decode cX12_sourcesNow 6 = .ok (.iconst 0, 1) := by decide +kernel
theorem dX12_sourcesNow_7 : decode cX12_sourcesNow 7 = .ok (.istore_n 2, 1) := by decide +kernel
theorem dX12_sourcesNow_8 : decode cX12_sourcesNow 8 = .ok (.iload_n 2, 1) := by decide +kernel
theorem dX12_sourcesNow_9 : decode cX12_sourcesNow 9 = .ok (.iconst 1, 1) := by decide +kernel
theorem dX12_sourcesNow_10 : decode cX12_sourcesNow 10 = .ok (.aload_n 0, 1) := by decide +kernel
theorem dX12_sourcesNow_11 : decode cX12_sourcesNow 11 = .ok (.getfield 109, 3) := by decide +kernel
theorem dX12_sourcesNow_14 : decode cX12_sourcesNow 14 = .ok (.ishl, 1) := by decide +kernel
theorem dX12_sourcesNow_15 : decode cX12_sourcesNow 15 = .ok (.if_icmp .ge 118, 3) := by decide +kernel
theorem dX12_sourcesNow_18 : decode cX12_sourcesNow 18 = .ok (.iload_n 1, 1) := by decide +kernel
theorem dX12_sourcesNow_19 : decode cX12_sourcesNow 19 = .ok (.iconst (-1), 1) := by decide +kernel
theorem dX12_sourcesNow_20 : decode cX12_sourcesNow 20 = .ok (.if_icmp .eq 14, 3) := by decide +kernel
theorem dX12_sourcesNow_23 : decode cX12_sourcesNow 23 = .ok (.iload_n 2, 1) := by decide +kernel
theorem dX12_sourcesNow_24 : decode cX12_sourcesNow 24 = .ok (.invokestatic 215, 3) := by decide +kernel
theorem dX12_sourcesNow_27 : decode cX12_sourcesNow 27 = .ok (.iload_n 1, 1) := by decide +kernel
theorem dX12_sourcesNow_28 : decode cX12_sourcesNow 28 = .ok (.invokestatic 215, 3) := by decide +kernel
theorem dX12_sourcesNow_31 : decode cX12_sourcesNow 31 = .ok (.if_icmp .ge 7, 3) := by decide +kernel
theorem dX12_sourcesNow_34 : decode cX12_sourcesNow 34 = .ok (.iconst 1, 1) := by decide +kernel
theorem dX12_sourcesNow_35 : decode cX12_sourcesNow 35 = .ok (.goto 4, 3) := by decide +kernel
theorem dX12_sourcesNow_38 : decode cX12_sourcesNow 38 = .ok (.iconst 0, 1) := by decide +kernel
theorem dX12_sourcesNow_39 : decode cX12_sourcesNow 39 = .ok (.istore_n 3, 1) := by decide +kernel
theorem dX12_sourcesNow_40 : decode cX12_sourcesNow 40 = .ok (.iconst 0, 1) := by decide +kernel
theorem dX12_sourcesNow_41 : decode cX12_sourcesNow 41 = .ok (.istore 4, 2) := by decide +kernel
theorem dX12_sourcesNow_43 : decode cX12_sourcesNow 43 = .ok (.iload 4, 2) := by decide +kernel
theorem dX12_sourcesNow_45 : decode cX12_sourcesNow 45 = .ok (.aload_n 0, 1) := by decide +kernel
theorem dX12_sourcesNow_46 : decode cX12_sourcesNow 46 = .ok (.getfield 109, 3) := by decide +kernel
theorem dX12_sourcesNow_49 : decode cX12_sourcesNow 49 = .ok (.if_icmp .ge 68, 3) := by decide +kernel
theorem dX12_sourcesNow_52 : decode cX12_sourcesNow 52 = .ok (.iload_n 3, 1) := by decide +kernel
theorem dX12_sourcesNow_53 : decode cX12_sourcesNow 53 = .ok (.ifCond .eq 64, 3) := by decide +kernel
theorem dX12_sourcesNow_56 : decode cX12_sourcesNow 56 = .ok (.iconst 0, 1) := by decide +kernel
theorem dX12_sourcesNow_57 : decode cX12_sourcesNow 57 = .ok (.istore 5, 2) := by decide +kernel
theorem dX12_sourcesNow_59 : decode cX12_sourcesNow 59 = .ok (.iload 5, 2) := by decide +kernel
theorem dX12_sourcesNow_61 : decode cX12_sourcesNow 61 = .ok (.iload 4, 2) := by decide +kernel
theorem dX12_sourcesNow_63 : decode cX12_sourcesNow 63 = .ok (.if_icmp .ge 48, 3) := by decide +kernel
theorem dX12_sourcesNow_66 : decode cX12_sourcesNow 66 = .ok (.iload_n 3, 1) := by decide +kernel
theorem dX12_sourcesNow_67 : decode cX12_sourcesNow 67 = .ok (.ifCond .eq 36, 3) := by decide +kernel
theorem dX12_sourcesNow_70 : decode cX12_sourcesNow 70 = .ok (.aload_n 0, 1) := by decide +kernel
theorem dX12_sourcesNow_71 : decode cX12_sourcesNow 71 = .ok (.iload 4, 2) := by decide +kernel
theorem dX12_sourcesNow_73 : decode cX12_sourcesNow 73 = .ok (.iload 5, 2) := by decide +kernel
theorem dX12_sourcesNow_75 : decode cX12_sourcesNow 75 = .ok (.invokevirtual 218, 3) := by decide +kernel
theorem dX12_sourcesNow_78 : decode cX12_sourcesNow 78 = .ok (.ifCond .eq 21, 3) := by decide +kernel
theorem dX12_sourcesNow_81 : decode cX12_sourcesNow 81 = .ok (.iload_n 2, 1) := by decide +kernel
theorem dX12_sourcesNow_82 : decode cX12_sourcesNow 82 = .ok (.iload 4, 2) := by decide +kernel
theorem dX12_sourcesNow_84 : decode cX12_sourcesNow 84 = .ok (.invokestatic 221, 3) := by decide +kernel
theorem dX12_sourcesNow_87 : decode cX12_sourcesNow 87 = .ok (.ifCond .ne 12, 3) := by decide +kernel
theorem dX12_sourcesNow_90 : decode cX12_sourcesNow 90 = .ok (.iload_n 2, 1) := by decide +kernel
theorem dX12_sourcesNow_91 : decode cX12_sourcesNow 91 = .ok (.iload 5, 2) := by decide +kernel
theorem dX12_sourcesNow_93 : decode cX12_sourcesNow 93 = .ok (.invokestatic 221, 3) := by decide +kernel
theorem dX12_sourcesNow_96 : decode cX12_sourcesNow 96 = .ok (.ifCond .eq 7, 3) := by decide +kernel
theorem dX12_sourcesNow_99 : decode cX12_sourcesNow 99 = .ok (.iconst 1, 1) := by decide +kernel
theorem dX12_sourcesNow_100 : decode cX12_sourcesNow 100 = .ok (.goto 4, 3) := by decide +kernel
theorem dX12_sourcesNow_103 : decode cX12_sourcesNow 103 = .ok (.iconst 0, 1) := by decide +kernel
theorem dX12_sourcesNow_104 : decode cX12_sourcesNow 104 = .ok (.istore_n 3, 1) := by decide +kernel
theorem dX12_sourcesNow_105 : decode cX12_sourcesNow 105 = .ok (.iinc 5 1, 3) := by decide +kernel
theorem dX12_sourcesNow_108 : decode cX12_sourcesNow 108 = .ok (.goto (-49), 3) := by decide +kernel
theorem dX12_sourcesNow_111 : decode cX12_sourcesNow 111 = .ok (.iinc 4 1, 3) := by decide +kernel
theorem dX12_sourcesNow_114 : decode cX12_sourcesNow 114 = .ok (.goto (-71), 3) := by decide +kernel
theorem dX12_sourcesNow_117 : decode cX12_sourcesNow 117 = .ok (.iload_n 3, 1) := by decide +kernel
theorem dX12_sourcesNow_118 : decode cX12_sourcesNow 118 = .ok (.ifCond .eq 7, 3) := by decide +kernel
theorem dX12_sourcesNow_121 : decode cX12_sourcesNow 121 = .ok (.iload_n 2, 1) := by decide +kernel
theorem dX12_sourcesNow_122 : decode cX12_sourcesNow 122 = .ok (.goto 4, 3) := by decide +kernel
theorem dX12_sourcesNow_125 : decode cX12_sourcesNow 125 = .ok (.iload_n 1, 1) := by decide +kernel
theorem dX12_sourcesNow_126 : decode cX12_sourcesNow 126 = .ok (.istore_n 1, 1) := by decide +kernel
theorem dX12_sourcesNow_127 : decode cX12_sourcesNow 127 = .ok (.iinc 2 1, 3) := by decide +kernel
theorem dX12_sourcesNow_130 : decode cX12_sourcesNow 130 = .ok (.goto (-122), 3) := by decide +kernel
theorem dX12_sourcesNow_133 : decode cX12_sourcesNow 133 = .ok (.iload_n 1, 1) := by decide +kernel
theorem dX12_sourcesNow_134 : decode cX12_sourcesNow 134 = .ok (.ireturn, 1) := by decide +kernel
theorem dX12_sources_0 : decode cX12_sources 0 = .ok (.aload_n 0, 1) := by decide +kernel
theorem dX12_sources_1 : decode cX12_sources 1 = .ok (.invokevirtual 131, 3) := by decide +kernel
theorem dX12_sources_4 : decode cX12_sources 4 = .ok (.aload_n 0, 1) := by decide +kernel
theorem dX12_sources_5 : decode cX12_sources 5 = .ok (.invokevirtual 224, 3) := by decide +kernel
theorem dX12_sources_8 : decode cX12_sources 8 = .ok (.ireturn, 1) := by decide +kernel
theorem dX12_gave_0 : decode cX12_gave 0 = .ok (.aload_n 0, 1) := by decide +kernel
theorem dX12_gave_1 : decode cX12_gave 1 = .ok (.iload_n 1, 1) := by decide +kernel
theorem dX12_gave_2 : decode cX12_gave 2 = .ok (.iconst (-1), 1) := by decide +kernel
theorem dX12_gave_3 : decode cX12_gave 3 = .ok (.invokevirtual 147, 3) := by decide +kernel
theorem dX12_gave_6 : decode cX12_gave 6 = .ok (.istore_n 3, 1) := by decide +kernel
theorem dX12_gave_7 : decode cX12_gave 7 = .ok (.aload_n 0, 1) := by decide +kernel
theorem dX12_gave_8 : decode cX12_gave 8 = .ok (.iload_n 2, 1) := by decide +kernel
theorem dX12_gave_9 : decode cX12_gave 9 = .ok (.iconst (-1), 1) := by decide +kernel
theorem dX12_gave_10 : decode cX12_gave 10 = .ok (.invokevirtual 147, 3) := by decide +kernel
theorem dX12_gave_13 : decode cX12_gave 13 = .ok (.istore 4, 2) := by decide +kernel
theorem dX12_gave_15 : decode cX12_gave 15 = .ok (.iload_n 3, 1) := by decide +kernel
theorem dX12_gave_16 : decode cX12_gave 16 = .ok (.iload 4, 2) := by decide +kernel
theorem dX12_gave_18 : decode cX12_gave 18 = .ok (.if_icmp .le 7, 3) := by decide +kernel
theorem dX12_gave_21 : decode cX12_gave 21 = .ok (.iload_n 1, 1) := by decide +kernel
theorem dX12_gave_22 : decode cX12_gave 22 = .ok (.goto 52, 3) := by decide +kernel
theorem dX12_gave_25 : decode cX12_gave 25 = .ok (.iload 4, 2) := by decide +kernel
theorem dX12_gave_27 : decode cX12_gave 27 = .ok (.iload_n 3, 1) := by decide +kernel
theorem dX12_gave_28 : decode cX12_gave 28 = .ok (.if_icmp .le 7, 3) := by decide +kernel
theorem dX12_gave_31 : decode cX12_gave 31 = .ok (.iload_n 2, 1) := by decide +kernel
theorem dX12_gave_32 : decode cX12_gave 32 = .ok (.goto 42, 3) := by decide +kernel
theorem dX12_gave_35 : decode cX12_gave 35 = .ok (.aload_n 0, 1) := by decide +kernel
theorem dX12_gave_36 : decode cX12_gave 36 = .ok (.getfield 40, 3) := by decide +kernel
theorem dX12_gave_39 : decode cX12_gave 39 = .ok (.iload_n 1, 1) := by decide +kernel
theorem dX12_gave_40 : decode cX12_gave 40 = .ok (.iaload, 1) := by decide +kernel
theorem dX12_gave_41 : decode cX12_gave 41 = .ok (.aload_n 0, 1) := by decide +kernel
theorem dX12_gave_42 : decode cX12_gave 42 = .ok (.getfield 40, 3) := by decide +kernel
theorem dX12_gave_45 : decode cX12_gave 45 = .ok (.iload_n 2, 1) := by decide +kernel
theorem dX12_gave_46 : decode cX12_gave 46 = .ok (.iaload, 1) := by decide +kernel
theorem dX12_gave_47 : decode cX12_gave 47 = .ok (.if_icmp .ge 7, 3) := by decide +kernel
theorem dX12_gave_50 : decode cX12_gave 50 = .ok (.iload_n 1, 1) := by decide +kernel
theorem dX12_gave_51 : decode cX12_gave 51 = .ok (.goto 23, 3) := by decide +kernel
theorem dX12_gave_54 : decode cX12_gave 54 = .ok (.aload_n 0, 1) := by decide +kernel
theorem dX12_gave_55 : decode cX12_gave 55 = .ok (.getfield 40, 3) := by decide +kernel
theorem dX12_gave_58 : decode cX12_gave 58 = .ok (.iload_n 2, 1) := by decide +kernel
theorem dX12_gave_59 : decode cX12_gave 59 = .ok (.iaload, 1) := by decide +kernel
theorem dX12_gave_60 : decode cX12_gave 60 = .ok (.aload_n 0, 1) := by decide +kernel
theorem dX12_gave_61 : decode cX12_gave 61 = .ok (.getfield 40, 3) := by decide +kernel
theorem dX12_gave_64 : decode cX12_gave 64 = .ok (.iload_n 1, 1) := by decide +kernel
theorem dX12_gave_65 : decode cX12_gave 65 = .ok (.iaload, 1) := by decide +kernel
theorem dX12_gave_66 : decode cX12_gave 66 = .ok (.if_icmp .ge 7, 3) := by decide +kernel
theorem dX12_gave_69 : decode cX12_gave 69 = .ok (.iload_n 2, 1) := by decide +kernel
theorem dX12_gave_70 : decode cX12_gave 70 = .ok (.goto 4, 3) := by decide +kernel
theorem dX12_gave_73 : decode cX12_gave 73 = .ok (.iconst (-1), 1) := by decide +kernel
theorem dX12_gave_74 : decode cX12_gave 74 = .ok (.ireturn, 1) := by decide +kernel
theorem dX12_from_0 : decode cX12_from 0 = .ok (.aload_n 0, 1) := by decide +kernel
theorem dX12_from_1 : decode cX12_from 1 = .ok (.iload_n 1, 1) := by decide +kernel
theorem dX12_from_2 : decode cX12_from 2 = .ok (.iload_n 2, 1) := by decide +kernel
theorem dX12_from_3 : decode cX12_from 3 = .ok (.invokevirtual 137, 3) := by decide +kernel
theorem dX12_from_6 : decode cX12_from 6 = .ok (.ifCond .ne 6, 3) := by decide +kernel
theorem dX12_from_9 : decode cX12_from 9 = .ok (.bipush (-2), 2) := by decide +kernel
theorem dX12_from_11 : decode cX12_from 11 = .ok (.ireturn, 1) := by decide +kernel
theorem dX12_from_12 : decode cX12_from 12 = .ok (.aload_n 0, 1) := by decide +kernel
theorem dX12_from_13 : decode cX12_from 13 = .ok (.invokevirtual 131, 3) := by decide +kernel
theorem dX12_from_16 : decode cX12_from 16 = .ok (.aload_n 0, 1) := by decide +kernel
theorem dX12_from_17 : decode cX12_from 17 = .ok (.iload_n 1, 1) := by decide +kernel
theorem dX12_from_18 : decode cX12_from 18 = .ok (.iload_n 2, 1) := by decide +kernel
theorem dX12_from_19 : decode cX12_from 19 = .ok (.invokevirtual 141, 3) := by decide +kernel
theorem dX12_from_22 : decode cX12_from 22 = .ok (.ifCond .eq 21, 3) := by decide +kernel
theorem dX12_from_25 : decode cX12_from 25 = .ok (.aload_n 0, 1) := by decide +kernel
theorem dX12_from_26 : decode cX12_from 26 = .ok (.iload_n 1, 1) := by decide +kernel
theorem dX12_from_27 : decode cX12_from 27 = .ok (.iload_n 2, 1) := by decide +kernel
theorem dX12_from_28 : decode cX12_from 28 = .ok (.invokevirtual 189, 3) := by decide +kernel
theorem dX12_from_31 : decode cX12_from 31 = .ok (.ifCond .eq 12, 3) := by decide +kernel
theorem dX12_from_34 : decode cX12_from 34 = .ok (.aload_n 0, 1) := by decide +kernel
theorem dX12_from_35 : decode cX12_from 35 = .ok (.iload_n 1, 1) := by decide +kernel
theorem dX12_from_36 : decode cX12_from 36 = .ok (.iload_n 2, 1) := by decide +kernel
theorem dX12_from_37 : decode cX12_from 37 = .ok (.invokevirtual 227, 3) := by decide +kernel
theorem dX12_from_40 : decode cX12_from 40 = .ok (.goto 5, 3) := by decide +kernel
theorem dX12_from_43 : decode cX12_from 43 = .ok (.bipush (-3), 2) := by decide +kernel
theorem dX12_from_45 : decode cX12_from 45 = .ok (.ireturn, 1) := by decide +kernel
theorem dX12_chainNow_0 : decode cX12_chainNow 0 = .ok (.aload_n 0, 1) := by decide +kernel
theorem dX12_chainNow_1 : decode cX12_chainNow 1 = .ok (.invokevirtual 212, 3) := by decide +kernel
theorem dX12_chainNow_4 : decode cX12_chainNow 4 = .ok (.iconst 0, 1) := by decide +kernel
theorem dX12_chainNow_5 : decode cX12_chainNow 5 = .ok (.istore_n 1, 1) := by decide +kernel
theorem dX12_chainNow_6 : decode cX12_chainNow 6 = .ok (.iconst 0, 1) := by decide +kernel
theorem dX12_chainNow_7 : decode cX12_chainNow 7 = .ok (.istore_n 2, 1) := by decide +kernel
theorem dX12_chainNow_8 : decode cX12_chainNow 8 = .ok (.iload_n 2, 1) := by decide +kernel
theorem dX12_chainNow_9 : decode cX12_chainNow 9 = .ok (.aload_n 0, 1) := by decide +kernel
theorem dX12_chainNow_10 : decode cX12_chainNow 10 = .ok (.getfield 109, 3) := by decide +kernel
theorem dX12_chainNow_13 : decode cX12_chainNow 13 = .ok (.if_icmp .ge 18, 3) := by decide +kernel
theorem dX12_chainNow_16 : decode cX12_chainNow 16 = .ok (.aload_n 0, 1) := by decide +kernel
theorem dX12_chainNow_17 : decode cX12_chainNow 17 = .ok (.getfield 62, 3) := by decide +kernel
theorem dX12_chainNow_20 : decode cX12_chainNow 20 = .ok (.iload_n 2, 1) := by decide +kernel
theorem dX12_chainNow_21 : decode cX12_chainNow 21 = .ok (.iconst 1, 1) := by decide +kernel
theorem dX12_chainNow_22 : decode cX12_chainNow 22 = .ok (.iastore, 1) := by decide +kernel
theorem dX12_chainNow_23 : decode cX12_chainNow 23 = .ok (.iconst 1, 1) := by decide +kernel
theorem dX12_chainNow_24 : decode cX12_chainNow 24 = .ok (.istore_n 1, 1) := by decide +kernel
theorem dX12_chainNow_25 : decode cX12_chainNow 25 = .ok (.iinc 2 1, 3) := by decide +kernel
theorem dX12_chainNow_28 : decode cX12_chainNow 28 = .ok (.goto (-20), 3) := by decide +kernel
theorem dX12_chainNow_31 : decode cX12_chainNow 31 = .ok (.iconst 0, 1) := by decide +kernel
theorem dX12_chainNow_32 : decode cX12_chainNow 32 = .ok (.istore_n 2, 1) := by decide +kernel
theorem dX12_chainNow_33 : decode cX12_chainNow 33 = .ok (.iload_n 2, 1) := by decide +kernel
theorem dX12_chainNow_34 : decode cX12_chainNow 34 = .ok (.aload_n 0, 1) := by decide +kernel
theorem dX12_chainNow_35 : decode cX12_chainNow 35 = .ok (.getfield 109, 3) := by decide +kernel
theorem dX12_chainNow_38 : decode cX12_chainNow 38 = .ok (.if_icmp .ge 120, 3) := by decide +kernel
theorem dX12_chainNow_41 : decode cX12_chainNow 41 = .ok (.iconst 0, 1) := by decide +kernel
theorem dX12_chainNow_42 : decode cX12_chainNow 42 = .ok (.istore_n 3, 1) := by decide +kernel
theorem dX12_chainNow_43 : decode cX12_chainNow 43 = .ok (.iload_n 3, 1) := by decide +kernel
theorem dX12_chainNow_44 : decode cX12_chainNow 44 = .ok (.aload_n 0, 1) := by decide +kernel
theorem dX12_chainNow_45 : decode cX12_chainNow 45 = .ok (.getfield 109, 3) := by decide +kernel
theorem dX12_chainNow_48 : decode cX12_chainNow 48 = .ok (.if_icmp .ge 104, 3) := by decide +kernel
theorem dX12_chainNow_51 : decode cX12_chainNow 51 = .ok (.iconst 0, 1) := by decide +kernel
theorem dX12_chainNow_52 : decode cX12_chainNow 52 = .ok (.istore 4, 2) := by decide +kernel
theorem dX12_chainNow_54 : decode cX12_chainNow 54 = .ok (.iload 4, 2) := by decide +kernel
theorem dX12_chainNow_56 : decode cX12_chainNow 56 = .ok (.aload_n 0, 1) := by decide +kernel
theorem dX12_chainNow_57 : decode cX12_chainNow 57 = .ok (.getfield 109, 3) := by decide +kernel
theorem dX12_chainNow_60 : decode cX12_chainNow 60 = .ok (.if_icmp .ge 86, 3) := by decide +kernel
theorem dX12_chainNow_63 : decode cX12_chainNow 63 = .ok (.aload_n 0, 1) := by decide +kernel
theorem dX12_chainNow_64 : decode cX12_chainNow 64 = .ok (.iload_n 3, 1) := by decide +kernel
theorem dX12_chainNow_65 : decode cX12_chainNow 65 = .ok (.iload 4, 2) := by decide +kernel
theorem dX12_chainNow_67 : decode cX12_chainNow 67 = .ok (.invokevirtual 218, 3) := by decide +kernel
theorem dX12_chainNow_70 : decode cX12_chainNow 70 = .ok (.ifCond .eq 70, 3) := by decide +kernel
theorem dX12_chainNow_73 : decode cX12_chainNow 73 = .ok (.aload_n 0, 1) := by decide +kernel
theorem dX12_chainNow_74 : decode cX12_chainNow 74 = .ok (.iload_n 3, 1) := by decide +kernel
theorem dX12_chainNow_75 : decode cX12_chainNow 75 = .ok (.iload 4, 2) := by decide +kernel
theorem dX12_chainNow_77 : decode cX12_chainNow 77 = .ok (.invokevirtual 227, 3) := by decide +kernel
theorem dX12_chainNow_80 : decode cX12_chainNow 80 = .ok (.iload_n 3, 1) := by decide +kernel
theorem dX12_chainNow_81 : decode cX12_chainNow 81 = .ok (.if_icmp .ne 59, 3) := by decide +kernel
theorem dX12_chainNow_84 : decode cX12_chainNow 84 = .ok (.aload_n 0, 1) := by decide +kernel
theorem dX12_chainNow_85 : decode cX12_chainNow 85 = .ok (.getfield 62, 3) := by decide +kernel
theorem dX12_chainNow_88 : decode cX12_chainNow 88 = .ok (.iload_n 3, 1) := by decide +kernel
theorem dX12_chainNow_89 : decode cX12_chainNow 89 = .ok (.iaload, 1) := by decide +kernel
theorem dX12_chainNow_90 : decode cX12_chainNow 90 = .ok (.iconst 1, 1) := by decide +kernel
theorem dX12_chainNow_91 : decode cX12_chainNow 91 = .ok (.iadd, 1) := by decide +kernel
theorem dX12_chainNow_92 : decode cX12_chainNow 92 = .ok (.aload_n 0, 1) := by decide +kernel
theorem dX12_chainNow_93 : decode cX12_chainNow 93 = .ok (.getfield 62, 3) := by decide +kernel
theorem dX12_chainNow_96 : decode cX12_chainNow 96 = .ok (.iload 4, 2) := by decide +kernel
theorem dX12_chainNow_98 : decode cX12_chainNow 98 = .ok (.iaload, 1) := by decide +kernel
theorem dX12_chainNow_99 : decode cX12_chainNow 99 = .ok (.if_icmp .le 41, 3) := by decide +kernel
theorem dX12_chainNow_102 : decode cX12_chainNow 102 = .ok (.aload_n 0, 1) := by decide +kernel
theorem dX12_chainNow_103 : decode cX12_chainNow 103 = .ok (.getfield 62, 3) := by decide +kernel
theorem dX12_chainNow_106 : decode cX12_chainNow 106 = .ok (.iload 4, 2) := by decide +kernel
theorem dX12_chainNow_108 : decode cX12_chainNow 108 = .ok (.aload_n 0, 1) := by decide +kernel
theorem dX12_chainNow_109 : decode cX12_chainNow 109 = .ok (.getfield 62, 3) := by decide +kernel
theorem dX12_chainNow_112 : decode cX12_chainNow 112 = .ok (.iload_n 3, 1) := by decide +kernel
theorem dX12_chainNow_113 : decode cX12_chainNow 113 = .ok (.iaload, 1) := by decide +kernel
theorem dX12_chainNow_114 : decode cX12_chainNow 114 = .ok (.iconst 1, 1) := by decide +kernel
theorem dX12_chainNow_115 : decode cX12_chainNow 115 = .ok (.iadd, 1) := by decide +kernel
theorem dX12_chainNow_116 : decode cX12_chainNow 116 = .ok (.iastore, 1) := by decide +kernel
theorem dX12_chainNow_117 : decode cX12_chainNow 117 = .ok (.aload_n 0, 1) := by decide +kernel
theorem dX12_chainNow_118 : decode cX12_chainNow 118 = .ok (.getfield 62, 3) := by decide +kernel
theorem dX12_chainNow_121 : decode cX12_chainNow 121 = .ok (.iload 4, 2) := by decide +kernel
theorem dX12_chainNow_123 : decode cX12_chainNow 123 = .ok (.iaload, 1) := by decide +kernel
theorem dX12_chainNow_124 : decode cX12_chainNow 124 = .ok (.iload_n 1, 1) := by decide +kernel
theorem dX12_chainNow_125 : decode cX12_chainNow 125 = .ok (.if_icmp .le 13, 3) := by decide +kernel
theorem dX12_chainNow_128 : decode cX12_chainNow 128 = .ok (.aload_n 0, 1) := by decide +kernel
theorem dX12_chainNow_129 : decode cX12_chainNow 129 = .ok (.getfield 62, 3) := by decide +kernel
theorem dX12_chainNow_132 : decode cX12_chainNow 132 = .ok (.iload 4, 2) := by decide +kernel
theorem dX12_chainNow_134 : decode cX12_chainNow 134 = .ok (.iaload, 1) := by decide +kernel
theorem dX12_chainNow_135 : decode cX12_chainNow 135 = .ok (.goto 4, 3) := by decide +kernel
theorem dX12_chainNow_138 : decode cX12_chainNow 138 = .ok (.iload_n 1, 1) := by decide +kernel
theorem dX12_chainNow_139 : decode cX12_chainNow 139 = .ok (.istore_n 1, 1) := by decide +kernel
theorem dX12_chainNow_140 : decode cX12_chainNow 140 = .ok (.iinc 4 1, 3) := by decide +kernel
theorem dX12_chainNow_143 : decode cX12_chainNow 143 = .ok (.goto (-89), 3) := by decide +kernel
theorem dX12_chainNow_146 : decode cX12_chainNow 146 = .ok (.iinc 3 1, 3) := by decide +kernel
theorem dX12_chainNow_149 : decode cX12_chainNow 149 = .ok (.goto (-106), 3) := by decide +kernel
theorem dX12_chainNow_152 : decode cX12_chainNow 152 = .ok (.iinc 2 1, 3) := by decide +kernel
theorem dX12_chainNow_155 : decode cX12_chainNow 155 = .ok (.goto (-122), 3) := by decide +kernel
theorem dX12_chainNow_158 : decode cX12_chainNow 158 = .ok (.iload_n 1, 1) := by decide +kernel
theorem dX12_chainNow_159 : decode cX12_chainNow 159 = .ok (.ireturn, 1) := by decide +kernel
theorem dX12_chain_0 : decode cX12_chain 0 = .ok (.aload_n 0, 1) := by decide +kernel
theorem dX12_chain_1 : decode cX12_chain 1 = .ok (.invokevirtual 131, 3) := by decide +kernel
theorem dX12_chain_4 : decode cX12_chain 4 = .ok (.aload_n 0, 1) := by decide +kernel
theorem dX12_chain_5 : decode cX12_chain 5 = .ok (.invokevirtual 230, 3) := by decide +kernel
theorem dX12_chain_8 : decode cX12_chain 8 = .ok (.ireturn, 1) := by decide +kernel
theorem dX12_rubbedOf_0 : decode cX12_rubbedOf 0 = .ok (.iload_n 2, 1) := by decide +kernel
theorem dX12_rubbedOf_1 : decode cX12_rubbedOf 1 = .ok (.ifCond .ne 12, 3) := by decide +kernel
theorem dX12_rubbedOf_4 : decode cX12_rubbedOf 4 = .ok (.aload_n 0, 1) := by decide +kernel
theorem dX12_rubbedOf_5 : decode cX12_rubbedOf 5 = .ok (.getfield 40, 3) := by decide +kernel
theorem dX12_rubbedOf_8 : decode cX12_rubbedOf 8 = .ok (.iload_n 1, 1) := by decide +kernel
theorem dX12_rubbedOf_9 : decode cX12_rubbedOf 9 = .ok (.iaload, 1) := by decide +kernel
theorem dX12_rubbedOf_10 : decode cX12_rubbedOf 10 = .ok (.goto 23, 3) := by decide +kernel
theorem dX12_rubbedOf_13 : decode cX12_rubbedOf 13 = .ok (.iload_n 2, 1) := by decide +kernel
theorem dX12_rubbedOf_14 : decode cX12_rubbedOf 14 = .ok (.iconst 1, 1) := by decide +kernel
theorem dX12_rubbedOf_15 : decode cX12_rubbedOf 15 = .ok (.if_icmp .ne 12, 3) := by decide +kernel
theorem dX12_rubbedOf_18 : decode cX12_rubbedOf 18 = .ok (.aload_n 0, 1) := by decide +kernel
theorem dX12_rubbedOf_19 : decode cX12_rubbedOf 19 = .ok (.getfield 43, 3) := by decide +kernel
theorem dX12_rubbedOf_22 : decode cX12_rubbedOf 22 = .ok (.iload_n 1, 1) := by decide +kernel
theorem dX12_rubbedOf_23 : decode cX12_rubbedOf 23 = .ok (.iaload, 1) := by decide +kernel
theorem dX12_rubbedOf_24 : decode cX12_rubbedOf 24 = .ok (.goto 9, 3) := by decide +kernel
theorem dX12_rubbedOf_27 : decode cX12_rubbedOf 27 = .ok (.aload_n 0, 1) := by decide +kernel
theorem dX12_rubbedOf_28 : decode cX12_rubbedOf 28 = .ok (.getfield 46, 3) := by decide +kernel
theorem dX12_rubbedOf_31 : decode cX12_rubbedOf 31 = .ok (.iload_n 1, 1) := by decide +kernel
theorem dX12_rubbedOf_32 : decode cX12_rubbedOf 32 = .ok (.iaload, 1) := by decide +kernel
theorem dX12_rubbedOf_33 : decode cX12_rubbedOf 33 = .ok (.ireturn, 1) := by decide +kernel
theorem dX12_rubbed_0 : decode cX12_rubbed 0 = .ok (.aload_n 0, 1) := by decide +kernel
theorem dX12_rubbed_1 : decode cX12_rubbed 1 = .ok (.iload_n 1, 1) := by decide +kernel
theorem dX12_rubbed_2 : decode cX12_rubbed 2 = .ok (.invokevirtual 115, 3) := by decide +kernel
theorem dX12_rubbed_5 : decode cX12_rubbed 5 = .ok (.ifCond .eq 12, 3) := by decide +kernel
theorem dX12_rubbed_8 : decode cX12_rubbed 8 = .ok (.iload_n 2, 1) := by decide +kernel
theorem dX12_rubbed_9 : decode cX12_rubbed 9 = .ok (.iconst 0, 1) := by decide +kernel
theorem dX12_rubbed_10 : decode cX12_rubbed 10 = .ok (.iconst 2, 1) := by decide +kernel
theorem dX12_rubbed_11 : decode cX12_rubbed 11 = .ok (.invokestatic 87, 3) := by decide +kernel
theorem dX12_rubbed_14 : decode cX12_rubbed 14 = .ok (.ifCond .ne 6, 3) := by decide +kernel
theorem dX12_rubbed_17 : decode cX12_rubbed 17 = .ok (.bipush (-2), 2) := by decide +kernel
theorem dX12_rubbed_19 : decode cX12_rubbed 19 = .ok (.ireturn, 1) := by decide +kernel
theorem dX12_rubbed_20 : decode cX12_rubbed 20 = .ok (.aload_n 0, 1) := by decide +kernel
theorem dX12_rubbed_21 : decode cX12_rubbed 21 = .ok (.invokevirtual 131, 3) := by decide +kernel
theorem dX12_rubbed_24 : decode cX12_rubbed 24 = .ok (.aload_n 0, 1) := by decide +kernel
theorem dX12_rubbed_25 : decode cX12_rubbed 25 = .ok (.iload_n 1, 1) := by decide +kernel
theorem dX12_rubbed_26 : decode cX12_rubbed 26 = .ok (.iload_n 2, 1) := by decide +kernel
theorem dX12_rubbed_27 : decode cX12_rubbed 27 = .ok (.invokevirtual 233, 3) := by decide +kernel
theorem dX12_rubbed_30 : decode cX12_rubbed 30 = .ok (.ireturn, 1) := by decide +kernel
theorem dX12_gainsNow_0 : decode cX12_gainsNow 0 = .ok (.iconst 0, 1) := by decide +kernel
theorem dX12_gainsNow_1 : decode cX12_gainsNow 1 = .ok (.istore_n 3, 1) := by decide +kernel
theorem dX12_gainsNow_2 : decode cX12_gainsNow 2 = .ok (.iconst 0, 1) := by decide +kernel
theorem dX12_gainsNow_3 : decode cX12_gainsNow 3 = .ok (.istore 4, 2) := by decide +kernel
theorem dX12_gainsNow_5 : decode cX12_gainsNow 5 = .ok (.iconst 0, 1) := by decide +kernel
theorem dX12_gainsNow_6 : decode cX12_gainsNow 6 = .ok (.istore 5, 2) := by decide +kernel
theorem dX12_gainsNow_8 : decode cX12_gainsNow 8 = .ok (.iconst 0, 1) := by decide +kernel
theorem dX12_gainsNow_9 : decode cX12_gainsNow 9 = .ok (.istore 6, 2) := by decide +kernel
theorem dX12_gainsNow_11 : decode cX12_gainsNow 11 = .ok (.iconst 0, 1) := by decide +kernel
theorem dX12_gainsNow_12 : decode cX12_gainsNow 12 = .ok (.istore 7, 2) := by decide +kernel
theorem dX12_gainsNow_14 : decode cX12_gainsNow 14 = .ok (.iload 7, 2) := by decide +kernel
theorem dX12_gainsNow_16 : decode cX12_gainsNow 16 = .ok (.aload_n 0, 1) := by decide +kernel
theorem dX12_gainsNow_17 : decode cX12_gainsNow 17 = .ok (.getfield 109, 3) := by decide +kernel
theorem dX12_gainsNow_20 : decode cX12_gainsNow 20 = .ok (.if_icmp .ge 81, 3) := by decide +kernel
theorem dX12_gainsNow_23 : decode cX12_gainsNow 23 = .ok (.iload_n 3, 1) := by decide +kernel
theorem dX12_gainsNow_24 : decode cX12_gainsNow 24 = .ok (.aload_n 0, 1) := by decide +kernel
theorem dX12_gainsNow_25 : decode cX12_gainsNow 25 = .ok (.getfield 40, 3) := by decide +kernel
theorem dX12_gainsNow_28 : decode cX12_gainsNow 28 = .ok (.iload 7, 2) := by decide +kernel
theorem dX12_gainsNow_30 : decode cX12_gainsNow 30 = .ok (.iaload, 1) := by decide +kernel
theorem dX12_gainsNow_31 : decode cX12_gainsNow 31 = .ok (.iadd, 1) := by decide +kernel
theorem dX12_gainsNow_32 : decode cX12_gainsNow 32 = .ok (.istore_n 3, 1) := by decide +kernel
theorem dX12_gainsNow_33 : decode cX12_gainsNow 33 = .ok (.iload 4, 2) := by decide +kernel
theorem dX12_gainsNow_35 : decode cX12_gainsNow 35 = .ok (.aload_n 0, 1) := by decide +kernel
theorem dX12_gainsNow_36 : decode cX12_gainsNow 36 = .ok (.getfield 43, 3) := by decide +kernel
theorem dX12_gainsNow_39 : decode cX12_gainsNow 39 = .ok (.iload 7, 2) := by decide +kernel
theorem dX12_gainsNow_41 : decode cX12_gainsNow 41 = .ok (.iaload, 1) := by decide +kernel
theorem dX12_gainsNow_42 : decode cX12_gainsNow 42 = .ok (.iadd, 1) := by decide +kernel
theorem dX12_gainsNow_43 : decode cX12_gainsNow 43 = .ok (.istore 4, 2) := by decide +kernel
theorem dX12_gainsNow_45 : decode cX12_gainsNow 45 = .ok (.iload 5, 2) := by decide +kernel
theorem dX12_gainsNow_47 : decode cX12_gainsNow 47 = .ok (.iload_n 1, 1) := by decide +kernel
theorem dX12_gainsNow_48 : decode cX12_gainsNow 48 = .ok (.iload 7, 2) := by decide +kernel
theorem dX12_gainsNow_50 : decode cX12_gainsNow 50 = .ok (.invokestatic 221, 3) := by decide +kernel
theorem dX12_gainsNow_53 : decode cX12_gainsNow 53 = .ok (.ifCond .eq 13, 3) := by decide +kernel
theorem dX12_gainsNow_56 : decode cX12_gainsNow 56 = .ok (.aload_n 0, 1) := by decide +kernel
theorem dX12_gainsNow_57 : decode cX12_gainsNow 57 = .ok (.getfield 40, 3) := by decide +kernel
theorem dX12_gainsNow_60 : decode cX12_gainsNow 60 = .ok (.iload 7, 2) := by decide +kernel
theorem dX12_gainsNow_62 : decode cX12_gainsNow 62 = .ok (.iaload, 1) := by decide +kernel
theorem dX12_gainsNow_63 : decode cX12_gainsNow 63 = .ok (.goto 4, 3) := by decide +kernel
theorem dX12_gainsNow_66 : decode cX12_gainsNow 66 = .ok (.iconst 0, 1) := by decide +kernel
theorem dX12_gainsNow_67 : decode cX12_gainsNow 67 = .ok (.iadd, 1) := by decide +kernel
theorem dX12_gainsNow_68 : decode cX12_gainsNow 68 = .ok (.istore 5, 2) := by decide +kernel
theorem dX12_gainsNow_70 : decode cX12_gainsNow 70 = .ok (.iload 6, 2) := by decide +kernel
theorem dX12_gainsNow_72 : decode cX12_gainsNow 72 = .ok (.iload_n 1, 1) := by decide +kernel
theorem dX12_gainsNow_73 : decode cX12_gainsNow 73 = .ok (.iload 7, 2) := by decide +kernel
theorem dX12_gainsNow_75 : decode cX12_gainsNow 75 = .ok (.invokestatic 221, 3) := by decide +kernel
theorem dX12_gainsNow_78 : decode cX12_gainsNow 78 = .ok (.ifCond .eq 13, 3) := by decide +kernel
theorem dX12_gainsNow_81 : decode cX12_gainsNow 81 = .ok (.aload_n 0, 1) := by decide +kernel
theorem dX12_gainsNow_82 : decode cX12_gainsNow 82 = .ok (.getfield 43, 3) := by decide +kernel
theorem dX12_gainsNow_85 : decode cX12_gainsNow 85 = .ok (.iload 7, 2) := by decide +kernel
theorem dX12_gainsNow_87 : decode cX12_gainsNow 87 = .ok (.iaload, 1) := by decide +kernel
theorem dX12_gainsNow_88 : decode cX12_gainsNow 88 = .ok (.goto 4, 3) := by decide +kernel
theorem dX12_gainsNow_91 : decode cX12_gainsNow 91 = .ok (.iconst 0, 1) := by decide +kernel
theorem dX12_gainsNow_92 : decode cX12_gainsNow 92 = .ok (.iadd, 1) := by decide +kernel
theorem dX12_gainsNow_93 : decode cX12_gainsNow 93 = .ok (.istore 6, 2) := by decide +kernel
theorem dX12_gainsNow_95 : decode cX12_gainsNow 95 = .ok (.iinc 7 1, 3) := by decide +kernel
theorem dX12_gainsNow_98 : decode cX12_gainsNow 98 = .ok (.goto (-84), 3) := by decide +kernel
theorem dX12_gainsNow_101 : decode cX12_gainsNow 101 = .ok (.iload_n 3, 1) := by decide +kernel
theorem dX12_gainsNow_102 : decode cX12_gainsNow 102 = .ok (.bipush 60, 2) := by decide +kernel
theorem dX12_gainsNow_104 : decode cX12_gainsNow 104 = .ok (.if_icmp .le 9, 3) := by decide +kernel
theorem dX12_gainsNow_107 : decode cX12_gainsNow 107 = .ok (.bipush (-4), 2) := by decide +kernel
theorem dX12_gainsNow_109 : decode cX12_gainsNow 109 = .ok (.invokestatic 192, 3) := by decide +kernel
theorem dX12_gainsNow_112 : decode cX12_gainsNow 112 = .ok (.lreturn, 1) := by decide +kernel
theorem dX12_gainsNow_113 : decode cX12_gainsNow 113 = .ok (.lconst 0, 1) := by decide +kernel
theorem dX12_gainsNow_114 : decode cX12_gainsNow 114 = .ok (.lstore 7, 2) := by decide +kernel
theorem dX12_gainsNow_116 : decode cX12_gainsNow 116 = .ok (.iload 6, 2) := by decide +kernel
theorem dX12_gainsNow_118 : decode cX12_gainsNow 118 = .ok (.istore 9, 2) := by decide +kernel
theorem dX12_gainsNow_120 : decode cX12_gainsNow 120 = .ok (.iload 9, 2) := by decide +kernel
theorem dX12_gainsNow_122 : decode cX12_gainsNow 122 = .ok (.iload 5, 2) := by decide +kernel
theorem dX12_gainsNow_124 : decode cX12_gainsNow 124 = .ok (.if_icmp .gt 34, 3) := by decide +kernel
theorem dX12_gainsNow_127 : decode cX12_gainsNow 127 = .ok (.lload 7, 2) := by decide +kernel
theorem dX12_gainsNow_129 : decode cX12_gainsNow 129 = .ok (.iload 4, 2) := by decide +kernel
theorem dX12_gainsNow_131 : decode cX12_gainsNow 131 = .ok (.iload 9, 2) := by decide +kernel
theorem dX12_gainsNow_133 : decode cX12_gainsNow 133 = .ok (.invokestatic 236, 3) := by decide +kernel
theorem dX12_gainsNow_136 : decode cX12_gainsNow 136 = .ok (.iload_n 3, 1) := by decide +kernel
theorem dX12_gainsNow_137 : decode cX12_gainsNow 137 = .ok (.iload 4, 2) := by decide +kernel
theorem dX12_gainsNow_139 : decode cX12_gainsNow 139 = .ok (.isub, 1) := by decide +kernel
theorem dX12_gainsNow_140 : decode cX12_gainsNow 140 = .ok (.iload 5, 2) := by decide +kernel
theorem dX12_gainsNow_142 : decode cX12_gainsNow 142 = .ok (.iload 9, 2) := by decide +kernel
theorem dX12_gainsNow_144 : decode cX12_gainsNow 144 = .ok (.isub, 1) := by decide +kernel
theorem dX12_gainsNow_145 : decode cX12_gainsNow 145 = .ok (.invokestatic 236, 3) := by decide +kernel
theorem dX12_gainsNow_148 : decode cX12_gainsNow 148 = .ok (.lmul, 1) := by decide +kernel
theorem dX12_gainsNow_149 : decode cX12_gainsNow 149 = .ok (.ladd, 1) := by decide +kernel
theorem dX12_gainsNow_150 : decode cX12_gainsNow 150 = .ok (.lstore 7, 2) := by decide +kernel
theorem dX12_gainsNow_152 : decode cX12_gainsNow 152 = .ok (.iinc 9 1, 3) := by decide +kernel
theorem dX12_gainsNow_155 : decode cX12_gainsNow 155 = .ok (.goto (-35), 3) := by decide +kernel
theorem dX12_gainsNow_158 : decode cX12_gainsNow 158 = .ok (.lload 7, 2) := by decide +kernel
theorem dX12_gainsNow_160 : decode cX12_gainsNow 160 = .ok (.iload_n 3, 1) := by decide +kernel
theorem dX12_gainsNow_161 : decode cX12_gainsNow 161 = .ok (.iload 5, 2) := by decide +kernel
theorem dX12_gainsNow_163 : decode cX12_gainsNow 163 = .ok (.invokestatic 236, 3) := by decide +kernel
theorem dX12_gainsNow_166 : decode cX12_gainsNow 166 = .ok (.iload_n 2, 1) := by decide +kernel
theorem dX12_gainsNow_167 : decode cX12_gainsNow 167 = .ok (.invokestatic 196, 3) := by decide +kernel
theorem dX12_gainsNow_170 : decode cX12_gainsNow 170 = .ok (.lreturn, 1) := by decide +kernel
theorem dX12_gains_0 : decode cX12_gains 0 = .ok (.iload_n 1, 1) := by decide +kernel
theorem dX12_gains_1 : decode cX12_gains 1 = .ok (.iconst 0, 1) := by decide +kernel
theorem dX12_gains_2 : decode cX12_gains 2 = .ok (.sipush 1023, 3) := by decide +kernel
theorem dX12_gains_5 : decode cX12_gains 5 = .ok (.invokestatic 87, 3) := by decide +kernel
theorem dX12_gains_8 : decode cX12_gains 8 = .ok (.ifCond .eq 12, 3) := by decide +kernel
theorem dX12_gains_11 : decode cX12_gains 11 = .ok (.iload_n 2, 1) := by decide +kernel
theorem dX12_gains_12 : decode cX12_gains 12 = .ok (.iconst 0, 1) := by decide +kernel
theorem dX12_gains_13 : decode cX12_gains 13 = .ok (.iconst 1, 1) := by decide +kernel
theorem dX12_gains_14 : decode cX12_gains 14 = .ok (.invokestatic 87, 3) := by decide +kernel
theorem dX12_gains_17 : decode cX12_gains 17 = .ok (.ifCond .ne 9, 3) := by decide +kernel
theorem dX12_gains_20 : decode cX12_gains 20 = .ok (.bipush (-2), 2) := by decide +kernel
theorem dX12_gains_22 : decode cX12_gains 22 = .ok (.invokestatic 192, 3) := by decide +kernel
theorem dX12_gains_25 : decode cX12_gains 25 = .ok (.lreturn, 1) := by decide +kernel
theorem dX12_gains_26 : decode cX12_gains 26 = .ok (.aload_n 0, 1) := by decide +kernel
theorem dX12_gains_27 : decode cX12_gains 27 = .ok (.invokevirtual 131, 3) := by decide +kernel
theorem dX12_gains_30 : decode cX12_gains 30 = .ok (.aload_n 0, 1) := by decide +kernel
theorem dX12_gains_31 : decode cX12_gains 31 = .ok (.iload_n 1, 1) := by decide +kernel
theorem dX12_gains_32 : decode cX12_gains 32 = .ok (.iload_n 2, 1) := by decide +kernel
theorem dX12_gains_33 : decode cX12_gains 33 = .ok (.invokevirtual 240, 3) := by decide +kernel
theorem dX12_gains_36 : decode cX12_gains 36 = .ok (.lreturn, 1) := by decide +kernel
theorem dX12_countOf_0 : decode cX12_countOf 0 = .ok (.iconst 0, 1) := by decide +kernel
theorem dX12_countOf_1 : decode cX12_countOf 1 = .ok (.istore 4, 2) := by decide +kernel
theorem dX12_countOf_3 : decode cX12_countOf 3 = .ok (.iconst 0, 1) := by decide +kernel
theorem dX12_countOf_4 : decode cX12_countOf 4 = .ok (.istore 5, 2) := by decide +kernel
theorem dX12_countOf_6 : decode cX12_countOf 6 = .ok (.iload 5, 2) := by decide +kernel
theorem dX12_countOf_8 : decode cX12_countOf 8 = .ok (.aload_n 0, 1) := by decide +kernel
theorem dX12_countOf_9 : decode cX12_countOf 9 = .ok (.getfield 109, 3) := by decide +kernel
theorem dX12_countOf_12 : decode cX12_countOf 12 = .ok (.if_icmp .ge 44, 3) := by decide +kernel
theorem dX12_countOf_15 : decode cX12_countOf 15 = .ok (.iload 4, 2) := by decide +kernel
theorem dX12_countOf_17 : decode cX12_countOf 17 = .ok (.iload_n 1, 1) := by decide +kernel
theorem dX12_countOf_18 : decode cX12_countOf 18 = .ok (.iload 5, 2) := by decide +kernel
theorem dX12_countOf_20 : decode cX12_countOf 20 = .ok (.invokestatic 221, 3) := by decide +kernel
theorem dX12_countOf_23 : decode cX12_countOf 23 = .ok (.iload_n 2, 1) := by decide +kernel
theorem dX12_countOf_24 : decode cX12_countOf 24 = .ok (.if_icmp .ne 22, 3) := by decide +kernel
theorem dX12_countOf_27 : decode cX12_countOf 27 = .ok (.iload_n 3, 1) := by decide +kernel
theorem dX12_countOf_28 : decode cX12_countOf 28 = .ok (.iconst (-1), 1) := by decide +kernel
theorem dX12_countOf_29 : decode cX12_countOf 29 = .ok (.if_icmp .eq 13, 3) := by decide +kernel
theorem dX12_countOf_32 : decode cX12_countOf 32 = .ok (.aload_n 0, 1) := by decide +kernel
theorem dX12_countOf_33 : decode cX12_countOf 33 = .ok (.iload 5, 2) := by decide +kernel
theorem dX12_countOf_35 : decode cX12_countOf 35 = .ok (.iload_n 3, 1) := by decide +kernel
theorem dX12_countOf_36 : decode cX12_countOf 36 = .ok (.invokevirtual 144, 3) := by decide +kernel
theorem dX12_countOf_39 : decode cX12_countOf 39 = .ok (.ifCond .eq 7, 3) := by decide +kernel
theorem dX12_countOf_42 : decode cX12_countOf 42 = .ok (.iconst 1, 1) := by decide +kernel
theorem dX12_countOf_43 : decode cX12_countOf 43 = .ok (.goto 4, 3) := by decide +kernel
theorem dX12_countOf_46 : decode cX12_countOf 46 = .ok (.iconst 0, 1) := by decide +kernel
theorem dX12_countOf_47 : decode cX12_countOf 47 = .ok (.iadd, 1) := by decide +kernel
theorem dX12_countOf_48 : decode cX12_countOf 48 = .ok (.istore 4, 2) := by decide +kernel
theorem dX12_countOf_50 : decode cX12_countOf 50 = .ok (.iinc 5 1, 3) := by decide +kernel
theorem dX12_countOf_53 : decode cX12_countOf 53 = .ok (.goto (-47), 3) := by decide +kernel
theorem dX12_countOf_56 : decode cX12_countOf 56 = .ok (.iload 4, 2) := by decide +kernel
theorem dX12_countOf_58 : decode cX12_countOf 58 = .ok (.ireturn, 1) := by decide +kernel
theorem dX12_known_0 : decode cX12_known 0 = .ok (.iload_n 1, 1) := by decide +kernel
theorem dX12_known_1 : decode cX12_known 1 = .ok (.iconst 1, 1) := by decide +kernel
theorem dX12_known_2 : decode cX12_known 2 = .ok (.sipush 1023, 3) := by decide +kernel
theorem dX12_known_5 : decode cX12_known 5 = .ok (.invokestatic 87, 3) := by decide +kernel
theorem dX12_known_8 : decode cX12_known 8 = .ok (.ifCond .eq 23, 3) := by decide +kernel
theorem dX12_known_11 : decode cX12_known 11 = .ok (.aload_n 0, 1) := by decide +kernel
theorem dX12_known_12 : decode cX12_known 12 = .ok (.iload_n 1, 1) := by decide +kernel
theorem dX12_known_13 : decode cX12_known 13 = .ok (.iconst 1, 1) := by decide +kernel
theorem dX12_known_14 : decode cX12_known 14 = .ok (.iconst (-1), 1) := by decide +kernel
theorem dX12_known_15 : decode cX12_known 15 = .ok (.invokevirtual 243, 3) := by decide +kernel
theorem dX12_known_18 : decode cX12_known 18 = .ok (.ifCond .eq 13, 3) := by decide +kernel
theorem dX12_known_21 : decode cX12_known 21 = .ok (.iload_n 2, 1) := by decide +kernel
theorem dX12_known_22 : decode cX12_known 22 = .ok (.iconst 0, 1) := by decide +kernel
theorem dX12_known_23 : decode cX12_known 23 = .ok (.bipush 100, 2) := by decide +kernel
theorem dX12_known_25 : decode cX12_known 25 = .ok (.invokestatic 87, 3) := by decide +kernel
theorem dX12_known_28 : decode cX12_known 28 = .ok (.ifCond .ne 6, 3) := by decide +kernel
theorem dX12_known_31 : decode cX12_known 31 = .ok (.bipush (-2), 2) := by decide +kernel
theorem dX12_known_33 : decode cX12_known 33 = .ok (.ireturn, 1) := by decide +kernel
theorem dX12_known_34 : decode cX12_known 34 = .ok (.aload_n 0, 1) := by decide +kernel
theorem dX12_known_35 : decode cX12_known 35 = .ok (.invokevirtual 131, 3) := by decide +kernel
theorem dX12_known_38 : decode cX12_known 38 = .ok (.iconst 0, 1) := by decide +kernel
theorem dX12_known_39 : decode cX12_known 39 = .ok (.istore_n 3, 1) := by decide +kernel
theorem dX12_known_40 : decode cX12_known 40 = .ok (.iconst 0, 1) := by decide +kernel
theorem dX12_known_41 : decode cX12_known 41 = .ok (.istore 4, 2) := by decide +kernel
theorem dX12_known_43 : decode cX12_known 43 = .ok (.iload 4, 2) := by decide +kernel
theorem dX12_known_45 : decode cX12_known 45 = .ok (.aload_n 0, 1) := by decide +kernel
theorem dX12_known_46 : decode cX12_known 46 = .ok (.getfield 81, 3) := by decide +kernel
theorem dX12_known_49 : decode cX12_known 49 = .ok (.if_icmp .ge 83, 3) := by decide +kernel
theorem dX12_known_52 : decode cX12_known 52 = .ok (.aload_n 0, 1) := by decide +kernel
theorem dX12_known_53 : decode cX12_known 53 = .ok (.getfield 13, 3) := by decide +kernel
theorem dX12_known_56 : decode cX12_known 56 = .ok (.iload 4, 2) := by decide +kernel
theorem dX12_known_58 : decode cX12_known 58 = .ok (.iaload, 1) := by decide +kernel
theorem dX12_known_59 : decode cX12_known 59 = .ok (.ifCond .eq 25, 3) := by decide +kernel
theorem dX12_known_62 : decode cX12_known 62 = .ok (.aload_n 0, 1) := by decide +kernel
theorem dX12_known_63 : decode cX12_known 63 = .ok (.iload_n 1, 1) := by decide +kernel
theorem dX12_known_64 : decode cX12_known 64 = .ok (.iconst 1, 1) := by decide +kernel
theorem dX12_known_65 : decode cX12_known 65 = .ok (.iload 4, 2) := by decide +kernel
theorem dX12_known_67 : decode cX12_known 67 = .ok (.invokevirtual 243, 3) := by decide +kernel
theorem dX12_known_70 : decode cX12_known 70 = .ok (.aload_n 0, 1) := by decide +kernel
theorem dX12_known_71 : decode cX12_known 71 = .ok (.iload_n 1, 1) := by decide +kernel
theorem dX12_known_72 : decode cX12_known 72 = .ok (.iconst 1, 1) := by decide +kernel
theorem dX12_known_73 : decode cX12_known 73 = .ok (.iconst (-1), 1) := by decide +kernel
theorem dX12_known_74 : decode cX12_known 74 = .ok (.invokevirtual 243, 3) := by decide +kernel
theorem dX12_known_77 : decode cX12_known 77 = .ok (.if_icmp .ne 7, 3) := by decide +kernel
theorem dX12_known_80 : decode cX12_known 80 = .ok (.iconst 1, 1) := by decide +kernel
theorem dX12_known_81 : decode cX12_known 81 = .ok (.goto 4, 3) := by decide +kernel
theorem dX12_known_84 : decode cX12_known 84 = .ok (.iconst 0, 1) := by decide +kernel
theorem dX12_known_85 : decode cX12_known 85 = .ok (.istore 5, 2) := by decide +kernel
theorem dX12_known_87 : decode cX12_known 87 = .ok (.iload_n 3, 1) := by decide +kernel
theorem dX12_known_88 : decode cX12_known 88 = .ok (.iload 5, 2) := by decide +kernel
theorem dX12_known_90 : decode cX12_known 90 = .ok (.ifCond .eq 33, 3) := by decide +kernel
theorem dX12_known_93 : decode cX12_known 93 = .ok (.bipush 100, 2) := by decide +kernel
theorem dX12_known_95 : decode cX12_known 95 = .ok (.aload_n 0, 1) := by decide +kernel
theorem dX12_known_96 : decode cX12_known 96 = .ok (.iload_n 1, 1) := by decide +kernel
theorem dX12_known_97 : decode cX12_known 97 = .ok (.iconst 0, 1) := by decide +kernel
theorem dX12_known_98 : decode cX12_known 98 = .ok (.iload 4, 2) := by decide +kernel
theorem dX12_known_100 : decode cX12_known 100 = .ok (.invokevirtual 243, 3) := by decide +kernel
theorem dX12_known_103 : decode cX12_known 103 = .ok (.imul, 1) := by decide +kernel
theorem dX12_known_104 : decode cX12_known 104 = .ok (.iload_n 2, 1) := by decide +kernel
theorem dX12_known_105 : decode cX12_known 105 = .ok (.aload_n 0, 1) := by decide +kernel
theorem dX12_known_106 : decode cX12_known 106 = .ok (.iload_n 1, 1) := by decide +kernel
theorem dX12_known_107 : decode cX12_known 107 = .ok (.iconst 0, 1) := by decide +kernel
theorem dX12_known_108 : decode cX12_known 108 = .ok (.iconst (-1), 1) := by decide +kernel
theorem dX12_known_109 : decode cX12_known 109 = .ok (.invokevirtual 243, 3) := by decide +kernel
theorem dX12_known_112 : decode cX12_known 112 = .ok (.imul, 1) := by decide +kernel
theorem dX12_known_113 : decode cX12_known 113 = .ok (.if_icmp .gt 10, 3) := by decide +kernel
theorem dX12_known_116 : decode cX12_known 116 = .ok (.iconst 1, 1) := by decide +kernel
theorem dX12_known_117 : decode cX12_known 117 = .ok (.iload 4, 2) := by decide +kernel
theorem dX12_known_119 : decode cX12_known 119 = .ok (.ishl, 1) := by decide +kernel
theorem dX12_known_120 : decode cX12_known 120 = .ok (.goto 4, 3) := by decide +kernel
theorem dX12_known_123 : decode cX12_known 123 = .ok (.iconst 0, 1) := by decide +kernel
theorem dX12_known_124 : decode cX12_known 124 = .ok (.ior, 1) := by decide +kernel
theorem dX12_known_125 : decode cX12_known 125 = .ok (.istore_n 3, 1) := by decide +kernel
theorem dX12_known_126 : decode cX12_known 126 = .ok (.iinc 4 1, 3) := by decide +kernel
theorem dX12_known_129 : decode cX12_known 129 = .ok (.goto (-86), 3) := by decide +kernel
theorem dX12_known_132 : decode cX12_known 132 = .ok (.iload_n 3, 1) := by decide +kernel
theorem dX12_known_133 : decode cX12_known 133 = .ok (.ireturn, 1) := by decide +kernel
theorem dX12_lead_0 : decode cX12_lead 0 = .ok (.aload_n 0, 1) := by decide +kernel
theorem dX12_lead_1 : decode cX12_lead 1 = .ok (.iload_n 1, 1) := by decide +kernel
theorem dX12_lead_2 : decode cX12_lead 2 = .ok (.invokevirtual 101, 3) := by decide +kernel
theorem dX12_lead_5 : decode cX12_lead 5 = .ok (.ifCond .eq 23, 3) := by decide +kernel
theorem dX12_lead_8 : decode cX12_lead 8 = .ok (.iload_n 2, 1) := by decide +kernel
theorem dX12_lead_9 : decode cX12_lead 9 = .ok (.iconst 0, 1) := by decide +kernel
theorem dX12_lead_10 : decode cX12_lead 10 = .ok (.sipush 1023, 3) := by decide +kernel
theorem dX12_lead_13 : decode cX12_lead 13 = .ok (.invokestatic 87, 3) := by decide +kernel
theorem dX12_lead_16 : decode cX12_lead 16 = .ok (.ifCond .eq 12, 3) := by decide +kernel
theorem dX12_lead_19 : decode cX12_lead 19 = .ok (.iload_n 3, 1) := by decide +kernel
theorem dX12_lead_20 : decode cX12_lead 20 = .ok (.iconst 0, 1) := by decide +kernel
theorem dX12_lead_21 : decode cX12_lead 21 = .ok (.iconst 1, 1) := by decide +kernel
theorem dX12_lead_22 : decode cX12_lead 22 = .ok (.invokestatic 87, 3) := by decide +kernel
theorem dX12_lead_25 : decode cX12_lead 25 = .ok (.ifCond .ne 9, 3) := by decide +kernel
theorem dX12_lead_28 : decode cX12_lead 28 = .ok (.bipush (-2), 2) := by decide +kernel
theorem dX12_lead_30 : decode cX12_lead 30 = .ok (.invokestatic 192, 3) := by decide +kernel
theorem dX12_lead_33 : decode cX12_lead 33 = .ok (.lreturn, 1) := by decide +kernel
theorem dX12_lead_34 : decode cX12_lead 34 = .ok (.aload_n 0, 1) := by decide +kernel
theorem dX12_lead_35 : decode cX12_lead 35 = .ok (.invokevirtual 131, 3) := by decide +kernel
theorem dX12_lead_38 : decode cX12_lead 38 = .ok (.aload_n 0, 1) := by decide +kernel
theorem dX12_lead_39 : decode cX12_lead 39 = .ok (.iload_n 2, 1) := by decide +kernel
theorem dX12_lead_40 : decode cX12_lead 40 = .ok (.iconst 1, 1) := by decide +kernel
theorem dX12_lead_41 : decode cX12_lead 41 = .ok (.iconst (-1), 1) := by decide +kernel
theorem dX12_lead_42 : decode cX12_lead 42 = .ok (.invokevirtual 243, 3) := by decide +kernel
theorem dX12_lead_45 : decode cX12_lead 45 = .ok (.istore 4, 2) := by decide +kernel
theorem dX12_lead_47 : decode cX12_lead 47 = .ok (.aload_n 0, 1) := by decide +kernel
theorem dX12_lead_48 : decode cX12_lead 48 = .ok (.iload_n 2, 1) := by decide +kernel
theorem dX12_lead_49 : decode cX12_lead 49 = .ok (.iconst 0, 1) := by decide +kernel
theorem dX12_lead_50 : decode cX12_lead 50 = .ok (.iconst (-1), 1) := by decide +kernel
theorem dX12_lead_51 : decode cX12_lead 51 = .ok (.invokevirtual 243, 3) := by decide +kernel
theorem dX12_lead_54 : decode cX12_lead 54 = .ok (.istore 5, 2) := by decide +kernel
theorem dX12_lead_56 : decode cX12_lead 56 = .ok (.iload 4, 2) := by decide +kernel
theorem dX12_lead_58 : decode cX12_lead 58 = .ok (.ifCond .eq 17, 3) := by decide +kernel
theorem dX12_lead_61 : decode cX12_lead 61 = .ok (.iload 5, 2) := by decide +kernel
theorem dX12_lead_63 : decode cX12_lead 63 = .ok (.ifCond .eq 12, 3) := by decide +kernel
theorem dX12_lead_66 : decode cX12_lead 66 = .ok (.aload_n 0, 1) := by decide +kernel
theorem dX12_lead_67 : decode cX12_lead 67 = .ok (.getfield 13, 3) := by decide +kernel
theorem dX12_lead_70 : decode cX12_lead 70 = .ok (.iload_n 1, 1) := by decide +kernel
theorem dX12_lead_71 : decode cX12_lead 71 = .ok (.iaload, 1) := by decide +kernel
theorem dX12_lead_72 : decode cX12_lead 72 = .ok (.ifCond .ne 9, 3) := by decide +kernel
theorem dX12_lead_75 : decode cX12_lead 75 = .ok (.bipush (-3), 2) := by decide +kernel
theorem dX12_lead_77 : decode cX12_lead 77 = .ok (.invokestatic 192, 3) := by decide +kernel
theorem dX12_lead_80 : decode cX12_lead 80 = .ok (.lreturn, 1) := by decide +kernel
theorem dX12_lead_81 : decode cX12_lead 81 = .ok (.aload_n 0, 1) := by decide +kernel
theorem dX12_lead_82 : decode cX12_lead 82 = .ok (.iload_n 2, 1) := by decide +kernel
theorem dX12_lead_83 : decode cX12_lead 83 = .ok (.iconst 1, 1) := by decide +kernel
theorem dX12_lead_84 : decode cX12_lead 84 = .ok (.iload_n 1, 1) := by decide +kernel
theorem dX12_lead_85 : decode cX12_lead 85 = .ok (.invokevirtual 243, 3) := by decide +kernel
theorem dX12_lead_88 : decode cX12_lead 88 = .ok (.iload 5, 2) := by decide +kernel
theorem dX12_lead_90 : decode cX12_lead 90 = .ok (.imul, 1) := by decide +kernel
theorem dX12_lead_91 : decode cX12_lead 91 = .ok (.aload_n 0, 1) := by decide +kernel
theorem dX12_lead_92 : decode cX12_lead 92 = .ok (.iload_n 2, 1) := by decide +kernel
theorem dX12_lead_93 : decode cX12_lead 93 = .ok (.iconst 0, 1) := by decide +kernel
theorem dX12_lead_94 : decode cX12_lead 94 = .ok (.iload_n 1, 1) := by decide +kernel
theorem dX12_lead_95 : decode cX12_lead 95 = .ok (.invokevirtual 243, 3) := by decide +kernel
theorem dX12_lead_98 : decode cX12_lead 98 = .ok (.iload 4, 2) := by decide +kernel
theorem dX12_lead_100 : decode cX12_lead 100 = .ok (.imul, 1) := by decide +kernel
theorem dX12_lead_101 : decode cX12_lead 101 = .ok (.isub, 1) := by decide +kernel
theorem dX12_lead_102 : decode cX12_lead 102 = .ok (.i2l, 1) := by decide +kernel
theorem dX12_lead_103 : decode cX12_lead 103 = .ok (.iload 4, 2) := by decide +kernel
theorem dX12_lead_105 : decode cX12_lead 105 = .ok (.iload 5, 2) := by decide +kernel
theorem dX12_lead_107 : decode cX12_lead 107 = .ok (.imul, 1) := by decide +kernel
theorem dX12_lead_108 : decode cX12_lead 108 = .ok (.i2l, 1) := by decide +kernel
theorem dX12_lead_109 : decode cX12_lead 109 = .ok (.iload_n 3, 1) := by decide +kernel
theorem dX12_lead_110 : decode cX12_lead 110 = .ok (.invokestatic 196, 3) := by decide +kernel
theorem dX12_lead_113 : decode cX12_lead 113 = .ok (.lreturn, 1) := by decide +kernel
theorem dX12_choseMany_0 : decode cX12_choseMany 0 = .ok (.iconst 0, 1) := by decide +kernel
theorem dX12_choseMany_1 : decode cX12_choseMany 1 = .ok (.istore_n 3, 1) := by decide +kernel
theorem dX12_choseMany_2 : decode cX12_choseMany 2 = .ok (.iconst 0, 1) := by decide +kernel
theorem dX12_choseMany_3 : decode cX12_choseMany 3 = .ok (.istore 4, 2) := by decide +kernel
theorem dX12_choseMany_5 : decode cX12_choseMany 5 = .ok (.iload 4, 2) := by decide +kernel
theorem dX12_choseMany_7 : decode cX12_choseMany 7 = .ok (.aload_n 0, 1) := by decide +kernel
theorem dX12_choseMany_8 : decode cX12_choseMany 8 = .ok (.getfield 109, 3) := by decide +kernel
theorem dX12_choseMany_11 : decode cX12_choseMany 11 = .ok (.if_icmp .ge 33, 3) := by decide +kernel
theorem dX12_choseMany_14 : decode cX12_choseMany 14 = .ok (.iload_n 3, 1) := by decide +kernel
theorem dX12_choseMany_15 : decode cX12_choseMany 15 = .ok (.aload_n 0, 1) := by decide +kernel
theorem dX12_choseMany_16 : decode cX12_choseMany 16 = .ok (.getfield 37, 3) := by decide +kernel
theorem dX12_choseMany_19 : decode cX12_choseMany 19 = .ok (.bipush 12, 2) := by decide +kernel
theorem dX12_choseMany_21 : decode cX12_choseMany 21 = .ok (.iload 4, 2) := by decide +kernel
theorem dX12_choseMany_23 : decode cX12_choseMany 23 = .ok (.imul, 1) := by decide +kernel
theorem dX12_choseMany_24 : decode cX12_choseMany 24 = .ok (.iload_n 1, 1) := by decide +kernel
theorem dX12_choseMany_25 : decode cX12_choseMany 25 = .ok (.iadd, 1) := by decide +kernel
theorem dX12_choseMany_26 : decode cX12_choseMany 26 = .ok (.iaload, 1) := by decide +kernel
theorem dX12_choseMany_27 : decode cX12_choseMany 27 = .ok (.iload_n 2, 1) := by decide +kernel
theorem dX12_choseMany_28 : decode cX12_choseMany 28 = .ok (.if_icmp .ne 7, 3) := by decide +kernel
theorem dX12_choseMany_31 : decode cX12_choseMany 31 = .ok (.iconst 1, 1) := by decide +kernel
theorem dX12_choseMany_32 : decode cX12_choseMany 32 = .ok (.goto 4, 3) := by decide +kernel
theorem dX12_choseMany_35 : decode cX12_choseMany 35 = .ok (.iconst 0, 1) := by decide +kernel
theorem dX12_choseMany_36 : decode cX12_choseMany 36 = .ok (.iadd, 1) := by decide +kernel
theorem dX12_choseMany_37 : decode cX12_choseMany 37 = .ok (.istore_n 3, 1) := by decide +kernel
theorem dX12_choseMany_38 : decode cX12_choseMany 38 = .ok (.iinc 4 1, 3) := by decide +kernel
theorem dX12_choseMany_41 : decode cX12_choseMany 41 = .ok (.goto (-36), 3) := by decide +kernel
theorem dX12_choseMany_44 : decode cX12_choseMany 44 = .ok (.iload_n 3, 1) := by decide +kernel
theorem dX12_choseMany_45 : decode cX12_choseMany 45 = .ok (.ireturn, 1) := by decide +kernel
theorem dX12_restSum_0 : decode cX12_restSum 0 = .ok (.iconst 0, 1) := by decide +kernel
theorem dX12_restSum_1 : decode cX12_restSum 1 = .ok (.istore_n 3, 1) := by decide +kernel
theorem dX12_restSum_2 : decode cX12_restSum 2 = .ok (.iconst 0, 1) := by decide +kernel
theorem dX12_restSum_3 : decode cX12_restSum 3 = .ok (.istore 4, 2) := by decide +kernel
theorem dX12_restSum_5 : decode cX12_restSum 5 = .ok (.iload 4, 2) := by decide +kernel
theorem dX12_restSum_7 : decode cX12_restSum 7 = .ok (.aload_n 0, 1) := by decide +kernel
theorem dX12_restSum_8 : decode cX12_restSum 8 = .ok (.getfield 109, 3) := by decide +kernel
theorem dX12_restSum_11 : decode cX12_restSum 11 = .ok (.if_icmp .ge 39, 3) := by decide +kernel
theorem dX12_restSum_14 : decode cX12_restSum 14 = .ok (.iload_n 3, 1) := by decide +kernel
theorem dX12_restSum_15 : decode cX12_restSum 15 = .ok (.aload_n 0, 1) := by decide +kernel
theorem dX12_restSum_16 : decode cX12_restSum 16 = .ok (.getfield 37, 3) := by decide +kernel
theorem dX12_restSum_19 : decode cX12_restSum 19 = .ok (.bipush 12, 2) := by decide +kernel
theorem dX12_restSum_21 : decode cX12_restSum 21 = .ok (.iload 4, 2) := by decide +kernel
theorem dX12_restSum_23 : decode cX12_restSum 23 = .ok (.imul, 1) := by decide +kernel
theorem dX12_restSum_24 : decode cX12_restSum 24 = .ok (.iload_n 1, 1) := by decide +kernel
theorem dX12_restSum_25 : decode cX12_restSum 25 = .ok (.iadd, 1) := by decide +kernel
theorem dX12_restSum_26 : decode cX12_restSum 26 = .ok (.iaload, 1) := by decide +kernel
theorem dX12_restSum_27 : decode cX12_restSum 27 = .ok (.iload_n 2, 1) := by decide +kernel
theorem dX12_restSum_28 : decode cX12_restSum 28 = .ok (.if_icmp .ne 13, 3) := by decide +kernel
theorem dX12_restSum_31 : decode cX12_restSum 31 = .ok (.aload_n 0, 1) := by decide +kernel
theorem dX12_restSum_32 : decode cX12_restSum 32 = .ok (.iload 4, 2) := by decide +kernel
theorem dX12_restSum_34 : decode cX12_restSum 34 = .ok (.iload_n 1, 1) := by decide +kernel
theorem dX12_restSum_35 : decode cX12_restSum 35 = .ok (.invokevirtual 147, 3) := by decide +kernel
theorem dX12_restSum_38 : decode cX12_restSum 38 = .ok (.goto 4, 3) := by decide +kernel
theorem dX12_restSum_41 : decode cX12_restSum 41 = .ok (.iconst 0, 1) := by decide +kernel
theorem dX12_restSum_42 : decode cX12_restSum 42 = .ok (.iadd, 1) := by decide +kernel
theorem dX12_restSum_43 : decode cX12_restSum 43 = .ok (.istore_n 3, 1) := by decide +kernel
theorem dX12_restSum_44 : decode cX12_restSum 44 = .ok (.iinc 4 1, 3) := by decide +kernel
theorem dX12_restSum_47 : decode cX12_restSum 47 = .ok (.goto (-42), 3) := by decide +kernel
theorem dX12_restSum_50 : decode cX12_restSum 50 = .ok (.iload_n 3, 1) := by decide +kernel
theorem dX12_restSum_51 : decode cX12_restSum 51 = .ok (.ireturn, 1) := by decide +kernel
theorem dX12_rest_0 : decode cX12_rest 0 = .ok (.aload_n 0, 1) := by decide +kernel
theorem dX12_rest_1 : decode cX12_rest 1 = .ok (.iload_n 1, 1) := by decide +kernel
theorem dX12_rest_2 : decode cX12_rest 2 = .ok (.invokevirtual 101, 3) := by decide +kernel
theorem dX12_rest_5 : decode cX12_rest 5 = .ok (.ifCond .eq 21, 3) := by decide +kernel
theorem dX12_rest_8 : decode cX12_rest 8 = .ok (.iload_n 2, 1) := by decide +kernel
theorem dX12_rest_9 : decode cX12_rest 9 = .ok (.iconst 1, 1) := by decide +kernel
theorem dX12_rest_10 : decode cX12_rest 10 = .ok (.iconst 5, 1) := by decide +kernel
theorem dX12_rest_11 : decode cX12_rest 11 = .ok (.invokestatic 87, 3) := by decide +kernel
theorem dX12_rest_14 : decode cX12_rest 14 = .ok (.ifCond .eq 12, 3) := by decide +kernel
theorem dX12_rest_17 : decode cX12_rest 17 = .ok (.iload_n 3, 1) := by decide +kernel
theorem dX12_rest_18 : decode cX12_rest 18 = .ok (.iconst 0, 1) := by decide +kernel
theorem dX12_rest_19 : decode cX12_rest 19 = .ok (.iconst 1, 1) := by decide +kernel
theorem dX12_rest_20 : decode cX12_rest 20 = .ok (.invokestatic 87, 3) := by decide +kernel
theorem dX12_rest_23 : decode cX12_rest 23 = .ok (.ifCond .ne 9, 3) := by decide +kernel
theorem dX12_rest_26 : decode cX12_rest 26 = .ok (.bipush (-2), 2) := by decide +kernel
theorem dX12_rest_28 : decode cX12_rest 28 = .ok (.invokestatic 192, 3) := by decide +kernel
theorem dX12_rest_31 : decode cX12_rest 31 = .ok (.lreturn, 1) := by decide +kernel
theorem dX12_rest_32 : decode cX12_rest 32 = .ok (.aload_n 0, 1) := by decide +kernel
theorem dX12_rest_33 : decode cX12_rest 33 = .ok (.invokevirtual 131, 3) := by decide +kernel
theorem dX12_rest_36 : decode cX12_rest 36 = .ok (.aload_n 0, 1) := by decide +kernel
theorem dX12_rest_37 : decode cX12_rest 37 = .ok (.iload_n 1, 1) := by decide +kernel
theorem dX12_rest_38 : decode cX12_rest 38 = .ok (.iload_n 2, 1) := by decide +kernel
theorem dX12_rest_39 : decode cX12_rest 39 = .ok (.invokevirtual 247, 3) := by decide +kernel
theorem dX12_rest_42 : decode cX12_rest 42 = .ok (.istore 4, 2) := by decide +kernel
theorem dX12_rest_44 : decode cX12_rest 44 = .ok (.iload 4, 2) := by decide +kernel
theorem dX12_rest_46 : decode cX12_rest 46 = .ok (.ifCond .ne 11, 3) := by decide +kernel
theorem dX12_rest_49 : decode cX12_rest 49 = .ok (.bipush (-3), 2) := by decide +kernel
theorem dX12_rest_51 : decode cX12_rest 51 = .ok (.invokestatic 192, 3) := by decide +kernel
theorem dX12_rest_54 : decode cX12_rest 54 = .ok (.goto 17, 3) := by decide +kernel
theorem dX12_rest_57 : decode cX12_rest 57 = .ok (.aload_n 0, 1) := by decide +kernel
theorem dX12_rest_58 : decode cX12_rest 58 = .ok (.iload_n 1, 1) := by decide +kernel
theorem dX12_rest_59 : decode cX12_rest 59 = .ok (.iload_n 2, 1) := by decide +kernel
theorem dX12_rest_60 : decode cX12_rest 60 = .ok (.invokevirtual 250, 3) := by decide +kernel
theorem dX12_rest_63 : decode cX12_rest 63 = .ok (.i2l, 1) := by decide +kernel
theorem dX12_rest_64 : decode cX12_rest 64 = .ok (.iload 4, 2) := by decide +kernel
theorem dX12_rest_66 : decode cX12_rest 66 = .ok (.i2l, 1) := by decide +kernel
theorem dX12_rest_67 : decode cX12_rest 67 = .ok (.iload_n 3, 1) := by decide +kernel
theorem dX12_rest_68 : decode cX12_rest 68 = .ok (.invokestatic 196, 3) := by decide +kernel
theorem dX12_rest_71 : decode cX12_rest 71 = .ok (.lreturn, 1) := by decide +kernel
theorem dX12_shouldNow_0 : decode cX12_shouldNow 0 = .ok (.iconst (-1), 1) := by decide +kernel
theorem dX12_shouldNow_1 : decode cX12_shouldNow 1 = .ok (.istore_n 2, 1) := by decide +kernel
theorem dX12_shouldNow_2 : decode cX12_shouldNow 2 = .ok (.iconst 0, 1) := by decide +kernel
theorem dX12_shouldNow_3 : decode cX12_shouldNow 3 = .ok (.istore_n 3, 1) := by decide +kernel
theorem dX12_shouldNow_4 : decode cX12_shouldNow 4 = .ok (.iconst 1, 1) := by decide +kernel
theorem dX12_shouldNow_5 : decode cX12_shouldNow 5 = .ok (.istore 4, 2) := by decide +kernel
theorem dX12_shouldNow_7 : decode cX12_shouldNow 7 = .ok (.iconst 1, 1) := by decide +kernel
theorem dX12_shouldNow_8 : decode cX12_shouldNow 8 = .ok (.istore 5, 2) := by decide +kernel
theorem dX12_shouldNow_10 : decode cX12_shouldNow 10 = .ok (.iload 5, 2) := by decide +kernel
theorem dX12_shouldNow_12 : decode cX12_shouldNow 12 = .ok (.bipush 6, 2) := by decide +kernel
theorem dX12_shouldNow_14 : decode cX12_shouldNow 14 = .ok (.if_icmp .ge 113, 3) := by decide +kernel
theorem dX12_shouldNow_17 : decode cX12_shouldNow 17 = .ok (.aload_n 0, 1) := by decide +kernel
theorem dX12_shouldNow_18 : decode cX12_shouldNow 18 = .ok (.iload_n 1, 1) := by decide +kernel
theorem dX12_shouldNow_19 : decode cX12_shouldNow 19 = .ok (.iload 5, 2) := by decide +kernel
theorem dX12_shouldNow_21 : decode cX12_shouldNow 21 = .ok (.invokevirtual 247, 3) := by decide +kernel
theorem dX12_shouldNow_24 : decode cX12_shouldNow 24 = .ok (.istore 6, 2) := by decide +kernel
theorem dX12_shouldNow_26 : decode cX12_shouldNow 26 = .ok (.aload_n 0, 1) := by decide +kernel
theorem dX12_shouldNow_27 : decode cX12_shouldNow 27 = .ok (.iload_n 1, 1) := by decide +kernel
theorem dX12_shouldNow_28 : decode cX12_shouldNow 28 = .ok (.iload 5, 2) := by decide +kernel
theorem dX12_shouldNow_30 : decode cX12_shouldNow 30 = .ok (.invokevirtual 250, 3) := by decide +kernel
theorem dX12_shouldNow_33 : decode cX12_shouldNow 33 = .ok (.istore 7, 2) := by decide +kernel
theorem dX12_shouldNow_35 : decode cX12_shouldNow 35 = .ok (.iload 6, 2) := by decide +kernel
theorem dX12_shouldNow_37 : decode cX12_shouldNow 37 = .ok (.ifCond .le 43, 3) := by decide +kernel
theorem dX12_shouldNow_40 : decode cX12_shouldNow 40 = .ok (.iload_n 2, 1) := by decide +kernel
theorem dX12_shouldNow_41 : decode cX12_shouldNow 41 = .ok (.iconst (-1), 1) := by decide +kernel
theorem dX12_shouldNow_42 : decode cX12_shouldNow 42 = .ok (.if_icmp .eq 34, 3) := by decide +kernel
theorem dX12_shouldNow_45 : decode cX12_shouldNow 45 = .ok (.iload 7, 2) := by decide +kernel
theorem dX12_shouldNow_47 : decode cX12_shouldNow 47 = .ok (.iload 4, 2) := by decide +kernel
theorem dX12_shouldNow_49 : decode cX12_shouldNow 49 = .ok (.imul, 1) := by decide +kernel
theorem dX12_shouldNow_50 : decode cX12_shouldNow 50 = .ok (.iload_n 3, 1) := by decide +kernel
theorem dX12_shouldNow_51 : decode cX12_shouldNow 51 = .ok (.iload 6, 2) := by decide +kernel
theorem dX12_shouldNow_53 : decode cX12_shouldNow 53 = .ok (.imul, 1) := by decide +kernel
theorem dX12_shouldNow_54 : decode cX12_shouldNow 54 = .ok (.if_icmp .gt 22, 3) := by decide +kernel
theorem dX12_shouldNow_57 : decode cX12_shouldNow 57 = .ok (.iload 7, 2) := by decide +kernel
theorem dX12_shouldNow_59 : decode cX12_shouldNow 59 = .ok (.iload 4, 2) := by decide +kernel
theorem dX12_shouldNow_61 : decode cX12_shouldNow 61 = .ok (.imul, 1) := by decide +kernel
theorem dX12_shouldNow_62 : decode cX12_shouldNow 62 = .ok (.iload_n 3, 1) := by decide +kernel
theorem dX12_shouldNow_63 : decode cX12_shouldNow 63 = .ok (.iload 6, 2) := by decide +kernel
theorem dX12_shouldNow_65 : decode cX12_shouldNow 65 = .ok (.imul, 1) := by decide +kernel
theorem dX12_shouldNow_66 : decode cX12_shouldNow 66 = .ok (.if_icmp .ne 14, 3) := by decide +kernel
theorem dX12_shouldNow_69 : decode cX12_shouldNow 69 = .ok (.iload 6, 2) := by decide +kernel
theorem dX12_shouldNow_71 : decode cX12_shouldNow 71 = .ok (.iload 4, 2) := by decide +kernel
theorem dX12_shouldNow_73 : decode cX12_shouldNow 73 = .ok (.if_icmp .le 7, 3) := by decide +kernel
theorem dX12_shouldNow_76 : decode cX12_shouldNow 76 = .ok (.iconst 1, 1) := by decide +kernel
theorem dX12_shouldNow_77 : decode cX12_shouldNow 77 = .ok (.goto 4, 3) := by decide +kernel
theorem dX12_shouldNow_80 : decode cX12_shouldNow 80 = .ok (.iconst 0, 1) := by decide +kernel
theorem dX12_shouldNow_81 : decode cX12_shouldNow 81 = .ok (.istore 8, 2) := by decide +kernel
theorem dX12_shouldNow_83 : decode cX12_shouldNow 83 = .ok (.iload 8, 2) := by decide +kernel
theorem dX12_shouldNow_85 : decode cX12_shouldNow 85 = .ok (.ifCond .eq 8, 3) := by decide +kernel
theorem dX12_shouldNow_88 : decode cX12_shouldNow 88 = .ok (.iload 5, 2) := by decide +kernel
theorem dX12_shouldNow_90 : decode cX12_shouldNow 90 = .ok (.goto 4, 3) := by decide +kernel
theorem dX12_shouldNow_93 : decode cX12_shouldNow 93 = .ok (.iload_n 2, 1) := by decide +kernel
theorem dX12_shouldNow_94 : decode cX12_shouldNow 94 = .ok (.istore_n 2, 1) := by decide +kernel
theorem dX12_shouldNow_95 : decode cX12_shouldNow 95 = .ok (.iload 8, 2) := by decide +kernel
theorem dX12_shouldNow_97 : decode cX12_shouldNow 97 = .ok (.ifCond .eq 8, 3) := by decide +kernel
theorem dX12_shouldNow_100 : decode cX12_shouldNow 100 = .ok (.iload 7, 2) := by decide +kernel
theorem dX12_shouldNow_102 : decode cX12_shouldNow 102 = .ok (.goto 4, 3) := by decide +kernel
theorem dX12_shouldNow_105 : decode cX12_shouldNow 105 = .ok (.iload_n 3, 1) := by decide +kernel
theorem dX12_shouldNow_106 : decode cX12_shouldNow 106 = .ok (.istore_n 3, 1) := by decide +kernel
theorem dX12_shouldNow_107 : decode cX12_shouldNow 107 = .ok (.iload 8, 2) := by decide +kernel
theorem dX12_shouldNow_109 : decode cX12_shouldNow 109 = .ok (.ifCond .eq 8, 3) := by decide +kernel
theorem dX12_shouldNow_112 : decode cX12_shouldNow 112 = .ok (.iload 6, 2) := by decide +kernel
theorem dX12_shouldNow_114 : decode cX12_shouldNow 114 = .ok (.goto 5, 3) := by decide +kernel
theorem dX12_shouldNow_117 : decode cX12_shouldNow 117 = .ok (.iload 4, 2) := by decide +kernel
theorem dX12_shouldNow_119 : decode cX12_shouldNow 119 = .ok (.istore 4, 2) := by decide +kernel
theorem dX12_shouldNow_121 : decode cX12_shouldNow 121 = .ok (.iinc 5 1, 3) := by decide +kernel
theorem dX12_shouldNow_124 : decode cX12_shouldNow 124 = .ok (.goto (-114), 3) := by decide +kernel
theorem dX12_shouldNow_127 : decode cX12_shouldNow 127 = .ok (.iload_n 2, 1) := by decide +kernel
theorem dX12_shouldNow_128 : decode cX12_shouldNow 128 = .ok (.ireturn, 1) := by decide +kernel
theorem dX12_should_0 : decode cX12_should 0 = .ok (.aload_n 0, 1) := by decide +kernel
theorem dX12_should_1 : decode cX12_should 1 = .ok (.iload_n 1, 1) := by decide +kernel
theorem dX12_should_2 : decode cX12_should 2 = .ok (.invokevirtual 101, 3) := by decide +kernel
theorem dX12_should_5 : decode cX12_should 5 = .ok (.ifCond .ne 6, 3) := by decide +kernel
theorem dX12_should_8 : decode cX12_should 8 = .ok (.bipush (-2), 2) := by decide +kernel
theorem dX12_should_10 : decode cX12_should 10 = .ok (.ireturn, 1) := by decide +kernel
theorem dX12_should_11 : decode cX12_should 11 = .ok (.aload_n 0, 1) := by decide +kernel
theorem dX12_should_12 : decode cX12_should 12 = .ok (.invokevirtual 131, 3) := by decide +kernel
theorem dX12_should_15 : decode cX12_should 15 = .ok (.aload_n 0, 1) := by decide +kernel
theorem dX12_should_16 : decode cX12_should 16 = .ok (.iload_n 1, 1) := by decide +kernel
theorem dX12_should_17 : decode cX12_should 17 = .ok (.invokevirtual 253, 3) := by decide +kernel
theorem dX12_should_20 : decode cX12_should 20 = .ok (.ireturn, 1) := by decide +kernel
theorem dX12_badlyNow_0 : decode cX12_badlyNow 0 = .ok (.iconst 0, 1) := by decide +kernel
theorem dX12_badlyNow_1 : decode cX12_badlyNow 1 = .ok (.istore_n 1, 1) := by decide +kernel
theorem dX12_badlyNow_2 : decode cX12_badlyNow 2 = .ok (.iconst 0, 1) := by decide +kernel
theorem dX12_badlyNow_3 : decode cX12_badlyNow 3 = .ok (.istore_n 2, 1) := by decide +kernel
theorem dX12_badlyNow_4 : decode cX12_badlyNow 4 = .ok (.iload_n 2, 1) := by decide +kernel
theorem dX12_badlyNow_5 : decode cX12_badlyNow 5 = .ok (.aload_n 0, 1) := by decide +kernel
theorem dX12_badlyNow_6 : decode cX12_badlyNow 6 = .ok (.getfield 81, 3) := by decide +kernel
theorem dX12_badlyNow_9 : decode cX12_badlyNow 9 = .ok (.if_icmp .ge 49, 3) := by decide +kernel
theorem dX12_badlyNow_12 : decode cX12_badlyNow 12 = .ok (.aload_n 0, 1) := by decide +kernel
theorem dX12_badlyNow_13 : decode cX12_badlyNow 13 = .ok (.iload_n 2, 1) := by decide +kernel
theorem dX12_badlyNow_14 : decode cX12_badlyNow 14 = .ok (.invokevirtual 253, 3) := by decide +kernel
theorem dX12_badlyNow_17 : decode cX12_badlyNow 17 = .ok (.istore_n 3, 1) := by decide +kernel
theorem dX12_badlyNow_18 : decode cX12_badlyNow 18 = .ok (.iload_n 1, 1) := by decide +kernel
theorem dX12_badlyNow_19 : decode cX12_badlyNow 19 = .ok (.aload_n 0, 1) := by decide +kernel
theorem dX12_badlyNow_20 : decode cX12_badlyNow 20 = .ok (.getfield 13, 3) := by decide +kernel
theorem dX12_badlyNow_23 : decode cX12_badlyNow 23 = .ok (.iload_n 2, 1) := by decide +kernel
theorem dX12_badlyNow_24 : decode cX12_badlyNow 24 = .ok (.iaload, 1) := by decide +kernel
theorem dX12_badlyNow_25 : decode cX12_badlyNow 25 = .ok (.ifCond .eq 24, 3) := by decide +kernel
theorem dX12_badlyNow_28 : decode cX12_badlyNow 28 = .ok (.iload_n 3, 1) := by decide +kernel
theorem dX12_badlyNow_29 : decode cX12_badlyNow 29 = .ok (.iconst (-1), 1) := by decide +kernel
theorem dX12_badlyNow_30 : decode cX12_badlyNow 30 = .ok (.if_icmp .eq 19, 3) := by decide +kernel
theorem dX12_badlyNow_33 : decode cX12_badlyNow 33 = .ok (.iload_n 3, 1) := by decide +kernel
theorem dX12_badlyNow_34 : decode cX12_badlyNow 34 = .ok (.aload_n 0, 1) := by decide +kernel
theorem dX12_badlyNow_35 : decode cX12_badlyNow 35 = .ok (.getfield 13, 3) := by decide +kernel
theorem dX12_badlyNow_38 : decode cX12_badlyNow 38 = .ok (.iload_n 2, 1) := by decide +kernel
theorem dX12_badlyNow_39 : decode cX12_badlyNow 39 = .ok (.iaload, 1) := by decide +kernel
theorem dX12_badlyNow_40 : decode cX12_badlyNow 40 = .ok (.if_icmp .eq 9, 3) := by decide +kernel
theorem dX12_badlyNow_43 : decode cX12_badlyNow 43 = .ok (.iconst 1, 1) := by decide +kernel
theorem dX12_badlyNow_44 : decode cX12_badlyNow 44 = .ok (.iload_n 2, 1) := by decide +kernel
theorem dX12_badlyNow_45 : decode cX12_badlyNow 45 = .ok (.ishl, 1) := by decide +kernel
theorem dX12_badlyNow_46 : decode cX12_badlyNow 46 = .ok (.goto 4, 3) := by decide +kernel
theorem dX12_badlyNow_49 : decode cX12_badlyNow 49 = .ok (.iconst 0, 1) := by decide +kernel
theorem dX12_badlyNow_50 : decode cX12_badlyNow 50 = .ok (.ior, 1) := by decide +kernel
theorem dX12_badlyNow_51 : decode cX12_badlyNow 51 = .ok (.istore_n 1, 1) := by decide +kernel
theorem dX12_badlyNow_52 : decode cX12_badlyNow 52 = .ok (.iinc 2 1, 3) := by decide +kernel
theorem dX12_badlyNow_55 : decode cX12_badlyNow 55 = .ok (.goto (-51), 3) := by decide +kernel
theorem dX12_badlyNow_58 : decode cX12_badlyNow 58 = .ok (.iload_n 1, 1) := by decide +kernel
theorem dX12_badlyNow_59 : decode cX12_badlyNow 59 = .ok (.ireturn, 1) := by decide +kernel
theorem dX12_badly_0 : decode cX12_badly 0 = .ok (.aload_n 0, 1) := by decide +kernel
theorem dX12_badly_1 : decode cX12_badly 1 = .ok (.invokevirtual 131, 3) := by decide +kernel
theorem dX12_badly_4 : decode cX12_badly 4 = .ok (.aload_n 0, 1) := by decide +kernel
theorem dX12_badly_5 : decode cX12_badly 5 = .ok (.invokevirtual 256, 3) := by decide +kernel
theorem dX12_badly_8 : decode cX12_badly 8 = .ok (.ireturn, 1) := by decide +kernel
theorem dX12_withoutNow_0 : decode cX12_withoutNow 0 = .ok (.iconst 0, 1) := by decide +kernel
theorem dX12_withoutNow_1 : decode cX12_withoutNow 1 = .ok (.istore_n 3, 1) := by decide +kernel
theorem dX12_withoutNow_2 : decode cX12_withoutNow 2 = .ok (.iconst 0, 1) := by decide +kernel
theorem dX12_withoutNow_3 : decode cX12_withoutNow 3 = .ok (.istore 4, 2) := by decide +kernel
theorem dX12_withoutNow_5 : decode cX12_withoutNow 5 = .ok (.iload 4, 2) := by decide +kernel
theorem dX12_withoutNow_7 : decode cX12_withoutNow 7 = .ok (.aload_n 0, 1) := by decide +kernel
theorem dX12_withoutNow_8 : decode cX12_withoutNow 8 = .ok (.getfield 109, 3) := by decide +kernel
theorem dX12_withoutNow_11 : decode cX12_withoutNow 11 = .ok (.if_icmp .ge 58, 3) := by decide +kernel
theorem dX12_withoutNow_14 : decode cX12_withoutNow 14 = .ok (.iload_n 3, 1) := by decide +kernel
theorem dX12_withoutNow_15 : decode cX12_withoutNow 15 = .ok (.iload_n 2, 1) := by decide +kernel
theorem dX12_withoutNow_16 : decode cX12_withoutNow 16 = .ok (.ifCond .ne 23, 3) := by decide +kernel
theorem dX12_withoutNow_19 : decode cX12_withoutNow 19 = .ok (.aload_n 0, 1) := by decide +kernel
theorem dX12_withoutNow_20 : decode cX12_withoutNow 20 = .ok (.iload 4, 2) := by decide +kernel
theorem dX12_withoutNow_22 : decode cX12_withoutNow 22 = .ok (.iload_n 1, 1) := by decide +kernel
theorem dX12_withoutNow_23 : decode cX12_withoutNow 23 = .ok (.invokevirtual 157, 3) := by decide +kernel
theorem dX12_withoutNow_26 : decode cX12_withoutNow 26 = .ok (.aload_n 0, 1) := by decide +kernel
theorem dX12_withoutNow_27 : decode cX12_withoutNow 27 = .ok (.iload 4, 2) := by decide +kernel
theorem dX12_withoutNow_29 : decode cX12_withoutNow 29 = .ok (.iconst (-1), 1) := by decide +kernel
theorem dX12_withoutNow_30 : decode cX12_withoutNow 30 = .ok (.invokevirtual 157, 3) := by decide +kernel
theorem dX12_withoutNow_33 : decode cX12_withoutNow 33 = .ok (.if_icmp .eq 27, 3) := by decide +kernel
theorem dX12_withoutNow_36 : decode cX12_withoutNow 36 = .ok (.goto 20, 3) := by decide +kernel
theorem dX12_withoutNow_39 : decode cX12_withoutNow 39 = .ok (.aload_n 0, 1) := by decide +kernel
theorem dX12_withoutNow_40 : decode cX12_withoutNow 40 = .ok (.iload 4, 2) := by decide +kernel
theorem dX12_withoutNow_42 : decode cX12_withoutNow 42 = .ok (.iload_n 1, 1) := by decide +kernel
theorem dX12_withoutNow_43 : decode cX12_withoutNow 43 = .ok (.invokevirtual 160, 3) := by decide +kernel
theorem dX12_withoutNow_46 : decode cX12_withoutNow 46 = .ok (.aload_n 0, 1) := by decide +kernel
theorem dX12_withoutNow_47 : decode cX12_withoutNow 47 = .ok (.iload 4, 2) := by decide +kernel
theorem dX12_withoutNow_49 : decode cX12_withoutNow 49 = .ok (.iconst (-1), 1) := by decide +kernel
theorem dX12_withoutNow_50 : decode cX12_withoutNow 50 = .ok (.invokevirtual 160, 3) := by decide +kernel
theorem dX12_withoutNow_53 : decode cX12_withoutNow 53 = .ok (.if_icmp .eq 7, 3) := by decide +kernel
theorem dX12_withoutNow_56 : decode cX12_withoutNow 56 = .ok (.iconst 1, 1) := by decide +kernel
theorem dX12_withoutNow_57 : decode cX12_withoutNow 57 = .ok (.goto 4, 3) := by decide +kernel
theorem dX12_withoutNow_60 : decode cX12_withoutNow 60 = .ok (.iconst 0, 1) := by decide +kernel
theorem dX12_withoutNow_61 : decode cX12_withoutNow 61 = .ok (.iadd, 1) := by decide +kernel
theorem dX12_withoutNow_62 : decode cX12_withoutNow 62 = .ok (.istore_n 3, 1) := by decide +kernel
theorem dX12_withoutNow_63 : decode cX12_withoutNow 63 = .ok (.iinc 4 1, 3) := by decide +kernel
theorem dX12_withoutNow_66 : decode cX12_withoutNow 66 = .ok (.goto (-61), 3) := by decide +kernel
theorem dX12_withoutNow_69 : decode cX12_withoutNow 69 = .ok (.iload_n 3, 1) := by decide +kernel
theorem dX12_withoutNow_70 : decode cX12_withoutNow 70 = .ok (.ireturn, 1) := by decide +kernel
theorem dX12_without_0 : decode cX12_without 0 = .ok (.aload_n 0, 1) := by decide +kernel
theorem dX12_without_1 : decode cX12_without 1 = .ok (.iload_n 1, 1) := by decide +kernel
theorem dX12_without_2 : decode cX12_without 2 = .ok (.invokevirtual 101, 3) := by decide +kernel
theorem dX12_without_5 : decode cX12_without 5 = .ok (.ifCond .eq 12, 3) := by decide +kernel
theorem dX12_without_8 : decode cX12_without 8 = .ok (.iload_n 2, 1) := by decide +kernel
theorem dX12_without_9 : decode cX12_without 9 = .ok (.iconst 0, 1) := by decide +kernel
theorem dX12_without_10 : decode cX12_without 10 = .ok (.iconst 1, 1) := by decide +kernel
theorem dX12_without_11 : decode cX12_without 11 = .ok (.invokestatic 87, 3) := by decide +kernel
theorem dX12_without_14 : decode cX12_without 14 = .ok (.ifCond .ne 6, 3) := by decide +kernel
theorem dX12_without_17 : decode cX12_without 17 = .ok (.bipush (-2), 2) := by decide +kernel
theorem dX12_without_19 : decode cX12_without 19 = .ok (.ireturn, 1) := by decide +kernel
theorem dX12_without_20 : decode cX12_without 20 = .ok (.aload_n 0, 1) := by decide +kernel
theorem dX12_without_21 : decode cX12_without 21 = .ok (.invokevirtual 131, 3) := by decide +kernel
theorem dX12_without_24 : decode cX12_without 24 = .ok (.aload_n 0, 1) := by decide +kernel
theorem dX12_without_25 : decode cX12_without 25 = .ok (.iload_n 1, 1) := by decide +kernel
theorem dX12_without_26 : decode cX12_without 26 = .ok (.iload_n 2, 1) := by decide +kernel
theorem dX12_without_27 : decode cX12_without 27 = .ok (.invokevirtual 259, 3) := by decide +kernel
theorem dX12_without_30 : decode cX12_without 30 = .ok (.ireturn, 1) := by decide +kernel
theorem dX12_hardNow_0 : decode cX12_hardNow 0 = .ok (.aload_n 0, 1) := by decide +kernel
theorem dX12_hardNow_1 : decode cX12_hardNow 1 = .ok (.getfield 109, 3) := by decide +kernel
theorem dX12_hardNow_4 : decode cX12_hardNow 4 = .ok (.ifCond .eq 12, 3) := by decide +kernel
theorem dX12_hardNow_7 : decode cX12_hardNow 7 = .ok (.aload_n 0, 1) := by decide +kernel
theorem dX12_hardNow_8 : decode cX12_hardNow 8 = .ok (.getfield 13, 3) := by decide +kernel
theorem dX12_hardNow_11 : decode cX12_hardNow 11 = .ok (.iload_n 1, 1) := by decide +kernel
theorem dX12_hardNow_12 : decode cX12_hardNow 12 = .ok (.iaload, 1) := by decide +kernel
theorem dX12_hardNow_13 : decode cX12_hardNow 13 = .ok (.ifCond .ne 11, 3) := by decide +kernel
theorem dX12_hardNow_16 : decode cX12_hardNow 16 = .ok (.bipush (-3), 2) := by decide +kernel
theorem dX12_hardNow_18 : decode cX12_hardNow 18 = .ok (.invokestatic 192, 3) := by decide +kernel
theorem dX12_hardNow_21 : decode cX12_hardNow 21 = .ok (.goto 22, 3) := by decide +kernel
theorem dX12_hardNow_24 : decode cX12_hardNow 24 = .ok (.aload_n 0, 1) := by decide +kernel
theorem dX12_hardNow_25 : decode cX12_hardNow 25 = .ok (.sipush 1023, 3) := by decide +kernel
theorem dX12_hardNow_28 : decode cX12_hardNow 28 = .ok (.iconst 1, 1) := by decide +kernel
theorem dX12_hardNow_29 : decode cX12_hardNow 29 = .ok (.iload_n 1, 1) := by decide +kernel
theorem dX12_hardNow_30 : decode cX12_hardNow 30 = .ok (.invokevirtual 243, 3) := by decide +kernel
theorem dX12_hardNow_33 : decode cX12_hardNow 33 = .ok (.i2l, 1) := by decide +kernel
theorem dX12_hardNow_34 : decode cX12_hardNow 34 = .ok (.aload_n 0, 1) := by decide +kernel
theorem dX12_hardNow_35 : decode cX12_hardNow 35 = .ok (.getfield 109, 3) := by decide +kernel
theorem dX12_hardNow_38 : decode cX12_hardNow 38 = .ok (.i2l, 1) := by decide +kernel
theorem dX12_hardNow_39 : decode cX12_hardNow 39 = .ok (.iload_n 2, 1) := by decide +kernel
theorem dX12_hardNow_40 : decode cX12_hardNow 40 = .ok (.invokestatic 196, 3) := by decide +kernel
theorem dX12_hardNow_43 : decode cX12_hardNow 43 = .ok (.lreturn, 1) := by decide +kernel
theorem dX12_hard_0 : decode cX12_hard 0 = .ok (.aload_n 0, 1) := by decide +kernel
theorem dX12_hard_1 : decode cX12_hard 1 = .ok (.iload_n 1, 1) := by decide +kernel
theorem dX12_hard_2 : decode cX12_hard 2 = .ok (.invokevirtual 101, 3) := by decide +kernel
theorem dX12_hard_5 : decode cX12_hard 5 = .ok (.ifCond .eq 12, 3) := by decide +kernel
theorem dX12_hard_8 : decode cX12_hard 8 = .ok (.iload_n 2, 1) := by decide +kernel
theorem dX12_hard_9 : decode cX12_hard 9 = .ok (.iconst 0, 1) := by decide +kernel
theorem dX12_hard_10 : decode cX12_hard 10 = .ok (.iconst 1, 1) := by decide +kernel
theorem dX12_hard_11 : decode cX12_hard 11 = .ok (.invokestatic 87, 3) := by decide +kernel
theorem dX12_hard_14 : decode cX12_hard 14 = .ok (.ifCond .ne 9, 3) := by decide +kernel
theorem dX12_hard_17 : decode cX12_hard 17 = .ok (.bipush (-2), 2) := by decide +kernel
theorem dX12_hard_19 : decode cX12_hard 19 = .ok (.invokestatic 192, 3) := by decide +kernel
theorem dX12_hard_22 : decode cX12_hard 22 = .ok (.lreturn, 1) := by decide +kernel
theorem dX12_hard_23 : decode cX12_hard 23 = .ok (.aload_n 0, 1) := by decide +kernel
theorem dX12_hard_24 : decode cX12_hard 24 = .ok (.invokevirtual 131, 3) := by decide +kernel
theorem dX12_hard_27 : decode cX12_hard 27 = .ok (.aload_n 0, 1) := by decide +kernel
theorem dX12_hard_28 : decode cX12_hard 28 = .ok (.iload_n 1, 1) := by decide +kernel
theorem dX12_hard_29 : decode cX12_hard 29 = .ok (.iload_n 2, 1) := by decide +kernel
theorem dX12_hard_30 : decode cX12_hard 30 = .ok (.invokevirtual 262, 3) := by decide +kernel
theorem dX12_hard_33 : decode cX12_hard 33 = .ok (.lreturn, 1) := by decide +kernel
theorem dX12_partsNow_0 : decode cX12_partsNow 0 = .ok (.aload_n 0, 1) := by decide +kernel
theorem dX12_partsNow_1 : decode cX12_partsNow 1 = .ok (.getfield 109, 3) := by decide +kernel
theorem dX12_partsNow_4 : decode cX12_partsNow 4 = .ok (.iconst 2, 1) := by decide +kernel
theorem dX12_partsNow_5 : decode cX12_partsNow 5 = .ok (.if_icmp .lt 12, 3) := by decide +kernel
theorem dX12_partsNow_8 : decode cX12_partsNow 8 = .ok (.aload_n 0, 1) := by decide +kernel
theorem dX12_partsNow_9 : decode cX12_partsNow 9 = .ok (.getfield 13, 3) := by decide +kernel
theorem dX12_partsNow_12 : decode cX12_partsNow 12 = .ok (.iload_n 1, 1) := by decide +kernel
theorem dX12_partsNow_13 : decode cX12_partsNow 13 = .ok (.iaload, 1) := by decide +kernel
theorem dX12_partsNow_14 : decode cX12_partsNow 14 = .ok (.ifCond .ne 9, 3) := by decide +kernel
theorem dX12_partsNow_17 : decode cX12_partsNow 17 = .ok (.bipush (-3), 2) := by decide +kernel
theorem dX12_partsNow_19 : decode cX12_partsNow 19 = .ok (.invokestatic 192, 3) := by decide +kernel
theorem dX12_partsNow_22 : decode cX12_partsNow 22 = .ok (.lreturn, 1) := by decide +kernel
theorem dX12_partsNow_23 : decode cX12_partsNow 23 = .ok (.iconst 0, 1) := by decide +kernel
theorem dX12_partsNow_24 : decode cX12_partsNow 24 = .ok (.istore_n 3, 1) := by decide +kernel
theorem dX12_partsNow_25 : decode cX12_partsNow 25 = .ok (.iload_n 3, 1) := by decide +kernel
theorem dX12_partsNow_26 : decode cX12_partsNow 26 = .ok (.aload_n 0, 1) := by decide +kernel
theorem dX12_partsNow_27 : decode cX12_partsNow 27 = .ok (.getfield 109, 3) := by decide +kernel
theorem dX12_partsNow_30 : decode cX12_partsNow 30 = .ok (.if_icmp .ge 70, 3) := by decide +kernel
theorem dX12_partsNow_33 : decode cX12_partsNow 33 = .ok (.iload_n 3, 1) := by decide +kernel
theorem dX12_partsNow_34 : decode cX12_partsNow 34 = .ok (.istore 4, 2) := by decide +kernel
theorem dX12_partsNow_36 : decode cX12_partsNow 36 = .ok (.iload 4, 2) := by decide +kernel
theorem dX12_partsNow_38 : decode cX12_partsNow 38 = .ok (.ifCond .le 48, 3) := by decide +kernel
theorem dX12_partsNow_41 : decode cX12_partsNow 41 = .ok (.aload_n 0, 1) := by decide +kernel
theorem dX12_partsNow_42 : decode cX12_partsNow 42 = .ok (.aload_n 0, 1) := by decide +kernel
theorem dX12_partsNow_43 : decode cX12_partsNow 43 = .ok (.getfield 53, 3) := by decide +kernel
theorem dX12_partsNow_46 : decode cX12_partsNow 46 = .ok (.iload 4, 2) := by decide +kernel
theorem dX12_partsNow_48 : decode cX12_partsNow 48 = .ok (.iconst 1, 1) := by decide +kernel
theorem dX12_partsNow_49 : decode cX12_partsNow 49 = .ok (.isub, 1) := by decide +kernel
theorem dX12_partsNow_50 : decode cX12_partsNow 50 = .ok (.iaload, 1) := by decide +kernel
theorem dX12_partsNow_51 : decode cX12_partsNow 51 = .ok (.iload_n 1, 1) := by decide +kernel
theorem dX12_partsNow_52 : decode cX12_partsNow 52 = .ok (.invokevirtual 147, 3) := by decide +kernel
theorem dX12_partsNow_55 : decode cX12_partsNow 55 = .ok (.aload_n 0, 1) := by decide +kernel
theorem dX12_partsNow_56 : decode cX12_partsNow 56 = .ok (.iload_n 3, 1) := by decide +kernel
theorem dX12_partsNow_57 : decode cX12_partsNow 57 = .ok (.iload_n 1, 1) := by decide +kernel
theorem dX12_partsNow_58 : decode cX12_partsNow 58 = .ok (.invokevirtual 147, 3) := by decide +kernel
theorem dX12_partsNow_61 : decode cX12_partsNow 61 = .ok (.if_icmp .ge 25, 3) := by decide +kernel
theorem dX12_partsNow_64 : decode cX12_partsNow 64 = .ok (.aload_n 0, 1) := by decide +kernel
theorem dX12_partsNow_65 : decode cX12_partsNow 65 = .ok (.getfield 53, 3) := by decide +kernel
theorem dX12_partsNow_68 : decode cX12_partsNow 68 = .ok (.iload 4, 2) := by decide +kernel
theorem dX12_partsNow_70 : decode cX12_partsNow 70 = .ok (.aload_n 0, 1) := by decide +kernel
theorem dX12_partsNow_71 : decode cX12_partsNow 71 = .ok (.getfield 53, 3) := by decide +kernel
theorem dX12_partsNow_74 : decode cX12_partsNow 74 = .ok (.iload 4, 2) := by decide +kernel
theorem dX12_partsNow_76 : decode cX12_partsNow 76 = .ok (.iconst 1, 1) := by decide +kernel
theorem dX12_partsNow_77 : decode cX12_partsNow 77 = .ok (.isub, 1) := by decide +kernel
theorem dX12_partsNow_78 : decode cX12_partsNow 78 = .ok (.iaload, 1) := by decide +kernel
theorem dX12_partsNow_79 : decode cX12_partsNow 79 = .ok (.iastore, 1) := by decide +kernel
theorem dX12_partsNow_80 : decode cX12_partsNow 80 = .ok (.iinc 4 (-1), 3) := by decide +kernel
theorem dX12_partsNow_83 : decode cX12_partsNow 83 = .ok (.goto (-47), 3) := by decide +kernel
theorem dX12_partsNow_86 : decode cX12_partsNow 86 = .ok (.aload_n 0, 1) := by decide +kernel
theorem dX12_partsNow_87 : decode cX12_partsNow 87 = .ok (.getfield 53, 3) := by decide +kernel
theorem dX12_partsNow_90 : decode cX12_partsNow 90 = .ok (.iload 4, 2) := by decide +kernel
theorem dX12_partsNow_92 : decode cX12_partsNow 92 = .ok (.iload_n 3, 1) := by decide +kernel
theorem dX12_partsNow_93 : decode cX12_partsNow 93 = .ok (.iastore, 1) := by decide +kernel
theorem dX12_partsNow_94 : decode cX12_partsNow 94 = .ok (.iinc 3 1, 3) := by decide +kernel
theorem dX12_partsNow_97 : decode cX12_partsNow 97 = .ok (.goto (-72), 3) := by decide +kernel
theorem dX12_partsNow_100 : decode cX12_partsNow 100 = .ok (.aload_n 0, 1) := by decide +kernel
theorem dX12_partsNow_101 : decode cX12_partsNow 101 = .ok (.getfield 109, 3) := by decide +kernel
theorem dX12_partsNow_104 : decode cX12_partsNow 104 = .ok (.iconst 2, 1) := by decide +kernel
theorem dX12_partsNow_105 : decode cX12_partsNow 105 = .ok (.idiv, 1) := by decide +kernel
theorem dX12_partsNow_106 : decode cX12_partsNow 106 = .ok (.istore_n 3, 1) := by decide +kernel
theorem dX12_partsNow_107 : decode cX12_partsNow 107 = .ok (.iconst 0, 1) := by decide +kernel
theorem dX12_partsNow_108 : decode cX12_partsNow 108 = .ok (.istore 4, 2) := by decide +kernel
theorem dX12_partsNow_110 : decode cX12_partsNow 110 = .ok (.iconst 0, 1) := by decide +kernel
theorem dX12_partsNow_111 : decode cX12_partsNow 111 = .ok (.istore 5, 2) := by decide +kernel
theorem dX12_partsNow_113 : decode cX12_partsNow 113 = .ok (.iload 5, 2) := by decide +kernel
theorem dX12_partsNow_115 : decode cX12_partsNow 115 = .ok (.iload_n 3, 1) := by decide +kernel
theorem dX12_partsNow_116 : decode cX12_partsNow 116 = .ok (.if_icmp .ge 66, 3) := by decide +kernel
theorem dX12_partsNow_119 : decode cX12_partsNow 119 = .ok (.iload 4, 2) := by decide +kernel
theorem dX12_partsNow_121 : decode cX12_partsNow 121 = .ok (.aload_n 0, 1) := by decide +kernel
theorem dX12_partsNow_122 : decode cX12_partsNow 122 = .ok (.aload_n 0, 1) := by decide +kernel
theorem dX12_partsNow_123 : decode cX12_partsNow 123 = .ok (.getfield 53, 3) := by decide +kernel
theorem dX12_partsNow_126 : decode cX12_partsNow 126 = .ok (.iload 5, 2) := by decide +kernel
theorem dX12_partsNow_128 : decode cX12_partsNow 128 = .ok (.iaload, 1) := by decide +kernel
theorem dX12_partsNow_129 : decode cX12_partsNow 129 = .ok (.iload_n 1, 1) := by decide +kernel
theorem dX12_partsNow_130 : decode cX12_partsNow 130 = .ok (.invokevirtual 144, 3) := by decide +kernel
theorem dX12_partsNow_133 : decode cX12_partsNow 133 = .ok (.ifCond .eq 7, 3) := by decide +kernel
theorem dX12_partsNow_136 : decode cX12_partsNow 136 = .ok (.iconst 1, 1) := by decide +kernel
theorem dX12_partsNow_137 : decode cX12_partsNow 137 = .ok (.goto 4, 3) := by decide +kernel
theorem dX12_partsNow_140 : decode cX12_partsNow 140 = .ok (.iconst 0, 1) := by decide +kernel
theorem dX12_partsNow_141 : decode cX12_partsNow 141 = .ok (.iadd, 1) := by decide +kernel
theorem dX12_partsNow_142 : decode cX12_partsNow 142 = .ok (.istore 4, 2) := by decide +kernel
theorem dX12_partsNow_144 : decode cX12_partsNow 144 = .ok (.iload 4, 2) := by decide +kernel
theorem dX12_partsNow_146 : decode cX12_partsNow 146 = .ok (.aload_n 0, 1) := by decide +kernel
theorem dX12_partsNow_147 : decode cX12_partsNow 147 = .ok (.aload_n 0, 1) := by decide +kernel
theorem dX12_partsNow_148 : decode cX12_partsNow 148 = .ok (.getfield 53, 3) := by decide +kernel
theorem dX12_partsNow_151 : decode cX12_partsNow 151 = .ok (.aload_n 0, 1) := by decide +kernel
theorem dX12_partsNow_152 : decode cX12_partsNow 152 = .ok (.getfield 109, 3) := by decide +kernel
theorem dX12_partsNow_155 : decode cX12_partsNow 155 = .ok (.iconst 1, 1) := by decide +kernel
theorem dX12_partsNow_156 : decode cX12_partsNow 156 = .ok (.isub, 1) := by decide +kernel
theorem dX12_partsNow_157 : decode cX12_partsNow 157 = .ok (.iload 5, 2) := by decide +kernel
theorem dX12_partsNow_159 : decode cX12_partsNow 159 = .ok (.isub, 1) := by decide +kernel
theorem dX12_partsNow_160 : decode cX12_partsNow 160 = .ok (.iaload, 1) := by decide +kernel
theorem dX12_partsNow_161 : decode cX12_partsNow 161 = .ok (.iload_n 1, 1) := by decide +kernel
theorem dX12_partsNow_162 : decode cX12_partsNow 162 = .ok (.invokevirtual 144, 3) := by decide +kernel
theorem dX12_partsNow_165 : decode cX12_partsNow 165 = .ok (.ifCond .eq 7, 3) := by decide +kernel
theorem dX12_partsNow_168 : decode cX12_partsNow 168 = .ok (.iconst 1, 1) := by decide +kernel
theorem dX12_partsNow_169 : decode cX12_partsNow 169 = .ok (.goto 4, 3) := by decide +kernel
theorem dX12_partsNow_172 : decode cX12_partsNow 172 = .ok (.iconst 0, 1) := by decide +kernel
theorem dX12_partsNow_173 : decode cX12_partsNow 173 = .ok (.isub, 1) := by decide +kernel
theorem dX12_partsNow_174 : decode cX12_partsNow 174 = .ok (.istore 4, 2) := by decide +kernel
theorem dX12_partsNow_176 : decode cX12_partsNow 176 = .ok (.iinc 5 1, 3) := by decide +kernel
theorem dX12_partsNow_179 : decode cX12_partsNow 179 = .ok (.goto (-66), 3) := by decide +kernel
theorem dX12_partsNow_182 : decode cX12_partsNow 182 = .ok (.iload 4, 2) := by decide +kernel
theorem dX12_partsNow_184 : decode cX12_partsNow 184 = .ok (.i2l, 1) := by decide +kernel
theorem dX12_partsNow_185 : decode cX12_partsNow 185 = .ok (.iload_n 3, 1) := by decide +kernel
theorem dX12_partsNow_186 : decode cX12_partsNow 186 = .ok (.i2l, 1) := by decide +kernel
theorem dX12_partsNow_187 : decode cX12_partsNow 187 = .ok (.iload_n 2, 1) := by decide +kernel
theorem dX12_partsNow_188 : decode cX12_partsNow 188 = .ok (.invokestatic 196, 3) := by decide +kernel
theorem dX12_partsNow_191 : decode cX12_partsNow 191 = .ok (.lreturn, 1) := by decide +kernel
theorem dX12_parts_0 : decode cX12_parts 0 = .ok (.aload_n 0, 1) := by decide +kernel
theorem dX12_parts_1 : decode cX12_parts 1 = .ok (.iload_n 1, 1) := by decide +kernel
theorem dX12_parts_2 : decode cX12_parts 2 = .ok (.invokevirtual 101, 3) := by decide +kernel
theorem dX12_parts_5 : decode cX12_parts 5 = .ok (.ifCond .eq 12, 3) := by decide +kernel
theorem dX12_parts_8 : decode cX12_parts 8 = .ok (.iload_n 2, 1) := by decide +kernel
theorem dX12_parts_9 : decode cX12_parts 9 = .ok (.iconst 0, 1) := by decide +kernel
theorem dX12_parts_10 : decode cX12_parts 10 = .ok (.iconst 1, 1) := by decide +kernel
theorem dX12_parts_11 : decode cX12_parts 11 = .ok (.invokestatic 87, 3) := by decide +kernel
theorem dX12_parts_14 : decode cX12_parts 14 = .ok (.ifCond .ne 9, 3) := by decide +kernel
theorem dX12_parts_17 : decode cX12_parts 17 = .ok (.bipush (-2), 2) := by decide +kernel
theorem dX12_parts_19 : decode cX12_parts 19 = .ok (.invokestatic 192, 3) := by decide +kernel
theorem dX12_parts_22 : decode cX12_parts 22 = .ok (.lreturn, 1) := by decide +kernel
theorem dX12_parts_23 : decode cX12_parts 23 = .ok (.aload_n 0, 1) := by decide +kernel
theorem dX12_parts_24 : decode cX12_parts 24 = .ok (.invokevirtual 131, 3) := by decide +kernel
theorem dX12_parts_27 : decode cX12_parts 27 = .ok (.aload_n 0, 1) := by decide +kernel
theorem dX12_parts_28 : decode cX12_parts 28 = .ok (.iload_n 1, 1) := by decide +kernel
theorem dX12_parts_29 : decode cX12_parts 29 = .ok (.iload_n 2, 1) := by decide +kernel
theorem dX12_parts_30 : decode cX12_parts 30 = .ok (.invokevirtual 265, 3) := by decide +kernel
theorem dX12_parts_33 : decode cX12_parts 33 = .ok (.lreturn, 1) := by decide +kernel
theorem dX12_meets_0 : decode cX12_meets 0 = .ok (.aload_n 0, 1) := by decide +kernel
theorem dX12_meets_1 : decode cX12_meets 1 = .ok (.iload_n 1, 1) := by decide +kernel
theorem dX12_meets_2 : decode cX12_meets 2 = .ok (.putfield 268, 3) := by decide +kernel
theorem dX12_meets_5 : decode cX12_meets 5 = .ok (.bipush (-10), 2) := by decide +kernel
theorem dX12_meets_7 : decode cX12_meets 7 = .ok (.iload_n 1, 1) := by decide +kernel
theorem dX12_meets_8 : decode cX12_meets 8 = .ok (.isub, 1) := by decide +kernel
theorem dX12_meets_9 : decode cX12_meets 9 = .ok (.ireturn, 1) := by decide +kernel
theorem dX12_isSheet_0 : decode cX12_isSheet 0 = .ok (.iload_n 0, 1) := by decide +kernel
theorem dX12_isSheet_1 : decode cX12_isSheet 1 = .ok (.iconst 0, 1) := by decide +kernel
theorem dX12_isSheet_2 : decode cX12_isSheet 2 = .ok (.iconst 3, 1) := by decide +kernel
theorem dX12_isSheet_3 : decode cX12_isSheet 3 = .ok (.invokestatic 87, 3) := by decide +kernel
theorem dX12_isSheet_6 : decode cX12_isSheet 6 = .ok (.ireturn, 1) := by decide +kernel
theorem dX12_sheet_0 : decode cX12_sheet 0 = .ok (.iload_n 1, 1) := by decide +kernel
theorem dX12_sheet_1 : decode cX12_sheet 1 = .ok (.invokestatic 125, 3) := by decide +kernel
theorem dX12_sheet_4 : decode cX12_sheet 4 = .ok (.ifCond .eq 18, 3) := by decide +kernel
theorem dX12_sheet_7 : decode cX12_sheet 7 = .ok (.iload_n 2, 1) := by decide +kernel
theorem dX12_sheet_8 : decode cX12_sheet 8 = .ok (.iconst 0, 1) := by decide +kernel
theorem dX12_sheet_9 : decode cX12_sheet 9 = .ok (.iconst 2, 1) := by decide +kernel
theorem dX12_sheet_10 : decode cX12_sheet 10 = .ok (.invokestatic 87, 3) := by decide +kernel
theorem dX12_sheet_13 : decode cX12_sheet 13 = .ok (.ifCond .eq 9, 3) := by decide +kernel
theorem dX12_sheet_16 : decode cX12_sheet 16 = .ok (.iload_n 3, 1) := by decide +kernel
theorem dX12_sheet_17 : decode cX12_sheet 17 = .ok (.bipush 48, 2) := by decide +kernel
theorem dX12_sheet_19 : decode cX12_sheet 19 = .ok (.if_icmp .le 6, 3) := by decide +kernel
theorem dX12_sheet_22 : decode cX12_sheet 22 = .ok (.bipush (-2), 2) := by decide +kernel
theorem dX12_sheet_24 : decode cX12_sheet 24 = .ok (.ireturn, 1) := by decide +kernel
theorem dX12_sheet_25 : decode cX12_sheet 25 = .ok (.iload_n 3, 1) := by decide +kernel
theorem dX12_sheet_26 : decode cX12_sheet 26 = .ok (.ifCond .ge 9, 3) := by decide +kernel
theorem dX12_sheet_29 : decode cX12_sheet 29 = .ok (.aload_n 0, 1) := by decide +kernel
theorem dX12_sheet_30 : decode cX12_sheet 30 = .ok (.iconst 5, 1) := by decide +kernel
theorem dX12_sheet_31 : decode cX12_sheet 31 = .ok (.invokevirtual 128, 3) := by decide +kernel
theorem dX12_sheet_34 : decode cX12_sheet 34 = .ok (.ireturn, 1) := by decide +kernel
theorem dX12_sheet_35 : decode cX12_sheet 35 = .ok (.aload_n 0, 1) := by decide +kernel
theorem dX12_sheet_36 : decode cX12_sheet 36 = .ok (.getfield 65, 3) := by decide +kernel
theorem dX12_sheet_39 : decode cX12_sheet 39 = .ok (.iload_n 1, 1) := by decide +kernel
theorem dX12_sheet_40 : decode cX12_sheet 40 = .ok (.iconst 1, 1) := by decide +kernel
theorem dX12_sheet_41 : decode cX12_sheet 41 = .ok (.bastore, 1) := by decide +kernel
theorem dX12_sheet_42 : decode cX12_sheet 42 = .ok (.aload_n 0, 1) := by decide +kernel
theorem dX12_sheet_43 : decode cX12_sheet 43 = .ok (.getfield 69, 3) := by decide +kernel
theorem dX12_sheet_46 : decode cX12_sheet 46 = .ok (.iload_n 1, 1) := by decide +kernel
theorem dX12_sheet_47 : decode cX12_sheet 47 = .ok (.iload_n 2, 1) := by decide +kernel
theorem dX12_sheet_48 : decode cX12_sheet 48 = .ok (.iastore, 1) := by decide +kernel
theorem dX12_sheet_49 : decode cX12_sheet 49 = .ok (.aload_n 0, 1) := by decide +kernel
theorem dX12_sheet_50 : decode cX12_sheet 50 = .ok (.getfield 72, 3) := by decide +kernel
theorem dX12_sheet_53 : decode cX12_sheet 53 = .ok (.iload_n 1, 1) := by decide +kernel
theorem dX12_sheet_54 : decode cX12_sheet 54 = .ok (.iload_n 3, 1) := by decide +kernel
theorem dX12_sheet_55 : decode cX12_sheet 55 = .ok (.iastore, 1) := by decide +kernel
theorem dX12_sheet_56 : decode cX12_sheet 56 = .ok (.iconst 0, 1) := by decide +kernel
theorem dX12_sheet_57 : decode cX12_sheet 57 = .ok (.istore 4, 2) := by decide +kernel
theorem dX12_sheet_59 : decode cX12_sheet 59 = .ok (.iload 4, 2) := by decide +kernel
theorem dX12_sheet_61 : decode cX12_sheet 61 = .ok (.bipush 48, 2) := by decide +kernel
theorem dX12_sheet_63 : decode cX12_sheet 63 = .ok (.if_icmp .ge 22, 3) := by decide +kernel
theorem dX12_sheet_66 : decode cX12_sheet 66 = .ok (.aload_n 0, 1) := by decide +kernel
theorem dX12_sheet_67 : decode cX12_sheet 67 = .ok (.getfield 75, 3) := by decide +kernel
theorem dX12_sheet_70 : decode cX12_sheet 70 = .ok (.bipush 48, 2) := by decide +kernel
theorem dX12_sheet_72 : decode cX12_sheet 72 = .ok (.iload_n 1, 1) := by decide +kernel
theorem dX12_sheet_73 : decode cX12_sheet 73 = .ok (.imul, 1) := by decide +kernel
theorem dX12_sheet_74 : decode cX12_sheet 74 = .ok (.iload 4, 2) := by decide +kernel
theorem dX12_sheet_76 : decode cX12_sheet 76 = .ok (.iadd, 1) := by decide +kernel
theorem dX12_sheet_77 : decode cX12_sheet 77 = .ok (.iconst 0, 1) := by decide +kernel
theorem dX12_sheet_78 : decode cX12_sheet 78 = .ok (.iastore, 1) := by decide +kernel
theorem dX12_sheet_79 : decode cX12_sheet 79 = .ok (.iinc 4 1, 3) := by decide +kernel
theorem dX12_sheet_82 : decode cX12_sheet 82 = .ok (.goto (-23), 3) := by decide +kernel
theorem dX12_sheet_85 : decode cX12_sheet 85 = .ok (.iload_n 3, 1) := by decide +kernel
theorem dX12_sheet_86 : decode cX12_sheet 86 = .ok (.ireturn, 1) := by decide +kernel
theorem dX12_lose_0 : decode cX12_lose 0 = .ok (.iload_n 1, 1) := by decide +kernel
theorem dX12_lose_1 : decode cX12_lose 1 = .ok (.invokestatic 125, 3) := by decide +kernel
theorem dX12_lose_4 : decode cX12_lose 4 = .ok (.ifCond .ne 6, 3) := by decide +kernel
theorem dX12_lose_7 : decode cX12_lose 7 = .ok (.bipush (-2), 2) := by decide +kernel
theorem dX12_lose_9 : decode cX12_lose 9 = .ok (.ireturn, 1) := by decide +kernel
theorem dX12_lose_10 : decode cX12_lose 10 = .ok (.aload_n 0, 1) := by decide +kernel
theorem dX12_lose_11 : decode cX12_lose 11 = .ok (.getfield 65, 3) := by decide +kernel
theorem dX12_lose_14 : decode cX12_lose 14 = .ok (.iload_n 1, 1) := by decide +kernel
theorem dX12_lose_15 : decode cX12_lose 15 = .ok (.baload, 1) := by decide +kernel
theorem dX12_lose_16 : decode cX12_lose 16 = .ok (.ifCond .ne 9, 3) := by decide +kernel
theorem dX12_lose_19 : decode cX12_lose 19 = .ok (.aload_n 0, 1) := by decide +kernel
theorem dX12_lose_20 : decode cX12_lose 20 = .ok (.iconst 1, 1) := by decide +kernel
theorem dX12_lose_21 : decode cX12_lose 21 = .ok (.invokevirtual 128, 3) := by decide +kernel
theorem dX12_lose_24 : decode cX12_lose 24 = .ok (.ireturn, 1) := by decide +kernel
theorem dX12_lose_25 : decode cX12_lose 25 = .ok (.aload_n 0, 1) := by decide +kernel
theorem dX12_lose_26 : decode cX12_lose 26 = .ok (.getfield 65, 3) := by decide +kernel
theorem dX12_lose_29 : decode cX12_lose 29 = .ok (.iload_n 1, 1) := by decide +kernel
theorem dX12_lose_30 : decode cX12_lose 30 = .ok (.iconst 0, 1) := by decide +kernel
theorem dX12_lose_31 : decode cX12_lose 31 = .ok (.bastore, 1) := by decide +kernel
theorem dX12_lose_32 : decode cX12_lose 32 = .ok (.aload_n 0, 1) := by decide +kernel
theorem dX12_lose_33 : decode cX12_lose 33 = .ok (.getfield 72, 3) := by decide +kernel
theorem dX12_lose_36 : decode cX12_lose 36 = .ok (.iload_n 1, 1) := by decide +kernel
theorem dX12_lose_37 : decode cX12_lose 37 = .ok (.iaload, 1) := by decide +kernel
theorem dX12_lose_38 : decode cX12_lose 38 = .ok (.ireturn, 1) := by decide +kernel
theorem dX12_lacks_0 : decode cX12_lacks 0 = .ok (.aload_n 0, 1) := by decide +kernel
theorem dX12_lacks_1 : decode cX12_lacks 1 = .ok (.getfield 65, 3) := by decide +kernel
theorem dX12_lacks_4 : decode cX12_lacks 4 = .ok (.iload_n 1, 1) := by decide +kernel
theorem dX12_lacks_5 : decode cX12_lacks 5 = .ok (.baload, 1) := by decide +kernel
theorem dX12_lacks_6 : decode cX12_lacks 6 = .ok (.ifCond .ne 7, 3) := by decide +kernel
theorem dX12_lacks_9 : decode cX12_lacks 9 = .ok (.iconst 1, 1) := by decide +kernel
theorem dX12_lacks_10 : decode cX12_lacks 10 = .ok (.goto 38, 3) := by decide +kernel
theorem dX12_lacks_13 : decode cX12_lacks 13 = .ok (.aload_n 0, 1) := by decide +kernel
theorem dX12_lacks_14 : decode cX12_lacks 14 = .ok (.getfield 69, 3) := by decide +kernel
theorem dX12_lacks_17 : decode cX12_lacks 17 = .ok (.iload_n 1, 1) := by decide +kernel
theorem dX12_lacks_18 : decode cX12_lacks 18 = .ok (.iaload, 1) := by decide +kernel
theorem dX12_lacks_19 : decode cX12_lacks 19 = .ok (.iload_n 2, 1) := by decide +kernel
theorem dX12_lacks_20 : decode cX12_lacks 20 = .ok (.if_icmp .eq 7, 3) := by decide +kernel
theorem dX12_lacks_23 : decode cX12_lacks 23 = .ok (.iconst 3, 1) := by decide +kernel
theorem dX12_lacks_24 : decode cX12_lacks 24 = .ok (.goto 24, 3) := by decide +kernel
theorem dX12_lacks_27 : decode cX12_lacks 27 = .ok (.iload_n 3, 1) := by decide +kernel
theorem dX12_lacks_28 : decode cX12_lacks 28 = .ok (.iconst 0, 1) := by decide +kernel
theorem dX12_lacks_29 : decode cX12_lacks 29 = .ok (.aload_n 0, 1) := by decide +kernel
theorem dX12_lacks_30 : decode cX12_lacks 30 = .ok (.getfield 72, 3) := by decide +kernel
theorem dX12_lacks_33 : decode cX12_lacks 33 = .ok (.iload_n 1, 1) := by decide +kernel
theorem dX12_lacks_34 : decode cX12_lacks 34 = .ok (.iaload, 1) := by decide +kernel
theorem dX12_lacks_35 : decode cX12_lacks 35 = .ok (.iconst 1, 1) := by decide +kernel
theorem dX12_lacks_36 : decode cX12_lacks 36 = .ok (.isub, 1) := by decide +kernel
theorem dX12_lacks_37 : decode cX12_lacks 37 = .ok (.invokestatic 87, 3) := by decide +kernel
theorem dX12_lacks_40 : decode cX12_lacks 40 = .ok (.ifCond .eq 7, 3) := by decide +kernel
theorem dX12_lacks_43 : decode cX12_lacks 43 = .ok (.iconst 0, 1) := by decide +kernel
theorem dX12_lacks_44 : decode cX12_lacks 44 = .ok (.goto 4, 3) := by decide +kernel
theorem dX12_lacks_47 : decode cX12_lacks 47 = .ok (.iconst 2, 1) := by decide +kernel
theorem dX12_lacks_48 : decode cX12_lacks 48 = .ok (.ireturn, 1) := by decide +kernel
theorem dX12_keep_0 : decode cX12_keep 0 = .ok (.aload_n 0, 1) := by decide +kernel
theorem dX12_keep_1 : decode cX12_keep 1 = .ok (.getfield 75, 3) := by decide +kernel
theorem dX12_keep_4 : decode cX12_keep 4 = .ok (.bipush 48, 2) := by decide +kernel
theorem dX12_keep_6 : decode cX12_keep 6 = .ok (.iload_n 1, 1) := by decide +kernel
theorem dX12_keep_7 : decode cX12_keep 7 = .ok (.imul, 1) := by decide +kernel
theorem dX12_keep_8 : decode cX12_keep 8 = .ok (.iload_n 2, 1) := by decide +kernel
theorem dX12_keep_9 : decode cX12_keep 9 = .ok (.iadd, 1) := by decide +kernel
theorem dX12_keep_10 : decode cX12_keep 10 = .ok (.aload_n 0, 1) := by decide +kernel
theorem dX12_keep_11 : decode cX12_keep 11 = .ok (.getfield 69, 3) := by decide +kernel
theorem dX12_keep_14 : decode cX12_keep 14 = .ok (.iload_n 1, 1) := by decide +kernel
theorem dX12_keep_15 : decode cX12_keep 15 = .ok (.iaload, 1) := by decide +kernel
theorem dX12_keep_16 : decode cX12_keep 16 = .ok (.ifCond .ne 8, 3) := by decide +kernel
theorem dX12_keep_19 : decode cX12_keep 19 = .ok (.iload_n 3, 1) := by decide +kernel
theorem dX12_keep_20 : decode cX12_keep 20 = .ok (.i2b, 1) := by decide +kernel
theorem dX12_keep_21 : decode cX12_keep 21 = .ok (.goto 19, 3) := by decide +kernel
theorem dX12_keep_24 : decode cX12_keep 24 = .ok (.aload_n 0, 1) := by decide +kernel
theorem dX12_keep_25 : decode cX12_keep 25 = .ok (.getfield 69, 3) := by decide +kernel
theorem dX12_keep_28 : decode cX12_keep 28 = .ok (.iload_n 1, 1) := by decide +kernel
theorem dX12_keep_29 : decode cX12_keep 29 = .ok (.iaload, 1) := by decide +kernel
theorem dX12_keep_30 : decode cX12_keep 30 = .ok (.iconst 1, 1) := by decide +kernel
theorem dX12_keep_31 : decode cX12_keep 31 = .ok (.if_icmp .ne 8, 3) := by decide +kernel
theorem dX12_keep_34 : decode cX12_keep 34 = .ok (.iload_n 3, 1) := by decide +kernel
theorem dX12_keep_35 : decode cX12_keep 35 = .ok (.i2s, 1) := by decide +kernel
theorem dX12_keep_36 : decode cX12_keep 36 = .ok (.goto 4, 3) := by decide +kernel
theorem dX12_keep_39 : decode cX12_keep 39 = .ok (.iload_n 3, 1) := by decide +kernel
theorem dX12_keep_40 : decode cX12_keep 40 = .ok (.iastore, 1) := by decide +kernel
theorem dX12_keep_41 : decode cX12_keep 41 = .ok (.return_, 1) := by decide +kernel
theorem dX12_put_0 : decode cX12_put 0 = .ok (.iload_n 1, 1) := by decide +kernel
theorem dX12_put_1 : decode cX12_put 1 = .ok (.invokestatic 125, 3) := by decide +kernel
theorem dX12_put_4 : decode cX12_put 4 = .ok (.ifCond .eq 12, 3) := by decide +kernel
theorem dX12_put_7 : decode cX12_put 7 = .ok (.iload_n 2, 1) := by decide +kernel
theorem dX12_put_8 : decode cX12_put 8 = .ok (.iconst 0, 1) := by decide +kernel
theorem dX12_put_9 : decode cX12_put 9 = .ok (.iconst 2, 1) := by decide +kernel
theorem dX12_put_10 : decode cX12_put 10 = .ok (.invokestatic 87, 3) := by decide +kernel
theorem dX12_put_13 : decode cX12_put 13 = .ok (.ifCond .ne 6, 3) := by decide +kernel
theorem dX12_put_16 : decode cX12_put 16 = .ok (.bipush (-2), 2) := by decide +kernel
theorem dX12_put_18 : decode cX12_put 18 = .ok (.ireturn, 1) := by decide +kernel
theorem dX12_put_19 : decode cX12_put 19 = .ok (.aload_n 0, 1) := by decide +kernel
theorem dX12_put_20 : decode cX12_put 20 = .ok (.iload_n 1, 1) := by decide +kernel
theorem dX12_put_21 : decode cX12_put 21 = .ok (.iload_n 2, 1) := by decide +kernel
theorem dX12_put_22 : decode cX12_put 22 = .ok (.iload_n 3, 1) := by decide +kernel
theorem dX12_put_23 : decode cX12_put 23 = .ok (.invokevirtual 271, 3) := by decide +kernel
theorem dX12_put_26 : decode cX12_put 26 = .ok (.istore 5, 2) := by decide +kernel
theorem dX12_put_28 : decode cX12_put 28 = .ok (.iload 5, 2) := by decide +kernel
theorem dX12_put_30 : decode cX12_put 30 = .ok (.ifCond .le 10, 3) := by decide +kernel
theorem dX12_put_33 : decode cX12_put 33 = .ok (.aload_n 0, 1) := by decide +kernel
theorem dX12_put_34 : decode cX12_put 34 = .ok (.iload 5, 2) := by decide +kernel
theorem dX12_put_36 : decode cX12_put 36 = .ok (.invokevirtual 128, 3) := by decide +kernel
theorem dX12_put_39 : decode cX12_put 39 = .ok (.ireturn, 1) := by decide +kernel
theorem dX12_put_40 : decode cX12_put 40 = .ok (.aload_n 0, 1) := by decide +kernel
theorem dX12_put_41 : decode cX12_put 41 = .ok (.iload_n 1, 1) := by decide +kernel
theorem dX12_put_42 : decode cX12_put 42 = .ok (.iload_n 3, 1) := by decide +kernel
theorem dX12_put_43 : decode cX12_put 43 = .ok (.iload 4, 2) := by decide +kernel
theorem dX12_put_45 : decode cX12_put 45 = .ok (.invokevirtual 275, 3) := by decide +kernel
theorem dX12_put_48 : decode cX12_put 48 = .ok (.iconst 1, 1) := by decide +kernel
theorem dX12_put_49 : decode cX12_put 49 = .ok (.ireturn, 1) := by decide +kernel
theorem dX12_get_0 : decode cX12_get 0 = .ok (.iload_n 1, 1) := by decide +kernel
theorem dX12_get_1 : decode cX12_get 1 = .ok (.invokestatic 125, 3) := by decide +kernel
theorem dX12_get_4 : decode cX12_get 4 = .ok (.ifCond .eq 12, 3) := by decide +kernel
theorem dX12_get_7 : decode cX12_get 7 = .ok (.iload_n 2, 1) := by decide +kernel
theorem dX12_get_8 : decode cX12_get 8 = .ok (.iconst 0, 1) := by decide +kernel
theorem dX12_get_9 : decode cX12_get 9 = .ok (.iconst 2, 1) := by decide +kernel
theorem dX12_get_10 : decode cX12_get 10 = .ok (.invokestatic 87, 3) := by decide +kernel
theorem dX12_get_13 : decode cX12_get 13 = .ok (.ifCond .ne 7, 3) := by decide +kernel
theorem dX12_get_16 : decode cX12_get 16 = .ok (.ldc_w 279, 3) := by decide +kernel
theorem dX12_get_19 : decode cX12_get 19 = .ok (.ireturn, 1) := by decide +kernel
theorem dX12_get_20 : decode cX12_get 20 = .ok (.aload_n 0, 1) := by decide +kernel
theorem dX12_get_21 : decode cX12_get 21 = .ok (.iload_n 1, 1) := by decide +kernel
theorem dX12_get_22 : decode cX12_get 22 = .ok (.iload_n 2, 1) := by decide +kernel
theorem dX12_get_23 : decode cX12_get 23 = .ok (.iload_n 3, 1) := by decide +kernel
theorem dX12_get_24 : decode cX12_get 24 = .ok (.invokevirtual 271, 3) := by decide +kernel
theorem dX12_get_27 : decode cX12_get 27 = .ok (.istore 4, 2) := by decide +kernel
theorem dX12_get_29 : decode cX12_get 29 = .ok (.iload 4, 2) := by decide +kernel
theorem dX12_get_31 : decode cX12_get 31 = .ok (.ifCond .le 13, 3) := by decide +kernel
theorem dX12_get_34 : decode cX12_get 34 = .ok (.aload_n 0, 1) := by decide +kernel
theorem dX12_get_35 : decode cX12_get 35 = .ok (.iload 4, 2) := by decide +kernel
theorem dX12_get_37 : decode cX12_get 37 = .ok (.putfield 268, 3) := by decide +kernel
theorem dX12_get_40 : decode cX12_get 40 = .ok (.ldc_w 279, 3) := by decide +kernel
theorem dX12_get_43 : decode cX12_get 43 = .ok (.ireturn, 1) := by decide +kernel
theorem dX12_get_44 : decode cX12_get 44 = .ok (.aload_n 0, 1) := by decide +kernel
theorem dX12_get_45 : decode cX12_get 45 = .ok (.getfield 75, 3) := by decide +kernel
theorem dX12_get_48 : decode cX12_get 48 = .ok (.bipush 48, 2) := by decide +kernel
theorem dX12_get_50 : decode cX12_get 50 = .ok (.iload_n 1, 1) := by decide +kernel
theorem dX12_get_51 : decode cX12_get 51 = .ok (.imul, 1) := by decide +kernel
theorem dX12_get_52 : decode cX12_get 52 = .ok (.iload_n 3, 1) := by decide +kernel
theorem dX12_get_53 : decode cX12_get 53 = .ok (.iadd, 1) := by decide +kernel
theorem dX12_get_54 : decode cX12_get 54 = .ok (.iaload, 1) := by decide +kernel
theorem dX12_get_55 : decode cX12_get 55 = .ok (.ireturn, 1) := by decide +kernel
theorem dX12_copy_0 : decode cX12_copy 0 = .ok (.iload_n 1, 1) := by decide +kernel
theorem dX12_copy_1 : decode cX12_copy 1 = .ok (.invokestatic 125, 3) := by decide +kernel
theorem dX12_copy_4 : decode cX12_copy 4 = .ok (.ifCond .eq 10, 3) := by decide +kernel
theorem dX12_copy_7 : decode cX12_copy 7 = .ok (.iload_n 3, 1) := by decide +kernel
theorem dX12_copy_8 : decode cX12_copy 8 = .ok (.invokestatic 125, 3) := by decide +kernel
theorem dX12_copy_11 : decode cX12_copy 11 = .ok (.ifCond .ne 6, 3) := by decide +kernel
theorem dX12_copy_14 : decode cX12_copy 14 = .ok (.bipush (-2), 2) := by decide +kernel
theorem dX12_copy_16 : decode cX12_copy 16 = .ok (.ireturn, 1) := by decide +kernel
theorem dX12_copy_17 : decode cX12_copy 17 = .ok (.aload_n 0, 1) := by decide +kernel
theorem dX12_copy_18 : decode cX12_copy 18 = .ok (.getfield 65, 3) := by decide +kernel
theorem dX12_copy_21 : decode cX12_copy 21 = .ok (.iload_n 1, 1) := by decide +kernel
theorem dX12_copy_22 : decode cX12_copy 22 = .ok (.baload, 1) := by decide +kernel
theorem dX12_copy_23 : decode cX12_copy 23 = .ok (.ifCond .eq 12, 3) := by decide +kernel
theorem dX12_copy_26 : decode cX12_copy 26 = .ok (.aload_n 0, 1) := by decide +kernel
theorem dX12_copy_27 : decode cX12_copy 27 = .ok (.getfield 65, 3) := by decide +kernel
theorem dX12_copy_30 : decode cX12_copy 30 = .ok (.iload_n 3, 1) := by decide +kernel
theorem dX12_copy_31 : decode cX12_copy 31 = .ok (.baload, 1) := by decide +kernel
theorem dX12_copy_32 : decode cX12_copy 32 = .ok (.ifCond .ne 9, 3) := by decide +kernel
theorem dX12_copy_35 : decode cX12_copy 35 = .ok (.aload_n 0, 1) := by decide +kernel
theorem dX12_copy_36 : decode cX12_copy 36 = .ok (.iconst 1, 1) := by decide +kernel
theorem dX12_copy_37 : decode cX12_copy 37 = .ok (.invokevirtual 128, 3) := by decide +kernel
theorem dX12_copy_40 : decode cX12_copy 40 = .ok (.ireturn, 1) := by decide +kernel
theorem dX12_copy_41 : decode cX12_copy 41 = .ok (.aload_n 0, 1) := by decide +kernel
theorem dX12_copy_42 : decode cX12_copy 42 = .ok (.getfield 69, 3) := by decide +kernel
theorem dX12_copy_45 : decode cX12_copy 45 = .ok (.iload_n 1, 1) := by decide +kernel
theorem dX12_copy_46 : decode cX12_copy 46 = .ok (.iaload, 1) := by decide +kernel
theorem dX12_copy_47 : decode cX12_copy 47 = .ok (.aload_n 0, 1) := by decide +kernel
theorem dX12_copy_48 : decode cX12_copy 48 = .ok (.getfield 69, 3) := by decide +kernel
theorem dX12_copy_51 : decode cX12_copy 51 = .ok (.iload_n 3, 1) := by decide +kernel
theorem dX12_copy_52 : decode cX12_copy 52 = .ok (.iaload, 1) := by decide +kernel
theorem dX12_copy_53 : decode cX12_copy 53 = .ok (.if_icmp .eq 9, 3) := by decide +kernel
theorem dX12_copy_56 : decode cX12_copy 56 = .ok (.aload_n 0, 1) := by decide +kernel
theorem dX12_copy_57 : decode cX12_copy 57 = .ok (.iconst 4, 1) := by decide +kernel
theorem dX12_copy_58 : decode cX12_copy 58 = .ok (.invokevirtual 128, 3) := by decide +kernel
theorem dX12_copy_61 : decode cX12_copy 61 = .ok (.ireturn, 1) := by decide +kernel
theorem dX12_copy_62 : decode cX12_copy 62 = .ok (.iload_n 2, 1) := by decide +kernel
theorem dX12_copy_63 : decode cX12_copy 63 = .ok (.ifCond .lt 48, 3) := by decide +kernel
theorem dX12_copy_66 : decode cX12_copy 66 = .ok (.iload 4, 2) := by decide +kernel
theorem dX12_copy_68 : decode cX12_copy 68 = .ok (.ifCond .lt 43, 3) := by decide +kernel
theorem dX12_copy_71 : decode cX12_copy 71 = .ok (.iload 5, 2) := by decide +kernel
theorem dX12_copy_73 : decode cX12_copy 73 = .ok (.ifCond .lt 38, 3) := by decide +kernel
theorem dX12_copy_76 : decode cX12_copy 76 = .ok (.iload_n 2, 1) := by decide +kernel
theorem dX12_copy_77 : decode cX12_copy 77 = .ok (.i2l, 1) := by decide +kernel
theorem dX12_copy_78 : decode cX12_copy 78 = .ok (.iload 5, 2) := by decide +kernel
theorem dX12_copy_80 : decode cX12_copy 80 = .ok (.i2l, 1) := by decide +kernel
theorem dX12_copy_81 : decode cX12_copy 81 = .ok (.ladd, 1) := by decide +kernel
theorem dX12_copy_82 : decode cX12_copy 82 = .ok (.aload_n 0, 1) := by decide +kernel
theorem dX12_copy_83 : decode cX12_copy 83 = .ok (.getfield 72, 3) := by decide +kernel
theorem dX12_copy_86 : decode cX12_copy 86 = .ok (.iload_n 1, 1) := by decide +kernel
theorem dX12_copy_87 : decode cX12_copy 87 = .ok (.iaload, 1) := by decide +kernel
theorem dX12_copy_88 : decode cX12_copy 88 = .ok (.i2l, 1) := by decide +kernel
theorem dX12_copy_89 : decode cX12_copy 89 = .ok (.lcmp, 1) := by decide +kernel
theorem dX12_copy_90 : decode cX12_copy 90 = .ok (.ifCond .gt 21, 3) := by decide +kernel
theorem dX12_copy_93 : decode cX12_copy 93 = .ok (.iload 4, 2) := by decide +kernel
theorem dX12_copy_95 : decode cX12_copy 95 = .ok (.i2l, 1) := by decide +kernel
theorem dX12_copy_96 : decode cX12_copy 96 = .ok (.iload 5, 2) := by decide +kernel
theorem dX12_copy_98 : decode cX12_copy 98 = .ok (.i2l, 1) := by decide +kernel
theorem dX12_copy_99 : decode cX12_copy 99 = .ok (.ladd, 1) := by decide +kernel
theorem dX12_copy_100 : decode cX12_copy 100 = .ok (.aload_n 0, 1) := by decide +kernel
theorem dX12_copy_101 : decode cX12_copy 101 = .ok (.getfield 72, 3) := by decide +kernel
theorem dX12_copy_104 : decode cX12_copy 104 = .ok (.iload_n 3, 1) := by decide +kernel
theorem dX12_copy_105 : decode cX12_copy 105 = .ok (.iaload, 1) := by decide +kernel
theorem dX12_copy_106 : decode cX12_copy 106 = .ok (.i2l, 1) := by decide +kernel
theorem dX12_copy_107 : decode cX12_copy 107 = .ok (.lcmp, 1) := by decide +kernel
theorem dX12_copy_108 : decode cX12_copy 108 = .ok (.ifCond .le 9, 3) := by decide +kernel
theorem dX12_copy_111 : decode cX12_copy 111 = .ok (.aload_n 0, 1) := by decide +kernel
theorem dX12_copy_112 : decode cX12_copy 112 = .ok (.iconst 2, 1) := by decide +kernel
theorem dX12_copy_113 : decode cX12_copy 113 = .ok (.invokevirtual 128, 3) := by decide +kernel
theorem dX12_copy_116 : decode cX12_copy 116 = .ok (.ireturn, 1) := by decide +kernel
theorem dX12_copy_117 : decode cX12_copy 117 = .ok (.iconst 0, 1) := by decide +kernel
theorem dX12_copy_118 : decode cX12_copy 118 = .ok (.istore 6, 2) := by decide +kernel
theorem dX12_copy_120 : decode cX12_copy 120 = .ok (.iload 6, 2) := by decide +kernel
theorem dX12_copy_122 : decode cX12_copy 122 = .ok (.iload 5, 2) := by decide +kernel
theorem dX12_copy_124 : decode cX12_copy 124 = .ok (.if_icmp .ge 30, 3) := by decide +kernel
theorem dX12_copy_127 : decode cX12_copy 127 = .ok (.aload_n 0, 1) := by decide +kernel
theorem dX12_copy_128 : decode cX12_copy 128 = .ok (.getfield 78, 3) := by decide +kernel
theorem dX12_copy_131 : decode cX12_copy 131 = .ok (.iload 6, 2) := by decide +kernel
theorem dX12_copy_133 : decode cX12_copy 133 = .ok (.aload_n 0, 1) := by decide +kernel
theorem dX12_copy_134 : decode cX12_copy 134 = .ok (.getfield 75, 3) := by decide +kernel
theorem dX12_copy_137 : decode cX12_copy 137 = .ok (.bipush 48, 2) := by decide +kernel
theorem dX12_copy_139 : decode cX12_copy 139 = .ok (.iload_n 1, 1) := by decide +kernel
theorem dX12_copy_140 : decode cX12_copy 140 = .ok (.imul, 1) := by decide +kernel
theorem dX12_copy_141 : decode cX12_copy 141 = .ok (.iload_n 2, 1) := by decide +kernel
theorem dX12_copy_142 : decode cX12_copy 142 = .ok (.iadd, 1) := by decide +kernel
theorem dX12_copy_143 : decode cX12_copy 143 = .ok (.iload 6, 2) := by decide +kernel
theorem dX12_copy_145 : decode cX12_copy 145 = .ok (.iadd, 1) := by decide +kernel
theorem dX12_copy_146 : decode cX12_copy 146 = .ok (.iaload, 1) := by decide +kernel
theorem dX12_copy_147 : decode cX12_copy 147 = .ok (.iastore, 1) := by decide +kernel
theorem dX12_copy_148 : decode cX12_copy 148 = .ok (.iinc 6 1, 3) := by decide +kernel
theorem dX12_copy_151 : decode cX12_copy 151 = .ok (.goto (-31), 3) := by decide +kernel
theorem dX12_copy_154 : decode cX12_copy 154 = .ok (.iconst 0, 1) := by decide +kernel
theorem dX12_copy_155 : decode cX12_copy 155 = .ok (.istore 6, 2) := by decide +kernel
theorem dX12_copy_157 : decode cX12_copy 157 = .ok (.iload 6, 2) := by decide +kernel
theorem dX12_copy_159 : decode cX12_copy 159 = .ok (.iload 5, 2) := by decide +kernel
theorem dX12_copy_161 : decode cX12_copy 161 = .ok (.if_icmp .ge 31, 3) := by decide +kernel
theorem dX12_copy_164 : decode cX12_copy 164 = .ok (.aload_n 0, 1) := by decide +kernel
theorem dX12_copy_165 : decode cX12_copy 165 = .ok (.getfield 75, 3) := by decide +kernel
theorem dX12_copy_168 : decode cX12_copy 168 = .ok (.bipush 48, 2) := by decide +kernel
theorem dX12_copy_170 : decode cX12_copy 170 = .ok (.iload_n 3, 1) := by decide +kernel
theorem dX12_copy_171 : decode cX12_copy 171 = .ok (.imul, 1) := by decide +kernel
theorem dX12_copy_172 : decode cX12_copy 172 = .ok (.iload 4, 2) := by decide +kernel
theorem dX12_copy_174 : decode cX12_copy 174 = .ok (.iadd, 1) := by decide +kernel
theorem dX12_copy_175 : decode cX12_copy 175 = .ok (.iload 6, 2) := by decide +kernel
theorem dX12_copy_177 : decode cX12_copy 177 = .ok (.iadd, 1) := by decide +kernel
theorem dX12_copy_178 : decode cX12_copy 178 = .ok (.aload_n 0, 1) := by decide +kernel
theorem dX12_copy_179 : decode cX12_copy 179 = .ok (.getfield 78, 3) := by decide +kernel
theorem dX12_copy_182 : decode cX12_copy 182 = .ok (.iload 6, 2) := by decide +kernel
theorem dX12_copy_184 : decode cX12_copy 184 = .ok (.iaload, 1) := by decide +kernel
theorem dX12_copy_185 : decode cX12_copy 185 = .ok (.iastore, 1) := by decide +kernel
theorem dX12_copy_186 : decode cX12_copy 186 = .ok (.iinc 6 1, 3) := by decide +kernel
theorem dX12_copy_189 : decode cX12_copy 189 = .ok (.goto (-32), 3) := by decide +kernel
theorem dX12_copy_192 : decode cX12_copy 192 = .ok (.iconst 1, 1) := by decide +kernel
theorem dX12_copy_193 : decode cX12_copy 193 = .ok (.ireturn, 1) := by decide +kernel
theorem dX12_write_0 : decode cX12_write 0 = .ok (.aload_n 0, 1) := by decide +kernel
theorem dX12_write_1 : decode cX12_write 1 = .ok (.iload_n 1, 1) := by decide +kernel
theorem dX12_write_2 : decode cX12_write 2 = .ok (.invokevirtual 115, 3) := by decide +kernel
theorem dX12_write_5 : decode cX12_write 5 = .ok (.ifCond .eq 10, 3) := by decide +kernel
theorem dX12_write_8 : decode cX12_write 8 = .ok (.iload_n 2, 1) := by decide +kernel
theorem dX12_write_9 : decode cX12_write 9 = .ok (.invokestatic 125, 3) := by decide +kernel
theorem dX12_write_12 : decode cX12_write 12 = .ok (.ifCond .ne 6, 3) := by decide +kernel
theorem dX12_write_15 : decode cX12_write 15 = .ok (.bipush (-2), 2) := by decide +kernel
theorem dX12_write_17 : decode cX12_write 17 = .ok (.ireturn, 1) := by decide +kernel
theorem dX12_write_18 : decode cX12_write 18 = .ok (.aload_n 0, 1) := by decide +kernel
theorem dX12_write_19 : decode cX12_write 19 = .ok (.getfield 65, 3) := by decide +kernel
theorem dX12_write_22 : decode cX12_write 22 = .ok (.iload_n 2, 1) := by decide +kernel
theorem dX12_write_23 : decode cX12_write 23 = .ok (.baload, 1) := by decide +kernel
theorem dX12_write_24 : decode cX12_write 24 = .ok (.ifCond .ne 9, 3) := by decide +kernel
theorem dX12_write_27 : decode cX12_write 27 = .ok (.aload_n 0, 1) := by decide +kernel
theorem dX12_write_28 : decode cX12_write 28 = .ok (.iconst 1, 1) := by decide +kernel
theorem dX12_write_29 : decode cX12_write 29 = .ok (.invokevirtual 128, 3) := by decide +kernel
theorem dX12_write_32 : decode cX12_write 32 = .ok (.ireturn, 1) := by decide +kernel
theorem dX12_write_33 : decode cX12_write 33 = .ok (.aload_n 0, 1) := by decide +kernel
theorem dX12_write_34 : decode cX12_write 34 = .ok (.invokevirtual 131, 3) := by decide +kernel
theorem dX12_write_37 : decode cX12_write 37 = .ok (.iconst 0, 1) := by decide +kernel
theorem dX12_write_38 : decode cX12_write 38 = .ok (.istore_n 3, 1) := by decide +kernel
theorem dX12_write_39 : decode cX12_write 39 = .ok (.iload_n 3, 1) := by decide +kernel
theorem dX12_write_40 : decode cX12_write 40 = .ok (.aload_n 0, 1) := by decide +kernel
theorem dX12_write_41 : decode cX12_write 41 = .ok (.getfield 81, 3) := by decide +kernel
theorem dX12_write_44 : decode cX12_write 44 = .ok (.if_icmp .ge 36, 3) := by decide +kernel
theorem dX12_write_47 : decode cX12_write 47 = .ok (.iload_n 3, 1) := by decide +kernel
theorem dX12_write_48 : decode cX12_write 48 = .ok (.aload_n 0, 1) := by decide +kernel
theorem dX12_write_49 : decode cX12_write 49 = .ok (.getfield 72, 3) := by decide +kernel
theorem dX12_write_52 : decode cX12_write 52 = .ok (.iload_n 2, 1) := by decide +kernel
theorem dX12_write_53 : decode cX12_write 53 = .ok (.iaload, 1) := by decide +kernel
theorem dX12_write_54 : decode cX12_write 54 = .ok (.if_icmp .ge 26, 3) := by decide +kernel
theorem dX12_write_57 : decode cX12_write 57 = .ok (.aload_n 0, 1) := by decide +kernel
theorem dX12_write_58 : decode cX12_write 58 = .ok (.iload_n 2, 1) := by decide +kernel
theorem dX12_write_59 : decode cX12_write 59 = .ok (.iload_n 3, 1) := by decide +kernel
theorem dX12_write_60 : decode cX12_write 60 = .ok (.aload_n 0, 1) := by decide +kernel
theorem dX12_write_61 : decode cX12_write 61 = .ok (.getfield 37, 3) := by decide +kernel
theorem dX12_write_64 : decode cX12_write 64 = .ok (.bipush 12, 2) := by decide +kernel
theorem dX12_write_66 : decode cX12_write 66 = .ok (.iload_n 1, 1) := by decide +kernel
theorem dX12_write_67 : decode cX12_write 67 = .ok (.imul, 1) := by decide +kernel
theorem dX12_write_68 : decode cX12_write 68 = .ok (.iload_n 3, 1) := by decide +kernel
theorem dX12_write_69 : decode cX12_write 69 = .ok (.iadd, 1) := by decide +kernel
theorem dX12_write_70 : decode cX12_write 70 = .ok (.iaload, 1) := by decide +kernel
theorem dX12_write_71 : decode cX12_write 71 = .ok (.invokevirtual 275, 3) := by decide +kernel
theorem dX12_write_74 : decode cX12_write 74 = .ok (.iinc 3 1, 3) := by decide +kernel
theorem dX12_write_77 : decode cX12_write 77 = .ok (.goto (-38), 3) := by decide +kernel
theorem dX12_write_80 : decode cX12_write 80 = .ok (.iload_n 3, 1) := by decide +kernel
theorem dX12_write_81 : decode cX12_write 81 = .ok (.ireturn, 1) := by decide +kernel
theorem dX12_sumOf_0 : decode cX12_sumOf 0 = .ok (.aload_n 0, 1) := by decide +kernel
theorem dX12_sumOf_1 : decode cX12_sumOf 1 = .ok (.invokevirtual 131, 3) := by decide +kernel
theorem dX12_sumOf_4 : decode cX12_sumOf 4 = .ok (.iload_n 1, 1) := by decide +kernel
theorem dX12_sumOf_5 : decode cX12_sumOf 5 = .ok (.iconst 1, 1) := by decide +kernel
theorem dX12_sumOf_6 : decode cX12_sumOf 6 = .ok (.if_icmp .ne 11, 3) := by decide +kernel
theorem dX12_sumOf_9 : decode cX12_sumOf 9 = .ok (.aload_n 0, 1) := by decide +kernel
theorem dX12_sumOf_10 : decode cX12_sumOf 10 = .ok (.iconst (-1), 1) := by decide +kernel
theorem dX12_sumOf_11 : decode cX12_sumOf 11 = .ok (.invokevirtual 151, 3) := by decide +kernel
theorem dX12_sumOf_14 : decode cX12_sumOf 14 = .ok (.goto 4, 3) := by decide +kernel
theorem dX12_sumOf_17 : decode cX12_sumOf 17 = .ok (.iconst 0, 1) := by decide +kernel
theorem dX12_sumOf_18 : decode cX12_sumOf 18 = .ok (.istore_n 2, 1) := by decide +kernel
theorem dX12_sumOf_19 : decode cX12_sumOf 19 = .ok (.iconst 0, 1) := by decide +kernel
theorem dX12_sumOf_20 : decode cX12_sumOf 20 = .ok (.istore_n 3, 1) := by decide +kernel
theorem dX12_sumOf_21 : decode cX12_sumOf 21 = .ok (.iload_n 3, 1) := by decide +kernel
theorem dX12_sumOf_22 : decode cX12_sumOf 22 = .ok (.aload_n 0, 1) := by decide +kernel
theorem dX12_sumOf_23 : decode cX12_sumOf 23 = .ok (.getfield 109, 3) := by decide +kernel
theorem dX12_sumOf_26 : decode cX12_sumOf 26 = .ok (.if_icmp .ge 127, 3) := by decide +kernel
theorem dX12_sumOf_29 : decode cX12_sumOf 29 = .ok (.iconst 0, 1) := by decide +kernel
theorem dX12_sumOf_30 : decode cX12_sumOf 30 = .ok (.istore 4, 2) := by decide +kernel
theorem dX12_sumOf_32 : decode cX12_sumOf 32 = .ok (.iload 4, 2) := by decide +kernel
theorem dX12_sumOf_34 : decode cX12_sumOf 34 = .ok (.aload_n 0, 1) := by decide +kernel
theorem dX12_sumOf_35 : decode cX12_sumOf 35 = .ok (.getfield 81, 3) := by decide +kernel
theorem dX12_sumOf_38 : decode cX12_sumOf 38 = .ok (.if_icmp .ge 37, 3) := by decide +kernel
theorem dX12_sumOf_41 : decode cX12_sumOf 41 = .ok (.iload_n 1, 1) := by decide +kernel
theorem dX12_sumOf_42 : decode cX12_sumOf 42 = .ok (.iconst 4, 1) := by decide +kernel
theorem dX12_sumOf_43 : decode cX12_sumOf 43 = .ok (.if_icmp .ne 32, 3) := by decide +kernel
theorem dX12_sumOf_46 : decode cX12_sumOf 46 = .ok (.iload_n 2, 1) := by decide +kernel
theorem dX12_sumOf_47 : decode cX12_sumOf 47 = .ok (.aload_n 0, 1) := by decide +kernel
theorem dX12_sumOf_48 : decode cX12_sumOf 48 = .ok (.getfield 37, 3) := by decide +kernel
theorem dX12_sumOf_51 : decode cX12_sumOf 51 = .ok (.bipush 12, 2) := by decide +kernel
theorem dX12_sumOf_53 : decode cX12_sumOf 53 = .ok (.iload_n 3, 1) := by decide +kernel
theorem dX12_sumOf_54 : decode cX12_sumOf 54 = .ok (.imul, 1) := by decide +kernel
theorem dX12_sumOf_55 : decode cX12_sumOf 55 = .ok (.iload 4, 2) := by decide +kernel
theorem dX12_sumOf_57 : decode cX12_sumOf 57 = .ok (.iadd, 1) := by decide +kernel
theorem dX12_sumOf_58 : decode cX12_sumOf 58 = .ok (.iaload, 1) := by decide +kernel
theorem dX12_sumOf_59 : decode cX12_sumOf 59 = .ok (.ifCond .ne 7, 3) := by decide +kernel
theorem dX12_sumOf_62 : decode cX12_sumOf 62 = .ok (.iconst 0, 1) := by decide +kernel
theorem dX12_sumOf_63 : decode cX12_sumOf 63 = .ok (.goto 4, 3) := by decide +kernel
theorem dX12_sumOf_66 : decode cX12_sumOf 66 = .ok (.iconst 1, 1) := by decide +kernel
theorem dX12_sumOf_67 : decode cX12_sumOf 67 = .ok (.iadd, 1) := by decide +kernel
theorem dX12_sumOf_68 : decode cX12_sumOf 68 = .ok (.istore_n 2, 1) := by decide +kernel
theorem dX12_sumOf_69 : decode cX12_sumOf 69 = .ok (.iinc 4 1, 3) := by decide +kernel
theorem dX12_sumOf_72 : decode cX12_sumOf 72 = .ok (.goto (-40), 3) := by decide +kernel
theorem dX12_sumOf_75 : decode cX12_sumOf 75 = .ok (.iconst 0, 1) := by decide +kernel
theorem dX12_sumOf_76 : decode cX12_sumOf 76 = .ok (.istore 4, 2) := by decide +kernel
theorem dX12_sumOf_78 : decode cX12_sumOf 78 = .ok (.iload 4, 2) := by decide +kernel
theorem dX12_sumOf_80 : decode cX12_sumOf 80 = .ok (.iload_n 3, 1) := by decide +kernel
theorem dX12_sumOf_81 : decode cX12_sumOf 81 = .ok (.if_icmp .ge 33, 3) := by decide +kernel
theorem dX12_sumOf_84 : decode cX12_sumOf 84 = .ok (.iload_n 1, 1) := by decide +kernel
theorem dX12_sumOf_85 : decode cX12_sumOf 85 = .ok (.bipush 6, 2) := by decide +kernel
theorem dX12_sumOf_87 : decode cX12_sumOf 87 = .ok (.if_icmp .ne 27, 3) := by decide +kernel
theorem dX12_sumOf_90 : decode cX12_sumOf 90 = .ok (.iload_n 2, 1) := by decide +kernel
theorem dX12_sumOf_91 : decode cX12_sumOf 91 = .ok (.aload_n 0, 1) := by decide +kernel
theorem dX12_sumOf_92 : decode cX12_sumOf 92 = .ok (.iload_n 3, 1) := by decide +kernel
theorem dX12_sumOf_93 : decode cX12_sumOf 93 = .ok (.iload 4, 2) := by decide +kernel
theorem dX12_sumOf_95 : decode cX12_sumOf 95 = .ok (.invokevirtual 189, 3) := by decide +kernel
theorem dX12_sumOf_98 : decode cX12_sumOf 98 = .ok (.ifCond .eq 7, 3) := by decide +kernel
theorem dX12_sumOf_101 : decode cX12_sumOf 101 = .ok (.iconst 1, 1) := by decide +kernel
theorem dX12_sumOf_102 : decode cX12_sumOf 102 = .ok (.goto 4, 3) := by decide +kernel
theorem dX12_sumOf_105 : decode cX12_sumOf 105 = .ok (.iconst 0, 1) := by decide +kernel
theorem dX12_sumOf_106 : decode cX12_sumOf 106 = .ok (.iadd, 1) := by decide +kernel
theorem dX12_sumOf_107 : decode cX12_sumOf 107 = .ok (.istore_n 2, 1) := by decide +kernel
theorem dX12_sumOf_108 : decode cX12_sumOf 108 = .ok (.iinc 4 1, 3) := by decide +kernel
theorem dX12_sumOf_111 : decode cX12_sumOf 111 = .ok (.goto (-33), 3) := by decide +kernel
theorem dX12_sumOf_114 : decode cX12_sumOf 114 = .ok (.iload_n 2, 1) := by decide +kernel
theorem dX12_sumOf_115 : decode cX12_sumOf 115 = .ok (.iload_n 1, 1) := by decide +kernel
theorem dX12_sumOf_116 : decode cX12_sumOf 116 = .ok (.iconst 5, 1) := by decide +kernel
theorem dX12_sumOf_117 : decode cX12_sumOf 117 = .ok (.if_icmp .ne 12, 3) := by decide +kernel
theorem dX12_sumOf_120 : decode cX12_sumOf 120 = .ok (.aload_n 0, 1) := by decide +kernel
theorem dX12_sumOf_121 : decode cX12_sumOf 121 = .ok (.iload_n 3, 1) := by decide +kernel
theorem dX12_sumOf_122 : decode cX12_sumOf 122 = .ok (.iconst (-1), 1) := by decide +kernel
theorem dX12_sumOf_123 : decode cX12_sumOf 123 = .ok (.invokevirtual 147, 3) := by decide +kernel
theorem dX12_sumOf_126 : decode cX12_sumOf 126 = .ok (.goto 19, 3) := by decide +kernel
theorem dX12_sumOf_129 : decode cX12_sumOf 129 = .ok (.iload_n 1, 1) := by decide +kernel
theorem dX12_sumOf_130 : decode cX12_sumOf 130 = .ok (.bipush 7, 2) := by decide +kernel
theorem dX12_sumOf_132 : decode cX12_sumOf 132 = .ok (.if_icmp .ne 12, 3) := by decide +kernel
theorem dX12_sumOf_135 : decode cX12_sumOf 135 = .ok (.aload_n 0, 1) := by decide +kernel
theorem dX12_sumOf_136 : decode cX12_sumOf 136 = .ok (.getfield 40, 3) := by decide +kernel
theorem dX12_sumOf_139 : decode cX12_sumOf 139 = .ok (.iload_n 3, 1) := by decide +kernel
theorem dX12_sumOf_140 : decode cX12_sumOf 140 = .ok (.iaload, 1) := by decide +kernel
theorem dX12_sumOf_141 : decode cX12_sumOf 141 = .ok (.goto 4, 3) := by decide +kernel
theorem dX12_sumOf_144 : decode cX12_sumOf 144 = .ok (.iconst 0, 1) := by decide +kernel
theorem dX12_sumOf_145 : decode cX12_sumOf 145 = .ok (.iadd, 1) := by decide +kernel
theorem dX12_sumOf_146 : decode cX12_sumOf 146 = .ok (.istore_n 2, 1) := by decide +kernel
theorem dX12_sumOf_147 : decode cX12_sumOf 147 = .ok (.iinc 3 1, 3) := by decide +kernel
theorem dX12_sumOf_150 : decode cX12_sumOf 150 = .ok (.goto (-129), 3) := by decide +kernel
theorem dX12_sumOf_153 : decode cX12_sumOf 153 = .ok (.iload_n 2, 1) := by decide +kernel
theorem dX12_sumOf_154 : decode cX12_sumOf 154 = .ok (.ireturn, 1) := by decide +kernel
theorem dX12_count_0 : decode cX12_count 0 = .ok (.iload_n 1, 1) := by decide +kernel
theorem dX12_count_1 : decode cX12_count 1 = .ok (.tableswitch 77 0 8 #[51, 56, 62, 67, 56, 56, 56, 56, 72], 51) := by decide +kernel
theorem dX12_count_52 : decode cX12_count 52 = .ok (.aload_n 0, 1) := by decide +kernel
theorem dX12_count_53 : decode cX12_count 53 = .ok (.getfield 81, 3) := by decide +kernel
theorem dX12_count_56 : decode cX12_count 56 = .ok (.ireturn, 1) := by decide +kernel
theorem dX12_count_57 : decode cX12_count 57 = .ok (.aload_n 0, 1) := by decide +kernel
theorem dX12_count_58 : decode cX12_count 58 = .ok (.iload_n 1, 1) := by decide +kernel
theorem dX12_count_59 : decode cX12_count 59 = .ok (.invokevirtual 280, 3) := by decide +kernel
theorem dX12_count_62 : decode cX12_count 62 = .ok (.ireturn, 1) := by decide +kernel
theorem dX12_count_63 : decode cX12_count 63 = .ok (.aload_n 0, 1) := by decide +kernel
theorem dX12_count_64 : decode cX12_count 64 = .ok (.getfield 109, 3) := by decide +kernel
theorem dX12_count_67 : decode cX12_count 67 = .ok (.ireturn, 1) := by decide +kernel
theorem dX12_count_68 : decode cX12_count 68 = .ok (.aload_n 0, 1) := by decide +kernel
theorem dX12_count_69 : decode cX12_count 69 = .ok (.getfield 112, 3) := by decide +kernel
theorem dX12_count_72 : decode cX12_count 72 = .ok (.ireturn, 1) := by decide +kernel
theorem dX12_count_73 : decode cX12_count 73 = .ok (.aload_n 0, 1) := by decide +kernel
theorem dX12_count_74 : decode cX12_count 74 = .ok (.getfield 268, 3) := by decide +kernel
theorem dX12_count_77 : decode cX12_count 77 = .ok (.ireturn, 1) := by decide +kernel
theorem dX12_count_78 : decode cX12_count 78 = .ok (.bipush (-2), 2) := by decide +kernel
theorem dX12_count_80 : decode cX12_count 80 = .ok (.ireturn, 1) := by decide +kernel
theorem dX12_digest_0 : decode cX12_digest 0 = .ok (.ldc2_w 283, 3) := by decide +kernel
theorem dX12_digest_3 : decode cX12_digest 3 = .ok (.lstore_n 1, 1) := by decide +kernel
theorem dX12_digest_4 : decode cX12_digest 4 = .ok (.iconst 0, 1) := by decide +kernel
theorem dX12_digest_5 : decode cX12_digest 5 = .ok (.istore_n 3, 1) := by decide +kernel
theorem dX12_digest_6 : decode cX12_digest 6 = .ok (.iload_n 3, 1) := by decide +kernel
theorem dX12_digest_7 : decode cX12_digest 7 = .ok (.bipush 8, 2) := by decide +kernel
theorem dX12_digest_9 : decode cX12_digest 9 = .ok (.if_icmp .ge 22, 3) := by decide +kernel
theorem dX12_digest_12 : decode cX12_digest 12 = .ok (.ldc2_w 285, 3) := by decide +kernel
theorem dX12_digest_15 : decode cX12_digest 15 = .ok (.lload_n 1, 1) := by decide +kernel
theorem dX12_digest_16 : decode cX12_digest 16 = .ok (.lmul, 1) := by decide +kernel
theorem dX12_digest_17 : decode cX12_digest 17 = .ok (.aload_n 0, 1) := by decide +kernel
theorem dX12_digest_18 : decode cX12_digest 18 = .ok (.iload_n 3, 1) := by decide +kernel
theorem dX12_digest_19 : decode cX12_digest 19 = .ok (.invokevirtual 287, 3) := by decide +kernel
theorem dX12_digest_22 : decode cX12_digest 22 = .ok (.i2l, 1) := by decide +kernel
theorem dX12_digest_23 : decode cX12_digest 23 = .ok (.ladd, 1) := by decide +kernel
theorem dX12_digest_24 : decode cX12_digest 24 = .ok (.lstore_n 1, 1) := by decide +kernel
theorem dX12_digest_25 : decode cX12_digest 25 = .ok (.iinc 3 1, 3) := by decide +kernel
theorem dX12_digest_28 : decode cX12_digest 28 = .ok (.goto (-22), 3) := by decide +kernel
theorem dX12_digest_31 : decode cX12_digest 31 = .ok (.ldc2_w 285, 3) := by decide +kernel
theorem dX12_digest_34 : decode cX12_digest 34 = .ok (.lload_n 1, 1) := by decide +kernel
theorem dX12_digest_35 : decode cX12_digest 35 = .ok (.lmul, 1) := by decide +kernel
theorem dX12_digest_36 : decode cX12_digest 36 = .ok (.aload_n 0, 1) := by decide +kernel
theorem dX12_digest_37 : decode cX12_digest 37 = .ok (.invokevirtual 94, 3) := by decide +kernel
theorem dX12_digest_40 : decode cX12_digest 40 = .ok (.i2l, 1) := by decide +kernel
theorem dX12_digest_41 : decode cX12_digest 41 = .ok (.ladd, 1) := by decide +kernel
theorem dX12_digest_42 : decode cX12_digest 42 = .ok (.lstore_n 1, 1) := by decide +kernel
theorem dX12_digest_43 : decode cX12_digest 43 = .ok (.aload_n 0, 1) := by decide +kernel
theorem dX12_digest_44 : decode cX12_digest 44 = .ok (.invokevirtual 131, 3) := by decide +kernel
theorem dX12_digest_47 : decode cX12_digest 47 = .ok (.iconst 0, 1) := by decide +kernel
theorem dX12_digest_48 : decode cX12_digest 48 = .ok (.istore_n 3, 1) := by decide +kernel
theorem dX12_digest_49 : decode cX12_digest 49 = .ok (.iload_n 3, 1) := by decide +kernel
theorem dX12_digest_50 : decode cX12_digest 50 = .ok (.aload_n 0, 1) := by decide +kernel
theorem dX12_digest_51 : decode cX12_digest 51 = .ok (.getfield 109, 3) := by decide +kernel
theorem dX12_digest_54 : decode cX12_digest 54 = .ok (.if_icmp .ge 69, 3) := by decide +kernel
theorem dX12_digest_57 : decode cX12_digest 57 = .ok (.iconst 0, 1) := by decide +kernel
theorem dX12_digest_58 : decode cX12_digest 58 = .ok (.istore 4, 2) := by decide +kernel
theorem dX12_digest_60 : decode cX12_digest 60 = .ok (.iload 4, 2) := by decide +kernel
theorem dX12_digest_62 : decode cX12_digest 62 = .ok (.iconst 4, 1) := by decide +kernel
theorem dX12_digest_63 : decode cX12_digest 63 = .ok (.if_icmp .ge 24, 3) := by decide +kernel
theorem dX12_digest_66 : decode cX12_digest 66 = .ok (.ldc2_w 285, 3) := by decide +kernel
theorem dX12_digest_69 : decode cX12_digest 69 = .ok (.lload_n 1, 1) := by decide +kernel
theorem dX12_digest_70 : decode cX12_digest 70 = .ok (.lmul, 1) := by decide +kernel
theorem dX12_digest_71 : decode cX12_digest 71 = .ok (.aload_n 0, 1) := by decide +kernel
theorem dX12_digest_72 : decode cX12_digest 72 = .ok (.iload_n 3, 1) := by decide +kernel
theorem dX12_digest_73 : decode cX12_digest 73 = .ok (.iload 4, 2) := by decide +kernel
theorem dX12_digest_75 : decode cX12_digest 75 = .ok (.invokevirtual 166, 3) := by decide +kernel
theorem dX12_digest_78 : decode cX12_digest 78 = .ok (.i2l, 1) := by decide +kernel
theorem dX12_digest_79 : decode cX12_digest 79 = .ok (.ladd, 1) := by decide +kernel
theorem dX12_digest_80 : decode cX12_digest 80 = .ok (.lstore_n 1, 1) := by decide +kernel
theorem dX12_digest_81 : decode cX12_digest 81 = .ok (.iinc 4 1, 3) := by decide +kernel
theorem dX12_digest_84 : decode cX12_digest 84 = .ok (.goto (-24), 3) := by decide +kernel
theorem dX12_digest_87 : decode cX12_digest 87 = .ok (.iconst 0, 1) := by decide +kernel
theorem dX12_digest_88 : decode cX12_digest 88 = .ok (.istore 4, 2) := by decide +kernel
theorem dX12_digest_90 : decode cX12_digest 90 = .ok (.iload 4, 2) := by decide +kernel
theorem dX12_digest_92 : decode cX12_digest 92 = .ok (.iconst 3, 1) := by decide +kernel
theorem dX12_digest_93 : decode cX12_digest 93 = .ok (.if_icmp .ge 24, 3) := by decide +kernel
theorem dX12_digest_96 : decode cX12_digest 96 = .ok (.ldc2_w 285, 3) := by decide +kernel
theorem dX12_digest_99 : decode cX12_digest 99 = .ok (.lload_n 1, 1) := by decide +kernel
theorem dX12_digest_100 : decode cX12_digest 100 = .ok (.lmul, 1) := by decide +kernel
theorem dX12_digest_101 : decode cX12_digest 101 = .ok (.aload_n 0, 1) := by decide +kernel
theorem dX12_digest_102 : decode cX12_digest 102 = .ok (.iload_n 3, 1) := by decide +kernel
theorem dX12_digest_103 : decode cX12_digest 103 = .ok (.iload 4, 2) := by decide +kernel
theorem dX12_digest_105 : decode cX12_digest 105 = .ok (.invokevirtual 233, 3) := by decide +kernel
theorem dX12_digest_108 : decode cX12_digest 108 = .ok (.i2l, 1) := by decide +kernel
theorem dX12_digest_109 : decode cX12_digest 109 = .ok (.ladd, 1) := by decide +kernel
theorem dX12_digest_110 : decode cX12_digest 110 = .ok (.lstore_n 1, 1) := by decide +kernel
theorem dX12_digest_111 : decode cX12_digest 111 = .ok (.iinc 4 1, 3) := by decide +kernel
theorem dX12_digest_114 : decode cX12_digest 114 = .ok (.goto (-24), 3) := by decide +kernel
theorem dX12_digest_117 : decode cX12_digest 117 = .ok (.iinc 3 1, 3) := by decide +kernel
theorem dX12_digest_120 : decode cX12_digest 120 = .ok (.goto (-71), 3) := by decide +kernel
theorem dX12_digest_123 : decode cX12_digest 123 = .ok (.ldc2_w 285, 3) := by decide +kernel
theorem dX12_digest_126 : decode cX12_digest 126 = .ok (.lload_n 1, 1) := by decide +kernel
theorem dX12_digest_127 : decode cX12_digest 127 = .ok (.lmul, 1) := by decide +kernel
theorem dX12_digest_128 : decode cX12_digest 128 = .ok (.aload_n 0, 1) := by decide +kernel
theorem dX12_digest_129 : decode cX12_digest 129 = .ok (.iconst 0, 1) := by decide +kernel
theorem dX12_digest_130 : decode cX12_digest 130 = .ok (.invokevirtual 209, 3) := by decide +kernel
theorem dX12_digest_133 : decode cX12_digest 133 = .ok (.i2l, 1) := by decide +kernel
theorem dX12_digest_134 : decode cX12_digest 134 = .ok (.ladd, 1) := by decide +kernel
theorem dX12_digest_135 : decode cX12_digest 135 = .ok (.lstore_n 1, 1) := by decide +kernel
theorem dX12_digest_136 : decode cX12_digest 136 = .ok (.ldc2_w 285, 3) := by decide +kernel
theorem dX12_digest_139 : decode cX12_digest 139 = .ok (.lload_n 1, 1) := by decide +kernel
theorem dX12_digest_140 : decode cX12_digest 140 = .ok (.lmul, 1) := by decide +kernel
theorem dX12_digest_141 : decode cX12_digest 141 = .ok (.aload_n 0, 1) := by decide +kernel
theorem dX12_digest_142 : decode cX12_digest 142 = .ok (.invokevirtual 224, 3) := by decide +kernel
theorem dX12_digest_145 : decode cX12_digest 145 = .ok (.i2l, 1) := by decide +kernel
theorem dX12_digest_146 : decode cX12_digest 146 = .ok (.ladd, 1) := by decide +kernel
theorem dX12_digest_147 : decode cX12_digest 147 = .ok (.lstore_n 1, 1) := by decide +kernel
theorem dX12_digest_148 : decode cX12_digest 148 = .ok (.ldc2_w 285, 3) := by decide +kernel
theorem dX12_digest_151 : decode cX12_digest 151 = .ok (.lload_n 1, 1) := by decide +kernel
theorem dX12_digest_152 : decode cX12_digest 152 = .ok (.lmul, 1) := by decide +kernel
theorem dX12_digest_153 : decode cX12_digest 153 = .ok (.aload_n 0, 1) := by decide +kernel
theorem dX12_digest_154 : decode cX12_digest 154 = .ok (.invokevirtual 230, 3) := by decide +kernel
theorem dX12_digest_157 : decode cX12_digest 157 = .ok (.i2l, 1) := by decide +kernel
theorem dX12_digest_158 : decode cX12_digest 158 = .ok (.ladd, 1) := by decide +kernel
theorem dX12_digest_159 : decode cX12_digest 159 = .ok (.lstore_n 1, 1) := by decide +kernel
theorem dX12_digest_160 : decode cX12_digest 160 = .ok (.ldc2_w 285, 3) := by decide +kernel
theorem dX12_digest_163 : decode cX12_digest 163 = .ok (.lload_n 1, 1) := by decide +kernel
theorem dX12_digest_164 : decode cX12_digest 164 = .ok (.lmul, 1) := by decide +kernel
theorem dX12_digest_165 : decode cX12_digest 165 = .ok (.aload_n 0, 1) := by decide +kernel
theorem dX12_digest_166 : decode cX12_digest 166 = .ok (.iconst 1, 1) := by decide +kernel
theorem dX12_digest_167 : decode cX12_digest 167 = .ok (.iconst 0, 1) := by decide +kernel
theorem dX12_digest_168 : decode cX12_digest 168 = .ok (.invokevirtual 240, 3) := by decide +kernel
theorem dX12_digest_171 : decode cX12_digest 171 = .ok (.ladd, 1) := by decide +kernel
theorem dX12_digest_172 : decode cX12_digest 172 = .ok (.lstore_n 1, 1) := by decide +kernel
theorem dX12_digest_173 : decode cX12_digest 173 = .ok (.ldc2_w 285, 3) := by decide +kernel
theorem dX12_digest_176 : decode cX12_digest 176 = .ok (.lload_n 1, 1) := by decide +kernel
theorem dX12_digest_177 : decode cX12_digest 177 = .ok (.lmul, 1) := by decide +kernel
theorem dX12_digest_178 : decode cX12_digest 178 = .ok (.aload_n 0, 1) := by decide +kernel
theorem dX12_digest_179 : decode cX12_digest 179 = .ok (.iconst 1, 1) := by decide +kernel
theorem dX12_digest_180 : decode cX12_digest 180 = .ok (.iconst 1, 1) := by decide +kernel
theorem dX12_digest_181 : decode cX12_digest 181 = .ok (.invokevirtual 240, 3) := by decide +kernel
theorem dX12_digest_184 : decode cX12_digest 184 = .ok (.ladd, 1) := by decide +kernel
theorem dX12_digest_185 : decode cX12_digest 185 = .ok (.lstore_n 1, 1) := by decide +kernel
theorem dX12_digest_186 : decode cX12_digest 186 = .ok (.iconst 0, 1) := by decide +kernel
theorem dX12_digest_187 : decode cX12_digest 187 = .ok (.istore_n 3, 1) := by decide +kernel
theorem dX12_digest_188 : decode cX12_digest 188 = .ok (.iload_n 3, 1) := by decide +kernel
theorem dX12_digest_189 : decode cX12_digest 189 = .ok (.aload_n 0, 1) := by decide +kernel
theorem dX12_digest_190 : decode cX12_digest 190 = .ok (.getfield 81, 3) := by decide +kernel
theorem dX12_digest_193 : decode cX12_digest 193 = .ok (.if_icmp .ge 116, 3) := by decide +kernel
theorem dX12_digest_196 : decode cX12_digest 196 = .ok (.ldc2_w 285, 3) := by decide +kernel
theorem dX12_digest_199 : decode cX12_digest 199 = .ok (.lload_n 1, 1) := by decide +kernel
theorem dX12_digest_200 : decode cX12_digest 200 = .ok (.lmul, 1) := by decide +kernel
theorem dX12_digest_201 : decode cX12_digest 201 = .ok (.aload_n 0, 1) := by decide +kernel
theorem dX12_digest_202 : decode cX12_digest 202 = .ok (.getfield 13, 3) := by decide +kernel
theorem dX12_digest_205 : decode cX12_digest 205 = .ok (.iload_n 3, 1) := by decide +kernel
theorem dX12_digest_206 : decode cX12_digest 206 = .ok (.iaload, 1) := by decide +kernel
theorem dX12_digest_207 : decode cX12_digest 207 = .ok (.i2l, 1) := by decide +kernel
theorem dX12_digest_208 : decode cX12_digest 208 = .ok (.ladd, 1) := by decide +kernel
theorem dX12_digest_209 : decode cX12_digest 209 = .ok (.lstore_n 1, 1) := by decide +kernel
theorem dX12_digest_210 : decode cX12_digest 210 = .ok (.ldc2_w 285, 3) := by decide +kernel
theorem dX12_digest_213 : decode cX12_digest 213 = .ok (.lload_n 1, 1) := by decide +kernel
theorem dX12_digest_214 : decode cX12_digest 214 = .ok (.lmul, 1) := by decide +kernel
theorem dX12_digest_215 : decode cX12_digest 215 = .ok (.aload_n 0, 1) := by decide +kernel
theorem dX12_digest_216 : decode cX12_digest 216 = .ok (.iload_n 3, 1) := by decide +kernel
theorem dX12_digest_217 : decode cX12_digest 217 = .ok (.invokevirtual 253, 3) := by decide +kernel
theorem dX12_digest_220 : decode cX12_digest 220 = .ok (.i2l, 1) := by decide +kernel
theorem dX12_digest_221 : decode cX12_digest 221 = .ok (.ladd, 1) := by decide +kernel
theorem dX12_digest_222 : decode cX12_digest 222 = .ok (.lstore_n 1, 1) := by decide +kernel
theorem dX12_digest_223 : decode cX12_digest 223 = .ok (.ldc2_w 285, 3) := by decide +kernel
theorem dX12_digest_226 : decode cX12_digest 226 = .ok (.lload_n 1, 1) := by decide +kernel
theorem dX12_digest_227 : decode cX12_digest 227 = .ok (.lmul, 1) := by decide +kernel
theorem dX12_digest_228 : decode cX12_digest 228 = .ok (.aload_n 0, 1) := by decide +kernel
theorem dX12_digest_229 : decode cX12_digest 229 = .ok (.iload_n 3, 1) := by decide +kernel
theorem dX12_digest_230 : decode cX12_digest 230 = .ok (.iconst 0, 1) := by decide +kernel
theorem dX12_digest_231 : decode cX12_digest 231 = .ok (.invokevirtual 259, 3) := by decide +kernel
theorem dX12_digest_234 : decode cX12_digest 234 = .ok (.i2l, 1) := by decide +kernel
theorem dX12_digest_235 : decode cX12_digest 235 = .ok (.ladd, 1) := by decide +kernel
theorem dX12_digest_236 : decode cX12_digest 236 = .ok (.lstore_n 1, 1) := by decide +kernel
theorem dX12_digest_237 : decode cX12_digest 237 = .ok (.ldc2_w 285, 3) := by decide +kernel
theorem dX12_digest_240 : decode cX12_digest 240 = .ok (.lload_n 1, 1) := by decide +kernel
theorem dX12_digest_241 : decode cX12_digest 241 = .ok (.lmul, 1) := by decide +kernel
theorem dX12_digest_242 : decode cX12_digest 242 = .ok (.aload_n 0, 1) := by decide +kernel
theorem dX12_digest_243 : decode cX12_digest 243 = .ok (.iload_n 3, 1) := by decide +kernel
theorem dX12_digest_244 : decode cX12_digest 244 = .ok (.iconst 1, 1) := by decide +kernel
theorem dX12_digest_245 : decode cX12_digest 245 = .ok (.invokevirtual 259, 3) := by decide +kernel
theorem dX12_digest_248 : decode cX12_digest 248 = .ok (.i2l, 1) := by decide +kernel
theorem dX12_digest_249 : decode cX12_digest 249 = .ok (.ladd, 1) := by decide +kernel
theorem dX12_digest_250 : decode cX12_digest 250 = .ok (.lstore_n 1, 1) := by decide +kernel
theorem dX12_digest_251 : decode cX12_digest 251 = .ok (.ldc2_w 285, 3) := by decide +kernel
theorem dX12_digest_254 : decode cX12_digest 254 = .ok (.lload_n 1, 1) := by decide +kernel
theorem dX12_digest_255 : decode cX12_digest 255 = .ok (.lmul, 1) := by decide +kernel
theorem dX12_digest_256 : decode cX12_digest 256 = .ok (.aload_n 0, 1) := by decide +kernel
theorem dX12_digest_257 : decode cX12_digest 257 = .ok (.iload_n 3, 1) := by decide +kernel
theorem dX12_digest_258 : decode cX12_digest 258 = .ok (.iconst 0, 1) := by decide +kernel
theorem dX12_digest_259 : decode cX12_digest 259 = .ok (.invokevirtual 262, 3) := by decide +kernel
theorem dX12_digest_262 : decode cX12_digest 262 = .ok (.ladd, 1) := by decide +kernel
theorem dX12_digest_263 : decode cX12_digest 263 = .ok (.lstore_n 1, 1) := by decide +kernel
theorem dX12_digest_264 : decode cX12_digest 264 = .ok (.ldc2_w 285, 3) := by decide +kernel
theorem dX12_digest_267 : decode cX12_digest 267 = .ok (.lload_n 1, 1) := by decide +kernel
theorem dX12_digest_268 : decode cX12_digest 268 = .ok (.lmul, 1) := by decide +kernel
theorem dX12_digest_269 : decode cX12_digest 269 = .ok (.aload_n 0, 1) := by decide +kernel
theorem dX12_digest_270 : decode cX12_digest 270 = .ok (.iload_n 3, 1) := by decide +kernel
theorem dX12_digest_271 : decode cX12_digest 271 = .ok (.iconst 1, 1) := by decide +kernel
theorem dX12_digest_272 : decode cX12_digest 272 = .ok (.invokevirtual 262, 3) := by decide +kernel
theorem dX12_digest_275 : decode cX12_digest 275 = .ok (.ladd, 1) := by decide +kernel
theorem dX12_digest_276 : decode cX12_digest 276 = .ok (.lstore_n 1, 1) := by decide +kernel
theorem dX12_digest_277 : decode cX12_digest 277 = .ok (.ldc2_w 285, 3) := by decide +kernel
theorem dX12_digest_280 : decode cX12_digest 280 = .ok (.lload_n 1, 1) := by decide +kernel
theorem dX12_digest_281 : decode cX12_digest 281 = .ok (.lmul, 1) := by decide +kernel
theorem dX12_digest_282 : decode cX12_digest 282 = .ok (.aload_n 0, 1) := by decide +kernel
theorem dX12_digest_283 : decode cX12_digest 283 = .ok (.iload_n 3, 1) := by decide +kernel
theorem dX12_digest_284 : decode cX12_digest 284 = .ok (.iconst 0, 1) := by decide +kernel
theorem dX12_digest_285 : decode cX12_digest 285 = .ok (.invokevirtual 265, 3) := by decide +kernel
theorem dX12_digest_288 : decode cX12_digest 288 = .ok (.ladd, 1) := by decide +kernel
theorem dX12_digest_289 : decode cX12_digest 289 = .ok (.lstore_n 1, 1) := by decide +kernel
theorem dX12_digest_290 : decode cX12_digest 290 = .ok (.ldc2_w 285, 3) := by decide +kernel
theorem dX12_digest_293 : decode cX12_digest 293 = .ok (.lload_n 1, 1) := by decide +kernel
theorem dX12_digest_294 : decode cX12_digest 294 = .ok (.lmul, 1) := by decide +kernel
theorem dX12_digest_295 : decode cX12_digest 295 = .ok (.aload_n 0, 1) := by decide +kernel
theorem dX12_digest_296 : decode cX12_digest 296 = .ok (.iload_n 3, 1) := by decide +kernel
theorem dX12_digest_297 : decode cX12_digest 297 = .ok (.iconst 1, 1) := by decide +kernel
theorem dX12_digest_298 : decode cX12_digest 298 = .ok (.invokevirtual 265, 3) := by decide +kernel
theorem dX12_digest_301 : decode cX12_digest 301 = .ok (.ladd, 1) := by decide +kernel
theorem dX12_digest_302 : decode cX12_digest 302 = .ok (.lstore_n 1, 1) := by decide +kernel
theorem dX12_digest_303 : decode cX12_digest 303 = .ok (.iinc 3 1, 3) := by decide +kernel
theorem dX12_digest_306 : decode cX12_digest 306 = .ok (.goto (-118), 3) := by decide +kernel
theorem dX12_digest_309 : decode cX12_digest 309 = .ok (.ldc2_w 285, 3) := by decide +kernel
theorem dX12_digest_312 : decode cX12_digest 312 = .ok (.lload_n 1, 1) := by decide +kernel
theorem dX12_digest_313 : decode cX12_digest 313 = .ok (.lmul, 1) := by decide +kernel
theorem dX12_digest_314 : decode cX12_digest 314 = .ok (.aload_n 0, 1) := by decide +kernel
theorem dX12_digest_315 : decode cX12_digest 315 = .ok (.invokevirtual 256, 3) := by decide +kernel
theorem dX12_digest_318 : decode cX12_digest 318 = .ok (.i2l, 1) := by decide +kernel
theorem dX12_digest_319 : decode cX12_digest 319 = .ok (.ladd, 1) := by decide +kernel
theorem dX12_digest_320 : decode cX12_digest 320 = .ok (.lreturn, 1) := by decide +kernel
