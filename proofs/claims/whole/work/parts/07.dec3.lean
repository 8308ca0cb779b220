theorem dX11_init_0 : decode cX11_init 0 = .ok (.aload_n 0, 1) := by decide +kernel
theorem dX11_init_1 : decode cX11_init 1 = .ok (.invokespecial 1, 3) := by decide +kernel
theorem dX11_init_4 : decode cX11_init 4 = .ok (.aload_n 0, 1) := by decide +kernel
theorem dX11_init_5 : decode cX11_init 5 = .ok (.new 7, 3) := by decide +kernel
theorem dX11_init_8 : decode cX11_init 8 = .ok (.dup, 1) := by decide +kernel
theorem dX11_init_9 : decode cX11_init 9 = .ok (.invokespecial 9, 3) := by decide +kernel
theorem dX11_init_12 : decode cX11_init 12 = .ok (.putfield 10, 3) := by decide +kernel
theorem dX11_init_15 : decode cX11_init 15 = .ok (.aload_n 0, 1) := by decide +kernel
theorem dX11_init_16 : decode cX11_init 16 = .ok (.new 16, 3) := by decide +kernel
theorem dX11_init_19 : decode cX11_init 19 = .ok (.dup, 1) := by decide +kernel
theorem dX11_init_20 : decode cX11_init 20 = .ok (.invokespecial 18, 3) := by decide +kernel
theorem dX11_init_23 : decode cX11_init 23 = .ok (.putfield 19, 3) := by decide +kernel
theorem dX11_init_26 : decode cX11_init 26 = .ok (.aload_n 0, 1) := by decide +kernel
theorem dX11_init_27 : decode cX11_init 27 = .ok (.new 23, 3) := by decide +kernel
theorem dX11_init_30 : decode cX11_init 30 = .ok (.dup, 1) := by decide +kernel
theorem dX11_init_31 : decode cX11_init 31 = .ok (.invokespecial 25, 3) := by decide +kernel
theorem dX11_init_34 : decode cX11_init 34 = .ok (.putfield 26, 3) := by decide +kernel
theorem dX11_init_37 : decode cX11_init 37 = .ok (.aload_n 0, 1) := by decide +kernel
theorem dX11_init_38 : decode cX11_init 38 = .ok (.new 30, 3) := by decide +kernel
theorem dX11_init_41 : decode cX11_init 41 = .ok (.dup, 1) := by decide +kernel
theorem dX11_init_42 : decode cX11_init 42 = .ok (.invokespecial 32, 3) := by decide +kernel
theorem dX11_init_45 : decode cX11_init 45 = .ok (.putfield 33, 3) := by decide +kernel
theorem dX11_init_48 : decode cX11_init 48 = .ok (.aload_n 0, 1) := by decide +kernel
theorem dX11_init_49 : decode cX11_init 49 = .ok (.new 37, 3) := by decide +kernel
theorem dX11_init_52 : decode cX11_init 52 = .ok (.dup, 1) := by decide +kernel
theorem dX11_init_53 : decode cX11_init 53 = .ok (.aload_n 0, 1) := by decide +kernel
theorem dX11_init_54 : decode cX11_init 54 = .ok (.getfield 10, 3) := by decide +kernel
theorem dX11_init_57 : decode cX11_init 57 = .ok (.aload_n 0, 1) := by decide +kernel
theorem dX11_init_58 : decode cX11_init 58 = .ok (.getfield 19, 3) := by decide +kernel
theorem dX11_init_61 : decode cX11_init 61 = .ok (.aload_n 0, 1) := by decide +kernel
theorem dX11_init_62 : decode cX11_init 62 = .ok (.getfield 26, 3) := by decide +kernel
theorem dX11_init_65 : decode cX11_init 65 = .ok (.invokespecial 39, 3) := by decide +kernel
theorem dX11_init_68 : decode cX11_init 68 = .ok (.putfield 42, 3) := by decide +kernel
theorem dX11_init_71 : decode cX11_init 71 = .ok (.aload_n 0, 1) := by decide +kernel
theorem dX11_init_72 : decode cX11_init 72 = .ok (.new 46, 3) := by decide +kernel
theorem dX11_init_75 : decode cX11_init 75 = .ok (.dup, 1) := by decide +kernel
theorem dX11_init_76 : decode cX11_init 76 = .ok (.aload_n 0, 1) := by decide +kernel
theorem dX11_init_77 : decode cX11_init 77 = .ok (.getfield 10, 3) := by decide +kernel
theorem dX11_init_80 : decode cX11_init 80 = .ok (.aload_n 0, 1) := by decide +kernel
theorem dX11_init_81 : decode cX11_init 81 = .ok (.getfield 26, 3) := by decide +kernel
theorem dX11_init_84 : decode cX11_init 84 = .ok (.invokespecial 48, 3) := by decide +kernel
theorem dX11_init_87 : decode cX11_init 87 = .ok (.putfield 51, 3) := by decide +kernel
theorem dX11_init_90 : decode cX11_init 90 = .ok (.aload_n 0, 1) := by decide +kernel
theorem dX11_init_91 : decode cX11_init 91 = .ok (.new 55, 3) := by decide +kernel
theorem dX11_init_94 : decode cX11_init 94 = .ok (.dup, 1) := by decide +kernel
theorem dX11_init_95 : decode cX11_init 95 = .ok (.aload_n 0, 1) := by decide +kernel
theorem dX11_init_96 : decode cX11_init 96 = .ok (.getfield 10, 3) := by decide +kernel
theorem dX11_init_99 : decode cX11_init 99 = .ok (.aload_n 0, 1) := by decide +kernel
theorem dX11_init_100 : decode cX11_init 100 = .ok (.getfield 19, 3) := by decide +kernel
theorem dX11_init_103 : decode cX11_init 103 = .ok (.aload_n 0, 1) := by decide +kernel
theorem dX11_init_104 : decode cX11_init 104 = .ok (.getfield 26, 3) := by decide +kernel
theorem dX11_init_107 : decode cX11_init 107 = .ok (.aload_n 0, 1) := by decide +kernel
theorem dX11_init_108 : decode cX11_init 108 = .ok (.getfield 33, 3) := by decide +kernel
theorem dX11_init_111 : decode cX11_init 111 = .ok (.invokespecial 57, 3) := by decide +kernel
theorem dX11_init_114 : decode cX11_init 114 = .ok (.putfield 60, 3) := by decide +kernel
theorem dX11_init_117 : decode cX11_init 117 = .ok (.aload_n 0, 1) := by decide +kernel
theorem dX11_init_118 : decode cX11_init 118 = .ok (.new 64, 3) := by decide +kernel
theorem dX11_init_121 : decode cX11_init 121 = .ok (.dup, 1) := by decide +kernel
theorem dX11_init_122 : decode cX11_init 122 = .ok (.aload_n 0, 1) := by decide +kernel
theorem dX11_init_123 : decode cX11_init 123 = .ok (.getfield 19, 3) := by decide +kernel
theorem dX11_init_126 : decode cX11_init 126 = .ok (.aload_n 0, 1) := by decide +kernel
theorem dX11_init_127 : decode cX11_init 127 = .ok (.getfield 42, 3) := by decide +kernel
theorem dX11_init_130 : decode cX11_init 130 = .ok (.aload_n 0, 1) := by decide +kernel
theorem dX11_init_131 : decode cX11_init 131 = .ok (.getfield 51, 3) := by decide +kernel
theorem dX11_init_134 : decode cX11_init 134 = .ok (.aload_n 0, 1) := by decide +kernel
theorem dX11_init_135 : decode cX11_init 135 = .ok (.getfield 60, 3) := by decide +kernel
theorem dX11_init_138 : decode cX11_init 138 = .ok (.invokespecial 66, 3) := by decide +kernel
theorem dX11_init_141 : decode cX11_init 141 = .ok (.putfield 69, 3) := by decide +kernel
theorem dX11_init_144 : decode cX11_init 144 = .ok (.aload_n 0, 1) := by decide +kernel
theorem dX11_init_145 : decode cX11_init 145 = .ok (.new 73, 3) := by decide +kernel
theorem dX11_init_148 : decode cX11_init 148 = .ok (.dup, 1) := by decide +kernel
theorem dX11_init_149 : decode cX11_init 149 = .ok (.aload_n 0, 1) := by decide +kernel
theorem dX11_init_150 : decode cX11_init 150 = .ok (.getfield 19, 3) := by decide +kernel
theorem dX11_init_153 : decode cX11_init 153 = .ok (.aload_n 0, 1) := by decide +kernel
theorem dX11_init_154 : decode cX11_init 154 = .ok (.getfield 60, 3) := by decide +kernel
theorem dX11_init_157 : decode cX11_init 157 = .ok (.invokespecial 75, 3) := by decide +kernel
theorem dX11_init_160 : decode cX11_init 160 = .ok (.putfield 78, 3) := by decide +kernel
theorem dX11_init_163 : decode cX11_init 163 = .ok (.aload_n 0, 1) := by decide +kernel
theorem dX11_init_164 : decode cX11_init 164 = .ok (.new 82, 3) := by decide +kernel
theorem dX11_init_167 : decode cX11_init 167 = .ok (.dup, 1) := by decide +kernel
theorem dX11_init_168 : decode cX11_init 168 = .ok (.aload_n 0, 1) := by decide +kernel
theorem dX11_init_169 : decode cX11_init 169 = .ok (.getfield 19, 3) := by decide +kernel
theorem dX11_init_172 : decode cX11_init 172 = .ok (.aload_n 0, 1) := by decide +kernel
theorem dX11_init_173 : decode cX11_init 173 = .ok (.getfield 26, 3) := by decide +kernel
theorem dX11_init_176 : decode cX11_init 176 = .ok (.aload_n 0, 1) := by decide +kernel
theorem dX11_init_177 : decode cX11_init 177 = .ok (.getfield 42, 3) := by decide +kernel
theorem dX11_init_180 : decode cX11_init 180 = .ok (.invokespecial 84, 3) := by decide +kernel
theorem dX11_init_183 : decode cX11_init 183 = .ok (.putfield 87, 3) := by decide +kernel
theorem dX11_init_186 : decode cX11_init 186 = .ok (.aload_n 0, 1) := by decide +kernel
theorem dX11_init_187 : decode cX11_init 187 = .ok (.iconst 4, 1) := by decide +kernel
theorem dX11_init_188 : decode cX11_init 188 = .ok (.anewarray 91, 3) := by decide +kernel
theorem dX11_init_191 : decode cX11_init 191 = .ok (.putfield 93, 3) := by decide +kernel
theorem dX11_init_194 : decode cX11_init 194 = .ok (.iconst 0, 1) := by decide +kernel
theorem dX11_init_195 : decode cX11_init 195 = .ok (.istore_n 1, 1) := by decide +kernel
theorem dX11_init_196 : decode cX11_init 196 = .ok (.iload_n 1, 1) := by decide +kernel
theorem dX11_init_197 : decode cX11_init 197 = .ok (.iconst 4, 1) := by decide +kernel
theorem dX11_init_198 : decode cX11_init 198 = .ok (.if_icmp .ge 22, 3) := by decide +kernel
theorem dX11_init_201 : decode cX11_init 201 = .ok (.aload_n 0, 1) := by decide +kernel
theorem dX11_init_202 : decode cX11_init 202 = .ok (.getfield 93, 3) := by decide +kernel
theorem dX11_init_205 : decode cX11_init 205 = .ok (.iload_n 1, 1) := by decide +kernel
theorem dX11_init_206 : decode cX11_init 206 = .ok (.new 91, 3) := by decide +kernel
theorem dX11_init_209 : decode cX11_init 209 = .ok (.dup, 1) := by decide +kernel
theorem dX11_init_210 : decode cX11_init 210 = .ok (.invokespecial 97, 3) := by decide +kernel
theorem dX11_init_213 : decode cX11_init 213 = .ok (.aastore, 1) := by decide +kernel
theorem dX11_init_214 : decode cX11_init 214 = .ok (.iinc 1 1, 3) := by decide +kernel
theorem dX11_init_217 : decode cX11_init 217 = .ok (.goto (-21), 3) := by decide +kernel
theorem dX11_init_220 : decode cX11_init 220 = .ok (.aload_n 0, 1) := by decide +kernel
theorem dX11_init_221 : decode cX11_init 221 = .ok (.iconst 0, 1) := by decide +kernel
theorem dX11_init_222 : decode cX11_init 222 = .ok (.putfield 98, 3) := by decide +kernel
theorem dX11_init_225 : decode cX11_init 225 = .ok (.return_, 1) := by decide +kernel
theorem dX11_questions_0 : decode cX11_questions 0 = .ok (.iload_n 1, 1) := by decide +kernel
theorem dX11_questions_1 : decode cX11_questions 1 = .ok (.iconst 1, 1) := by decide +kernel
theorem dX11_questions_2 : decode cX11_questions 2 = .ok (.bipush 12, 2) := by decide +kernel
theorem dX11_questions_4 : decode cX11_questions 4 = .ok (.invokestatic 102, 3) := by decide +kernel
theorem dX11_questions_7 : decode cX11_questions 7 = .ok (.ifCond .ne 6, 3) := by decide +kernel
theorem dX11_questions_10 : decode cX11_questions 10 = .ok (.bipush (-2), 2) := by decide +kernel
theorem dX11_questions_12 : decode cX11_questions 12 = .ok (.ireturn, 1) := by decide +kernel
theorem dX11_questions_13 : decode cX11_questions 13 = .ok (.aload_n 0, 1) := by decide +kernel
theorem dX11_questions_14 : decode cX11_questions 14 = .ok (.getfield 10, 3) := by decide +kernel
theorem dX11_questions_17 : decode cX11_questions 17 = .ok (.getfield 106, 3) := by decide +kernel
theorem dX11_questions_20 : decode cX11_questions 20 = .ok (.istore_n 2, 1) := by decide +kernel
theorem dX11_questions_21 : decode cX11_questions 21 = .ok (.aload_n 0, 1) := by decide +kernel
theorem dX11_questions_22 : decode cX11_questions 22 = .ok (.getfield 10, 3) := by decide +kernel
theorem dX11_questions_25 : decode cX11_questions 25 = .ok (.iload_n 1, 1) := by decide +kernel
theorem dX11_questions_26 : decode cX11_questions 26 = .ok (.invokevirtual 109, 3) := by decide +kernel
theorem dX11_questions_29 : decode cX11_questions 29 = .ok (.iload_n 2, 1) := by decide +kernel
theorem dX11_questions_30 : decode cX11_questions 30 = .ok (.ireturn, 1) := by decide +kernel
theorem dX11_type_0 : decode cX11_type 0 = .ok (.iload_n 1, 1) := by decide +kernel
theorem dX11_type_1 : decode cX11_type 1 = .ok (.iconst 0, 1) := by decide +kernel
theorem dX11_type_2 : decode cX11_type 2 = .ok (.sipush 255, 3) := by decide +kernel
theorem dX11_type_5 : decode cX11_type 5 = .ok (.invokestatic 102, 3) := by decide +kernel
theorem dX11_type_8 : decode cX11_type 8 = .ok (.ifCond .ne 6, 3) := by decide +kernel
theorem dX11_type_11 : decode cX11_type 11 = .ok (.bipush (-2), 2) := by decide +kernel
theorem dX11_type_13 : decode cX11_type 13 = .ok (.ireturn, 1) := by decide +kernel
theorem dX11_type_14 : decode cX11_type 14 = .ok (.aload_n 0, 1) := by decide +kernel
theorem dX11_type_15 : decode cX11_type 15 = .ok (.getfield 10, 3) := by decide +kernel
theorem dX11_type_18 : decode cX11_type 18 = .ok (.getfield 113, 3) := by decide +kernel
theorem dX11_type_21 : decode cX11_type 21 = .ok (.bipush 12, 2) := by decide +kernel
theorem dX11_type_23 : decode cX11_type 23 = .ok (.if_icmp .lt 6, 3) := by decide +kernel
theorem dX11_type_26 : decode cX11_type 26 = .ok (.bipush (-4), 2) := by decide +kernel
theorem dX11_type_28 : decode cX11_type 28 = .ok (.ireturn, 1) := by decide +kernel
theorem dX11_type_29 : decode cX11_type 29 = .ok (.aload_n 0, 1) := by decide +kernel
theorem dX11_type_30 : decode cX11_type 30 = .ok (.getfield 10, 3) := by decide +kernel
theorem dX11_type_33 : decode cX11_type 33 = .ok (.iload_n 1, 1) := by decide +kernel
theorem dX11_type_34 : decode cX11_type 34 = .ok (.invokevirtual 116, 3) := by decide +kernel
theorem dX11_type_37 : decode cX11_type 37 = .ok (.aload_n 0, 1) := by decide +kernel
theorem dX11_type_38 : decode cX11_type 38 = .ok (.getfield 10, 3) := by decide +kernel
theorem dX11_type_41 : decode cX11_type 41 = .ok (.getfield 113, 3) := by decide +kernel
theorem dX11_type_44 : decode cX11_type 44 = .ok (.ireturn, 1) := by decide +kernel
theorem dX11_wipe_0 : decode cX11_wipe 0 = .ok (.aload_n 0, 1) := by decide +kernel
theorem dX11_wipe_1 : decode cX11_wipe 1 = .ok (.getfield 10, 3) := by decide +kernel
theorem dX11_wipe_4 : decode cX11_wipe 4 = .ok (.getfield 113, 3) := by decide +kernel
theorem dX11_wipe_7 : decode cX11_wipe 7 = .ok (.istore_n 1, 1) := by decide +kernel
theorem dX11_wipe_8 : decode cX11_wipe 8 = .ok (.aload_n 0, 1) := by decide +kernel
theorem dX11_wipe_9 : decode cX11_wipe 9 = .ok (.getfield 10, 3) := by decide +kernel
theorem dX11_wipe_12 : decode cX11_wipe 12 = .ok (.invokevirtual 119, 3) := by decide +kernel
theorem dX11_wipe_15 : decode cX11_wipe 15 = .ok (.iload_n 1, 1) := by decide +kernel
theorem dX11_wipe_16 : decode cX11_wipe 16 = .ok (.ireturn, 1) := by decide +kernel
theorem dX11_fault_0 : decode cX11_fault 0 = .ok (.aload_n 0, 1) := by decide +kernel
theorem dX11_fault_1 : decode cX11_fault 1 = .ok (.getfield 10, 3) := by decide +kernel
theorem dX11_fault_4 : decode cX11_fault 4 = .ok (.getfield 122, 3) := by decide +kernel
theorem dX11_fault_7 : decode cX11_fault 7 = .ok (.ireturn, 1) := by decide +kernel
theorem dX11_key_0 : decode cX11_key 0 = .ok (.aload_n 0, 1) := by decide +kernel
theorem dX11_key_1 : decode cX11_key 1 = .ok (.iload_n 1, 1) := by decide +kernel
theorem dX11_key_2 : decode cX11_key 2 = .ok (.invokevirtual 125, 3) := by decide +kernel
theorem dX11_key_5 : decode cX11_key 5 = .ok (.ifCond .eq 15, 3) := by decide +kernel
theorem dX11_key_8 : decode cX11_key 8 = .ok (.aload_n 0, 1) := by decide +kernel
theorem dX11_key_9 : decode cX11_key 9 = .ok (.getfield 10, 3) := by decide +kernel
theorem dX11_key_12 : decode cX11_key 12 = .ok (.getfield 129, 3) := by decide +kernel
theorem dX11_key_15 : decode cX11_key 15 = .ok (.iload_n 1, 1) := by decide +kernel
theorem dX11_key_16 : decode cX11_key 16 = .ok (.iaload, 1) := by decide +kernel
theorem dX11_key_17 : decode cX11_key 17 = .ok (.goto 5, 3) := by decide +kernel
theorem dX11_key_20 : decode cX11_key 20 = .ok (.bipush (-2), 2) := by decide +kernel
theorem dX11_key_22 : decode cX11_key 22 = .ok (.ireturn, 1) := by decide +kernel
theorem dX11_set_0 : decode cX11_set 0 = .ok (.iload_n 1, 1) := by decide +kernel
theorem dX11_set_1 : decode cX11_set 1 = .ok (.ifCond .ne 32, 3) := by decide +kernel
theorem dX11_set_4 : decode cX11_set 4 = .ok (.iload_n 2, 1) := by decide +kernel
theorem dX11_set_5 : decode cX11_set 5 = .ok (.iconst 0, 1) := by decide +kernel
theorem dX11_set_6 : decode cX11_set 6 = .ok (.sipush 999, 3) := by decide +kernel
theorem dX11_set_9 : decode cX11_set 9 = .ok (.invokestatic 102, 3) := by decide +kernel
theorem dX11_set_12 : decode cX11_set 12 = .ok (.ifCond .eq 21, 3) := by decide +kernel
theorem dX11_set_15 : decode cX11_set 15 = .ok (.aload_n 0, 1) := by decide +kernel
theorem dX11_set_16 : decode cX11_set 16 = .ok (.getfield 26, 3) := by decide +kernel
theorem dX11_set_19 : decode cX11_set 19 = .ok (.getfield 133, 3) := by decide +kernel
theorem dX11_set_22 : decode cX11_set 22 = .ok (.istore_n 3, 1) := by decide +kernel
theorem dX11_set_23 : decode cX11_set 23 = .ok (.aload_n 0, 1) := by decide +kernel
theorem dX11_set_24 : decode cX11_set 24 = .ok (.getfield 26, 3) := by decide +kernel
theorem dX11_set_27 : decode cX11_set 27 = .ok (.iload_n 2, 1) := by decide +kernel
theorem dX11_set_28 : decode cX11_set 28 = .ok (.invokevirtual 136, 3) := by decide +kernel
theorem dX11_set_31 : decode cX11_set 31 = .ok (.iload_n 3, 1) := by decide +kernel
theorem dX11_set_32 : decode cX11_set 32 = .ok (.ireturn, 1) := by decide +kernel
theorem dX11_set_33 : decode cX11_set 33 = .ok (.iload_n 1, 1) := by decide +kernel
theorem dX11_set_34 : decode cX11_set 34 = .ok (.iconst 1, 1) := by decide +kernel
theorem dX11_set_35 : decode cX11_set 35 = .ok (.if_icmp .ne 31, 3) := by decide +kernel
theorem dX11_set_38 : decode cX11_set 38 = .ok (.iload_n 2, 1) := by decide +kernel
theorem dX11_set_39 : decode cX11_set 39 = .ok (.iconst 0, 1) := by decide +kernel
theorem dX11_set_40 : decode cX11_set 40 = .ok (.bipush 100, 2) := by decide +kernel
theorem dX11_set_42 : decode cX11_set 42 = .ok (.invokestatic 102, 3) := by decide +kernel
theorem dX11_set_45 : decode cX11_set 45 = .ok (.ifCond .eq 21, 3) := by decide +kernel
theorem dX11_set_48 : decode cX11_set 48 = .ok (.aload_n 0, 1) := by decide +kernel
theorem dX11_set_49 : decode cX11_set 49 = .ok (.getfield 42, 3) := by decide +kernel
theorem dX11_set_52 : decode cX11_set 52 = .ok (.getfield 139, 3) := by decide +kernel
theorem dX11_set_55 : decode cX11_set 55 = .ok (.istore_n 3, 1) := by decide +kernel
theorem dX11_set_56 : decode cX11_set 56 = .ok (.aload_n 0, 1) := by decide +kernel
theorem dX11_set_57 : decode cX11_set 57 = .ok (.getfield 42, 3) := by decide +kernel
theorem dX11_set_60 : decode cX11_set 60 = .ok (.iload_n 2, 1) := by decide +kernel
theorem dX11_set_61 : decode cX11_set 61 = .ok (.putfield 139, 3) := by decide +kernel
theorem dX11_set_64 : decode cX11_set 64 = .ok (.iload_n 3, 1) := by decide +kernel
theorem dX11_set_65 : decode cX11_set 65 = .ok (.ireturn, 1) := by decide +kernel
theorem dX11_set_66 : decode cX11_set 66 = .ok (.iload_n 1, 1) := by decide +kernel
theorem dX11_set_67 : decode cX11_set 67 = .ok (.iconst 2, 1) := by decide +kernel
theorem dX11_set_68 : decode cX11_set 68 = .ok (.if_icmp .ne 32, 3) := by decide +kernel
theorem dX11_set_71 : decode cX11_set 71 = .ok (.iload_n 2, 1) := by decide +kernel
theorem dX11_set_72 : decode cX11_set 72 = .ok (.iconst 0, 1) := by decide +kernel
theorem dX11_set_73 : decode cX11_set 73 = .ok (.sipush 1000, 3) := by decide +kernel
theorem dX11_set_76 : decode cX11_set 76 = .ok (.invokestatic 102, 3) := by decide +kernel
theorem dX11_set_79 : decode cX11_set 79 = .ok (.ifCond .eq 21, 3) := by decide +kernel
theorem dX11_set_82 : decode cX11_set 82 = .ok (.aload_n 0, 1) := by decide +kernel
theorem dX11_set_83 : decode cX11_set 83 = .ok (.getfield 60, 3) := by decide +kernel
theorem dX11_set_86 : decode cX11_set 86 = .ok (.getfield 142, 3) := by decide +kernel
theorem dX11_set_89 : decode cX11_set 89 = .ok (.istore_n 3, 1) := by decide +kernel
theorem dX11_set_90 : decode cX11_set 90 = .ok (.aload_n 0, 1) := by decide +kernel
theorem dX11_set_91 : decode cX11_set 91 = .ok (.getfield 60, 3) := by decide +kernel
theorem dX11_set_94 : decode cX11_set 94 = .ok (.iload_n 2, 1) := by decide +kernel
theorem dX11_set_95 : decode cX11_set 95 = .ok (.putfield 142, 3) := by decide +kernel
theorem dX11_set_98 : decode cX11_set 98 = .ok (.iload_n 3, 1) := by decide +kernel
theorem dX11_set_99 : decode cX11_set 99 = .ok (.ireturn, 1) := by decide +kernel
theorem dX11_set_100 : decode cX11_set 100 = .ok (.bipush (-5), 2) := by decide +kernel
theorem dX11_set_102 : decode cX11_set 102 = .ok (.ireturn, 1) := by decide +kernel
theorem dX11_pupil_0 : decode cX11_pupil 0 = .ok (.iload_n 1, 1) := by decide +kernel
theorem dX11_pupil_1 : decode cX11_pupil 1 = .ok (.iconst 0, 1) := by decide +kernel
theorem dX11_pupil_2 : decode cX11_pupil 2 = .ok (.iconst 3, 1) := by decide +kernel
theorem dX11_pupil_3 : decode cX11_pupil 3 = .ok (.invokestatic 102, 3) := by decide +kernel
theorem dX11_pupil_6 : decode cX11_pupil 6 = .ok (.ifCond .eq 24, 3) := by decide +kernel
theorem dX11_pupil_9 : decode cX11_pupil 9 = .ok (.iload_n 2, 1) := by decide +kernel
theorem dX11_pupil_10 : decode cX11_pupil 10 = .ok (.iconst 0, 1) := by decide +kernel
theorem dX11_pupil_11 : decode cX11_pupil 11 = .ok (.iconst 4, 1) := by decide +kernel
theorem dX11_pupil_12 : decode cX11_pupil 12 = .ok (.invokestatic 102, 3) := by decide +kernel
theorem dX11_pupil_15 : decode cX11_pupil 15 = .ok (.ifCond .eq 15, 3) := by decide +kernel
theorem dX11_pupil_18 : decode cX11_pupil 18 = .ok (.aload_n 0, 1) := by decide +kernel
theorem dX11_pupil_19 : decode cX11_pupil 19 = .ok (.getfield 19, 3) := by decide +kernel
theorem dX11_pupil_22 : decode cX11_pupil 22 = .ok (.iload_n 1, 1) := by decide +kernel
theorem dX11_pupil_23 : decode cX11_pupil 23 = .ok (.iload_n 2, 1) := by decide +kernel
theorem dX11_pupil_24 : decode cX11_pupil 24 = .ok (.invokevirtual 145, 3) := by decide +kernel
theorem dX11_pupil_27 : decode cX11_pupil 27 = .ok (.ifCond .eq 6, 3) := by decide +kernel
theorem dX11_pupil_30 : decode cX11_pupil 30 = .ok (.bipush (-2), 2) := by decide +kernel
theorem dX11_pupil_32 : decode cX11_pupil 32 = .ok (.ireturn, 1) := by decide +kernel
theorem dX11_pupil_33 : decode cX11_pupil 33 = .ok (.aload_n 0, 1) := by decide +kernel
theorem dX11_pupil_34 : decode cX11_pupil 34 = .ok (.getfield 19, 3) := by decide +kernel
theorem dX11_pupil_37 : decode cX11_pupil 37 = .ok (.getfield 149, 3) := by decide +kernel
theorem dX11_pupil_40 : decode cX11_pupil 40 = .ok (.bipush 10, 2) := by decide +kernel
theorem dX11_pupil_42 : decode cX11_pupil 42 = .ok (.if_icmp .lt 6, 3) := by decide +kernel
theorem dX11_pupil_45 : decode cX11_pupil 45 = .ok (.bipush (-4), 2) := by decide +kernel
theorem dX11_pupil_47 : decode cX11_pupil 47 = .ok (.ireturn, 1) := by decide +kernel
theorem dX11_pupil_48 : decode cX11_pupil 48 = .ok (.aload_n 0, 1) := by decide +kernel
theorem dX11_pupil_49 : decode cX11_pupil 49 = .ok (.getfield 19, 3) := by decide +kernel
theorem dX11_pupil_52 : decode cX11_pupil 52 = .ok (.iload_n 1, 1) := by decide +kernel
theorem dX11_pupil_53 : decode cX11_pupil 53 = .ok (.iload_n 2, 1) := by decide +kernel
theorem dX11_pupil_54 : decode cX11_pupil 54 = .ok (.invokevirtual 152, 3) := by decide +kernel
theorem dX11_pupil_57 : decode cX11_pupil 57 = .ok (.aload_n 0, 1) := by decide +kernel
theorem dX11_pupil_58 : decode cX11_pupil 58 = .ok (.getfield 19, 3) := by decide +kernel
theorem dX11_pupil_61 : decode cX11_pupil 61 = .ok (.getfield 149, 3) := by decide +kernel
theorem dX11_pupil_64 : decode cX11_pupil 64 = .ok (.iconst 1, 1) := by decide +kernel
theorem dX11_pupil_65 : decode cX11_pupil 65 = .ok (.isub, 1) := by decide +kernel
theorem dX11_pupil_66 : decode cX11_pupil 66 = .ok (.ireturn, 1) := by decide +kernel
theorem dX11_answer_0 : decode cX11_answer 0 = .ok (.aload_n 0, 1) := by decide +kernel
theorem dX11_answer_1 : decode cX11_answer 1 = .ok (.iload_n 1, 1) := by decide +kernel
theorem dX11_answer_2 : decode cX11_answer 2 = .ok (.invokevirtual 156, 3) := by decide +kernel
theorem dX11_answer_5 : decode cX11_answer 5 = .ok (.ifCond .eq 29, 3) := by decide +kernel
theorem dX11_answer_8 : decode cX11_answer 8 = .ok (.aload_n 0, 1) := by decide +kernel
theorem dX11_answer_9 : decode cX11_answer 9 = .ok (.iload_n 2, 1) := by decide +kernel
theorem dX11_answer_10 : decode cX11_answer 10 = .ok (.invokevirtual 125, 3) := by decide +kernel
theorem dX11_answer_13 : decode cX11_answer 13 = .ok (.ifCond .eq 21, 3) := by decide +kernel
theorem dX11_answer_16 : decode cX11_answer 16 = .ok (.iload_n 3, 1) := by decide +kernel
theorem dX11_answer_17 : decode cX11_answer 17 = .ok (.iconst 0, 1) := by decide +kernel
theorem dX11_answer_18 : decode cX11_answer 18 = .ok (.iconst 5, 1) := by decide +kernel
theorem dX11_answer_19 : decode cX11_answer 19 = .ok (.invokestatic 102, 3) := by decide +kernel
theorem dX11_answer_22 : decode cX11_answer 22 = .ok (.ifCond .eq 12, 3) := by decide +kernel
theorem dX11_answer_25 : decode cX11_answer 25 = .ok (.aload_n 0, 1) := by decide +kernel
theorem dX11_answer_26 : decode cX11_answer 26 = .ok (.iload 4, 2) := by decide +kernel
theorem dX11_answer_28 : decode cX11_answer 28 = .ok (.invokevirtual 159, 3) := by decide +kernel
theorem dX11_answer_31 : decode cX11_answer 31 = .ok (.ifCond .ne 6, 3) := by decide +kernel
theorem dX11_answer_34 : decode cX11_answer 34 = .ok (.bipush (-2), 2) := by decide +kernel
theorem dX11_answer_36 : decode cX11_answer 36 = .ok (.ireturn, 1) := by decide +kernel
theorem dX11_answer_37 : decode cX11_answer 37 = .ok (.aload_n 0, 1) := by decide +kernel
theorem dX11_answer_38 : decode cX11_answer 38 = .ok (.getfield 26, 3) := by decide +kernel
theorem dX11_answer_41 : decode cX11_answer 41 = .ok (.getfield 162, 3) := by decide +kernel
theorem dX11_answer_44 : decode cX11_answer 44 = .ok (.sipush 150, 3) := by decide +kernel
theorem dX11_answer_47 : decode cX11_answer 47 = .ok (.if_icmp .lt 6, 3) := by decide +kernel
theorem dX11_answer_50 : decode cX11_answer 50 = .ok (.bipush (-4), 2) := by decide +kernel
theorem dX11_answer_52 : decode cX11_answer 52 = .ok (.ireturn, 1) := by decide +kernel
theorem dX11_answer_53 : decode cX11_answer 53 = .ok (.aload_n 0, 1) := by decide +kernel
theorem dX11_answer_54 : decode cX11_answer 54 = .ok (.getfield 26, 3) := by decide +kernel
theorem dX11_answer_57 : decode cX11_answer 57 = .ok (.iload_n 1, 1) := by decide +kernel
theorem dX11_answer_58 : decode cX11_answer 58 = .ok (.iload_n 2, 1) := by decide +kernel
theorem dX11_answer_59 : decode cX11_answer 59 = .ok (.iload_n 3, 1) := by decide +kernel
theorem dX11_answer_60 : decode cX11_answer 60 = .ok (.iload 4, 2) := by decide +kernel
theorem dX11_answer_62 : decode cX11_answer 62 = .ok (.invokevirtual 163, 3) := by decide +kernel
theorem dX11_answer_65 : decode cX11_answer 65 = .ok (.aload_n 0, 1) := by decide +kernel
theorem dX11_answer_66 : decode cX11_answer 66 = .ok (.getfield 26, 3) := by decide +kernel
theorem dX11_answer_69 : decode cX11_answer 69 = .ok (.getfield 162, 3) := by decide +kernel
theorem dX11_answer_72 : decode cX11_answer 72 = .ok (.ireturn, 1) := by decide +kernel
theorem dX11_read_0 : decode cX11_read 0 = .ok (.iload_n 1, 1) := by decide +kernel
theorem dX11_read_1 : decode cX11_read 1 = .ok (.invokestatic 167, 3) := by decide +kernel
theorem dX11_read_4 : decode cX11_read 4 = .ok (.ifCond .eq 19, 3) := by decide +kernel
theorem dX11_read_7 : decode cX11_read 7 = .ok (.aload_n 0, 1) := by decide +kernel
theorem dX11_read_8 : decode cX11_read 8 = .ok (.iload_n 2, 1) := by decide +kernel
theorem dX11_read_9 : decode cX11_read 9 = .ok (.invokevirtual 156, 3) := by decide +kernel
theorem dX11_read_12 : decode cX11_read 12 = .ok (.ifCond .eq 11, 3) := by decide +kernel
theorem dX11_read_15 : decode cX11_read 15 = .ok (.aload_n 0, 1) := by decide +kernel
theorem dX11_read_16 : decode cX11_read 16 = .ok (.iload_n 3, 1) := by decide +kernel
theorem dX11_read_17 : decode cX11_read 17 = .ok (.invokevirtual 159, 3) := by decide +kernel
theorem dX11_read_20 : decode cX11_read 20 = .ok (.ifCond .ne 6, 3) := by decide +kernel
theorem dX11_read_23 : decode cX11_read 23 = .ok (.bipush (-2), 2) := by decide +kernel
theorem dX11_read_25 : decode cX11_read 25 = .ok (.ireturn, 1) := by decide +kernel
theorem dX11_read_26 : decode cX11_read 26 = .ok (.aload_n 0, 1) := by decide +kernel
theorem dX11_read_27 : decode cX11_read 27 = .ok (.getfield 93, 3) := by decide +kernel
theorem dX11_read_30 : decode cX11_read 30 = .ok (.iload_n 1, 1) := by decide +kernel
theorem dX11_read_31 : decode cX11_read 31 = .ok (.aaload, 1) := by decide +kernel
theorem dX11_read_32 : decode cX11_read 32 = .ok (.astore 4, 2) := by decide +kernel
theorem dX11_read_34 : decode cX11_read 34 = .ok (.aload 4, 2) := by decide +kernel
theorem dX11_read_36 : decode cX11_read 36 = .ok (.getfield 170, 3) := by decide +kernel
theorem dX11_read_39 : decode cX11_read 39 = .ok (.ifCond .eq 9, 3) := by decide +kernel
theorem dX11_read_42 : decode cX11_read 42 = .ok (.aload_n 0, 1) := by decide +kernel
theorem dX11_read_43 : decode cX11_read 43 = .ok (.iconst 1, 1) := by decide +kernel
theorem dX11_read_44 : decode cX11_read 44 = .ok (.invokevirtual 174, 3) := by decide +kernel
theorem dX11_read_47 : decode cX11_read 47 = .ok (.ireturn, 1) := by decide +kernel
theorem dX11_read_48 : decode cX11_read 48 = .ok (.iconst 0, 1) := by decide +kernel
theorem dX11_read_49 : decode cX11_read 49 = .ok (.istore 5, 2) := by decide +kernel
theorem dX11_read_51 : decode cX11_read 51 = .ok (.iload 5, 2) := by decide +kernel
theorem dX11_read_53 : decode cX11_read 53 = .ok (.aload 4, 2) := by decide +kernel
theorem dX11_read_55 : decode cX11_read 55 = .ok (.getfield 178, 3) := by decide +kernel
theorem dX11_read_58 : decode cX11_read 58 = .ok (.if_icmp .ge 28, 3) := by decide +kernel
theorem dX11_read_61 : decode cX11_read 61 = .ok (.aload_n 0, 1) := by decide +kernel
theorem dX11_read_62 : decode cX11_read 62 = .ok (.iload_n 2, 1) := by decide +kernel
theorem dX11_read_63 : decode cX11_read 63 = .ok (.iload 5, 2) := by decide +kernel
theorem dX11_read_65 : decode cX11_read 65 = .ok (.aload 4, 2) := by decide +kernel
theorem dX11_read_67 : decode cX11_read 67 = .ok (.getfield 179, 3) := by decide +kernel
theorem dX11_read_70 : decode cX11_read 70 = .ok (.iload 5, 2) := by decide +kernel
theorem dX11_read_72 : decode cX11_read 72 = .ok (.iaload, 1) := by decide +kernel
theorem dX11_read_73 : decode cX11_read 73 = .ok (.iload_n 3, 1) := by decide +kernel
theorem dX11_read_74 : decode cX11_read 74 = .ok (.invokevirtual 182, 3) := by decide +kernel
theorem dX11_read_77 : decode cX11_read 77 = .ok (.ifCond .lt 9, 3) := by decide +kernel
theorem dX11_read_80 : decode cX11_read 80 = .ok (.iinc 5 1, 3) := by decide +kernel
theorem dX11_read_83 : decode cX11_read 83 = .ok (.goto (-32), 3) := by decide +kernel
theorem dX11_read_86 : decode cX11_read 86 = .ok (.iload 5, 2) := by decide +kernel
theorem dX11_read_88 : decode cX11_read 88 = .ok (.ireturn, 1) := by decide +kernel
theorem dX11_said_0 : decode cX11_said 0 = .ok (.aload_n 0, 1) := by decide +kernel
theorem dX11_said_1 : decode cX11_said 1 = .ok (.iload_n 1, 1) := by decide +kernel
theorem dX11_said_2 : decode cX11_said 2 = .ok (.invokevirtual 156, 3) := by decide +kernel
theorem dX11_said_5 : decode cX11_said 5 = .ok (.ifCond .eq 25, 3) := by decide +kernel
theorem dX11_said_8 : decode cX11_said 8 = .ok (.aload_n 0, 1) := by decide +kernel
theorem dX11_said_9 : decode cX11_said 9 = .ok (.iload_n 2, 1) := by decide +kernel
theorem dX11_said_10 : decode cX11_said 10 = .ok (.invokevirtual 125, 3) := by decide +kernel
theorem dX11_said_13 : decode cX11_said 13 = .ok (.ifCond .eq 17, 3) := by decide +kernel
theorem dX11_said_16 : decode cX11_said 16 = .ok (.aload_n 0, 1) := by decide +kernel
theorem dX11_said_17 : decode cX11_said 17 = .ok (.getfield 26, 3) := by decide +kernel
theorem dX11_said_20 : decode cX11_said 20 = .ok (.getfield 186, 3) := by decide +kernel
theorem dX11_said_23 : decode cX11_said 23 = .ok (.iload_n 1, 1) := by decide +kernel
theorem dX11_said_24 : decode cX11_said 24 = .ok (.aaload, 1) := by decide +kernel
theorem dX11_said_25 : decode cX11_said 25 = .ok (.iload_n 2, 1) := by decide +kernel
theorem dX11_said_26 : decode cX11_said 26 = .ok (.iaload, 1) := by decide +kernel
theorem dX11_said_27 : decode cX11_said 27 = .ok (.goto 5, 3) := by decide +kernel
theorem dX11_said_30 : decode cX11_said 30 = .ok (.bipush (-2), 2) := by decide +kernel
theorem dX11_said_32 : decode cX11_said 32 = .ok (.ireturn, 1) := by decide +kernel
theorem dX11_beside_0 : decode cX11_beside 0 = .ok (.aload_n 0, 1) := by decide +kernel
theorem dX11_beside_1 : decode cX11_beside 1 = .ok (.iload_n 1, 1) := by decide +kernel
theorem dX11_beside_2 : decode cX11_beside 2 = .ok (.iload_n 2, 1) := by decide +kernel
theorem dX11_beside_3 : decode cX11_beside 3 = .ok (.invokevirtual 190, 3) := by decide +kernel
theorem dX11_beside_6 : decode cX11_beside 6 = .ok (.ifCond .ne 6, 3) := by decide +kernel
theorem dX11_beside_9 : decode cX11_beside 9 = .ok (.bipush (-2), 2) := by decide +kernel
theorem dX11_beside_11 : decode cX11_beside 11 = .ok (.ireturn, 1) := by decide +kernel
theorem dX11_beside_12 : decode cX11_beside 12 = .ok (.aload_n 0, 1) := by decide +kernel
theorem dX11_beside_13 : decode cX11_beside 13 = .ok (.getfield 19, 3) := by decide +kernel
theorem dX11_beside_16 : decode cX11_beside 16 = .ok (.iload_n 1, 1) := by decide +kernel
theorem dX11_beside_17 : decode cX11_beside 17 = .ok (.iload_n 2, 1) := by decide +kernel
theorem dX11_beside_18 : decode cX11_beside 18 = .ok (.invokevirtual 193, 3) := by decide +kernel
theorem dX11_beside_21 : decode cX11_beside 21 = .ok (.ifCond .eq 7, 3) := by decide +kernel
theorem dX11_beside_24 : decode cX11_beside 24 = .ok (.iconst 1, 1) := by decide +kernel
theorem dX11_beside_25 : decode cX11_beside 25 = .ok (.goto 4, 3) := by decide +kernel
theorem dX11_beside_28 : decode cX11_beside 28 = .ok (.iconst 0, 1) := by decide +kernel
theorem dX11_beside_29 : decode cX11_beside 29 = .ok (.ireturn, 1) := by decide +kernel
theorem dX11_mark_0 : decode cX11_mark 0 = .ok (.aload_n 0, 1) := by decide +kernel
theorem dX11_mark_1 : decode cX11_mark 1 = .ok (.iload_n 1, 1) := by decide +kernel
theorem dX11_mark_2 : decode cX11_mark 2 = .ok (.invokevirtual 156, 3) := by decide +kernel
theorem dX11_mark_5 : decode cX11_mark 5 = .ok (.ifCond .ne 6, 3) := by decide +kernel
theorem dX11_mark_8 : decode cX11_mark 8 = .ok (.bipush (-2), 2) := by decide +kernel
theorem dX11_mark_10 : decode cX11_mark 10 = .ok (.ireturn, 1) := by decide +kernel
theorem dX11_mark_11 : decode cX11_mark 11 = .ok (.iload_n 2, 1) := by decide +kernel
theorem dX11_mark_12 : decode cX11_mark 12 = .ok (.tableswitch 90 0 3 #[32, 41, 50, 81], 32) := by decide +kernel
theorem dX11_mark_44 : decode cX11_mark 44 = .ok (.aload_n 0, 1) := by decide +kernel
theorem dX11_mark_45 : decode cX11_mark 45 = .ok (.getfield 42, 3) := by decide +kernel
theorem dX11_mark_48 : decode cX11_mark 48 = .ok (.iload_n 1, 1) := by decide +kernel
theorem dX11_mark_49 : decode cX11_mark 49 = .ok (.invokevirtual 196, 3) := by decide +kernel
theorem dX11_mark_52 : decode cX11_mark 52 = .ok (.ireturn, 1) := by decide +kernel
theorem dX11_mark_53 : decode cX11_mark 53 = .ok (.aload_n 0, 1) := by decide +kernel
theorem dX11_mark_54 : decode cX11_mark 54 = .ok (.getfield 42, 3) := by decide +kernel
theorem dX11_mark_57 : decode cX11_mark 57 = .ok (.iload_n 1, 1) := by decide +kernel
theorem dX11_mark_58 : decode cX11_mark 58 = .ok (.invokevirtual 199, 3) := by decide +kernel
theorem dX11_mark_61 : decode cX11_mark 61 = .ok (.ireturn, 1) := by decide +kernel
theorem dX11_mark_62 : decode cX11_mark 62 = .ok (.aload_n 0, 1) := by decide +kernel
theorem dX11_mark_63 : decode cX11_mark 63 = .ok (.getfield 42, 3) := by decide +kernel
theorem dX11_mark_66 : decode cX11_mark 66 = .ok (.aload_n 0, 1) := by decide +kernel
theorem dX11_mark_67 : decode cX11_mark 67 = .ok (.getfield 42, 3) := by decide +kernel
theorem dX11_mark_70 : decode cX11_mark 70 = .ok (.iload_n 1, 1) := by decide +kernel
theorem dX11_mark_71 : decode cX11_mark 71 = .ok (.invokevirtual 196, 3) := by decide +kernel
theorem dX11_mark_74 : decode cX11_mark 74 = .ok (.aload_n 0, 1) := by decide +kernel
theorem dX11_mark_75 : decode cX11_mark 75 = .ok (.getfield 10, 3) := by decide +kernel
theorem dX11_mark_78 : decode cX11_mark 78 = .ok (.getfield 202, 3) := by decide +kernel
theorem dX11_mark_81 : decode cX11_mark 81 = .ok (.invokevirtual 205, 3) := by decide +kernel
theorem dX11_mark_84 : decode cX11_mark 84 = .ok (.ifCond .eq 7, 3) := by decide +kernel
theorem dX11_mark_87 : decode cX11_mark 87 = .ok (.iconst 1, 1) := by decide +kernel
theorem dX11_mark_88 : decode cX11_mark 88 = .ok (.goto 4, 3) := by decide +kernel
theorem dX11_mark_91 : decode cX11_mark 91 = .ok (.iconst 0, 1) := by decide +kernel
theorem dX11_mark_92 : decode cX11_mark 92 = .ok (.ireturn, 1) := by decide +kernel
theorem dX11_mark_93 : decode cX11_mark 93 = .ok (.aload_n 0, 1) := by decide +kernel
theorem dX11_mark_94 : decode cX11_mark 94 = .ok (.getfield 42, 3) := by decide +kernel
theorem dX11_mark_97 : decode cX11_mark 97 = .ok (.iload_n 1, 1) := by decide +kernel
theorem dX11_mark_98 : decode cX11_mark 98 = .ok (.invokevirtual 208, 3) := by decide +kernel
theorem dX11_mark_101 : decode cX11_mark 101 = .ok (.ireturn, 1) := by decide +kernel
theorem dX11_mark_102 : decode cX11_mark 102 = .ok (.bipush (-2), 2) := by decide +kernel
theorem dX11_mark_104 : decode cX11_mark 104 = .ok (.ireturn, 1) := by decide +kernel
theorem dX11_shared_0 : decode cX11_shared 0 = .ok (.aload_n 0, 1) := by decide +kernel
theorem dX11_shared_1 : decode cX11_shared 1 = .ok (.iload_n 1, 1) := by decide +kernel
theorem dX11_shared_2 : decode cX11_shared 2 = .ok (.iload_n 2, 1) := by decide +kernel
theorem dX11_shared_3 : decode cX11_shared 3 = .ok (.invokevirtual 190, 3) := by decide +kernel
theorem dX11_shared_6 : decode cX11_shared 6 = .ok (.ifCond .ne 6, 3) := by decide +kernel
theorem dX11_shared_9 : decode cX11_shared 9 = .ok (.bipush (-2), 2) := by decide +kernel
theorem dX11_shared_11 : decode cX11_shared 11 = .ok (.ireturn, 1) := by decide +kernel
theorem dX11_shared_12 : decode cX11_shared 12 = .ok (.iload_n 3, 1) := by decide +kernel
theorem dX11_shared_13 : decode cX11_shared 13 = .ok (.tableswitch 65 0 2 #[27, 37, 47], 27) := by decide +kernel
theorem dX11_shared_40 : decode cX11_shared 40 = .ok (.aload_n 0, 1) := by decide +kernel
theorem dX11_shared_41 : decode cX11_shared 41 = .ok (.getfield 60, 3) := by decide +kernel
theorem dX11_shared_44 : decode cX11_shared 44 = .ok (.iload_n 1, 1) := by decide +kernel
theorem dX11_shared_45 : decode cX11_shared 45 = .ok (.iload_n 2, 1) := by decide +kernel
theorem dX11_shared_46 : decode cX11_shared 46 = .ok (.invokevirtual 211, 3) := by decide +kernel
theorem dX11_shared_49 : decode cX11_shared 49 = .ok (.ireturn, 1) := by decide +kernel
theorem dX11_shared_50 : decode cX11_shared 50 = .ok (.aload_n 0, 1) := by decide +kernel
theorem dX11_shared_51 : decode cX11_shared 51 = .ok (.getfield 60, 3) := by decide +kernel
theorem dX11_shared_54 : decode cX11_shared 54 = .ok (.iload_n 1, 1) := by decide +kernel
theorem dX11_shared_55 : decode cX11_shared 55 = .ok (.iload_n 2, 1) := by decide +kernel
theorem dX11_shared_56 : decode cX11_shared 56 = .ok (.invokevirtual 215, 3) := by decide +kernel
theorem dX11_shared_59 : decode cX11_shared 59 = .ok (.ireturn, 1) := by decide +kernel
theorem dX11_shared_60 : decode cX11_shared 60 = .ok (.aload_n 0, 1) := by decide +kernel
theorem dX11_shared_61 : decode cX11_shared 61 = .ok (.getfield 60, 3) := by decide +kernel
theorem dX11_shared_64 : decode cX11_shared 64 = .ok (.iload_n 1, 1) := by decide +kernel
theorem dX11_shared_65 : decode cX11_shared 65 = .ok (.iload_n 2, 1) := by decide +kernel
theorem dX11_shared_66 : decode cX11_shared 66 = .ok (.invokevirtual 218, 3) := by decide +kernel
theorem dX11_shared_69 : decode cX11_shared 69 = .ok (.ifCond .eq 7, 3) := by decide +kernel
theorem dX11_shared_72 : decode cX11_shared 72 = .ok (.iconst 1, 1) := by decide +kernel
theorem dX11_shared_73 : decode cX11_shared 73 = .ok (.goto 4, 3) := by decide +kernel
theorem dX11_shared_76 : decode cX11_shared 76 = .ok (.iconst 0, 1) := by decide +kernel
theorem dX11_shared_77 : decode cX11_shared 77 = .ok (.ireturn, 1) := by decide +kernel
theorem dX11_shared_78 : decode cX11_shared 78 = .ok (.bipush (-2), 2) := by decide +kernel
theorem dX11_shared_80 : decode cX11_shared 80 = .ok (.ireturn, 1) := by decide +kernel
theorem dX11_chance_0 : decode cX11_chance 0 = .ok (.aload_n 0, 1) := by decide +kernel
theorem dX11_chance_1 : decode cX11_chance 1 = .ok (.iload_n 1, 1) := by decide +kernel
theorem dX11_chance_2 : decode cX11_chance 2 = .ok (.iload_n 2, 1) := by decide +kernel
theorem dX11_chance_3 : decode cX11_chance 3 = .ok (.invokevirtual 190, 3) := by decide +kernel
theorem dX11_chance_6 : decode cX11_chance 6 = .ok (.ifCond .eq 10, 3) := by decide +kernel
theorem dX11_chance_9 : decode cX11_chance 9 = .ok (.iload_n 3, 1) := by decide +kernel
theorem dX11_chance_10 : decode cX11_chance 10 = .ok (.invokestatic 221, 3) := by decide +kernel
theorem dX11_chance_13 : decode cX11_chance 13 = .ok (.ifCond .ne 9, 3) := by decide +kernel
theorem dX11_chance_16 : decode cX11_chance 16 = .ok (.bipush (-2), 2) := by decide +kernel
theorem dX11_chance_18 : decode cX11_chance 18 = .ok (.invokestatic 224, 3) := by decide +kernel
theorem dX11_chance_21 : decode cX11_chance 21 = .ok (.lreturn, 1) := by decide +kernel
theorem dX11_chance_22 : decode cX11_chance 22 = .ok (.aload_n 0, 1) := by decide +kernel
theorem dX11_chance_23 : decode cX11_chance 23 = .ok (.getfield 60, 3) := by decide +kernel
theorem dX11_chance_26 : decode cX11_chance 26 = .ok (.iload_n 1, 1) := by decide +kernel
theorem dX11_chance_27 : decode cX11_chance 27 = .ok (.iload_n 2, 1) := by decide +kernel
theorem dX11_chance_28 : decode cX11_chance 28 = .ok (.invokevirtual 228, 3) := by decide +kernel
theorem dX11_chance_31 : decode cX11_chance 31 = .ok (.ifCond .ne 9, 3) := by decide +kernel
theorem dX11_chance_34 : decode cX11_chance 34 = .ok (.bipush (-4), 2) := by decide +kernel
theorem dX11_chance_36 : decode cX11_chance 36 = .ok (.invokestatic 224, 3) := by decide +kernel
theorem dX11_chance_39 : decode cX11_chance 39 = .ok (.lreturn, 1) := by decide +kernel
theorem dX11_chance_40 : decode cX11_chance 40 = .ok (.aload_n 0, 1) := by decide +kernel
theorem dX11_chance_41 : decode cX11_chance 41 = .ok (.getfield 33, 3) := by decide +kernel
theorem dX11_chance_44 : decode cX11_chance 44 = .ok (.iload_n 3, 1) := by decide +kernel
theorem dX11_chance_45 : decode cX11_chance 45 = .ok (.invokevirtual 231, 3) := by decide +kernel
theorem dX11_chance_48 : decode cX11_chance 48 = .ok (.lreturn, 1) := by decide +kernel
theorem dX11_seats_0 : decode cX11_seats 0 = .ok (.iload_n 1, 1) := by decide +kernel
theorem dX11_seats_1 : decode cX11_seats 1 = .ok (.lookupswitch 43 #[(0, 27), (1, 35)], 27) := by decide +kernel
theorem dX11_seats_28 : decode cX11_seats 28 = .ok (.aload_n 0, 1) := by decide +kernel
theorem dX11_seats_29 : decode cX11_seats 29 = .ok (.getfield 60, 3) := by decide +kernel
theorem dX11_seats_32 : decode cX11_seats 32 = .ok (.invokevirtual 234, 3) := by decide +kernel
theorem dX11_seats_35 : decode cX11_seats 35 = .ok (.ireturn, 1) := by decide +kernel
theorem dX11_seats_36 : decode cX11_seats 36 = .ok (.aload_n 0, 1) := by decide +kernel
theorem dX11_seats_37 : decode cX11_seats 37 = .ok (.getfield 78, 3) := by decide +kernel
theorem dX11_seats_40 : decode cX11_seats 40 = .ok (.invokevirtual 238, 3) := by decide +kernel
theorem dX11_seats_43 : decode cX11_seats 43 = .ok (.ireturn, 1) := by decide +kernel
theorem dX11_seats_44 : decode cX11_seats 44 = .ok (.bipush (-2), 2) := by decide +kernel
theorem dX11_seats_46 : decode cX11_seats 46 = .ok (.ireturn, 1) := by decide +kernel
theorem dX11_sources_0 : decode cX11_sources 0 = .ok (.aload_n 0, 1) := by decide +kernel
theorem dX11_sources_1 : decode cX11_sources 1 = .ok (.getfield 69, 3) := by decide +kernel
theorem dX11_sources_4 : decode cX11_sources 4 = .ok (.invokevirtual 241, 3) := by decide +kernel
theorem dX11_sources_7 : decode cX11_sources 7 = .ok (.aload_n 0, 1) := by decide +kernel
theorem dX11_sources_8 : decode cX11_sources 8 = .ok (.getfield 69, 3) := by decide +kernel
theorem dX11_sources_11 : decode cX11_sources 11 = .ok (.invokevirtual 244, 3) := by decide +kernel
theorem dX11_sources_14 : decode cX11_sources 14 = .ok (.ireturn, 1) := by decide +kernel
theorem dX11_from_0 : decode cX11_from 0 = .ok (.aload_n 0, 1) := by decide +kernel
theorem dX11_from_1 : decode cX11_from 1 = .ok (.iload_n 1, 1) := by decide +kernel
theorem dX11_from_2 : decode cX11_from 2 = .ok (.iload_n 2, 1) := by decide +kernel
theorem dX11_from_3 : decode cX11_from 3 = .ok (.invokevirtual 190, 3) := by decide +kernel
theorem dX11_from_6 : decode cX11_from 6 = .ok (.ifCond .ne 6, 3) := by decide +kernel
theorem dX11_from_9 : decode cX11_from 9 = .ok (.bipush (-2), 2) := by decide +kernel
theorem dX11_from_11 : decode cX11_from 11 = .ok (.ireturn, 1) := by decide +kernel
theorem dX11_from_12 : decode cX11_from 12 = .ok (.aload_n 0, 1) := by decide +kernel
theorem dX11_from_13 : decode cX11_from 13 = .ok (.getfield 19, 3) := by decide +kernel
theorem dX11_from_16 : decode cX11_from 16 = .ok (.iload_n 1, 1) := by decide +kernel
theorem dX11_from_17 : decode cX11_from 17 = .ok (.iload_n 2, 1) := by decide +kernel
theorem dX11_from_18 : decode cX11_from 18 = .ok (.invokevirtual 193, 3) := by decide +kernel
theorem dX11_from_21 : decode cX11_from 21 = .ok (.ifCond .eq 15, 3) := by decide +kernel
theorem dX11_from_24 : decode cX11_from 24 = .ok (.aload_n 0, 1) := by decide +kernel
theorem dX11_from_25 : decode cX11_from 25 = .ok (.getfield 60, 3) := by decide +kernel
theorem dX11_from_28 : decode cX11_from 28 = .ok (.iload_n 1, 1) := by decide +kernel
theorem dX11_from_29 : decode cX11_from 29 = .ok (.iload_n 2, 1) := by decide +kernel
theorem dX11_from_30 : decode cX11_from 30 = .ok (.invokevirtual 218, 3) := by decide +kernel
theorem dX11_from_33 : decode cX11_from 33 = .ok (.ifCond .ne 6, 3) := by decide +kernel
theorem dX11_from_36 : decode cX11_from 36 = .ok (.bipush (-3), 2) := by decide +kernel
theorem dX11_from_38 : decode cX11_from 38 = .ok (.ireturn, 1) := by decide +kernel
theorem dX11_from_39 : decode cX11_from 39 = .ok (.aload_n 0, 1) := by decide +kernel
theorem dX11_from_40 : decode cX11_from 40 = .ok (.getfield 69, 3) := by decide +kernel
theorem dX11_from_43 : decode cX11_from 43 = .ok (.invokevirtual 247, 3) := by decide +kernel
theorem dX11_from_46 : decode cX11_from 46 = .ok (.aload_n 0, 1) := by decide +kernel
theorem dX11_from_47 : decode cX11_from 47 = .ok (.getfield 69, 3) := by decide +kernel
theorem dX11_from_50 : decode cX11_from 50 = .ok (.iload_n 1, 1) := by decide +kernel
theorem dX11_from_51 : decode cX11_from 51 = .ok (.iload_n 2, 1) := by decide +kernel
theorem dX11_from_52 : decode cX11_from 52 = .ok (.invokevirtual 250, 3) := by decide +kernel
theorem dX11_from_55 : decode cX11_from 55 = .ok (.ireturn, 1) := by decide +kernel
theorem dX11_chain_0 : decode cX11_chain 0 = .ok (.aload_n 0, 1) := by decide +kernel
theorem dX11_chain_1 : decode cX11_chain 1 = .ok (.getfield 69, 3) := by decide +kernel
theorem dX11_chain_4 : decode cX11_chain 4 = .ok (.invokevirtual 241, 3) := by decide +kernel
theorem dX11_chain_7 : decode cX11_chain 7 = .ok (.aload_n 0, 1) := by decide +kernel
theorem dX11_chain_8 : decode cX11_chain 8 = .ok (.getfield 69, 3) := by decide +kernel
theorem dX11_chain_11 : decode cX11_chain 11 = .ok (.invokevirtual 247, 3) := by decide +kernel
theorem dX11_chain_14 : decode cX11_chain 14 = .ok (.aload_n 0, 1) := by decide +kernel
theorem dX11_chain_15 : decode cX11_chain 15 = .ok (.getfield 69, 3) := by decide +kernel
theorem dX11_chain_18 : decode cX11_chain 18 = .ok (.invokevirtual 253, 3) := by decide +kernel
theorem dX11_chain_21 : decode cX11_chain 21 = .ok (.ireturn, 1) := by decide +kernel
theorem dX11_rubbed_0 : decode cX11_rubbed 0 = .ok (.aload_n 0, 1) := by decide +kernel
theorem dX11_rubbed_1 : decode cX11_rubbed 1 = .ok (.iload_n 1, 1) := by decide +kernel
theorem dX11_rubbed_2 : decode cX11_rubbed 2 = .ok (.invokevirtual 156, 3) := by decide +kernel
theorem dX11_rubbed_5 : decode cX11_rubbed 5 = .ok (.ifCond .eq 12, 3) := by decide +kernel
theorem dX11_rubbed_8 : decode cX11_rubbed 8 = .ok (.iload_n 2, 1) := by decide +kernel
theorem dX11_rubbed_9 : decode cX11_rubbed 9 = .ok (.iconst 0, 1) := by decide +kernel
theorem dX11_rubbed_10 : decode cX11_rubbed 10 = .ok (.iconst 2, 1) := by decide +kernel
theorem dX11_rubbed_11 : decode cX11_rubbed 11 = .ok (.invokestatic 102, 3) := by decide +kernel
theorem dX11_rubbed_14 : decode cX11_rubbed 14 = .ok (.ifCond .ne 6, 3) := by decide +kernel
theorem dX11_rubbed_17 : decode cX11_rubbed 17 = .ok (.bipush (-2), 2) := by decide +kernel
theorem dX11_rubbed_19 : decode cX11_rubbed 19 = .ok (.ireturn, 1) := by decide +kernel
theorem dX11_rubbed_20 : decode cX11_rubbed 20 = .ok (.aload_n 0, 1) := by decide +kernel
theorem dX11_rubbed_21 : decode cX11_rubbed 21 = .ok (.getfield 51, 3) := by decide +kernel
theorem dX11_rubbed_24 : decode cX11_rubbed 24 = .ok (.iconst 1, 1) := by decide +kernel
theorem dX11_rubbed_25 : decode cX11_rubbed 25 = .ok (.iload_n 1, 1) := by decide +kernel
theorem dX11_rubbed_26 : decode cX11_rubbed 26 = .ok (.ishl, 1) := by decide +kernel
theorem dX11_rubbed_27 : decode cX11_rubbed 27 = .ok (.iload_n 2, 1) := by decide +kernel
theorem dX11_rubbed_28 : decode cX11_rubbed 28 = .ok (.invokevirtual 256, 3) := by decide +kernel
theorem dX11_rubbed_31 : decode cX11_rubbed 31 = .ok (.ireturn, 1) := by decide +kernel
theorem dX11_gains_0 : decode cX11_gains 0 = .ok (.iload_n 1, 1) := by decide +kernel
theorem dX11_gains_1 : decode cX11_gains 1 = .ok (.iconst 0, 1) := by decide +kernel
theorem dX11_gains_2 : decode cX11_gains 2 = .ok (.sipush 1023, 3) := by decide +kernel
theorem dX11_gains_5 : decode cX11_gains 5 = .ok (.invokestatic 102, 3) := by decide +kernel
theorem dX11_gains_8 : decode cX11_gains 8 = .ok (.ifCond .eq 10, 3) := by decide +kernel
theorem dX11_gains_11 : decode cX11_gains 11 = .ok (.iload_n 2, 1) := by decide +kernel
theorem dX11_gains_12 : decode cX11_gains 12 = .ok (.invokestatic 221, 3) := by decide +kernel
theorem dX11_gains_15 : decode cX11_gains 15 = .ok (.ifCond .ne 9, 3) := by decide +kernel
theorem dX11_gains_18 : decode cX11_gains 18 = .ok (.bipush (-2), 2) := by decide +kernel
theorem dX11_gains_20 : decode cX11_gains 20 = .ok (.invokestatic 224, 3) := by decide +kernel
theorem dX11_gains_23 : decode cX11_gains 23 = .ok (.lreturn, 1) := by decide +kernel
theorem dX11_gains_24 : decode cX11_gains 24 = .ok (.aload_n 0, 1) := by decide +kernel
theorem dX11_gains_25 : decode cX11_gains 25 = .ok (.getfield 51, 3) := by decide +kernel
theorem dX11_gains_28 : decode cX11_gains 28 = .ok (.sipush 1023, 3) := by decide +kernel
theorem dX11_gains_31 : decode cX11_gains 31 = .ok (.iconst 0, 1) := by decide +kernel
theorem dX11_gains_32 : decode cX11_gains 32 = .ok (.invokevirtual 256, 3) := by decide +kernel
theorem dX11_gains_35 : decode cX11_gains 35 = .ok (.bipush 60, 2) := by decide +kernel
theorem dX11_gains_37 : decode cX11_gains 37 = .ok (.if_icmp .le 9, 3) := by decide +kernel
theorem dX11_gains_40 : decode cX11_gains 40 = .ok (.bipush (-4), 2) := by decide +kernel
theorem dX11_gains_42 : decode cX11_gains 42 = .ok (.invokestatic 224, 3) := by decide +kernel
theorem dX11_gains_45 : decode cX11_gains 45 = .ok (.lreturn, 1) := by decide +kernel
theorem dX11_gains_46 : decode cX11_gains 46 = .ok (.aload_n 0, 1) := by decide +kernel
theorem dX11_gains_47 : decode cX11_gains 47 = .ok (.getfield 51, 3) := by decide +kernel
theorem dX11_gains_50 : decode cX11_gains 50 = .ok (.iload_n 1, 1) := by decide +kernel
theorem dX11_gains_51 : decode cX11_gains 51 = .ok (.aload_n 0, 1) := by decide +kernel
theorem dX11_gains_52 : decode cX11_gains 52 = .ok (.getfield 33, 3) := by decide +kernel
theorem dX11_gains_55 : decode cX11_gains 55 = .ok (.invokevirtual 259, 3) := by decide +kernel
theorem dX11_gains_58 : decode cX11_gains 58 = .ok (.aload_n 0, 1) := by decide +kernel
theorem dX11_gains_59 : decode cX11_gains 59 = .ok (.getfield 33, 3) := by decide +kernel
theorem dX11_gains_62 : decode cX11_gains 62 = .ok (.iload_n 2, 1) := by decide +kernel
theorem dX11_gains_63 : decode cX11_gains 63 = .ok (.invokevirtual 231, 3) := by decide +kernel
theorem dX11_gains_66 : decode cX11_gains 66 = .ok (.lreturn, 1) := by decide +kernel
theorem dX11_known_0 : decode cX11_known 0 = .ok (.iload_n 1, 1) := by decide +kernel
theorem dX11_known_1 : decode cX11_known 1 = .ok (.iconst 1, 1) := by decide +kernel
theorem dX11_known_2 : decode cX11_known 2 = .ok (.sipush 1023, 3) := by decide +kernel
theorem dX11_known_5 : decode cX11_known 5 = .ok (.invokestatic 102, 3) := by decide +kernel
theorem dX11_known_8 : decode cX11_known 8 = .ok (.ifCond .eq 25, 3) := by decide +kernel
theorem dX11_known_11 : decode cX11_known 11 = .ok (.iload_n 1, 1) := by decide +kernel
theorem dX11_known_12 : decode cX11_known 12 = .ok (.aload_n 0, 1) := by decide +kernel
theorem dX11_known_13 : decode cX11_known 13 = .ok (.getfield 19, 3) := by decide +kernel
theorem dX11_known_16 : decode cX11_known 16 = .ok (.invokevirtual 263, 3) := by decide +kernel
theorem dX11_known_19 : decode cX11_known 19 = .ok (.iand, 1) := by decide +kernel
theorem dX11_known_20 : decode cX11_known 20 = .ok (.ifCond .eq 13, 3) := by decide +kernel
theorem dX11_known_23 : decode cX11_known 23 = .ok (.iload_n 2, 1) := by decide +kernel
theorem dX11_known_24 : decode cX11_known 24 = .ok (.iconst 0, 1) := by decide +kernel
theorem dX11_known_25 : decode cX11_known 25 = .ok (.bipush 100, 2) := by decide +kernel
theorem dX11_known_27 : decode cX11_known 27 = .ok (.invokestatic 102, 3) := by decide +kernel
theorem dX11_known_30 : decode cX11_known 30 = .ok (.ifCond .ne 6, 3) := by decide +kernel
theorem dX11_known_33 : decode cX11_known 33 = .ok (.bipush (-2), 2) := by decide +kernel
theorem dX11_known_35 : decode cX11_known 35 = .ok (.ireturn, 1) := by decide +kernel
theorem dX11_known_36 : decode cX11_known 36 = .ok (.iload_n 1, 1) := by decide +kernel
theorem dX11_known_37 : decode cX11_known 37 = .ok (.aload_n 0, 1) := by decide +kernel
theorem dX11_known_38 : decode cX11_known 38 = .ok (.getfield 19, 3) := by decide +kernel
theorem dX11_known_41 : decode cX11_known 41 = .ok (.invokevirtual 263, 3) := by decide +kernel
theorem dX11_known_44 : decode cX11_known 44 = .ok (.iand, 1) := by decide +kernel
theorem dX11_known_45 : decode cX11_known 45 = .ok (.istore_n 3, 1) := by decide +kernel
theorem dX11_known_46 : decode cX11_known 46 = .ok (.aload_n 0, 1) := by decide +kernel
theorem dX11_known_47 : decode cX11_known 47 = .ok (.getfield 19, 3) := by decide +kernel
theorem dX11_known_50 : decode cX11_known 50 = .ok (.invokevirtual 263, 3) := by decide +kernel
theorem dX11_known_53 : decode cX11_known 53 = .ok (.iload_n 1, 1) := by decide +kernel
theorem dX11_known_54 : decode cX11_known 54 = .ok (.iconst (-1), 1) := by decide +kernel
theorem dX11_known_55 : decode cX11_known 55 = .ok (.ixor, 1) := by decide +kernel
theorem dX11_known_56 : decode cX11_known 56 = .ok (.iand, 1) := by decide +kernel
theorem dX11_known_57 : decode cX11_known 57 = .ok (.istore 4, 2) := by decide +kernel
theorem dX11_known_59 : decode cX11_known 59 = .ok (.iconst 0, 1) := by decide +kernel
theorem dX11_known_60 : decode cX11_known 60 = .ok (.istore 5, 2) := by decide +kernel
theorem dX11_known_62 : decode cX11_known 62 = .ok (.iconst 0, 1) := by decide +kernel
theorem dX11_known_63 : decode cX11_known 63 = .ok (.istore 6, 2) := by decide +kernel
theorem dX11_known_65 : decode cX11_known 65 = .ok (.iload 6, 2) := by decide +kernel
theorem dX11_known_67 : decode cX11_known 67 = .ok (.aload_n 0, 1) := by decide +kernel
theorem dX11_known_68 : decode cX11_known 68 = .ok (.getfield 10, 3) := by decide +kernel
theorem dX11_known_71 : decode cX11_known 71 = .ok (.getfield 106, 3) := by decide +kernel
theorem dX11_known_74 : decode cX11_known 74 = .ok (.if_icmp .ge 96, 3) := by decide +kernel
theorem dX11_known_77 : decode cX11_known 77 = .ok (.aload_n 0, 1) := by decide +kernel
theorem dX11_known_78 : decode cX11_known 78 = .ok (.getfield 42, 3) := by decide +kernel
theorem dX11_known_81 : decode cX11_known 81 = .ok (.iload 6, 2) := by decide +kernel
theorem dX11_known_83 : decode cX11_known 83 = .ok (.iload_n 3, 1) := by decide +kernel
theorem dX11_known_84 : decode cX11_known 84 = .ok (.invokevirtual 266, 3) := by decide +kernel
theorem dX11_known_87 : decode cX11_known 87 = .ok (.iload_n 3, 1) := by decide +kernel
theorem dX11_known_88 : decode cX11_known 88 = .ok (.invokestatic 269, 3) := by decide +kernel
theorem dX11_known_91 : decode cX11_known 91 = .ok (.if_icmp .ne 7, 3) := by decide +kernel
theorem dX11_known_94 : decode cX11_known 94 = .ok (.iconst 1, 1) := by decide +kernel
theorem dX11_known_95 : decode cX11_known 95 = .ok (.goto 4, 3) := by decide +kernel
theorem dX11_known_98 : decode cX11_known 98 = .ok (.iconst 0, 1) := by decide +kernel
theorem dX11_known_99 : decode cX11_known 99 = .ok (.istore 7, 2) := by decide +kernel
theorem dX11_known_101 : decode cX11_known 101 = .ok (.aload_n 0, 1) := by decide +kernel
theorem dX11_known_102 : decode cX11_known 102 = .ok (.getfield 42, 3) := by decide +kernel
theorem dX11_known_105 : decode cX11_known 105 = .ok (.iload 6, 2) := by decide +kernel
theorem dX11_known_107 : decode cX11_known 107 = .ok (.iload 4, 2) := by decide +kernel
theorem dX11_known_109 : decode cX11_known 109 = .ok (.invokevirtual 266, 3) := by decide +kernel
theorem dX11_known_112 : decode cX11_known 112 = .ok (.bipush 100, 2) := by decide +kernel
theorem dX11_known_114 : decode cX11_known 114 = .ok (.imul, 1) := by decide +kernel
theorem dX11_known_115 : decode cX11_known 115 = .ok (.iload_n 2, 1) := by decide +kernel
theorem dX11_known_116 : decode cX11_known 116 = .ok (.iload 4, 2) := by decide +kernel
theorem dX11_known_118 : decode cX11_known 118 = .ok (.invokestatic 269, 3) := by decide +kernel
theorem dX11_known_121 : decode cX11_known 121 = .ok (.imul, 1) := by decide +kernel
theorem dX11_known_122 : decode cX11_known 122 = .ok (.if_icmp .gt 7, 3) := by decide +kernel
theorem dX11_known_125 : decode cX11_known 125 = .ok (.iconst 1, 1) := by decide +kernel
theorem dX11_known_126 : decode cX11_known 126 = .ok (.goto 4, 3) := by decide +kernel
theorem dX11_known_129 : decode cX11_known 129 = .ok (.iconst 0, 1) := by decide +kernel
theorem dX11_known_130 : decode cX11_known 130 = .ok (.istore 8, 2) := by decide +kernel
theorem dX11_known_132 : decode cX11_known 132 = .ok (.aload_n 0, 1) := by decide +kernel
theorem dX11_known_133 : decode cX11_known 133 = .ok (.getfield 10, 3) := by decide +kernel
theorem dX11_known_136 : decode cX11_known 136 = .ok (.getfield 129, 3) := by decide +kernel
theorem dX11_known_139 : decode cX11_known 139 = .ok (.iload 6, 2) := by decide +kernel
theorem dX11_known_141 : decode cX11_known 141 = .ok (.iaload, 1) := by decide +kernel
theorem dX11_known_142 : decode cX11_known 142 = .ok (.ifCond .eq 22, 3) := by decide +kernel
theorem dX11_known_145 : decode cX11_known 145 = .ok (.iload 7, 2) := by decide +kernel
theorem dX11_known_147 : decode cX11_known 147 = .ok (.ifCond .eq 17, 3) := by decide +kernel
theorem dX11_known_150 : decode cX11_known 150 = .ok (.iload 8, 2) := by decide +kernel
theorem dX11_known_152 : decode cX11_known 152 = .ok (.ifCond .eq 12, 3) := by decide +kernel
theorem dX11_known_155 : decode cX11_known 155 = .ok (.iload 5, 2) := by decide +kernel
theorem dX11_known_157 : decode cX11_known 157 = .ok (.iconst 1, 1) := by decide +kernel
theorem dX11_known_158 : decode cX11_known 158 = .ok (.iload 6, 2) := by decide +kernel
theorem dX11_known_160 : decode cX11_known 160 = .ok (.ishl, 1) := by decide +kernel
theorem dX11_known_161 : decode cX11_known 161 = .ok (.ior, 1) := by decide +kernel
theorem dX11_known_162 : decode cX11_known 162 = .ok (.istore 5, 2) := by decide +kernel
theorem dX11_known_164 : decode cX11_known 164 = .ok (.iinc 6 1, 3) := by decide +kernel
theorem dX11_known_167 : decode cX11_known 167 = .ok (.goto (-102), 3) := by decide +kernel
theorem dX11_known_170 : decode cX11_known 170 = .ok (.iload 5, 2) := by decide +kernel
theorem dX11_known_172 : decode cX11_known 172 = .ok (.ireturn, 1) := by decide +kernel
theorem dX11_lead_0 : decode cX11_lead 0 = .ok (.aload_n 0, 1) := by decide +kernel
theorem dX11_lead_1 : decode cX11_lead 1 = .ok (.iload_n 1, 1) := by decide +kernel
theorem dX11_lead_2 : decode cX11_lead 2 = .ok (.invokevirtual 125, 3) := by decide +kernel
theorem dX11_lead_5 : decode cX11_lead 5 = .ok (.ifCond .eq 21, 3) := by decide +kernel
theorem dX11_lead_8 : decode cX11_lead 8 = .ok (.iload_n 2, 1) := by decide +kernel
theorem dX11_lead_9 : decode cX11_lead 9 = .ok (.iconst 0, 1) := by decide +kernel
theorem dX11_lead_10 : decode cX11_lead 10 = .ok (.sipush 1023, 3) := by decide +kernel
theorem dX11_lead_13 : decode cX11_lead 13 = .ok (.invokestatic 102, 3) := by decide +kernel
theorem dX11_lead_16 : decode cX11_lead 16 = .ok (.ifCond .eq 10, 3) := by decide +kernel
theorem dX11_lead_19 : decode cX11_lead 19 = .ok (.iload_n 3, 1) := by decide +kernel
theorem dX11_lead_20 : decode cX11_lead 20 = .ok (.invokestatic 221, 3) := by decide +kernel
theorem dX11_lead_23 : decode cX11_lead 23 = .ok (.ifCond .ne 9, 3) := by decide +kernel
theorem dX11_lead_26 : decode cX11_lead 26 = .ok (.bipush (-2), 2) := by decide +kernel
theorem dX11_lead_28 : decode cX11_lead 28 = .ok (.invokestatic 224, 3) := by decide +kernel
theorem dX11_lead_31 : decode cX11_lead 31 = .ok (.lreturn, 1) := by decide +kernel
theorem dX11_lead_32 : decode cX11_lead 32 = .ok (.iload_n 2, 1) := by decide +kernel
theorem dX11_lead_33 : decode cX11_lead 33 = .ok (.aload_n 0, 1) := by decide +kernel
theorem dX11_lead_34 : decode cX11_lead 34 = .ok (.getfield 19, 3) := by decide +kernel
theorem dX11_lead_37 : decode cX11_lead 37 = .ok (.invokevirtual 263, 3) := by decide +kernel
theorem dX11_lead_40 : decode cX11_lead 40 = .ok (.iand, 1) := by decide +kernel
theorem dX11_lead_41 : decode cX11_lead 41 = .ok (.istore 4, 2) := by decide +kernel
theorem dX11_lead_43 : decode cX11_lead 43 = .ok (.aload_n 0, 1) := by decide +kernel
theorem dX11_lead_44 : decode cX11_lead 44 = .ok (.getfield 19, 3) := by decide +kernel
theorem dX11_lead_47 : decode cX11_lead 47 = .ok (.invokevirtual 263, 3) := by decide +kernel
theorem dX11_lead_50 : decode cX11_lead 50 = .ok (.iload_n 2, 1) := by decide +kernel
theorem dX11_lead_51 : decode cX11_lead 51 = .ok (.iconst (-1), 1) := by decide +kernel
theorem dX11_lead_52 : decode cX11_lead 52 = .ok (.ixor, 1) := by decide +kernel
theorem dX11_lead_53 : decode cX11_lead 53 = .ok (.iand, 1) := by decide +kernel
theorem dX11_lead_54 : decode cX11_lead 54 = .ok (.istore 5, 2) := by decide +kernel
theorem dX11_lead_56 : decode cX11_lead 56 = .ok (.iload 4, 2) := by decide +kernel
theorem dX11_lead_58 : decode cX11_lead 58 = .ok (.ifCond .eq 20, 3) := by decide +kernel
theorem dX11_lead_61 : decode cX11_lead 61 = .ok (.iload 5, 2) := by decide +kernel
theorem dX11_lead_63 : decode cX11_lead 63 = .ok (.ifCond .eq 15, 3) := by decide +kernel
theorem dX11_lead_66 : decode cX11_lead 66 = .ok (.aload_n 0, 1) := by decide +kernel
theorem dX11_lead_67 : decode cX11_lead 67 = .ok (.getfield 10, 3) := by decide +kernel
theorem dX11_lead_70 : decode cX11_lead 70 = .ok (.getfield 129, 3) := by decide +kernel
theorem dX11_lead_73 : decode cX11_lead 73 = .ok (.iload_n 1, 1) := by decide +kernel
theorem dX11_lead_74 : decode cX11_lead 74 = .ok (.iaload, 1) := by decide +kernel
theorem dX11_lead_75 : decode cX11_lead 75 = .ok (.ifCond .ne 9, 3) := by decide +kernel
theorem dX11_lead_78 : decode cX11_lead 78 = .ok (.bipush (-3), 2) := by decide +kernel
theorem dX11_lead_80 : decode cX11_lead 80 = .ok (.invokestatic 224, 3) := by decide +kernel
theorem dX11_lead_83 : decode cX11_lead 83 = .ok (.lreturn, 1) := by decide +kernel
theorem dX11_lead_84 : decode cX11_lead 84 = .ok (.aload_n 0, 1) := by decide +kernel
theorem dX11_lead_85 : decode cX11_lead 85 = .ok (.getfield 42, 3) := by decide +kernel
theorem dX11_lead_88 : decode cX11_lead 88 = .ok (.iload_n 1, 1) := by decide +kernel
theorem dX11_lead_89 : decode cX11_lead 89 = .ok (.iload 4, 2) := by decide +kernel
theorem dX11_lead_91 : decode cX11_lead 91 = .ok (.invokevirtual 266, 3) := by decide +kernel
theorem dX11_lead_94 : decode cX11_lead 94 = .ok (.iload 5, 2) := by decide +kernel
theorem dX11_lead_96 : decode cX11_lead 96 = .ok (.invokestatic 269, 3) := by decide +kernel
theorem dX11_lead_99 : decode cX11_lead 99 = .ok (.imul, 1) := by decide +kernel
theorem dX11_lead_100 : decode cX11_lead 100 = .ok (.aload_n 0, 1) := by decide +kernel
theorem dX11_lead_101 : decode cX11_lead 101 = .ok (.getfield 42, 3) := by decide +kernel
theorem dX11_lead_104 : decode cX11_lead 104 = .ok (.iload_n 1, 1) := by decide +kernel
theorem dX11_lead_105 : decode cX11_lead 105 = .ok (.iload 5, 2) := by decide +kernel
theorem dX11_lead_107 : decode cX11_lead 107 = .ok (.invokevirtual 266, 3) := by decide +kernel
theorem dX11_lead_110 : decode cX11_lead 110 = .ok (.iload 4, 2) := by decide +kernel
theorem dX11_lead_112 : decode cX11_lead 112 = .ok (.invokestatic 269, 3) := by decide +kernel
theorem dX11_lead_115 : decode cX11_lead 115 = .ok (.imul, 1) := by decide +kernel
theorem dX11_lead_116 : decode cX11_lead 116 = .ok (.isub, 1) := by decide +kernel
theorem dX11_lead_117 : decode cX11_lead 117 = .ok (.i2l, 1) := by decide +kernel
theorem dX11_lead_118 : decode cX11_lead 118 = .ok (.lstore 6, 2) := by decide +kernel
theorem dX11_lead_120 : decode cX11_lead 120 = .ok (.aload_n 0, 1) := by decide +kernel
theorem dX11_lead_121 : decode cX11_lead 121 = .ok (.getfield 33, 3) := by decide +kernel
theorem dX11_lead_124 : decode cX11_lead 124 = .ok (.lload 6, 2) := by decide +kernel
theorem dX11_lead_126 : decode cX11_lead 126 = .ok (.iload 4, 2) := by decide +kernel
theorem dX11_lead_128 : decode cX11_lead 128 = .ok (.invokestatic 269, 3) := by decide +kernel
theorem dX11_lead_131 : decode cX11_lead 131 = .ok (.iload 5, 2) := by decide +kernel
theorem dX11_lead_133 : decode cX11_lead 133 = .ok (.invokestatic 269, 3) := by decide +kernel
theorem dX11_lead_136 : decode cX11_lead 136 = .ok (.imul, 1) := by decide +kernel
theorem dX11_lead_137 : decode cX11_lead 137 = .ok (.i2l, 1) := by decide +kernel
theorem dX11_lead_138 : decode cX11_lead 138 = .ok (.invokevirtual 274, 3) := by decide +kernel
theorem dX11_lead_141 : decode cX11_lead 141 = .ok (.aload_n 0, 1) := by decide +kernel
theorem dX11_lead_142 : decode cX11_lead 142 = .ok (.getfield 33, 3) := by decide +kernel
theorem dX11_lead_145 : decode cX11_lead 145 = .ok (.iload_n 3, 1) := by decide +kernel
theorem dX11_lead_146 : decode cX11_lead 146 = .ok (.invokevirtual 231, 3) := by decide +kernel
theorem dX11_lead_149 : decode cX11_lead 149 = .ok (.lreturn, 1) := by decide +kernel
theorem dX11_rest_0 : decode cX11_rest 0 = .ok (.aload_n 0, 1) := by decide +kernel
theorem dX11_rest_1 : decode cX11_rest 1 = .ok (.iload_n 1, 1) := by decide +kernel
theorem dX11_rest_2 : decode cX11_rest 2 = .ok (.invokevirtual 125, 3) := by decide +kernel
theorem dX11_rest_5 : decode cX11_rest 5 = .ok (.ifCond .eq 19, 3) := by decide +kernel
theorem dX11_rest_8 : decode cX11_rest 8 = .ok (.iload_n 2, 1) := by decide +kernel
theorem dX11_rest_9 : decode cX11_rest 9 = .ok (.iconst 1, 1) := by decide +kernel
theorem dX11_rest_10 : decode cX11_rest 10 = .ok (.iconst 5, 1) := by decide +kernel
theorem dX11_rest_11 : decode cX11_rest 11 = .ok (.invokestatic 102, 3) := by decide +kernel
theorem dX11_rest_14 : decode cX11_rest 14 = .ok (.ifCond .eq 10, 3) := by decide +kernel
theorem dX11_rest_17 : decode cX11_rest 17 = .ok (.iload_n 3, 1) := by decide +kernel
theorem dX11_rest_18 : decode cX11_rest 18 = .ok (.invokestatic 221, 3) := by decide +kernel
theorem dX11_rest_21 : decode cX11_rest 21 = .ok (.ifCond .ne 9, 3) := by decide +kernel
theorem dX11_rest_24 : decode cX11_rest 24 = .ok (.bipush (-2), 2) := by decide +kernel
theorem dX11_rest_26 : decode cX11_rest 26 = .ok (.invokestatic 224, 3) := by decide +kernel
theorem dX11_rest_29 : decode cX11_rest 29 = .ok (.lreturn, 1) := by decide +kernel
theorem dX11_rest_30 : decode cX11_rest 30 = .ok (.aload_n 0, 1) := by decide +kernel
theorem dX11_rest_31 : decode cX11_rest 31 = .ok (.getfield 87, 3) := by decide +kernel
theorem dX11_rest_34 : decode cX11_rest 34 = .ok (.iload_n 1, 1) := by decide +kernel
theorem dX11_rest_35 : decode cX11_rest 35 = .ok (.iload_n 2, 1) := by decide +kernel
theorem dX11_rest_36 : decode cX11_rest 36 = .ok (.invokevirtual 278, 3) := by decide +kernel
theorem dX11_rest_39 : decode cX11_rest 39 = .ok (.istore 4, 2) := by decide +kernel
theorem dX11_rest_41 : decode cX11_rest 41 = .ok (.iload 4, 2) := by decide +kernel
theorem dX11_rest_43 : decode cX11_rest 43 = .ok (.ifCond .ne 9, 3) := by decide +kernel
theorem dX11_rest_46 : decode cX11_rest 46 = .ok (.bipush (-3), 2) := by decide +kernel
theorem dX11_rest_48 : decode cX11_rest 48 = .ok (.invokestatic 224, 3) := by decide +kernel
theorem dX11_rest_51 : decode cX11_rest 51 = .ok (.lreturn, 1) := by decide +kernel
theorem dX11_rest_52 : decode cX11_rest 52 = .ok (.aload_n 0, 1) := by decide +kernel
theorem dX11_rest_53 : decode cX11_rest 53 = .ok (.getfield 33, 3) := by decide +kernel
theorem dX11_rest_56 : decode cX11_rest 56 = .ok (.aload_n 0, 1) := by decide +kernel
theorem dX11_rest_57 : decode cX11_rest 57 = .ok (.getfield 87, 3) := by decide +kernel
theorem dX11_rest_60 : decode cX11_rest 60 = .ok (.iload_n 1, 1) := by decide +kernel
theorem dX11_rest_61 : decode cX11_rest 61 = .ok (.iload_n 2, 1) := by decide +kernel
theorem dX11_rest_62 : decode cX11_rest 62 = .ok (.invokevirtual 281, 3) := by decide +kernel
theorem dX11_rest_65 : decode cX11_rest 65 = .ok (.i2l, 1) := by decide +kernel
theorem dX11_rest_66 : decode cX11_rest 66 = .ok (.iload 4, 2) := by decide +kernel
theorem dX11_rest_68 : decode cX11_rest 68 = .ok (.i2l, 1) := by decide +kernel
theorem dX11_rest_69 : decode cX11_rest 69 = .ok (.invokevirtual 274, 3) := by decide +kernel
theorem dX11_rest_72 : decode cX11_rest 72 = .ok (.aload_n 0, 1) := by decide +kernel
theorem dX11_rest_73 : decode cX11_rest 73 = .ok (.getfield 33, 3) := by decide +kernel
theorem dX11_rest_76 : decode cX11_rest 76 = .ok (.iload_n 3, 1) := by decide +kernel
theorem dX11_rest_77 : decode cX11_rest 77 = .ok (.invokevirtual 231, 3) := by decide +kernel
theorem dX11_rest_80 : decode cX11_rest 80 = .ok (.lreturn, 1) := by decide +kernel
theorem dX11_should_0 : decode cX11_should 0 = .ok (.aload_n 0, 1) := by decide +kernel
theorem dX11_should_1 : decode cX11_should 1 = .ok (.iload_n 1, 1) := by decide +kernel
theorem dX11_should_2 : decode cX11_should 2 = .ok (.invokevirtual 125, 3) := by decide +kernel
theorem dX11_should_5 : decode cX11_should 5 = .ok (.ifCond .eq 14, 3) := by decide +kernel
theorem dX11_should_8 : decode cX11_should 8 = .ok (.aload_n 0, 1) := by decide +kernel
theorem dX11_should_9 : decode cX11_should 9 = .ok (.getfield 87, 3) := by decide +kernel
theorem dX11_should_12 : decode cX11_should 12 = .ok (.iload_n 1, 1) := by decide +kernel
theorem dX11_should_13 : decode cX11_should 13 = .ok (.invokevirtual 284, 3) := by decide +kernel
theorem dX11_should_16 : decode cX11_should 16 = .ok (.goto 5, 3) := by decide +kernel
theorem dX11_should_19 : decode cX11_should 19 = .ok (.bipush (-2), 2) := by decide +kernel
theorem dX11_should_21 : decode cX11_should 21 = .ok (.ireturn, 1) := by decide +kernel
theorem dX11_badly_0 : decode cX11_badly 0 = .ok (.iconst 0, 1) := by decide +kernel
theorem dX11_badly_1 : decode cX11_badly 1 = .ok (.istore_n 1, 1) := by decide +kernel
theorem dX11_badly_2 : decode cX11_badly 2 = .ok (.iconst 0, 1) := by decide +kernel
theorem dX11_badly_3 : decode cX11_badly 3 = .ok (.istore_n 2, 1) := by decide +kernel
theorem dX11_badly_4 : decode cX11_badly 4 = .ok (.iload_n 2, 1) := by decide +kernel
theorem dX11_badly_5 : decode cX11_badly 5 = .ok (.aload_n 0, 1) := by decide +kernel
theorem dX11_badly_6 : decode cX11_badly 6 = .ok (.getfield 10, 3) := by decide +kernel
theorem dX11_badly_9 : decode cX11_badly 9 = .ok (.getfield 106, 3) := by decide +kernel
theorem dX11_badly_12 : decode cX11_badly 12 = .ok (.if_icmp .ge 58, 3) := by decide +kernel
theorem dX11_badly_15 : decode cX11_badly 15 = .ok (.aload_n 0, 1) := by decide +kernel
theorem dX11_badly_16 : decode cX11_badly 16 = .ok (.getfield 10, 3) := by decide +kernel
theorem dX11_badly_19 : decode cX11_badly 19 = .ok (.getfield 129, 3) := by decide +kernel
theorem dX11_badly_22 : decode cX11_badly 22 = .ok (.iload_n 2, 1) := by decide +kernel
theorem dX11_badly_23 : decode cX11_badly 23 = .ok (.iaload, 1) := by decide +kernel
theorem dX11_badly_24 : decode cX11_badly 24 = .ok (.ifCond .ne 7, 3) := by decide +kernel
theorem dX11_badly_27 : decode cX11_badly 27 = .ok (.iconst (-1), 1) := by decide +kernel
theorem dX11_badly_28 : decode cX11_badly 28 = .ok (.goto 11, 3) := by decide +kernel
theorem dX11_badly_31 : decode cX11_badly 31 = .ok (.aload_n 0, 1) := by decide +kernel
theorem dX11_badly_32 : decode cX11_badly 32 = .ok (.getfield 87, 3) := by decide +kernel
theorem dX11_badly_35 : decode cX11_badly 35 = .ok (.iload_n 2, 1) := by decide +kernel
theorem dX11_badly_36 : decode cX11_badly 36 = .ok (.invokevirtual 284, 3) := by decide +kernel
theorem dX11_badly_39 : decode cX11_badly 39 = .ok (.istore_n 3, 1) := by decide +kernel
theorem dX11_badly_40 : decode cX11_badly 40 = .ok (.iload_n 3, 1) := by decide +kernel
theorem dX11_badly_41 : decode cX11_badly 41 = .ok (.iconst (-1), 1) := by decide +kernel
theorem dX11_badly_42 : decode cX11_badly 42 = .ok (.if_icmp .eq 22, 3) := by decide +kernel
theorem dX11_badly_45 : decode cX11_badly 45 = .ok (.iload_n 3, 1) := by decide +kernel
theorem dX11_badly_46 : decode cX11_badly 46 = .ok (.aload_n 0, 1) := by decide +kernel
theorem dX11_badly_47 : decode cX11_badly 47 = .ok (.getfield 10, 3) := by decide +kernel
theorem dX11_badly_50 : decode cX11_badly 50 = .ok (.getfield 129, 3) := by decide +kernel
theorem dX11_badly_53 : decode cX11_badly 53 = .ok (.iload_n 2, 1) := by decide +kernel
theorem dX11_badly_54 : decode cX11_badly 54 = .ok (.iaload, 1) := by decide +kernel
theorem dX11_badly_55 : decode cX11_badly 55 = .ok (.if_icmp .eq 9, 3) := by decide +kernel
theorem dX11_badly_58 : decode cX11_badly 58 = .ok (.iload_n 1, 1) := by decide +kernel
theorem dX11_badly_59 : decode cX11_badly 59 = .ok (.iconst 1, 1) := by decide +kernel
theorem dX11_badly_60 : decode cX11_badly 60 = .ok (.iload_n 2, 1) := by decide +kernel
theorem dX11_badly_61 : decode cX11_badly 61 = .ok (.ishl, 1) := by decide +kernel
theorem dX11_badly_62 : decode cX11_badly 62 = .ok (.ior, 1) := by decide +kernel
theorem dX11_badly_63 : decode cX11_badly 63 = .ok (.istore_n 1, 1) := by decide +kernel
theorem dX11_badly_64 : decode cX11_badly 64 = .ok (.iinc 2 1, 3) := by decide +kernel
theorem dX11_badly_67 : decode cX11_badly 67 = .ok (.goto (-63), 3) := by decide +kernel
theorem dX11_badly_70 : decode cX11_badly 70 = .ok (.iload_n 1, 1) := by decide +kernel
theorem dX11_badly_71 : decode cX11_badly 71 = .ok (.ireturn, 1) := by decide +kernel
theorem dX11_without_0 : decode cX11_without 0 = .ok (.aload_n 0, 1) := by decide +kernel
theorem dX11_without_1 : decode cX11_without 1 = .ok (.iload_n 1, 1) := by decide +kernel
theorem dX11_without_2 : decode cX11_without 2 = .ok (.invokevirtual 125, 3) := by decide +kernel
theorem dX11_without_5 : decode cX11_without 5 = .ok (.ifCond .eq 12, 3) := by decide +kernel
theorem dX11_without_8 : decode cX11_without 8 = .ok (.iload_n 2, 1) := by decide +kernel
theorem dX11_without_9 : decode cX11_without 9 = .ok (.iconst 0, 1) := by decide +kernel
theorem dX11_without_10 : decode cX11_without 10 = .ok (.iconst 1, 1) := by decide +kernel
theorem dX11_without_11 : decode cX11_without 11 = .ok (.invokestatic 102, 3) := by decide +kernel
theorem dX11_without_14 : decode cX11_without 14 = .ok (.ifCond .ne 6, 3) := by decide +kernel
theorem dX11_without_17 : decode cX11_without 17 = .ok (.bipush (-2), 2) := by decide +kernel
theorem dX11_without_19 : decode cX11_without 19 = .ok (.ireturn, 1) := by decide +kernel
theorem dX11_without_20 : decode cX11_without 20 = .ok (.iload_n 2, 1) := by decide +kernel
theorem dX11_without_21 : decode cX11_without 21 = .ok (.ifCond .ne 14, 3) := by decide +kernel
theorem dX11_without_24 : decode cX11_without 24 = .ok (.aload_n 0, 1) := by decide +kernel
theorem dX11_without_25 : decode cX11_without 25 = .ok (.getfield 42, 3) := by decide +kernel
theorem dX11_without_28 : decode cX11_without 28 = .ok (.iload_n 1, 1) := by decide +kernel
theorem dX11_without_29 : decode cX11_without 29 = .ok (.invokevirtual 287, 3) := by decide +kernel
theorem dX11_without_32 : decode cX11_without 32 = .ok (.goto 11, 3) := by decide +kernel
theorem dX11_without_35 : decode cX11_without 35 = .ok (.aload_n 0, 1) := by decide +kernel
theorem dX11_without_36 : decode cX11_without 36 = .ok (.getfield 42, 3) := by decide +kernel
theorem dX11_without_39 : decode cX11_without 39 = .ok (.iload_n 1, 1) := by decide +kernel
theorem dX11_without_40 : decode cX11_without 40 = .ok (.invokevirtual 290, 3) := by decide +kernel
theorem dX11_without_43 : decode cX11_without 43 = .ok (.ireturn, 1) := by decide +kernel
theorem dX11_hard_0 : decode cX11_hard 0 = .ok (.aload_n 0, 1) := by decide +kernel
theorem dX11_hard_1 : decode cX11_hard 1 = .ok (.iload_n 1, 1) := by decide +kernel
theorem dX11_hard_2 : decode cX11_hard 2 = .ok (.invokevirtual 125, 3) := by decide +kernel
theorem dX11_hard_5 : decode cX11_hard 5 = .ok (.ifCond .eq 10, 3) := by decide +kernel
theorem dX11_hard_8 : decode cX11_hard 8 = .ok (.iload_n 2, 1) := by decide +kernel
theorem dX11_hard_9 : decode cX11_hard 9 = .ok (.invokestatic 221, 3) := by decide +kernel
theorem dX11_hard_12 : decode cX11_hard 12 = .ok (.ifCond .ne 9, 3) := by decide +kernel
theorem dX11_hard_15 : decode cX11_hard 15 = .ok (.bipush (-2), 2) := by decide +kernel
theorem dX11_hard_17 : decode cX11_hard 17 = .ok (.invokestatic 224, 3) := by decide +kernel
theorem dX11_hard_20 : decode cX11_hard 20 = .ok (.lreturn, 1) := by decide +kernel
theorem dX11_hard_21 : decode cX11_hard 21 = .ok (.aload_n 0, 1) := by decide +kernel
theorem dX11_hard_22 : decode cX11_hard 22 = .ok (.getfield 19, 3) := by decide +kernel
theorem dX11_hard_25 : decode cX11_hard 25 = .ok (.getfield 149, 3) := by decide +kernel
theorem dX11_hard_28 : decode cX11_hard 28 = .ok (.ifCond .eq 15, 3) := by decide +kernel
theorem dX11_hard_31 : decode cX11_hard 31 = .ok (.aload_n 0, 1) := by decide +kernel
theorem dX11_hard_32 : decode cX11_hard 32 = .ok (.getfield 10, 3) := by decide +kernel
theorem dX11_hard_35 : decode cX11_hard 35 = .ok (.getfield 129, 3) := by decide +kernel
theorem dX11_hard_38 : decode cX11_hard 38 = .ok (.iload_n 1, 1) := by decide +kernel
theorem dX11_hard_39 : decode cX11_hard 39 = .ok (.iaload, 1) := by decide +kernel
theorem dX11_hard_40 : decode cX11_hard 40 = .ok (.ifCond .ne 9, 3) := by decide +kernel
theorem dX11_hard_43 : decode cX11_hard 43 = .ok (.bipush (-3), 2) := by decide +kernel
theorem dX11_hard_45 : decode cX11_hard 45 = .ok (.invokestatic 224, 3) := by decide +kernel
theorem dX11_hard_48 : decode cX11_hard 48 = .ok (.lreturn, 1) := by decide +kernel
theorem dX11_hard_49 : decode cX11_hard 49 = .ok (.aload_n 0, 1) := by decide +kernel
theorem dX11_hard_50 : decode cX11_hard 50 = .ok (.getfield 33, 3) := by decide +kernel
theorem dX11_hard_53 : decode cX11_hard 53 = .ok (.aload_n 0, 1) := by decide +kernel
theorem dX11_hard_54 : decode cX11_hard 54 = .ok (.getfield 42, 3) := by decide +kernel
theorem dX11_hard_57 : decode cX11_hard 57 = .ok (.iload_n 1, 1) := by decide +kernel
theorem dX11_hard_58 : decode cX11_hard 58 = .ok (.aload_n 0, 1) := by decide +kernel
theorem dX11_hard_59 : decode cX11_hard 59 = .ok (.getfield 19, 3) := by decide +kernel
theorem dX11_hard_62 : decode cX11_hard 62 = .ok (.invokevirtual 263, 3) := by decide +kernel
theorem dX11_hard_65 : decode cX11_hard 65 = .ok (.invokevirtual 266, 3) := by decide +kernel
theorem dX11_hard_68 : decode cX11_hard 68 = .ok (.i2l, 1) := by decide +kernel
theorem dX11_hard_69 : decode cX11_hard 69 = .ok (.aload_n 0, 1) := by decide +kernel
theorem dX11_hard_70 : decode cX11_hard 70 = .ok (.getfield 19, 3) := by decide +kernel
theorem dX11_hard_73 : decode cX11_hard 73 = .ok (.getfield 149, 3) := by decide +kernel
theorem dX11_hard_76 : decode cX11_hard 76 = .ok (.i2l, 1) := by decide +kernel
theorem dX11_hard_77 : decode cX11_hard 77 = .ok (.invokevirtual 274, 3) := by decide +kernel
theorem dX11_hard_80 : decode cX11_hard 80 = .ok (.aload_n 0, 1) := by decide +kernel
theorem dX11_hard_81 : decode cX11_hard 81 = .ok (.getfield 33, 3) := by decide +kernel
theorem dX11_hard_84 : decode cX11_hard 84 = .ok (.iload_n 2, 1) := by decide +kernel
theorem dX11_hard_85 : decode cX11_hard 85 = .ok (.invokevirtual 231, 3) := by decide +kernel
theorem dX11_hard_88 : decode cX11_hard 88 = .ok (.lreturn, 1) := by decide +kernel
theorem dX11_parts_0 : decode cX11_parts 0 = .ok (.aload_n 0, 1) := by decide +kernel
theorem dX11_parts_1 : decode cX11_parts 1 = .ok (.iload_n 1, 1) := by decide +kernel
theorem dX11_parts_2 : decode cX11_parts 2 = .ok (.invokevirtual 125, 3) := by decide +kernel
theorem dX11_parts_5 : decode cX11_parts 5 = .ok (.ifCond .eq 10, 3) := by decide +kernel
theorem dX11_parts_8 : decode cX11_parts 8 = .ok (.iload_n 2, 1) := by decide +kernel
theorem dX11_parts_9 : decode cX11_parts 9 = .ok (.invokestatic 221, 3) := by decide +kernel
theorem dX11_parts_12 : decode cX11_parts 12 = .ok (.ifCond .ne 9, 3) := by decide +kernel
theorem dX11_parts_15 : decode cX11_parts 15 = .ok (.bipush (-2), 2) := by decide +kernel
theorem dX11_parts_17 : decode cX11_parts 17 = .ok (.invokestatic 224, 3) := by decide +kernel
theorem dX11_parts_20 : decode cX11_parts 20 = .ok (.lreturn, 1) := by decide +kernel
theorem dX11_parts_21 : decode cX11_parts 21 = .ok (.aload_n 0, 1) := by decide +kernel
theorem dX11_parts_22 : decode cX11_parts 22 = .ok (.getfield 19, 3) := by decide +kernel
theorem dX11_parts_25 : decode cX11_parts 25 = .ok (.getfield 149, 3) := by decide +kernel
theorem dX11_parts_28 : decode cX11_parts 28 = .ok (.iconst 2, 1) := by decide +kernel
theorem dX11_parts_29 : decode cX11_parts 29 = .ok (.if_icmp .lt 15, 3) := by decide +kernel
theorem dX11_parts_32 : decode cX11_parts 32 = .ok (.aload_n 0, 1) := by decide +kernel
theorem dX11_parts_33 : decode cX11_parts 33 = .ok (.getfield 10, 3) := by decide +kernel
theorem dX11_parts_36 : decode cX11_parts 36 = .ok (.getfield 129, 3) := by decide +kernel
theorem dX11_parts_39 : decode cX11_parts 39 = .ok (.iload_n 1, 1) := by decide +kernel
theorem dX11_parts_40 : decode cX11_parts 40 = .ok (.iaload, 1) := by decide +kernel
theorem dX11_parts_41 : decode cX11_parts 41 = .ok (.ifCond .ne 9, 3) := by decide +kernel
theorem dX11_parts_44 : decode cX11_parts 44 = .ok (.bipush (-3), 2) := by decide +kernel
theorem dX11_parts_46 : decode cX11_parts 46 = .ok (.invokestatic 224, 3) := by decide +kernel
theorem dX11_parts_49 : decode cX11_parts 49 = .ok (.lreturn, 1) := by decide +kernel
theorem dX11_parts_50 : decode cX11_parts 50 = .ok (.aload_n 0, 1) := by decide +kernel
theorem dX11_parts_51 : decode cX11_parts 51 = .ok (.getfield 33, 3) := by decide +kernel
theorem dX11_parts_54 : decode cX11_parts 54 = .ok (.aload_n 0, 1) := by decide +kernel
theorem dX11_parts_55 : decode cX11_parts 55 = .ok (.getfield 87, 3) := by decide +kernel
theorem dX11_parts_58 : decode cX11_parts 58 = .ok (.iload_n 1, 1) := by decide +kernel
theorem dX11_parts_59 : decode cX11_parts 59 = .ok (.invokevirtual 293, 3) := by decide +kernel
theorem dX11_parts_62 : decode cX11_parts 62 = .ok (.i2l, 1) := by decide +kernel
theorem dX11_parts_63 : decode cX11_parts 63 = .ok (.aload_n 0, 1) := by decide +kernel
theorem dX11_parts_64 : decode cX11_parts 64 = .ok (.getfield 19, 3) := by decide +kernel
theorem dX11_parts_67 : decode cX11_parts 67 = .ok (.getfield 149, 3) := by decide +kernel
theorem dX11_parts_70 : decode cX11_parts 70 = .ok (.iconst 2, 1) := by decide +kernel
theorem dX11_parts_71 : decode cX11_parts 71 = .ok (.idiv, 1) := by decide +kernel
theorem dX11_parts_72 : decode cX11_parts 72 = .ok (.i2l, 1) := by decide +kernel
theorem dX11_parts_73 : decode cX11_parts 73 = .ok (.invokevirtual 274, 3) := by decide +kernel
theorem dX11_parts_76 : decode cX11_parts 76 = .ok (.aload_n 0, 1) := by decide +kernel
theorem dX11_parts_77 : decode cX11_parts 77 = .ok (.getfield 33, 3) := by decide +kernel
theorem dX11_parts_80 : decode cX11_parts 80 = .ok (.iload_n 2, 1) := by decide +kernel
theorem dX11_parts_81 : decode cX11_parts 81 = .ok (.invokevirtual 231, 3) := by decide +kernel
theorem dX11_parts_84 : decode cX11_parts 84 = .ok (.lreturn, 1) := by decide +kernel
theorem dX11_sheet_0 : decode cX11_sheet 0 = .ok (.iload_n 1, 1) := by decide +kernel
theorem dX11_sheet_1 : decode cX11_sheet 1 = .ok (.invokestatic 167, 3) := by decide +kernel
theorem dX11_sheet_4 : decode cX11_sheet 4 = .ok (.ifCond .eq 18, 3) := by decide +kernel
theorem dX11_sheet_7 : decode cX11_sheet 7 = .ok (.iload_n 2, 1) := by decide +kernel
theorem dX11_sheet_8 : decode cX11_sheet 8 = .ok (.iconst 0, 1) := by decide +kernel
theorem dX11_sheet_9 : decode cX11_sheet 9 = .ok (.iconst 2, 1) := by decide +kernel
theorem dX11_sheet_10 : decode cX11_sheet 10 = .ok (.invokestatic 102, 3) := by decide +kernel
theorem dX11_sheet_13 : decode cX11_sheet 13 = .ok (.ifCond .eq 9, 3) := by decide +kernel
theorem dX11_sheet_16 : decode cX11_sheet 16 = .ok (.iload_n 3, 1) := by decide +kernel
theorem dX11_sheet_17 : decode cX11_sheet 17 = .ok (.bipush 48, 2) := by decide +kernel
theorem dX11_sheet_19 : decode cX11_sheet 19 = .ok (.if_icmp .le 6, 3) := by decide +kernel
theorem dX11_sheet_22 : decode cX11_sheet 22 = .ok (.bipush (-2), 2) := by decide +kernel
theorem dX11_sheet_24 : decode cX11_sheet 24 = .ok (.ireturn, 1) := by decide +kernel
theorem dX11_sheet_25 : decode cX11_sheet 25 = .ok (.iload_n 3, 1) := by decide +kernel
theorem dX11_sheet_26 : decode cX11_sheet 26 = .ok (.ifCond .ge 9, 3) := by decide +kernel
theorem dX11_sheet_29 : decode cX11_sheet 29 = .ok (.aload_n 0, 1) := by decide +kernel
theorem dX11_sheet_30 : decode cX11_sheet 30 = .ok (.iconst 5, 1) := by decide +kernel
theorem dX11_sheet_31 : decode cX11_sheet 31 = .ok (.invokevirtual 174, 3) := by decide +kernel
theorem dX11_sheet_34 : decode cX11_sheet 34 = .ok (.ireturn, 1) := by decide +kernel
theorem dX11_sheet_35 : decode cX11_sheet 35 = .ok (.aload_n 0, 1) := by decide +kernel
theorem dX11_sheet_36 : decode cX11_sheet 36 = .ok (.getfield 93, 3) := by decide +kernel
theorem dX11_sheet_39 : decode cX11_sheet 39 = .ok (.iload_n 1, 1) := by decide +kernel
theorem dX11_sheet_40 : decode cX11_sheet 40 = .ok (.aaload, 1) := by decide +kernel
theorem dX11_sheet_41 : decode cX11_sheet 41 = .ok (.iload_n 2, 1) := by decide +kernel
theorem dX11_sheet_42 : decode cX11_sheet 42 = .ok (.iload_n 3, 1) := by decide +kernel
theorem dX11_sheet_43 : decode cX11_sheet 43 = .ok (.invokevirtual 296, 3) := by decide +kernel
theorem dX11_sheet_46 : decode cX11_sheet 46 = .ok (.iload_n 3, 1) := by decide +kernel
theorem dX11_sheet_47 : decode cX11_sheet 47 = .ok (.ireturn, 1) := by decide +kernel
theorem dX11_lose_0 : decode cX11_lose 0 = .ok (.iload_n 1, 1) := by decide +kernel
theorem dX11_lose_1 : decode cX11_lose 1 = .ok (.invokestatic 167, 3) := by decide +kernel
theorem dX11_lose_4 : decode cX11_lose 4 = .ok (.ifCond .ne 6, 3) := by decide +kernel
theorem dX11_lose_7 : decode cX11_lose 7 = .ok (.bipush (-2), 2) := by decide +kernel
theorem dX11_lose_9 : decode cX11_lose 9 = .ok (.ireturn, 1) := by decide +kernel
theorem dX11_lose_10 : decode cX11_lose 10 = .ok (.aload_n 0, 1) := by decide +kernel
theorem dX11_lose_11 : decode cX11_lose 11 = .ok (.getfield 93, 3) := by decide +kernel
theorem dX11_lose_14 : decode cX11_lose 14 = .ok (.iload_n 1, 1) := by decide +kernel
theorem dX11_lose_15 : decode cX11_lose 15 = .ok (.aaload, 1) := by decide +kernel
theorem dX11_lose_16 : decode cX11_lose 16 = .ok (.getfield 170, 3) := by decide +kernel
theorem dX11_lose_19 : decode cX11_lose 19 = .ok (.ifCond .eq 9, 3) := by decide +kernel
theorem dX11_lose_22 : decode cX11_lose 22 = .ok (.aload_n 0, 1) := by decide +kernel
theorem dX11_lose_23 : decode cX11_lose 23 = .ok (.iconst 1, 1) := by decide +kernel
theorem dX11_lose_24 : decode cX11_lose 24 = .ok (.invokevirtual 174, 3) := by decide +kernel
theorem dX11_lose_27 : decode cX11_lose 27 = .ok (.ireturn, 1) := by decide +kernel
theorem dX11_lose_28 : decode cX11_lose 28 = .ok (.aload_n 0, 1) := by decide +kernel
theorem dX11_lose_29 : decode cX11_lose 29 = .ok (.getfield 93, 3) := by decide +kernel
theorem dX11_lose_32 : decode cX11_lose 32 = .ok (.iload_n 1, 1) := by decide +kernel
theorem dX11_lose_33 : decode cX11_lose 33 = .ok (.aaload, 1) := by decide +kernel
theorem dX11_lose_34 : decode cX11_lose 34 = .ok (.iconst 1, 1) := by decide +kernel
theorem dX11_lose_35 : decode cX11_lose 35 = .ok (.putfield 170, 3) := by decide +kernel
theorem dX11_lose_38 : decode cX11_lose 38 = .ok (.aload_n 0, 1) := by decide +kernel
theorem dX11_lose_39 : decode cX11_lose 39 = .ok (.getfield 93, 3) := by decide +kernel
theorem dX11_lose_42 : decode cX11_lose 42 = .ok (.iload_n 1, 1) := by decide +kernel
theorem dX11_lose_43 : decode cX11_lose 43 = .ok (.aaload, 1) := by decide +kernel
theorem dX11_lose_44 : decode cX11_lose 44 = .ok (.getfield 178, 3) := by decide +kernel
theorem dX11_lose_47 : decode cX11_lose 47 = .ok (.ireturn, 1) := by decide +kernel
theorem dX11_put_0 : decode cX11_put 0 = .ok (.iload_n 1, 1) := by decide +kernel
theorem dX11_put_1 : decode cX11_put 1 = .ok (.invokestatic 167, 3) := by decide +kernel
theorem dX11_put_4 : decode cX11_put 4 = .ok (.ifCond .eq 12, 3) := by decide +kernel
theorem dX11_put_7 : decode cX11_put 7 = .ok (.iload_n 2, 1) := by decide +kernel
theorem dX11_put_8 : decode cX11_put 8 = .ok (.iconst 0, 1) := by decide +kernel
theorem dX11_put_9 : decode cX11_put 9 = .ok (.iconst 2, 1) := by decide +kernel
theorem dX11_put_10 : decode cX11_put 10 = .ok (.invokestatic 102, 3) := by decide +kernel
theorem dX11_put_13 : decode cX11_put 13 = .ok (.ifCond .ne 6, 3) := by decide +kernel
theorem dX11_put_16 : decode cX11_put 16 = .ok (.bipush (-2), 2) := by decide +kernel
theorem dX11_put_18 : decode cX11_put 18 = .ok (.ireturn, 1) := by decide +kernel
theorem dX11_put_19 : decode cX11_put 19 = .ok (.aload_n 0, 1) := by decide +kernel
theorem dX11_put_20 : decode cX11_put 20 = .ok (.getfield 93, 3) := by decide +kernel
theorem dX11_put_23 : decode cX11_put 23 = .ok (.iload_n 1, 1) := by decide +kernel
theorem dX11_put_24 : decode cX11_put 24 = .ok (.aaload, 1) := by decide +kernel
theorem dX11_put_25 : decode cX11_put 25 = .ok (.iload_n 2, 1) := by decide +kernel
theorem dX11_put_26 : decode cX11_put 26 = .ok (.iload_n 3, 1) := by decide +kernel
theorem dX11_put_27 : decode cX11_put 27 = .ok (.invokevirtual 299, 3) := by decide +kernel
theorem dX11_put_30 : decode cX11_put 30 = .ok (.istore 5, 2) := by decide +kernel
theorem dX11_put_32 : decode cX11_put 32 = .ok (.iload 5, 2) := by decide +kernel
theorem dX11_put_34 : decode cX11_put 34 = .ok (.ifCond .eq 10, 3) := by decide +kernel
theorem dX11_put_37 : decode cX11_put 37 = .ok (.aload_n 0, 1) := by decide +kernel
theorem dX11_put_38 : decode cX11_put 38 = .ok (.iload 5, 2) := by decide +kernel
theorem dX11_put_40 : decode cX11_put 40 = .ok (.invokevirtual 174, 3) := by decide +kernel
theorem dX11_put_43 : decode cX11_put 43 = .ok (.ireturn, 1) := by decide +kernel
theorem dX11_put_44 : decode cX11_put 44 = .ok (.aload_n 0, 1) := by decide +kernel
theorem dX11_put_45 : decode cX11_put 45 = .ok (.getfield 93, 3) := by decide +kernel
theorem dX11_put_48 : decode cX11_put 48 = .ok (.iload_n 1, 1) := by decide +kernel
theorem dX11_put_49 : decode cX11_put 49 = .ok (.aaload, 1) := by decide +kernel
theorem dX11_put_50 : decode cX11_put 50 = .ok (.iload_n 3, 1) := by decide +kernel
theorem dX11_put_51 : decode cX11_put 51 = .ok (.iload 4, 2) := by decide +kernel
theorem dX11_put_53 : decode cX11_put 53 = .ok (.invokevirtual 302, 3) := by decide +kernel
theorem dX11_put_56 : decode cX11_put 56 = .ok (.iconst 1, 1) := by decide +kernel
theorem dX11_put_57 : decode cX11_put 57 = .ok (.ireturn, 1) := by decide +kernel
theorem dX11_get_0 : decode cX11_get 0 = .ok (.iload_n 1, 1) := by decide +kernel
theorem dX11_get_1 : decode cX11_get 1 = .ok (.invokestatic 167, 3) := by decide +kernel
theorem dX11_get_4 : decode cX11_get 4 = .ok (.ifCond .eq 12, 3) := by decide +kernel
theorem dX11_get_7 : decode cX11_get 7 = .ok (.iload_n 2, 1) := by decide +kernel
theorem dX11_get_8 : decode cX11_get 8 = .ok (.iconst 0, 1) := by decide +kernel
theorem dX11_get_9 : decode cX11_get 9 = .ok (.iconst 2, 1) := by decide +kernel
theorem dX11_get_10 : decode cX11_get 10 = .ok (.invokestatic 102, 3) := by decide +kernel
theorem dX11_get_13 : decode cX11_get 13 = .ok (.ifCond .ne 7, 3) := by decide +kernel
theorem dX11_get_16 : decode cX11_get 16 = .ok (.ldc_w 305, 3) := by decide +kernel
theorem dX11_get_19 : decode cX11_get 19 = .ok (.ireturn, 1) := by decide +kernel
theorem dX11_get_20 : decode cX11_get 20 = .ok (.aload_n 0, 1) := by decide +kernel
theorem dX11_get_21 : decode cX11_get 21 = .ok (.getfield 93, 3) := by decide +kernel
theorem dX11_get_24 : decode cX11_get 24 = .ok (.iload_n 1, 1) := by decide +kernel
theorem dX11_get_25 : decode cX11_get 25 = .ok (.aaload, 1) := by decide +kernel
theorem dX11_get_26 : decode cX11_get 26 = .ok (.iload_n 2, 1) := by decide +kernel
theorem dX11_get_27 : decode cX11_get 27 = .ok (.iload_n 3, 1) := by decide +kernel
theorem dX11_get_28 : decode cX11_get 28 = .ok (.invokevirtual 299, 3) := by decide +kernel
theorem dX11_get_31 : decode cX11_get 31 = .ok (.istore 4, 2) := by decide +kernel
theorem dX11_get_33 : decode cX11_get 33 = .ok (.iload 4, 2) := by decide +kernel
theorem dX11_get_35 : decode cX11_get 35 = .ok (.ifCond .eq 14, 3) := by decide +kernel
theorem dX11_get_38 : decode cX11_get 38 = .ok (.aload_n 0, 1) := by decide +kernel
theorem dX11_get_39 : decode cX11_get 39 = .ok (.iload 4, 2) := by decide +kernel
theorem dX11_get_41 : decode cX11_get 41 = .ok (.invokevirtual 174, 3) := by decide +kernel
theorem dX11_get_44 : decode cX11_get 44 = .ok (.pop, 1) := by decide +kernel
theorem dX11_get_45 : decode cX11_get 45 = .ok (.ldc_w 305, 3) := by decide +kernel
theorem dX11_get_48 : decode cX11_get 48 = .ok (.ireturn, 1) := by decide +kernel
theorem dX11_get_49 : decode cX11_get 49 = .ok (.aload_n 0, 1) := by decide +kernel
theorem dX11_get_50 : decode cX11_get 50 = .ok (.getfield 93, 3) := by decide +kernel
theorem dX11_get_53 : decode cX11_get 53 = .ok (.iload_n 1, 1) := by decide +kernel
theorem dX11_get_54 : decode cX11_get 54 = .ok (.aaload, 1) := by decide +kernel
theorem dX11_get_55 : decode cX11_get 55 = .ok (.getfield 179, 3) := by decide +kernel
theorem dX11_get_58 : decode cX11_get 58 = .ok (.iload_n 3, 1) := by decide +kernel
theorem dX11_get_59 : decode cX11_get 59 = .ok (.iaload, 1) := by decide +kernel
theorem dX11_get_60 : decode cX11_get 60 = .ok (.ireturn, 1) := by decide +kernel
theorem dX11_copy_0 : decode cX11_copy 0 = .ok (.iload_n 1, 1) := by decide +kernel
theorem dX11_copy_1 : decode cX11_copy 1 = .ok (.invokestatic 167, 3) := by decide +kernel
theorem dX11_copy_4 : decode cX11_copy 4 = .ok (.ifCond .eq 10, 3) := by decide +kernel
theorem dX11_copy_7 : decode cX11_copy 7 = .ok (.iload_n 3, 1) := by decide +kernel
theorem dX11_copy_8 : decode cX11_copy 8 = .ok (.invokestatic 167, 3) := by decide +kernel
theorem dX11_copy_11 : decode cX11_copy 11 = .ok (.ifCond .ne 6, 3) := by decide +kernel
theorem dX11_copy_14 : decode cX11_copy 14 = .ok (.bipush (-2), 2) := by decide +kernel
theorem dX11_copy_16 : decode cX11_copy 16 = .ok (.ireturn, 1) := by decide +kernel
theorem dX11_copy_17 : decode cX11_copy 17 = .ok (.aload_n 0, 1) := by decide +kernel
theorem dX11_copy_18 : decode cX11_copy 18 = .ok (.getfield 93, 3) := by decide +kernel
theorem dX11_copy_21 : decode cX11_copy 21 = .ok (.iload_n 1, 1) := by decide +kernel
theorem dX11_copy_22 : decode cX11_copy 22 = .ok (.aaload, 1) := by decide +kernel
theorem dX11_copy_23 : decode cX11_copy 23 = .ok (.astore 6, 2) := by decide +kernel
theorem dX11_copy_25 : decode cX11_copy 25 = .ok (.aload_n 0, 1) := by decide +kernel
theorem dX11_copy_26 : decode cX11_copy 26 = .ok (.getfield 93, 3) := by decide +kernel
theorem dX11_copy_29 : decode cX11_copy 29 = .ok (.iload_n 3, 1) := by decide +kernel
theorem dX11_copy_30 : decode cX11_copy 30 = .ok (.aaload, 1) := by decide +kernel
theorem dX11_copy_31 : decode cX11_copy 31 = .ok (.astore 7, 2) := by decide +kernel
theorem dX11_copy_33 : decode cX11_copy 33 = .ok (.aload 6, 2) := by decide +kernel
theorem dX11_copy_35 : decode cX11_copy 35 = .ok (.getfield 170, 3) := by decide +kernel
theorem dX11_copy_38 : decode cX11_copy 38 = .ok (.ifCond .ne 11, 3) := by decide +kernel
theorem dX11_copy_41 : decode cX11_copy 41 = .ok (.aload 7, 2) := by decide +kernel
theorem dX11_copy_43 : decode cX11_copy 43 = .ok (.getfield 170, 3) := by decide +kernel
theorem dX11_copy_46 : decode cX11_copy 46 = .ok (.ifCond .eq 9, 3) := by decide +kernel
theorem dX11_copy_49 : decode cX11_copy 49 = .ok (.aload_n 0, 1) := by decide +kernel
theorem dX11_copy_50 : decode cX11_copy 50 = .ok (.iconst 1, 1) := by decide +kernel
theorem dX11_copy_51 : decode cX11_copy 51 = .ok (.invokevirtual 174, 3) := by decide +kernel
theorem dX11_copy_54 : decode cX11_copy 54 = .ok (.ireturn, 1) := by decide +kernel
theorem dX11_copy_55 : decode cX11_copy 55 = .ok (.aload 6, 2) := by decide +kernel
theorem dX11_copy_57 : decode cX11_copy 57 = .ok (.getfield 306, 3) := by decide +kernel
theorem dX11_copy_60 : decode cX11_copy 60 = .ok (.aload 7, 2) := by decide +kernel
theorem dX11_copy_62 : decode cX11_copy 62 = .ok (.getfield 306, 3) := by decide +kernel
theorem dX11_copy_65 : decode cX11_copy 65 = .ok (.if_icmp .eq 9, 3) := by decide +kernel
theorem dX11_copy_68 : decode cX11_copy 68 = .ok (.aload_n 0, 1) := by decide +kernel
theorem dX11_copy_69 : decode cX11_copy 69 = .ok (.iconst 4, 1) := by decide +kernel
theorem dX11_copy_70 : decode cX11_copy 70 = .ok (.invokevirtual 174, 3) := by decide +kernel
theorem dX11_copy_73 : decode cX11_copy 73 = .ok (.ireturn, 1) := by decide +kernel
theorem dX11_copy_74 : decode cX11_copy 74 = .ok (.aload 6, 2) := by decide +kernel
theorem dX11_copy_76 : decode cX11_copy 76 = .ok (.iload_n 2, 1) := by decide +kernel
theorem dX11_copy_77 : decode cX11_copy 77 = .ok (.iload 5, 2) := by decide +kernel
theorem dX11_copy_79 : decode cX11_copy 79 = .ok (.invokevirtual 309, 3) := by decide +kernel
theorem dX11_copy_82 : decode cX11_copy 82 = .ok (.ifCond .eq 15, 3) := by decide +kernel
theorem dX11_copy_85 : decode cX11_copy 85 = .ok (.aload 7, 2) := by decide +kernel
theorem dX11_copy_87 : decode cX11_copy 87 = .ok (.iload 4, 2) := by decide +kernel
theorem dX11_copy_89 : decode cX11_copy 89 = .ok (.iload 5, 2) := by decide +kernel
theorem dX11_copy_91 : decode cX11_copy 91 = .ok (.invokevirtual 309, 3) := by decide +kernel
theorem dX11_copy_94 : decode cX11_copy 94 = .ok (.ifCond .ne 9, 3) := by decide +kernel
theorem dX11_copy_97 : decode cX11_copy 97 = .ok (.aload_n 0, 1) := by decide +kernel
theorem dX11_copy_98 : decode cX11_copy 98 = .ok (.iconst 2, 1) := by decide +kernel
theorem dX11_copy_99 : decode cX11_copy 99 = .ok (.invokevirtual 174, 3) := by decide +kernel
theorem dX11_copy_102 : decode cX11_copy 102 = .ok (.ireturn, 1) := by decide +kernel
theorem dX11_copy_103 : decode cX11_copy 103 = .ok (.aload 6, 2) := by decide +kernel
theorem dX11_copy_105 : decode cX11_copy 105 = .ok (.getfield 179, 3) := by decide +kernel
theorem dX11_copy_108 : decode cX11_copy 108 = .ok (.iload_n 2, 1) := by decide +kernel
theorem dX11_copy_109 : decode cX11_copy 109 = .ok (.aload 7, 2) := by decide +kernel
theorem dX11_copy_111 : decode cX11_copy 111 = .ok (.getfield 179, 3) := by decide +kernel
theorem dX11_copy_114 : decode cX11_copy 114 = .ok (.iload 4, 2) := by decide +kernel
theorem dX11_copy_116 : decode cX11_copy 116 = .ok (.iload 5, 2) := by decide +kernel
theorem dX11_copy_118 : decode cX11_copy 118 = .ok (.invokestatic 312, 3) := by decide +kernel
theorem dX11_copy_121 : decode cX11_copy 121 = .ok (.iconst 1, 1) := by decide +kernel
theorem dX11_copy_122 : decode cX11_copy 122 = .ok (.ireturn, 1) := by decide +kernel
theorem dX11_write_0 : decode cX11_write 0 = .ok (.aload_n 0, 1) := by decide +kernel
theorem dX11_write_1 : decode cX11_write 1 = .ok (.iload_n 1, 1) := by decide +kernel
theorem dX11_write_2 : decode cX11_write 2 = .ok (.invokevirtual 156, 3) := by decide +kernel
theorem dX11_write_5 : decode cX11_write 5 = .ok (.ifCond .eq 10, 3) := by decide +kernel
theorem dX11_write_8 : decode cX11_write 8 = .ok (.iload_n 2, 1) := by decide +kernel
theorem dX11_write_9 : decode cX11_write 9 = .ok (.invokestatic 167, 3) := by decide +kernel
theorem dX11_write_12 : decode cX11_write 12 = .ok (.ifCond .ne 6, 3) := by decide +kernel
theorem dX11_write_15 : decode cX11_write 15 = .ok (.bipush (-2), 2) := by decide +kernel
theorem dX11_write_17 : decode cX11_write 17 = .ok (.ireturn, 1) := by decide +kernel
theorem dX11_write_18 : decode cX11_write 18 = .ok (.aload_n 0, 1) := by decide +kernel
theorem dX11_write_19 : decode cX11_write 19 = .ok (.getfield 93, 3) := by decide +kernel
theorem dX11_write_22 : decode cX11_write 22 = .ok (.iload_n 2, 1) := by decide +kernel
theorem dX11_write_23 : decode cX11_write 23 = .ok (.aaload, 1) := by decide +kernel
theorem dX11_write_24 : decode cX11_write 24 = .ok (.astore_n 3, 1) := by decide +kernel
theorem dX11_write_25 : decode cX11_write 25 = .ok (.aload_n 3, 1) := by decide +kernel
theorem dX11_write_26 : decode cX11_write 26 = .ok (.getfield 170, 3) := by decide +kernel
theorem dX11_write_29 : decode cX11_write 29 = .ok (.ifCond .eq 9, 3) := by decide +kernel
theorem dX11_write_32 : decode cX11_write 32 = .ok (.aload_n 0, 1) := by decide +kernel
theorem dX11_write_33 : decode cX11_write 33 = .ok (.iconst 1, 1) := by decide +kernel
theorem dX11_write_34 : decode cX11_write 34 = .ok (.invokevirtual 174, 3) := by decide +kernel
theorem dX11_write_37 : decode cX11_write 37 = .ok (.ireturn, 1) := by decide +kernel
theorem dX11_write_38 : decode cX11_write 38 = .ok (.aload_n 3, 1) := by decide +kernel
theorem dX11_write_39 : decode cX11_write 39 = .ok (.getfield 178, 3) := by decide +kernel
theorem dX11_write_42 : decode cX11_write 42 = .ok (.aload_n 0, 1) := by decide +kernel
theorem dX11_write_43 : decode cX11_write 43 = .ok (.getfield 10, 3) := by decide +kernel
theorem dX11_write_46 : decode cX11_write 46 = .ok (.getfield 106, 3) := by decide +kernel
theorem dX11_write_49 : decode cX11_write 49 = .ok (.invokestatic 318, 3) := by decide +kernel
theorem dX11_write_52 : decode cX11_write 52 = .ok (.istore 4, 2) := by decide +kernel
theorem dX11_write_54 : decode cX11_write 54 = .ok (.iconst 0, 1) := by decide +kernel
theorem dX11_write_55 : decode cX11_write 55 = .ok (.istore 5, 2) := by decide +kernel
theorem dX11_write_57 : decode cX11_write 57 = .ok (.iload 5, 2) := by decide +kernel
theorem dX11_write_59 : decode cX11_write 59 = .ok (.iload 4, 2) := by decide +kernel
theorem dX11_write_61 : decode cX11_write 61 = .ok (.if_icmp .ge 27, 3) := by decide +kernel
theorem dX11_write_64 : decode cX11_write 64 = .ok (.aload_n 3, 1) := by decide +kernel
theorem dX11_write_65 : decode cX11_write 65 = .ok (.iload 5, 2) := by decide +kernel
theorem dX11_write_67 : decode cX11_write 67 = .ok (.aload_n 0, 1) := by decide +kernel
theorem dX11_write_68 : decode cX11_write 68 = .ok (.getfield 26, 3) := by decide +kernel
theorem dX11_write_71 : decode cX11_write 71 = .ok (.getfield 186, 3) := by decide +kernel
theorem dX11_write_74 : decode cX11_write 74 = .ok (.iload_n 1, 1) := by decide +kernel
theorem dX11_write_75 : decode cX11_write 75 = .ok (.aaload, 1) := by decide +kernel
theorem dX11_write_76 : decode cX11_write 76 = .ok (.iload 5, 2) := by decide +kernel
theorem dX11_write_78 : decode cX11_write 78 = .ok (.iaload, 1) := by decide +kernel
theorem dX11_write_79 : decode cX11_write 79 = .ok (.invokevirtual 302, 3) := by decide +kernel
theorem dX11_write_82 : decode cX11_write 82 = .ok (.iinc 5 1, 3) := by decide +kernel
theorem dX11_write_85 : decode cX11_write 85 = .ok (.goto (-28), 3) := by decide +kernel
theorem dX11_write_88 : decode cX11_write 88 = .ok (.iload 4, 2) := by decide +kernel
theorem dX11_write_90 : decode cX11_write 90 = .ok (.ireturn, 1) := by decide +kernel
theorem dX11_count_0 : decode cX11_count 0 = .ok (.iload_n 1, 1) := by decide +kernel
theorem dX11_count_1 : decode cX11_count 1 = .ok (.tableswitch 121 0 8 #[51, 59, 67, 75, 83, 88, 96, 104, 116], 51) := by decide +kernel
theorem dX11_count_52 : decode cX11_count 52 = .ok (.aload_n 0, 1) := by decide +kernel
theorem dX11_count_53 : decode cX11_count 53 = .ok (.getfield 10, 3) := by decide +kernel
theorem dX11_count_56 : decode cX11_count 56 = .ok (.getfield 106, 3) := by decide +kernel
theorem dX11_count_59 : decode cX11_count 59 = .ok (.ireturn, 1) := by decide +kernel
theorem dX11_count_60 : decode cX11_count 60 = .ok (.aload_n 0, 1) := by decide +kernel
theorem dX11_count_61 : decode cX11_count 61 = .ok (.getfield 10, 3) := by decide +kernel
theorem dX11_count_64 : decode cX11_count 64 = .ok (.getfield 202, 3) := by decide +kernel
theorem dX11_count_67 : decode cX11_count 67 = .ok (.ireturn, 1) := by decide +kernel
theorem dX11_count_68 : decode cX11_count 68 = .ok (.aload_n 0, 1) := by decide +kernel
theorem dX11_count_69 : decode cX11_count 69 = .ok (.getfield 19, 3) := by decide +kernel
theorem dX11_count_72 : decode cX11_count 72 = .ok (.getfield 149, 3) := by decide +kernel
theorem dX11_count_75 : decode cX11_count 75 = .ok (.ireturn, 1) := by decide +kernel
theorem dX11_count_76 : decode cX11_count 76 = .ok (.aload_n 0, 1) := by decide +kernel
theorem dX11_count_77 : decode cX11_count 77 = .ok (.getfield 26, 3) := by decide +kernel
theorem dX11_count_80 : decode cX11_count 80 = .ok (.getfield 162, 3) := by decide +kernel
theorem dX11_count_83 : decode cX11_count 83 = .ok (.ireturn, 1) := by decide +kernel
theorem dX11_count_84 : decode cX11_count 84 = .ok (.aload_n 0, 1) := by decide +kernel
theorem dX11_count_85 : decode cX11_count 85 = .ok (.invokevirtual 323, 3) := by decide +kernel
theorem dX11_count_88 : decode cX11_count 88 = .ok (.ireturn, 1) := by decide +kernel
theorem dX11_count_89 : decode cX11_count 89 = .ok (.aload_n 0, 1) := by decide +kernel
theorem dX11_count_90 : decode cX11_count 90 = .ok (.getfield 42, 3) := by decide +kernel
theorem dX11_count_93 : decode cX11_count 93 = .ok (.invokevirtual 326, 3) := by decide +kernel
theorem dX11_count_96 : decode cX11_count 96 = .ok (.ireturn, 1) := by decide +kernel
theorem dX11_count_97 : decode cX11_count 97 = .ok (.aload_n 0, 1) := by decide +kernel
theorem dX11_count_98 : decode cX11_count 98 = .ok (.getfield 60, 3) := by decide +kernel
theorem dX11_count_101 : decode cX11_count 101 = .ok (.invokevirtual 329, 3) := by decide +kernel
theorem dX11_count_104 : decode cX11_count 104 = .ok (.ireturn, 1) := by decide +kernel
theorem dX11_count_105 : decode cX11_count 105 = .ok (.aload_n 0, 1) := by decide +kernel
theorem dX11_count_106 : decode cX11_count 106 = .ok (.getfield 51, 3) := by decide +kernel
theorem dX11_count_109 : decode cX11_count 109 = .ok (.sipush 1023, 3) := by decide +kernel
theorem dX11_count_112 : decode cX11_count 112 = .ok (.iconst 0, 1) := by decide +kernel
theorem dX11_count_113 : decode cX11_count 113 = .ok (.invokevirtual 256, 3) := by decide +kernel
theorem dX11_count_116 : decode cX11_count 116 = .ok (.ireturn, 1) := by decide +kernel
theorem dX11_count_117 : decode cX11_count 117 = .ok (.aload_n 0, 1) := by decide +kernel
theorem dX11_count_118 : decode cX11_count 118 = .ok (.getfield 98, 3) := by decide +kernel
theorem dX11_count_121 : decode cX11_count 121 = .ok (.ireturn, 1) := by decide +kernel
theorem dX11_count_122 : decode cX11_count 122 = .ok (.bipush (-2), 2) := by decide +kernel
theorem dX11_count_124 : decode cX11_count 124 = .ok (.ireturn, 1) := by decide +kernel
theorem dX11_digest_0 : decode cX11_digest 0 = .ok (.ldc2_w 332, 3) := by decide +kernel
theorem dX11_digest_3 : decode cX11_digest 3 = .ok (.lstore_n 1, 1) := by decide +kernel
theorem dX11_digest_4 : decode cX11_digest 4 = .ok (.iconst 0, 1) := by decide +kernel
theorem dX11_digest_5 : decode cX11_digest 5 = .ok (.istore_n 3, 1) := by decide +kernel
theorem dX11_digest_6 : decode cX11_digest 6 = .ok (.iload_n 3, 1) := by decide +kernel
theorem dX11_digest_7 : decode cX11_digest 7 = .ok (.bipush 7, 2) := by decide +kernel
theorem dX11_digest_9 : decode cX11_digest 9 = .ok (.if_icmp .gt 22, 3) := by decide +kernel
theorem dX11_digest_12 : decode cX11_digest 12 = .ok (.ldc2_w 334, 3) := by decide +kernel
theorem dX11_digest_15 : decode cX11_digest 15 = .ok (.lload_n 1, 1) := by decide +kernel
theorem dX11_digest_16 : decode cX11_digest 16 = .ok (.lmul, 1) := by decide +kernel
theorem dX11_digest_17 : decode cX11_digest 17 = .ok (.aload_n 0, 1) := by decide +kernel
theorem dX11_digest_18 : decode cX11_digest 18 = .ok (.iload_n 3, 1) := by decide +kernel
theorem dX11_digest_19 : decode cX11_digest 19 = .ok (.invokevirtual 336, 3) := by decide +kernel
theorem dX11_digest_22 : decode cX11_digest 22 = .ok (.i2l, 1) := by decide +kernel
theorem dX11_digest_23 : decode cX11_digest 23 = .ok (.ladd, 1) := by decide +kernel
theorem dX11_digest_24 : decode cX11_digest 24 = .ok (.lstore_n 1, 1) := by decide +kernel
theorem dX11_digest_25 : decode cX11_digest 25 = .ok (.iinc 3 1, 3) := by decide +kernel
theorem dX11_digest_28 : decode cX11_digest 28 = .ok (.goto (-22), 3) := by decide +kernel
theorem dX11_digest_31 : decode cX11_digest 31 = .ok (.ldc2_w 334, 3) := by decide +kernel
theorem dX11_digest_34 : decode cX11_digest 34 = .ok (.lload_n 1, 1) := by decide +kernel
theorem dX11_digest_35 : decode cX11_digest 35 = .ok (.lmul, 1) := by decide +kernel
theorem dX11_digest_36 : decode cX11_digest 36 = .ok (.aload_n 0, 1) := by decide +kernel
theorem dX11_digest_37 : decode cX11_digest 37 = .ok (.invokevirtual 339, 3) := by decide +kernel
theorem dX11_digest_40 : decode cX11_digest 40 = .ok (.i2l, 1) := by decide +kernel
theorem dX11_digest_41 : decode cX11_digest 41 = .ok (.ladd, 1) := by decide +kernel
theorem dX11_digest_42 : decode cX11_digest 42 = .ok (.lstore_n 1, 1) := by decide +kernel
theorem dX11_digest_43 : decode cX11_digest 43 = .ok (.iconst 0, 1) := by decide +kernel
theorem dX11_digest_44 : decode cX11_digest 44 = .ok (.istore_n 3, 1) := by decide +kernel
theorem dX11_digest_45 : decode cX11_digest 45 = .ok (.iload_n 3, 1) := by decide +kernel
theorem dX11_digest_46 : decode cX11_digest 46 = .ok (.aload_n 0, 1) := by decide +kernel
theorem dX11_digest_47 : decode cX11_digest 47 = .ok (.getfield 19, 3) := by decide +kernel
theorem dX11_digest_50 : decode cX11_digest 50 = .ok (.getfield 149, 3) := by decide +kernel
theorem dX11_digest_53 : decode cX11_digest 53 = .ok (.if_icmp .ge 16, 3) := by decide +kernel
theorem dX11_digest_56 : decode cX11_digest 56 = .ok (.aload_n 0, 1) := by decide +kernel
theorem dX11_digest_57 : decode cX11_digest 57 = .ok (.lload_n 1, 1) := by decide +kernel
theorem dX11_digest_58 : decode cX11_digest 58 = .ok (.iload_n 3, 1) := by decide +kernel
theorem dX11_digest_59 : decode cX11_digest 59 = .ok (.invokevirtual 342, 3) := by decide +kernel
theorem dX11_digest_62 : decode cX11_digest 62 = .ok (.lstore_n 1, 1) := by decide +kernel
theorem dX11_digest_63 : decode cX11_digest 63 = .ok (.iinc 3 1, 3) := by decide +kernel
theorem dX11_digest_66 : decode cX11_digest 66 = .ok (.goto (-21), 3) := by decide +kernel
theorem dX11_digest_69 : decode cX11_digest 69 = .ok (.ldc2_w 334, 3) := by decide +kernel
theorem dX11_digest_72 : decode cX11_digest 72 = .ok (.lload_n 1, 1) := by decide +kernel
theorem dX11_digest_73 : decode cX11_digest 73 = .ok (.lmul, 1) := by decide +kernel
theorem dX11_digest_74 : decode cX11_digest 74 = .ok (.aload_n 0, 1) := by decide +kernel
theorem dX11_digest_75 : decode cX11_digest 75 = .ok (.iconst 0, 1) := by decide +kernel
theorem dX11_digest_76 : decode cX11_digest 76 = .ok (.invokevirtual 346, 3) := by decide +kernel
theorem dX11_digest_79 : decode cX11_digest 79 = .ok (.i2l, 1) := by decide +kernel
theorem dX11_digest_80 : decode cX11_digest 80 = .ok (.ladd, 1) := by decide +kernel
theorem dX11_digest_81 : decode cX11_digest 81 = .ok (.lstore_n 1, 1) := by decide +kernel
theorem dX11_digest_82 : decode cX11_digest 82 = .ok (.ldc2_w 334, 3) := by decide +kernel
theorem dX11_digest_85 : decode cX11_digest 85 = .ok (.lload_n 1, 1) := by decide +kernel
theorem dX11_digest_86 : decode cX11_digest 86 = .ok (.lmul, 1) := by decide +kernel
theorem dX11_digest_87 : decode cX11_digest 87 = .ok (.aload_n 0, 1) := by decide +kernel
theorem dX11_digest_88 : decode cX11_digest 88 = .ok (.invokevirtual 349, 3) := by decide +kernel
theorem dX11_digest_91 : decode cX11_digest 91 = .ok (.i2l, 1) := by decide +kernel
theorem dX11_digest_92 : decode cX11_digest 92 = .ok (.ladd, 1) := by decide +kernel
theorem dX11_digest_93 : decode cX11_digest 93 = .ok (.lstore_n 1, 1) := by decide +kernel
theorem dX11_digest_94 : decode cX11_digest 94 = .ok (.ldc2_w 334, 3) := by decide +kernel
theorem dX11_digest_97 : decode cX11_digest 97 = .ok (.lload_n 1, 1) := by decide +kernel
theorem dX11_digest_98 : decode cX11_digest 98 = .ok (.lmul, 1) := by decide +kernel
theorem dX11_digest_99 : decode cX11_digest 99 = .ok (.aload_n 0, 1) := by decide +kernel
theorem dX11_digest_100 : decode cX11_digest 100 = .ok (.invokevirtual 352, 3) := by decide +kernel
theorem dX11_digest_103 : decode cX11_digest 103 = .ok (.i2l, 1) := by decide +kernel
theorem dX11_digest_104 : decode cX11_digest 104 = .ok (.ladd, 1) := by decide +kernel
theorem dX11_digest_105 : decode cX11_digest 105 = .ok (.lstore_n 1, 1) := by decide +kernel
theorem dX11_digest_106 : decode cX11_digest 106 = .ok (.ldc2_w 334, 3) := by decide +kernel
theorem dX11_digest_109 : decode cX11_digest 109 = .ok (.lload_n 1, 1) := by decide +kernel
theorem dX11_digest_110 : decode cX11_digest 110 = .ok (.lmul, 1) := by decide +kernel
theorem dX11_digest_111 : decode cX11_digest 111 = .ok (.aload_n 0, 1) := by decide +kernel
theorem dX11_digest_112 : decode cX11_digest 112 = .ok (.iconst 1, 1) := by decide +kernel
theorem dX11_digest_113 : decode cX11_digest 113 = .ok (.iconst 0, 1) := by decide +kernel
theorem dX11_digest_114 : decode cX11_digest 114 = .ok (.invokevirtual 355, 3) := by decide +kernel
theorem dX11_digest_117 : decode cX11_digest 117 = .ok (.ladd, 1) := by decide +kernel
theorem dX11_digest_118 : decode cX11_digest 118 = .ok (.lstore_n 1, 1) := by decide +kernel
theorem dX11_digest_119 : decode cX11_digest 119 = .ok (.ldc2_w 334, 3) := by decide +kernel
theorem dX11_digest_122 : decode cX11_digest 122 = .ok (.lload_n 1, 1) := by decide +kernel
theorem dX11_digest_123 : decode cX11_digest 123 = .ok (.lmul, 1) := by decide +kernel
theorem dX11_digest_124 : decode cX11_digest 124 = .ok (.aload_n 0, 1) := by decide +kernel
theorem dX11_digest_125 : decode cX11_digest 125 = .ok (.iconst 1, 1) := by decide +kernel
theorem dX11_digest_126 : decode cX11_digest 126 = .ok (.iconst 1, 1) := by decide +kernel
theorem dX11_digest_127 : decode cX11_digest 127 = .ok (.invokevirtual 355, 3) := by decide +kernel
theorem dX11_digest_130 : decode cX11_digest 130 = .ok (.ladd, 1) := by decide +kernel
theorem dX11_digest_131 : decode cX11_digest 131 = .ok (.lstore_n 1, 1) := by decide +kernel
theorem dX11_digest_132 : decode cX11_digest 132 = .ok (.iconst 0, 1) := by decide +kernel
theorem dX11_digest_133 : decode cX11_digest 133 = .ok (.istore_n 3, 1) := by decide +kernel
theorem dX11_digest_134 : decode cX11_digest 134 = .ok (.iload_n 3, 1) := by decide +kernel
theorem dX11_digest_135 : decode cX11_digest 135 = .ok (.aload_n 0, 1) := by decide +kernel
theorem dX11_digest_136 : decode cX11_digest 136 = .ok (.getfield 10, 3) := by decide +kernel
theorem dX11_digest_139 : decode cX11_digest 139 = .ok (.getfield 106, 3) := by decide +kernel
theorem dX11_digest_142 : decode cX11_digest 142 = .ok (.if_icmp .ge 16, 3) := by decide +kernel
theorem dX11_digest_145 : decode cX11_digest 145 = .ok (.aload_n 0, 1) := by decide +kernel
theorem dX11_digest_146 : decode cX11_digest 146 = .ok (.lload_n 1, 1) := by decide +kernel
theorem dX11_digest_147 : decode cX11_digest 147 = .ok (.iload_n 3, 1) := by decide +kernel
theorem dX11_digest_148 : decode cX11_digest 148 = .ok (.invokevirtual 359, 3) := by decide +kernel
theorem dX11_digest_151 : decode cX11_digest 151 = .ok (.lstore_n 1, 1) := by decide +kernel
theorem dX11_digest_152 : decode cX11_digest 152 = .ok (.iinc 3 1, 3) := by decide +kernel
theorem dX11_digest_155 : decode cX11_digest 155 = .ok (.goto (-21), 3) := by decide +kernel
theorem dX11_digest_158 : decode cX11_digest 158 = .ok (.ldc2_w 334, 3) := by decide +kernel
theorem dX11_digest_161 : decode cX11_digest 161 = .ok (.lload_n 1, 1) := by decide +kernel
theorem dX11_digest_162 : decode cX11_digest 162 = .ok (.lmul, 1) := by decide +kernel
theorem dX11_digest_163 : decode cX11_digest 163 = .ok (.aload_n 0, 1) := by decide +kernel
theorem dX11_digest_164 : decode cX11_digest 164 = .ok (.invokevirtual 362, 3) := by decide +kernel
theorem dX11_digest_167 : decode cX11_digest 167 = .ok (.i2l, 1) := by decide +kernel
theorem dX11_digest_168 : decode cX11_digest 168 = .ok (.ladd, 1) := by decide +kernel
theorem dX11_digest_169 : decode cX11_digest 169 = .ok (.lreturn, 1) := by decide +kernel
theorem dX11_withPupil_0 : decode cX11_withPupil 0 = .ok (.lload_n 1, 1) := by decide +kernel
theorem dX11_withPupil_1 : decode cX11_withPupil 1 = .ok (.lstore 4, 2) := by decide +kernel
theorem dX11_withPupil_3 : decode cX11_withPupil 3 = .ok (.iconst 0, 1) := by decide +kernel
theorem dX11_withPupil_4 : decode cX11_withPupil 4 = .ok (.istore 6, 2) := by decide +kernel
theorem dX11_withPupil_6 : decode cX11_withPupil 6 = .ok (.iload 6, 2) := by decide +kernel
theorem dX11_withPupil_8 : decode cX11_withPupil 8 = .ok (.iconst 3, 1) := by decide +kernel
theorem dX11_withPupil_9 : decode cX11_withPupil 9 = .ok (.if_icmp .gt 26, 3) := by decide +kernel
theorem dX11_withPupil_12 : decode cX11_withPupil 12 = .ok (.ldc2_w 334, 3) := by decide +kernel
theorem dX11_withPupil_15 : decode cX11_withPupil 15 = .ok (.lload 4, 2) := by decide +kernel
theorem dX11_withPupil_17 : decode cX11_withPupil 17 = .ok (.lmul, 1) := by decide +kernel
theorem dX11_withPupil_18 : decode cX11_withPupil 18 = .ok (.aload_n 0, 1) := by decide +kernel
theorem dX11_withPupil_19 : decode cX11_withPupil 19 = .ok (.iload_n 3, 1) := by decide +kernel
theorem dX11_withPupil_20 : decode cX11_withPupil 20 = .ok (.iload 6, 2) := by decide +kernel
theorem dX11_withPupil_22 : decode cX11_withPupil 22 = .ok (.invokevirtual 365, 3) := by decide +kernel
theorem dX11_withPupil_25 : decode cX11_withPupil 25 = .ok (.i2l, 1) := by decide +kernel
theorem dX11_withPupil_26 : decode cX11_withPupil 26 = .ok (.ladd, 1) := by decide +kernel
theorem dX11_withPupil_27 : decode cX11_withPupil 27 = .ok (.lstore 4, 2) := by decide +kernel
theorem dX11_withPupil_29 : decode cX11_withPupil 29 = .ok (.iinc 6 1, 3) := by decide +kernel
theorem dX11_withPupil_32 : decode cX11_withPupil 32 = .ok (.goto (-26), 3) := by decide +kernel
theorem dX11_withPupil_35 : decode cX11_withPupil 35 = .ok (.iconst 0, 1) := by decide +kernel
theorem dX11_withPupil_36 : decode cX11_withPupil 36 = .ok (.istore 6, 2) := by decide +kernel
theorem dX11_withPupil_38 : decode cX11_withPupil 38 = .ok (.iload 6, 2) := by decide +kernel
theorem dX11_withPupil_40 : decode cX11_withPupil 40 = .ok (.iconst 2, 1) := by decide +kernel
theorem dX11_withPupil_41 : decode cX11_withPupil 41 = .ok (.if_icmp .gt 26, 3) := by decide +kernel
theorem dX11_withPupil_44 : decode cX11_withPupil 44 = .ok (.ldc2_w 334, 3) := by decide +kernel
theorem dX11_withPupil_47 : decode cX11_withPupil 47 = .ok (.lload 4, 2) := by decide +kernel
theorem dX11_withPupil_49 : decode cX11_withPupil 49 = .ok (.lmul, 1) := by decide +kernel
theorem dX11_withPupil_50 : decode cX11_withPupil 50 = .ok (.aload_n 0, 1) := by decide +kernel
theorem dX11_withPupil_51 : decode cX11_withPupil 51 = .ok (.iload_n 3, 1) := by decide +kernel
theorem dX11_withPupil_52 : decode cX11_withPupil 52 = .ok (.iload 6, 2) := by decide +kernel
theorem dX11_withPupil_54 : decode cX11_withPupil 54 = .ok (.invokevirtual 368, 3) := by decide +kernel
theorem dX11_withPupil_57 : decode cX11_withPupil 57 = .ok (.i2l, 1) := by decide +kernel
theorem dX11_withPupil_58 : decode cX11_withPupil 58 = .ok (.ladd, 1) := by decide +kernel
theorem dX11_withPupil_59 : decode cX11_withPupil 59 = .ok (.lstore 4, 2) := by decide +kernel
theorem dX11_withPupil_61 : decode cX11_withPupil 61 = .ok (.iinc 6 1, 3) := by decide +kernel
theorem dX11_withPupil_64 : decode cX11_withPupil 64 = .ok (.goto (-26), 3) := by decide +kernel
theorem dX11_withPupil_67 : decode cX11_withPupil 67 = .ok (.lload 4, 2) := by decide +kernel
theorem dX11_withPupil_69 : decode cX11_withPupil 69 = .ok (.lreturn, 1) := by decide +kernel
theorem dX11_withQuestion_0 : decode cX11_withQuestion 0 = .ok (.ldc2_w 334, 3) := by decide +kernel
theorem dX11_withQuestion_3 : decode cX11_withQuestion 3 = .ok (.lload_n 1, 1) := by decide +kernel
theorem dX11_withQuestion_4 : decode cX11_withQuestion 4 = .ok (.lmul, 1) := by decide +kernel
theorem dX11_withQuestion_5 : decode cX11_withQuestion 5 = .ok (.aload_n 0, 1) := by decide +kernel
theorem dX11_withQuestion_6 : decode cX11_withQuestion 6 = .ok (.iload_n 3, 1) := by decide +kernel
theorem dX11_withQuestion_7 : decode cX11_withQuestion 7 = .ok (.invokevirtual 371, 3) := by decide +kernel
theorem dX11_withQuestion_10 : decode cX11_withQuestion 10 = .ok (.i2l, 1) := by decide +kernel
theorem dX11_withQuestion_11 : decode cX11_withQuestion 11 = .ok (.ladd, 1) := by decide +kernel
theorem dX11_withQuestion_12 : decode cX11_withQuestion 12 = .ok (.lstore 4, 2) := by decide +kernel
theorem dX11_withQuestion_14 : decode cX11_withQuestion 14 = .ok (.ldc2_w 334, 3) := by decide +kernel
theorem dX11_withQuestion_17 : decode cX11_withQuestion 17 = .ok (.lload 4, 2) := by decide +kernel
theorem dX11_withQuestion_19 : decode cX11_withQuestion 19 = .ok (.lmul, 1) := by decide +kernel
theorem dX11_withQuestion_20 : decode cX11_withQuestion 20 = .ok (.aload_n 0, 1) := by decide +kernel
theorem dX11_withQuestion_21 : decode cX11_withQuestion 21 = .ok (.iload_n 3, 1) := by decide +kernel
theorem dX11_withQuestion_22 : decode cX11_withQuestion 22 = .ok (.invokevirtual 374, 3) := by decide +kernel
theorem dX11_withQuestion_25 : decode cX11_withQuestion 25 = .ok (.i2l, 1) := by decide +kernel
theorem dX11_withQuestion_26 : decode cX11_withQuestion 26 = .ok (.ladd, 1) := by decide +kernel
theorem dX11_withQuestion_27 : decode cX11_withQuestion 27 = .ok (.lstore 4, 2) := by decide +kernel
theorem dX11_withQuestion_29 : decode cX11_withQuestion 29 = .ok (.ldc2_w 334, 3) := by decide +kernel
theorem dX11_withQuestion_32 : decode cX11_withQuestion 32 = .ok (.lload 4, 2) := by decide +kernel
theorem dX11_withQuestion_34 : decode cX11_withQuestion 34 = .ok (.lmul, 1) := by decide +kernel
theorem dX11_withQuestion_35 : decode cX11_withQuestion 35 = .ok (.aload_n 0, 1) := by decide +kernel
theorem dX11_withQuestion_36 : decode cX11_withQuestion 36 = .ok (.iload_n 3, 1) := by decide +kernel
theorem dX11_withQuestion_37 : decode cX11_withQuestion 37 = .ok (.iconst 0, 1) := by decide +kernel
theorem dX11_withQuestion_38 : decode cX11_withQuestion 38 = .ok (.invokevirtual 377, 3) := by decide +kernel
theorem dX11_withQuestion_41 : decode cX11_withQuestion 41 = .ok (.i2l, 1) := by decide +kernel
theorem dX11_withQuestion_42 : decode cX11_withQuestion 42 = .ok (.ladd, 1) := by decide +kernel
theorem dX11_withQuestion_43 : decode cX11_withQuestion 43 = .ok (.lstore 4, 2) := by decide +kernel
theorem dX11_withQuestion_45 : decode cX11_withQuestion 45 = .ok (.ldc2_w 334, 3) := by decide +kernel
theorem dX11_withQuestion_48 : decode cX11_withQuestion 48 = .ok (.lload 4, 2) := by decide +kernel
theorem dX11_withQuestion_50 : decode cX11_withQuestion 50 = .ok (.lmul, 1) := by decide +kernel
theorem dX11_withQuestion_51 : decode cX11_withQuestion 51 = .ok (.aload_n 0, 1) := by decide +kernel
theorem dX11_withQuestion_52 : decode cX11_withQuestion 52 = .ok (.iload_n 3, 1) := by decide +kernel
theorem dX11_withQuestion_53 : decode cX11_withQuestion 53 = .ok (.iconst 1, 1) := by decide +kernel
theorem dX11_withQuestion_54 : decode cX11_withQuestion 54 = .ok (.invokevirtual 377, 3) := by decide +kernel
theorem dX11_withQuestion_57 : decode cX11_withQuestion 57 = .ok (.i2l, 1) := by decide +kernel
theorem dX11_withQuestion_58 : decode cX11_withQuestion 58 = .ok (.ladd, 1) := by decide +kernel
theorem dX11_withQuestion_59 : decode cX11_withQuestion 59 = .ok (.lstore 4, 2) := by decide +kernel
theorem dX11_withQuestion_61 : decode cX11_withQuestion 61 = .ok (.ldc2_w 334, 3) := by decide +kernel
theorem dX11_withQuestion_64 : decode cX11_withQuestion 64 = .ok (.lload 4, 2) := by decide +kernel
theorem dX11_withQuestion_66 : decode cX11_withQuestion 66 = .ok (.lmul, 1) := by decide +kernel
theorem dX11_withQuestion_67 : decode cX11_withQuestion 67 = .ok (.aload_n 0, 1) := by decide +kernel
theorem dX11_withQuestion_68 : decode cX11_withQuestion 68 = .ok (.iload_n 3, 1) := by decide +kernel
theorem dX11_withQuestion_69 : decode cX11_withQuestion 69 = .ok (.iconst 0, 1) := by decide +kernel
theorem dX11_withQuestion_70 : decode cX11_withQuestion 70 = .ok (.invokevirtual 380, 3) := by decide +kernel
theorem dX11_withQuestion_73 : decode cX11_withQuestion 73 = .ok (.ladd, 1) := by decide +kernel
theorem dX11_withQuestion_74 : decode cX11_withQuestion 74 = .ok (.lstore 4, 2) := by decide +kernel
theorem dX11_withQuestion_76 : decode cX11_withQuestion 76 = .ok (.ldc2_w 334, 3) := by decide +kernel
theorem dX11_withQuestion_79 : decode cX11_withQuestion 79 = .ok (.lload 4, 2) := by decide +kernel
theorem dX11_withQuestion_81 : decode cX11_withQuestion 81 = .ok (.lmul, 1) := by decide +kernel
theorem dX11_withQuestion_82 : decode cX11_withQuestion 82 = .ok (.aload_n 0, 1) := by decide +kernel
theorem dX11_withQuestion_83 : decode cX11_withQuestion 83 = .ok (.iload_n 3, 1) := by decide +kernel
theorem dX11_withQuestion_84 : decode cX11_withQuestion 84 = .ok (.iconst 1, 1) := by decide +kernel
theorem dX11_withQuestion_85 : decode cX11_withQuestion 85 = .ok (.invokevirtual 380, 3) := by decide +kernel
theorem dX11_withQuestion_88 : decode cX11_withQuestion 88 = .ok (.ladd, 1) := by decide +kernel
theorem dX11_withQuestion_89 : decode cX11_withQuestion 89 = .ok (.lstore 4, 2) := by decide +kernel
theorem dX11_withQuestion_91 : decode cX11_withQuestion 91 = .ok (.ldc2_w 334, 3) := by decide +kernel
theorem dX11_withQuestion_94 : decode cX11_withQuestion 94 = .ok (.lload 4, 2) := by decide +kernel
theorem dX11_withQuestion_96 : decode cX11_withQuestion 96 = .ok (.lmul, 1) := by decide +kernel
theorem dX11_withQuestion_97 : decode cX11_withQuestion 97 = .ok (.aload_n 0, 1) := by decide +kernel
theorem dX11_withQuestion_98 : decode cX11_withQuestion 98 = .ok (.iload_n 3, 1) := by decide +kernel
theorem dX11_withQuestion_99 : decode cX11_withQuestion 99 = .ok (.iconst 0, 1) := by decide +kernel
theorem dX11_withQuestion_100 : decode cX11_withQuestion 100 = .ok (.invokevirtual 383, 3) := by decide +kernel
theorem dX11_withQuestion_103 : decode cX11_withQuestion 103 = .ok (.ladd, 1) := by decide +kernel
theorem dX11_withQuestion_104 : decode cX11_withQuestion 104 = .ok (.lstore 4, 2) := by decide +kernel
theorem dX11_withQuestion_106 : decode cX11_withQuestion 106 = .ok (.ldc2_w 334, 3) := by decide +kernel
theorem dX11_withQuestion_109 : decode cX11_withQuestion 109 = .ok (.lload 4, 2) := by decide +kernel
theorem dX11_withQuestion_111 : decode cX11_withQuestion 111 = .ok (.lmul, 1) := by decide +kernel
theorem dX11_withQuestion_112 : decode cX11_withQuestion 112 = .ok (.aload_n 0, 1) := by decide +kernel
theorem dX11_withQuestion_113 : decode cX11_withQuestion 113 = .ok (.iload_n 3, 1) := by decide +kernel
theorem dX11_withQuestion_114 : decode cX11_withQuestion 114 = .ok (.iconst 1, 1) := by decide +kernel
theorem dX11_withQuestion_115 : decode cX11_withQuestion 115 = .ok (.invokevirtual 383, 3) := by decide +kernel
theorem dX11_withQuestion_118 : decode cX11_withQuestion 118 = .ok (.ladd, 1) := by decide +kernel
theorem dX11_withQuestion_119 : decode cX11_withQuestion 119 = .ok (.lreturn, 1) := by decide +kernel
theorem dX11_answersGiven_0 : decode cX11_answersGiven 0 = .ok (.iconst 0, 1) := by decide +kernel
theorem dX11_answersGiven_1 : decode cX11_answersGiven 1 = .ok (.istore_n 1, 1) := by decide +kernel
theorem dX11_answersGiven_2 : decode cX11_answersGiven 2 = .ok (.iconst 0, 1) := by decide +kernel
theorem dX11_answersGiven_3 : decode cX11_answersGiven 3 = .ok (.istore_n 2, 1) := by decide +kernel
theorem dX11_answersGiven_4 : decode cX11_answersGiven 4 = .ok (.iload_n 2, 1) := by decide +kernel
theorem dX11_answersGiven_5 : decode cX11_answersGiven 5 = .ok (.aload_n 0, 1) := by decide +kernel
theorem dX11_answersGiven_6 : decode cX11_answersGiven 6 = .ok (.getfield 19, 3) := by decide +kernel
theorem dX11_answersGiven_9 : decode cX11_answersGiven 9 = .ok (.getfield 149, 3) := by decide +kernel
theorem dX11_answersGiven_12 : decode cX11_answersGiven 12 = .ok (.if_icmp .ge 45, 3) := by decide +kernel
theorem dX11_answersGiven_15 : decode cX11_answersGiven 15 = .ok (.iconst 0, 1) := by decide +kernel
theorem dX11_answersGiven_16 : decode cX11_answersGiven 16 = .ok (.istore_n 3, 1) := by decide +kernel
theorem dX11_answersGiven_17 : decode cX11_answersGiven 17 = .ok (.iload_n 3, 1) := by decide +kernel
theorem dX11_answersGiven_18 : decode cX11_answersGiven 18 = .ok (.aload_n 0, 1) := by decide +kernel
theorem dX11_answersGiven_19 : decode cX11_answersGiven 19 = .ok (.getfield 10, 3) := by decide +kernel
theorem dX11_answersGiven_22 : decode cX11_answersGiven 22 = .ok (.getfield 106, 3) := by decide +kernel
theorem dX11_answersGiven_25 : decode cX11_answersGiven 25 = .ok (.if_icmp .ge 26, 3) := by decide +kernel
theorem dX11_answersGiven_28 : decode cX11_answersGiven 28 = .ok (.aload_n 0, 1) := by decide +kernel
theorem dX11_answersGiven_29 : decode cX11_answersGiven 29 = .ok (.getfield 26, 3) := by decide +kernel
theorem dX11_answersGiven_32 : decode cX11_answersGiven 32 = .ok (.getfield 186, 3) := by decide +kernel
theorem dX11_answersGiven_35 : decode cX11_answersGiven 35 = .ok (.iload_n 2, 1) := by decide +kernel
theorem dX11_answersGiven_36 : decode cX11_answersGiven 36 = .ok (.aaload, 1) := by decide +kernel
theorem dX11_answersGiven_37 : decode cX11_answersGiven 37 = .ok (.iload_n 3, 1) := by decide +kernel
theorem dX11_answersGiven_38 : decode cX11_answersGiven 38 = .ok (.iaload, 1) := by decide +kernel
theorem dX11_answersGiven_39 : decode cX11_answersGiven 39 = .ok (.ifCond .eq 6, 3) := by decide +kernel
theorem dX11_answersGiven_42 : decode cX11_answersGiven 42 = .ok (.iinc 1 1, 3) := by decide +kernel
theorem dX11_answersGiven_45 : decode cX11_answersGiven 45 = .ok (.iinc 3 1, 3) := by decide +kernel
theorem dX11_answersGiven_48 : decode cX11_answersGiven 48 = .ok (.goto (-31), 3) := by decide +kernel
theorem dX11_answersGiven_51 : decode cX11_answersGiven 51 = .ok (.iinc 2 1, 3) := by decide +kernel
theorem dX11_answersGiven_54 : decode cX11_answersGiven 54 = .ok (.goto (-50), 3) := by decide +kernel
theorem dX11_answersGiven_57 : decode cX11_answersGiven 57 = .ok (.iload_n 1, 1) := by decide +kernel
theorem dX11_answersGiven_58 : decode cX11_answersGiven 58 = .ok (.ireturn, 1) := by decide +kernel
theorem dX11_find_0 : decode cX11_find 0 = .ok (.aload_n 0, 1) := by decide +kernel
theorem dX11_find_1 : decode cX11_find 1 = .ok (.iload_n 1, 1) := by decide +kernel
theorem dX11_find_2 : decode cX11_find 2 = .ok (.putfield 98, 3) := by decide +kernel
theorem dX11_find_5 : decode cX11_find 5 = .ok (.bipush (-10), 2) := by decide +kernel
theorem dX11_find_7 : decode cX11_find 7 = .ok (.iload_n 1, 1) := by decide +kernel
theorem dX11_find_8 : decode cX11_find 8 = .ok (.isub, 1) := by decide +kernel
theorem dX11_find_9 : decode cX11_find 9 = .ok (.ireturn, 1) := by decide +kernel
theorem dX11_isQuestion_0 : decode cX11_isQuestion 0 = .ok (.iload_n 1, 1) := by decide +kernel
theorem dX11_isQuestion_1 : decode cX11_isQuestion 1 = .ok (.iconst 0, 1) := by decide +kernel
theorem dX11_isQuestion_2 : decode cX11_isQuestion 2 = .ok (.aload_n 0, 1) := by decide +kernel
theorem dX11_isQuestion_3 : decode cX11_isQuestion 3 = .ok (.getfield 10, 3) := by decide +kernel
theorem dX11_isQuestion_6 : decode cX11_isQuestion 6 = .ok (.getfield 106, 3) := by decide +kernel
theorem dX11_isQuestion_9 : decode cX11_isQuestion 9 = .ok (.iconst 1, 1) := by decide +kernel
theorem dX11_isQuestion_10 : decode cX11_isQuestion 10 = .ok (.isub, 1) := by decide +kernel
theorem dX11_isQuestion_11 : decode cX11_isQuestion 11 = .ok (.invokestatic 102, 3) := by decide +kernel
theorem dX11_isQuestion_14 : decode cX11_isQuestion 14 = .ok (.ireturn, 1) := by decide +kernel
theorem dX11_isPupil_0 : decode cX11_isPupil 0 = .ok (.iload_n 1, 1) := by decide +kernel
theorem dX11_isPupil_1 : decode cX11_isPupil 1 = .ok (.iconst 0, 1) := by decide +kernel
theorem dX11_isPupil_2 : decode cX11_isPupil 2 = .ok (.aload_n 0, 1) := by decide +kernel
theorem dX11_isPupil_3 : decode cX11_isPupil 3 = .ok (.getfield 19, 3) := by decide +kernel
theorem dX11_isPupil_6 : decode cX11_isPupil 6 = .ok (.getfield 149, 3) := by decide +kernel
theorem dX11_isPupil_9 : decode cX11_isPupil 9 = .ok (.iconst 1, 1) := by decide +kernel
theorem dX11_isPupil_10 : decode cX11_isPupil 10 = .ok (.isub, 1) := by decide +kernel
theorem dX11_isPupil_11 : decode cX11_isPupil 11 = .ok (.invokestatic 102, 3) := by decide +kernel
theorem dX11_isPupil_14 : decode cX11_isPupil 14 = .ok (.ireturn, 1) := by decide +kernel
theorem dX11_isPair_0 : decode cX11_isPair 0 = .ok (.aload_n 0, 1) := by decide +kernel
theorem dX11_isPair_1 : decode cX11_isPair 1 = .ok (.iload_n 1, 1) := by decide +kernel
theorem dX11_isPair_2 : decode cX11_isPair 2 = .ok (.invokevirtual 156, 3) := by decide +kernel
theorem dX11_isPair_5 : decode cX11_isPair 5 = .ok (.ifCond .eq 20, 3) := by decide +kernel
theorem dX11_isPair_8 : decode cX11_isPair 8 = .ok (.aload_n 0, 1) := by decide +kernel
theorem dX11_isPair_9 : decode cX11_isPair 9 = .ok (.iload_n 2, 1) := by decide +kernel
theorem dX11_isPair_10 : decode cX11_isPair 10 = .ok (.invokevirtual 156, 3) := by decide +kernel
theorem dX11_isPair_13 : decode cX11_isPair 13 = .ok (.ifCond .eq 12, 3) := by decide +kernel
theorem dX11_isPair_16 : decode cX11_isPair 16 = .ok (.iload_n 1, 1) := by decide +kernel
theorem dX11_isPair_17 : decode cX11_isPair 17 = .ok (.iload_n 2, 1) := by decide +kernel
theorem dX11_isPair_18 : decode cX11_isPair 18 = .ok (.if_icmp .eq 7, 3) := by decide +kernel
theorem dX11_isPair_21 : decode cX11_isPair 21 = .ok (.iconst 1, 1) := by decide +kernel
theorem dX11_isPair_22 : decode cX11_isPair 22 = .ok (.goto 4, 3) := by decide +kernel
theorem dX11_isPair_25 : decode cX11_isPair 25 = .ok (.iconst 0, 1) := by decide +kernel
theorem dX11_isPair_26 : decode cX11_isPair 26 = .ok (.ireturn, 1) := by decide +kernel
theorem dX11_isNextTime_0 : decode cX11_isNextTime 0 = .ok (.iload_n 1, 1) := by decide +kernel
theorem dX11_isNextTime_1 : decode cX11_isNextTime 1 = .ok (.aload_n 0, 1) := by decide +kernel
theorem dX11_isNextTime_2 : decode cX11_isNextTime 2 = .ok (.getfield 26, 3) := by decide +kernel
theorem dX11_isNextTime_5 : decode cX11_isNextTime 5 = .ok (.invokevirtual 386, 3) := by decide +kernel
theorem dX11_isNextTime_8 : decode cX11_isNextTime 8 = .ok (.sipush 999, 3) := by decide +kernel
theorem dX11_isNextTime_11 : decode cX11_isNextTime 11 = .ok (.invokestatic 102, 3) := by decide +kernel
theorem dX11_isNextTime_14 : decode cX11_isNextTime 14 = .ok (.ireturn, 1) := by decide +kernel
theorem dX11_isSheet_0 : decode cX11_isSheet 0 = .ok (.iload_n 0, 1) := by decide +kernel
theorem dX11_isSheet_1 : decode cX11_isSheet 1 = .ok (.iconst 0, 1) := by decide +kernel
theorem dX11_isSheet_2 : decode cX11_isSheet 2 = .ok (.iconst 3, 1) := by decide +kernel
theorem dX11_isSheet_3 : decode cX11_isSheet 3 = .ok (.invokestatic 102, 3) := by decide +kernel
theorem dX11_isSheet_6 : decode cX11_isSheet 6 = .ok (.ireturn, 1) := by decide +kernel
theorem dX11_isPart_0 : decode cX11_isPart 0 = .ok (.iload_n 0, 1) := by decide +kernel
theorem dX11_isPart_1 : decode cX11_isPart 1 = .ok (.iconst 0, 1) := by decide +kernel
theorem dX11_isPart_2 : decode cX11_isPart 2 = .ok (.iconst 1, 1) := by decide +kernel
theorem dX11_isPart_3 : decode cX11_isPart 3 = .ok (.invokestatic 102, 3) := by decide +kernel
theorem dX11_isPart_6 : decode cX11_isPart 6 = .ok (.ireturn, 1) := by decide +kernel
theorem dX11_within_0 : decode cX11_within 0 = .ok (.iload_n 0, 1) := by decide +kernel
theorem dX11_within_1 : decode cX11_within 1 = .ok (.iload_n 1, 1) := by decide +kernel
theorem dX11_within_2 : decode cX11_within 2 = .ok (.if_icmp .lt 12, 3) := by decide +kernel
theorem dX11_within_5 : decode cX11_within 5 = .ok (.iload_n 0, 1) := by decide +kernel
theorem dX11_within_6 : decode cX11_within 6 = .ok (.iload_n 2, 1) := by decide +kernel
theorem dX11_within_7 : decode cX11_within 7 = .ok (.if_icmp .gt 7, 3) := by decide +kernel
theorem dX11_within_10 : decode cX11_within 10 = .ok (.iconst 1, 1) := by decide +kernel
theorem dX11_within_11 : decode cX11_within 11 = .ok (.goto 4, 3) := by decide +kernel
theorem dX11_within_14 : decode cX11_within 14 = .ok (.iconst 0, 1) := by decide +kernel
theorem dX11_within_15 : decode cX11_within 15 = .ok (.ireturn, 1) := by decide +kernel
theorem dX11_refusal_0 : decode cX11_refusal 0 = .ok (.ldc2_w 389, 3) := by decide +kernel
theorem dX11_refusal_3 : decode cX11_refusal 3 = .ok (.iload_n 0, 1) := by decide +kernel
theorem dX11_refusal_4 : decode cX11_refusal 4 = .ok (.i2l, 1) := by decide +kernel
theorem dX11_refusal_5 : decode cX11_refusal 5 = .ok (.lsub, 1) := by decide +kernel
theorem dX11_refusal_6 : decode cX11_refusal 6 = .ok (.lreturn, 1) := by decide +kernel
