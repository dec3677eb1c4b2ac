theorem dX10_init_0 : decode cX10_init 0 = .ok (.aload_n 0, 1) := by decide +kernel
theorem dX10_init_1 : decode cX10_init 1 = .ok (.invokespecial 1, 3) := by decide +kernel
theorem dX10_init_4 : decode cX10_init 4 = .ok (.aload_n 0, 1) := by decide +kernel
theorem dX10_init_5 : decode cX10_init 5 = .ok (.sipush 300, 3) := by decide +kernel
theorem dX10_init_8 : decode cX10_init 8 = .ok (.newarray .byte, 2) := by decide +kernel
theorem dX10_init_10 : decode cX10_init 10 = .ok (.putfield 9, 3) := by decide +kernel
theorem dX10_init_13 : decode cX10_init 13 = .ok (.aload_n 0, 1) := by decide +kernel
theorem dX10_init_14 : decode cX10_init 14 = .ok (.iconst 0, 1) := by decide +kernel
theorem dX10_init_15 : decode cX10_init 15 = .ok (.putfield 13, 3) := by decide +kernel
theorem dX10_init_18 : decode cX10_init 18 = .ok (.aload_n 0, 1) := by decide +kernel
theorem dX10_init_19 : decode cX10_init 19 = .ok (.new 17, 3) := by decide +kernel
theorem dX10_init_22 : decode cX10_init 22 = .ok (.dup, 1) := by decide +kernel
theorem dX10_init_23 : decode cX10_init 23 = .ok (.invokespecial 19, 3) := by decide +kernel
theorem dX10_init_26 : decode cX10_init 26 = .ok (.putfield 20, 3) := by decide +kernel
theorem dX10_init_29 : decode cX10_init 29 = .ok (.aload_n 0, 1) := by decide +kernel
theorem dX10_init_30 : decode cX10_init 30 = .ok (.new 24, 3) := by decide +kernel
theorem dX10_init_33 : decode cX10_init 33 = .ok (.dup, 1) := by decide +kernel
theorem dX10_init_34 : decode cX10_init 34 = .ok (.invokespecial 26, 3) := by decide +kernel
theorem dX10_init_37 : decode cX10_init 37 = .ok (.putfield 27, 3) := by decide +kernel
theorem dX10_init_40 : decode cX10_init 40 = .ok (.aload_n 0, 1) := by decide +kernel
theorem dX10_init_41 : decode cX10_init 41 = .ok (.new 24, 3) := by decide +kernel
theorem dX10_init_44 : decode cX10_init 44 = .ok (.dup, 1) := by decide +kernel
theorem dX10_init_45 : decode cX10_init 45 = .ok (.invokespecial 26, 3) := by decide +kernel
theorem dX10_init_48 : decode cX10_init 48 = .ok (.putfield 31, 3) := by decide +kernel
theorem dX10_init_51 : decode cX10_init 51 = .ok (.aload_n 0, 1) := by decide +kernel
theorem dX10_init_52 : decode cX10_init 52 = .ok (.new 34, 3) := by decide +kernel
theorem dX10_init_55 : decode cX10_init 55 = .ok (.dup, 1) := by decide +kernel
theorem dX10_init_56 : decode cX10_init 56 = .ok (.aload_n 0, 1) := by decide +kernel
theorem dX10_init_57 : decode cX10_init 57 = .ok (.getfield 31, 3) := by decide +kernel
theorem dX10_init_60 : decode cX10_init 60 = .ok (.invokespecial 36, 3) := by decide +kernel
theorem dX10_init_63 : decode cX10_init 63 = .ok (.putfield 39, 3) := by decide +kernel
theorem dX10_init_66 : decode cX10_init 66 = .ok (.aload_n 0, 1) := by decide +kernel
theorem dX10_init_67 : decode cX10_init 67 = .ok (.bipush 8, 2) := by decide +kernel
theorem dX10_init_69 : decode cX10_init 69 = .ok (.newarray .int, 2) := by decide +kernel
theorem dX10_init_71 : decode cX10_init 71 = .ok (.putfield 43, 3) := by decide +kernel
theorem dX10_init_74 : decode cX10_init 74 = .ok (.aload_n 0, 1) := by decide +kernel
theorem dX10_init_75 : decode cX10_init 75 = .ok (.iconst 0, 1) := by decide +kernel
theorem dX10_init_76 : decode cX10_init 76 = .ok (.putfield 47, 3) := by decide +kernel
theorem dX10_init_79 : decode cX10_init 79 = .ok (.aload_n 0, 1) := by decide +kernel
theorem dX10_init_80 : decode cX10_init 80 = .ok (.bipush 8, 2) := by decide +kernel
theorem dX10_init_82 : decode cX10_init 82 = .ok (.newarray .int, 2) := by decide +kernel
theorem dX10_init_84 : decode cX10_init 84 = .ok (.putfield 50, 3) := by decide +kernel
theorem dX10_init_87 : decode cX10_init 87 = .ok (.aload_n 0, 1) := by decide +kernel
theorem dX10_init_88 : decode cX10_init 88 = .ok (.iconst 2, 1) := by decide +kernel
theorem dX10_init_89 : decode cX10_init 89 = .ok (.bipush 8, 2) := by decide +kernel
theorem dX10_init_91 : decode cX10_init 91 = .ok (.multianewarray 53 2, 4) := by decide +kernel
theorem dX10_init_95 : decode cX10_init 95 = .ok (.putfield 55, 3) := by decide +kernel
theorem dX10_init_98 : decode cX10_init 98 = .ok (.aload_n 0, 1) := by decide +kernel
theorem dX10_init_99 : decode cX10_init 99 = .ok (.iconst 2, 1) := by decide +kernel
theorem dX10_init_100 : decode cX10_init 100 = .ok (.newarray .int, 2) := by decide +kernel
theorem dX10_init_102 : decode cX10_init 102 = .ok (.putfield 58, 3) := by decide +kernel
theorem dX10_init_105 : decode cX10_init 105 = .ok (.aload_n 0, 1) := by decide +kernel
theorem dX10_init_106 : decode cX10_init 106 = .ok (.iconst 0, 1) := by decide +kernel
theorem dX10_init_107 : decode cX10_init 107 = .ok (.putfield 61, 3) := by decide +kernel
theorem dX10_init_110 : decode cX10_init 110 = .ok (.aload_n 0, 1) := by decide +kernel
theorem dX10_init_111 : decode cX10_init 111 = .ok (.new 64, 3) := by decide +kernel
theorem dX10_init_114 : decode cX10_init 114 = .ok (.dup, 1) := by decide +kernel
theorem dX10_init_115 : decode cX10_init 115 = .ok (.aload_n 0, 1) := by decide +kernel
theorem dX10_init_116 : decode cX10_init 116 = .ok (.getfield 31, 3) := by decide +kernel
theorem dX10_init_119 : decode cX10_init 119 = .ok (.aload_n 0, 1) := by decide +kernel
theorem dX10_init_120 : decode cX10_init 120 = .ok (.getfield 39, 3) := by decide +kernel
theorem dX10_init_123 : decode cX10_init 123 = .ok (.invokespecial 66, 3) := by decide +kernel
theorem dX10_init_126 : decode cX10_init 126 = .ok (.putfield 69, 3) := by decide +kernel
theorem dX10_init_129 : decode cX10_init 129 = .ok (.aload_n 0, 1) := by decide +kernel
theorem dX10_init_130 : decode cX10_init 130 = .ok (.new 73, 3) := by decide +kernel
theorem dX10_init_133 : decode cX10_init 133 = .ok (.dup, 1) := by decide +kernel
theorem dX10_init_134 : decode cX10_init 134 = .ok (.aload_n 0, 1) := by decide +kernel
theorem dX10_init_135 : decode cX10_init 135 = .ok (.getfield 31, 3) := by decide +kernel
theorem dX10_init_138 : decode cX10_init 138 = .ok (.aload_n 0, 1) := by decide +kernel
theorem dX10_init_139 : decode cX10_init 139 = .ok (.getfield 39, 3) := by decide +kernel
theorem dX10_init_142 : decode cX10_init 142 = .ok (.invokespecial 75, 3) := by decide +kernel
theorem dX10_init_145 : decode cX10_init 145 = .ok (.putfield 76, 3) := by decide +kernel
theorem dX10_init_148 : decode cX10_init 148 = .ok (.aload_n 0, 1) := by decide +kernel
theorem dX10_init_149 : decode cX10_init 149 = .ok (.new 80, 3) := by decide +kernel
theorem dX10_init_152 : decode cX10_init 152 = .ok (.dup, 1) := by decide +kernel
theorem dX10_init_153 : decode cX10_init 153 = .ok (.aload_n 0, 1) := by decide +kernel
theorem dX10_init_154 : decode cX10_init 154 = .ok (.getfield 31, 3) := by decide +kernel
theorem dX10_init_157 : decode cX10_init 157 = .ok (.aload_n 0, 1) := by decide +kernel
theorem dX10_init_158 : decode cX10_init 158 = .ok (.getfield 39, 3) := by decide +kernel
theorem dX10_init_161 : decode cX10_init 161 = .ok (.invokespecial 82, 3) := by decide +kernel
theorem dX10_init_164 : decode cX10_init 164 = .ok (.putfield 83, 3) := by decide +kernel
theorem dX10_init_167 : decode cX10_init 167 = .ok (.aload_n 0, 1) := by decide +kernel
theorem dX10_init_168 : decode cX10_init 168 = .ok (.new 87, 3) := by decide +kernel
theorem dX10_init_171 : decode cX10_init 171 = .ok (.dup, 1) := by decide +kernel
theorem dX10_init_172 : decode cX10_init 172 = .ok (.aload_n 0, 1) := by decide +kernel
theorem dX10_init_173 : decode cX10_init 173 = .ok (.getfield 31, 3) := by decide +kernel
theorem dX10_init_176 : decode cX10_init 176 = .ok (.aload_n 0, 1) := by decide +kernel
theorem dX10_init_177 : decode cX10_init 177 = .ok (.getfield 39, 3) := by decide +kernel
theorem dX10_init_180 : decode cX10_init 180 = .ok (.invokespecial 89, 3) := by decide +kernel
theorem dX10_init_183 : decode cX10_init 183 = .ok (.putfield 90, 3) := by decide +kernel
theorem dX10_init_186 : decode cX10_init 186 = .ok (.aload_n 0, 1) := by decide +kernel
theorem dX10_init_187 : decode cX10_init 187 = .ok (.new 94, 3) := by decide +kernel
theorem dX10_init_190 : decode cX10_init 190 = .ok (.dup, 1) := by decide +kernel
theorem dX10_init_191 : decode cX10_init 191 = .ok (.aload_n 0, 1) := by decide +kernel
theorem dX10_init_192 : decode cX10_init 192 = .ok (.getfield 31, 3) := by decide +kernel
theorem dX10_init_195 : decode cX10_init 195 = .ok (.aload_n 0, 1) := by decide +kernel
theorem dX10_init_196 : decode cX10_init 196 = .ok (.getfield 39, 3) := by decide +kernel
theorem dX10_init_199 : decode cX10_init 199 = .ok (.invokespecial 96, 3) := by decide +kernel
theorem dX10_init_202 : decode cX10_init 202 = .ok (.putfield 97, 3) := by decide +kernel
theorem dX10_init_205 : decode cX10_init 205 = .ok (.aload_n 0, 1) := by decide +kernel
theorem dX10_init_206 : decode cX10_init 206 = .ok (.new 101, 3) := by decide +kernel
theorem dX10_init_209 : decode cX10_init 209 = .ok (.dup, 1) := by decide +kernel
theorem dX10_init_210 : decode cX10_init 210 = .ok (.aload_n 0, 1) := by decide +kernel
theorem dX10_init_211 : decode cX10_init 211 = .ok (.getfield 31, 3) := by decide +kernel
theorem dX10_init_214 : decode cX10_init 214 = .ok (.aload_n 0, 1) := by decide +kernel
theorem dX10_init_215 : decode cX10_init 215 = .ok (.getfield 39, 3) := by decide +kernel
theorem dX10_init_218 : decode cX10_init 218 = .ok (.invokespecial 103, 3) := by decide +kernel
theorem dX10_init_221 : decode cX10_init 221 = .ok (.putfield 104, 3) := by decide +kernel
theorem dX10_init_224 : decode cX10_init 224 = .ok (.aload_n 0, 1) := by decide +kernel
theorem dX10_init_225 : decode cX10_init 225 = .ok (.getfield 31, 3) := by decide +kernel
theorem dX10_init_228 : decode cX10_init 228 = .ok (.bipush 9, 2) := by decide +kernel
theorem dX10_init_230 : decode cX10_init 230 = .ok (.iconst 0, 1) := by decide +kernel
theorem dX10_init_231 : decode cX10_init 231 = .ok (.invokevirtual 108, 3) := by decide +kernel
theorem dX10_init_234 : decode cX10_init 234 = .ok (.pop, 1) := by decide +kernel
theorem dX10_init_235 : decode cX10_init 235 = .ok (.aload_n 0, 1) := by decide +kernel
theorem dX10_init_236 : decode cX10_init 236 = .ok (.getfield 31, 3) := by decide +kernel
theorem dX10_init_239 : decode cX10_init 239 = .ok (.iconst 0, 1) := by decide +kernel
theorem dX10_init_240 : decode cX10_init 240 = .ok (.iconst 1, 1) := by decide +kernel
theorem dX10_init_241 : decode cX10_init 241 = .ok (.invokevirtual 108, 3) := by decide +kernel
theorem dX10_init_244 : decode cX10_init 244 = .ok (.pop, 1) := by decide +kernel
theorem dX10_init_245 : decode cX10_init 245 = .ok (.aload_n 0, 1) := by decide +kernel
theorem dX10_init_246 : decode cX10_init 246 = .ok (.getfield 31, 3) := by decide +kernel
theorem dX10_init_249 : decode cX10_init 249 = .ok (.invokevirtual 112, 3) := by decide +kernel
theorem dX10_init_252 : decode cX10_init 252 = .ok (.aload_n 0, 1) := by decide +kernel
theorem dX10_init_253 : decode cX10_init 253 = .ok (.invokevirtual 115, 3) := by decide +kernel
theorem dX10_init_256 : decode cX10_init 256 = .ok (.return_, 1) := by decide +kernel
theorem dX10_write_0 : decode cX10_write 0 = .ok (.iload_n 1, 1) := by decide +kernel
theorem dX10_write_1 : decode cX10_write 1 = .ok (.iconst 1, 1) := by decide +kernel
theorem dX10_write_2 : decode cX10_write 2 = .ok (.bipush 8, 2) := by decide +kernel
theorem dX10_write_4 : decode cX10_write 4 = .ok (.invokestatic 118, 3) := by decide +kernel
theorem dX10_write_7 : decode cX10_write 7 = .ok (.ifCond .ne 5, 3) := by decide +kernel
theorem dX10_write_10 : decode cX10_write 10 = .ok (.iconst (-1), 1) := by decide +kernel
theorem dX10_write_11 : decode cX10_write 11 = .ok (.ireturn, 1) := by decide +kernel
theorem dX10_write_12 : decode cX10_write 12 = .ok (.aload_n 0, 1) := by decide +kernel
theorem dX10_write_13 : decode cX10_write 13 = .ok (.getfield 13, 3) := by decide +kernel
theorem dX10_write_16 : decode cX10_write 16 = .ok (.iload_n 1, 1) := by decide +kernel
theorem dX10_write_17 : decode cX10_write 17 = .ok (.iadd, 1) := by decide +kernel
theorem dX10_write_18 : decode cX10_write 18 = .ok (.sipush 300, 3) := by decide +kernel
theorem dX10_write_21 : decode cX10_write 21 = .ok (.if_icmp .le 6, 3) := by decide +kernel
theorem dX10_write_24 : decode cX10_write 24 = .ok (.bipush (-3), 2) := by decide +kernel
theorem dX10_write_26 : decode cX10_write 26 = .ok (.ireturn, 1) := by decide +kernel
theorem dX10_write_27 : decode cX10_write 27 = .ok (.iload_n 1, 1) := by decide +kernel
theorem dX10_write_28 : decode cX10_write 28 = .ok (.iconst 1, 1) := by decide +kernel
theorem dX10_write_29 : decode cX10_write 29 = .ok (.isub, 1) := by decide +kernel
theorem dX10_write_30 : decode cX10_write 30 = .ok (.istore 4, 2) := by decide +kernel
theorem dX10_write_32 : decode cX10_write 32 = .ok (.iload 4, 2) := by decide +kernel
theorem dX10_write_34 : decode cX10_write 34 = .ok (.ifCond .lt 37, 3) := by decide +kernel
theorem dX10_write_37 : decode cX10_write 37 = .ok (.aload_n 0, 1) := by decide +kernel
theorem dX10_write_38 : decode cX10_write 38 = .ok (.getfield 9, 3) := by decide +kernel
theorem dX10_write_41 : decode cX10_write 41 = .ok (.aload_n 0, 1) := by decide +kernel
theorem dX10_write_42 : decode cX10_write 42 = .ok (.getfield 13, 3) := by decide +kernel
theorem dX10_write_45 : decode cX10_write 45 = .ok (.lload_n 2, 1) := by decide +kernel
theorem dX10_write_46 : decode cX10_write 46 = .ok (.bipush 8, 2) := by decide +kernel
theorem dX10_write_48 : decode cX10_write 48 = .ok (.iload 4, 2) := by decide +kernel
theorem dX10_write_50 : decode cX10_write 50 = .ok (.imul, 1) := by decide +kernel
theorem dX10_write_51 : decode cX10_write 51 = .ok (.lushr, 1) := by decide +kernel
theorem dX10_write_52 : decode cX10_write 52 = .ok (.l2i, 1) := by decide +kernel
theorem dX10_write_53 : decode cX10_write 53 = .ok (.i2b, 1) := by decide +kernel
theorem dX10_write_54 : decode cX10_write 54 = .ok (.bastore, 1) := by decide +kernel
theorem dX10_write_55 : decode cX10_write 55 = .ok (.aload_n 0, 1) := by decide +kernel
theorem dX10_write_56 : decode cX10_write 56 = .ok (.dup, 1) := by decide +kernel
theorem dX10_write_57 : decode cX10_write 57 = .ok (.getfield 13, 3) := by decide +kernel
theorem dX10_write_60 : decode cX10_write 60 = .ok (.iconst 1, 1) := by decide +kernel
theorem dX10_write_61 : decode cX10_write 61 = .ok (.iadd, 1) := by decide +kernel
theorem dX10_write_62 : decode cX10_write 62 = .ok (.putfield 13, 3) := by decide +kernel
theorem dX10_write_65 : decode cX10_write 65 = .ok (.iinc 4 (-1), 3) := by decide +kernel
theorem dX10_write_68 : decode cX10_write 68 = .ok (.goto (-36), 3) := by decide +kernel
theorem dX10_write_71 : decode cX10_write 71 = .ok (.aload_n 0, 1) := by decide +kernel
theorem dX10_write_72 : decode cX10_write 72 = .ok (.getfield 13, 3) := by decide +kernel
theorem dX10_write_75 : decode cX10_write 75 = .ok (.ireturn, 1) := by decide +kernel
theorem dX10_wipe_0 : decode cX10_wipe 0 = .ok (.aload_n 0, 1) := by decide +kernel
theorem dX10_wipe_1 : decode cX10_wipe 1 = .ok (.getfield 13, 3) := by decide +kernel
theorem dX10_wipe_4 : decode cX10_wipe 4 = .ok (.istore_n 1, 1) := by decide +kernel
theorem dX10_wipe_5 : decode cX10_wipe 5 = .ok (.aload_n 0, 1) := by decide +kernel
theorem dX10_wipe_6 : decode cX10_wipe 6 = .ok (.iconst 0, 1) := by decide +kernel
theorem dX10_wipe_7 : decode cX10_wipe 7 = .ok (.putfield 13, 3) := by decide +kernel
theorem dX10_wipe_10 : decode cX10_wipe 10 = .ok (.iload_n 1, 1) := by decide +kernel
theorem dX10_wipe_11 : decode cX10_wipe 11 = .ok (.ireturn, 1) := by decide +kernel
theorem dX10_fault_0 : decode cX10_fault 0 = .ok (.aload_n 0, 1) := by decide +kernel
theorem dX10_fault_1 : decode cX10_fault 1 = .ok (.getfield 20, 3) := by decide +kernel
theorem dX10_fault_4 : decode cX10_fault 4 = .ok (.aload_n 0, 1) := by decide +kernel
theorem dX10_fault_5 : decode cX10_fault 5 = .ok (.getfield 27, 3) := by decide +kernel
theorem dX10_fault_8 : decode cX10_fault 8 = .ok (.aload_n 0, 1) := by decide +kernel
theorem dX10_fault_9 : decode cX10_fault 9 = .ok (.getfield 9, 3) := by decide +kernel
theorem dX10_fault_12 : decode cX10_fault 12 = .ok (.aload_n 0, 1) := by decide +kernel
theorem dX10_fault_13 : decode cX10_fault 13 = .ok (.getfield 13, 3) := by decide +kernel
theorem dX10_fault_16 : decode cX10_fault 16 = .ok (.invokevirtual 122, 3) := by decide +kernel
theorem dX10_fault_19 : decode cX10_fault 19 = .ok (.ireturn, 1) := by decide +kernel
theorem dX10_lay_0 : decode cX10_lay 0 = .ok (.aload_n 0, 1) := by decide +kernel
theorem dX10_lay_1 : decode cX10_lay 1 = .ok (.getfield 20, 3) := by decide +kernel
theorem dX10_lay_4 : decode cX10_lay 4 = .ok (.aload_n 0, 1) := by decide +kernel
theorem dX10_lay_5 : decode cX10_lay 5 = .ok (.getfield 27, 3) := by decide +kernel
theorem dX10_lay_8 : decode cX10_lay 8 = .ok (.aload_n 0, 1) := by decide +kernel
theorem dX10_lay_9 : decode cX10_lay 9 = .ok (.getfield 9, 3) := by decide +kernel
theorem dX10_lay_12 : decode cX10_lay 12 = .ok (.aload_n 0, 1) := by decide +kernel
theorem dX10_lay_13 : decode cX10_lay 13 = .ok (.getfield 13, 3) := by decide +kernel
theorem dX10_lay_16 : decode cX10_lay 16 = .ok (.invokevirtual 122, 3) := by decide +kernel
theorem dX10_lay_19 : decode cX10_lay 19 = .ok (.bipush (-4), 2) := by decide +kernel
theorem dX10_lay_21 : decode cX10_lay 21 = .ok (.if_icmp .ne 13, 3) := by decide +kernel
theorem dX10_lay_24 : decode cX10_lay 24 = .ok (.aload_n 0, 1) := by decide +kernel
theorem dX10_lay_25 : decode cX10_lay 25 = .ok (.getfield 27, 3) := by decide +kernel
theorem dX10_lay_28 : decode cX10_lay 28 = .ok (.getfield 126, 3) := by decide +kernel
theorem dX10_lay_31 : decode cX10_lay 31 = .ok (.ifCond .ne 6, 3) := by decide +kernel
theorem dX10_lay_34 : decode cX10_lay 34 = .ok (.bipush (-2), 2) := by decide +kernel
theorem dX10_lay_36 : decode cX10_lay 36 = .ok (.ireturn, 1) := by decide +kernel
theorem dX10_lay_37 : decode cX10_lay 37 = .ok (.aload_n 0, 1) := by decide +kernel
theorem dX10_lay_38 : decode cX10_lay 38 = .ok (.getfield 20, 3) := by decide +kernel
theorem dX10_lay_41 : decode cX10_lay 41 = .ok (.aload_n 0, 1) := by decide +kernel
theorem dX10_lay_42 : decode cX10_lay 42 = .ok (.getfield 31, 3) := by decide +kernel
theorem dX10_lay_45 : decode cX10_lay 45 = .ok (.aload_n 0, 1) := by decide +kernel
theorem dX10_lay_46 : decode cX10_lay 46 = .ok (.getfield 9, 3) := by decide +kernel
theorem dX10_lay_49 : decode cX10_lay 49 = .ok (.aload_n 0, 1) := by decide +kernel
theorem dX10_lay_50 : decode cX10_lay 50 = .ok (.getfield 13, 3) := by decide +kernel
theorem dX10_lay_53 : decode cX10_lay 53 = .ok (.invokevirtual 122, 3) := by decide +kernel
theorem dX10_lay_56 : decode cX10_lay 56 = .ok (.pop, 1) := by decide +kernel
theorem dX10_lay_57 : decode cX10_lay 57 = .ok (.aload_n 0, 1) := by decide +kernel
theorem dX10_lay_58 : decode cX10_lay 58 = .ok (.getfield 31, 3) := by decide +kernel
theorem dX10_lay_61 : decode cX10_lay 61 = .ok (.invokevirtual 112, 3) := by decide +kernel
theorem dX10_lay_64 : decode cX10_lay 64 = .ok (.aload_n 0, 1) := by decide +kernel
theorem dX10_lay_65 : decode cX10_lay 65 = .ok (.invokevirtual 115, 3) := by decide +kernel
theorem dX10_lay_68 : decode cX10_lay 68 = .ok (.aload_n 0, 1) := by decide +kernel
theorem dX10_lay_69 : decode cX10_lay 69 = .ok (.getfield 31, 3) := by decide +kernel
theorem dX10_lay_72 : decode cX10_lay 72 = .ok (.getfield 126, 3) := by decide +kernel
theorem dX10_lay_75 : decode cX10_lay 75 = .ok (.ireturn, 1) := by decide +kernel
theorem dX10_bin_0 : decode cX10_bin 0 = .ok (.aload_n 0, 1) := by decide +kernel
theorem dX10_bin_1 : decode cX10_bin 1 = .ok (.iload_n 1, 1) := by decide +kernel
theorem dX10_bin_2 : decode cX10_bin 2 = .ok (.invokevirtual 129, 3) := by decide +kernel
theorem dX10_bin_5 : decode cX10_bin 5 = .ok (.ifCond .eq 12, 3) := by decide +kernel
theorem dX10_bin_8 : decode cX10_bin 8 = .ok (.iload_n 2, 1) := by decide +kernel
theorem dX10_bin_9 : decode cX10_bin 9 = .ok (.iconst 0, 1) := by decide +kernel
theorem dX10_bin_10 : decode cX10_bin 10 = .ok (.iconst 1, 1) := by decide +kernel
theorem dX10_bin_11 : decode cX10_bin 11 = .ok (.invokestatic 118, 3) := by decide +kernel
theorem dX10_bin_14 : decode cX10_bin 14 = .ok (.ifCond .ne 5, 3) := by decide +kernel
theorem dX10_bin_17 : decode cX10_bin 17 = .ok (.iconst (-1), 1) := by decide +kernel
theorem dX10_bin_18 : decode cX10_bin 18 = .ok (.ireturn, 1) := by decide +kernel
theorem dX10_bin_19 : decode cX10_bin 19 = .ok (.iload_n 2, 1) := by decide +kernel
theorem dX10_bin_20 : decode cX10_bin 20 = .ok (.ifCond .ne 12, 3) := by decide +kernel
theorem dX10_bin_23 : decode cX10_bin 23 = .ok (.aload_n 0, 1) := by decide +kernel
theorem dX10_bin_24 : decode cX10_bin 24 = .ok (.getfield 43, 3) := by decide +kernel
theorem dX10_bin_27 : decode cX10_bin 27 = .ok (.iload_n 1, 1) := by decide +kernel
theorem dX10_bin_28 : decode cX10_bin 28 = .ok (.iaload, 1) := by decide +kernel
theorem dX10_bin_29 : decode cX10_bin 29 = .ok (.goto 12, 3) := by decide +kernel
theorem dX10_bin_32 : decode cX10_bin 32 = .ok (.aload_n 0, 1) := by decide +kernel
theorem dX10_bin_33 : decode cX10_bin 33 = .ok (.getfield 31, 3) := by decide +kernel
theorem dX10_bin_36 : decode cX10_bin 36 = .ok (.getfield 133, 3) := by decide +kernel
theorem dX10_bin_39 : decode cX10_bin 39 = .ok (.iload_n 1, 1) := by decide +kernel
theorem dX10_bin_40 : decode cX10_bin 40 = .ok (.iaload, 1) := by decide +kernel
theorem dX10_bin_41 : decode cX10_bin 41 = .ok (.ireturn, 1) := by decide +kernel
theorem dX10_gap_0 : decode cX10_gap 0 = .ok (.iload_n 1, 1) := by decide +kernel
theorem dX10_gap_1 : decode cX10_gap 1 = .ok (.iconst 0, 1) := by decide +kernel
theorem dX10_gap_2 : decode cX10_gap 2 = .ok (.aload_n 0, 1) := by decide +kernel
theorem dX10_gap_3 : decode cX10_gap 3 = .ok (.getfield 31, 3) := by decide +kernel
theorem dX10_gap_6 : decode cX10_gap 6 = .ok (.getfield 136, 3) := by decide +kernel
theorem dX10_gap_9 : decode cX10_gap 9 = .ok (.iconst 1, 1) := by decide +kernel
theorem dX10_gap_10 : decode cX10_gap 10 = .ok (.isub, 1) := by decide +kernel
theorem dX10_gap_11 : decode cX10_gap 11 = .ok (.invokestatic 118, 3) := by decide +kernel
theorem dX10_gap_14 : decode cX10_gap 14 = .ok (.ifCond .eq 12, 3) := by decide +kernel
theorem dX10_gap_17 : decode cX10_gap 17 = .ok (.iload_n 2, 1) := by decide +kernel
theorem dX10_gap_18 : decode cX10_gap 18 = .ok (.iconst 0, 1) := by decide +kernel
theorem dX10_gap_19 : decode cX10_gap 19 = .ok (.iconst 2, 1) := by decide +kernel
theorem dX10_gap_20 : decode cX10_gap 20 = .ok (.invokestatic 118, 3) := by decide +kernel
theorem dX10_gap_23 : decode cX10_gap 23 = .ok (.ifCond .ne 5, 3) := by decide +kernel
theorem dX10_gap_26 : decode cX10_gap 26 = .ok (.iconst (-1), 1) := by decide +kernel
theorem dX10_gap_27 : decode cX10_gap 27 = .ok (.ireturn, 1) := by decide +kernel
theorem dX10_gap_28 : decode cX10_gap 28 = .ok (.iload_n 2, 1) := by decide +kernel
theorem dX10_gap_29 : decode cX10_gap 29 = .ok (.ifCond .ne 13, 3) := by decide +kernel
theorem dX10_gap_32 : decode cX10_gap 32 = .ok (.aload_n 0, 1) := by decide +kernel
theorem dX10_gap_33 : decode cX10_gap 33 = .ok (.getfield 31, 3) := by decide +kernel
theorem dX10_gap_36 : decode cX10_gap 36 = .ok (.getfield 139, 3) := by decide +kernel
theorem dX10_gap_39 : decode cX10_gap 39 = .ok (.iload_n 1, 1) := by decide +kernel
theorem dX10_gap_40 : decode cX10_gap 40 = .ok (.iaload, 1) := by decide +kernel
theorem dX10_gap_41 : decode cX10_gap 41 = .ok (.ireturn, 1) := by decide +kernel
theorem dX10_gap_42 : decode cX10_gap 42 = .ok (.iload_n 2, 1) := by decide +kernel
theorem dX10_gap_43 : decode cX10_gap 43 = .ok (.iconst 1, 1) := by decide +kernel
theorem dX10_gap_44 : decode cX10_gap 44 = .ok (.if_icmp .ne 13, 3) := by decide +kernel
theorem dX10_gap_47 : decode cX10_gap 47 = .ok (.aload_n 0, 1) := by decide +kernel
theorem dX10_gap_48 : decode cX10_gap 48 = .ok (.getfield 31, 3) := by decide +kernel
theorem dX10_gap_51 : decode cX10_gap 51 = .ok (.getfield 142, 3) := by decide +kernel
theorem dX10_gap_54 : decode cX10_gap 54 = .ok (.iload_n 1, 1) := by decide +kernel
theorem dX10_gap_55 : decode cX10_gap 55 = .ok (.iaload, 1) := by decide +kernel
theorem dX10_gap_56 : decode cX10_gap 56 = .ok (.ireturn, 1) := by decide +kernel
theorem dX10_gap_57 : decode cX10_gap 57 = .ok (.aload_n 0, 1) := by decide +kernel
theorem dX10_gap_58 : decode cX10_gap 58 = .ok (.getfield 31, 3) := by decide +kernel
theorem dX10_gap_61 : decode cX10_gap 61 = .ok (.getfield 145, 3) := by decide +kernel
theorem dX10_gap_64 : decode cX10_gap 64 = .ok (.iload_n 1, 1) := by decide +kernel
theorem dX10_gap_65 : decode cX10_gap 65 = .ok (.baload, 1) := by decide +kernel
theorem dX10_gap_66 : decode cX10_gap 66 = .ok (.ifCond .eq 7, 3) := by decide +kernel
theorem dX10_gap_69 : decode cX10_gap 69 = .ok (.iconst 1, 1) := by decide +kernel
theorem dX10_gap_70 : decode cX10_gap 70 = .ok (.goto 4, 3) := by decide +kernel
theorem dX10_gap_73 : decode cX10_gap 73 = .ok (.iconst 0, 1) := by decide +kernel
theorem dX10_gap_74 : decode cX10_gap 74 = .ok (.ireturn, 1) := by decide +kernel
theorem dX10_night_0 : decode cX10_night 0 = .ok (.aload_n 0, 1) := by decide +kernel
theorem dX10_night_1 : decode cX10_night 1 = .ok (.getfield 39, 3) := by decide +kernel
theorem dX10_night_4 : decode cX10_night 4 = .ok (.aload_n 0, 1) := by decide +kernel
theorem dX10_night_5 : decode cX10_night 5 = .ok (.getfield 31, 3) := by decide +kernel
theorem dX10_night_8 : decode cX10_night 8 = .ok (.getfield 149, 3) := by decide +kernel
theorem dX10_night_11 : decode cX10_night 11 = .ok (.aload_n 0, 1) := by decide +kernel
theorem dX10_night_12 : decode cX10_night 12 = .ok (.getfield 43, 3) := by decide +kernel
theorem dX10_night_15 : decode cX10_night 15 = .ok (.aload_n 0, 1) := by decide +kernel
theorem dX10_night_16 : decode cX10_night 16 = .ok (.getfield 47, 3) := by decide +kernel
theorem dX10_night_19 : decode cX10_night 19 = .ok (.iconst 1, 1) := by decide +kernel
theorem dX10_night_20 : decode cX10_night 20 = .ok (.ldc 152, 2) := by decide +kernel
theorem dX10_night_22 : decode cX10_night 22 = .ok (.invokevirtual 153, 3) := by decide +kernel
theorem dX10_night_25 : decode cX10_night 25 = .ok (.istore_n 1, 1) := by decide +kernel
theorem dX10_night_26 : decode cX10_night 26 = .ok (.aload_n 0, 1) := by decide +kernel
theorem dX10_night_27 : decode cX10_night 27 = .ok (.dup, 1) := by decide +kernel
theorem dX10_night_28 : decode cX10_night 28 = .ok (.getfield 47, 3) := by decide +kernel
theorem dX10_night_31 : decode cX10_night 31 = .ok (.iconst 1, 1) := by decide +kernel
theorem dX10_night_32 : decode cX10_night 32 = .ok (.iadd, 1) := by decide +kernel
theorem dX10_night_33 : decode cX10_night 33 = .ok (.putfield 47, 3) := by decide +kernel
theorem dX10_night_36 : decode cX10_night 36 = .ok (.iload_n 1, 1) := by decide +kernel
theorem dX10_night_37 : decode cX10_night 37 = .ok (.ireturn, 1) := by decide +kernel
theorem dX10_pour_0 : decode cX10_pour 0 = .ok (.aload_n 0, 1) := by decide +kernel
theorem dX10_pour_1 : decode cX10_pour 1 = .ok (.iload_n 1, 1) := by decide +kernel
theorem dX10_pour_2 : decode cX10_pour 2 = .ok (.invokevirtual 129, 3) := by decide +kernel
theorem dX10_pour_5 : decode cX10_pour 5 = .ok (.ifCond .eq 26, 3) := by decide +kernel
theorem dX10_pour_8 : decode cX10_pour 8 = .ok (.aload_n 0, 1) := by decide +kernel
theorem dX10_pour_9 : decode cX10_pour 9 = .ok (.iload_n 2, 1) := by decide +kernel
theorem dX10_pour_10 : decode cX10_pour 10 = .ok (.invokevirtual 129, 3) := by decide +kernel
theorem dX10_pour_13 : decode cX10_pour 13 = .ok (.ifCond .eq 18, 3) := by decide +kernel
theorem dX10_pour_16 : decode cX10_pour 16 = .ok (.iload_n 1, 1) := by decide +kernel
theorem dX10_pour_17 : decode cX10_pour 17 = .ok (.iload_n 2, 1) := by decide +kernel
theorem dX10_pour_18 : decode cX10_pour 18 = .ok (.if_icmp .eq 13, 3) := by decide +kernel
theorem dX10_pour_21 : decode cX10_pour 21 = .ok (.iload_n 3, 1) := by decide +kernel
theorem dX10_pour_22 : decode cX10_pour 22 = .ok (.iconst 1, 1) := by decide +kernel
theorem dX10_pour_23 : decode cX10_pour 23 = .ok (.bipush 99, 2) := by decide +kernel
theorem dX10_pour_25 : decode cX10_pour 25 = .ok (.invokestatic 118, 3) := by decide +kernel
theorem dX10_pour_28 : decode cX10_pour 28 = .ok (.ifCond .ne 5, 3) := by decide +kernel
theorem dX10_pour_31 : decode cX10_pour 31 = .ok (.iconst (-1), 1) := by decide +kernel
theorem dX10_pour_32 : decode cX10_pour 32 = .ok (.ireturn, 1) := by decide +kernel
theorem dX10_pour_33 : decode cX10_pour 33 = .ok (.aload_n 0, 1) := by decide +kernel
theorem dX10_pour_34 : decode cX10_pour 34 = .ok (.getfield 43, 3) := by decide +kernel
theorem dX10_pour_37 : decode cX10_pour 37 = .ok (.iload_n 1, 1) := by decide +kernel
theorem dX10_pour_38 : decode cX10_pour 38 = .ok (.iload_n 2, 1) := by decide +kernel
theorem dX10_pour_39 : decode cX10_pour 39 = .ok (.iload_n 3, 1) := by decide +kernel
theorem dX10_pour_40 : decode cX10_pour 40 = .ok (.invokestatic 157, 3) := by decide +kernel
theorem dX10_pour_43 : decode cX10_pour 43 = .ok (.ifCond .ne 6, 3) := by decide +kernel
theorem dX10_pour_46 : decode cX10_pour 46 = .ok (.bipush (-2), 2) := by decide +kernel
theorem dX10_pour_48 : decode cX10_pour 48 = .ok (.ireturn, 1) := by decide +kernel
theorem dX10_pour_49 : decode cX10_pour 49 = .ok (.aload_n 0, 1) := by decide +kernel
theorem dX10_pour_50 : decode cX10_pour 50 = .ok (.getfield 43, 3) := by decide +kernel
theorem dX10_pour_53 : decode cX10_pour 53 = .ok (.iload_n 1, 1) := by decide +kernel
theorem dX10_pour_54 : decode cX10_pour 54 = .ok (.dup2, 1) := by decide +kernel
theorem dX10_pour_55 : decode cX10_pour 55 = .ok (.iaload, 1) := by decide +kernel
theorem dX10_pour_56 : decode cX10_pour 56 = .ok (.iload_n 3, 1) := by decide +kernel
theorem dX10_pour_57 : decode cX10_pour 57 = .ok (.isub, 1) := by decide +kernel
theorem dX10_pour_58 : decode cX10_pour 58 = .ok (.iastore, 1) := by decide +kernel
theorem dX10_pour_59 : decode cX10_pour 59 = .ok (.aload_n 0, 1) := by decide +kernel
theorem dX10_pour_60 : decode cX10_pour 60 = .ok (.getfield 43, 3) := by decide +kernel
theorem dX10_pour_63 : decode cX10_pour 63 = .ok (.iload_n 2, 1) := by decide +kernel
theorem dX10_pour_64 : decode cX10_pour 64 = .ok (.dup2, 1) := by decide +kernel
theorem dX10_pour_65 : decode cX10_pour 65 = .ok (.iaload, 1) := by decide +kernel
theorem dX10_pour_66 : decode cX10_pour 66 = .ok (.iload_n 3, 1) := by decide +kernel
theorem dX10_pour_67 : decode cX10_pour 67 = .ok (.iadd, 1) := by decide +kernel
theorem dX10_pour_68 : decode cX10_pour 68 = .ok (.iastore, 1) := by decide +kernel
theorem dX10_pour_69 : decode cX10_pour 69 = .ok (.aload_n 0, 1) := by decide +kernel
theorem dX10_pour_70 : decode cX10_pour 70 = .ok (.getfield 43, 3) := by decide +kernel
theorem dX10_pour_73 : decode cX10_pour 73 = .ok (.iload_n 2, 1) := by decide +kernel
theorem dX10_pour_74 : decode cX10_pour 74 = .ok (.iaload, 1) := by decide +kernel
theorem dX10_pour_75 : decode cX10_pour 75 = .ok (.ireturn, 1) := by decide +kernel
theorem dX10_left_0 : decode cX10_left 0 = .ok (.aload_n 0, 1) := by decide +kernel
theorem dX10_left_1 : decode cX10_left 1 = .ok (.iload_n 1, 1) := by decide +kernel
theorem dX10_left_2 : decode cX10_left 2 = .ok (.invokevirtual 129, 3) := by decide +kernel
theorem dX10_left_5 : decode cX10_left 5 = .ok (.ifCond .eq 13, 3) := by decide +kernel
theorem dX10_left_8 : decode cX10_left 8 = .ok (.iload_n 2, 1) := by decide +kernel
theorem dX10_left_9 : decode cX10_left 9 = .ok (.iconst 0, 1) := by decide +kernel
theorem dX10_left_10 : decode cX10_left 10 = .ok (.bipush 60, 2) := by decide +kernel
theorem dX10_left_12 : decode cX10_left 12 = .ok (.invokestatic 118, 3) := by decide +kernel
theorem dX10_left_15 : decode cX10_left 15 = .ok (.ifCond .ne 5, 3) := by decide +kernel
theorem dX10_left_18 : decode cX10_left 18 = .ok (.iconst (-1), 1) := by decide +kernel
theorem dX10_left_19 : decode cX10_left 19 = .ok (.ireturn, 1) := by decide +kernel
theorem dX10_left_20 : decode cX10_left 20 = .ok (.aload_n 0, 1) := by decide +kernel
theorem dX10_left_21 : decode cX10_left 21 = .ok (.getfield 43, 3) := by decide +kernel
theorem dX10_left_24 : decode cX10_left 24 = .ok (.aload_n 0, 1) := by decide +kernel
theorem dX10_left_25 : decode cX10_left 25 = .ok (.getfield 50, 3) := by decide +kernel
theorem dX10_left_28 : decode cX10_left 28 = .ok (.invokestatic 161, 3) := by decide +kernel
theorem dX10_left_31 : decode cX10_left 31 = .ok (.aload_n 0, 1) := by decide +kernel
theorem dX10_left_32 : decode cX10_left 32 = .ok (.getfield 39, 3) := by decide +kernel
theorem dX10_left_35 : decode cX10_left 35 = .ok (.aload_n 0, 1) := by decide +kernel
theorem dX10_left_36 : decode cX10_left 36 = .ok (.getfield 31, 3) := by decide +kernel
theorem dX10_left_39 : decode cX10_left 39 = .ok (.getfield 149, 3) := by decide +kernel
theorem dX10_left_42 : decode cX10_left 42 = .ok (.aload_n 0, 1) := by decide +kernel
theorem dX10_left_43 : decode cX10_left 43 = .ok (.getfield 50, 3) := by decide +kernel
theorem dX10_left_46 : decode cX10_left 46 = .ok (.aload_n 0, 1) := by decide +kernel
theorem dX10_left_47 : decode cX10_left 47 = .ok (.getfield 47, 3) := by decide +kernel
theorem dX10_left_50 : decode cX10_left 50 = .ok (.iload_n 2, 1) := by decide +kernel
theorem dX10_left_51 : decode cX10_left 51 = .ok (.ldc 152, 2) := by decide +kernel
theorem dX10_left_53 : decode cX10_left 53 = .ok (.invokevirtual 153, 3) := by decide +kernel
theorem dX10_left_56 : decode cX10_left 56 = .ok (.pop, 1) := by decide +kernel
theorem dX10_left_57 : decode cX10_left 57 = .ok (.aload_n 0, 1) := by decide +kernel
theorem dX10_left_58 : decode cX10_left 58 = .ok (.getfield 50, 3) := by decide +kernel
theorem dX10_left_61 : decode cX10_left 61 = .ok (.iload_n 1, 1) := by decide +kernel
theorem dX10_left_62 : decode cX10_left 62 = .ok (.iaload, 1) := by decide +kernel
theorem dX10_left_63 : decode cX10_left 63 = .ok (.ireturn, 1) := by decide +kernel
theorem dX10_lost_0 : decode cX10_lost 0 = .ok (.iload_n 1, 1) := by decide +kernel
theorem dX10_lost_1 : decode cX10_lost 1 = .ok (.iconst 0, 1) := by decide +kernel
theorem dX10_lost_2 : decode cX10_lost 2 = .ok (.bipush 60, 2) := by decide +kernel
theorem dX10_lost_4 : decode cX10_lost 4 = .ok (.invokestatic 118, 3) := by decide +kernel
theorem dX10_lost_7 : decode cX10_lost 7 = .ok (.ifCond .eq 12, 3) := by decide +kernel
theorem dX10_lost_10 : decode cX10_lost 10 = .ok (.iload_n 2, 1) := by decide +kernel
theorem dX10_lost_11 : decode cX10_lost 11 = .ok (.iconst (-1), 1) := by decide +kernel
theorem dX10_lost_12 : decode cX10_lost 12 = .ok (.iconst 1, 1) := by decide +kernel
theorem dX10_lost_13 : decode cX10_lost 13 = .ok (.invokestatic 118, 3) := by decide +kernel
theorem dX10_lost_16 : decode cX10_lost 16 = .ok (.ifCond .ne 5, 3) := by decide +kernel
theorem dX10_lost_19 : decode cX10_lost 19 = .ok (.iconst (-1), 1) := by decide +kernel
theorem dX10_lost_20 : decode cX10_lost 20 = .ok (.ireturn, 1) := by decide +kernel
theorem dX10_lost_21 : decode cX10_lost 21 = .ok (.aload_n 0, 1) := by decide +kernel
theorem dX10_lost_22 : decode cX10_lost 22 = .ok (.getfield 43, 3) := by decide +kernel
theorem dX10_lost_25 : decode cX10_lost 25 = .ok (.aload_n 0, 1) := by decide +kernel
theorem dX10_lost_26 : decode cX10_lost 26 = .ok (.getfield 50, 3) := by decide +kernel
theorem dX10_lost_29 : decode cX10_lost 29 = .ok (.invokestatic 161, 3) := by decide +kernel
theorem dX10_lost_32 : decode cX10_lost 32 = .ok (.aload_n 0, 1) := by decide +kernel
theorem dX10_lost_33 : decode cX10_lost 33 = .ok (.getfield 39, 3) := by decide +kernel
theorem dX10_lost_36 : decode cX10_lost 36 = .ok (.aload_n 0, 1) := by decide +kernel
theorem dX10_lost_37 : decode cX10_lost 37 = .ok (.getfield 31, 3) := by decide +kernel
theorem dX10_lost_40 : decode cX10_lost 40 = .ok (.getfield 149, 3) := by decide +kernel
theorem dX10_lost_43 : decode cX10_lost 43 = .ok (.aload_n 0, 1) := by decide +kernel
theorem dX10_lost_44 : decode cX10_lost 44 = .ok (.getfield 50, 3) := by decide +kernel
theorem dX10_lost_47 : decode cX10_lost 47 = .ok (.aload_n 0, 1) := by decide +kernel
theorem dX10_lost_48 : decode cX10_lost 48 = .ok (.getfield 47, 3) := by decide +kernel
theorem dX10_lost_51 : decode cX10_lost 51 = .ok (.iload_n 1, 1) := by decide +kernel
theorem dX10_lost_52 : decode cX10_lost 52 = .ok (.ldc 152, 2) := by decide +kernel
theorem dX10_lost_54 : decode cX10_lost 54 = .ok (.invokevirtual 153, 3) := by decide +kernel
theorem dX10_lost_57 : decode cX10_lost 57 = .ok (.pop, 1) := by decide +kernel
theorem dX10_lost_58 : decode cX10_lost 58 = .ok (.aload_n 0, 1) := by decide +kernel
theorem dX10_lost_59 : decode cX10_lost 59 = .ok (.getfield 39, 3) := by decide +kernel
theorem dX10_lost_62 : decode cX10_lost 62 = .ok (.iload_n 2, 1) := by decide +kernel
theorem dX10_lost_63 : decode cX10_lost 63 = .ok (.invokevirtual 165, 3) := by decide +kernel
theorem dX10_lost_66 : decode cX10_lost 66 = .ok (.ireturn, 1) := by decide +kernel
theorem dX10_order_0 : decode cX10_order 0 = .ok (.iload_n 1, 1) := by decide +kernel
theorem dX10_order_1 : decode cX10_order 1 = .ok (.iconst 1, 1) := by decide +kernel
theorem dX10_order_2 : decode cX10_order 2 = .ok (.bipush 20, 2) := by decide +kernel
theorem dX10_order_4 : decode cX10_order 4 = .ok (.invokestatic 118, 3) := by decide +kernel
theorem dX10_order_7 : decode cX10_order 7 = .ok (.ifCond .eq 20, 3) := by decide +kernel
theorem dX10_order_10 : decode cX10_order 10 = .ok (.iload_n 2, 1) := by decide +kernel
theorem dX10_order_11 : decode cX10_order 11 = .ok (.iconst (-1), 1) := by decide +kernel
theorem dX10_order_12 : decode cX10_order 12 = .ok (.aload_n 0, 1) := by decide +kernel
theorem dX10_order_13 : decode cX10_order 13 = .ok (.getfield 31, 3) := by decide +kernel
theorem dX10_order_16 : decode cX10_order 16 = .ok (.getfield 126, 3) := by decide +kernel
theorem dX10_order_19 : decode cX10_order 19 = .ok (.iconst 1, 1) := by decide +kernel
theorem dX10_order_20 : decode cX10_order 20 = .ok (.isub, 1) := by decide +kernel
theorem dX10_order_21 : decode cX10_order 21 = .ok (.invokestatic 118, 3) := by decide +kernel
theorem dX10_order_24 : decode cX10_order 24 = .ok (.ifCond .ne 5, 3) := by decide +kernel
theorem dX10_order_27 : decode cX10_order 27 = .ok (.iconst (-1), 1) := by decide +kernel
theorem dX10_order_28 : decode cX10_order 28 = .ok (.ireturn, 1) := by decide +kernel
theorem dX10_order_29 : decode cX10_order 29 = .ok (.aload_n 0, 1) := by decide +kernel
theorem dX10_order_30 : decode cX10_order 30 = .ok (.getfield 69, 3) := by decide +kernel
theorem dX10_order_33 : decode cX10_order 33 = .ok (.aload_n 0, 1) := by decide +kernel
theorem dX10_order_34 : decode cX10_order 34 = .ok (.getfield 43, 3) := by decide +kernel
theorem dX10_order_37 : decode cX10_order 37 = .ok (.aload_n 0, 1) := by decide +kernel
theorem dX10_order_38 : decode cX10_order 38 = .ok (.getfield 47, 3) := by decide +kernel
theorem dX10_order_41 : decode cX10_order 41 = .ok (.iload_n 1, 1) := by decide +kernel
theorem dX10_order_42 : decode cX10_order 42 = .ok (.invokevirtual 169, 3) := by decide +kernel
theorem dX10_order_45 : decode cX10_order 45 = .ok (.iload_n 2, 1) := by decide +kernel
theorem dX10_order_46 : decode cX10_order 46 = .ok (.iconst (-1), 1) := by decide +kernel
theorem dX10_order_47 : decode cX10_order 47 = .ok (.if_icmp .ne 13, 3) := by decide +kernel
theorem dX10_order_50 : decode cX10_order 50 = .ok (.aload_n 0, 1) := by decide +kernel
theorem dX10_order_51 : decode cX10_order 51 = .ok (.getfield 69, 3) := by decide +kernel
theorem dX10_order_54 : decode cX10_order 54 = .ok (.getfield 173, 3) := by decide +kernel
theorem dX10_order_57 : decode cX10_order 57 = .ok (.goto 12, 3) := by decide +kernel
theorem dX10_order_60 : decode cX10_order 60 = .ok (.aload_n 0, 1) := by decide +kernel
theorem dX10_order_61 : decode cX10_order 61 = .ok (.getfield 69, 3) := by decide +kernel
theorem dX10_order_64 : decode cX10_order 64 = .ok (.getfield 176, 3) := by decide +kernel
theorem dX10_order_67 : decode cX10_order 67 = .ok (.iload_n 2, 1) := by decide +kernel
theorem dX10_order_68 : decode cX10_order 68 = .ok (.iaload, 1) := by decide +kernel
theorem dX10_order_69 : decode cX10_order 69 = .ok (.ireturn, 1) := by decide +kernel
theorem dX10_exchanged_0 : decode cX10_exchanged 0 = .ok (.iload_n 1, 1) := by decide +kernel
theorem dX10_exchanged_1 : decode cX10_exchanged 1 = .ok (.iconst 0, 1) := by decide +kernel
theorem dX10_exchanged_2 : decode cX10_exchanged 2 = .ok (.iconst 1, 1) := by decide +kernel
theorem dX10_exchanged_3 : decode cX10_exchanged 3 = .ok (.invokestatic 118, 3) := by decide +kernel
theorem dX10_exchanged_6 : decode cX10_exchanged 6 = .ok (.ifCond .ne 5, 3) := by decide +kernel
theorem dX10_exchanged_9 : decode cX10_exchanged 9 = .ok (.iconst (-1), 1) := by decide +kernel
theorem dX10_exchanged_10 : decode cX10_exchanged 10 = .ok (.ireturn, 1) := by decide +kernel
theorem dX10_exchanged_11 : decode cX10_exchanged 11 = .ok (.aload_n 0, 1) := by decide +kernel
theorem dX10_exchanged_12 : decode cX10_exchanged 12 = .ok (.getfield 76, 3) := by decide +kernel
theorem dX10_exchanged_15 : decode cX10_exchanged 15 = .ok (.aload_n 0, 1) := by decide +kernel
theorem dX10_exchanged_16 : decode cX10_exchanged 16 = .ok (.getfield 43, 3) := by decide +kernel
theorem dX10_exchanged_19 : decode cX10_exchanged 19 = .ok (.aload_n 0, 1) := by decide +kernel
theorem dX10_exchanged_20 : decode cX10_exchanged 20 = .ok (.getfield 47, 3) := by decide +kernel
theorem dX10_exchanged_23 : decode cX10_exchanged 23 = .ok (.invokevirtual 179, 3) := by decide +kernel
theorem dX10_exchanged_26 : decode cX10_exchanged 26 = .ok (.ifCond .ne 6, 3) := by decide +kernel
theorem dX10_exchanged_29 : decode cX10_exchanged 29 = .ok (.bipush (-4), 2) := by decide +kernel
theorem dX10_exchanged_31 : decode cX10_exchanged 31 = .ok (.ireturn, 1) := by decide +kernel
theorem dX10_exchanged_32 : decode cX10_exchanged 32 = .ok (.iload_n 1, 1) := by decide +kernel
theorem dX10_exchanged_33 : decode cX10_exchanged 33 = .ok (.ifCond .ne 13, 3) := by decide +kernel
theorem dX10_exchanged_36 : decode cX10_exchanged 36 = .ok (.aload_n 0, 1) := by decide +kernel
theorem dX10_exchanged_37 : decode cX10_exchanged 37 = .ok (.getfield 76, 3) := by decide +kernel
theorem dX10_exchanged_40 : decode cX10_exchanged 40 = .ok (.getfield 183, 3) := by decide +kernel
theorem dX10_exchanged_43 : decode cX10_exchanged 43 = .ok (.goto 10, 3) := by decide +kernel
theorem dX10_exchanged_46 : decode cX10_exchanged 46 = .ok (.aload_n 0, 1) := by decide +kernel
theorem dX10_exchanged_47 : decode cX10_exchanged 47 = .ok (.getfield 76, 3) := by decide +kernel
theorem dX10_exchanged_50 : decode cX10_exchanged 50 = .ok (.getfield 186, 3) := by decide +kernel
theorem dX10_exchanged_53 : decode cX10_exchanged 53 = .ok (.ireturn, 1) := by decide +kernel
theorem dX10_pours_0 : decode cX10_pours 0 = .ok (.iload_n 1, 1) := by decide +kernel
theorem dX10_pours_1 : decode cX10_pours 1 = .ok (.iconst 1, 1) := by decide +kernel
theorem dX10_pours_2 : decode cX10_pours 2 = .ok (.iconst 2, 1) := by decide +kernel
theorem dX10_pours_3 : decode cX10_pours 3 = .ok (.invokestatic 118, 3) := by decide +kernel
theorem dX10_pours_6 : decode cX10_pours 6 = .ok (.ifCond .eq 21, 3) := by decide +kernel
theorem dX10_pours_9 : decode cX10_pours 9 = .ok (.iload_n 2, 1) := by decide +kernel
theorem dX10_pours_10 : decode cX10_pours 10 = .ok (.iconst 1, 1) := by decide +kernel
theorem dX10_pours_11 : decode cX10_pours 11 = .ok (.iconst 5, 1) := by decide +kernel
theorem dX10_pours_12 : decode cX10_pours 12 = .ok (.invokestatic 118, 3) := by decide +kernel
theorem dX10_pours_15 : decode cX10_pours 15 = .ok (.ifCond .eq 12, 3) := by decide +kernel
theorem dX10_pours_18 : decode cX10_pours 18 = .ok (.iload_n 3, 1) := by decide +kernel
theorem dX10_pours_19 : decode cX10_pours 19 = .ok (.iconst 0, 1) := by decide +kernel
theorem dX10_pours_20 : decode cX10_pours 20 = .ok (.iconst 3, 1) := by decide +kernel
theorem dX10_pours_21 : decode cX10_pours 21 = .ok (.invokestatic 118, 3) := by decide +kernel
theorem dX10_pours_24 : decode cX10_pours 24 = .ok (.ifCond .ne 5, 3) := by decide +kernel
theorem dX10_pours_27 : decode cX10_pours 27 = .ok (.iconst (-1), 1) := by decide +kernel
theorem dX10_pours_28 : decode cX10_pours 28 = .ok (.ireturn, 1) := by decide +kernel
theorem dX10_pours_29 : decode cX10_pours 29 = .ok (.aload_n 0, 1) := by decide +kernel
theorem dX10_pours_30 : decode cX10_pours 30 = .ok (.getfield 83, 3) := by decide +kernel
theorem dX10_pours_33 : decode cX10_pours 33 = .ok (.aload_n 0, 1) := by decide +kernel
theorem dX10_pours_34 : decode cX10_pours 34 = .ok (.getfield 43, 3) := by decide +kernel
theorem dX10_pours_37 : decode cX10_pours 37 = .ok (.aload_n 0, 1) := by decide +kernel
theorem dX10_pours_38 : decode cX10_pours 38 = .ok (.getfield 47, 3) := by decide +kernel
theorem dX10_pours_41 : decode cX10_pours 41 = .ok (.iload_n 1, 1) := by decide +kernel
theorem dX10_pours_42 : decode cX10_pours 42 = .ok (.iload_n 2, 1) := by decide +kernel
theorem dX10_pours_43 : decode cX10_pours 43 = .ok (.invokevirtual 189, 3) := by decide +kernel
theorem dX10_pours_46 : decode cX10_pours 46 = .ok (.iload_n 3, 1) := by decide +kernel
theorem dX10_pours_47 : decode cX10_pours 47 = .ok (.ifCond .ne 11, 3) := by decide +kernel
theorem dX10_pours_50 : decode cX10_pours 50 = .ok (.aload_n 0, 1) := by decide +kernel
theorem dX10_pours_51 : decode cX10_pours 51 = .ok (.getfield 83, 3) := by decide +kernel
theorem dX10_pours_54 : decode cX10_pours 54 = .ok (.getfield 192, 3) := by decide +kernel
theorem dX10_pours_57 : decode cX10_pours 57 = .ok (.ireturn, 1) := by decide +kernel
theorem dX10_pours_58 : decode cX10_pours 58 = .ok (.aload_n 0, 1) := by decide +kernel
theorem dX10_pours_59 : decode cX10_pours 59 = .ok (.getfield 83, 3) := by decide +kernel
theorem dX10_pours_62 : decode cX10_pours 62 = .ok (.getfield 193, 3) := by decide +kernel
theorem dX10_pours_65 : decode cX10_pours 65 = .ok (.ifCond .ne 6, 3) := by decide +kernel
theorem dX10_pours_68 : decode cX10_pours 68 = .ok (.bipush (-4), 2) := by decide +kernel
theorem dX10_pours_70 : decode cX10_pours 70 = .ok (.ireturn, 1) := by decide +kernel
theorem dX10_pours_71 : decode cX10_pours 71 = .ok (.iload_n 3, 1) := by decide +kernel
theorem dX10_pours_72 : decode cX10_pours 72 = .ok (.iconst 1, 1) := by decide +kernel
theorem dX10_pours_73 : decode cX10_pours 73 = .ok (.if_icmp .ne 11, 3) := by decide +kernel
theorem dX10_pours_76 : decode cX10_pours 76 = .ok (.aload_n 0, 1) := by decide +kernel
theorem dX10_pours_77 : decode cX10_pours 77 = .ok (.getfield 83, 3) := by decide +kernel
theorem dX10_pours_80 : decode cX10_pours 80 = .ok (.getfield 196, 3) := by decide +kernel
theorem dX10_pours_83 : decode cX10_pours 83 = .ok (.ireturn, 1) := by decide +kernel
theorem dX10_pours_84 : decode cX10_pours 84 = .ok (.iload_n 3, 1) := by decide +kernel
theorem dX10_pours_85 : decode cX10_pours 85 = .ok (.iconst 2, 1) := by decide +kernel
theorem dX10_pours_86 : decode cX10_pours 86 = .ok (.if_icmp .ne 13, 3) := by decide +kernel
theorem dX10_pours_89 : decode cX10_pours 89 = .ok (.aload_n 0, 1) := by decide +kernel
theorem dX10_pours_90 : decode cX10_pours 90 = .ok (.getfield 83, 3) := by decide +kernel
theorem dX10_pours_93 : decode cX10_pours 93 = .ok (.getfield 199, 3) := by decide +kernel
theorem dX10_pours_96 : decode cX10_pours 96 = .ok (.goto 10, 3) := by decide +kernel
theorem dX10_pours_99 : decode cX10_pours 99 = .ok (.aload_n 0, 1) := by decide +kernel
theorem dX10_pours_100 : decode cX10_pours 100 = .ok (.getfield 83, 3) := by decide +kernel
theorem dX10_pours_103 : decode cX10_pours 103 = .ok (.getfield 193, 3) := by decide +kernel
theorem dX10_pours_106 : decode cX10_pours 106 = .ok (.ireturn, 1) := by decide +kernel
theorem dX10_corn_0 : decode cX10_corn 0 = .ok (.iload_n 1, 1) := by decide +kernel
theorem dX10_corn_1 : decode cX10_corn 1 = .ok (.iconst 1, 1) := by decide +kernel
theorem dX10_corn_2 : decode cX10_corn 2 = .ok (.bipush 31, 2) := by decide +kernel
theorem dX10_corn_4 : decode cX10_corn 4 = .ok (.invokestatic 118, 3) := by decide +kernel
theorem dX10_corn_7 : decode cX10_corn 7 = .ok (.ifCond .eq 20, 3) := by decide +kernel
theorem dX10_corn_10 : decode cX10_corn 10 = .ok (.iload_n 2, 1) := by decide +kernel
theorem dX10_corn_11 : decode cX10_corn 11 = .ok (.iconst (-1), 1) := by decide +kernel
theorem dX10_corn_12 : decode cX10_corn 12 = .ok (.aload_n 0, 1) := by decide +kernel
theorem dX10_corn_13 : decode cX10_corn 13 = .ok (.getfield 31, 3) := by decide +kernel
theorem dX10_corn_16 : decode cX10_corn 16 = .ok (.getfield 202, 3) := by decide +kernel
theorem dX10_corn_19 : decode cX10_corn 19 = .ok (.iconst 1, 1) := by decide +kernel
theorem dX10_corn_20 : decode cX10_corn 20 = .ok (.isub, 1) := by decide +kernel
theorem dX10_corn_21 : decode cX10_corn 21 = .ok (.invokestatic 118, 3) := by decide +kernel
theorem dX10_corn_24 : decode cX10_corn 24 = .ok (.ifCond .ne 5, 3) := by decide +kernel
theorem dX10_corn_27 : decode cX10_corn 27 = .ok (.iconst (-1), 1) := by decide +kernel
theorem dX10_corn_28 : decode cX10_corn 28 = .ok (.ireturn, 1) := by decide +kernel
theorem dX10_corn_29 : decode cX10_corn 29 = .ok (.aload_n 0, 1) := by decide +kernel
theorem dX10_corn_30 : decode cX10_corn 30 = .ok (.getfield 31, 3) := by decide +kernel
theorem dX10_corn_33 : decode cX10_corn 33 = .ok (.getfield 202, 3) := by decide +kernel
theorem dX10_corn_36 : decode cX10_corn 36 = .ok (.ifCond .eq 18, 3) := by decide +kernel
theorem dX10_corn_39 : decode cX10_corn 39 = .ok (.aload_n 0, 1) := by decide +kernel
theorem dX10_corn_40 : decode cX10_corn 40 = .ok (.getfield 90, 3) := by decide +kernel
theorem dX10_corn_43 : decode cX10_corn 43 = .ok (.aload_n 0, 1) := by decide +kernel
theorem dX10_corn_44 : decode cX10_corn 44 = .ok (.getfield 43, 3) := by decide +kernel
theorem dX10_corn_47 : decode cX10_corn 47 = .ok (.iload_n 1, 1) := by decide +kernel
theorem dX10_corn_48 : decode cX10_corn 48 = .ok (.invokevirtual 205, 3) := by decide +kernel
theorem dX10_corn_51 : decode cX10_corn 51 = .ok (.ifCond .ne 6, 3) := by decide +kernel
theorem dX10_corn_54 : decode cX10_corn 54 = .ok (.bipush (-4), 2) := by decide +kernel
theorem dX10_corn_56 : decode cX10_corn 56 = .ok (.ireturn, 1) := by decide +kernel
theorem dX10_corn_57 : decode cX10_corn 57 = .ok (.iload_n 2, 1) := by decide +kernel
theorem dX10_corn_58 : decode cX10_corn 58 = .ok (.iconst (-1), 1) := by decide +kernel
theorem dX10_corn_59 : decode cX10_corn 59 = .ok (.if_icmp .ne 13, 3) := by decide +kernel
theorem dX10_corn_62 : decode cX10_corn 62 = .ok (.aload_n 0, 1) := by decide +kernel
theorem dX10_corn_63 : decode cX10_corn 63 = .ok (.getfield 90, 3) := by decide +kernel
theorem dX10_corn_66 : decode cX10_corn 66 = .ok (.getfield 207, 3) := by decide +kernel
theorem dX10_corn_69 : decode cX10_corn 69 = .ok (.goto 12, 3) := by decide +kernel
theorem dX10_corn_72 : decode cX10_corn 72 = .ok (.aload_n 0, 1) := by decide +kernel
theorem dX10_corn_73 : decode cX10_corn 73 = .ok (.getfield 90, 3) := by decide +kernel
theorem dX10_corn_76 : decode cX10_corn 76 = .ok (.getfield 208, 3) := by decide +kernel
theorem dX10_corn_79 : decode cX10_corn 79 = .ok (.iload_n 2, 1) := by decide +kernel
theorem dX10_corn_80 : decode cX10_corn 80 = .ok (.iaload, 1) := by decide +kernel
theorem dX10_corn_81 : decode cX10_corn 81 = .ok (.ireturn, 1) := by decide +kernel
theorem dX10_cats_0 : decode cX10_cats 0 = .ok (.iload_n 1, 1) := by decide +kernel
theorem dX10_cats_1 : decode cX10_cats 1 = .ok (.iconst 1, 1) := by decide +kernel
theorem dX10_cats_2 : decode cX10_cats 2 = .ok (.iconst 3, 1) := by decide +kernel
theorem dX10_cats_3 : decode cX10_cats 3 = .ok (.invokestatic 118, 3) := by decide +kernel
theorem dX10_cats_6 : decode cX10_cats 6 = .ok (.ifCond .eq 24, 3) := by decide +kernel
theorem dX10_cats_9 : decode cX10_cats 9 = .ok (.iload_n 2, 1) := by decide +kernel
theorem dX10_cats_10 : decode cX10_cats 10 = .ok (.iconst 1, 1) := by decide +kernel
theorem dX10_cats_11 : decode cX10_cats 11 = .ok (.bipush 20, 2) := by decide +kernel
theorem dX10_cats_13 : decode cX10_cats 13 = .ok (.invokestatic 118, 3) := by decide +kernel
theorem dX10_cats_16 : decode cX10_cats 16 = .ok (.ifCond .eq 14, 3) := by decide +kernel
theorem dX10_cats_19 : decode cX10_cats 19 = .ok (.iload_n 3, 1) := by decide +kernel
theorem dX10_cats_20 : decode cX10_cats 20 = .ok (.iconst (-1), 1) := by decide +kernel
theorem dX10_cats_21 : decode cX10_cats 21 = .ok (.iload_n 1, 1) := by decide +kernel
theorem dX10_cats_22 : decode cX10_cats 22 = .ok (.iconst 1, 1) := by decide +kernel
theorem dX10_cats_23 : decode cX10_cats 23 = .ok (.isub, 1) := by decide +kernel
theorem dX10_cats_24 : decode cX10_cats 24 = .ok (.invokestatic 118, 3) := by decide +kernel
theorem dX10_cats_27 : decode cX10_cats 27 = .ok (.ifCond .ne 5, 3) := by decide +kernel
theorem dX10_cats_30 : decode cX10_cats 30 = .ok (.iconst (-1), 1) := by decide +kernel
theorem dX10_cats_31 : decode cX10_cats 31 = .ok (.ireturn, 1) := by decide +kernel
theorem dX10_cats_32 : decode cX10_cats 32 = .ok (.aload_n 0, 1) := by decide +kernel
theorem dX10_cats_33 : decode cX10_cats 33 = .ok (.getfield 97, 3) := by decide +kernel
theorem dX10_cats_36 : decode cX10_cats 36 = .ok (.aload_n 0, 1) := by decide +kernel
theorem dX10_cats_37 : decode cX10_cats 37 = .ok (.getfield 43, 3) := by decide +kernel
theorem dX10_cats_40 : decode cX10_cats 40 = .ok (.aload_n 0, 1) := by decide +kernel
theorem dX10_cats_41 : decode cX10_cats 41 = .ok (.getfield 47, 3) := by decide +kernel
theorem dX10_cats_44 : decode cX10_cats 44 = .ok (.iload_n 2, 1) := by decide +kernel
theorem dX10_cats_45 : decode cX10_cats 45 = .ok (.iload_n 1, 1) := by decide +kernel
theorem dX10_cats_46 : decode cX10_cats 46 = .ok (.invokevirtual 209, 3) := by decide +kernel
theorem dX10_cats_49 : decode cX10_cats 49 = .ok (.ifCond .ne 6, 3) := by decide +kernel
theorem dX10_cats_52 : decode cX10_cats 52 = .ok (.bipush (-4), 2) := by decide +kernel
theorem dX10_cats_54 : decode cX10_cats 54 = .ok (.ireturn, 1) := by decide +kernel
theorem dX10_cats_55 : decode cX10_cats 55 = .ok (.iload_n 3, 1) := by decide +kernel
theorem dX10_cats_56 : decode cX10_cats 56 = .ok (.iconst (-1), 1) := by decide +kernel
theorem dX10_cats_57 : decode cX10_cats 57 = .ok (.if_icmp .ne 13, 3) := by decide +kernel
theorem dX10_cats_60 : decode cX10_cats 60 = .ok (.aload_n 0, 1) := by decide +kernel
theorem dX10_cats_61 : decode cX10_cats 61 = .ok (.getfield 97, 3) := by decide +kernel
theorem dX10_cats_64 : decode cX10_cats 64 = .ok (.getfield 211, 3) := by decide +kernel
theorem dX10_cats_67 : decode cX10_cats 67 = .ok (.goto 12, 3) := by decide +kernel
theorem dX10_cats_70 : decode cX10_cats 70 = .ok (.aload_n 0, 1) := by decide +kernel
theorem dX10_cats_71 : decode cX10_cats 71 = .ok (.getfield 97, 3) := by decide +kernel
theorem dX10_cats_74 : decode cX10_cats 74 = .ok (.getfield 212, 3) := by decide +kernel
theorem dX10_cats_77 : decode cX10_cats 77 = .ok (.iload_n 3, 1) := by decide +kernel
theorem dX10_cats_78 : decode cX10_cats 78 = .ok (.iaload, 1) := by decide +kernel
theorem dX10_cats_79 : decode cX10_cats 79 = .ok (.ireturn, 1) := by decide +kernel
theorem dX10_moves_0 : decode cX10_moves 0 = .ok (.iload_n 1, 1) := by decide +kernel
theorem dX10_moves_1 : decode cX10_moves 1 = .ok (.iconst 0, 1) := by decide +kernel
theorem dX10_moves_2 : decode cX10_moves 2 = .ok (.iconst 2, 1) := by decide +kernel
theorem dX10_moves_3 : decode cX10_moves 3 = .ok (.invokestatic 118, 3) := by decide +kernel
theorem dX10_moves_6 : decode cX10_moves 6 = .ok (.ifCond .ne 5, 3) := by decide +kernel
theorem dX10_moves_9 : decode cX10_moves 9 = .ok (.iconst (-1), 1) := by decide +kernel
theorem dX10_moves_10 : decode cX10_moves 10 = .ok (.ireturn, 1) := by decide +kernel
theorem dX10_moves_11 : decode cX10_moves 11 = .ok (.aload_n 0, 1) := by decide +kernel
theorem dX10_moves_12 : decode cX10_moves 12 = .ok (.getfield 76, 3) := by decide +kernel
theorem dX10_moves_15 : decode cX10_moves 15 = .ok (.aload_n 0, 1) := by decide +kernel
theorem dX10_moves_16 : decode cX10_moves 16 = .ok (.getfield 43, 3) := by decide +kernel
theorem dX10_moves_19 : decode cX10_moves 19 = .ok (.aload_n 0, 1) := by decide +kernel
theorem dX10_moves_20 : decode cX10_moves 20 = .ok (.getfield 47, 3) := by decide +kernel
theorem dX10_moves_23 : decode cX10_moves 23 = .ok (.invokevirtual 213, 3) := by decide +kernel
theorem dX10_moves_26 : decode cX10_moves 26 = .ok (.iload_n 1, 1) := by decide +kernel
theorem dX10_moves_27 : decode cX10_moves 27 = .ok (.ifCond .le 18, 3) := by decide +kernel
theorem dX10_moves_30 : decode cX10_moves 30 = .ok (.aload_n 0, 1) := by decide +kernel
theorem dX10_moves_31 : decode cX10_moves 31 = .ok (.getfield 76, 3) := by decide +kernel
theorem dX10_moves_34 : decode cX10_moves 34 = .ok (.iload_n 1, 1) := by decide +kernel
theorem dX10_moves_35 : decode cX10_moves 35 = .ok (.iconst 1, 1) := by decide +kernel
theorem dX10_moves_36 : decode cX10_moves 36 = .ok (.isub, 1) := by decide +kernel
theorem dX10_moves_37 : decode cX10_moves 37 = .ok (.aload_n 0, 1) := by decide +kernel
theorem dX10_moves_38 : decode cX10_moves 38 = .ok (.getfield 47, 3) := by decide +kernel
theorem dX10_moves_41 : decode cX10_moves 41 = .ok (.invokevirtual 217, 3) := by decide +kernel
theorem dX10_moves_44 : decode cX10_moves 44 = .ok (.ireturn, 1) := by decide +kernel
theorem dX10_moves_45 : decode cX10_moves 45 = .ok (.aload_n 0, 1) := by decide +kernel
theorem dX10_moves_46 : decode cX10_moves 46 = .ok (.getfield 76, 3) := by decide +kernel
theorem dX10_moves_49 : decode cX10_moves 49 = .ok (.getfield 221, 3) := by decide +kernel
theorem dX10_moves_52 : decode cX10_moves 52 = .ok (.bipush 40, 2) := by decide +kernel
theorem dX10_moves_54 : decode cX10_moves 54 = .ok (.if_icmp .ne 8, 3) := by decide +kernel
theorem dX10_moves_57 : decode cX10_moves 57 = .ok (.bipush (-4), 2) := by decide +kernel
theorem dX10_moves_59 : decode cX10_moves 59 = .ok (.goto 10, 3) := by decide +kernel
theorem dX10_moves_62 : decode cX10_moves 62 = .ok (.aload_n 0, 1) := by decide +kernel
theorem dX10_moves_63 : decode cX10_moves 63 = .ok (.getfield 76, 3) := by decide +kernel
theorem dX10_moves_66 : decode cX10_moves 66 = .ok (.getfield 221, 3) := by decide +kernel
theorem dX10_moves_69 : decode cX10_moves 69 = .ok (.ireturn, 1) := by decide +kernel
theorem dX10_was_0 : decode cX10_was 0 = .ok (.iload_n 1, 1) := by decide +kernel
theorem dX10_was_1 : decode cX10_was 1 = .ok (.iconst 0, 1) := by decide +kernel
theorem dX10_was_2 : decode cX10_was 2 = .ok (.bipush 20, 2) := by decide +kernel
theorem dX10_was_4 : decode cX10_was 4 = .ok (.invokestatic 118, 3) := by decide +kernel
theorem dX10_was_7 : decode cX10_was 7 = .ok (.ifCond .eq 30, 3) := by decide +kernel
theorem dX10_was_10 : decode cX10_was 10 = .ok (.iload_n 2, 1) := by decide +kernel
theorem dX10_was_11 : decode cX10_was 11 = .ok (.iconst 0, 1) := by decide +kernel
theorem dX10_was_12 : decode cX10_was 12 = .ok (.bipush 6, 2) := by decide +kernel
theorem dX10_was_14 : decode cX10_was 14 = .ok (.invokestatic 118, 3) := by decide +kernel
theorem dX10_was_17 : decode cX10_was 17 = .ok (.ifCond .eq 20, 3) := by decide +kernel
theorem dX10_was_20 : decode cX10_was 20 = .ok (.iload_n 3, 1) := by decide +kernel
theorem dX10_was_21 : decode cX10_was 21 = .ok (.iconst (-1), 1) := by decide +kernel
theorem dX10_was_22 : decode cX10_was 22 = .ok (.aload_n 0, 1) := by decide +kernel
theorem dX10_was_23 : decode cX10_was 23 = .ok (.getfield 31, 3) := by decide +kernel
theorem dX10_was_26 : decode cX10_was 26 = .ok (.getfield 126, 3) := by decide +kernel
theorem dX10_was_29 : decode cX10_was 29 = .ok (.iconst 1, 1) := by decide +kernel
theorem dX10_was_30 : decode cX10_was 30 = .ok (.isub, 1) := by decide +kernel
theorem dX10_was_31 : decode cX10_was 31 = .ok (.invokestatic 118, 3) := by decide +kernel
theorem dX10_was_34 : decode cX10_was 34 = .ok (.ifCond .ne 5, 3) := by decide +kernel
theorem dX10_was_37 : decode cX10_was 37 = .ok (.iconst (-1), 1) := by decide +kernel
theorem dX10_was_38 : decode cX10_was 38 = .ok (.ireturn, 1) := by decide +kernel
theorem dX10_was_39 : decode cX10_was 39 = .ok (.aload_n 0, 1) := by decide +kernel
theorem dX10_was_40 : decode cX10_was 40 = .ok (.getfield 31, 3) := by decide +kernel
theorem dX10_was_43 : decode cX10_was 43 = .ok (.getfield 126, 3) := by decide +kernel
theorem dX10_was_46 : decode cX10_was 46 = .ok (.iconst 4, 1) := by decide +kernel
theorem dX10_was_47 : decode cX10_was 47 = .ok (.if_icmp .le 6, 3) := by decide +kernel
theorem dX10_was_50 : decode cX10_was 50 = .ok (.bipush (-2), 2) := by decide +kernel
theorem dX10_was_52 : decode cX10_was 52 = .ok (.ireturn, 1) := by decide +kernel
theorem dX10_was_53 : decode cX10_was 53 = .ok (.aload_n 0, 1) := by decide +kernel
theorem dX10_was_54 : decode cX10_was 54 = .ok (.getfield 104, 3) := by decide +kernel
theorem dX10_was_57 : decode cX10_was 57 = .ok (.aload_n 0, 1) := by decide +kernel
theorem dX10_was_58 : decode cX10_was 58 = .ok (.getfield 43, 3) := by decide +kernel
theorem dX10_was_61 : decode cX10_was 61 = .ok (.iload_n 1, 1) := by decide +kernel
theorem dX10_was_62 : decode cX10_was 62 = .ok (.iload_n 2, 1) := by decide +kernel
theorem dX10_was_63 : decode cX10_was 63 = .ok (.invokevirtual 224, 3) := by decide +kernel
theorem dX10_was_66 : decode cX10_was 66 = .ok (.iload_n 3, 1) := by decide +kernel
theorem dX10_was_67 : decode cX10_was 67 = .ok (.iconst (-1), 1) := by decide +kernel
theorem dX10_was_68 : decode cX10_was 68 = .ok (.if_icmp .ne 11, 3) := by decide +kernel
theorem dX10_was_71 : decode cX10_was 71 = .ok (.aload_n 0, 1) := by decide +kernel
theorem dX10_was_72 : decode cX10_was 72 = .ok (.getfield 104, 3) := by decide +kernel
theorem dX10_was_75 : decode cX10_was 75 = .ok (.getfield 225, 3) := by decide +kernel
theorem dX10_was_78 : decode cX10_was 78 = .ok (.ireturn, 1) := by decide +kernel
theorem dX10_was_79 : decode cX10_was 79 = .ok (.aload_n 0, 1) := by decide +kernel
theorem dX10_was_80 : decode cX10_was 80 = .ok (.getfield 104, 3) := by decide +kernel
theorem dX10_was_83 : decode cX10_was 83 = .ok (.getfield 225, 3) := by decide +kernel
theorem dX10_was_86 : decode cX10_was 86 = .ok (.ifCond .ne 8, 3) := by decide +kernel
theorem dX10_was_89 : decode cX10_was 89 = .ok (.bipush (-4), 2) := by decide +kernel
theorem dX10_was_91 : decode cX10_was 91 = .ok (.goto 12, 3) := by decide +kernel
theorem dX10_was_94 : decode cX10_was 94 = .ok (.aload_n 0, 1) := by decide +kernel
theorem dX10_was_95 : decode cX10_was 95 = .ok (.getfield 104, 3) := by decide +kernel
theorem dX10_was_98 : decode cX10_was 98 = .ok (.getfield 228, 3) := by decide +kernel
theorem dX10_was_101 : decode cX10_was 101 = .ok (.iload_n 3, 1) := by decide +kernel
theorem dX10_was_102 : decode cX10_was 102 = .ok (.iaload, 1) := by decide +kernel
theorem dX10_was_103 : decode cX10_was 103 = .ok (.ireturn, 1) := by decide +kernel
theorem dX10_others_0 : decode cX10_others 0 = .ok (.iload_n 1, 1) := by decide +kernel
theorem dX10_others_1 : decode cX10_others 1 = .ok (.iconst 0, 1) := by decide +kernel
theorem dX10_others_2 : decode cX10_others 2 = .ok (.iconst 3, 1) := by decide +kernel
theorem dX10_others_3 : decode cX10_others 3 = .ok (.invokestatic 118, 3) := by decide +kernel
theorem dX10_others_6 : decode cX10_others 6 = .ok (.ifCond .eq 13, 3) := by decide +kernel
theorem dX10_others_9 : decode cX10_others 9 = .ok (.iload_n 2, 1) := by decide +kernel
theorem dX10_others_10 : decode cX10_others 10 = .ok (.iconst 0, 1) := by decide +kernel
theorem dX10_others_11 : decode cX10_others 11 = .ok (.bipush 60, 2) := by decide +kernel
theorem dX10_others_13 : decode cX10_others 13 = .ok (.invokestatic 118, 3) := by decide +kernel
theorem dX10_others_16 : decode cX10_others 16 = .ok (.ifCond .ne 5, 3) := by decide +kernel
theorem dX10_others_19 : decode cX10_others 19 = .ok (.iconst (-1), 1) := by decide +kernel
theorem dX10_others_20 : decode cX10_others 20 = .ok (.ireturn, 1) := by decide +kernel
theorem dX10_others_21 : decode cX10_others 21 = .ok (.aload_n 0, 1) := by decide +kernel
theorem dX10_others_22 : decode cX10_others 22 = .ok (.getfield 43, 3) := by decide +kernel
theorem dX10_others_25 : decode cX10_others 25 = .ok (.aload_n 0, 1) := by decide +kernel
theorem dX10_others_26 : decode cX10_others 26 = .ok (.getfield 50, 3) := by decide +kernel
theorem dX10_others_29 : decode cX10_others 29 = .ok (.invokestatic 161, 3) := by decide +kernel
theorem dX10_others_32 : decode cX10_others 32 = .ok (.aload_n 0, 1) := by decide +kernel
theorem dX10_others_33 : decode cX10_others 33 = .ok (.getfield 39, 3) := by decide +kernel
theorem dX10_others_36 : decode cX10_others 36 = .ok (.iload_n 1, 1) := by decide +kernel
theorem dX10_others_37 : decode cX10_others 37 = .ok (.aload_n 0, 1) := by decide +kernel
theorem dX10_others_38 : decode cX10_others 38 = .ok (.getfield 50, 3) := by decide +kernel
theorem dX10_others_41 : decode cX10_others 41 = .ok (.aload_n 0, 1) := by decide +kernel
theorem dX10_others_42 : decode cX10_others 42 = .ok (.getfield 47, 3) := by decide +kernel
theorem dX10_others_45 : decode cX10_others 45 = .ok (.iload_n 2, 1) := by decide +kernel
theorem dX10_others_46 : decode cX10_others 46 = .ok (.ldc 152, 2) := by decide +kernel
theorem dX10_others_48 : decode cX10_others 48 = .ok (.invokevirtual 153, 3) := by decide +kernel
theorem dX10_others_51 : decode cX10_others 51 = .ok (.ireturn, 1) := by decide +kernel
theorem dX10_drawn_0 : decode cX10_drawn 0 = .ok (.iload_n 1, 1) := by decide +kernel
theorem dX10_drawn_1 : decode cX10_drawn 1 = .ok (.iconst 0, 1) := by decide +kernel
theorem dX10_drawn_2 : decode cX10_drawn 2 = .ok (.sipush 9999, 3) := by decide +kernel
theorem dX10_drawn_5 : decode cX10_drawn 5 = .ok (.invokestatic 118, 3) := by decide +kernel
theorem dX10_drawn_8 : decode cX10_drawn 8 = .ok (.ifCond .eq 13, 3) := by decide +kernel
theorem dX10_drawn_11 : decode cX10_drawn 11 = .ok (.iload_n 2, 1) := by decide +kernel
theorem dX10_drawn_12 : decode cX10_drawn 12 = .ok (.iconst 0, 1) := by decide +kernel
theorem dX10_drawn_13 : decode cX10_drawn 13 = .ok (.bipush 60, 2) := by decide +kernel
theorem dX10_drawn_15 : decode cX10_drawn 15 = .ok (.invokestatic 118, 3) := by decide +kernel
theorem dX10_drawn_18 : decode cX10_drawn 18 = .ok (.ifCond .ne 5, 3) := by decide +kernel
theorem dX10_drawn_21 : decode cX10_drawn 21 = .ok (.iconst (-1), 1) := by decide +kernel
theorem dX10_drawn_22 : decode cX10_drawn 22 = .ok (.ireturn, 1) := by decide +kernel
theorem dX10_drawn_23 : decode cX10_drawn 23 = .ok (.aload_n 0, 1) := by decide +kernel
theorem dX10_drawn_24 : decode cX10_drawn 24 = .ok (.iload_n 1, 1) := by decide +kernel
theorem dX10_drawn_25 : decode cX10_drawn 25 = .ok (.invokevirtual 231, 3) := by decide +kernel
theorem dX10_drawn_28 : decode cX10_drawn 28 = .ok (.aload_n 0, 1) := by decide +kernel
theorem dX10_drawn_29 : decode cX10_drawn 29 = .ok (.getfield 39, 3) := by decide +kernel
theorem dX10_drawn_32 : decode cX10_drawn 32 = .ok (.aload_n 0, 1) := by decide +kernel
theorem dX10_drawn_33 : decode cX10_drawn 33 = .ok (.getfield 31, 3) := by decide +kernel
theorem dX10_drawn_36 : decode cX10_drawn 36 = .ok (.getfield 149, 3) := by decide +kernel
theorem dX10_drawn_39 : decode cX10_drawn 39 = .ok (.aload_n 0, 1) := by decide +kernel
theorem dX10_drawn_40 : decode cX10_drawn 40 = .ok (.getfield 50, 3) := by decide +kernel
theorem dX10_drawn_43 : decode cX10_drawn 43 = .ok (.aload_n 0, 1) := by decide +kernel
theorem dX10_drawn_44 : decode cX10_drawn 44 = .ok (.getfield 47, 3) := by decide +kernel
theorem dX10_drawn_47 : decode cX10_drawn 47 = .ok (.iload_n 2, 1) := by decide +kernel
theorem dX10_drawn_48 : decode cX10_drawn 48 = .ok (.ldc 152, 2) := by decide +kernel
theorem dX10_drawn_50 : decode cX10_drawn 50 = .ok (.invokevirtual 153, 3) := by decide +kernel
theorem dX10_drawn_53 : decode cX10_drawn 53 = .ok (.ireturn, 1) := by decide +kernel
theorem dX10_ten_0 : decode cX10_ten 0 = .ok (.iload_n 1, 1) := by decide +kernel
theorem dX10_ten_1 : decode cX10_ten 1 = .ok (.iconst 0, 1) := by decide +kernel
theorem dX10_ten_2 : decode cX10_ten 2 = .ok (.sipush 9999, 3) := by decide +kernel
theorem dX10_ten_5 : decode cX10_ten 5 = .ok (.invokestatic 118, 3) := by decide +kernel
theorem dX10_ten_8 : decode cX10_ten 8 = .ok (.ifCond .eq 13, 3) := by decide +kernel
theorem dX10_ten_11 : decode cX10_ten 11 = .ok (.iload_n 2, 1) := by decide +kernel
theorem dX10_ten_12 : decode cX10_ten 12 = .ok (.iconst 0, 1) := by decide +kernel
theorem dX10_ten_13 : decode cX10_ten 13 = .ok (.bipush 60, 2) := by decide +kernel
theorem dX10_ten_15 : decode cX10_ten 15 = .ok (.invokestatic 118, 3) := by decide +kernel
theorem dX10_ten_18 : decode cX10_ten 18 = .ok (.ifCond .ne 5, 3) := by decide +kernel
theorem dX10_ten_21 : decode cX10_ten 21 = .ok (.iconst (-1), 1) := by decide +kernel
theorem dX10_ten_22 : decode cX10_ten 22 = .ok (.ireturn, 1) := by decide +kernel
theorem dX10_ten_23 : decode cX10_ten 23 = .ok (.iconst 0, 1) := by decide +kernel
theorem dX10_ten_24 : decode cX10_ten 24 = .ok (.istore_n 3, 1) := by decide +kernel
theorem dX10_ten_25 : decode cX10_ten 25 = .ok (.iconst 0, 1) := by decide +kernel
theorem dX10_ten_26 : decode cX10_ten 26 = .ok (.istore 4, 2) := by decide +kernel
theorem dX10_ten_28 : decode cX10_ten 28 = .ok (.iload 4, 2) := by decide +kernel
theorem dX10_ten_30 : decode cX10_ten 30 = .ok (.bipush 10, 2) := by decide +kernel
theorem dX10_ten_32 : decode cX10_ten 32 = .ok (.if_icmp .ge 66, 3) := by decide +kernel
theorem dX10_ten_35 : decode cX10_ten 35 = .ok (.aload_n 0, 1) := by decide +kernel
theorem dX10_ten_36 : decode cX10_ten 36 = .ok (.iload_n 1, 1) := by decide +kernel
theorem dX10_ten_37 : decode cX10_ten 37 = .ok (.iload 4, 2) := by decide +kernel
theorem dX10_ten_39 : decode cX10_ten 39 = .ok (.iadd, 1) := by decide +kernel
theorem dX10_ten_40 : decode cX10_ten 40 = .ok (.sipush 10000, 3) := by decide +kernel
theorem dX10_ten_43 : decode cX10_ten 43 = .ok (.irem, 1) := by decide +kernel
theorem dX10_ten_44 : decode cX10_ten 44 = .ok (.invokevirtual 231, 3) := by decide +kernel
theorem dX10_ten_47 : decode cX10_ten 47 = .ok (.aload_n 0, 1) := by decide +kernel
theorem dX10_ten_48 : decode cX10_ten 48 = .ok (.aload_n 0, 1) := by decide +kernel
theorem dX10_ten_49 : decode cX10_ten 49 = .ok (.getfield 50, 3) := by decide +kernel
theorem dX10_ten_52 : decode cX10_ten 52 = .ok (.invokevirtual 235, 3) := by decide +kernel
theorem dX10_ten_55 : decode cX10_ten 55 = .ok (.istore 5, 2) := by decide +kernel
theorem dX10_ten_57 : decode cX10_ten 57 = .ok (.iconst 2, 1) := by decide +kernel
theorem dX10_ten_58 : decode cX10_ten 58 = .ok (.aload_n 0, 1) := by decide +kernel
theorem dX10_ten_59 : decode cX10_ten 59 = .ok (.getfield 39, 3) := by decide +kernel
theorem dX10_ten_62 : decode cX10_ten 62 = .ok (.aload_n 0, 1) := by decide +kernel
theorem dX10_ten_63 : decode cX10_ten 63 = .ok (.getfield 31, 3) := by decide +kernel
theorem dX10_ten_66 : decode cX10_ten 66 = .ok (.getfield 149, 3) := by decide +kernel
theorem dX10_ten_69 : decode cX10_ten 69 = .ok (.aload_n 0, 1) := by decide +kernel
theorem dX10_ten_70 : decode cX10_ten 70 = .ok (.getfield 50, 3) := by decide +kernel
theorem dX10_ten_73 : decode cX10_ten 73 = .ok (.aload_n 0, 1) := by decide +kernel
theorem dX10_ten_74 : decode cX10_ten 74 = .ok (.getfield 47, 3) := by decide +kernel
theorem dX10_ten_77 : decode cX10_ten 77 = .ok (.iload_n 2, 1) := by decide +kernel
theorem dX10_ten_78 : decode cX10_ten 78 = .ok (.ldc 152, 2) := by decide +kernel
theorem dX10_ten_80 : decode cX10_ten 80 = .ok (.invokevirtual 153, 3) := by decide +kernel
theorem dX10_ten_83 : decode cX10_ten 83 = .ok (.imul, 1) := by decide +kernel
theorem dX10_ten_84 : decode cX10_ten 84 = .ok (.iload 5, 2) := by decide +kernel
theorem dX10_ten_86 : decode cX10_ten 86 = .ok (.if_icmp .le 6, 3) := by decide +kernel
theorem dX10_ten_89 : decode cX10_ten 89 = .ok (.iinc 3 1, 3) := by decide +kernel
theorem dX10_ten_92 : decode cX10_ten 92 = .ok (.iinc 4 1, 3) := by decide +kernel
theorem dX10_ten_95 : decode cX10_ten 95 = .ok (.goto (-67), 3) := by decide +kernel
theorem dX10_ten_98 : decode cX10_ten 98 = .ok (.iload_n 3, 1) := by decide +kernel
theorem dX10_ten_99 : decode cX10_ten 99 = .ok (.ireturn, 1) := by decide +kernel
theorem dX10_keep_0 : decode cX10_keep 0 = .ok (.aload_n 0, 1) := by decide +kernel
theorem dX10_keep_1 : decode cX10_keep 1 = .ok (.getfield 61, 3) := by decide +kernel
theorem dX10_keep_4 : decode cX10_keep 4 = .ok (.iconst 2, 1) := by decide +kernel
theorem dX10_keep_5 : decode cX10_keep 5 = .ok (.if_icmp .lt 6, 3) := by decide +kernel
theorem dX10_keep_8 : decode cX10_keep 8 = .ok (.bipush (-3), 2) := by decide +kernel
theorem dX10_keep_10 : decode cX10_keep 10 = .ok (.ireturn, 1) := by decide +kernel
theorem dX10_keep_11 : decode cX10_keep 11 = .ok (.aload_n 0, 1) := by decide +kernel
theorem dX10_keep_12 : decode cX10_keep 12 = .ok (.getfield 43, 3) := by decide +kernel
theorem dX10_keep_15 : decode cX10_keep 15 = .ok (.aload_n 0, 1) := by decide +kernel
theorem dX10_keep_16 : decode cX10_keep 16 = .ok (.getfield 55, 3) := by decide +kernel
theorem dX10_keep_19 : decode cX10_keep 19 = .ok (.aload_n 0, 1) := by decide +kernel
theorem dX10_keep_20 : decode cX10_keep 20 = .ok (.getfield 61, 3) := by decide +kernel
theorem dX10_keep_23 : decode cX10_keep 23 = .ok (.aaload, 1) := by decide +kernel
theorem dX10_keep_24 : decode cX10_keep 24 = .ok (.invokestatic 161, 3) := by decide +kernel
theorem dX10_keep_27 : decode cX10_keep 27 = .ok (.aload_n 0, 1) := by decide +kernel
theorem dX10_keep_28 : decode cX10_keep 28 = .ok (.getfield 58, 3) := by decide +kernel
theorem dX10_keep_31 : decode cX10_keep 31 = .ok (.aload_n 0, 1) := by decide +kernel
theorem dX10_keep_32 : decode cX10_keep 32 = .ok (.getfield 61, 3) := by decide +kernel
theorem dX10_keep_35 : decode cX10_keep 35 = .ok (.aload_n 0, 1) := by decide +kernel
theorem dX10_keep_36 : decode cX10_keep 36 = .ok (.getfield 47, 3) := by decide +kernel
theorem dX10_keep_39 : decode cX10_keep 39 = .ok (.iastore, 1) := by decide +kernel
theorem dX10_keep_40 : decode cX10_keep 40 = .ok (.aload_n 0, 1) := by decide +kernel
theorem dX10_keep_41 : decode cX10_keep 41 = .ok (.dup, 1) := by decide +kernel
theorem dX10_keep_42 : decode cX10_keep 42 = .ok (.getfield 61, 3) := by decide +kernel
theorem dX10_keep_45 : decode cX10_keep 45 = .ok (.iconst 1, 1) := by decide +kernel
theorem dX10_keep_46 : decode cX10_keep 46 = .ok (.iadd, 1) := by decide +kernel
theorem dX10_keep_47 : decode cX10_keep 47 = .ok (.putfield 61, 3) := by decide +kernel
theorem dX10_keep_50 : decode cX10_keep 50 = .ok (.aload_n 0, 1) := by decide +kernel
theorem dX10_keep_51 : decode cX10_keep 51 = .ok (.getfield 61, 3) := by decide +kernel
theorem dX10_keep_54 : decode cX10_keep 54 = .ok (.ireturn, 1) := by decide +kernel
theorem dX10_back_0 : decode cX10_back 0 = .ok (.aload_n 0, 1) := by decide +kernel
theorem dX10_back_1 : decode cX10_back 1 = .ok (.getfield 61, 3) := by decide +kernel
theorem dX10_back_4 : decode cX10_back 4 = .ok (.ifCond .gt 6, 3) := by decide +kernel
theorem dX10_back_7 : decode cX10_back 7 = .ok (.bipush (-2), 2) := by decide +kernel
theorem dX10_back_9 : decode cX10_back 9 = .ok (.ireturn, 1) := by decide +kernel
theorem dX10_back_10 : decode cX10_back 10 = .ok (.aload_n 0, 1) := by decide +kernel
theorem dX10_back_11 : decode cX10_back 11 = .ok (.dup, 1) := by decide +kernel
theorem dX10_back_12 : decode cX10_back 12 = .ok (.getfield 61, 3) := by decide +kernel
theorem dX10_back_15 : decode cX10_back 15 = .ok (.iconst 1, 1) := by decide +kernel
theorem dX10_back_16 : decode cX10_back 16 = .ok (.isub, 1) := by decide +kernel
theorem dX10_back_17 : decode cX10_back 17 = .ok (.putfield 61, 3) := by decide +kernel
theorem dX10_back_20 : decode cX10_back 20 = .ok (.aload_n 0, 1) := by decide +kernel
theorem dX10_back_21 : decode cX10_back 21 = .ok (.getfield 55, 3) := by decide +kernel
theorem dX10_back_24 : decode cX10_back 24 = .ok (.aload_n 0, 1) := by decide +kernel
theorem dX10_back_25 : decode cX10_back 25 = .ok (.getfield 61, 3) := by decide +kernel
theorem dX10_back_28 : decode cX10_back 28 = .ok (.aaload, 1) := by decide +kernel
theorem dX10_back_29 : decode cX10_back 29 = .ok (.aload_n 0, 1) := by decide +kernel
theorem dX10_back_30 : decode cX10_back 30 = .ok (.getfield 43, 3) := by decide +kernel
theorem dX10_back_33 : decode cX10_back 33 = .ok (.invokestatic 161, 3) := by decide +kernel
theorem dX10_back_36 : decode cX10_back 36 = .ok (.aload_n 0, 1) := by decide +kernel
theorem dX10_back_37 : decode cX10_back 37 = .ok (.aload_n 0, 1) := by decide +kernel
theorem dX10_back_38 : decode cX10_back 38 = .ok (.getfield 58, 3) := by decide +kernel
theorem dX10_back_41 : decode cX10_back 41 = .ok (.aload_n 0, 1) := by decide +kernel
theorem dX10_back_42 : decode cX10_back 42 = .ok (.getfield 61, 3) := by decide +kernel
theorem dX10_back_45 : decode cX10_back 45 = .ok (.iaload, 1) := by decide +kernel
theorem dX10_back_46 : decode cX10_back 46 = .ok (.putfield 47, 3) := by decide +kernel
theorem dX10_back_49 : decode cX10_back 49 = .ok (.aload_n 0, 1) := by decide +kernel
theorem dX10_back_50 : decode cX10_back 50 = .ok (.getfield 61, 3) := by decide +kernel
theorem dX10_back_53 : decode cX10_back 53 = .ok (.ireturn, 1) := by decide +kernel
theorem dX10_count_0 : decode cX10_count 0 = .ok (.iload_n 1, 1) := by decide +kernel
theorem dX10_count_1 : decode cX10_count 1 = .ok (.tableswitch 103 0 7 #[47, 55, 63, 71, 79, 84, 93, 98], 47) := by decide +kernel
theorem dX10_count_48 : decode cX10_count 48 = .ok (.aload_n 0, 1) := by decide +kernel
theorem dX10_count_49 : decode cX10_count 49 = .ok (.getfield 31, 3) := by decide +kernel
theorem dX10_count_52 : decode cX10_count 52 = .ok (.getfield 126, 3) := by decide +kernel
theorem dX10_count_55 : decode cX10_count 55 = .ok (.ireturn, 1) := by decide +kernel
theorem dX10_count_56 : decode cX10_count 56 = .ok (.aload_n 0, 1) := by decide +kernel
theorem dX10_count_57 : decode cX10_count 57 = .ok (.getfield 31, 3) := by decide +kernel
theorem dX10_count_60 : decode cX10_count 60 = .ok (.getfield 136, 3) := by decide +kernel
theorem dX10_count_63 : decode cX10_count 63 = .ok (.ireturn, 1) := by decide +kernel
theorem dX10_count_64 : decode cX10_count 64 = .ok (.aload_n 0, 1) := by decide +kernel
theorem dX10_count_65 : decode cX10_count 65 = .ok (.getfield 31, 3) := by decide +kernel
theorem dX10_count_68 : decode cX10_count 68 = .ok (.getfield 239, 3) := by decide +kernel
theorem dX10_count_71 : decode cX10_count 71 = .ok (.ireturn, 1) := by decide +kernel
theorem dX10_count_72 : decode cX10_count 72 = .ok (.aload_n 0, 1) := by decide +kernel
theorem dX10_count_73 : decode cX10_count 73 = .ok (.getfield 31, 3) := by decide +kernel
theorem dX10_count_76 : decode cX10_count 76 = .ok (.getfield 202, 3) := by decide +kernel
theorem dX10_count_79 : decode cX10_count 79 = .ok (.ireturn, 1) := by decide +kernel
theorem dX10_count_80 : decode cX10_count 80 = .ok (.aload_n 0, 1) := by decide +kernel
theorem dX10_count_81 : decode cX10_count 81 = .ok (.getfield 47, 3) := by decide +kernel
theorem dX10_count_84 : decode cX10_count 84 = .ok (.ireturn, 1) := by decide +kernel
theorem dX10_count_85 : decode cX10_count 85 = .ok (.aload_n 0, 1) := by decide +kernel
theorem dX10_count_86 : decode cX10_count 86 = .ok (.aload_n 0, 1) := by decide +kernel
theorem dX10_count_87 : decode cX10_count 87 = .ok (.getfield 43, 3) := by decide +kernel
theorem dX10_count_90 : decode cX10_count 90 = .ok (.invokevirtual 235, 3) := by decide +kernel
theorem dX10_count_93 : decode cX10_count 93 = .ok (.ireturn, 1) := by decide +kernel
theorem dX10_count_94 : decode cX10_count 94 = .ok (.aload_n 0, 1) := by decide +kernel
theorem dX10_count_95 : decode cX10_count 95 = .ok (.getfield 13, 3) := by decide +kernel
theorem dX10_count_98 : decode cX10_count 98 = .ok (.ireturn, 1) := by decide +kernel
theorem dX10_count_99 : decode cX10_count 99 = .ok (.aload_n 0, 1) := by decide +kernel
theorem dX10_count_100 : decode cX10_count 100 = .ok (.getfield 61, 3) := by decide +kernel
theorem dX10_count_103 : decode cX10_count 103 = .ok (.ireturn, 1) := by decide +kernel
theorem dX10_count_104 : decode cX10_count 104 = .ok (.iconst (-1), 1) := by decide +kernel
theorem dX10_count_105 : decode cX10_count 105 = .ok (.ireturn, 1) := by decide +kernel
theorem dX10_enterBarn_0 : decode cX10_enterBarn 0 = .ok (.aload_n 0, 1) := by decide +kernel
theorem dX10_enterBarn_1 : decode cX10_enterBarn 1 = .ok (.getfield 31, 3) := by decide +kernel
theorem dX10_enterBarn_4 : decode cX10_enterBarn 4 = .ok (.getfield 242, 3) := by decide +kernel
theorem dX10_enterBarn_7 : decode cX10_enterBarn 7 = .ok (.aload_n 0, 1) := by decide +kernel
theorem dX10_enterBarn_8 : decode cX10_enterBarn 8 = .ok (.getfield 43, 3) := by decide +kernel
theorem dX10_enterBarn_11 : decode cX10_enterBarn 11 = .ok (.invokestatic 161, 3) := by decide +kernel
theorem dX10_enterBarn_14 : decode cX10_enterBarn 14 = .ok (.aload_n 0, 1) := by decide +kernel
theorem dX10_enterBarn_15 : decode cX10_enterBarn 15 = .ok (.iconst 0, 1) := by decide +kernel
theorem dX10_enterBarn_16 : decode cX10_enterBarn 16 = .ok (.putfield 47, 3) := by decide +kernel
theorem dX10_enterBarn_19 : decode cX10_enterBarn 19 = .ok (.aload_n 0, 1) := by decide +kernel
theorem dX10_enterBarn_20 : decode cX10_enterBarn 20 = .ok (.iconst 0, 1) := by decide +kernel
theorem dX10_enterBarn_21 : decode cX10_enterBarn 21 = .ok (.putfield 61, 3) := by decide +kernel
theorem dX10_enterBarn_24 : decode cX10_enterBarn 24 = .ok (.return_, 1) := by decide +kernel
theorem dX10_isBin_0 : decode cX10_isBin 0 = .ok (.iload_n 1, 1) := by decide +kernel
theorem dX10_isBin_1 : decode cX10_isBin 1 = .ok (.iconst 0, 1) := by decide +kernel
theorem dX10_isBin_2 : decode cX10_isBin 2 = .ok (.aload_n 0, 1) := by decide +kernel
theorem dX10_isBin_3 : decode cX10_isBin 3 = .ok (.getfield 31, 3) := by decide +kernel
theorem dX10_isBin_6 : decode cX10_isBin 6 = .ok (.getfield 126, 3) := by decide +kernel
theorem dX10_isBin_9 : decode cX10_isBin 9 = .ok (.iconst 1, 1) := by decide +kernel
theorem dX10_isBin_10 : decode cX10_isBin 10 = .ok (.isub, 1) := by decide +kernel
theorem dX10_isBin_11 : decode cX10_isBin 11 = .ok (.invokestatic 118, 3) := by decide +kernel
theorem dX10_isBin_14 : decode cX10_isBin 14 = .ok (.ireturn, 1) := by decide +kernel
theorem dX10_sumOf_0 : decode cX10_sumOf 0 = .ok (.iconst 0, 1) := by decide +kernel
theorem dX10_sumOf_1 : decode cX10_sumOf 1 = .ok (.istore_n 2, 1) := by decide +kernel
theorem dX10_sumOf_2 : decode cX10_sumOf 2 = .ok (.iconst 0, 1) := by decide +kernel
theorem dX10_sumOf_3 : decode cX10_sumOf 3 = .ok (.istore_n 3, 1) := by decide +kernel
theorem dX10_sumOf_4 : decode cX10_sumOf 4 = .ok (.iload_n 3, 1) := by decide +kernel
theorem dX10_sumOf_5 : decode cX10_sumOf 5 = .ok (.aload_n 0, 1) := by decide +kernel
theorem dX10_sumOf_6 : decode cX10_sumOf 6 = .ok (.getfield 31, 3) := by decide +kernel
theorem dX10_sumOf_9 : decode cX10_sumOf 9 = .ok (.getfield 126, 3) := by decide +kernel
theorem dX10_sumOf_12 : decode cX10_sumOf 12 = .ok (.if_icmp .ge 15, 3) := by decide +kernel
theorem dX10_sumOf_15 : decode cX10_sumOf 15 = .ok (.iload_n 2, 1) := by decide +kernel
theorem dX10_sumOf_16 : decode cX10_sumOf 16 = .ok (.aload_n 1, 1) := by decide +kernel
theorem dX10_sumOf_17 : decode cX10_sumOf 17 = .ok (.iload_n 3, 1) := by decide +kernel
theorem dX10_sumOf_18 : decode cX10_sumOf 18 = .ok (.iaload, 1) := by decide +kernel
theorem dX10_sumOf_19 : decode cX10_sumOf 19 = .ok (.iadd, 1) := by decide +kernel
theorem dX10_sumOf_20 : decode cX10_sumOf 20 = .ok (.istore_n 2, 1) := by decide +kernel
theorem dX10_sumOf_21 : decode cX10_sumOf 21 = .ok (.iinc 3 1, 3) := by decide +kernel
theorem dX10_sumOf_24 : decode cX10_sumOf 24 = .ok (.goto (-20), 3) := by decide +kernel
theorem dX10_sumOf_27 : decode cX10_sumOf 27 = .ok (.iload_n 2, 1) := by decide +kernel
theorem dX10_sumOf_28 : decode cX10_sumOf 28 = .ok (.ireturn, 1) := by decide +kernel
theorem dX10_drawTrial_0 : decode cX10_drawTrial 0 = .ok (.iconst 0, 1) := by decide +kernel
theorem dX10_drawTrial_1 : decode cX10_drawTrial 1 = .ok (.istore_n 2, 1) := by decide +kernel
theorem dX10_drawTrial_2 : decode cX10_drawTrial 2 = .ok (.iload_n 2, 1) := by decide +kernel
theorem dX10_drawTrial_3 : decode cX10_drawTrial 3 = .ok (.aload_n 0, 1) := by decide +kernel
theorem dX10_drawTrial_4 : decode cX10_drawTrial 4 = .ok (.getfield 31, 3) := by decide +kernel
theorem dX10_drawTrial_7 : decode cX10_drawTrial 7 = .ok (.getfield 126, 3) := by decide +kernel
theorem dX10_drawTrial_10 : decode cX10_drawTrial 10 = .ok (.if_icmp .ge 43, 3) := by decide +kernel
theorem dX10_drawTrial_13 : decode cX10_drawTrial 13 = .ok (.ldc2_w 245, 3) := by decide +kernel
theorem dX10_drawTrial_16 : decode cX10_drawTrial 16 = .ok (.iload_n 1, 1) := by decide +kernel
theorem dX10_drawTrial_17 : decode cX10_drawTrial 17 = .ok (.i2l, 1) := by decide +kernel
theorem dX10_drawTrial_18 : decode cX10_drawTrial 18 = .ok (.lmul, 1) := by decide +kernel
theorem dX10_drawTrial_19 : decode cX10_drawTrial 19 = .ok (.ldc2_w 247, 3) := by decide +kernel
theorem dX10_drawTrial_22 : decode cX10_drawTrial 22 = .ok (.iload_n 2, 1) := by decide +kernel
theorem dX10_drawTrial_23 : decode cX10_drawTrial 23 = .ok (.i2l, 1) := by decide +kernel
theorem dX10_drawTrial_24 : decode cX10_drawTrial 24 = .ok (.lmul, 1) := by decide +kernel
theorem dX10_drawTrial_25 : decode cX10_drawTrial 25 = .ok (.ladd, 1) := by decide +kernel
theorem dX10_drawTrial_26 : decode cX10_drawTrial 26 = .ok (.lconst 1, 1) := by decide +kernel
theorem dX10_drawTrial_27 : decode cX10_drawTrial 27 = .ok (.ladd, 1) := by decide +kernel
theorem dX10_drawTrial_28 : decode cX10_drawTrial 28 = .ok (.lstore_n 3, 1) := by decide +kernel
theorem dX10_drawTrial_29 : decode cX10_drawTrial 29 = .ok (.aload_n 0, 1) := by decide +kernel
theorem dX10_drawTrial_30 : decode cX10_drawTrial 30 = .ok (.getfield 50, 3) := by decide +kernel
theorem dX10_drawTrial_33 : decode cX10_drawTrial 33 = .ok (.iload_n 2, 1) := by decide +kernel
theorem dX10_drawTrial_34 : decode cX10_drawTrial 34 = .ok (.lload_n 3, 1) := by decide +kernel
theorem dX10_drawTrial_35 : decode cX10_drawTrial 35 = .ok (.lload_n 3, 1) := by decide +kernel
theorem dX10_drawTrial_36 : decode cX10_drawTrial 36 = .ok (.lmul, 1) := by decide +kernel
theorem dX10_drawTrial_37 : decode cX10_drawTrial 37 = .ok (.ldc2_w 249, 3) := by decide +kernel
theorem dX10_drawTrial_40 : decode cX10_drawTrial 40 = .ok (.lrem, 1) := by decide +kernel
theorem dX10_drawTrial_41 : decode cX10_drawTrial 41 = .ok (.ldc2_w 251, 3) := by decide +kernel
theorem dX10_drawTrial_44 : decode cX10_drawTrial 44 = .ok (.lrem, 1) := by decide +kernel
theorem dX10_drawTrial_45 : decode cX10_drawTrial 45 = .ok (.l2i, 1) := by decide +kernel
theorem dX10_drawTrial_46 : decode cX10_drawTrial 46 = .ok (.iastore, 1) := by decide +kernel
theorem dX10_drawTrial_47 : decode cX10_drawTrial 47 = .ok (.iinc 2 1, 3) := by decide +kernel
theorem dX10_drawTrial_50 : decode cX10_drawTrial 50 = .ok (.goto (-48), 3) := by decide +kernel
theorem dX10_drawTrial_53 : decode cX10_drawTrial 53 = .ok (.return_, 1) := by decide +kernel
theorem dX10_within_0 : decode cX10_within 0 = .ok (.iload_n 0, 1) := by decide +kernel
theorem dX10_within_1 : decode cX10_within 1 = .ok (.iload_n 1, 1) := by decide +kernel
theorem dX10_within_2 : decode cX10_within 2 = .ok (.if_icmp .lt 12, 3) := by decide +kernel
theorem dX10_within_5 : decode cX10_within 5 = .ok (.iload_n 0, 1) := by decide +kernel
theorem dX10_within_6 : decode cX10_within 6 = .ok (.iload_n 2, 1) := by decide +kernel
theorem dX10_within_7 : decode cX10_within 7 = .ok (.if_icmp .gt 7, 3) := by decide +kernel
theorem dX10_within_10 : decode cX10_within 10 = .ok (.iconst 1, 1) := by decide +kernel
theorem dX10_within_11 : decode cX10_within 11 = .ok (.goto 4, 3) := by decide +kernel
theorem dX10_within_14 : decode cX10_within 14 = .ok (.iconst 0, 1) := by decide +kernel
theorem dX10_within_15 : decode cX10_within 15 = .ok (.ireturn, 1) := by decide +kernel
theorem dX10_copyBins_0 : decode cX10_copyBins 0 = .ok (.aload_n 0, 1) := by decide +kernel
theorem dX10_copyBins_1 : decode cX10_copyBins 1 = .ok (.iconst 0, 1) := by decide +kernel
theorem dX10_copyBins_2 : decode cX10_copyBins 2 = .ok (.aload_n 1, 1) := by decide +kernel
theorem dX10_copyBins_3 : decode cX10_copyBins 3 = .ok (.iconst 0, 1) := by decide +kernel
theorem dX10_copyBins_4 : decode cX10_copyBins 4 = .ok (.bipush 8, 2) := by decide +kernel
theorem dX10_copyBins_6 : decode cX10_copyBins 6 = .ok (.invokestatic 253, 3) := by decide +kernel
theorem dX10_copyBins_9 : decode cX10_copyBins 9 = .ok (.return_, 1) := by decide +kernel
theorem dX10_swapBins_0 : decode cX10_swapBins 0 = .ok (.aload_n 0, 1) := by decide +kernel
theorem dX10_swapBins_1 : decode cX10_swapBins 1 = .ok (.iload_n 1, 1) := by decide +kernel
theorem dX10_swapBins_2 : decode cX10_swapBins 2 = .ok (.iaload, 1) := by decide +kernel
theorem dX10_swapBins_3 : decode cX10_swapBins 3 = .ok (.istore_n 3, 1) := by decide +kernel
theorem dX10_swapBins_4 : decode cX10_swapBins 4 = .ok (.aload_n 0, 1) := by decide +kernel
theorem dX10_swapBins_5 : decode cX10_swapBins 5 = .ok (.iload_n 1, 1) := by decide +kernel
theorem dX10_swapBins_6 : decode cX10_swapBins 6 = .ok (.aload_n 0, 1) := by decide +kernel
theorem dX10_swapBins_7 : decode cX10_swapBins 7 = .ok (.iload_n 2, 1) := by decide +kernel
theorem dX10_swapBins_8 : decode cX10_swapBins 8 = .ok (.iaload, 1) := by decide +kernel
theorem dX10_swapBins_9 : decode cX10_swapBins 9 = .ok (.iastore, 1) := by decide +kernel
theorem dX10_swapBins_10 : decode cX10_swapBins 10 = .ok (.aload_n 0, 1) := by decide +kernel
theorem dX10_swapBins_11 : decode cX10_swapBins 11 = .ok (.iload_n 2, 1) := by decide +kernel
theorem dX10_swapBins_12 : decode cX10_swapBins 12 = .ok (.iload_n 3, 1) := by decide +kernel
theorem dX10_swapBins_13 : decode cX10_swapBins 13 = .ok (.iastore, 1) := by decide +kernel
theorem dX10_swapBins_14 : decode cX10_swapBins 14 = .ok (.return_, 1) := by decide +kernel
theorem dX10_canPour_0 : decode cX10_canPour 0 = .ok (.aload_n 0, 1) := by decide +kernel
theorem dX10_canPour_1 : decode cX10_canPour 1 = .ok (.iload_n 1, 1) := by decide +kernel
theorem dX10_canPour_2 : decode cX10_canPour 2 = .ok (.iaload, 1) := by decide +kernel
theorem dX10_canPour_3 : decode cX10_canPour 3 = .ok (.iload_n 3, 1) := by decide +kernel
theorem dX10_canPour_4 : decode cX10_canPour 4 = .ok (.if_icmp .lt 18, 3) := by decide +kernel
theorem dX10_canPour_7 : decode cX10_canPour 7 = .ok (.aload_n 0, 1) := by decide +kernel
theorem dX10_canPour_8 : decode cX10_canPour 8 = .ok (.iload_n 2, 1) := by decide +kernel
theorem dX10_canPour_9 : decode cX10_canPour 9 = .ok (.iaload, 1) := by decide +kernel
theorem dX10_canPour_10 : decode cX10_canPour 10 = .ok (.iload_n 3, 1) := by decide +kernel
theorem dX10_canPour_11 : decode cX10_canPour 11 = .ok (.iadd, 1) := by decide +kernel
theorem dX10_canPour_12 : decode cX10_canPour 12 = .ok (.sipush 199, 3) := by decide +kernel
theorem dX10_canPour_15 : decode cX10_canPour 15 = .ok (.if_icmp .gt 7, 3) := by decide +kernel
theorem dX10_canPour_18 : decode cX10_canPour 18 = .ok (.iconst 1, 1) := by decide +kernel
theorem dX10_canPour_19 : decode cX10_canPour 19 = .ok (.goto 4, 3) := by decide +kernel
theorem dX10_canPour_22 : decode cX10_canPour 22 = .ok (.iconst 0, 1) := by decide +kernel
theorem dX10_canPour_23 : decode cX10_canPour 23 = .ok (.ireturn, 1) := by decide +kernel
