theorem dX11_init_0 : decode cX11_init 0 = .ok (.aload_n 0, 1) := by decide +kernel
theorem dX11_init_1 : decode cX11_init 1 = .ok (.invokespecial 1, 3) := by decide +kernel
theorem dX11_init_4 : decode cX11_init 4 = .ok (.aload_n 0, 1) := by decide +kernel
theorem dX11_init_5 : decode cX11_init 5 = .ok (.sipush 300, 3) := by decide +kernel
theorem dX11_init_8 : decode cX11_init 8 = .ok (.newarray .byte, 2) := by decide +kernel
theorem dX11_init_10 : decode cX11_init 10 = .ok (.putfield 7, 3) := by decide +kernel
theorem dX11_init_13 : decode cX11_init 13 = .ok (.aload_n 0, 1) := by decide +kernel
theorem dX11_init_14 : decode cX11_init 14 = .ok (.iconst 2, 1) := by decide +kernel
theorem dX11_init_15 : decode cX11_init 15 = .ok (.newarray .int, 2) := by decide +kernel
theorem dX11_init_17 : decode cX11_init 17 = .ok (.putfield 13, 3) := by decide +kernel
theorem dX11_init_20 : decode cX11_init 20 = .ok (.aload_n 0, 1) := by decide +kernel
theorem dX11_init_21 : decode cX11_init 21 = .ok (.bipush 16, 2) := by decide +kernel
theorem dX11_init_23 : decode cX11_init 23 = .ok (.newarray .int, 2) := by decide +kernel
theorem dX11_init_25 : decode cX11_init 25 = .ok (.putfield 17, 3) := by decide +kernel
theorem dX11_init_28 : decode cX11_init 28 = .ok (.aload_n 0, 1) := by decide +kernel
theorem dX11_init_29 : decode cX11_init 29 = .ok (.bipush 16, 2) := by decide +kernel
theorem dX11_init_31 : decode cX11_init 31 = .ok (.newarray .int, 2) := by decide +kernel
theorem dX11_init_33 : decode cX11_init 33 = .ok (.putfield 20, 3) := by decide +kernel
theorem dX11_init_36 : decode cX11_init 36 = .ok (.aload_n 0, 1) := by decide +kernel
theorem dX11_init_37 : decode cX11_init 37 = .ok (.bipush 6, 2) := by decide +kernel
theorem dX11_init_39 : decode cX11_init 39 = .ok (.newarray .int, 2) := by decide +kernel
theorem dX11_init_41 : decode cX11_init 41 = .ok (.putfield 23, 3) := by decide +kernel
theorem dX11_init_44 : decode cX11_init 44 = .ok (.aload_n 0, 1) := by decide +kernel
theorem dX11_init_45 : decode cX11_init 45 = .ok (.iconst 2, 1) := by decide +kernel
theorem dX11_init_46 : decode cX11_init 46 = .ok (.newarray .int, 2) := by decide +kernel
theorem dX11_init_48 : decode cX11_init 48 = .ok (.putfield 26, 3) := by decide +kernel
theorem dX11_init_51 : decode cX11_init 51 = .ok (.aload_n 0, 1) := by decide +kernel
theorem dX11_init_52 : decode cX11_init 52 = .ok (.bipush 32, 2) := by decide +kernel
theorem dX11_init_54 : decode cX11_init 54 = .ok (.newarray .int, 2) := by decide +kernel
theorem dX11_init_56 : decode cX11_init 56 = .ok (.putfield 29, 3) := by decide +kernel
theorem dX11_init_59 : decode cX11_init 59 = .ok (.aload_n 0, 1) := by decide +kernel
theorem dX11_init_60 : decode cX11_init 60 = .ok (.iconst 2, 1) := by decide +kernel
theorem dX11_init_61 : decode cX11_init 61 = .ok (.newarray .int, 2) := by decide +kernel
theorem dX11_init_63 : decode cX11_init 63 = .ok (.putfield 32, 3) := by decide +kernel
theorem dX11_init_66 : decode cX11_init 66 = .ok (.aload_n 0, 1) := by decide +kernel
theorem dX11_init_67 : decode cX11_init 67 = .ok (.bipush 16, 2) := by decide +kernel
theorem dX11_init_69 : decode cX11_init 69 = .ok (.newarray .int, 2) := by decide +kernel
theorem dX11_init_71 : decode cX11_init 71 = .ok (.putfield 35, 3) := by decide +kernel
theorem dX11_init_74 : decode cX11_init 74 = .ok (.aload_n 0, 1) := by decide +kernel
theorem dX11_init_75 : decode cX11_init 75 = .ok (.bipush 12, 2) := by decide +kernel
theorem dX11_init_77 : decode cX11_init 77 = .ok (.newarray .int, 2) := by decide +kernel
theorem dX11_init_79 : decode cX11_init 79 = .ok (.putfield 38, 3) := by decide +kernel
theorem dX11_init_82 : decode cX11_init 82 = .ok (.aload_n 0, 1) := by decide +kernel
theorem dX11_init_83 : decode cX11_init 83 = .ok (.bipush 12, 2) := by decide +kernel
theorem dX11_init_85 : decode cX11_init 85 = .ok (.newarray .int, 2) := by decide +kernel
theorem dX11_init_87 : decode cX11_init 87 = .ok (.putfield 41, 3) := by decide +kernel
theorem dX11_init_90 : decode cX11_init 90 = .ok (.aload_n 0, 1) := by decide +kernel
theorem dX11_init_91 : decode cX11_init 91 = .ok (.bipush 12, 2) := by decide +kernel
theorem dX11_init_93 : decode cX11_init 93 = .ok (.newarray .boolean, 2) := by decide +kernel
theorem dX11_init_95 : decode cX11_init 95 = .ok (.putfield 44, 3) := by decide +kernel
theorem dX11_init_98 : decode cX11_init 98 = .ok (.aload_n 0, 1) := by decide +kernel
theorem dX11_init_99 : decode cX11_init 99 = .ok (.bipush 8, 2) := by decide +kernel
theorem dX11_init_101 : decode cX11_init 101 = .ok (.newarray .int, 2) := by decide +kernel
theorem dX11_init_103 : decode cX11_init 103 = .ok (.putfield 48, 3) := by decide +kernel
theorem dX11_init_106 : decode cX11_init 106 = .ok (.aload_n 0, 1) := by decide +kernel
theorem dX11_init_107 : decode cX11_init 107 = .ok (.bipush 16, 2) := by decide +kernel
theorem dX11_init_109 : decode cX11_init 109 = .ok (.newarray .int, 2) := by decide +kernel
theorem dX11_init_111 : decode cX11_init 111 = .ok (.putfield 51, 3) := by decide +kernel
theorem dX11_init_114 : decode cX11_init 114 = .ok (.aload_n 0, 1) := by decide +kernel
theorem dX11_init_115 : decode cX11_init 115 = .ok (.iconst 2, 1) := by decide +kernel
theorem dX11_init_116 : decode cX11_init 116 = .ok (.newarray .int, 2) := by decide +kernel
theorem dX11_init_118 : decode cX11_init 118 = .ok (.putfield 54, 3) := by decide +kernel
theorem dX11_init_121 : decode cX11_init 121 = .ok (.aload_n 0, 1) := by decide +kernel
theorem dX11_init_122 : decode cX11_init 122 = .ok (.bipush 8, 2) := by decide +kernel
theorem dX11_init_124 : decode cX11_init 124 = .ok (.newarray .int, 2) := by decide +kernel
theorem dX11_init_126 : decode cX11_init 126 = .ok (.putfield 57, 3) := by decide +kernel
theorem dX11_init_129 : decode cX11_init 129 = .ok (.aload_n 0, 1) := by decide +kernel
theorem dX11_init_130 : decode cX11_init 130 = .ok (.bipush 8, 2) := by decide +kernel
theorem dX11_init_132 : decode cX11_init 132 = .ok (.newarray .int, 2) := by decide +kernel
theorem dX11_init_134 : decode cX11_init 134 = .ok (.putfield 60, 3) := by decide +kernel
theorem dX11_init_137 : decode cX11_init 137 = .ok (.aload_n 0, 1) := by decide +kernel
theorem dX11_init_138 : decode cX11_init 138 = .ok (.iconst 2, 1) := by decide +kernel
theorem dX11_init_139 : decode cX11_init 139 = .ok (.newarray .int, 2) := by decide +kernel
theorem dX11_init_141 : decode cX11_init 141 = .ok (.putfield 63, 3) := by decide +kernel
theorem dX11_init_144 : decode cX11_init 144 = .ok (.aload_n 0, 1) := by decide +kernel
theorem dX11_init_145 : decode cX11_init 145 = .ok (.bipush 8, 2) := by decide +kernel
theorem dX11_init_147 : decode cX11_init 147 = .ok (.newarray .int, 2) := by decide +kernel
theorem dX11_init_149 : decode cX11_init 149 = .ok (.putfield 66, 3) := by decide +kernel
theorem dX11_init_152 : decode cX11_init 152 = .ok (.aload_n 0, 1) := by decide +kernel
theorem dX11_init_153 : decode cX11_init 153 = .ok (.bipush 8, 2) := by decide +kernel
theorem dX11_init_155 : decode cX11_init 155 = .ok (.newarray .int, 2) := by decide +kernel
theorem dX11_init_157 : decode cX11_init 157 = .ok (.putfield 69, 3) := by decide +kernel
theorem dX11_init_160 : decode cX11_init 160 = .ok (.aload_n 0, 1) := by decide +kernel
theorem dX11_init_161 : decode cX11_init 161 = .ok (.iconst 3, 1) := by decide +kernel
theorem dX11_init_162 : decode cX11_init 162 = .ok (.newarray .int, 2) := by decide +kernel
theorem dX11_init_164 : decode cX11_init 164 = .ok (.putfield 72, 3) := by decide +kernel
theorem dX11_init_167 : decode cX11_init 167 = .ok (.aload_n 0, 1) := by decide +kernel
theorem dX11_init_168 : decode cX11_init 168 = .ok (.iconst 2, 1) := by decide +kernel
theorem dX11_init_169 : decode cX11_init 169 = .ok (.newarray .int, 2) := by decide +kernel
theorem dX11_init_171 : decode cX11_init 171 = .ok (.putfield 75, 3) := by decide +kernel
theorem dX11_init_174 : decode cX11_init 174 = .ok (.aload_n 0, 1) := by decide +kernel
theorem dX11_init_175 : decode cX11_init 175 = .ok (.invokevirtual 78, 3) := by decide +kernel
theorem dX11_init_178 : decode cX11_init 178 = .ok (.aload_n 0, 1) := by decide +kernel
theorem dX11_init_179 : decode cX11_init 179 = .ok (.getfield 13, 3) := by decide +kernel
theorem dX11_init_182 : decode cX11_init 182 = .ok (.iconst 1, 1) := by decide +kernel
theorem dX11_init_183 : decode cX11_init 183 = .ok (.iconst 2, 1) := by decide +kernel
theorem dX11_init_184 : decode cX11_init 184 = .ok (.iastore, 1) := by decide +kernel
theorem dX11_init_185 : decode cX11_init 185 = .ok (.aload_n 0, 1) := by decide +kernel
theorem dX11_init_186 : decode cX11_init 186 = .ok (.getfield 17, 3) := by decide +kernel
theorem dX11_init_189 : decode cX11_init 189 = .ok (.bipush 8, 2) := by decide +kernel
theorem dX11_init_191 : decode cX11_init 191 = .ok (.bipush 9, 2) := by decide +kernel
theorem dX11_init_193 : decode cX11_init 193 = .ok (.iastore, 1) := by decide +kernel
theorem dX11_init_194 : decode cX11_init 194 = .ok (.aload_n 0, 1) := by decide +kernel
theorem dX11_init_195 : decode cX11_init 195 = .ok (.getfield 17, 3) := by decide +kernel
theorem dX11_init_198 : decode cX11_init 198 = .ok (.bipush 9, 2) := by decide +kernel
theorem dX11_init_200 : decode cX11_init 200 = .ok (.iconst 0, 1) := by decide +kernel
theorem dX11_init_201 : decode cX11_init 201 = .ok (.iastore, 1) := by decide +kernel
theorem dX11_init_202 : decode cX11_init 202 = .ok (.aload_n 0, 1) := by decide +kernel
theorem dX11_init_203 : decode cX11_init 203 = .ok (.getfield 20, 3) := by decide +kernel
theorem dX11_init_206 : decode cX11_init 206 = .ok (.bipush 8, 2) := by decide +kernel
theorem dX11_init_208 : decode cX11_init 208 = .ok (.iconst 0, 1) := by decide +kernel
theorem dX11_init_209 : decode cX11_init 209 = .ok (.iastore, 1) := by decide +kernel
theorem dX11_init_210 : decode cX11_init 210 = .ok (.aload_n 0, 1) := by decide +kernel
theorem dX11_init_211 : decode cX11_init 211 = .ok (.getfield 20, 3) := by decide +kernel
theorem dX11_init_214 : decode cX11_init 214 = .ok (.bipush 9, 2) := by decide +kernel
theorem dX11_init_216 : decode cX11_init 216 = .ok (.iconst 1, 1) := by decide +kernel
theorem dX11_init_217 : decode cX11_init 217 = .ok (.iastore, 1) := by decide +kernel
theorem dX11_init_218 : decode cX11_init 218 = .ok (.aload_n 0, 1) := by decide +kernel
theorem dX11_init_219 : decode cX11_init 219 = .ok (.invokevirtual 81, 3) := by decide +kernel
theorem dX11_init_222 : decode cX11_init 222 = .ok (.return_, 1) := by decide +kernel
theorem dX11_in_0 : decode cX11_in 0 = .ok (.lload_n 0, 1) := by decide +kernel
theorem dX11_in_1 : decode cX11_in 1 = .ok (.lload_n 2, 1) := by decide +kernel
theorem dX11_in_2 : decode cX11_in 2 = .ok (.lcmp, 1) := by decide +kernel
theorem dX11_in_3 : decode cX11_in 3 = .ok (.ifCond .lt 14, 3) := by decide +kernel
theorem dX11_in_6 : decode cX11_in 6 = .ok (.lload_n 0, 1) := by decide +kernel
theorem dX11_in_7 : decode cX11_in 7 = .ok (.lload 4, 2) := by decide +kernel
theorem dX11_in_9 : decode cX11_in 9 = .ok (.lcmp, 1) := by decide +kernel
theorem dX11_in_10 : decode cX11_in 10 = .ok (.ifCond .gt 7, 3) := by decide +kernel
theorem dX11_in_13 : decode cX11_in 13 = .ok (.iconst 1, 1) := by decide +kernel
theorem dX11_in_14 : decode cX11_in 14 = .ok (.goto 4, 3) := by decide +kernel
theorem dX11_in_17 : decode cX11_in 17 = .ok (.iconst 0, 1) := by decide +kernel
theorem dX11_in_18 : decode cX11_in 18 = .ok (.ireturn, 1) := by decide +kernel
theorem dX11_write_0 : decode cX11_write 0 = .ok (.iload_n 1, 1) := by decide +kernel
theorem dX11_write_1 : decode cX11_write 1 = .ok (.i2l, 1) := by decide +kernel
theorem dX11_write_2 : decode cX11_write 2 = .ok (.lconst 1, 1) := by decide +kernel
theorem dX11_write_3 : decode cX11_write 3 = .ok (.ldc2_w 84, 3) := by decide +kernel
theorem dX11_write_6 : decode cX11_write 6 = .ok (.invokestatic 86, 3) := by decide +kernel
theorem dX11_write_9 : decode cX11_write 9 = .ok (.ifCond .ne 5, 3) := by decide +kernel
theorem dX11_write_12 : decode cX11_write 12 = .ok (.iconst (-1), 1) := by decide +kernel
theorem dX11_write_13 : decode cX11_write 13 = .ok (.ireturn, 1) := by decide +kernel
theorem dX11_write_14 : decode cX11_write 14 = .ok (.aload_n 0, 1) := by decide +kernel
theorem dX11_write_15 : decode cX11_write 15 = .ok (.getfield 90, 3) := by decide +kernel
theorem dX11_write_18 : decode cX11_write 18 = .ok (.iload_n 1, 1) := by decide +kernel
theorem dX11_write_19 : decode cX11_write 19 = .ok (.iadd, 1) := by decide +kernel
theorem dX11_write_20 : decode cX11_write 20 = .ok (.sipush 300, 3) := by decide +kernel
theorem dX11_write_23 : decode cX11_write 23 = .ok (.if_icmp .le 6, 3) := by decide +kernel
theorem dX11_write_26 : decode cX11_write 26 = .ok (.bipush (-3), 2) := by decide +kernel
theorem dX11_write_28 : decode cX11_write 28 = .ok (.ireturn, 1) := by decide +kernel
theorem dX11_write_29 : decode cX11_write 29 = .ok (.iload_n 1, 1) := by decide +kernel
theorem dX11_write_30 : decode cX11_write 30 = .ok (.iconst 1, 1) := by decide +kernel
theorem dX11_write_31 : decode cX11_write 31 = .ok (.isub, 1) := by decide +kernel
theorem dX11_write_32 : decode cX11_write 32 = .ok (.istore 4, 2) := by decide +kernel
theorem dX11_write_34 : decode cX11_write 34 = .ok (.iload 4, 2) := by decide +kernel
theorem dX11_write_36 : decode cX11_write 36 = .ok (.ifCond .lt 37, 3) := by decide +kernel
theorem dX11_write_39 : decode cX11_write 39 = .ok (.aload_n 0, 1) := by decide +kernel
theorem dX11_write_40 : decode cX11_write 40 = .ok (.getfield 7, 3) := by decide +kernel
theorem dX11_write_43 : decode cX11_write 43 = .ok (.aload_n 0, 1) := by decide +kernel
theorem dX11_write_44 : decode cX11_write 44 = .ok (.getfield 90, 3) := by decide +kernel
theorem dX11_write_47 : decode cX11_write 47 = .ok (.lload_n 2, 1) := by decide +kernel
theorem dX11_write_48 : decode cX11_write 48 = .ok (.bipush 8, 2) := by decide +kernel
theorem dX11_write_50 : decode cX11_write 50 = .ok (.iload 4, 2) := by decide +kernel
theorem dX11_write_52 : decode cX11_write 52 = .ok (.imul, 1) := by decide +kernel
theorem dX11_write_53 : decode cX11_write 53 = .ok (.lshr, 1) := by decide +kernel
theorem dX11_write_54 : decode cX11_write 54 = .ok (.l2i, 1) := by decide +kernel
theorem dX11_write_55 : decode cX11_write 55 = .ok (.i2b, 1) := by decide +kernel
theorem dX11_write_56 : decode cX11_write 56 = .ok (.bastore, 1) := by decide +kernel
theorem dX11_write_57 : decode cX11_write 57 = .ok (.aload_n 0, 1) := by decide +kernel
theorem dX11_write_58 : decode cX11_write 58 = .ok (.dup, 1) := by decide +kernel
theorem dX11_write_59 : decode cX11_write 59 = .ok (.getfield 90, 3) := by decide +kernel
theorem dX11_write_62 : decode cX11_write 62 = .ok (.iconst 1, 1) := by decide +kernel
theorem dX11_write_63 : decode cX11_write 63 = .ok (.iadd, 1) := by decide +kernel
theorem dX11_write_64 : decode cX11_write 64 = .ok (.putfield 90, 3) := by decide +kernel
theorem dX11_write_67 : decode cX11_write 67 = .ok (.iinc 4 (-1), 3) := by decide +kernel
theorem dX11_write_70 : decode cX11_write 70 = .ok (.goto (-36), 3) := by decide +kernel
theorem dX11_write_73 : decode cX11_write 73 = .ok (.aload_n 0, 1) := by decide +kernel
theorem dX11_write_74 : decode cX11_write 74 = .ok (.getfield 90, 3) := by decide +kernel
theorem dX11_write_77 : decode cX11_write 77 = .ok (.ireturn, 1) := by decide +kernel
theorem dX11_wipe_0 : decode cX11_wipe 0 = .ok (.aload_n 0, 1) := by decide +kernel
theorem dX11_wipe_1 : decode cX11_wipe 1 = .ok (.getfield 90, 3) := by decide +kernel
theorem dX11_wipe_4 : decode cX11_wipe 4 = .ok (.istore_n 1, 1) := by decide +kernel
theorem dX11_wipe_5 : decode cX11_wipe 5 = .ok (.aload_n 0, 1) := by decide +kernel
theorem dX11_wipe_6 : decode cX11_wipe 6 = .ok (.iconst 0, 1) := by decide +kernel
theorem dX11_wipe_7 : decode cX11_wipe 7 = .ok (.putfield 90, 3) := by decide +kernel
theorem dX11_wipe_10 : decode cX11_wipe 10 = .ok (.iload_n 1, 1) := by decide +kernel
theorem dX11_wipe_11 : decode cX11_wipe 11 = .ok (.ireturn, 1) := by decide +kernel
theorem dX11_number_0 : decode cX11_number 0 = .ok (.iconst 0, 1) := by decide +kernel
theorem dX11_number_1 : decode cX11_number 1 = .ok (.istore_n 1, 1) := by decide +kernel
theorem dX11_number_2 : decode cX11_number 2 = .ok (.iconst 0, 1) := by decide +kernel
theorem dX11_number_3 : decode cX11_number 3 = .ok (.istore_n 2, 1) := by decide +kernel
theorem dX11_number_4 : decode cX11_number 4 = .ok (.aload_n 0, 1) := by decide +kernel
theorem dX11_number_5 : decode cX11_number 5 = .ok (.getfield 94, 3) := by decide +kernel
theorem dX11_number_8 : decode cX11_number 8 = .ok (.aload_n 0, 1) := by decide +kernel
theorem dX11_number_9 : decode cX11_number 9 = .ok (.getfield 90, 3) := by decide +kernel
theorem dX11_number_12 : decode cX11_number 12 = .ok (.if_icmp .ge 68, 3) := by decide +kernel
theorem dX11_number_15 : decode cX11_number 15 = .ok (.aload_n 0, 1) := by decide +kernel
theorem dX11_number_16 : decode cX11_number 16 = .ok (.getfield 7, 3) := by decide +kernel
theorem dX11_number_19 : decode cX11_number 19 = .ok (.aload_n 0, 1) := by decide +kernel
theorem dX11_number_20 : decode cX11_number 20 = .ok (.getfield 94, 3) := by decide +kernel
theorem dX11_number_23 : decode cX11_number 23 = .ok (.baload, 1) := by decide +kernel
theorem dX11_number_24 : decode cX11_number 24 = .ok (.i2l, 1) := by decide +kernel
theorem dX11_number_25 : decode cX11_number 25 = .ok (.ldc2_w 97, 3) := by decide +kernel
theorem dX11_number_28 : decode cX11_number 28 = .ok (.ldc2_w 99, 3) := by decide +kernel
theorem dX11_number_31 : decode cX11_number 31 = .ok (.invokestatic 86, 3) := by decide +kernel
theorem dX11_number_34 : decode cX11_number 34 = .ok (.ifCond .eq 46, 3) := by decide +kernel
theorem dX11_number_37 : decode cX11_number 37 = .ok (.iload_n 2, 1) := by decide +kernel
theorem dX11_number_38 : decode cX11_number 38 = .ok (.iconst 3, 1) := by decide +kernel
theorem dX11_number_39 : decode cX11_number 39 = .ok (.if_icmp .ge 23, 3) := by decide +kernel
theorem dX11_number_42 : decode cX11_number 42 = .ok (.bipush 10, 2) := by decide +kernel
theorem dX11_number_44 : decode cX11_number 44 = .ok (.iload_n 1, 1) := by decide +kernel
theorem dX11_number_45 : decode cX11_number 45 = .ok (.imul, 1) := by decide +kernel
theorem dX11_number_46 : decode cX11_number 46 = .ok (.aload_n 0, 1) := by decide +kernel
theorem dX11_number_47 : decode cX11_number 47 = .ok (.getfield 7, 3) := by decide +kernel
theorem dX11_number_50 : decode cX11_number 50 = .ok (.aload_n 0, 1) := by decide +kernel
theorem dX11_number_51 : decode cX11_number 51 = .ok (.getfield 94, 3) := by decide +kernel
theorem dX11_number_54 : decode cX11_number 54 = .ok (.baload, 1) := by decide +kernel
theorem dX11_number_55 : decode cX11_number 55 = .ok (.iadd, 1) := by decide +kernel
theorem dX11_number_56 : decode cX11_number 56 = .ok (.bipush 48, 2) := by decide +kernel
theorem dX11_number_58 : decode cX11_number 58 = .ok (.isub, 1) := by decide +kernel
theorem dX11_number_59 : decode cX11_number 59 = .ok (.goto 4, 3) := by decide +kernel
theorem dX11_number_62 : decode cX11_number 62 = .ok (.iload_n 1, 1) := by decide +kernel
theorem dX11_number_63 : decode cX11_number 63 = .ok (.istore_n 1, 1) := by decide +kernel
theorem dX11_number_64 : decode cX11_number 64 = .ok (.iinc 2 1, 3) := by decide +kernel
theorem dX11_number_67 : decode cX11_number 67 = .ok (.aload_n 0, 1) := by decide +kernel
theorem dX11_number_68 : decode cX11_number 68 = .ok (.dup, 1) := by decide +kernel
theorem dX11_number_69 : decode cX11_number 69 = .ok (.getfield 94, 3) := by decide +kernel
theorem dX11_number_72 : decode cX11_number 72 = .ok (.iconst 1, 1) := by decide +kernel
theorem dX11_number_73 : decode cX11_number 73 = .ok (.iadd, 1) := by decide +kernel
theorem dX11_number_74 : decode cX11_number 74 = .ok (.putfield 94, 3) := by decide +kernel
theorem dX11_number_77 : decode cX11_number 77 = .ok (.goto (-73), 3) := by decide +kernel
theorem dX11_number_80 : decode cX11_number 80 = .ok (.iload_n 2, 1) := by decide +kernel
theorem dX11_number_81 : decode cX11_number 81 = .ok (.i2l, 1) := by decide +kernel
theorem dX11_number_82 : decode cX11_number 82 = .ok (.lconst 1, 1) := by decide +kernel
theorem dX11_number_83 : decode cX11_number 83 = .ok (.ldc2_w 101, 3) := by decide +kernel
theorem dX11_number_86 : decode cX11_number 86 = .ok (.invokestatic 86, 3) := by decide +kernel
theorem dX11_number_89 : decode cX11_number 89 = .ok (.ifCond .eq 7, 3) := by decide +kernel
theorem dX11_number_92 : decode cX11_number 92 = .ok (.iload_n 1, 1) := by decide +kernel
theorem dX11_number_93 : decode cX11_number 93 = .ok (.goto 4, 3) := by decide +kernel
theorem dX11_number_96 : decode cX11_number 96 = .ok (.iconst (-1), 1) := by decide +kernel
theorem dX11_number_97 : decode cX11_number 97 = .ok (.ireturn, 1) := by decide +kernel
theorem dX11_parts_0 : decode cX11_parts 0 = .ok (.iload_n 0, 1) := by decide +kernel
theorem dX11_parts_1 : decode cX11_parts 1 = .ok (.bipush 98, 2) := by decide +kernel
theorem dX11_parts_3 : decode cX11_parts 3 = .ok (.if_icmp .eq 21, 3) := by decide +kernel
theorem dX11_parts_6 : decode cX11_parts 6 = .ok (.iload_n 0, 1) := by decide +kernel
theorem dX11_parts_7 : decode cX11_parts 7 = .ok (.bipush 114, 2) := by decide +kernel
theorem dX11_parts_9 : decode cX11_parts 9 = .ok (.if_icmp .eq 15, 3) := by decide +kernel
theorem dX11_parts_12 : decode cX11_parts 12 = .ok (.iload_n 0, 1) := by decide +kernel
theorem dX11_parts_13 : decode cX11_parts 13 = .ok (.bipush 119, 2) := by decide +kernel
theorem dX11_parts_15 : decode cX11_parts 15 = .ok (.if_icmp .eq 9, 3) := by decide +kernel
theorem dX11_parts_18 : decode cX11_parts 18 = .ok (.iload_n 0, 1) := by decide +kernel
theorem dX11_parts_19 : decode cX11_parts 19 = .ok (.bipush 99, 2) := by decide +kernel
theorem dX11_parts_21 : decode cX11_parts 21 = .ok (.if_icmp .ne 7, 3) := by decide +kernel
theorem dX11_parts_24 : decode cX11_parts 24 = .ok (.iconst 2, 1) := by decide +kernel
theorem dX11_parts_25 : decode cX11_parts 25 = .ok (.goto 14, 3) := by decide +kernel
theorem dX11_parts_28 : decode cX11_parts 28 = .ok (.iload_n 0, 1) := by decide +kernel
theorem dX11_parts_29 : decode cX11_parts 29 = .ok (.bipush 115, 2) := by decide +kernel
theorem dX11_parts_31 : decode cX11_parts 31 = .ok (.if_icmp .ne 7, 3) := by decide +kernel
theorem dX11_parts_34 : decode cX11_parts 34 = .ok (.iconst 1, 1) := by decide +kernel
theorem dX11_parts_35 : decode cX11_parts 35 = .ok (.goto 4, 3) := by decide +kernel
theorem dX11_parts_38 : decode cX11_parts 38 = .ok (.iconst 0, 1) := by decide +kernel
theorem dX11_parts_39 : decode cX11_parts 39 = .ok (.ireturn, 1) := by decide +kernel
theorem dX11_isItem_0 : decode cX11_isItem 0 = .ok (.aload_n 0, 1) := by decide +kernel
theorem dX11_isItem_1 : decode cX11_isItem 1 = .ok (.getfield 7, 3) := by decide +kernel
theorem dX11_isItem_4 : decode cX11_isItem 4 = .ok (.aload_n 0, 1) := by decide +kernel
theorem dX11_isItem_5 : decode cX11_isItem 5 = .ok (.getfield 94, 3) := by decide +kernel
theorem dX11_isItem_8 : decode cX11_isItem 8 = .ok (.baload, 1) := by decide +kernel
theorem dX11_isItem_9 : decode cX11_isItem 9 = .ok (.istore_n 1, 1) := by decide +kernel
theorem dX11_isItem_10 : decode cX11_isItem 10 = .ok (.aload_n 0, 1) := by decide +kernel
theorem dX11_isItem_11 : decode cX11_isItem 11 = .ok (.dup, 1) := by decide +kernel
theorem dX11_isItem_12 : decode cX11_isItem 12 = .ok (.getfield 94, 3) := by decide +kernel
theorem dX11_isItem_15 : decode cX11_isItem 15 = .ok (.iconst 1, 1) := by decide +kernel
theorem dX11_isItem_16 : decode cX11_isItem 16 = .ok (.iadd, 1) := by decide +kernel
theorem dX11_isItem_17 : decode cX11_isItem 17 = .ok (.putfield 94, 3) := by decide +kernel
theorem dX11_isItem_20 : decode cX11_isItem 20 = .ok (.iload_n 1, 1) := by decide +kernel
theorem dX11_isItem_21 : decode cX11_isItem 21 = .ok (.invokestatic 103, 3) := by decide +kernel
theorem dX11_isItem_24 : decode cX11_isItem 24 = .ok (.istore_n 2, 1) := by decide +kernel
theorem dX11_isItem_25 : decode cX11_isItem 25 = .ok (.iload_n 2, 1) := by decide +kernel
theorem dX11_isItem_26 : decode cX11_isItem 26 = .ok (.ifCond .le 7, 3) := by decide +kernel
theorem dX11_isItem_29 : decode cX11_isItem 29 = .ok (.iconst 1, 1) := by decide +kernel
theorem dX11_isItem_30 : decode cX11_isItem 30 = .ok (.goto 4, 3) := by decide +kernel
theorem dX11_isItem_33 : decode cX11_isItem 33 = .ok (.iconst 0, 1) := by decide +kernel
theorem dX11_isItem_34 : decode cX11_isItem 34 = .ok (.istore_n 3, 1) := by decide +kernel
theorem dX11_isItem_35 : decode cX11_isItem 35 = .ok (.iconst 0, 1) := by decide +kernel
theorem dX11_isItem_36 : decode cX11_isItem 36 = .ok (.istore 4, 2) := by decide +kernel
theorem dX11_isItem_38 : decode cX11_isItem 38 = .ok (.iload 4, 2) := by decide +kernel
theorem dX11_isItem_40 : decode cX11_isItem 40 = .ok (.iload_n 2, 1) := by decide +kernel
theorem dX11_isItem_41 : decode cX11_isItem 41 = .ok (.if_icmp .ge 103, 3) := by decide +kernel
theorem dX11_isItem_44 : decode cX11_isItem 44 = .ok (.iload_n 3, 1) := by decide +kernel
theorem dX11_isItem_45 : decode cX11_isItem 45 = .ok (.ifCond .eq 99, 3) := by decide +kernel
theorem dX11_isItem_48 : decode cX11_isItem 48 = .ok (.iload 4, 2) := by decide +kernel
theorem dX11_isItem_50 : decode cX11_isItem 50 = .ok (.ifCond .eq 28, 3) := by decide +kernel
theorem dX11_isItem_53 : decode cX11_isItem 53 = .ok (.aload_n 0, 1) := by decide +kernel
theorem dX11_isItem_54 : decode cX11_isItem 54 = .ok (.getfield 94, 3) := by decide +kernel
theorem dX11_isItem_57 : decode cX11_isItem 57 = .ok (.aload_n 0, 1) := by decide +kernel
theorem dX11_isItem_58 : decode cX11_isItem 58 = .ok (.getfield 90, 3) := by decide +kernel
theorem dX11_isItem_61 : decode cX11_isItem 61 = .ok (.if_icmp .ge 21, 3) := by decide +kernel
theorem dX11_isItem_64 : decode cX11_isItem 64 = .ok (.aload_n 0, 1) := by decide +kernel
theorem dX11_isItem_65 : decode cX11_isItem 65 = .ok (.getfield 7, 3) := by decide +kernel
theorem dX11_isItem_68 : decode cX11_isItem 68 = .ok (.aload_n 0, 1) := by decide +kernel
theorem dX11_isItem_69 : decode cX11_isItem 69 = .ok (.getfield 94, 3) := by decide +kernel
theorem dX11_isItem_72 : decode cX11_isItem 72 = .ok (.baload, 1) := by decide +kernel
theorem dX11_isItem_73 : decode cX11_isItem 73 = .ok (.bipush 44, 2) := by decide +kernel
theorem dX11_isItem_75 : decode cX11_isItem 75 = .ok (.if_icmp .ne 7, 3) := by decide +kernel
theorem dX11_isItem_78 : decode cX11_isItem 78 = .ok (.iconst 1, 1) := by decide +kernel
theorem dX11_isItem_79 : decode cX11_isItem 79 = .ok (.goto 4, 3) := by decide +kernel
theorem dX11_isItem_82 : decode cX11_isItem 82 = .ok (.iconst 0, 1) := by decide +kernel
theorem dX11_isItem_83 : decode cX11_isItem 83 = .ok (.istore_n 3, 1) := by decide +kernel
theorem dX11_isItem_84 : decode cX11_isItem 84 = .ok (.aload_n 0, 1) := by decide +kernel
theorem dX11_isItem_85 : decode cX11_isItem 85 = .ok (.dup, 1) := by decide +kernel
theorem dX11_isItem_86 : decode cX11_isItem 86 = .ok (.getfield 94, 3) := by decide +kernel
theorem dX11_isItem_89 : decode cX11_isItem 89 = .ok (.iload 4, 2) := by decide +kernel
theorem dX11_isItem_91 : decode cX11_isItem 91 = .ok (.ifCond .ne 7, 3) := by decide +kernel
theorem dX11_isItem_94 : decode cX11_isItem 94 = .ok (.iconst 0, 1) := by decide +kernel
theorem dX11_isItem_95 : decode cX11_isItem 95 = .ok (.goto 4, 3) := by decide +kernel
theorem dX11_isItem_98 : decode cX11_isItem 98 = .ok (.iconst 1, 1) := by decide +kernel
theorem dX11_isItem_99 : decode cX11_isItem 99 = .ok (.iadd, 1) := by decide +kernel
theorem dX11_isItem_100 : decode cX11_isItem 100 = .ok (.putfield 94, 3) := by decide +kernel
theorem dX11_isItem_103 : decode cX11_isItem 103 = .ok (.aload_n 0, 1) := by decide +kernel
theorem dX11_isItem_104 : decode cX11_isItem 104 = .ok (.getfield 75, 3) := by decide +kernel
theorem dX11_isItem_107 : decode cX11_isItem 107 = .ok (.iload 4, 2) := by decide +kernel
theorem dX11_isItem_109 : decode cX11_isItem 109 = .ok (.iload_n 3, 1) := by decide +kernel
theorem dX11_isItem_110 : decode cX11_isItem 110 = .ok (.ifCond .eq 10, 3) := by decide +kernel
theorem dX11_isItem_113 : decode cX11_isItem 113 = .ok (.aload_n 0, 1) := by decide +kernel
theorem dX11_isItem_114 : decode cX11_isItem 114 = .ok (.invokevirtual 107, 3) := by decide +kernel
theorem dX11_isItem_117 : decode cX11_isItem 117 = .ok (.goto 4, 3) := by decide +kernel
theorem dX11_isItem_120 : decode cX11_isItem 120 = .ok (.iconst (-1), 1) := by decide +kernel
theorem dX11_isItem_121 : decode cX11_isItem 121 = .ok (.iastore, 1) := by decide +kernel
theorem dX11_isItem_122 : decode cX11_isItem 122 = .ok (.aload_n 0, 1) := by decide +kernel
theorem dX11_isItem_123 : decode cX11_isItem 123 = .ok (.getfield 75, 3) := by decide +kernel
theorem dX11_isItem_126 : decode cX11_isItem 126 = .ok (.iload 4, 2) := by decide +kernel
theorem dX11_isItem_128 : decode cX11_isItem 128 = .ok (.iaload, 1) := by decide +kernel
theorem dX11_isItem_129 : decode cX11_isItem 129 = .ok (.ifCond .lt 7, 3) := by decide +kernel
theorem dX11_isItem_132 : decode cX11_isItem 132 = .ok (.iconst 1, 1) := by decide +kernel
theorem dX11_isItem_133 : decode cX11_isItem 133 = .ok (.goto 4, 3) := by decide +kernel
theorem dX11_isItem_136 : decode cX11_isItem 136 = .ok (.iconst 0, 1) := by decide +kernel
theorem dX11_isItem_137 : decode cX11_isItem 137 = .ok (.istore_n 3, 1) := by decide +kernel
theorem dX11_isItem_138 : decode cX11_isItem 138 = .ok (.iinc 4 1, 3) := by decide +kernel
theorem dX11_isItem_141 : decode cX11_isItem 141 = .ok (.goto (-103), 3) := by decide +kernel
theorem dX11_isItem_144 : decode cX11_isItem 144 = .ok (.iload_n 3, 1) := by decide +kernel
theorem dX11_isItem_145 : decode cX11_isItem 145 = .ok (.ifCond .eq 32, 3) := by decide +kernel
theorem dX11_isItem_148 : decode cX11_isItem 148 = .ok (.aload_n 0, 1) := by decide +kernel
theorem dX11_isItem_149 : decode cX11_isItem 149 = .ok (.getfield 94, 3) := by decide +kernel
theorem dX11_isItem_152 : decode cX11_isItem 152 = .ok (.aload_n 0, 1) := by decide +kernel
theorem dX11_isItem_153 : decode cX11_isItem 153 = .ok (.getfield 90, 3) := by decide +kernel
theorem dX11_isItem_156 : decode cX11_isItem 156 = .ok (.if_icmp .ge 21, 3) := by decide +kernel
theorem dX11_isItem_159 : decode cX11_isItem 159 = .ok (.aload_n 0, 1) := by decide +kernel
theorem dX11_isItem_160 : decode cX11_isItem 160 = .ok (.getfield 7, 3) := by decide +kernel
theorem dX11_isItem_163 : decode cX11_isItem 163 = .ok (.aload_n 0, 1) := by decide +kernel
theorem dX11_isItem_164 : decode cX11_isItem 164 = .ok (.getfield 94, 3) := by decide +kernel
theorem dX11_isItem_167 : decode cX11_isItem 167 = .ok (.baload, 1) := by decide +kernel
theorem dX11_isItem_168 : decode cX11_isItem 168 = .ok (.bipush 59, 2) := by decide +kernel
theorem dX11_isItem_170 : decode cX11_isItem 170 = .ok (.if_icmp .ne 7, 3) := by decide +kernel
theorem dX11_isItem_173 : decode cX11_isItem 173 = .ok (.iconst 1, 1) := by decide +kernel
theorem dX11_isItem_174 : decode cX11_isItem 174 = .ok (.goto 4, 3) := by decide +kernel
theorem dX11_isItem_177 : decode cX11_isItem 177 = .ok (.iconst 0, 1) := by decide +kernel
theorem dX11_isItem_178 : decode cX11_isItem 178 = .ok (.istore_n 3, 1) := by decide +kernel
theorem dX11_isItem_179 : decode cX11_isItem 179 = .ok (.aload_n 0, 1) := by decide +kernel
theorem dX11_isItem_180 : decode cX11_isItem 180 = .ok (.dup, 1) := by decide +kernel
theorem dX11_isItem_181 : decode cX11_isItem 181 = .ok (.getfield 94, 3) := by decide +kernel
theorem dX11_isItem_184 : decode cX11_isItem 184 = .ok (.iconst 1, 1) := by decide +kernel
theorem dX11_isItem_185 : decode cX11_isItem 185 = .ok (.iadd, 1) := by decide +kernel
theorem dX11_isItem_186 : decode cX11_isItem 186 = .ok (.putfield 94, 3) := by decide +kernel
theorem dX11_isItem_189 : decode cX11_isItem 189 = .ok (.iload_n 3, 1) := by decide +kernel
theorem dX11_isItem_190 : decode cX11_isItem 190 = .ok (.ifCond .eq 15, 3) := by decide +kernel
theorem dX11_isItem_193 : decode cX11_isItem 193 = .ok (.aload_n 0, 1) := by decide +kernel
theorem dX11_isItem_194 : decode cX11_isItem 194 = .ok (.iload_n 1, 1) := by decide +kernel
theorem dX11_isItem_195 : decode cX11_isItem 195 = .ok (.invokevirtual 111, 3) := by decide +kernel
theorem dX11_isItem_198 : decode cX11_isItem 198 = .ok (.ifCond .eq 7, 3) := by decide +kernel
theorem dX11_isItem_201 : decode cX11_isItem 201 = .ok (.iconst 1, 1) := by decide +kernel
theorem dX11_isItem_202 : decode cX11_isItem 202 = .ok (.goto 4, 3) := by decide +kernel
theorem dX11_isItem_205 : decode cX11_isItem 205 = .ok (.iconst 0, 1) := by decide +kernel
theorem dX11_isItem_206 : decode cX11_isItem 206 = .ok (.ireturn, 1) := by decide +kernel
theorem dX11_isGood_0 : decode cX11_isGood 0 = .ok (.iload_n 1, 1) := by decide +kernel
theorem dX11_isGood_1 : decode cX11_isGood 1 = .ok (.bipush 98, 2) := by decide +kernel
theorem dX11_isGood_3 : decode cX11_isGood 3 = .ok (.if_icmp .ne 101, 3) := by decide +kernel
theorem dX11_isGood_6 : decode cX11_isGood 6 = .ok (.aload_n 0, 1) := by decide +kernel
theorem dX11_isGood_7 : decode cX11_isGood 7 = .ok (.getfield 75, 3) := by decide +kernel
theorem dX11_isGood_10 : decode cX11_isGood 10 = .ok (.iconst 0, 1) := by decide +kernel
theorem dX11_isGood_11 : decode cX11_isGood 11 = .ok (.iaload, 1) := by decide +kernel
theorem dX11_isGood_12 : decode cX11_isGood 12 = .ok (.i2l, 1) := by decide +kernel
theorem dX11_isGood_13 : decode cX11_isGood 13 = .ok (.lconst 0, 1) := by decide +kernel
theorem dX11_isGood_14 : decode cX11_isGood 14 = .ok (.ldc2_w 115, 3) := by decide +kernel
theorem dX11_isGood_17 : decode cX11_isGood 17 = .ok (.invokestatic 86, 3) := by decide +kernel
theorem dX11_isGood_20 : decode cX11_isGood 20 = .ok (.ifCond .eq 29, 3) := by decide +kernel
theorem dX11_isGood_23 : decode cX11_isGood 23 = .ok (.aload_n 0, 1) := by decide +kernel
theorem dX11_isGood_24 : decode cX11_isGood 24 = .ok (.getfield 75, 3) := by decide +kernel
theorem dX11_isGood_27 : decode cX11_isGood 27 = .ok (.iconst 1, 1) := by decide +kernel
theorem dX11_isGood_28 : decode cX11_isGood 28 = .ok (.iaload, 1) := by decide +kernel
theorem dX11_isGood_29 : decode cX11_isGood 29 = .ok (.i2l, 1) := by decide +kernel
theorem dX11_isGood_30 : decode cX11_isGood 30 = .ok (.lconst 0, 1) := by decide +kernel
theorem dX11_isGood_31 : decode cX11_isGood 31 = .ok (.lconst 1, 1) := by decide +kernel
theorem dX11_isGood_32 : decode cX11_isGood 32 = .ok (.invokestatic 86, 3) := by decide +kernel
theorem dX11_isGood_35 : decode cX11_isGood 35 = .ok (.ifCond .eq 14, 3) := by decide +kernel
theorem dX11_isGood_38 : decode cX11_isGood 38 = .ok (.aload_n 0, 1) := by decide +kernel
theorem dX11_isGood_39 : decode cX11_isGood 39 = .ok (.getfield 13, 3) := by decide +kernel
theorem dX11_isGood_42 : decode cX11_isGood 42 = .ok (.iconst 1, 1) := by decide +kernel
theorem dX11_isGood_43 : decode cX11_isGood 43 = .ok (.iaload, 1) := by decide +kernel
theorem dX11_isGood_44 : decode cX11_isGood 44 = .ok (.bipush 8, 2) := by decide +kernel
theorem dX11_isGood_46 : decode cX11_isGood 46 = .ok (.if_icmp .ne 5, 3) := by decide +kernel
theorem dX11_isGood_49 : decode cX11_isGood 49 = .ok (.iconst 0, 1) := by decide +kernel
theorem dX11_isGood_50 : decode cX11_isGood 50 = .ok (.ireturn, 1) := by decide +kernel
theorem dX11_isGood_51 : decode cX11_isGood 51 = .ok (.aload_n 0, 1) := by decide +kernel
theorem dX11_isGood_52 : decode cX11_isGood 52 = .ok (.getfield 17, 3) := by decide +kernel
theorem dX11_isGood_55 : decode cX11_isGood 55 = .ok (.bipush 8, 2) := by decide +kernel
theorem dX11_isGood_57 : decode cX11_isGood 57 = .ok (.aload_n 0, 1) := by decide +kernel
theorem dX11_isGood_58 : decode cX11_isGood 58 = .ok (.getfield 13, 3) := by decide +kernel
theorem dX11_isGood_61 : decode cX11_isGood 61 = .ok (.iconst 1, 1) := by decide +kernel
theorem dX11_isGood_62 : decode cX11_isGood 62 = .ok (.iaload, 1) := by decide +kernel
theorem dX11_isGood_63 : decode cX11_isGood 63 = .ok (.iadd, 1) := by decide +kernel
theorem dX11_isGood_64 : decode cX11_isGood 64 = .ok (.aload_n 0, 1) := by decide +kernel
theorem dX11_isGood_65 : decode cX11_isGood 65 = .ok (.getfield 75, 3) := by decide +kernel
theorem dX11_isGood_68 : decode cX11_isGood 68 = .ok (.iconst 0, 1) := by decide +kernel
theorem dX11_isGood_69 : decode cX11_isGood 69 = .ok (.iaload, 1) := by decide +kernel
theorem dX11_isGood_70 : decode cX11_isGood 70 = .ok (.iastore, 1) := by decide +kernel
theorem dX11_isGood_71 : decode cX11_isGood 71 = .ok (.aload_n 0, 1) := by decide +kernel
theorem dX11_isGood_72 : decode cX11_isGood 72 = .ok (.getfield 20, 3) := by decide +kernel
theorem dX11_isGood_75 : decode cX11_isGood 75 = .ok (.bipush 8, 2) := by decide +kernel
theorem dX11_isGood_77 : decode cX11_isGood 77 = .ok (.aload_n 0, 1) := by decide +kernel
theorem dX11_isGood_78 : decode cX11_isGood 78 = .ok (.getfield 13, 3) := by decide +kernel
theorem dX11_isGood_81 : decode cX11_isGood 81 = .ok (.iconst 1, 1) := by decide +kernel
theorem dX11_isGood_82 : decode cX11_isGood 82 = .ok (.iaload, 1) := by decide +kernel
theorem dX11_isGood_83 : decode cX11_isGood 83 = .ok (.iadd, 1) := by decide +kernel
theorem dX11_isGood_84 : decode cX11_isGood 84 = .ok (.aload_n 0, 1) := by decide +kernel
theorem dX11_isGood_85 : decode cX11_isGood 85 = .ok (.getfield 75, 3) := by decide +kernel
theorem dX11_isGood_88 : decode cX11_isGood 88 = .ok (.iconst 1, 1) := by decide +kernel
theorem dX11_isGood_89 : decode cX11_isGood 89 = .ok (.iaload, 1) := by decide +kernel
theorem dX11_isGood_90 : decode cX11_isGood 90 = .ok (.iastore, 1) := by decide +kernel
theorem dX11_isGood_91 : decode cX11_isGood 91 = .ok (.aload_n 0, 1) := by decide +kernel
theorem dX11_isGood_92 : decode cX11_isGood 92 = .ok (.getfield 13, 3) := by decide +kernel
theorem dX11_isGood_95 : decode cX11_isGood 95 = .ok (.iconst 1, 1) := by decide +kernel
theorem dX11_isGood_96 : decode cX11_isGood 96 = .ok (.dup2, 1) := by decide +kernel
theorem dX11_isGood_97 : decode cX11_isGood 97 = .ok (.iaload, 1) := by decide +kernel
theorem dX11_isGood_98 : decode cX11_isGood 98 = .ok (.iconst 1, 1) := by decide +kernel
theorem dX11_isGood_99 : decode cX11_isGood 99 = .ok (.iadd, 1) := by decide +kernel
theorem dX11_isGood_100 : decode cX11_isGood 100 = .ok (.iastore, 1) := by decide +kernel
theorem dX11_isGood_101 : decode cX11_isGood 101 = .ok (.goto 374, 3) := by decide +kernel
theorem dX11_isGood_104 : decode cX11_isGood 104 = .ok (.iload_n 1, 1) := by decide +kernel
theorem dX11_isGood_105 : decode cX11_isGood 105 = .ok (.bipush 115, 2) := by decide +kernel
theorem dX11_isGood_107 : decode cX11_isGood 107 = .ok (.if_icmp .ne 30, 3) := by decide +kernel
theorem dX11_isGood_110 : decode cX11_isGood 110 = .ok (.aload_n 0, 1) := by decide +kernel
theorem dX11_isGood_111 : decode cX11_isGood 111 = .ok (.getfield 23, 3) := by decide +kernel
theorem dX11_isGood_114 : decode cX11_isGood 114 = .ok (.iconst 3, 1) := by decide +kernel
theorem dX11_isGood_115 : decode cX11_isGood 115 = .ok (.aload_n 0, 1) := by decide +kernel
theorem dX11_isGood_116 : decode cX11_isGood 116 = .ok (.getfield 75, 3) := by decide +kernel
theorem dX11_isGood_119 : decode cX11_isGood 119 = .ok (.iconst 0, 1) := by decide +kernel
theorem dX11_isGood_120 : decode cX11_isGood 120 = .ok (.iaload, 1) := by decide +kernel
theorem dX11_isGood_121 : decode cX11_isGood 121 = .ok (.iastore, 1) := by decide +kernel
theorem dX11_isGood_122 : decode cX11_isGood 122 = .ok (.aload_n 0, 1) := by decide +kernel
theorem dX11_isGood_123 : decode cX11_isGood 123 = .ok (.getfield 75, 3) := by decide +kernel
theorem dX11_isGood_126 : decode cX11_isGood 126 = .ok (.iconst 0, 1) := by decide +kernel
theorem dX11_isGood_127 : decode cX11_isGood 127 = .ok (.iaload, 1) := by decide +kernel
theorem dX11_isGood_128 : decode cX11_isGood 128 = .ok (.i2l, 1) := by decide +kernel
theorem dX11_isGood_129 : decode cX11_isGood 129 = .ok (.lconst 0, 1) := by decide +kernel
theorem dX11_isGood_130 : decode cX11_isGood 130 = .ok (.ldc2_w 117, 3) := by decide +kernel
theorem dX11_isGood_133 : decode cX11_isGood 133 = .ok (.invokestatic 86, 3) := by decide +kernel
theorem dX11_isGood_136 : decode cX11_isGood 136 = .ok (.ireturn, 1) := by decide +kernel
theorem dX11_isGood_137 : decode cX11_isGood 137 = .ok (.iload_n 1, 1) := by decide +kernel
theorem dX11_isGood_138 : decode cX11_isGood 138 = .ok (.bipush 114, 2) := by decide +kernel
theorem dX11_isGood_140 : decode cX11_isGood 140 = .ok (.if_icmp .ne 67, 3) := by decide +kernel
theorem dX11_isGood_143 : decode cX11_isGood 143 = .ok (.aload_n 0, 1) := by decide +kernel
theorem dX11_isGood_144 : decode cX11_isGood 144 = .ok (.getfield 23, 3) := by decide +kernel
theorem dX11_isGood_147 : decode cX11_isGood 147 = .ok (.iconst 4, 1) := by decide +kernel
theorem dX11_isGood_148 : decode cX11_isGood 148 = .ok (.aload_n 0, 1) := by decide +kernel
theorem dX11_isGood_149 : decode cX11_isGood 149 = .ok (.getfield 75, 3) := by decide +kernel
theorem dX11_isGood_152 : decode cX11_isGood 152 = .ok (.iconst 0, 1) := by decide +kernel
theorem dX11_isGood_153 : decode cX11_isGood 153 = .ok (.iaload, 1) := by decide +kernel
theorem dX11_isGood_154 : decode cX11_isGood 154 = .ok (.iastore, 1) := by decide +kernel
theorem dX11_isGood_155 : decode cX11_isGood 155 = .ok (.aload_n 0, 1) := by decide +kernel
theorem dX11_isGood_156 : decode cX11_isGood 156 = .ok (.getfield 23, 3) := by decide +kernel
theorem dX11_isGood_159 : decode cX11_isGood 159 = .ok (.iconst 5, 1) := by decide +kernel
theorem dX11_isGood_160 : decode cX11_isGood 160 = .ok (.aload_n 0, 1) := by decide +kernel
theorem dX11_isGood_161 : decode cX11_isGood 161 = .ok (.getfield 75, 3) := by decide +kernel
theorem dX11_isGood_164 : decode cX11_isGood 164 = .ok (.iconst 1, 1) := by decide +kernel
theorem dX11_isGood_165 : decode cX11_isGood 165 = .ok (.iaload, 1) := by decide +kernel
theorem dX11_isGood_166 : decode cX11_isGood 166 = .ok (.iastore, 1) := by decide +kernel
theorem dX11_isGood_167 : decode cX11_isGood 167 = .ok (.aload_n 0, 1) := by decide +kernel
theorem dX11_isGood_168 : decode cX11_isGood 168 = .ok (.getfield 75, 3) := by decide +kernel
theorem dX11_isGood_171 : decode cX11_isGood 171 = .ok (.iconst 0, 1) := by decide +kernel
theorem dX11_isGood_172 : decode cX11_isGood 172 = .ok (.iaload, 1) := by decide +kernel
theorem dX11_isGood_173 : decode cX11_isGood 173 = .ok (.i2l, 1) := by decide +kernel
theorem dX11_isGood_174 : decode cX11_isGood 174 = .ok (.lconst 0, 1) := by decide +kernel
theorem dX11_isGood_175 : decode cX11_isGood 175 = .ok (.ldc2_w 101, 3) := by decide +kernel
theorem dX11_isGood_178 : decode cX11_isGood 178 = .ok (.invokestatic 86, 3) := by decide +kernel
theorem dX11_isGood_181 : decode cX11_isGood 181 = .ok (.ifCond .eq 24, 3) := by decide +kernel
theorem dX11_isGood_184 : decode cX11_isGood 184 = .ok (.aload_n 0, 1) := by decide +kernel
theorem dX11_isGood_185 : decode cX11_isGood 185 = .ok (.getfield 75, 3) := by decide +kernel
theorem dX11_isGood_188 : decode cX11_isGood 188 = .ok (.iconst 1, 1) := by decide +kernel
theorem dX11_isGood_189 : decode cX11_isGood 189 = .ok (.iaload, 1) := by decide +kernel
theorem dX11_isGood_190 : decode cX11_isGood 190 = .ok (.i2l, 1) := by decide +kernel
theorem dX11_isGood_191 : decode cX11_isGood 191 = .ok (.lconst 0, 1) := by decide +kernel
theorem dX11_isGood_192 : decode cX11_isGood 192 = .ok (.ldc2_w 119, 3) := by decide +kernel
theorem dX11_isGood_195 : decode cX11_isGood 195 = .ok (.invokestatic 86, 3) := by decide +kernel
theorem dX11_isGood_198 : decode cX11_isGood 198 = .ok (.ifCond .eq 7, 3) := by decide +kernel
theorem dX11_isGood_201 : decode cX11_isGood 201 = .ok (.iconst 1, 1) := by decide +kernel
theorem dX11_isGood_202 : decode cX11_isGood 202 = .ok (.goto 4, 3) := by decide +kernel
theorem dX11_isGood_205 : decode cX11_isGood 205 = .ok (.iconst 0, 1) := by decide +kernel
theorem dX11_isGood_206 : decode cX11_isGood 206 = .ok (.ireturn, 1) := by decide +kernel
theorem dX11_isGood_207 : decode cX11_isGood 207 = .ok (.iload_n 1, 1) := by decide +kernel
theorem dX11_isGood_208 : decode cX11_isGood 208 = .ok (.bipush 119, 2) := by decide +kernel
theorem dX11_isGood_210 : decode cX11_isGood 210 = .ok (.if_icmp .ne 134, 3) := by decide +kernel
theorem dX11_isGood_213 : decode cX11_isGood 213 = .ok (.aload_n 0, 1) := by decide +kernel
theorem dX11_isGood_214 : decode cX11_isGood 214 = .ok (.getfield 75, 3) := by decide +kernel
theorem dX11_isGood_217 : decode cX11_isGood 217 = .ok (.iconst 0, 1) := by decide +kernel
theorem dX11_isGood_218 : decode cX11_isGood 218 = .ok (.iaload, 1) := by decide +kernel
theorem dX11_isGood_219 : decode cX11_isGood 219 = .ok (.i2l, 1) := by decide +kernel
theorem dX11_isGood_220 : decode cX11_isGood 220 = .ok (.lconst 0, 1) := by decide +kernel
theorem dX11_isGood_221 : decode cX11_isGood 221 = .ok (.aload_n 0, 1) := by decide +kernel
theorem dX11_isGood_222 : decode cX11_isGood 222 = .ok (.getfield 13, 3) := by decide +kernel
theorem dX11_isGood_225 : decode cX11_isGood 225 = .ok (.iconst 1, 1) := by decide +kernel
theorem dX11_isGood_226 : decode cX11_isGood 226 = .ok (.iaload, 1) := by decide +kernel
theorem dX11_isGood_227 : decode cX11_isGood 227 = .ok (.iconst 1, 1) := by decide +kernel
theorem dX11_isGood_228 : decode cX11_isGood 228 = .ok (.isub, 1) := by decide +kernel
theorem dX11_isGood_229 : decode cX11_isGood 229 = .ok (.i2l, 1) := by decide +kernel
theorem dX11_isGood_230 : decode cX11_isGood 230 = .ok (.invokestatic 86, 3) := by decide +kernel
theorem dX11_isGood_233 : decode cX11_isGood 233 = .ok (.ifCond .eq 52, 3) := by decide +kernel
theorem dX11_isGood_236 : decode cX11_isGood 236 = .ok (.aload_n 0, 1) := by decide +kernel
theorem dX11_isGood_237 : decode cX11_isGood 237 = .ok (.getfield 75, 3) := by decide +kernel
theorem dX11_isGood_240 : decode cX11_isGood 240 = .ok (.iconst 1, 1) := by decide +kernel
theorem dX11_isGood_241 : decode cX11_isGood 241 = .ok (.iaload, 1) := by decide +kernel
theorem dX11_isGood_242 : decode cX11_isGood 242 = .ok (.i2l, 1) := by decide +kernel
theorem dX11_isGood_243 : decode cX11_isGood 243 = .ok (.lconst 0, 1) := by decide +kernel
theorem dX11_isGood_244 : decode cX11_isGood 244 = .ok (.aload_n 0, 1) := by decide +kernel
theorem dX11_isGood_245 : decode cX11_isGood 245 = .ok (.getfield 13, 3) := by decide +kernel
theorem dX11_isGood_248 : decode cX11_isGood 248 = .ok (.iconst 1, 1) := by decide +kernel
theorem dX11_isGood_249 : decode cX11_isGood 249 = .ok (.iaload, 1) := by decide +kernel
theorem dX11_isGood_250 : decode cX11_isGood 250 = .ok (.iconst 1, 1) := by decide +kernel
theorem dX11_isGood_251 : decode cX11_isGood 251 = .ok (.isub, 1) := by decide +kernel
theorem dX11_isGood_252 : decode cX11_isGood 252 = .ok (.i2l, 1) := by decide +kernel
theorem dX11_isGood_253 : decode cX11_isGood 253 = .ok (.invokestatic 86, 3) := by decide +kernel
theorem dX11_isGood_256 : decode cX11_isGood 256 = .ok (.ifCond .eq 29, 3) := by decide +kernel
theorem dX11_isGood_259 : decode cX11_isGood 259 = .ok (.aload_n 0, 1) := by decide +kernel
theorem dX11_isGood_260 : decode cX11_isGood 260 = .ok (.getfield 75, 3) := by decide +kernel
theorem dX11_isGood_263 : decode cX11_isGood 263 = .ok (.iconst 0, 1) := by decide +kernel
theorem dX11_isGood_264 : decode cX11_isGood 264 = .ok (.iaload, 1) := by decide +kernel
theorem dX11_isGood_265 : decode cX11_isGood 265 = .ok (.aload_n 0, 1) := by decide +kernel
theorem dX11_isGood_266 : decode cX11_isGood 266 = .ok (.getfield 75, 3) := by decide +kernel
theorem dX11_isGood_269 : decode cX11_isGood 269 = .ok (.iconst 1, 1) := by decide +kernel
theorem dX11_isGood_270 : decode cX11_isGood 270 = .ok (.iaload, 1) := by decide +kernel
theorem dX11_isGood_271 : decode cX11_isGood 271 = .ok (.if_icmp .eq 14, 3) := by decide +kernel
theorem dX11_isGood_274 : decode cX11_isGood 274 = .ok (.aload_n 0, 1) := by decide +kernel
theorem dX11_isGood_275 : decode cX11_isGood 275 = .ok (.getfield 26, 3) := by decide +kernel
theorem dX11_isGood_278 : decode cX11_isGood 278 = .ok (.iconst 1, 1) := by decide +kernel
theorem dX11_isGood_279 : decode cX11_isGood 279 = .ok (.iaload, 1) := by decide +kernel
theorem dX11_isGood_280 : decode cX11_isGood 280 = .ok (.bipush 8, 2) := by decide +kernel
theorem dX11_isGood_282 : decode cX11_isGood 282 = .ok (.if_icmp .ne 5, 3) := by decide +kernel
theorem dX11_isGood_285 : decode cX11_isGood 285 = .ok (.iconst 0, 1) := by decide +kernel
theorem dX11_isGood_286 : decode cX11_isGood 286 = .ok (.ireturn, 1) := by decide +kernel
theorem dX11_isGood_287 : decode cX11_isGood 287 = .ok (.aload_n 0, 1) := by decide +kernel
theorem dX11_isGood_288 : decode cX11_isGood 288 = .ok (.getfield 29, 3) := by decide +kernel
theorem dX11_isGood_291 : decode cX11_isGood 291 = .ok (.bipush 16, 2) := by decide +kernel
theorem dX11_isGood_293 : decode cX11_isGood 293 = .ok (.iconst 2, 1) := by decide +kernel
theorem dX11_isGood_294 : decode cX11_isGood 294 = .ok (.aload_n 0, 1) := by decide +kernel
theorem dX11_isGood_295 : decode cX11_isGood 295 = .ok (.getfield 26, 3) := by decide +kernel
theorem dX11_isGood_298 : decode cX11_isGood 298 = .ok (.iconst 1, 1) := by decide +kernel
theorem dX11_isGood_299 : decode cX11_isGood 299 = .ok (.iaload, 1) := by decide +kernel
theorem dX11_isGood_300 : decode cX11_isGood 300 = .ok (.imul, 1) := by decide +kernel
theorem dX11_isGood_301 : decode cX11_isGood 301 = .ok (.iadd, 1) := by decide +kernel
theorem dX11_isGood_302 : decode cX11_isGood 302 = .ok (.aload_n 0, 1) := by decide +kernel
theorem dX11_isGood_303 : decode cX11_isGood 303 = .ok (.getfield 75, 3) := by decide +kernel
theorem dX11_isGood_306 : decode cX11_isGood 306 = .ok (.iconst 0, 1) := by decide +kernel
theorem dX11_isGood_307 : decode cX11_isGood 307 = .ok (.iaload, 1) := by decide +kernel
theorem dX11_isGood_308 : decode cX11_isGood 308 = .ok (.iastore, 1) := by decide +kernel
theorem dX11_isGood_309 : decode cX11_isGood 309 = .ok (.aload_n 0, 1) := by decide +kernel
theorem dX11_isGood_310 : decode cX11_isGood 310 = .ok (.getfield 29, 3) := by decide +kernel
theorem dX11_isGood_313 : decode cX11_isGood 313 = .ok (.bipush 17, 2) := by decide +kernel
theorem dX11_isGood_315 : decode cX11_isGood 315 = .ok (.iconst 2, 1) := by decide +kernel
theorem dX11_isGood_316 : decode cX11_isGood 316 = .ok (.aload_n 0, 1) := by decide +kernel
theorem dX11_isGood_317 : decode cX11_isGood 317 = .ok (.getfield 26, 3) := by decide +kernel
theorem dX11_isGood_320 : decode cX11_isGood 320 = .ok (.iconst 1, 1) := by decide +kernel
theorem dX11_isGood_321 : decode cX11_isGood 321 = .ok (.iaload, 1) := by decide +kernel
theorem dX11_isGood_322 : decode cX11_isGood 322 = .ok (.imul, 1) := by decide +kernel
theorem dX11_isGood_323 : decode cX11_isGood 323 = .ok (.iadd, 1) := by decide +kernel
theorem dX11_isGood_324 : decode cX11_isGood 324 = .ok (.aload_n 0, 1) := by decide +kernel
theorem dX11_isGood_325 : decode cX11_isGood 325 = .ok (.getfield 75, 3) := by decide +kernel
theorem dX11_isGood_328 : decode cX11_isGood 328 = .ok (.iconst 1, 1) := by decide +kernel
theorem dX11_isGood_329 : decode cX11_isGood 329 = .ok (.iaload, 1) := by decide +kernel
theorem dX11_isGood_330 : decode cX11_isGood 330 = .ok (.iastore, 1) := by decide +kernel
theorem dX11_isGood_331 : decode cX11_isGood 331 = .ok (.aload_n 0, 1) := by decide +kernel
theorem dX11_isGood_332 : decode cX11_isGood 332 = .ok (.getfield 26, 3) := by decide +kernel
theorem dX11_isGood_335 : decode cX11_isGood 335 = .ok (.iconst 1, 1) := by decide +kernel
theorem dX11_isGood_336 : decode cX11_isGood 336 = .ok (.dup2, 1) := by decide +kernel
theorem dX11_isGood_337 : decode cX11_isGood 337 = .ok (.iaload, 1) := by decide +kernel
theorem dX11_isGood_338 : decode cX11_isGood 338 = .ok (.iconst 1, 1) := by decide +kernel
theorem dX11_isGood_339 : decode cX11_isGood 339 = .ok (.iadd, 1) := by decide +kernel
theorem dX11_isGood_340 : decode cX11_isGood 340 = .ok (.iastore, 1) := by decide +kernel
theorem dX11_isGood_341 : decode cX11_isGood 341 = .ok (.goto 134, 3) := by decide +kernel
theorem dX11_isGood_344 : decode cX11_isGood 344 = .ok (.aload_n 0, 1) := by decide +kernel
theorem dX11_isGood_345 : decode cX11_isGood 345 = .ok (.getfield 32, 3) := by decide +kernel
theorem dX11_isGood_348 : decode cX11_isGood 348 = .ok (.iconst 1, 1) := by decide +kernel
theorem dX11_isGood_349 : decode cX11_isGood 349 = .ok (.iaload, 1) := by decide +kernel
theorem dX11_isGood_350 : decode cX11_isGood 350 = .ok (.ifCond .ne 7, 3) := by decide +kernel
theorem dX11_isGood_353 : decode cX11_isGood 353 = .ok (.iconst 0, 1) := by decide +kernel
theorem dX11_isGood_354 : decode cX11_isGood 354 = .ok (.goto 19, 3) := by decide +kernel
theorem dX11_isGood_357 : decode cX11_isGood 357 = .ok (.aload_n 0, 1) := by decide +kernel
theorem dX11_isGood_358 : decode cX11_isGood 358 = .ok (.getfield 35, 3) := by decide +kernel
theorem dX11_isGood_361 : decode cX11_isGood 361 = .ok (.bipush 6, 2) := by decide +kernel
theorem dX11_isGood_363 : decode cX11_isGood 363 = .ok (.iconst 2, 1) := by decide +kernel
theorem dX11_isGood_364 : decode cX11_isGood 364 = .ok (.aload_n 0, 1) := by decide +kernel
theorem dX11_isGood_365 : decode cX11_isGood 365 = .ok (.getfield 32, 3) := by decide +kernel
theorem dX11_isGood_368 : decode cX11_isGood 368 = .ok (.iconst 1, 1) := by decide +kernel
theorem dX11_isGood_369 : decode cX11_isGood 369 = .ok (.iaload, 1) := by decide +kernel
theorem dX11_isGood_370 : decode cX11_isGood 370 = .ok (.imul, 1) := by decide +kernel
theorem dX11_isGood_371 : decode cX11_isGood 371 = .ok (.iadd, 1) := by decide +kernel
theorem dX11_isGood_372 : decode cX11_isGood 372 = .ok (.iaload, 1) := by decide +kernel
theorem dX11_isGood_373 : decode cX11_isGood 373 = .ok (.istore_n 2, 1) := by decide +kernel
theorem dX11_isGood_374 : decode cX11_isGood 374 = .ok (.aload_n 0, 1) := by decide +kernel
theorem dX11_isGood_375 : decode cX11_isGood 375 = .ok (.getfield 75, 3) := by decide +kernel
theorem dX11_isGood_378 : decode cX11_isGood 378 = .ok (.iconst 0, 1) := by decide +kernel
theorem dX11_isGood_379 : decode cX11_isGood 379 = .ok (.iaload, 1) := by decide +kernel
theorem dX11_isGood_380 : decode cX11_isGood 380 = .ok (.i2l, 1) := by decide +kernel
theorem dX11_isGood_381 : decode cX11_isGood 381 = .ok (.iload_n 2, 1) := by decide +kernel
theorem dX11_isGood_382 : decode cX11_isGood 382 = .ok (.i2l, 1) := by decide +kernel
theorem dX11_isGood_383 : decode cX11_isGood 383 = .ok (.ldc2_w 119, 3) := by decide +kernel
theorem dX11_isGood_386 : decode cX11_isGood 386 = .ok (.invokestatic 86, 3) := by decide +kernel
theorem dX11_isGood_389 : decode cX11_isGood 389 = .ok (.ifCond .eq 30, 3) := by decide +kernel
theorem dX11_isGood_392 : decode cX11_isGood 392 = .ok (.aload_n 0, 1) := by decide +kernel
theorem dX11_isGood_393 : decode cX11_isGood 393 = .ok (.getfield 75, 3) := by decide +kernel
theorem dX11_isGood_396 : decode cX11_isGood 396 = .ok (.iconst 1, 1) := by decide +kernel
theorem dX11_isGood_397 : decode cX11_isGood 397 = .ok (.iaload, 1) := by decide +kernel
theorem dX11_isGood_398 : decode cX11_isGood 398 = .ok (.i2l, 1) := by decide +kernel
theorem dX11_isGood_399 : decode cX11_isGood 399 = .ok (.lconst 1, 1) := by decide +kernel
theorem dX11_isGood_400 : decode cX11_isGood 400 = .ok (.ldc2_w 121, 3) := by decide +kernel
theorem dX11_isGood_403 : decode cX11_isGood 403 = .ok (.invokestatic 86, 3) := by decide +kernel
theorem dX11_isGood_406 : decode cX11_isGood 406 = .ok (.ifCond .eq 13, 3) := by decide +kernel
theorem dX11_isGood_409 : decode cX11_isGood 409 = .ok (.aload_n 0, 1) := by decide +kernel
theorem dX11_isGood_410 : decode cX11_isGood 410 = .ok (.getfield 32, 3) := by decide +kernel
theorem dX11_isGood_413 : decode cX11_isGood 413 = .ok (.iconst 1, 1) := by decide +kernel
theorem dX11_isGood_414 : decode cX11_isGood 414 = .ok (.iaload, 1) := by decide +kernel
theorem dX11_isGood_415 : decode cX11_isGood 415 = .ok (.iconst 4, 1) := by decide +kernel
theorem dX11_isGood_416 : decode cX11_isGood 416 = .ok (.if_icmp .ne 5, 3) := by decide +kernel
theorem dX11_isGood_419 : decode cX11_isGood 419 = .ok (.iconst 0, 1) := by decide +kernel
theorem dX11_isGood_420 : decode cX11_isGood 420 = .ok (.ireturn, 1) := by decide +kernel
theorem dX11_isGood_421 : decode cX11_isGood 421 = .ok (.aload_n 0, 1) := by decide +kernel
theorem dX11_isGood_422 : decode cX11_isGood 422 = .ok (.getfield 35, 3) := by decide +kernel
theorem dX11_isGood_425 : decode cX11_isGood 425 = .ok (.bipush 8, 2) := by decide +kernel
theorem dX11_isGood_427 : decode cX11_isGood 427 = .ok (.iconst 2, 1) := by decide +kernel
theorem dX11_isGood_428 : decode cX11_isGood 428 = .ok (.aload_n 0, 1) := by decide +kernel
theorem dX11_isGood_429 : decode cX11_isGood 429 = .ok (.getfield 32, 3) := by decide +kernel
theorem dX11_isGood_432 : decode cX11_isGood 432 = .ok (.iconst 1, 1) := by decide +kernel
theorem dX11_isGood_433 : decode cX11_isGood 433 = .ok (.iaload, 1) := by decide +kernel
theorem dX11_isGood_434 : decode cX11_isGood 434 = .ok (.imul, 1) := by decide +kernel
theorem dX11_isGood_435 : decode cX11_isGood 435 = .ok (.iadd, 1) := by decide +kernel
theorem dX11_isGood_436 : decode cX11_isGood 436 = .ok (.aload_n 0, 1) := by decide +kernel
theorem dX11_isGood_437 : decode cX11_isGood 437 = .ok (.getfield 75, 3) := by decide +kernel
theorem dX11_isGood_440 : decode cX11_isGood 440 = .ok (.iconst 0, 1) := by decide +kernel
theorem dX11_isGood_441 : decode cX11_isGood 441 = .ok (.iaload, 1) := by decide +kernel
theorem dX11_isGood_442 : decode cX11_isGood 442 = .ok (.iastore, 1) := by decide +kernel
theorem dX11_isGood_443 : decode cX11_isGood 443 = .ok (.aload_n 0, 1) := by decide +kernel
theorem dX11_isGood_444 : decode cX11_isGood 444 = .ok (.getfield 35, 3) := by decide +kernel
theorem dX11_isGood_447 : decode cX11_isGood 447 = .ok (.bipush 9, 2) := by decide +kernel
theorem dX11_isGood_449 : decode cX11_isGood 449 = .ok (.iconst 2, 1) := by decide +kernel
theorem dX11_isGood_450 : decode cX11_isGood 450 = .ok (.aload_n 0, 1) := by decide +kernel
theorem dX11_isGood_451 : decode cX11_isGood 451 = .ok (.getfield 32, 3) := by decide +kernel
theorem dX11_isGood_454 : decode cX11_isGood 454 = .ok (.iconst 1, 1) := by decide +kernel
theorem dX11_isGood_455 : decode cX11_isGood 455 = .ok (.iaload, 1) := by decide +kernel
theorem dX11_isGood_456 : decode cX11_isGood 456 = .ok (.imul, 1) := by decide +kernel
theorem dX11_isGood_457 : decode cX11_isGood 457 = .ok (.iadd, 1) := by decide +kernel
theorem dX11_isGood_458 : decode cX11_isGood 458 = .ok (.aload_n 0, 1) := by decide +kernel
theorem dX11_isGood_459 : decode cX11_isGood 459 = .ok (.getfield 75, 3) := by decide +kernel
theorem dX11_isGood_462 : decode cX11_isGood 462 = .ok (.iconst 1, 1) := by decide +kernel
theorem dX11_isGood_463 : decode cX11_isGood 463 = .ok (.iaload, 1) := by decide +kernel
theorem dX11_isGood_464 : decode cX11_isGood 464 = .ok (.iastore, 1) := by decide +kernel
theorem dX11_isGood_465 : decode cX11_isGood 465 = .ok (.aload_n 0, 1) := by decide +kernel
theorem dX11_isGood_466 : decode cX11_isGood 466 = .ok (.getfield 32, 3) := by decide +kernel
theorem dX11_isGood_469 : decode cX11_isGood 469 = .ok (.iconst 1, 1) := by decide +kernel
theorem dX11_isGood_470 : decode cX11_isGood 470 = .ok (.dup2, 1) := by decide +kernel
theorem dX11_isGood_471 : decode cX11_isGood 471 = .ok (.iaload, 1) := by decide +kernel
theorem dX11_isGood_472 : decode cX11_isGood 472 = .ok (.iconst 1, 1) := by decide +kernel
theorem dX11_isGood_473 : decode cX11_isGood 473 = .ok (.iadd, 1) := by decide +kernel
theorem dX11_isGood_474 : decode cX11_isGood 474 = .ok (.iastore, 1) := by decide +kernel
theorem dX11_isGood_475 : decode cX11_isGood 475 = .ok (.iconst 1, 1) := by decide +kernel
theorem dX11_isGood_476 : decode cX11_isGood 476 = .ok (.ireturn, 1) := by decide +kernel
theorem dX11_begins_0 : decode cX11_begins 0 = .ok (.aload_n 0, 1) := by decide +kernel
theorem dX11_begins_1 : decode cX11_begins 1 = .ok (.getfield 13, 3) := by decide +kernel
theorem dX11_begins_4 : decode cX11_begins 4 = .ok (.iconst 1, 1) := by decide +kernel
theorem dX11_begins_5 : decode cX11_begins 5 = .ok (.iconst 0, 1) := by decide +kernel
theorem dX11_begins_6 : decode cX11_begins 6 = .ok (.iastore, 1) := by decide +kernel
theorem dX11_begins_7 : decode cX11_begins 7 = .ok (.aload_n 0, 1) := by decide +kernel
theorem dX11_begins_8 : decode cX11_begins 8 = .ok (.getfield 23, 3) := by decide +kernel
theorem dX11_begins_11 : decode cX11_begins 11 = .ok (.iconst 3, 1) := by decide +kernel
theorem dX11_begins_12 : decode cX11_begins 12 = .ok (.iconst 0, 1) := by decide +kernel
theorem dX11_begins_13 : decode cX11_begins 13 = .ok (.iastore, 1) := by decide +kernel
theorem dX11_begins_14 : decode cX11_begins 14 = .ok (.aload_n 0, 1) := by decide +kernel
theorem dX11_begins_15 : decode cX11_begins 15 = .ok (.getfield 23, 3) := by decide +kernel
theorem dX11_begins_18 : decode cX11_begins 18 = .ok (.iconst 4, 1) := by decide +kernel
theorem dX11_begins_19 : decode cX11_begins 19 = .ok (.iconst 0, 1) := by decide +kernel
theorem dX11_begins_20 : decode cX11_begins 20 = .ok (.iastore, 1) := by decide +kernel
theorem dX11_begins_21 : decode cX11_begins 21 = .ok (.aload_n 0, 1) := by decide +kernel
theorem dX11_begins_22 : decode cX11_begins 22 = .ok (.getfield 23, 3) := by decide +kernel
theorem dX11_begins_25 : decode cX11_begins 25 = .ok (.iconst 5, 1) := by decide +kernel
theorem dX11_begins_26 : decode cX11_begins 26 = .ok (.iconst 0, 1) := by decide +kernel
theorem dX11_begins_27 : decode cX11_begins 27 = .ok (.iastore, 1) := by decide +kernel
theorem dX11_begins_28 : decode cX11_begins 28 = .ok (.aload_n 0, 1) := by decide +kernel
theorem dX11_begins_29 : decode cX11_begins 29 = .ok (.getfield 26, 3) := by decide +kernel
theorem dX11_begins_32 : decode cX11_begins 32 = .ok (.iconst 1, 1) := by decide +kernel
theorem dX11_begins_33 : decode cX11_begins 33 = .ok (.iconst 0, 1) := by decide +kernel
theorem dX11_begins_34 : decode cX11_begins 34 = .ok (.iastore, 1) := by decide +kernel
theorem dX11_begins_35 : decode cX11_begins 35 = .ok (.aload_n 0, 1) := by decide +kernel
theorem dX11_begins_36 : decode cX11_begins 36 = .ok (.getfield 32, 3) := by decide +kernel
theorem dX11_begins_39 : decode cX11_begins 39 = .ok (.iconst 1, 1) := by decide +kernel
theorem dX11_begins_40 : decode cX11_begins 40 = .ok (.iconst 0, 1) := by decide +kernel
theorem dX11_begins_41 : decode cX11_begins 41 = .ok (.iastore, 1) := by decide +kernel
theorem dX11_begins_42 : decode cX11_begins 42 = .ok (.return_, 1) := by decide +kernel
theorem dX11_takes_0 : decode cX11_takes 0 = .ok (.aload_n 0, 1) := by decide +kernel
theorem dX11_takes_1 : decode cX11_takes 1 = .ok (.getfield 13, 3) := by decide +kernel
theorem dX11_takes_4 : decode cX11_takes 4 = .ok (.iconst 0, 1) := by decide +kernel
theorem dX11_takes_5 : decode cX11_takes 5 = .ok (.aload_n 0, 1) := by decide +kernel
theorem dX11_takes_6 : decode cX11_takes 6 = .ok (.getfield 13, 3) := by decide +kernel
theorem dX11_takes_9 : decode cX11_takes 9 = .ok (.iconst 1, 1) := by decide +kernel
theorem dX11_takes_10 : decode cX11_takes 10 = .ok (.iaload, 1) := by decide +kernel
theorem dX11_takes_11 : decode cX11_takes 11 = .ok (.iastore, 1) := by decide +kernel
theorem dX11_takes_12 : decode cX11_takes 12 = .ok (.aload_n 0, 1) := by decide +kernel
theorem dX11_takes_13 : decode cX11_takes 13 = .ok (.getfield 26, 3) := by decide +kernel
theorem dX11_takes_16 : decode cX11_takes 16 = .ok (.iconst 0, 1) := by decide +kernel
theorem dX11_takes_17 : decode cX11_takes 17 = .ok (.aload_n 0, 1) := by decide +kernel
theorem dX11_takes_18 : decode cX11_takes 18 = .ok (.getfield 26, 3) := by decide +kernel
theorem dX11_takes_21 : decode cX11_takes 21 = .ok (.iconst 1, 1) := by decide +kernel
theorem dX11_takes_22 : decode cX11_takes 22 = .ok (.iaload, 1) := by decide +kernel
theorem dX11_takes_23 : decode cX11_takes 23 = .ok (.iastore, 1) := by decide +kernel
theorem dX11_takes_24 : decode cX11_takes 24 = .ok (.aload_n 0, 1) := by decide +kernel
theorem dX11_takes_25 : decode cX11_takes 25 = .ok (.getfield 32, 3) := by decide +kernel
theorem dX11_takes_28 : decode cX11_takes 28 = .ok (.iconst 0, 1) := by decide +kernel
theorem dX11_takes_29 : decode cX11_takes 29 = .ok (.aload_n 0, 1) := by decide +kernel
theorem dX11_takes_30 : decode cX11_takes 30 = .ok (.getfield 32, 3) := by decide +kernel
theorem dX11_takes_33 : decode cX11_takes 33 = .ok (.iconst 1, 1) := by decide +kernel
theorem dX11_takes_34 : decode cX11_takes 34 = .ok (.iaload, 1) := by decide +kernel
theorem dX11_takes_35 : decode cX11_takes 35 = .ok (.iastore, 1) := by decide +kernel
theorem dX11_takes_36 : decode cX11_takes 36 = .ok (.iconst 0, 1) := by decide +kernel
theorem dX11_takes_37 : decode cX11_takes 37 = .ok (.istore_n 1, 1) := by decide +kernel
theorem dX11_takes_38 : decode cX11_takes 38 = .ok (.iload_n 1, 1) := by decide +kernel
theorem dX11_takes_39 : decode cX11_takes 39 = .ok (.bipush 16, 2) := by decide +kernel
theorem dX11_takes_41 : decode cX11_takes 41 = .ok (.if_icmp .ge 106, 3) := by decide +kernel
theorem dX11_takes_44 : decode cX11_takes 44 = .ok (.aload_n 0, 1) := by decide +kernel
theorem dX11_takes_45 : decode cX11_takes 45 = .ok (.getfield 29, 3) := by decide +kernel
theorem dX11_takes_48 : decode cX11_takes 48 = .ok (.iload_n 1, 1) := by decide +kernel
theorem dX11_takes_49 : decode cX11_takes 49 = .ok (.aload_n 0, 1) := by decide +kernel
theorem dX11_takes_50 : decode cX11_takes 50 = .ok (.getfield 29, 3) := by decide +kernel
theorem dX11_takes_53 : decode cX11_takes 53 = .ok (.bipush 16, 2) := by decide +kernel
theorem dX11_takes_55 : decode cX11_takes 55 = .ok (.iload_n 1, 1) := by decide +kernel
theorem dX11_takes_56 : decode cX11_takes 56 = .ok (.iadd, 1) := by decide +kernel
theorem dX11_takes_57 : decode cX11_takes 57 = .ok (.iaload, 1) := by decide +kernel
theorem dX11_takes_58 : decode cX11_takes 58 = .ok (.iastore, 1) := by decide +kernel
theorem dX11_takes_59 : decode cX11_takes 59 = .ok (.iload_n 1, 1) := by decide +kernel
theorem dX11_takes_60 : decode cX11_takes 60 = .ok (.bipush 8, 2) := by decide +kernel
theorem dX11_takes_62 : decode cX11_takes 62 = .ok (.if_icmp .ge 60, 3) := by decide +kernel
theorem dX11_takes_65 : decode cX11_takes 65 = .ok (.aload_n 0, 1) := by decide +kernel
theorem dX11_takes_66 : decode cX11_takes 66 = .ok (.getfield 17, 3) := by decide +kernel
theorem dX11_takes_69 : decode cX11_takes 69 = .ok (.iload_n 1, 1) := by decide +kernel
theorem dX11_takes_70 : decode cX11_takes 70 = .ok (.aload_n 0, 1) := by decide +kernel
theorem dX11_takes_71 : decode cX11_takes 71 = .ok (.getfield 17, 3) := by decide +kernel
theorem dX11_takes_74 : decode cX11_takes 74 = .ok (.bipush 8, 2) := by decide +kernel
theorem dX11_takes_76 : decode cX11_takes 76 = .ok (.iload_n 1, 1) := by decide +kernel
theorem dX11_takes_77 : decode cX11_takes 77 = .ok (.iadd, 1) := by decide +kernel
theorem dX11_takes_78 : decode cX11_takes 78 = .ok (.iaload, 1) := by decide +kernel
theorem dX11_takes_79 : decode cX11_takes 79 = .ok (.iastore, 1) := by decide +kernel
theorem dX11_takes_80 : decode cX11_takes 80 = .ok (.aload_n 0, 1) := by decide +kernel
theorem dX11_takes_81 : decode cX11_takes 81 = .ok (.getfield 20, 3) := by decide +kernel
theorem dX11_takes_84 : decode cX11_takes 84 = .ok (.iload_n 1, 1) := by decide +kernel
theorem dX11_takes_85 : decode cX11_takes 85 = .ok (.aload_n 0, 1) := by decide +kernel
theorem dX11_takes_86 : decode cX11_takes 86 = .ok (.getfield 20, 3) := by decide +kernel
theorem dX11_takes_89 : decode cX11_takes 89 = .ok (.bipush 8, 2) := by decide +kernel
theorem dX11_takes_91 : decode cX11_takes 91 = .ok (.iload_n 1, 1) := by decide +kernel
theorem dX11_takes_92 : decode cX11_takes 92 = .ok (.iadd, 1) := by decide +kernel
theorem dX11_takes_93 : decode cX11_takes 93 = .ok (.iaload, 1) := by decide +kernel
theorem dX11_takes_94 : decode cX11_takes 94 = .ok (.iastore, 1) := by decide +kernel
theorem dX11_takes_95 : decode cX11_takes 95 = .ok (.aload_n 0, 1) := by decide +kernel
theorem dX11_takes_96 : decode cX11_takes 96 = .ok (.getfield 35, 3) := by decide +kernel
theorem dX11_takes_99 : decode cX11_takes 99 = .ok (.iload_n 1, 1) := by decide +kernel
theorem dX11_takes_100 : decode cX11_takes 100 = .ok (.aload_n 0, 1) := by decide +kernel
theorem dX11_takes_101 : decode cX11_takes 101 = .ok (.getfield 35, 3) := by decide +kernel
theorem dX11_takes_104 : decode cX11_takes 104 = .ok (.bipush 8, 2) := by decide +kernel
theorem dX11_takes_106 : decode cX11_takes 106 = .ok (.iload_n 1, 1) := by decide +kernel
theorem dX11_takes_107 : decode cX11_takes 107 = .ok (.iadd, 1) := by decide +kernel
theorem dX11_takes_108 : decode cX11_takes 108 = .ok (.iaload, 1) := by decide +kernel
theorem dX11_takes_109 : decode cX11_takes 109 = .ok (.iastore, 1) := by decide +kernel
theorem dX11_takes_110 : decode cX11_takes 110 = .ok (.aload_n 0, 1) := by decide +kernel
theorem dX11_takes_111 : decode cX11_takes 111 = .ok (.getfield 48, 3) := by decide +kernel
theorem dX11_takes_114 : decode cX11_takes 114 = .ok (.iload_n 1, 1) := by decide +kernel
theorem dX11_takes_115 : decode cX11_takes 115 = .ok (.aload_n 0, 1) := by decide +kernel
theorem dX11_takes_116 : decode cX11_takes 116 = .ok (.getfield 17, 3) := by decide +kernel
theorem dX11_takes_119 : decode cX11_takes 119 = .ok (.iload_n 1, 1) := by decide +kernel
theorem dX11_takes_120 : decode cX11_takes 120 = .ok (.iaload, 1) := by decide +kernel
theorem dX11_takes_121 : decode cX11_takes 121 = .ok (.iastore, 1) := by decide +kernel
theorem dX11_takes_122 : decode cX11_takes 122 = .ok (.iload_n 1, 1) := by decide +kernel
theorem dX11_takes_123 : decode cX11_takes 123 = .ok (.iconst 3, 1) := by decide +kernel
theorem dX11_takes_124 : decode cX11_takes 124 = .ok (.if_icmp .ge 17, 3) := by decide +kernel
theorem dX11_takes_127 : decode cX11_takes 127 = .ok (.aload_n 0, 1) := by decide +kernel
theorem dX11_takes_128 : decode cX11_takes 128 = .ok (.getfield 23, 3) := by decide +kernel
theorem dX11_takes_131 : decode cX11_takes 131 = .ok (.iload_n 1, 1) := by decide +kernel
theorem dX11_takes_132 : decode cX11_takes 132 = .ok (.aload_n 0, 1) := by decide +kernel
theorem dX11_takes_133 : decode cX11_takes 133 = .ok (.getfield 23, 3) := by decide +kernel
theorem dX11_takes_136 : decode cX11_takes 136 = .ok (.iconst 3, 1) := by decide +kernel
theorem dX11_takes_137 : decode cX11_takes 137 = .ok (.iload_n 1, 1) := by decide +kernel
theorem dX11_takes_138 : decode cX11_takes 138 = .ok (.iadd, 1) := by decide +kernel
theorem dX11_takes_139 : decode cX11_takes 139 = .ok (.iaload, 1) := by decide +kernel
theorem dX11_takes_140 : decode cX11_takes 140 = .ok (.iastore, 1) := by decide +kernel
theorem dX11_takes_141 : decode cX11_takes 141 = .ok (.iinc 1 1, 3) := by decide +kernel
theorem dX11_takes_144 : decode cX11_takes 144 = .ok (.goto (-106), 3) := by decide +kernel
theorem dX11_takes_147 : decode cX11_takes 147 = .ok (.aload_n 0, 1) := by decide +kernel
theorem dX11_takes_148 : decode cX11_takes 148 = .ok (.iconst 0, 1) := by decide +kernel
theorem dX11_takes_149 : decode cX11_takes 149 = .ok (.putfield 123, 3) := by decide +kernel
theorem dX11_takes_152 : decode cX11_takes 152 = .ok (.iconst 0, 1) := by decide +kernel
theorem dX11_takes_153 : decode cX11_takes 153 = .ok (.istore_n 1, 1) := by decide +kernel
theorem dX11_takes_154 : decode cX11_takes 154 = .ok (.iload_n 1, 1) := by decide +kernel
theorem dX11_takes_155 : decode cX11_takes 155 = .ok (.aload_n 0, 1) := by decide +kernel
theorem dX11_takes_156 : decode cX11_takes 156 = .ok (.getfield 13, 3) := by decide +kernel
theorem dX11_takes_159 : decode cX11_takes 159 = .ok (.iconst 0, 1) := by decide +kernel
theorem dX11_takes_160 : decode cX11_takes 160 = .ok (.iaload, 1) := by decide +kernel
theorem dX11_takes_161 : decode cX11_takes 161 = .ok (.if_icmp .ge 83, 3) := by decide +kernel
theorem dX11_takes_164 : decode cX11_takes 164 = .ok (.iload_n 1, 1) := by decide +kernel
theorem dX11_takes_165 : decode cX11_takes 165 = .ok (.iconst 1, 1) := by decide +kernel
theorem dX11_takes_166 : decode cX11_takes 166 = .ok (.iadd, 1) := by decide +kernel
theorem dX11_takes_167 : decode cX11_takes 167 = .ok (.istore_n 2, 1) := by decide +kernel
theorem dX11_takes_168 : decode cX11_takes 168 = .ok (.iload_n 2, 1) := by decide +kernel
theorem dX11_takes_169 : decode cX11_takes 169 = .ok (.aload_n 0, 1) := by decide +kernel
theorem dX11_takes_170 : decode cX11_takes 170 = .ok (.getfield 13, 3) := by decide +kernel
theorem dX11_takes_173 : decode cX11_takes 173 = .ok (.iconst 0, 1) := by decide +kernel
theorem dX11_takes_174 : decode cX11_takes 174 = .ok (.iaload, 1) := by decide +kernel
theorem dX11_takes_175 : decode cX11_takes 175 = .ok (.if_icmp .ge 63, 3) := by decide +kernel
theorem dX11_takes_178 : decode cX11_takes 178 = .ok (.aload_n 0, 1) := by decide +kernel
theorem dX11_takes_179 : decode cX11_takes 179 = .ok (.iload_n 1, 1) := by decide +kernel
theorem dX11_takes_180 : decode cX11_takes 180 = .ok (.iload_n 2, 1) := by decide +kernel
theorem dX11_takes_181 : decode cX11_takes 181 = .ok (.invokevirtual 126, 3) := by decide +kernel
theorem dX11_takes_184 : decode cX11_takes 184 = .ok (.ifCond .eq 48, 3) := by decide +kernel
theorem dX11_takes_187 : decode cX11_takes 187 = .ok (.aload_n 0, 1) := by decide +kernel
theorem dX11_takes_188 : decode cX11_takes 188 = .ok (.getfield 38, 3) := by decide +kernel
theorem dX11_takes_191 : decode cX11_takes 191 = .ok (.aload_n 0, 1) := by decide +kernel
theorem dX11_takes_192 : decode cX11_takes 192 = .ok (.getfield 123, 3) := by decide +kernel
theorem dX11_takes_195 : decode cX11_takes 195 = .ok (.iload_n 1, 1) := by decide +kernel
theorem dX11_takes_196 : decode cX11_takes 196 = .ok (.iastore, 1) := by decide +kernel
theorem dX11_takes_197 : decode cX11_takes 197 = .ok (.aload_n 0, 1) := by decide +kernel
theorem dX11_takes_198 : decode cX11_takes 198 = .ok (.getfield 41, 3) := by decide +kernel
theorem dX11_takes_201 : decode cX11_takes 201 = .ok (.aload_n 0, 1) := by decide +kernel
theorem dX11_takes_202 : decode cX11_takes 202 = .ok (.getfield 123, 3) := by decide +kernel
theorem dX11_takes_205 : decode cX11_takes 205 = .ok (.iload_n 2, 1) := by decide +kernel
theorem dX11_takes_206 : decode cX11_takes 206 = .ok (.iastore, 1) := by decide +kernel
theorem dX11_takes_207 : decode cX11_takes 207 = .ok (.aload_n 0, 1) := by decide +kernel
theorem dX11_takes_208 : decode cX11_takes 208 = .ok (.getfield 44, 3) := by decide +kernel
theorem dX11_takes_211 : decode cX11_takes 211 = .ok (.aload_n 0, 1) := by decide +kernel
theorem dX11_takes_212 : decode cX11_takes 212 = .ok (.getfield 123, 3) := by decide +kernel
theorem dX11_takes_215 : decode cX11_takes 215 = .ok (.aload_n 0, 1) := by decide +kernel
theorem dX11_takes_216 : decode cX11_takes 216 = .ok (.iload_n 1, 1) := by decide +kernel
theorem dX11_takes_217 : decode cX11_takes 217 = .ok (.iload_n 2, 1) := by decide +kernel
theorem dX11_takes_218 : decode cX11_takes 218 = .ok (.invokevirtual 130, 3) := by decide +kernel
theorem dX11_takes_221 : decode cX11_takes 221 = .ok (.bastore, 1) := by decide +kernel
theorem dX11_takes_222 : decode cX11_takes 222 = .ok (.aload_n 0, 1) := by decide +kernel
theorem dX11_takes_223 : decode cX11_takes 223 = .ok (.dup, 1) := by decide +kernel
theorem dX11_takes_224 : decode cX11_takes 224 = .ok (.getfield 123, 3) := by decide +kernel
theorem dX11_takes_227 : decode cX11_takes 227 = .ok (.iconst 1, 1) := by decide +kernel
theorem dX11_takes_228 : decode cX11_takes 228 = .ok (.iadd, 1) := by decide +kernel
theorem dX11_takes_229 : decode cX11_takes 229 = .ok (.putfield 123, 3) := by decide +kernel
theorem dX11_takes_232 : decode cX11_takes 232 = .ok (.iinc 2 1, 3) := by decide +kernel
theorem dX11_takes_235 : decode cX11_takes 235 = .ok (.goto (-67), 3) := by decide +kernel
theorem dX11_takes_238 : decode cX11_takes 238 = .ok (.iinc 1 1, 3) := by decide +kernel
theorem dX11_takes_241 : decode cX11_takes 241 = .ok (.goto (-87), 3) := by decide +kernel
theorem dX11_takes_244 : decode cX11_takes 244 = .ok (.aload_n 0, 1) := by decide +kernel
theorem dX11_takes_245 : decode cX11_takes 245 = .ok (.iconst 0, 1) := by decide +kernel
theorem dX11_takes_246 : decode cX11_takes 246 = .ok (.putfield 133, 3) := by decide +kernel
theorem dX11_takes_249 : decode cX11_takes 249 = .ok (.aload_n 0, 1) := by decide +kernel
theorem dX11_takes_250 : decode cX11_takes 250 = .ok (.iconst 0, 1) := by decide +kernel
theorem dX11_takes_251 : decode cX11_takes 251 = .ok (.putfield 136, 3) := by decide +kernel
theorem dX11_takes_254 : decode cX11_takes 254 = .ok (.aload_n 0, 1) := by decide +kernel
theorem dX11_takes_255 : decode cX11_takes 255 = .ok (.iconst 0, 1) := by decide +kernel
theorem dX11_takes_256 : decode cX11_takes 256 = .ok (.putfield 139, 3) := by decide +kernel
theorem dX11_takes_259 : decode cX11_takes 259 = .ok (.return_, 1) := by decide +kernel
theorem dX11_touch_0 : decode cX11_touch 0 = .ok (.aload_n 0, 1) := by decide +kernel
theorem dX11_touch_1 : decode cX11_touch 1 = .ok (.getfield 13, 3) := by decide +kernel
theorem dX11_touch_4 : decode cX11_touch 4 = .ok (.iconst 0, 1) := by decide +kernel
theorem dX11_touch_5 : decode cX11_touch 5 = .ok (.iaload, 1) := by decide +kernel
theorem dX11_touch_6 : decode cX11_touch 6 = .ok (.istore_n 3, 1) := by decide +kernel
theorem dX11_touch_7 : decode cX11_touch 7 = .ok (.iload_n 3, 1) := by decide +kernel
theorem dX11_touch_8 : decode cX11_touch 8 = .ok (.iconst 1, 1) := by decide +kernel
theorem dX11_touch_9 : decode cX11_touch 9 = .ok (.iadd, 1) := by decide +kernel
theorem dX11_touch_10 : decode cX11_touch 10 = .ok (.iconst 2, 1) := by decide +kernel
theorem dX11_touch_11 : decode cX11_touch 11 = .ok (.idiv, 1) := by decide +kernel
theorem dX11_touch_12 : decode cX11_touch 12 = .ok (.istore 4, 2) := by decide +kernel
theorem dX11_touch_14 : decode cX11_touch 14 = .ok (.aload_n 0, 1) := by decide +kernel
theorem dX11_touch_15 : decode cX11_touch 15 = .ok (.getfield 23, 3) := by decide +kernel
theorem dX11_touch_18 : decode cX11_touch 18 = .ok (.iconst 0, 1) := by decide +kernel
theorem dX11_touch_19 : decode cX11_touch 19 = .ok (.iaload, 1) := by decide +kernel
theorem dX11_touch_20 : decode cX11_touch 20 = .ok (.ifCond .ne 16, 3) := by decide +kernel
theorem dX11_touch_23 : decode cX11_touch 23 = .ok (.iload_n 2, 1) := by decide +kernel
theorem dX11_touch_24 : decode cX11_touch 24 = .ok (.iload_n 1, 1) := by decide +kernel
theorem dX11_touch_25 : decode cX11_touch 25 = .ok (.iconst 1, 1) := by decide +kernel
theorem dX11_touch_26 : decode cX11_touch 26 = .ok (.iadd, 1) := by decide +kernel
theorem dX11_touch_27 : decode cX11_touch 27 = .ok (.if_icmp .ne 7, 3) := by decide +kernel
theorem dX11_touch_30 : decode cX11_touch 30 = .ok (.iconst 1, 1) := by decide +kernel
theorem dX11_touch_31 : decode cX11_touch 31 = .ok (.goto 4, 3) := by decide +kernel
theorem dX11_touch_34 : decode cX11_touch 34 = .ok (.iconst 0, 1) := by decide +kernel
theorem dX11_touch_35 : decode cX11_touch 35 = .ok (.ireturn, 1) := by decide +kernel
theorem dX11_touch_36 : decode cX11_touch 36 = .ok (.aload_n 0, 1) := by decide +kernel
theorem dX11_touch_37 : decode cX11_touch 37 = .ok (.getfield 23, 3) := by decide +kernel
theorem dX11_touch_40 : decode cX11_touch 40 = .ok (.iconst 0, 1) := by decide +kernel
theorem dX11_touch_41 : decode cX11_touch 41 = .ok (.iaload, 1) := by decide +kernel
theorem dX11_touch_42 : decode cX11_touch 42 = .ok (.iconst 1, 1) := by decide +kernel
theorem dX11_touch_43 : decode cX11_touch 43 = .ok (.if_icmp .ne 32, 3) := by decide +kernel
theorem dX11_touch_46 : decode cX11_touch 46 = .ok (.iload_n 2, 1) := by decide +kernel
theorem dX11_touch_47 : decode cX11_touch 47 = .ok (.iload_n 1, 1) := by decide +kernel
theorem dX11_touch_48 : decode cX11_touch 48 = .ok (.iconst 1, 1) := by decide +kernel
theorem dX11_touch_49 : decode cX11_touch 49 = .ok (.iadd, 1) := by decide +kernel
theorem dX11_touch_50 : decode cX11_touch 50 = .ok (.if_icmp .eq 19, 3) := by decide +kernel
theorem dX11_touch_53 : decode cX11_touch 53 = .ok (.iload_n 3, 1) := by decide +kernel
theorem dX11_touch_54 : decode cX11_touch 54 = .ok (.iconst 2, 1) := by decide +kernel
theorem dX11_touch_55 : decode cX11_touch 55 = .ok (.if_icmp .le 18, 3) := by decide +kernel
theorem dX11_touch_58 : decode cX11_touch 58 = .ok (.iload_n 1, 1) := by decide +kernel
theorem dX11_touch_59 : decode cX11_touch 59 = .ok (.ifCond .ne 14, 3) := by decide +kernel
theorem dX11_touch_62 : decode cX11_touch 62 = .ok (.iload_n 2, 1) := by decide +kernel
theorem dX11_touch_63 : decode cX11_touch 63 = .ok (.iload_n 3, 1) := by decide +kernel
theorem dX11_touch_64 : decode cX11_touch 64 = .ok (.iconst 1, 1) := by decide +kernel
theorem dX11_touch_65 : decode cX11_touch 65 = .ok (.isub, 1) := by decide +kernel
theorem dX11_touch_66 : decode cX11_touch 66 = .ok (.if_icmp .ne 7, 3) := by decide +kernel
theorem dX11_touch_69 : decode cX11_touch 69 = .ok (.iconst 1, 1) := by decide +kernel
theorem dX11_touch_70 : decode cX11_touch 70 = .ok (.goto 4, 3) := by decide +kernel
theorem dX11_touch_73 : decode cX11_touch 73 = .ok (.iconst 0, 1) := by decide +kernel
theorem dX11_touch_74 : decode cX11_touch 74 = .ok (.ireturn, 1) := by decide +kernel
theorem dX11_touch_75 : decode cX11_touch 75 = .ok (.iload_n 2, 1) := by decide +kernel
theorem dX11_touch_76 : decode cX11_touch 76 = .ok (.iload_n 1, 1) := by decide +kernel
theorem dX11_touch_77 : decode cX11_touch 77 = .ok (.iconst 1, 1) := by decide +kernel
theorem dX11_touch_78 : decode cX11_touch 78 = .ok (.iadd, 1) := by decide +kernel
theorem dX11_touch_79 : decode cX11_touch 79 = .ok (.if_icmp .ne 9, 3) := by decide +kernel
theorem dX11_touch_82 : decode cX11_touch 82 = .ok (.iload_n 2, 1) := by decide +kernel
theorem dX11_touch_83 : decode cX11_touch 83 = .ok (.iload 4, 2) := by decide +kernel
theorem dX11_touch_85 : decode cX11_touch 85 = .ok (.if_icmp .ne 17, 3) := by decide +kernel
theorem dX11_touch_88 : decode cX11_touch 88 = .ok (.iload_n 2, 1) := by decide +kernel
theorem dX11_touch_89 : decode cX11_touch 89 = .ok (.iload 4, 2) := by decide +kernel
theorem dX11_touch_91 : decode cX11_touch 91 = .ok (.iload_n 1, 1) := by decide +kernel
theorem dX11_touch_92 : decode cX11_touch 92 = .ok (.iadd, 1) := by decide +kernel
theorem dX11_touch_93 : decode cX11_touch 93 = .ok (.if_icmp .ne 13, 3) := by decide +kernel
theorem dX11_touch_96 : decode cX11_touch 96 = .ok (.iload_n 1, 1) := by decide +kernel
theorem dX11_touch_97 : decode cX11_touch 97 = .ok (.iload 4, 2) := by decide +kernel
theorem dX11_touch_99 : decode cX11_touch 99 = .ok (.if_icmp .ge 7, 3) := by decide +kernel
theorem dX11_touch_102 : decode cX11_touch 102 = .ok (.iconst 1, 1) := by decide +kernel
theorem dX11_touch_103 : decode cX11_touch 103 = .ok (.goto 4, 3) := by decide +kernel
theorem dX11_touch_106 : decode cX11_touch 106 = .ok (.iconst 0, 1) := by decide +kernel
theorem dX11_touch_107 : decode cX11_touch 107 = .ok (.ireturn, 1) := by decide +kernel
theorem dX11_isShut_0 : decode cX11_isShut 0 = .ok (.iconst 0, 1) := by decide +kernel
theorem dX11_isShut_1 : decode cX11_isShut 1 = .ok (.istore_n 3, 1) := by decide +kernel
theorem dX11_isShut_2 : decode cX11_isShut 2 = .ok (.iconst 0, 1) := by decide +kernel
theorem dX11_isShut_3 : decode cX11_isShut 3 = .ok (.istore 4, 2) := by decide +kernel
theorem dX11_isShut_5 : decode cX11_isShut 5 = .ok (.iload 4, 2) := by decide +kernel
theorem dX11_isShut_7 : decode cX11_isShut 7 = .ok (.aload_n 0, 1) := by decide +kernel
theorem dX11_isShut_8 : decode cX11_isShut 8 = .ok (.getfield 26, 3) := by decide +kernel
theorem dX11_isShut_11 : decode cX11_isShut 11 = .ok (.iconst 0, 1) := by decide +kernel
theorem dX11_isShut_12 : decode cX11_isShut 12 = .ok (.iaload, 1) := by decide +kernel
theorem dX11_isShut_13 : decode cX11_isShut 13 = .ok (.if_icmp .ge 75, 3) := by decide +kernel
theorem dX11_isShut_16 : decode cX11_isShut 16 = .ok (.iload_n 3, 1) := by decide +kernel
theorem dX11_isShut_17 : decode cX11_isShut 17 = .ok (.ifCond .ne 59, 3) := by decide +kernel
theorem dX11_isShut_20 : decode cX11_isShut 20 = .ok (.aload_n 0, 1) := by decide +kernel
theorem dX11_isShut_21 : decode cX11_isShut 21 = .ok (.getfield 29, 3) := by decide +kernel
theorem dX11_isShut_24 : decode cX11_isShut 24 = .ok (.iconst 2, 1) := by decide +kernel
theorem dX11_isShut_25 : decode cX11_isShut 25 = .ok (.iload 4, 2) := by decide +kernel
theorem dX11_isShut_27 : decode cX11_isShut 27 = .ok (.imul, 1) := by decide +kernel
theorem dX11_isShut_28 : decode cX11_isShut 28 = .ok (.iaload, 1) := by decide +kernel
theorem dX11_isShut_29 : decode cX11_isShut 29 = .ok (.iload_n 1, 1) := by decide +kernel
theorem dX11_isShut_30 : decode cX11_isShut 30 = .ok (.if_icmp .ne 18, 3) := by decide +kernel
theorem dX11_isShut_33 : decode cX11_isShut 33 = .ok (.aload_n 0, 1) := by decide +kernel
theorem dX11_isShut_34 : decode cX11_isShut 34 = .ok (.getfield 29, 3) := by decide +kernel
theorem dX11_isShut_37 : decode cX11_isShut 37 = .ok (.iconst 2, 1) := by decide +kernel
theorem dX11_isShut_38 : decode cX11_isShut 38 = .ok (.iload 4, 2) := by decide +kernel
theorem dX11_isShut_40 : decode cX11_isShut 40 = .ok (.imul, 1) := by decide +kernel
theorem dX11_isShut_41 : decode cX11_isShut 41 = .ok (.iconst 1, 1) := by decide +kernel
theorem dX11_isShut_42 : decode cX11_isShut 42 = .ok (.iadd, 1) := by decide +kernel
theorem dX11_isShut_43 : decode cX11_isShut 43 = .ok (.iaload, 1) := by decide +kernel
theorem dX11_isShut_44 : decode cX11_isShut 44 = .ok (.iload_n 2, 1) := by decide +kernel
theorem dX11_isShut_45 : decode cX11_isShut 45 = .ok (.if_icmp .eq 31, 3) := by decide +kernel
theorem dX11_isShut_48 : decode cX11_isShut 48 = .ok (.aload_n 0, 1) := by decide +kernel
theorem dX11_isShut_49 : decode cX11_isShut 49 = .ok (.getfield 29, 3) := by decide +kernel
theorem dX11_isShut_52 : decode cX11_isShut 52 = .ok (.iconst 2, 1) := by decide +kernel
theorem dX11_isShut_53 : decode cX11_isShut 53 = .ok (.iload 4, 2) := by decide +kernel
theorem dX11_isShut_55 : decode cX11_isShut 55 = .ok (.imul, 1) := by decide +kernel
theorem dX11_isShut_56 : decode cX11_isShut 56 = .ok (.iaload, 1) := by decide +kernel
theorem dX11_isShut_57 : decode cX11_isShut 57 = .ok (.iload_n 2, 1) := by decide +kernel
theorem dX11_isShut_58 : decode cX11_isShut 58 = .ok (.if_icmp .ne 22, 3) := by decide +kernel
theorem dX11_isShut_61 : decode cX11_isShut 61 = .ok (.aload_n 0, 1) := by decide +kernel
theorem dX11_isShut_62 : decode cX11_isShut 62 = .ok (.getfield 29, 3) := by decide +kernel
theorem dX11_isShut_65 : decode cX11_isShut 65 = .ok (.iconst 2, 1) := by decide +kernel
theorem dX11_isShut_66 : decode cX11_isShut 66 = .ok (.iload 4, 2) := by decide +kernel
theorem dX11_isShut_68 : decode cX11_isShut 68 = .ok (.imul, 1) := by decide +kernel
theorem dX11_isShut_69 : decode cX11_isShut 69 = .ok (.iconst 1, 1) := by decide +kernel
theorem dX11_isShut_70 : decode cX11_isShut 70 = .ok (.iadd, 1) := by decide +kernel
theorem dX11_isShut_71 : decode cX11_isShut 71 = .ok (.iaload, 1) := by decide +kernel
theorem dX11_isShut_72 : decode cX11_isShut 72 = .ok (.iload_n 1, 1) := by decide +kernel
theorem dX11_isShut_73 : decode cX11_isShut 73 = .ok (.if_icmp .ne 7, 3) := by decide +kernel
theorem dX11_isShut_76 : decode cX11_isShut 76 = .ok (.iconst 1, 1) := by decide +kernel
theorem dX11_isShut_77 : decode cX11_isShut 77 = .ok (.goto 4, 3) := by decide +kernel
theorem dX11_isShut_80 : decode cX11_isShut 80 = .ok (.iconst 0, 1) := by decide +kernel
theorem dX11_isShut_81 : decode cX11_isShut 81 = .ok (.istore_n 3, 1) := by decide +kernel
theorem dX11_isShut_82 : decode cX11_isShut 82 = .ok (.iinc 4 1, 3) := by decide +kernel
theorem dX11_isShut_85 : decode cX11_isShut 85 = .ok (.goto (-80), 3) := by decide +kernel
theorem dX11_isShut_88 : decode cX11_isShut 88 = .ok (.iload_n 3, 1) := by decide +kernel
theorem dX11_isShut_89 : decode cX11_isShut 89 = .ok (.ireturn, 1) := by decide +kernel
theorem dX11_fault_0 : decode cX11_fault 0 = .ok (.aload_n 0, 1) := by decide +kernel
theorem dX11_fault_1 : decode cX11_fault 1 = .ok (.iconst 0, 1) := by decide +kernel
theorem dX11_fault_2 : decode cX11_fault 2 = .ok (.putfield 94, 3) := by decide +kernel
theorem dX11_fault_5 : decode cX11_fault 5 = .ok (.aload_n 0, 1) := by decide +kernel
theorem dX11_fault_6 : decode cX11_fault 6 = .ok (.invokevirtual 78, 3) := by decide +kernel
theorem dX11_fault_9 : decode cX11_fault 9 = .ok (.aload_n 0, 1) := by decide +kernel
theorem dX11_fault_10 : decode cX11_fault 10 = .ok (.getfield 94, 3) := by decide +kernel
theorem dX11_fault_13 : decode cX11_fault 13 = .ok (.aload_n 0, 1) := by decide +kernel
theorem dX11_fault_14 : decode cX11_fault 14 = .ok (.getfield 90, 3) := by decide +kernel
theorem dX11_fault_17 : decode cX11_fault 17 = .ok (.if_icmp .ge 20, 3) := by decide +kernel
theorem dX11_fault_20 : decode cX11_fault 20 = .ok (.aload_n 0, 1) := by decide +kernel
theorem dX11_fault_21 : decode cX11_fault 21 = .ok (.getfield 94, 3) := by decide +kernel
theorem dX11_fault_24 : decode cX11_fault 24 = .ok (.istore_n 1, 1) := by decide +kernel
theorem dX11_fault_25 : decode cX11_fault 25 = .ok (.aload_n 0, 1) := by decide +kernel
theorem dX11_fault_26 : decode cX11_fault 26 = .ok (.invokevirtual 142, 3) := by decide +kernel
theorem dX11_fault_29 : decode cX11_fault 29 = .ok (.ifCond .ne 5, 3) := by decide +kernel
theorem dX11_fault_32 : decode cX11_fault 32 = .ok (.iload_n 1, 1) := by decide +kernel
theorem dX11_fault_33 : decode cX11_fault 33 = .ok (.ireturn, 1) := by decide +kernel
theorem dX11_fault_34 : decode cX11_fault 34 = .ok (.goto (-25), 3) := by decide +kernel
theorem dX11_fault_37 : decode cX11_fault 37 = .ok (.bipush (-4), 2) := by decide +kernel
theorem dX11_fault_39 : decode cX11_fault 39 = .ok (.ireturn, 1) := by decide +kernel
theorem dX11_lay_0 : decode cX11_lay 0 = .ok (.aload_n 0, 1) := by decide +kernel
theorem dX11_lay_1 : decode cX11_lay 1 = .ok (.invokevirtual 146, 3) := by decide +kernel
theorem dX11_lay_4 : decode cX11_lay 4 = .ok (.bipush (-4), 2) := by decide +kernel
theorem dX11_lay_6 : decode cX11_lay 6 = .ok (.if_icmp .ne 12, 3) := by decide +kernel
