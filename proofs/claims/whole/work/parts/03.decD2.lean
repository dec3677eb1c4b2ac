theorem dX11_pours_284 : decode cX11_pours 284 = .ok (.bipush (-4), 2) := by decide +kernel
theorem dX11_pours_286 : decode cX11_pours 286 = .ok (.goto 11, 3) := by decide +kernel
theorem dX11_pours_289 : decode cX11_pours 289 = .ok (.iload 6, 2) := by decide +kernel
theorem dX11_pours_291 : decode cX11_pours 291 = .ok (.iconst 1, 1) := by decide +kernel
theorem dX11_pours_292 : decode cX11_pours 292 = .ok (.isub, 1) := by decide +kernel
theorem dX11_pours_293 : decode cX11_pours 293 = .ok (.iload_n 2, 1) := by decide +kernel
theorem dX11_pours_294 : decode cX11_pours 294 = .ok (.irem, 1) := by decide +kernel
theorem dX11_pours_295 : decode cX11_pours 295 = .ok (.iconst 1, 1) := by decide +kernel
theorem dX11_pours_296 : decode cX11_pours 296 = .ok (.iadd, 1) := by decide +kernel
theorem dX11_pours_297 : decode cX11_pours 297 = .ok (.iastore, 1) := by decide +kernel
theorem dX11_pours_298 : decode cX11_pours 298 = .ok (.iload_n 3, 1) := by decide +kernel
theorem dX11_pours_299 : decode cX11_pours 299 = .ok (.ifCond .ne 8, 3) := by decide +kernel
theorem dX11_pours_302 : decode cX11_pours 302 = .ok (.iload 5, 2) := by decide +kernel
theorem dX11_pours_304 : decode cX11_pours 304 = .ok (.goto 11, 3) := by decide +kernel
theorem dX11_pours_307 : decode cX11_pours 307 = .ok (.aload_n 0, 1) := by decide +kernel
theorem dX11_pours_308 : decode cX11_pours 308 = .ok (.getfield 72, 3) := by decide +kernel
theorem dX11_pours_311 : decode cX11_pours 311 = .ok (.iload_n 3, 1) := by decide +kernel
theorem dX11_pours_312 : decode cX11_pours 312 = .ok (.iconst 1, 1) := by decide +kernel
theorem dX11_pours_313 : decode cX11_pours 313 = .ok (.isub, 1) := by decide +kernel
theorem dX11_pours_314 : decode cX11_pours 314 = .ok (.iaload, 1) := by decide +kernel
theorem dX11_pours_315 : decode cX11_pours 315 = .ok (.ireturn, 1) := by decide +kernel
theorem dX11_lostByCorn_0 : decode cX11_lostByCorn 0 = .ok (.aload_n 0, 1) := by decide +kernel
theorem dX11_lostByCorn_1 : decode cX11_lostByCorn 1 = .ok (.invokevirtual 160, 3) := by decide +kernel
theorem dX11_lostByCorn_4 : decode cX11_lostByCorn 4 = .ok (.iconst 0, 1) := by decide +kernel
theorem dX11_lostByCorn_5 : decode cX11_lostByCorn 5 = .ok (.istore_n 2, 1) := by decide +kernel
theorem dX11_lostByCorn_6 : decode cX11_lostByCorn 6 = .ok (.iconst 0, 1) := by decide +kernel
theorem dX11_lostByCorn_7 : decode cX11_lostByCorn 7 = .ok (.istore_n 3, 1) := by decide +kernel
theorem dX11_lostByCorn_8 : decode cX11_lostByCorn 8 = .ok (.iload_n 3, 1) := by decide +kernel
theorem dX11_lostByCorn_9 : decode cX11_lostByCorn 9 = .ok (.iload_n 1, 1) := by decide +kernel
theorem dX11_lostByCorn_10 : decode cX11_lostByCorn 10 = .ok (.if_icmp .ge 102, 3) := by decide +kernel
theorem dX11_lostByCorn_13 : decode cX11_lostByCorn 13 = .ok (.iconst 0, 1) := by decide +kernel
theorem dX11_lostByCorn_14 : decode cX11_lostByCorn 14 = .ok (.istore 4, 2) := by decide +kernel
theorem dX11_lostByCorn_16 : decode cX11_lostByCorn 16 = .ok (.iload 4, 2) := by decide +kernel
theorem dX11_lostByCorn_18 : decode cX11_lostByCorn 18 = .ok (.aload_n 0, 1) := by decide +kernel
theorem dX11_lostByCorn_19 : decode cX11_lostByCorn 19 = .ok (.getfield 32, 3) := by decide +kernel
theorem dX11_lostByCorn_22 : decode cX11_lostByCorn 22 = .ok (.iconst 0, 1) := by decide +kernel
theorem dX11_lostByCorn_23 : decode cX11_lostByCorn 23 = .ok (.iaload, 1) := by decide +kernel
theorem dX11_lostByCorn_24 : decode cX11_lostByCorn 24 = .ok (.if_icmp .ge 68, 3) := by decide +kernel
theorem dX11_lostByCorn_27 : decode cX11_lostByCorn 27 = .ok (.aload_n 0, 1) := by decide +kernel
theorem dX11_lostByCorn_28 : decode cX11_lostByCorn 28 = .ok (.getfield 35, 3) := by decide +kernel
theorem dX11_lostByCorn_31 : decode cX11_lostByCorn 31 = .ok (.iconst 2, 1) := by decide +kernel
theorem dX11_lostByCorn_32 : decode cX11_lostByCorn 32 = .ok (.iload 4, 2) := by decide +kernel
theorem dX11_lostByCorn_34 : decode cX11_lostByCorn 34 = .ok (.imul, 1) := by decide +kernel
theorem dX11_lostByCorn_35 : decode cX11_lostByCorn 35 = .ok (.iaload, 1) := by decide +kernel
theorem dX11_lostByCorn_36 : decode cX11_lostByCorn 36 = .ok (.iload_n 3, 1) := by decide +kernel
theorem dX11_lostByCorn_37 : decode cX11_lostByCorn 37 = .ok (.if_icmp .ne 49, 3) := by decide +kernel
theorem dX11_lostByCorn_40 : decode cX11_lostByCorn 40 = .ok (.aload_n 0, 1) := by decide +kernel
theorem dX11_lostByCorn_41 : decode cX11_lostByCorn 41 = .ok (.getfield 57, 3) := by decide +kernel
theorem dX11_lostByCorn_44 : decode cX11_lostByCorn 44 = .ok (.aload_n 0, 1) := by decide +kernel
theorem dX11_lostByCorn_45 : decode cX11_lostByCorn 45 = .ok (.getfield 66, 3) := by decide +kernel
theorem dX11_lostByCorn_48 : decode cX11_lostByCorn 48 = .ok (.iload 4, 2) := by decide +kernel
theorem dX11_lostByCorn_50 : decode cX11_lostByCorn 50 = .ok (.iaload, 1) := by decide +kernel
theorem dX11_lostByCorn_51 : decode cX11_lostByCorn 51 = .ok (.dup2, 1) := by decide +kernel
theorem dX11_lostByCorn_52 : decode cX11_lostByCorn 52 = .ok (.iaload, 1) := by decide +kernel
theorem dX11_lostByCorn_53 : decode cX11_lostByCorn 53 = .ok (.aload_n 0, 1) := by decide +kernel
theorem dX11_lostByCorn_54 : decode cX11_lostByCorn 54 = .ok (.getfield 35, 3) := by decide +kernel
theorem dX11_lostByCorn_57 : decode cX11_lostByCorn 57 = .ok (.iconst 2, 1) := by decide +kernel
theorem dX11_lostByCorn_58 : decode cX11_lostByCorn 58 = .ok (.iload 4, 2) := by decide +kernel
theorem dX11_lostByCorn_60 : decode cX11_lostByCorn 60 = .ok (.imul, 1) := by decide +kernel
theorem dX11_lostByCorn_61 : decode cX11_lostByCorn 61 = .ok (.iconst 1, 1) := by decide +kernel
theorem dX11_lostByCorn_62 : decode cX11_lostByCorn 62 = .ok (.iadd, 1) := by decide +kernel
theorem dX11_lostByCorn_63 : decode cX11_lostByCorn 63 = .ok (.iaload, 1) := by decide +kernel
theorem dX11_lostByCorn_64 : decode cX11_lostByCorn 64 = .ok (.iadd, 1) := by decide +kernel
theorem dX11_lostByCorn_65 : decode cX11_lostByCorn 65 = .ok (.iastore, 1) := by decide +kernel
theorem dX11_lostByCorn_66 : decode cX11_lostByCorn 66 = .ok (.aload_n 0, 1) := by decide +kernel
theorem dX11_lostByCorn_67 : decode cX11_lostByCorn 67 = .ok (.getfield 57, 3) := by decide +kernel
theorem dX11_lostByCorn_70 : decode cX11_lostByCorn 70 = .ok (.aload_n 0, 1) := by decide +kernel
theorem dX11_lostByCorn_71 : decode cX11_lostByCorn 71 = .ok (.getfield 66, 3) := by decide +kernel
theorem dX11_lostByCorn_74 : decode cX11_lostByCorn 74 = .ok (.iload 4, 2) := by decide +kernel
theorem dX11_lostByCorn_76 : decode cX11_lostByCorn 76 = .ok (.iaload, 1) := by decide +kernel
theorem dX11_lostByCorn_77 : decode cX11_lostByCorn 77 = .ok (.iaload, 1) := by decide +kernel
theorem dX11_lostByCorn_78 : decode cX11_lostByCorn 78 = .ok (.sipush 199, 3) := by decide +kernel
theorem dX11_lostByCorn_81 : decode cX11_lostByCorn 81 = .ok (.if_icmp .le 5, 3) := by decide +kernel
theorem dX11_lostByCorn_84 : decode cX11_lostByCorn 84 = .ok (.iconst (-1), 1) := by decide +kernel
theorem dX11_lostByCorn_85 : decode cX11_lostByCorn 85 = .ok (.ireturn, 1) := by decide +kernel
theorem dX11_lostByCorn_86 : decode cX11_lostByCorn 86 = .ok (.iinc 4 1, 3) := by decide +kernel
theorem dX11_lostByCorn_89 : decode cX11_lostByCorn 89 = .ok (.goto (-73), 3) := by decide +kernel
theorem dX11_lostByCorn_92 : decode cX11_lostByCorn 92 = .ok (.iload_n 2, 1) := by decide +kernel
theorem dX11_lostByCorn_93 : decode cX11_lostByCorn 93 = .ok (.aload_n 0, 1) := by decide +kernel
theorem dX11_lostByCorn_94 : decode cX11_lostByCorn 94 = .ok (.aload_n 0, 1) := by decide +kernel
theorem dX11_lostByCorn_95 : decode cX11_lostByCorn 95 = .ok (.getfield 23, 3) := by decide +kernel
theorem dX11_lostByCorn_98 : decode cX11_lostByCorn 98 = .ok (.iconst 1, 1) := by decide +kernel
theorem dX11_lostByCorn_99 : decode cX11_lostByCorn 99 = .ok (.iaload, 1) := by decide +kernel
theorem dX11_lostByCorn_100 : decode cX11_lostByCorn 100 = .ok (.iload_n 3, 1) := by decide +kernel
theorem dX11_lostByCorn_101 : decode cX11_lostByCorn 101 = .ok (.invokevirtual 156, 3) := by decide +kernel
theorem dX11_lostByCorn_104 : decode cX11_lostByCorn 104 = .ok (.iadd, 1) := by decide +kernel
theorem dX11_lostByCorn_105 : decode cX11_lostByCorn 105 = .ok (.istore_n 2, 1) := by decide +kernel
theorem dX11_lostByCorn_106 : decode cX11_lostByCorn 106 = .ok (.iinc 3 1, 3) := by decide +kernel
theorem dX11_lostByCorn_109 : decode cX11_lostByCorn 109 = .ok (.goto (-101), 3) := by decide +kernel
theorem dX11_lostByCorn_112 : decode cX11_lostByCorn 112 = .ok (.iload_n 2, 1) := by decide +kernel
theorem dX11_lostByCorn_113 : decode cX11_lostByCorn 113 = .ok (.ireturn, 1) := by decide +kernel
theorem dX11_corn_0 : decode cX11_corn 0 = .ok (.iload_n 1, 1) := by decide +kernel
theorem dX11_corn_1 : decode cX11_corn 1 = .ok (.i2l, 1) := by decide +kernel
theorem dX11_corn_2 : decode cX11_corn 2 = .ok (.lconst 1, 1) := by decide +kernel
theorem dX11_corn_3 : decode cX11_corn 3 = .ok (.ldc2_w 191, 3) := by decide +kernel
theorem dX11_corn_6 : decode cX11_corn 6 = .ok (.invokestatic 86, 3) := by decide +kernel
theorem dX11_corn_9 : decode cX11_corn 9 = .ok (.ifCond .eq 23, 3) := by decide +kernel
theorem dX11_corn_12 : decode cX11_corn 12 = .ok (.iload_n 2, 1) := by decide +kernel
theorem dX11_corn_13 : decode cX11_corn 13 = .ok (.i2l, 1) := by decide +kernel
theorem dX11_corn_14 : decode cX11_corn 14 = .ok (.ldc2_w 169, 3) := by decide +kernel
theorem dX11_corn_17 : decode cX11_corn 17 = .ok (.aload_n 0, 1) := by decide +kernel
theorem dX11_corn_18 : decode cX11_corn 18 = .ok (.getfield 32, 3) := by decide +kernel
theorem dX11_corn_21 : decode cX11_corn 21 = .ok (.iconst 0, 1) := by decide +kernel
theorem dX11_corn_22 : decode cX11_corn 22 = .ok (.iaload, 1) := by decide +kernel
theorem dX11_corn_23 : decode cX11_corn 23 = .ok (.iconst 1, 1) := by decide +kernel
theorem dX11_corn_24 : decode cX11_corn 24 = .ok (.isub, 1) := by decide +kernel
theorem dX11_corn_25 : decode cX11_corn 25 = .ok (.i2l, 1) := by decide +kernel
theorem dX11_corn_26 : decode cX11_corn 26 = .ok (.invokestatic 86, 3) := by decide +kernel
theorem dX11_corn_29 : decode cX11_corn 29 = .ok (.ifCond .ne 5, 3) := by decide +kernel
theorem dX11_corn_32 : decode cX11_corn 32 = .ok (.iconst (-1), 1) := by decide +kernel
theorem dX11_corn_33 : decode cX11_corn 33 = .ok (.ireturn, 1) := by decide +kernel
theorem dX11_corn_34 : decode cX11_corn 34 = .ok (.aload_n 0, 1) := by decide +kernel
theorem dX11_corn_35 : decode cX11_corn 35 = .ok (.getfield 32, 3) := by decide +kernel
theorem dX11_corn_38 : decode cX11_corn 38 = .ok (.iconst 0, 1) := by decide +kernel
theorem dX11_corn_39 : decode cX11_corn 39 = .ok (.iaload, 1) := by decide +kernel
theorem dX11_corn_40 : decode cX11_corn 40 = .ok (.ifCond .ne 7, 3) := by decide +kernel
theorem dX11_corn_43 : decode cX11_corn 43 = .ok (.iconst 0, 1) := by decide +kernel
theorem dX11_corn_44 : decode cX11_corn 44 = .ok (.goto 4, 3) := by decide +kernel
theorem dX11_corn_47 : decode cX11_corn 47 = .ok (.iconst 1, 1) := by decide +kernel
theorem dX11_corn_48 : decode cX11_corn 48 = .ok (.istore_n 3, 1) := by decide +kernel
theorem dX11_corn_49 : decode cX11_corn 49 = .ok (.iconst 0, 1) := by decide +kernel
theorem dX11_corn_50 : decode cX11_corn 50 = .ok (.istore 4, 2) := by decide +kernel
theorem dX11_corn_52 : decode cX11_corn 52 = .ok (.iload 4, 2) := by decide +kernel
theorem dX11_corn_54 : decode cX11_corn 54 = .ok (.aload_n 0, 1) := by decide +kernel
theorem dX11_corn_55 : decode cX11_corn 55 = .ok (.getfield 32, 3) := by decide +kernel
theorem dX11_corn_58 : decode cX11_corn 58 = .ok (.iconst 0, 1) := by decide +kernel
theorem dX11_corn_59 : decode cX11_corn 59 = .ok (.iaload, 1) := by decide +kernel
theorem dX11_corn_60 : decode cX11_corn 60 = .ok (.if_icmp .ge 18, 3) := by decide +kernel
theorem dX11_corn_63 : decode cX11_corn 63 = .ok (.iload_n 3, 1) := by decide +kernel
theorem dX11_corn_64 : decode cX11_corn 64 = .ok (.aload_n 0, 1) := by decide +kernel
theorem dX11_corn_65 : decode cX11_corn 65 = .ok (.getfield 13, 3) := by decide +kernel
theorem dX11_corn_68 : decode cX11_corn 68 = .ok (.iconst 0, 1) := by decide +kernel
theorem dX11_corn_69 : decode cX11_corn 69 = .ok (.iaload, 1) := by decide +kernel
theorem dX11_corn_70 : decode cX11_corn 70 = .ok (.imul, 1) := by decide +kernel
theorem dX11_corn_71 : decode cX11_corn 71 = .ok (.istore_n 3, 1) := by decide +kernel
theorem dX11_corn_72 : decode cX11_corn 72 = .ok (.iinc 4 1, 3) := by decide +kernel
theorem dX11_corn_75 : decode cX11_corn 75 = .ok (.goto (-23), 3) := by decide +kernel
theorem dX11_corn_78 : decode cX11_corn 78 = .ok (.bipush (-4), 2) := by decide +kernel
theorem dX11_corn_80 : decode cX11_corn 80 = .ok (.istore 4, 2) := by decide +kernel
theorem dX11_corn_82 : decode cX11_corn 82 = .ok (.iconst 0, 1) := by decide +kernel
theorem dX11_corn_83 : decode cX11_corn 83 = .ok (.istore 5, 2) := by decide +kernel
theorem dX11_corn_85 : decode cX11_corn 85 = .ok (.iload 5, 2) := by decide +kernel
theorem dX11_corn_87 : decode cX11_corn 87 = .ok (.iload_n 3, 1) := by decide +kernel
theorem dX11_corn_88 : decode cX11_corn 88 = .ok (.if_icmp .ge 123, 3) := by decide +kernel
theorem dX11_corn_91 : decode cX11_corn 91 = .ok (.iload 5, 2) := by decide +kernel
theorem dX11_corn_93 : decode cX11_corn 93 = .ok (.istore 6, 2) := by decide +kernel
theorem dX11_corn_95 : decode cX11_corn 95 = .ok (.aload_n 0, 1) := by decide +kernel
theorem dX11_corn_96 : decode cX11_corn 96 = .ok (.getfield 32, 3) := by decide +kernel
theorem dX11_corn_99 : decode cX11_corn 99 = .ok (.iconst 0, 1) := by decide +kernel
theorem dX11_corn_100 : decode cX11_corn 100 = .ok (.iaload, 1) := by decide +kernel
theorem dX11_corn_101 : decode cX11_corn 101 = .ok (.iconst 1, 1) := by decide +kernel
theorem dX11_corn_102 : decode cX11_corn 102 = .ok (.isub, 1) := by decide +kernel
theorem dX11_corn_103 : decode cX11_corn 103 = .ok (.istore 7, 2) := by decide +kernel
theorem dX11_corn_105 : decode cX11_corn 105 = .ok (.iload 7, 2) := by decide +kernel
theorem dX11_corn_107 : decode cX11_corn 107 = .ok (.ifCond .lt 36, 3) := by decide +kernel
theorem dX11_corn_110 : decode cX11_corn 110 = .ok (.aload_n 0, 1) := by decide +kernel
theorem dX11_corn_111 : decode cX11_corn 111 = .ok (.getfield 66, 3) := by decide +kernel
theorem dX11_corn_114 : decode cX11_corn 114 = .ok (.iload 7, 2) := by decide +kernel
theorem dX11_corn_116 : decode cX11_corn 116 = .ok (.iload 6, 2) := by decide +kernel
theorem dX11_corn_118 : decode cX11_corn 118 = .ok (.aload_n 0, 1) := by decide +kernel
theorem dX11_corn_119 : decode cX11_corn 119 = .ok (.getfield 13, 3) := by decide +kernel
theorem dX11_corn_122 : decode cX11_corn 122 = .ok (.iconst 0, 1) := by decide +kernel
theorem dX11_corn_123 : decode cX11_corn 123 = .ok (.iaload, 1) := by decide +kernel
theorem dX11_corn_124 : decode cX11_corn 124 = .ok (.irem, 1) := by decide +kernel
theorem dX11_corn_125 : decode cX11_corn 125 = .ok (.iastore, 1) := by decide +kernel
theorem dX11_corn_126 : decode cX11_corn 126 = .ok (.iload 6, 2) := by decide +kernel
theorem dX11_corn_128 : decode cX11_corn 128 = .ok (.aload_n 0, 1) := by decide +kernel
theorem dX11_corn_129 : decode cX11_corn 129 = .ok (.getfield 13, 3) := by decide +kernel
theorem dX11_corn_132 : decode cX11_corn 132 = .ok (.iconst 0, 1) := by decide +kernel
theorem dX11_corn_133 : decode cX11_corn 133 = .ok (.iaload, 1) := by decide +kernel
theorem dX11_corn_134 : decode cX11_corn 134 = .ok (.idiv, 1) := by decide +kernel
theorem dX11_corn_135 : decode cX11_corn 135 = .ok (.istore 6, 2) := by decide +kernel
theorem dX11_corn_137 : decode cX11_corn 137 = .ok (.iinc 7 (-1), 3) := by decide +kernel
theorem dX11_corn_140 : decode cX11_corn 140 = .ok (.goto (-35), 3) := by decide +kernel
theorem dX11_corn_143 : decode cX11_corn 143 = .ok (.aload_n 0, 1) := by decide +kernel
theorem dX11_corn_144 : decode cX11_corn 144 = .ok (.iload_n 1, 1) := by decide +kernel
theorem dX11_corn_145 : decode cX11_corn 145 = .ok (.invokevirtual 193, 3) := by decide +kernel
theorem dX11_corn_148 : decode cX11_corn 148 = .ok (.istore 7, 2) := by decide +kernel
theorem dX11_corn_150 : decode cX11_corn 150 = .ok (.iload 7, 2) := by decide +kernel
theorem dX11_corn_152 : decode cX11_corn 152 = .ok (.ifCond .lt 53, 3) := by decide +kernel
theorem dX11_corn_155 : decode cX11_corn 155 = .ok (.iload 4, 2) := by decide +kernel
theorem dX11_corn_157 : decode cX11_corn 157 = .ok (.ifCond .lt 10, 3) := by decide +kernel
theorem dX11_corn_160 : decode cX11_corn 160 = .ok (.iload 7, 2) := by decide +kernel
theorem dX11_corn_162 : decode cX11_corn 162 = .ok (.iload 4, 2) := by decide +kernel
theorem dX11_corn_164 : decode cX11_corn 164 = .ok (.if_icmp .ge 41, 3) := by decide +kernel
theorem dX11_corn_167 : decode cX11_corn 167 = .ok (.iload 7, 2) := by decide +kernel
theorem dX11_corn_169 : decode cX11_corn 169 = .ok (.istore 4, 2) := by decide +kernel
theorem dX11_corn_171 : decode cX11_corn 171 = .ok (.iconst 0, 1) := by decide +kernel
theorem dX11_corn_172 : decode cX11_corn 172 = .ok (.istore 8, 2) := by decide +kernel
theorem dX11_corn_174 : decode cX11_corn 174 = .ok (.iload 8, 2) := by decide +kernel
theorem dX11_corn_176 : decode cX11_corn 176 = .ok (.aload_n 0, 1) := by decide +kernel
theorem dX11_corn_177 : decode cX11_corn 177 = .ok (.getfield 32, 3) := by decide +kernel
theorem dX11_corn_180 : decode cX11_corn 180 = .ok (.iconst 0, 1) := by decide +kernel
theorem dX11_corn_181 : decode cX11_corn 181 = .ok (.iaload, 1) := by decide +kernel
theorem dX11_corn_182 : decode cX11_corn 182 = .ok (.if_icmp .ge 23, 3) := by decide +kernel
theorem dX11_corn_185 : decode cX11_corn 185 = .ok (.aload_n 0, 1) := by decide +kernel
theorem dX11_corn_186 : decode cX11_corn 186 = .ok (.getfield 69, 3) := by decide +kernel
theorem dX11_corn_189 : decode cX11_corn 189 = .ok (.iload 8, 2) := by decide +kernel
theorem dX11_corn_191 : decode cX11_corn 191 = .ok (.aload_n 0, 1) := by decide +kernel
theorem dX11_corn_192 : decode cX11_corn 192 = .ok (.getfield 66, 3) := by decide +kernel
theorem dX11_corn_195 : decode cX11_corn 195 = .ok (.iload 8, 2) := by decide +kernel
theorem dX11_corn_197 : decode cX11_corn 197 = .ok (.iaload, 1) := by decide +kernel
theorem dX11_corn_198 : decode cX11_corn 198 = .ok (.iastore, 1) := by decide +kernel
theorem dX11_corn_199 : decode cX11_corn 199 = .ok (.iinc 8 1, 3) := by decide +kernel
theorem dX11_corn_202 : decode cX11_corn 202 = .ok (.goto (-28), 3) := by decide +kernel
theorem dX11_corn_205 : decode cX11_corn 205 = .ok (.iinc 5 1, 3) := by decide +kernel
theorem dX11_corn_208 : decode cX11_corn 208 = .ok (.goto (-123), 3) := by decide +kernel
theorem dX11_corn_211 : decode cX11_corn 211 = .ok (.iload 4, 2) := by decide +kernel
theorem dX11_corn_213 : decode cX11_corn 213 = .ok (.ifCond .lt 7, 3) := by decide +kernel
theorem dX11_corn_216 : decode cX11_corn 216 = .ok (.iload_n 2, 1) := by decide +kernel
theorem dX11_corn_217 : decode cX11_corn 217 = .ok (.ifCond .ge 8, 3) := by decide +kernel
theorem dX11_corn_220 : decode cX11_corn 220 = .ok (.iload 4, 2) := by decide +kernel
theorem dX11_corn_222 : decode cX11_corn 222 = .ok (.goto 9, 3) := by decide +kernel
theorem dX11_corn_225 : decode cX11_corn 225 = .ok (.aload_n 0, 1) := by decide +kernel
theorem dX11_corn_226 : decode cX11_corn 226 = .ok (.getfield 69, 3) := by decide +kernel
theorem dX11_corn_229 : decode cX11_corn 229 = .ok (.iload_n 2, 1) := by decide +kernel
theorem dX11_corn_230 : decode cX11_corn 230 = .ok (.iaload, 1) := by decide +kernel
theorem dX11_corn_231 : decode cX11_corn 231 = .ok (.ireturn, 1) := by decide +kernel
theorem dX11_gapOf_0 : decode cX11_gapOf 0 = .ok (.iload_n 1, 1) := by decide +kernel
theorem dX11_gapOf_1 : decode cX11_gapOf 1 = .ok (.istore_n 2, 1) := by decide +kernel
theorem dX11_gapOf_2 : decode cX11_gapOf 2 = .ok (.iconst 0, 1) := by decide +kernel
theorem dX11_gapOf_3 : decode cX11_gapOf 3 = .ok (.istore_n 3, 1) := by decide +kernel
theorem dX11_gapOf_4 : decode cX11_gapOf 4 = .ok (.iload_n 2, 1) := by decide +kernel
theorem dX11_gapOf_5 : decode cX11_gapOf 5 = .ok (.ifCond .gt 11, 3) := by decide +kernel
theorem dX11_gapOf_8 : decode cX11_gapOf 8 = .ok (.iload_n 0, 1) := by decide +kernel
theorem dX11_gapOf_9 : decode cX11_gapOf 9 = .ok (.iload_n 3, 1) := by decide +kernel
theorem dX11_gapOf_10 : decode cX11_gapOf 10 = .ok (.ishr, 1) := by decide +kernel
theorem dX11_gapOf_11 : decode cX11_gapOf 11 = .ok (.iconst 1, 1) := by decide +kernel
theorem dX11_gapOf_12 : decode cX11_gapOf 12 = .ok (.iand, 1) := by decide +kernel
theorem dX11_gapOf_13 : decode cX11_gapOf 13 = .ok (.ifCond .ne 17, 3) := by decide +kernel
theorem dX11_gapOf_16 : decode cX11_gapOf 16 = .ok (.iload_n 2, 1) := by decide +kernel
theorem dX11_gapOf_17 : decode cX11_gapOf 17 = .ok (.iload_n 0, 1) := by decide +kernel
theorem dX11_gapOf_18 : decode cX11_gapOf 18 = .ok (.iload_n 3, 1) := by decide +kernel
theorem dX11_gapOf_19 : decode cX11_gapOf 19 = .ok (.ishr, 1) := by decide +kernel
theorem dX11_gapOf_20 : decode cX11_gapOf 20 = .ok (.iconst 1, 1) := by decide +kernel
theorem dX11_gapOf_21 : decode cX11_gapOf 21 = .ok (.iand, 1) := by decide +kernel
theorem dX11_gapOf_22 : decode cX11_gapOf 22 = .ok (.isub, 1) := by decide +kernel
theorem dX11_gapOf_23 : decode cX11_gapOf 23 = .ok (.istore_n 2, 1) := by decide +kernel
theorem dX11_gapOf_24 : decode cX11_gapOf 24 = .ok (.iinc 3 1, 3) := by decide +kernel
theorem dX11_gapOf_27 : decode cX11_gapOf 27 = .ok (.goto (-23), 3) := by decide +kernel
theorem dX11_gapOf_30 : decode cX11_gapOf 30 = .ok (.iload_n 3, 1) := by decide +kernel
theorem dX11_gapOf_31 : decode cX11_gapOf 31 = .ok (.ireturn, 1) := by decide +kernel
theorem dX11_many_0 : decode cX11_many 0 = .ok (.iconst 0, 1) := by decide +kernel
theorem dX11_many_1 : decode cX11_many 1 = .ok (.istore_n 1, 1) := by decide +kernel
theorem dX11_many_2 : decode cX11_many 2 = .ok (.iconst 0, 1) := by decide +kernel
theorem dX11_many_3 : decode cX11_many 3 = .ok (.istore_n 2, 1) := by decide +kernel
theorem dX11_many_4 : decode cX11_many 4 = .ok (.iload_n 2, 1) := by decide +kernel
theorem dX11_many_5 : decode cX11_many 5 = .ok (.bipush 12, 2) := by decide +kernel
theorem dX11_many_7 : decode cX11_many 7 = .ok (.if_icmp .ge 17, 3) := by decide +kernel
theorem dX11_many_10 : decode cX11_many 10 = .ok (.iload_n 1, 1) := by decide +kernel
theorem dX11_many_11 : decode cX11_many 11 = .ok (.iload_n 0, 1) := by decide +kernel
theorem dX11_many_12 : decode cX11_many 12 = .ok (.iload_n 2, 1) := by decide +kernel
theorem dX11_many_13 : decode cX11_many 13 = .ok (.ishr, 1) := by decide +kernel
theorem dX11_many_14 : decode cX11_many 14 = .ok (.iconst 1, 1) := by decide +kernel
theorem dX11_many_15 : decode cX11_many 15 = .ok (.iand, 1) := by decide +kernel
theorem dX11_many_16 : decode cX11_many 16 = .ok (.iadd, 1) := by decide +kernel
theorem dX11_many_17 : decode cX11_many 17 = .ok (.istore_n 1, 1) := by decide +kernel
theorem dX11_many_18 : decode cX11_many 18 = .ok (.iinc 2 1, 3) := by decide +kernel
theorem dX11_many_21 : decode cX11_many 21 = .ok (.goto (-17), 3) := by decide +kernel
theorem dX11_many_24 : decode cX11_many 24 = .ok (.iload_n 1, 1) := by decide +kernel
theorem dX11_many_25 : decode cX11_many 25 = .ok (.ireturn, 1) := by decide +kernel
theorem dX11_isAhead_0 : decode cX11_isAhead 0 = .ok (.iload_n 0, 1) := by decide +kernel
theorem dX11_isAhead_1 : decode cX11_isAhead 1 = .ok (.iload_n 1, 1) := by decide +kernel
theorem dX11_isAhead_2 : decode cX11_isAhead 2 = .ok (.ixor, 1) := by decide +kernel
theorem dX11_isAhead_3 : decode cX11_isAhead 3 = .ok (.istore_n 2, 1) := by decide +kernel
theorem dX11_isAhead_4 : decode cX11_isAhead 4 = .ok (.iload_n 0, 1) := by decide +kernel
theorem dX11_isAhead_5 : decode cX11_isAhead 5 = .ok (.iload_n 2, 1) := by decide +kernel
theorem dX11_isAhead_6 : decode cX11_isAhead 6 = .ok (.iand, 1) := by decide +kernel
theorem dX11_isAhead_7 : decode cX11_isAhead 7 = .ok (.iload_n 2, 1) := by decide +kernel
theorem dX11_isAhead_8 : decode cX11_isAhead 8 = .ok (.ineg, 1) := by decide +kernel
theorem dX11_isAhead_9 : decode cX11_isAhead 9 = .ok (.iand, 1) := by decide +kernel
theorem dX11_isAhead_10 : decode cX11_isAhead 10 = .ok (.ifCond .eq 7, 3) := by decide +kernel
theorem dX11_isAhead_13 : decode cX11_isAhead 13 = .ok (.iconst 1, 1) := by decide +kernel
theorem dX11_isAhead_14 : decode cX11_isAhead 14 = .ok (.goto 4, 3) := by decide +kernel
theorem dX11_isAhead_17 : decode cX11_isAhead 17 = .ok (.iconst 0, 1) := by decide +kernel
theorem dX11_isAhead_18 : decode cX11_isAhead 18 = .ok (.ireturn, 1) := by decide +kernel
theorem dX11_cats_0 : decode cX11_cats 0 = .ok (.iload_n 1, 1) := by decide +kernel
theorem dX11_cats_1 : decode cX11_cats 1 = .ok (.i2l, 1) := by decide +kernel
theorem dX11_cats_2 : decode cX11_cats 2 = .ok (.lconst 1, 1) := by decide +kernel
theorem dX11_cats_3 : decode cX11_cats 3 = .ok (.ldc2_w 101, 3) := by decide +kernel
theorem dX11_cats_6 : decode cX11_cats 6 = .ok (.invokestatic 86, 3) := by decide +kernel
theorem dX11_cats_9 : decode cX11_cats 9 = .ok (.ifCond .eq 30, 3) := by decide +kernel
theorem dX11_cats_12 : decode cX11_cats 12 = .ok (.iload_n 2, 1) := by decide +kernel
theorem dX11_cats_13 : decode cX11_cats 13 = .ok (.i2l, 1) := by decide +kernel
theorem dX11_cats_14 : decode cX11_cats 14 = .ok (.lconst 1, 1) := by decide +kernel
theorem dX11_cats_15 : decode cX11_cats 15 = .ok (.ldc2_w 175, 3) := by decide +kernel
theorem dX11_cats_18 : decode cX11_cats 18 = .ok (.invokestatic 86, 3) := by decide +kernel
theorem dX11_cats_21 : decode cX11_cats 21 = .ok (.ifCond .eq 18, 3) := by decide +kernel
theorem dX11_cats_24 : decode cX11_cats 24 = .ok (.iload_n 3, 1) := by decide +kernel
theorem dX11_cats_25 : decode cX11_cats 25 = .ok (.i2l, 1) := by decide +kernel
theorem dX11_cats_26 : decode cX11_cats 26 = .ok (.ldc2_w 169, 3) := by decide +kernel
theorem dX11_cats_29 : decode cX11_cats 29 = .ok (.iload_n 1, 1) := by decide +kernel
theorem dX11_cats_30 : decode cX11_cats 30 = .ok (.iconst 1, 1) := by decide +kernel
theorem dX11_cats_31 : decode cX11_cats 31 = .ok (.isub, 1) := by decide +kernel
theorem dX11_cats_32 : decode cX11_cats 32 = .ok (.i2l, 1) := by decide +kernel
theorem dX11_cats_33 : decode cX11_cats 33 = .ok (.invokestatic 86, 3) := by decide +kernel
theorem dX11_cats_36 : decode cX11_cats 36 = .ok (.ifCond .ne 5, 3) := by decide +kernel
theorem dX11_cats_39 : decode cX11_cats 39 = .ok (.iconst (-1), 1) := by decide +kernel
theorem dX11_cats_40 : decode cX11_cats 40 = .ok (.ireturn, 1) := by decide +kernel
theorem dX11_cats_41 : decode cX11_cats 41 = .ok (.iconst 0, 1) := by decide +kernel
theorem dX11_cats_42 : decode cX11_cats 42 = .ok (.istore 4, 2) := by decide +kernel
theorem dX11_cats_44 : decode cX11_cats 44 = .ok (.iconst 0, 1) := by decide +kernel
theorem dX11_cats_45 : decode cX11_cats 45 = .ok (.istore 5, 2) := by decide +kernel
theorem dX11_cats_47 : decode cX11_cats 47 = .ok (.iload 5, 2) := by decide +kernel
theorem dX11_cats_49 : decode cX11_cats 49 = .ok (.aload_n 0, 1) := by decide +kernel
theorem dX11_cats_50 : decode cX11_cats 50 = .ok (.getfield 123, 3) := by decide +kernel
theorem dX11_cats_53 : decode cX11_cats 53 = .ok (.if_icmp .ge 32, 3) := by decide +kernel
theorem dX11_cats_56 : decode cX11_cats 56 = .ok (.iload 4, 2) := by decide +kernel
theorem dX11_cats_58 : decode cX11_cats 58 = .ok (.aload_n 0, 1) := by decide +kernel
theorem dX11_cats_59 : decode cX11_cats 59 = .ok (.getfield 44, 3) := by decide +kernel
theorem dX11_cats_62 : decode cX11_cats 62 = .ok (.iload 5, 2) := by decide +kernel
theorem dX11_cats_64 : decode cX11_cats 64 = .ok (.baload, 1) := by decide +kernel
theorem dX11_cats_65 : decode cX11_cats 65 = .ok (.ifCond .eq 7, 3) := by decide +kernel
theorem dX11_cats_68 : decode cX11_cats 68 = .ok (.iconst 0, 1) := by decide +kernel
theorem dX11_cats_69 : decode cX11_cats 69 = .ok (.goto 7, 3) := by decide +kernel
theorem dX11_cats_72 : decode cX11_cats 72 = .ok (.iconst 1, 1) := by decide +kernel
theorem dX11_cats_73 : decode cX11_cats 73 = .ok (.iload 5, 2) := by decide +kernel
theorem dX11_cats_75 : decode cX11_cats 75 = .ok (.ishl, 1) := by decide +kernel
theorem dX11_cats_76 : decode cX11_cats 76 = .ok (.ior, 1) := by decide +kernel
theorem dX11_cats_77 : decode cX11_cats 77 = .ok (.istore 4, 2) := by decide +kernel
theorem dX11_cats_79 : decode cX11_cats 79 = .ok (.iinc 5 1, 3) := by decide +kernel
theorem dX11_cats_82 : decode cX11_cats 82 = .ok (.goto (-35), 3) := by decide +kernel
theorem dX11_cats_85 : decode cX11_cats 85 = .ok (.bipush (-4), 2) := by decide +kernel
theorem dX11_cats_87 : decode cX11_cats 87 = .ok (.istore 5, 2) := by decide +kernel
theorem dX11_cats_89 : decode cX11_cats 89 = .ok (.iconst 0, 1) := by decide +kernel
theorem dX11_cats_90 : decode cX11_cats 90 = .ok (.istore 6, 2) := by decide +kernel
theorem dX11_cats_92 : decode cX11_cats 92 = .ok (.iconst 0, 1) := by decide +kernel
theorem dX11_cats_93 : decode cX11_cats 93 = .ok (.istore 7, 2) := by decide +kernel
theorem dX11_cats_95 : decode cX11_cats 95 = .ok (.iload 7, 2) := by decide +kernel
theorem dX11_cats_97 : decode cX11_cats 97 = .ok (.iconst 1, 1) := by decide +kernel
theorem dX11_cats_98 : decode cX11_cats 98 = .ok (.aload_n 0, 1) := by decide +kernel
theorem dX11_cats_99 : decode cX11_cats 99 = .ok (.getfield 123, 3) := by decide +kernel
theorem dX11_cats_102 : decode cX11_cats 102 = .ok (.ishl, 1) := by decide +kernel
theorem dX11_cats_103 : decode cX11_cats 103 = .ok (.if_icmp .ge 124, 3) := by decide +kernel
theorem dX11_cats_106 : decode cX11_cats 106 = .ok (.iload 7, 2) := by decide +kernel
theorem dX11_cats_108 : decode cX11_cats 108 = .ok (.iload 4, 2) := by decide +kernel
theorem dX11_cats_110 : decode cX11_cats 110 = .ok (.iconst (-1), 1) := by decide +kernel
theorem dX11_cats_111 : decode cX11_cats 111 = .ok (.ixor, 1) := by decide +kernel
theorem dX11_cats_112 : decode cX11_cats 112 = .ok (.iand, 1) := by decide +kernel
theorem dX11_cats_113 : decode cX11_cats 113 = .ok (.ifCond .ne 108, 3) := by decide +kernel
theorem dX11_cats_116 : decode cX11_cats 116 = .ok (.iload 7, 2) := by decide +kernel
theorem dX11_cats_118 : decode cX11_cats 118 = .ok (.invokestatic 196, 3) := by decide +kernel
theorem dX11_cats_121 : decode cX11_cats 121 = .ok (.iload_n 1, 1) := by decide +kernel
theorem dX11_cats_122 : decode cX11_cats 122 = .ok (.if_icmp .ne 99, 3) := by decide +kernel
theorem dX11_cats_125 : decode cX11_cats 125 = .ok (.aload_n 0, 1) := by decide +kernel
theorem dX11_cats_126 : decode cX11_cats 126 = .ok (.invokevirtual 160, 3) := by decide +kernel
theorem dX11_cats_129 : decode cX11_cats 129 = .ok (.aload_n 0, 1) := by decide +kernel
theorem dX11_cats_130 : decode cX11_cats 130 = .ok (.iload 7, 2) := by decide +kernel
theorem dX11_cats_132 : decode cX11_cats 132 = .ok (.putfield 133, 3) := by decide +kernel
theorem dX11_cats_135 : decode cX11_cats 135 = .ok (.aload_n 0, 1) := by decide +kernel
theorem dX11_cats_136 : decode cX11_cats 136 = .ok (.aload_n 0, 1) := by decide +kernel
theorem dX11_cats_137 : decode cX11_cats 137 = .ok (.getfield 23, 3) := by decide +kernel
theorem dX11_cats_140 : decode cX11_cats 140 = .ok (.iconst 1, 1) := by decide +kernel
theorem dX11_cats_141 : decode cX11_cats 141 = .ok (.iaload, 1) := by decide +kernel
theorem dX11_cats_142 : decode cX11_cats 142 = .ok (.aload_n 0, 1) := by decide +kernel
theorem dX11_cats_143 : decode cX11_cats 143 = .ok (.getfield 136, 3) := by decide +kernel
theorem dX11_cats_146 : decode cX11_cats 146 = .ok (.iload_n 2, 1) := by decide +kernel
theorem dX11_cats_147 : decode cX11_cats 147 = .ok (.invokevirtual 166, 3) := by decide +kernel
theorem dX11_cats_150 : decode cX11_cats 150 = .ok (.istore 8, 2) := by decide +kernel
theorem dX11_cats_152 : decode cX11_cats 152 = .ok (.aload_n 0, 1) := by decide +kernel
theorem dX11_cats_153 : decode cX11_cats 153 = .ok (.iconst 0, 1) := by decide +kernel
theorem dX11_cats_154 : decode cX11_cats 154 = .ok (.putfield 133, 3) := by decide +kernel
theorem dX11_cats_157 : decode cX11_cats 157 = .ok (.iload 5, 2) := by decide +kernel
theorem dX11_cats_159 : decode cX11_cats 159 = .ok (.ifCond .lt 27, 3) := by decide +kernel
theorem dX11_cats_162 : decode cX11_cats 162 = .ok (.iload 8, 2) := by decide +kernel
theorem dX11_cats_164 : decode cX11_cats 164 = .ok (.iload 5, 2) := by decide +kernel
theorem dX11_cats_166 : decode cX11_cats 166 = .ok (.if_icmp .lt 20, 3) := by decide +kernel
theorem dX11_cats_169 : decode cX11_cats 169 = .ok (.iload 8, 2) := by decide +kernel
theorem dX11_cats_171 : decode cX11_cats 171 = .ok (.iload 5, 2) := by decide +kernel
theorem dX11_cats_173 : decode cX11_cats 173 = .ok (.if_icmp .ne 17, 3) := by decide +kernel
theorem dX11_cats_176 : decode cX11_cats 176 = .ok (.iload 7, 2) := by decide +kernel
theorem dX11_cats_178 : decode cX11_cats 178 = .ok (.iload 6, 2) := by decide +kernel
theorem dX11_cats_180 : decode cX11_cats 180 = .ok (.invokestatic 199, 3) := by decide +kernel
theorem dX11_cats_183 : decode cX11_cats 183 = .ok (.ifCond .eq 7, 3) := by decide +kernel
theorem dX11_cats_186 : decode cX11_cats 186 = .ok (.iconst 1, 1) := by decide +kernel
theorem dX11_cats_187 : decode cX11_cats 187 = .ok (.goto 4, 3) := by decide +kernel
theorem dX11_cats_190 : decode cX11_cats 190 = .ok (.iconst 0, 1) := by decide +kernel
theorem dX11_cats_191 : decode cX11_cats 191 = .ok (.istore 9, 2) := by decide +kernel
theorem dX11_cats_193 : decode cX11_cats 193 = .ok (.iload 9, 2) := by decide +kernel
theorem dX11_cats_195 : decode cX11_cats 195 = .ok (.ifCond .eq 8, 3) := by decide +kernel
theorem dX11_cats_198 : decode cX11_cats 198 = .ok (.iload 7, 2) := by decide +kernel
theorem dX11_cats_200 : decode cX11_cats 200 = .ok (.goto 5, 3) := by decide +kernel
theorem dX11_cats_203 : decode cX11_cats 203 = .ok (.iload 6, 2) := by decide +kernel
theorem dX11_cats_205 : decode cX11_cats 205 = .ok (.istore 6, 2) := by decide +kernel
theorem dX11_cats_207 : decode cX11_cats 207 = .ok (.iload 9, 2) := by decide +kernel
theorem dX11_cats_209 : decode cX11_cats 209 = .ok (.ifCond .eq 8, 3) := by decide +kernel
theorem dX11_cats_212 : decode cX11_cats 212 = .ok (.iload 8, 2) := by decide +kernel
theorem dX11_cats_214 : decode cX11_cats 214 = .ok (.goto 5, 3) := by decide +kernel
theorem dX11_cats_217 : decode cX11_cats 217 = .ok (.iload 5, 2) := by decide +kernel
theorem dX11_cats_219 : decode cX11_cats 219 = .ok (.istore 5, 2) := by decide +kernel
theorem dX11_cats_221 : decode cX11_cats 221 = .ok (.iinc 7 1, 3) := by decide +kernel
theorem dX11_cats_224 : decode cX11_cats 224 = .ok (.goto (-129), 3) := by decide +kernel
theorem dX11_cats_227 : decode cX11_cats 227 = .ok (.iload 5, 2) := by decide +kernel
theorem dX11_cats_229 : decode cX11_cats 229 = .ok (.ifCond .lt 7, 3) := by decide +kernel
theorem dX11_cats_232 : decode cX11_cats 232 = .ok (.iload_n 3, 1) := by decide +kernel
theorem dX11_cats_233 : decode cX11_cats 233 = .ok (.ifCond .ge 8, 3) := by decide +kernel
theorem dX11_cats_236 : decode cX11_cats 236 = .ok (.iload 5, 2) := by decide +kernel
theorem dX11_cats_238 : decode cX11_cats 238 = .ok (.goto 9, 3) := by decide +kernel
theorem dX11_cats_241 : decode cX11_cats 241 = .ok (.iload 6, 2) := by decide +kernel
theorem dX11_cats_243 : decode cX11_cats 243 = .ok (.iload_n 3, 1) := by decide +kernel
theorem dX11_cats_244 : decode cX11_cats 244 = .ok (.invokestatic 202, 3) := by decide +kernel
theorem dX11_cats_247 : decode cX11_cats 247 = .ok (.ireturn, 1) := by decide +kernel
theorem dX11_isMove_0 : decode cX11_isMove 0 = .ok (.aload_n 0, 1) := by decide +kernel
theorem dX11_isMove_1 : decode cX11_isMove 1 = .ok (.iconst 0, 1) := by decide +kernel
theorem dX11_isMove_2 : decode cX11_isMove 2 = .ok (.iconst 0, 1) := by decide +kernel
theorem dX11_isMove_3 : decode cX11_isMove 3 = .ok (.iload_n 1, 1) := by decide +kernel
theorem dX11_isMove_4 : decode cX11_isMove 4 = .ok (.invokevirtual 183, 3) := by decide +kernel
theorem dX11_isMove_7 : decode cX11_isMove 7 = .ok (.istore_n 2, 1) := by decide +kernel
theorem dX11_isMove_8 : decode cX11_isMove 8 = .ok (.iconst (-1), 1) := by decide +kernel
theorem dX11_isMove_9 : decode cX11_isMove 9 = .ok (.istore_n 3, 1) := by decide +kernel
theorem dX11_isMove_10 : decode cX11_isMove 10 = .ok (.iconst (-1), 1) := by decide +kernel
theorem dX11_isMove_11 : decode cX11_isMove 11 = .ok (.istore 4, 2) := by decide +kernel
theorem dX11_isMove_13 : decode cX11_isMove 13 = .ok (.iconst 0, 1) := by decide +kernel
theorem dX11_isMove_14 : decode cX11_isMove 14 = .ok (.istore 5, 2) := by decide +kernel
theorem dX11_isMove_16 : decode cX11_isMove 16 = .ok (.iload 5, 2) := by decide +kernel
theorem dX11_isMove_18 : decode cX11_isMove 18 = .ok (.aload_n 0, 1) := by decide +kernel
theorem dX11_isMove_19 : decode cX11_isMove 19 = .ok (.getfield 13, 3) := by decide +kernel
theorem dX11_isMove_22 : decode cX11_isMove 22 = .ok (.iconst 0, 1) := by decide +kernel
theorem dX11_isMove_23 : decode cX11_isMove 23 = .ok (.iaload, 1) := by decide +kernel
theorem dX11_isMove_24 : decode cX11_isMove 24 = .ok (.if_icmp .ge 85, 3) := by decide +kernel
theorem dX11_isMove_27 : decode cX11_isMove 27 = .ok (.iload 5, 2) := by decide +kernel
theorem dX11_isMove_29 : decode cX11_isMove 29 = .ok (.iconst 1, 1) := by decide +kernel
theorem dX11_isMove_30 : decode cX11_isMove 30 = .ok (.iadd, 1) := by decide +kernel
theorem dX11_isMove_31 : decode cX11_isMove 31 = .ok (.istore 6, 2) := by decide +kernel
theorem dX11_isMove_33 : decode cX11_isMove 33 = .ok (.iload 6, 2) := by decide +kernel
theorem dX11_isMove_35 : decode cX11_isMove 35 = .ok (.aload_n 0, 1) := by decide +kernel
theorem dX11_isMove_36 : decode cX11_isMove 36 = .ok (.getfield 13, 3) := by decide +kernel
theorem dX11_isMove_39 : decode cX11_isMove 39 = .ok (.iconst 0, 1) := by decide +kernel
theorem dX11_isMove_40 : decode cX11_isMove 40 = .ok (.iaload, 1) := by decide +kernel
theorem dX11_isMove_41 : decode cX11_isMove 41 = .ok (.if_icmp .ge 62, 3) := by decide +kernel
theorem dX11_isMove_44 : decode cX11_isMove 44 = .ok (.aload_n 0, 1) := by decide +kernel
theorem dX11_isMove_45 : decode cX11_isMove 45 = .ok (.getfield 20, 3) := by decide +kernel
theorem dX11_isMove_48 : decode cX11_isMove 48 = .ok (.iload 5, 2) := by decide +kernel
theorem dX11_isMove_50 : decode cX11_isMove 50 = .ok (.iaload, 1) := by decide +kernel
theorem dX11_isMove_51 : decode cX11_isMove 51 = .ok (.iload_n 1, 1) := by decide +kernel
theorem dX11_isMove_52 : decode cX11_isMove 52 = .ok (.if_icmp .ne 51, 3) := by decide +kernel
theorem dX11_isMove_55 : decode cX11_isMove 55 = .ok (.aload_n 0, 1) := by decide +kernel
theorem dX11_isMove_56 : decode cX11_isMove 56 = .ok (.getfield 20, 3) := by decide +kernel
theorem dX11_isMove_59 : decode cX11_isMove 59 = .ok (.iload 6, 2) := by decide +kernel
theorem dX11_isMove_61 : decode cX11_isMove 61 = .ok (.iaload, 1) := by decide +kernel
theorem dX11_isMove_62 : decode cX11_isMove 62 = .ok (.iload_n 1, 1) := by decide +kernel
theorem dX11_isMove_63 : decode cX11_isMove 63 = .ok (.if_icmp .ne 15, 3) := by decide +kernel
theorem dX11_isMove_66 : decode cX11_isMove 66 = .ok (.aload_n 0, 1) := by decide +kernel
theorem dX11_isMove_67 : decode cX11_isMove 67 = .ok (.iload 5, 2) := by decide +kernel
theorem dX11_isMove_69 : decode cX11_isMove 69 = .ok (.iload 6, 2) := by decide +kernel
theorem dX11_isMove_71 : decode cX11_isMove 71 = .ok (.iload_n 1, 1) := by decide +kernel
theorem dX11_isMove_72 : decode cX11_isMove 72 = .ok (.invokevirtual 183, 3) := by decide +kernel
theorem dX11_isMove_75 : decode cX11_isMove 75 = .ok (.goto 4, 3) := by decide +kernel
theorem dX11_isMove_78 : decode cX11_isMove 78 = .ok (.iload_n 2, 1) := by decide +kernel
theorem dX11_isMove_79 : decode cX11_isMove 79 = .ok (.istore 7, 2) := by decide +kernel
theorem dX11_isMove_81 : decode cX11_isMove 81 = .ok (.iload 7, 2) := by decide +kernel
theorem dX11_isMove_83 : decode cX11_isMove 83 = .ok (.iload_n 2, 1) := by decide +kernel
theorem dX11_isMove_84 : decode cX11_isMove 84 = .ok (.if_icmp .ge 13, 3) := by decide +kernel
theorem dX11_isMove_87 : decode cX11_isMove 87 = .ok (.iload 7, 2) := by decide +kernel
theorem dX11_isMove_89 : decode cX11_isMove 89 = .ok (.istore_n 2, 1) := by decide +kernel
theorem dX11_isMove_90 : decode cX11_isMove 90 = .ok (.iload 5, 2) := by decide +kernel
theorem dX11_isMove_92 : decode cX11_isMove 92 = .ok (.istore_n 3, 1) := by decide +kernel
theorem dX11_isMove_93 : decode cX11_isMove 93 = .ok (.iload 6, 2) := by decide +kernel
theorem dX11_isMove_95 : decode cX11_isMove 95 = .ok (.istore 4, 2) := by decide +kernel
theorem dX11_isMove_97 : decode cX11_isMove 97 = .ok (.iinc 6 1, 3) := by decide +kernel
theorem dX11_isMove_100 : decode cX11_isMove 100 = .ok (.goto (-67), 3) := by decide +kernel
theorem dX11_isMove_103 : decode cX11_isMove 103 = .ok (.iinc 5 1, 3) := by decide +kernel
theorem dX11_isMove_106 : decode cX11_isMove 106 = .ok (.goto (-90), 3) := by decide +kernel
theorem dX11_isMove_109 : decode cX11_isMove 109 = .ok (.iload_n 3, 1) := by decide +kernel
theorem dX11_isMove_110 : decode cX11_isMove 110 = .ok (.ifCond .lt 10, 3) := by decide +kernel
theorem dX11_isMove_113 : decode cX11_isMove 113 = .ok (.aload_n 0, 1) := by decide +kernel
theorem dX11_isMove_114 : decode cX11_isMove 114 = .ok (.iload_n 3, 1) := by decide +kernel
theorem dX11_isMove_115 : decode cX11_isMove 115 = .ok (.iload 4, 2) := by decide +kernel
theorem dX11_isMove_117 : decode cX11_isMove 117 = .ok (.invokevirtual 180, 3) := by decide +kernel
theorem dX11_isMove_120 : decode cX11_isMove 120 = .ok (.iload_n 3, 1) := by decide +kernel
theorem dX11_isMove_121 : decode cX11_isMove 121 = .ok (.ifCond .lt 7, 3) := by decide +kernel
theorem dX11_isMove_124 : decode cX11_isMove 124 = .ok (.iconst 1, 1) := by decide +kernel
theorem dX11_isMove_125 : decode cX11_isMove 125 = .ok (.goto 4, 3) := by decide +kernel
theorem dX11_isMove_128 : decode cX11_isMove 128 = .ok (.iconst 0, 1) := by decide +kernel
theorem dX11_isMove_129 : decode cX11_isMove 129 = .ok (.ireturn, 1) := by decide +kernel
theorem dX11_moves_0 : decode cX11_moves 0 = .ok (.iload_n 1, 1) := by decide +kernel
theorem dX11_moves_1 : decode cX11_moves 1 = .ok (.i2l, 1) := by decide +kernel
theorem dX11_moves_2 : decode cX11_moves 2 = .ok (.lconst 0, 1) := by decide +kernel
theorem dX11_moves_3 : decode cX11_moves 3 = .ok (.ldc2_w 117, 3) := by decide +kernel
theorem dX11_moves_6 : decode cX11_moves 6 = .ok (.invokestatic 86, 3) := by decide +kernel
theorem dX11_moves_9 : decode cX11_moves 9 = .ok (.ifCond .ne 5, 3) := by decide +kernel
theorem dX11_moves_12 : decode cX11_moves 12 = .ok (.iconst (-1), 1) := by decide +kernel
theorem dX11_moves_13 : decode cX11_moves 13 = .ok (.ireturn, 1) := by decide +kernel
theorem dX11_moves_14 : decode cX11_moves 14 = .ok (.iconst 0, 1) := by decide +kernel
theorem dX11_moves_15 : decode cX11_moves 15 = .ok (.istore_n 2, 1) := by decide +kernel
theorem dX11_moves_16 : decode cX11_moves 16 = .ok (.iload_n 2, 1) := by decide +kernel
theorem dX11_moves_17 : decode cX11_moves 17 = .ok (.bipush 8, 2) := by decide +kernel
theorem dX11_moves_19 : decode cX11_moves 19 = .ok (.if_icmp .ge 21, 3) := by decide +kernel
theorem dX11_moves_22 : decode cX11_moves 22 = .ok (.aload_n 0, 1) := by decide +kernel
theorem dX11_moves_23 : decode cX11_moves 23 = .ok (.getfield 69, 3) := by decide +kernel
theorem dX11_moves_26 : decode cX11_moves 26 = .ok (.iload_n 2, 1) := by decide +kernel
theorem dX11_moves_27 : decode cX11_moves 27 = .ok (.aload_n 0, 1) := by decide +kernel
theorem dX11_moves_28 : decode cX11_moves 28 = .ok (.getfield 48, 3) := by decide +kernel
theorem dX11_moves_31 : decode cX11_moves 31 = .ok (.iload_n 2, 1) := by decide +kernel
theorem dX11_moves_32 : decode cX11_moves 32 = .ok (.iaload, 1) := by decide +kernel
theorem dX11_moves_33 : decode cX11_moves 33 = .ok (.iastore, 1) := by decide +kernel
theorem dX11_moves_34 : decode cX11_moves 34 = .ok (.iinc 2 1, 3) := by decide +kernel
theorem dX11_moves_37 : decode cX11_moves 37 = .ok (.goto (-21), 3) := by decide +kernel
theorem dX11_moves_40 : decode cX11_moves 40 = .ok (.aload_n 0, 1) := by decide +kernel
theorem dX11_moves_41 : decode cX11_moves 41 = .ok (.iconst 0, 1) := by decide +kernel
theorem dX11_moves_42 : decode cX11_moves 42 = .ok (.putfield 205, 3) := by decide +kernel
theorem dX11_moves_45 : decode cX11_moves 45 = .ok (.iconst 0, 1) := by decide +kernel
theorem dX11_moves_46 : decode cX11_moves 46 = .ok (.istore_n 2, 1) := by decide +kernel
theorem dX11_moves_47 : decode cX11_moves 47 = .ok (.iconst 0, 1) := by decide +kernel
theorem dX11_moves_48 : decode cX11_moves 48 = .ok (.istore_n 3, 1) := by decide +kernel
theorem dX11_moves_49 : decode cX11_moves 49 = .ok (.iload_n 2, 1) := by decide +kernel
theorem dX11_moves_50 : decode cX11_moves 50 = .ok (.iconst 2, 1) := by decide +kernel
theorem dX11_moves_51 : decode cX11_moves 51 = .ok (.if_icmp .ge 58, 3) := by decide +kernel
theorem dX11_moves_54 : decode cX11_moves 54 = .ok (.aload_n 0, 1) := by decide +kernel
theorem dX11_moves_55 : decode cX11_moves 55 = .ok (.getfield 205, 3) := by decide +kernel
theorem dX11_moves_58 : decode cX11_moves 58 = .ok (.bipush 40, 2) := by decide +kernel
theorem dX11_moves_60 : decode cX11_moves 60 = .ok (.if_icmp .ge 49, 3) := by decide +kernel
theorem dX11_moves_63 : decode cX11_moves 63 = .ok (.aload_n 0, 1) := by decide +kernel
theorem dX11_moves_64 : decode cX11_moves 64 = .ok (.iload_n 3, 1) := by decide +kernel
theorem dX11_moves_65 : decode cX11_moves 65 = .ok (.invokevirtual 208, 3) := by decide +kernel
theorem dX11_moves_68 : decode cX11_moves 68 = .ok (.istore 4, 2) := by decide +kernel
theorem dX11_moves_70 : decode cX11_moves 70 = .ok (.aload_n 0, 1) := by decide +kernel
theorem dX11_moves_71 : decode cX11_moves 71 = .ok (.dup, 1) := by decide +kernel
theorem dX11_moves_72 : decode cX11_moves 72 = .ok (.getfield 205, 3) := by decide +kernel
theorem dX11_moves_75 : decode cX11_moves 75 = .ok (.iload 4, 2) := by decide +kernel
theorem dX11_moves_77 : decode cX11_moves 77 = .ok (.ifCond .eq 7, 3) := by decide +kernel
theorem dX11_moves_80 : decode cX11_moves 80 = .ok (.iconst 1, 1) := by decide +kernel
theorem dX11_moves_81 : decode cX11_moves 81 = .ok (.goto 4, 3) := by decide +kernel
theorem dX11_moves_84 : decode cX11_moves 84 = .ok (.iconst 0, 1) := by decide +kernel
theorem dX11_moves_85 : decode cX11_moves 85 = .ok (.iadd, 1) := by decide +kernel
theorem dX11_moves_86 : decode cX11_moves 86 = .ok (.putfield 205, 3) := by decide +kernel
theorem dX11_moves_89 : decode cX11_moves 89 = .ok (.iload 4, 2) := by decide +kernel
theorem dX11_moves_91 : decode cX11_moves 91 = .ok (.ifCond .eq 7, 3) := by decide +kernel
theorem dX11_moves_94 : decode cX11_moves 94 = .ok (.iconst 0, 1) := by decide +kernel
theorem dX11_moves_95 : decode cX11_moves 95 = .ok (.goto 6, 3) := by decide +kernel
theorem dX11_moves_98 : decode cX11_moves 98 = .ok (.iload_n 2, 1) := by decide +kernel
theorem dX11_moves_99 : decode cX11_moves 99 = .ok (.iconst 1, 1) := by decide +kernel
theorem dX11_moves_100 : decode cX11_moves 100 = .ok (.iadd, 1) := by decide +kernel
theorem dX11_moves_101 : decode cX11_moves 101 = .ok (.istore_n 2, 1) := by decide +kernel
theorem dX11_moves_102 : decode cX11_moves 102 = .ok (.iconst 1, 1) := by decide +kernel
theorem dX11_moves_103 : decode cX11_moves 103 = .ok (.iload_n 3, 1) := by decide +kernel
theorem dX11_moves_104 : decode cX11_moves 104 = .ok (.isub, 1) := by decide +kernel
theorem dX11_moves_105 : decode cX11_moves 105 = .ok (.istore_n 3, 1) := by decide +kernel
theorem dX11_moves_106 : decode cX11_moves 106 = .ok (.goto (-57), 3) := by decide +kernel
theorem dX11_moves_109 : decode cX11_moves 109 = .ok (.iload_n 1, 1) := by decide +kernel
theorem dX11_moves_110 : decode cX11_moves 110 = .ok (.ifCond .ne 7, 3) := by decide +kernel
theorem dX11_moves_113 : decode cX11_moves 113 = .ok (.iconst 0, 1) := by decide +kernel
theorem dX11_moves_114 : decode cX11_moves 114 = .ok (.goto 12, 3) := by decide +kernel
theorem dX11_moves_117 : decode cX11_moves 117 = .ok (.aload_n 0, 1) := by decide +kernel
theorem dX11_moves_118 : decode cX11_moves 118 = .ok (.iconst 0, 1) := by decide +kernel
theorem dX11_moves_119 : decode cX11_moves 119 = .ok (.iconst 0, 1) := by decide +kernel
theorem dX11_moves_120 : decode cX11_moves 120 = .ok (.iload_n 1, 1) := by decide +kernel
theorem dX11_moves_121 : decode cX11_moves 121 = .ok (.iconst 1, 1) := by decide +kernel
theorem dX11_moves_122 : decode cX11_moves 122 = .ok (.isub, 1) := by decide +kernel
theorem dX11_moves_123 : decode cX11_moves 123 = .ok (.invokevirtual 183, 3) := by decide +kernel
theorem dX11_moves_126 : decode cX11_moves 126 = .ok (.istore 4, 2) := by decide +kernel
theorem dX11_moves_128 : decode cX11_moves 128 = .ok (.iconst 0, 1) := by decide +kernel
theorem dX11_moves_129 : decode cX11_moves 129 = .ok (.istore 5, 2) := by decide +kernel
theorem dX11_moves_131 : decode cX11_moves 131 = .ok (.iload 5, 2) := by decide +kernel
theorem dX11_moves_133 : decode cX11_moves 133 = .ok (.bipush 8, 2) := by decide +kernel
theorem dX11_moves_135 : decode cX11_moves 135 = .ok (.if_icmp .ge 23, 3) := by decide +kernel
theorem dX11_moves_138 : decode cX11_moves 138 = .ok (.aload_n 0, 1) := by decide +kernel
theorem dX11_moves_139 : decode cX11_moves 139 = .ok (.getfield 48, 3) := by decide +kernel
theorem dX11_moves_142 : decode cX11_moves 142 = .ok (.iload 5, 2) := by decide +kernel
theorem dX11_moves_144 : decode cX11_moves 144 = .ok (.aload_n 0, 1) := by decide +kernel
theorem dX11_moves_145 : decode cX11_moves 145 = .ok (.getfield 69, 3) := by decide +kernel
theorem dX11_moves_148 : decode cX11_moves 148 = .ok (.iload 5, 2) := by decide +kernel
theorem dX11_moves_150 : decode cX11_moves 150 = .ok (.iaload, 1) := by decide +kernel
theorem dX11_moves_151 : decode cX11_moves 151 = .ok (.iastore, 1) := by decide +kernel
theorem dX11_moves_152 : decode cX11_moves 152 = .ok (.iinc 5 1, 3) := by decide +kernel
theorem dX11_moves_155 : decode cX11_moves 155 = .ok (.goto (-24), 3) := by decide +kernel
theorem dX11_moves_158 : decode cX11_moves 158 = .ok (.iload_n 1, 1) := by decide +kernel
theorem dX11_moves_159 : decode cX11_moves 159 = .ok (.ifCond .le 8, 3) := by decide +kernel
theorem dX11_moves_162 : decode cX11_moves 162 = .ok (.iload 4, 2) := by decide +kernel
theorem dX11_moves_164 : decode cX11_moves 164 = .ok (.goto 21, 3) := by decide +kernel
theorem dX11_moves_167 : decode cX11_moves 167 = .ok (.aload_n 0, 1) := by decide +kernel
theorem dX11_moves_168 : decode cX11_moves 168 = .ok (.getfield 205, 3) := by decide +kernel
theorem dX11_moves_171 : decode cX11_moves 171 = .ok (.bipush 40, 2) := by decide +kernel
theorem dX11_moves_173 : decode cX11_moves 173 = .ok (.if_icmp .ne 8, 3) := by decide +kernel
theorem dX11_moves_176 : decode cX11_moves 176 = .ok (.bipush (-4), 2) := by decide +kernel
theorem dX11_moves_178 : decode cX11_moves 178 = .ok (.goto 7, 3) := by decide +kernel
theorem dX11_moves_181 : decode cX11_moves 181 = .ok (.aload_n 0, 1) := by decide +kernel
theorem dX11_moves_182 : decode cX11_moves 182 = .ok (.getfield 205, 3) := by decide +kernel
theorem dX11_moves_185 : decode cX11_moves 185 = .ok (.ireturn, 1) := by decide +kernel
theorem dX11_was_0 : decode cX11_was 0 = .ok (.iload_n 1, 1) := by decide +kernel
theorem dX11_was_1 : decode cX11_was 1 = .ok (.i2l, 1) := by decide +kernel
theorem dX11_was_2 : decode cX11_was 2 = .ok (.lconst 0, 1) := by decide +kernel
theorem dX11_was_3 : decode cX11_was 3 = .ok (.ldc2_w 175, 3) := by decide +kernel
theorem dX11_was_6 : decode cX11_was 6 = .ok (.invokestatic 86, 3) := by decide +kernel
theorem dX11_was_9 : decode cX11_was 9 = .ok (.ifCond .eq 35, 3) := by decide +kernel
theorem dX11_was_12 : decode cX11_was 12 = .ok (.iload_n 2, 1) := by decide +kernel
theorem dX11_was_13 : decode cX11_was 13 = .ok (.i2l, 1) := by decide +kernel
theorem dX11_was_14 : decode cX11_was 14 = .ok (.lconst 0, 1) := by decide +kernel
theorem dX11_was_15 : decode cX11_was 15 = .ok (.ldc2_w 211, 3) := by decide +kernel
theorem dX11_was_18 : decode cX11_was 18 = .ok (.invokestatic 86, 3) := by decide +kernel
theorem dX11_was_21 : decode cX11_was 21 = .ok (.ifCond .eq 23, 3) := by decide +kernel
theorem dX11_was_24 : decode cX11_was 24 = .ok (.iload_n 3, 1) := by decide +kernel
theorem dX11_was_25 : decode cX11_was 25 = .ok (.i2l, 1) := by decide +kernel
theorem dX11_was_26 : decode cX11_was 26 = .ok (.ldc2_w 169, 3) := by decide +kernel
theorem dX11_was_29 : decode cX11_was 29 = .ok (.aload_n 0, 1) := by decide +kernel
theorem dX11_was_30 : decode cX11_was 30 = .ok (.getfield 13, 3) := by decide +kernel
theorem dX11_was_33 : decode cX11_was 33 = .ok (.iconst 0, 1) := by decide +kernel
theorem dX11_was_34 : decode cX11_was 34 = .ok (.iaload, 1) := by decide +kernel
theorem dX11_was_35 : decode cX11_was 35 = .ok (.iconst 1, 1) := by decide +kernel
theorem dX11_was_36 : decode cX11_was 36 = .ok (.isub, 1) := by decide +kernel
theorem dX11_was_37 : decode cX11_was 37 = .ok (.i2l, 1) := by decide +kernel
theorem dX11_was_38 : decode cX11_was 38 = .ok (.invokestatic 86, 3) := by decide +kernel
theorem dX11_was_41 : decode cX11_was 41 = .ok (.ifCond .ne 5, 3) := by decide +kernel
theorem dX11_was_44 : decode cX11_was 44 = .ok (.iconst (-1), 1) := by decide +kernel
theorem dX11_was_45 : decode cX11_was 45 = .ok (.ireturn, 1) := by decide +kernel
theorem dX11_was_46 : decode cX11_was 46 = .ok (.aload_n 0, 1) := by decide +kernel
theorem dX11_was_47 : decode cX11_was 47 = .ok (.getfield 13, 3) := by decide +kernel
theorem dX11_was_50 : decode cX11_was 50 = .ok (.iconst 0, 1) := by decide +kernel
theorem dX11_was_51 : decode cX11_was 51 = .ok (.iaload, 1) := by decide +kernel
theorem dX11_was_52 : decode cX11_was 52 = .ok (.iconst 4, 1) := by decide +kernel
theorem dX11_was_53 : decode cX11_was 53 = .ok (.if_icmp .le 6, 3) := by decide +kernel
theorem dX11_was_56 : decode cX11_was 56 = .ok (.bipush (-2), 2) := by decide +kernel
theorem dX11_was_58 : decode cX11_was 58 = .ok (.ireturn, 1) := by decide +kernel
theorem dX11_was_59 : decode cX11_was 59 = .ok (.iconst 1, 1) := by decide +kernel
theorem dX11_was_60 : decode cX11_was 60 = .ok (.istore 4, 2) := by decide +kernel
theorem dX11_was_62 : decode cX11_was 62 = .ok (.iconst 0, 1) := by decide +kernel
theorem dX11_was_63 : decode cX11_was 63 = .ok (.istore 5, 2) := by decide +kernel
theorem dX11_was_65 : decode cX11_was 65 = .ok (.iload 5, 2) := by decide +kernel
theorem dX11_was_67 : decode cX11_was 67 = .ok (.aload_n 0, 1) := by decide +kernel
theorem dX11_was_68 : decode cX11_was 68 = .ok (.getfield 13, 3) := by decide +kernel
theorem dX11_was_71 : decode cX11_was 71 = .ok (.iconst 0, 1) := by decide +kernel
theorem dX11_was_72 : decode cX11_was 72 = .ok (.iaload, 1) := by decide +kernel
theorem dX11_was_73 : decode cX11_was 73 = .ok (.if_icmp .ge 17, 3) := by decide +kernel
theorem dX11_was_76 : decode cX11_was 76 = .ok (.iload 4, 2) := by decide +kernel
theorem dX11_was_78 : decode cX11_was 78 = .ok (.iload_n 1, 1) := by decide +kernel
theorem dX11_was_79 : decode cX11_was 79 = .ok (.iconst 1, 1) := by decide +kernel
theorem dX11_was_80 : decode cX11_was 80 = .ok (.iadd, 1) := by decide +kernel
theorem dX11_was_81 : decode cX11_was 81 = .ok (.imul, 1) := by decide +kernel
theorem dX11_was_82 : decode cX11_was 82 = .ok (.istore 4, 2) := by decide +kernel
theorem dX11_was_84 : decode cX11_was 84 = .ok (.iinc 5 1, 3) := by decide +kernel
theorem dX11_was_87 : decode cX11_was 87 = .ok (.goto (-22), 3) := by decide +kernel
theorem dX11_was_90 : decode cX11_was 90 = .ok (.iconst 0, 1) := by decide +kernel
theorem dX11_was_91 : decode cX11_was 91 = .ok (.istore 5, 2) := by decide +kernel
theorem dX11_was_93 : decode cX11_was 93 = .ok (.iconst 0, 1) := by decide +kernel
theorem dX11_was_94 : decode cX11_was 94 = .ok (.istore 6, 2) := by decide +kernel
theorem dX11_was_96 : decode cX11_was 96 = .ok (.iload 6, 2) := by decide +kernel
theorem dX11_was_98 : decode cX11_was 98 = .ok (.iload 4, 2) := by decide +kernel
theorem dX11_was_100 : decode cX11_was 100 = .ok (.if_icmp .ge 179, 3) := by decide +kernel
theorem dX11_was_103 : decode cX11_was 103 = .ok (.iload 6, 2) := by decide +kernel
theorem dX11_was_105 : decode cX11_was 105 = .ok (.istore 7, 2) := by decide +kernel
theorem dX11_was_107 : decode cX11_was 107 = .ok (.aload_n 0, 1) := by decide +kernel
theorem dX11_was_108 : decode cX11_was 108 = .ok (.getfield 13, 3) := by decide +kernel
theorem dX11_was_111 : decode cX11_was 111 = .ok (.iconst 0, 1) := by decide +kernel
theorem dX11_was_112 : decode cX11_was 112 = .ok (.iaload, 1) := by decide +kernel
theorem dX11_was_113 : decode cX11_was 113 = .ok (.iconst 1, 1) := by decide +kernel
theorem dX11_was_114 : decode cX11_was 114 = .ok (.isub, 1) := by decide +kernel
theorem dX11_was_115 : decode cX11_was 115 = .ok (.istore 8, 2) := by decide +kernel
theorem dX11_was_117 : decode cX11_was 117 = .ok (.iload 8, 2) := by decide +kernel
theorem dX11_was_119 : decode cX11_was 119 = .ok (.ifCond .lt 44, 3) := by decide +kernel
theorem dX11_was_122 : decode cX11_was 122 = .ok (.aload_n 0, 1) := by decide +kernel
theorem dX11_was_123 : decode cX11_was 123 = .ok (.getfield 66, 3) := by decide +kernel
theorem dX11_was_126 : decode cX11_was 126 = .ok (.iload 8, 2) := by decide +kernel
theorem dX11_was_128 : decode cX11_was 128 = .ok (.iload 7, 2) := by decide +kernel
theorem dX11_was_130 : decode cX11_was 130 = .ok (.iload_n 1, 1) := by decide +kernel
theorem dX11_was_131 : decode cX11_was 131 = .ok (.iconst 1, 1) := by decide +kernel
theorem dX11_was_132 : decode cX11_was 132 = .ok (.iadd, 1) := by decide +kernel
theorem dX11_was_133 : decode cX11_was 133 = .ok (.irem, 1) := by decide +kernel
theorem dX11_was_134 : decode cX11_was 134 = .ok (.iastore, 1) := by decide +kernel
theorem dX11_was_135 : decode cX11_was 135 = .ok (.aload_n 0, 1) := by decide +kernel
theorem dX11_was_136 : decode cX11_was 136 = .ok (.getfield 57, 3) := by decide +kernel
theorem dX11_was_139 : decode cX11_was 139 = .ok (.iload 8, 2) := by decide +kernel
theorem dX11_was_141 : decode cX11_was 141 = .ok (.aload_n 0, 1) := by decide +kernel
theorem dX11_was_142 : decode cX11_was 142 = .ok (.getfield 66, 3) := by decide +kernel
theorem dX11_was_145 : decode cX11_was 145 = .ok (.iload 8, 2) := by decide +kernel
theorem dX11_was_147 : decode cX11_was 147 = .ok (.iaload, 1) := by decide +kernel
theorem dX11_was_148 : decode cX11_was 148 = .ok (.iastore, 1) := by decide +kernel
theorem dX11_was_149 : decode cX11_was 149 = .ok (.iload 7, 2) := by decide +kernel
theorem dX11_was_151 : decode cX11_was 151 = .ok (.iload_n 1, 1) := by decide +kernel
theorem dX11_was_152 : decode cX11_was 152 = .ok (.iconst 1, 1) := by decide +kernel
theorem dX11_was_153 : decode cX11_was 153 = .ok (.iadd, 1) := by decide +kernel
theorem dX11_was_154 : decode cX11_was 154 = .ok (.idiv, 1) := by decide +kernel
theorem dX11_was_155 : decode cX11_was 155 = .ok (.istore 7, 2) := by decide +kernel
theorem dX11_was_157 : decode cX11_was 157 = .ok (.iinc 8 (-1), 3) := by decide +kernel
theorem dX11_was_160 : decode cX11_was 160 = .ok (.goto (-43), 3) := by decide +kernel
theorem dX11_was_163 : decode cX11_was 163 = .ok (.aload_n 0, 1) := by decide +kernel
theorem dX11_was_164 : decode cX11_was 164 = .ok (.aload_n 0, 1) := by decide +kernel
theorem dX11_was_165 : decode cX11_was 165 = .ok (.getfield 23, 3) := by decide +kernel
theorem dX11_was_168 : decode cX11_was 168 = .ok (.iconst 1, 1) := by decide +kernel
theorem dX11_was_169 : decode cX11_was 169 = .ok (.iaload, 1) := by decide +kernel
theorem dX11_was_170 : decode cX11_was 170 = .ok (.iload_n 2, 1) := by decide +kernel
theorem dX11_was_171 : decode cX11_was 171 = .ok (.invokevirtual 156, 3) := by decide +kernel
theorem dX11_was_174 : decode cX11_was 174 = .ok (.istore 8, 2) := by decide +kernel
theorem dX11_was_176 : decode cX11_was 176 = .ok (.iload 8, 2) := by decide +kernel
theorem dX11_was_178 : decode cX11_was 178 = .ok (.ifCond .lt 7, 3) := by decide +kernel
theorem dX11_was_181 : decode cX11_was 181 = .ok (.iconst 1, 1) := by decide +kernel
theorem dX11_was_182 : decode cX11_was 182 = .ok (.goto 4, 3) := by decide +kernel
theorem dX11_was_185 : decode cX11_was 185 = .ok (.iconst 0, 1) := by decide +kernel
theorem dX11_was_186 : decode cX11_was 186 = .ok (.istore 9, 2) := by decide +kernel
theorem dX11_was_188 : decode cX11_was 188 = .ok (.iconst 0, 1) := by decide +kernel
theorem dX11_was_189 : decode cX11_was 189 = .ok (.istore 10, 2) := by decide +kernel
theorem dX11_was_191 : decode cX11_was 191 = .ok (.iload 10, 2) := by decide +kernel
theorem dX11_was_193 : decode cX11_was 193 = .ok (.aload_n 0, 1) := by decide +kernel
theorem dX11_was_194 : decode cX11_was 194 = .ok (.getfield 13, 3) := by decide +kernel
theorem dX11_was_197 : decode cX11_was 197 = .ok (.iconst 0, 1) := by decide +kernel
theorem dX11_was_198 : decode cX11_was 198 = .ok (.iaload, 1) := by decide +kernel
theorem dX11_was_199 : decode cX11_was 199 = .ok (.if_icmp .ge 38, 3) := by decide +kernel
theorem dX11_was_202 : decode cX11_was 202 = .ok (.iload 9, 2) := by decide +kernel
theorem dX11_was_204 : decode cX11_was 204 = .ok (.ifCond .eq 24, 3) := by decide +kernel
theorem dX11_was_207 : decode cX11_was 207 = .ok (.aload_n 0, 1) := by decide +kernel
theorem dX11_was_208 : decode cX11_was 208 = .ok (.getfield 57, 3) := by decide +kernel
theorem dX11_was_211 : decode cX11_was 211 = .ok (.iload 10, 2) := by decide +kernel
theorem dX11_was_213 : decode cX11_was 213 = .ok (.iaload, 1) := by decide +kernel
theorem dX11_was_214 : decode cX11_was 214 = .ok (.aload_n 0, 1) := by decide +kernel
theorem dX11_was_215 : decode cX11_was 215 = .ok (.getfield 48, 3) := by decide +kernel
theorem dX11_was_218 : decode cX11_was 218 = .ok (.iload 10, 2) := by decide +kernel
theorem dX11_was_220 : decode cX11_was 220 = .ok (.iaload, 1) := by decide +kernel
theorem dX11_was_221 : decode cX11_was 221 = .ok (.if_icmp .ne 7, 3) := by decide +kernel
theorem dX11_was_224 : decode cX11_was 224 = .ok (.iconst 1, 1) := by decide +kernel
theorem dX11_was_225 : decode cX11_was 225 = .ok (.goto 4, 3) := by decide +kernel
theorem dX11_was_228 : decode cX11_was 228 = .ok (.iconst 0, 1) := by decide +kernel
theorem dX11_was_229 : decode cX11_was 229 = .ok (.istore 9, 2) := by decide +kernel
theorem dX11_was_231 : decode cX11_was 231 = .ok (.iinc 10 1, 3) := by decide +kernel
theorem dX11_was_234 : decode cX11_was 234 = .ok (.goto (-43), 3) := by decide +kernel
theorem dX11_was_237 : decode cX11_was 237 = .ok (.iload 9, 2) := by decide +kernel
theorem dX11_was_239 : decode cX11_was 239 = .ok (.ifCond .eq 19, 3) := by decide +kernel
theorem dX11_was_242 : decode cX11_was 242 = .ok (.iload 5, 2) := by decide +kernel
theorem dX11_was_244 : decode cX11_was 244 = .ok (.ifCond .ne 14, 3) := by decide +kernel
theorem dX11_was_247 : decode cX11_was 247 = .ok (.iload_n 3, 1) := by decide +kernel
theorem dX11_was_248 : decode cX11_was 248 = .ok (.ifCond .lt 10, 3) := by decide +kernel
theorem dX11_was_251 : decode cX11_was 251 = .ok (.aload_n 0, 1) := by decide +kernel
theorem dX11_was_252 : decode cX11_was 252 = .ok (.getfield 66, 3) := by decide +kernel
theorem dX11_was_255 : decode cX11_was 255 = .ok (.iload_n 3, 1) := by decide +kernel
theorem dX11_was_256 : decode cX11_was 256 = .ok (.iaload, 1) := by decide +kernel
theorem dX11_was_257 : decode cX11_was 257 = .ok (.ireturn, 1) := by decide +kernel
theorem dX11_was_258 : decode cX11_was 258 = .ok (.iload 5, 2) := by decide +kernel
theorem dX11_was_260 : decode cX11_was 260 = .ok (.iload 9, 2) := by decide +kernel
theorem dX11_was_262 : decode cX11_was 262 = .ok (.ifCond .eq 7, 3) := by decide +kernel
theorem dX11_was_265 : decode cX11_was 265 = .ok (.iconst 1, 1) := by decide +kernel
theorem dX11_was_266 : decode cX11_was 266 = .ok (.goto 4, 3) := by decide +kernel
theorem dX11_was_269 : decode cX11_was 269 = .ok (.iconst 0, 1) := by decide +kernel
theorem dX11_was_270 : decode cX11_was 270 = .ok (.iadd, 1) := by decide +kernel
theorem dX11_was_271 : decode cX11_was 271 = .ok (.istore 5, 2) := by decide +kernel
theorem dX11_was_273 : decode cX11_was 273 = .ok (.iinc 6 1, 3) := by decide +kernel
theorem dX11_was_276 : decode cX11_was 276 = .ok (.goto (-180), 3) := by decide +kernel
theorem dX11_was_279 : decode cX11_was 279 = .ok (.iload_n 3, 1) := by decide +kernel
theorem dX11_was_280 : decode cX11_was 280 = .ok (.ifCond .ge 8, 3) := by decide +kernel
theorem dX11_was_283 : decode cX11_was 283 = .ok (.iload 5, 2) := by decide +kernel
theorem dX11_was_285 : decode cX11_was 285 = .ok (.goto 5, 3) := by decide +kernel
theorem dX11_was_288 : decode cX11_was 288 = .ok (.bipush (-4), 2) := by decide +kernel
theorem dX11_was_290 : decode cX11_was 290 = .ok (.ireturn, 1) := by decide +kernel
theorem dX11_others_0 : decode cX11_others 0 = .ok (.iload_n 1, 1) := by decide +kernel
theorem dX11_others_1 : decode cX11_others 1 = .ok (.i2l, 1) := by decide +kernel
theorem dX11_others_2 : decode cX11_others 2 = .ok (.lconst 0, 1) := by decide +kernel
theorem dX11_others_3 : decode cX11_others 3 = .ok (.ldc2_w 101, 3) := by decide +kernel
theorem dX11_others_6 : decode cX11_others 6 = .ok (.invokestatic 86, 3) := by decide +kernel
theorem dX11_others_9 : decode cX11_others 9 = .ok (.ifCond .eq 10, 3) := by decide +kernel
theorem dX11_others_12 : decode cX11_others 12 = .ok (.iload_n 2, 1) := by decide +kernel
theorem dX11_others_13 : decode cX11_others 13 = .ok (.invokestatic 163, 3) := by decide +kernel
theorem dX11_others_16 : decode cX11_others 16 = .ok (.ifCond .ne 5, 3) := by decide +kernel
theorem dX11_others_19 : decode cX11_others 19 = .ok (.iconst (-1), 1) := by decide +kernel
theorem dX11_others_20 : decode cX11_others 20 = .ok (.ireturn, 1) := by decide +kernel
theorem dX11_others_21 : decode cX11_others 21 = .ok (.aload_n 0, 1) := by decide +kernel
theorem dX11_others_22 : decode cX11_others 22 = .ok (.invokevirtual 160, 3) := by decide +kernel
theorem dX11_others_25 : decode cX11_others 25 = .ok (.aload_n 0, 1) := by decide +kernel
theorem dX11_others_26 : decode cX11_others 26 = .ok (.iload_n 1, 1) := by decide +kernel
theorem dX11_others_27 : decode cX11_others 27 = .ok (.aload_n 0, 1) := by decide +kernel
theorem dX11_others_28 : decode cX11_others 28 = .ok (.getfield 136, 3) := by decide +kernel
theorem dX11_others_31 : decode cX11_others 31 = .ok (.iload_n 2, 1) := by decide +kernel
theorem dX11_others_32 : decode cX11_others 32 = .ok (.invokevirtual 166, 3) := by decide +kernel
theorem dX11_others_35 : decode cX11_others 35 = .ok (.ireturn, 1) := by decide +kernel
theorem dX11_lostDrawn_0 : decode cX11_lostDrawn 0 = .ok (.aload_n 0, 1) := by decide +kernel
theorem dX11_lostDrawn_1 : decode cX11_lostDrawn 1 = .ok (.iconst 0, 1) := by decide +kernel
theorem dX11_lostDrawn_2 : decode cX11_lostDrawn 2 = .ok (.putfield 213, 3) := by decide +kernel
theorem dX11_lostDrawn_5 : decode cX11_lostDrawn 5 = .ok (.iconst 0, 1) := by decide +kernel
theorem dX11_lostDrawn_6 : decode cX11_lostDrawn 6 = .ok (.istore_n 3, 1) := by decide +kernel
theorem dX11_lostDrawn_7 : decode cX11_lostDrawn 7 = .ok (.iload_n 3, 1) := by decide +kernel
theorem dX11_lostDrawn_8 : decode cX11_lostDrawn 8 = .ok (.bipush 8, 2) := by decide +kernel
theorem dX11_lostDrawn_10 : decode cX11_lostDrawn 10 = .ok (.if_icmp .ge 75, 3) := by decide +kernel
theorem dX11_lostDrawn_13 : decode cX11_lostDrawn 13 = .ok (.ldc2_w 216, 3) := by decide +kernel
theorem dX11_lostDrawn_16 : decode cX11_lostDrawn 16 = .ok (.iload_n 1, 1) := by decide +kernel
theorem dX11_lostDrawn_17 : decode cX11_lostDrawn 17 = .ok (.i2l, 1) := by decide +kernel
theorem dX11_lostDrawn_18 : decode cX11_lostDrawn 18 = .ok (.lmul, 1) := by decide +kernel
theorem dX11_lostDrawn_19 : decode cX11_lostDrawn 19 = .ok (.ldc2_w 218, 3) := by decide +kernel
theorem dX11_lostDrawn_22 : decode cX11_lostDrawn 22 = .ok (.iload_n 3, 1) := by decide +kernel
theorem dX11_lostDrawn_23 : decode cX11_lostDrawn 23 = .ok (.i2l, 1) := by decide +kernel
theorem dX11_lostDrawn_24 : decode cX11_lostDrawn 24 = .ok (.lmul, 1) := by decide +kernel
theorem dX11_lostDrawn_25 : decode cX11_lostDrawn 25 = .ok (.ladd, 1) := by decide +kernel
theorem dX11_lostDrawn_26 : decode cX11_lostDrawn 26 = .ok (.lconst 1, 1) := by decide +kernel
theorem dX11_lostDrawn_27 : decode cX11_lostDrawn 27 = .ok (.ladd, 1) := by decide +kernel
theorem dX11_lostDrawn_28 : decode cX11_lostDrawn 28 = .ok (.lstore 4, 2) := by decide +kernel
theorem dX11_lostDrawn_30 : decode cX11_lostDrawn 30 = .ok (.aload_n 0, 1) := by decide +kernel
theorem dX11_lostDrawn_31 : decode cX11_lostDrawn 31 = .ok (.getfield 57, 3) := by decide +kernel
theorem dX11_lostDrawn_34 : decode cX11_lostDrawn 34 = .ok (.iload_n 3, 1) := by decide +kernel
theorem dX11_lostDrawn_35 : decode cX11_lostDrawn 35 = .ok (.iload_n 3, 1) := by decide +kernel
theorem dX11_lostDrawn_36 : decode cX11_lostDrawn 36 = .ok (.aload_n 0, 1) := by decide +kernel
theorem dX11_lostDrawn_37 : decode cX11_lostDrawn 37 = .ok (.getfield 13, 3) := by decide +kernel
theorem dX11_lostDrawn_40 : decode cX11_lostDrawn 40 = .ok (.iconst 0, 1) := by decide +kernel
theorem dX11_lostDrawn_41 : decode cX11_lostDrawn 41 = .ok (.iaload, 1) := by decide +kernel
theorem dX11_lostDrawn_42 : decode cX11_lostDrawn 42 = .ok (.if_icmp .ge 20, 3) := by decide +kernel
theorem dX11_lostDrawn_45 : decode cX11_lostDrawn 45 = .ok (.lload 4, 2) := by decide +kernel
theorem dX11_lostDrawn_47 : decode cX11_lostDrawn 47 = .ok (.lload 4, 2) := by decide +kernel
theorem dX11_lostDrawn_49 : decode cX11_lostDrawn 49 = .ok (.lmul, 1) := by decide +kernel
theorem dX11_lostDrawn_50 : decode cX11_lostDrawn 50 = .ok (.ldc2_w 220, 3) := by decide +kernel
theorem dX11_lostDrawn_53 : decode cX11_lostDrawn 53 = .ok (.lrem, 1) := by decide +kernel
theorem dX11_lostDrawn_54 : decode cX11_lostDrawn 54 = .ok (.ldc2_w 222, 3) := by decide +kernel
theorem dX11_lostDrawn_57 : decode cX11_lostDrawn 57 = .ok (.lrem, 1) := by decide +kernel
theorem dX11_lostDrawn_58 : decode cX11_lostDrawn 58 = .ok (.l2i, 1) := by decide +kernel
theorem dX11_lostDrawn_59 : decode cX11_lostDrawn 59 = .ok (.goto 4, 3) := by decide +kernel
theorem dX11_lostDrawn_62 : decode cX11_lostDrawn 62 = .ok (.iconst 0, 1) := by decide +kernel
theorem dX11_lostDrawn_63 : decode cX11_lostDrawn 63 = .ok (.iastore, 1) := by decide +kernel
theorem dX11_lostDrawn_64 : decode cX11_lostDrawn 64 = .ok (.aload_n 0, 1) := by decide +kernel
theorem dX11_lostDrawn_65 : decode cX11_lostDrawn 65 = .ok (.dup, 1) := by decide +kernel
theorem dX11_lostDrawn_66 : decode cX11_lostDrawn 66 = .ok (.getfield 213, 3) := by decide +kernel
theorem dX11_lostDrawn_69 : decode cX11_lostDrawn 69 = .ok (.aload_n 0, 1) := by decide +kernel
theorem dX11_lostDrawn_70 : decode cX11_lostDrawn 70 = .ok (.getfield 57, 3) := by decide +kernel
theorem dX11_lostDrawn_73 : decode cX11_lostDrawn 73 = .ok (.iload_n 3, 1) := by decide +kernel
theorem dX11_lostDrawn_74 : decode cX11_lostDrawn 74 = .ok (.iaload, 1) := by decide +kernel
theorem dX11_lostDrawn_75 : decode cX11_lostDrawn 75 = .ok (.iadd, 1) := by decide +kernel
theorem dX11_lostDrawn_76 : decode cX11_lostDrawn 76 = .ok (.putfield 213, 3) := by decide +kernel
theorem dX11_lostDrawn_79 : decode cX11_lostDrawn 79 = .ok (.iinc 3 1, 3) := by decide +kernel
theorem dX11_lostDrawn_82 : decode cX11_lostDrawn 82 = .ok (.goto (-75), 3) := by decide +kernel
theorem dX11_lostDrawn_85 : decode cX11_lostDrawn 85 = .ok (.aload_n 0, 1) := by decide +kernel
theorem dX11_lostDrawn_86 : decode cX11_lostDrawn 86 = .ok (.aload_n 0, 1) := by decide +kernel
theorem dX11_lostDrawn_87 : decode cX11_lostDrawn 87 = .ok (.getfield 23, 3) := by decide +kernel
theorem dX11_lostDrawn_90 : decode cX11_lostDrawn 90 = .ok (.iconst 1, 1) := by decide +kernel
theorem dX11_lostDrawn_91 : decode cX11_lostDrawn 91 = .ok (.iaload, 1) := by decide +kernel
theorem dX11_lostDrawn_92 : decode cX11_lostDrawn 92 = .ok (.aload_n 0, 1) := by decide +kernel
theorem dX11_lostDrawn_93 : decode cX11_lostDrawn 93 = .ok (.getfield 136, 3) := by decide +kernel
theorem dX11_lostDrawn_96 : decode cX11_lostDrawn 96 = .ok (.iload_n 2, 1) := by decide +kernel
theorem dX11_lostDrawn_97 : decode cX11_lostDrawn 97 = .ok (.invokevirtual 166, 3) := by decide +kernel
theorem dX11_lostDrawn_100 : decode cX11_lostDrawn 100 = .ok (.ireturn, 1) := by decide +kernel
theorem dX11_isSeed_0 : decode cX11_isSeed 0 = .ok (.iload_n 0, 1) := by decide +kernel
theorem dX11_isSeed_1 : decode cX11_isSeed 1 = .ok (.i2l, 1) := by decide +kernel
theorem dX11_isSeed_2 : decode cX11_isSeed 2 = .ok (.lconst 0, 1) := by decide +kernel
theorem dX11_isSeed_3 : decode cX11_isSeed 3 = .ok (.ldc2_w 224, 3) := by decide +kernel
theorem dX11_isSeed_6 : decode cX11_isSeed 6 = .ok (.invokestatic 86, 3) := by decide +kernel
theorem dX11_isSeed_9 : decode cX11_isSeed 9 = .ok (.ireturn, 1) := by decide +kernel
theorem dX11_drawn_0 : decode cX11_drawn 0 = .ok (.iload_n 1, 1) := by decide +kernel
theorem dX11_drawn_1 : decode cX11_drawn 1 = .ok (.invokestatic 226, 3) := by decide +kernel
theorem dX11_drawn_4 : decode cX11_drawn 4 = .ok (.ifCond .eq 19, 3) := by decide +kernel
theorem dX11_drawn_7 : decode cX11_drawn 7 = .ok (.iload_n 2, 1) := by decide +kernel
theorem dX11_drawn_8 : decode cX11_drawn 8 = .ok (.invokestatic 163, 3) := by decide +kernel
theorem dX11_drawn_11 : decode cX11_drawn 11 = .ok (.ifCond .eq 12, 3) := by decide +kernel
theorem dX11_drawn_14 : decode cX11_drawn 14 = .ok (.aload_n 0, 1) := by decide +kernel
theorem dX11_drawn_15 : decode cX11_drawn 15 = .ok (.iload_n 1, 1) := by decide +kernel
theorem dX11_drawn_16 : decode cX11_drawn 16 = .ok (.iload_n 2, 1) := by decide +kernel
theorem dX11_drawn_17 : decode cX11_drawn 17 = .ok (.invokevirtual 229, 3) := by decide +kernel
theorem dX11_drawn_20 : decode cX11_drawn 20 = .ok (.goto 4, 3) := by decide +kernel
theorem dX11_drawn_23 : decode cX11_drawn 23 = .ok (.iconst (-1), 1) := by decide +kernel
theorem dX11_drawn_24 : decode cX11_drawn 24 = .ok (.ireturn, 1) := by decide +kernel
theorem dX11_ten_0 : decode cX11_ten 0 = .ok (.iload_n 1, 1) := by decide +kernel
theorem dX11_ten_1 : decode cX11_ten 1 = .ok (.invokestatic 226, 3) := by decide +kernel
theorem dX11_ten_4 : decode cX11_ten 4 = .ok (.ifCond .eq 10, 3) := by decide +kernel
theorem dX11_ten_7 : decode cX11_ten 7 = .ok (.iload_n 2, 1) := by decide +kernel
theorem dX11_ten_8 : decode cX11_ten 8 = .ok (.invokestatic 163, 3) := by decide +kernel
theorem dX11_ten_11 : decode cX11_ten 11 = .ok (.ifCond .ne 5, 3) := by decide +kernel
theorem dX11_ten_14 : decode cX11_ten 14 = .ok (.iconst (-1), 1) := by decide +kernel
theorem dX11_ten_15 : decode cX11_ten 15 = .ok (.ireturn, 1) := by decide +kernel
theorem dX11_ten_16 : decode cX11_ten 16 = .ok (.iconst 0, 1) := by decide +kernel
theorem dX11_ten_17 : decode cX11_ten 17 = .ok (.istore_n 3, 1) := by decide +kernel
theorem dX11_ten_18 : decode cX11_ten 18 = .ok (.iconst 0, 1) := by decide +kernel
theorem dX11_ten_19 : decode cX11_ten 19 = .ok (.istore 4, 2) := by decide +kernel
theorem dX11_ten_21 : decode cX11_ten 21 = .ok (.iload 4, 2) := by decide +kernel
theorem dX11_ten_23 : decode cX11_ten 23 = .ok (.bipush 10, 2) := by decide +kernel
theorem dX11_ten_25 : decode cX11_ten 25 = .ok (.if_icmp .ge 39, 3) := by decide +kernel
theorem dX11_ten_28 : decode cX11_ten 28 = .ok (.iload_n 3, 1) := by decide +kernel
theorem dX11_ten_29 : decode cX11_ten 29 = .ok (.iconst 2, 1) := by decide +kernel
theorem dX11_ten_30 : decode cX11_ten 30 = .ok (.aload_n 0, 1) := by decide +kernel
theorem dX11_ten_31 : decode cX11_ten 31 = .ok (.iload_n 1, 1) := by decide +kernel
theorem dX11_ten_32 : decode cX11_ten 32 = .ok (.iload 4, 2) := by decide +kernel
theorem dX11_ten_34 : decode cX11_ten 34 = .ok (.iadd, 1) := by decide +kernel
theorem dX11_ten_35 : decode cX11_ten 35 = .ok (.sipush 10000, 3) := by decide +kernel
theorem dX11_ten_38 : decode cX11_ten 38 = .ok (.irem, 1) := by decide +kernel
theorem dX11_ten_39 : decode cX11_ten 39 = .ok (.iload_n 2, 1) := by decide +kernel
theorem dX11_ten_40 : decode cX11_ten 40 = .ok (.invokevirtual 229, 3) := by decide +kernel
theorem dX11_ten_43 : decode cX11_ten 43 = .ok (.imul, 1) := by decide +kernel
theorem dX11_ten_44 : decode cX11_ten 44 = .ok (.aload_n 0, 1) := by decide +kernel
theorem dX11_ten_45 : decode cX11_ten 45 = .ok (.getfield 213, 3) := by decide +kernel
theorem dX11_ten_48 : decode cX11_ten 48 = .ok (.if_icmp .le 7, 3) := by decide +kernel
theorem dX11_ten_51 : decode cX11_ten 51 = .ok (.iconst 1, 1) := by decide +kernel
theorem dX11_ten_52 : decode cX11_ten 52 = .ok (.goto 4, 3) := by decide +kernel
theorem dX11_ten_55 : decode cX11_ten 55 = .ok (.iconst 0, 1) := by decide +kernel
theorem dX11_ten_56 : decode cX11_ten 56 = .ok (.iadd, 1) := by decide +kernel
theorem dX11_ten_57 : decode cX11_ten 57 = .ok (.istore_n 3, 1) := by decide +kernel
theorem dX11_ten_58 : decode cX11_ten 58 = .ok (.iinc 4 1, 3) := by decide +kernel
theorem dX11_ten_61 : decode cX11_ten 61 = .ok (.goto (-40), 3) := by decide +kernel
theorem dX11_ten_64 : decode cX11_ten 64 = .ok (.iload_n 3, 1) := by decide +kernel
theorem dX11_ten_65 : decode cX11_ten 65 = .ok (.ireturn, 1) := by decide +kernel
theorem dX11_keep_0 : decode cX11_keep 0 = .ok (.aload_n 0, 1) := by decide +kernel
theorem dX11_keep_1 : decode cX11_keep 1 = .ok (.getfield 139, 3) := by decide +kernel
theorem dX11_keep_4 : decode cX11_keep 4 = .ok (.iconst 2, 1) := by decide +kernel
theorem dX11_keep_5 : decode cX11_keep 5 = .ok (.if_icmp .ne 6, 3) := by decide +kernel
theorem dX11_keep_8 : decode cX11_keep 8 = .ok (.bipush (-3), 2) := by decide +kernel
theorem dX11_keep_10 : decode cX11_keep 10 = .ok (.ireturn, 1) := by decide +kernel
theorem dX11_keep_11 : decode cX11_keep 11 = .ok (.iconst 0, 1) := by decide +kernel
theorem dX11_keep_12 : decode cX11_keep 12 = .ok (.istore_n 1, 1) := by decide +kernel
theorem dX11_keep_13 : decode cX11_keep 13 = .ok (.iload_n 1, 1) := by decide +kernel
theorem dX11_keep_14 : decode cX11_keep 14 = .ok (.bipush 8, 2) := by decide +kernel
theorem dX11_keep_16 : decode cX11_keep 16 = .ok (.if_icmp .ge 29, 3) := by decide +kernel
theorem dX11_keep_19 : decode cX11_keep 19 = .ok (.aload_n 0, 1) := by decide +kernel
theorem dX11_keep_20 : decode cX11_keep 20 = .ok (.getfield 51, 3) := by decide +kernel
theorem dX11_keep_23 : decode cX11_keep 23 = .ok (.bipush 8, 2) := by decide +kernel
theorem dX11_keep_25 : decode cX11_keep 25 = .ok (.aload_n 0, 1) := by decide +kernel
theorem dX11_keep_26 : decode cX11_keep 26 = .ok (.getfield 139, 3) := by decide +kernel
theorem dX11_keep_29 : decode cX11_keep 29 = .ok (.imul, 1) := by decide +kernel
theorem dX11_keep_30 : decode cX11_keep 30 = .ok (.iload_n 1, 1) := by decide +kernel
theorem dX11_keep_31 : decode cX11_keep 31 = .ok (.iadd, 1) := by decide +kernel
theorem dX11_keep_32 : decode cX11_keep 32 = .ok (.aload_n 0, 1) := by decide +kernel
theorem dX11_keep_33 : decode cX11_keep 33 = .ok (.getfield 48, 3) := by decide +kernel
theorem dX11_keep_36 : decode cX11_keep 36 = .ok (.iload_n 1, 1) := by decide +kernel
theorem dX11_keep_37 : decode cX11_keep 37 = .ok (.iaload, 1) := by decide +kernel
theorem dX11_keep_38 : decode cX11_keep 38 = .ok (.iastore, 1) := by decide +kernel
theorem dX11_keep_39 : decode cX11_keep 39 = .ok (.iinc 1 1, 3) := by decide +kernel
theorem dX11_keep_42 : decode cX11_keep 42 = .ok (.goto (-29), 3) := by decide +kernel
theorem dX11_keep_45 : decode cX11_keep 45 = .ok (.aload_n 0, 1) := by decide +kernel
theorem dX11_keep_46 : decode cX11_keep 46 = .ok (.getfield 54, 3) := by decide +kernel
theorem dX11_keep_49 : decode cX11_keep 49 = .ok (.aload_n 0, 1) := by decide +kernel
theorem dX11_keep_50 : decode cX11_keep 50 = .ok (.getfield 139, 3) := by decide +kernel
theorem dX11_keep_53 : decode cX11_keep 53 = .ok (.aload_n 0, 1) := by decide +kernel
theorem dX11_keep_54 : decode cX11_keep 54 = .ok (.getfield 136, 3) := by decide +kernel
theorem dX11_keep_57 : decode cX11_keep 57 = .ok (.iastore, 1) := by decide +kernel
theorem dX11_keep_58 : decode cX11_keep 58 = .ok (.aload_n 0, 1) := by decide +kernel
theorem dX11_keep_59 : decode cX11_keep 59 = .ok (.dup, 1) := by decide +kernel
theorem dX11_keep_60 : decode cX11_keep 60 = .ok (.getfield 139, 3) := by decide +kernel
theorem dX11_keep_63 : decode cX11_keep 63 = .ok (.iconst 1, 1) := by decide +kernel
theorem dX11_keep_64 : decode cX11_keep 64 = .ok (.iadd, 1) := by decide +kernel
theorem dX11_keep_65 : decode cX11_keep 65 = .ok (.putfield 139, 3) := by decide +kernel
theorem dX11_keep_68 : decode cX11_keep 68 = .ok (.aload_n 0, 1) := by decide +kernel
theorem dX11_keep_69 : decode cX11_keep 69 = .ok (.getfield 139, 3) := by decide +kernel
theorem dX11_keep_72 : decode cX11_keep 72 = .ok (.ireturn, 1) := by decide +kernel
theorem dX11_back_0 : decode cX11_back 0 = .ok (.aload_n 0, 1) := by decide +kernel
theorem dX11_back_1 : decode cX11_back 1 = .ok (.getfield 139, 3) := by decide +kernel
theorem dX11_back_4 : decode cX11_back 4 = .ok (.ifCond .ne 6, 3) := by decide +kernel
theorem dX11_back_7 : decode cX11_back 7 = .ok (.bipush (-2), 2) := by decide +kernel
theorem dX11_back_9 : decode cX11_back 9 = .ok (.ireturn, 1) := by decide +kernel
theorem dX11_back_10 : decode cX11_back 10 = .ok (.aload_n 0, 1) := by decide +kernel
theorem dX11_back_11 : decode cX11_back 11 = .ok (.dup, 1) := by decide +kernel
theorem dX11_back_12 : decode cX11_back 12 = .ok (.getfield 139, 3) := by decide +kernel
theorem dX11_back_15 : decode cX11_back 15 = .ok (.iconst 1, 1) := by decide +kernel
theorem dX11_back_16 : decode cX11_back 16 = .ok (.isub, 1) := by decide +kernel
theorem dX11_back_17 : decode cX11_back 17 = .ok (.putfield 139, 3) := by decide +kernel
theorem dX11_back_20 : decode cX11_back 20 = .ok (.iconst 0, 1) := by decide +kernel
theorem dX11_back_21 : decode cX11_back 21 = .ok (.istore_n 1, 1) := by decide +kernel
theorem dX11_back_22 : decode cX11_back 22 = .ok (.iload_n 1, 1) := by decide +kernel
theorem dX11_back_23 : decode cX11_back 23 = .ok (.bipush 8, 2) := by decide +kernel
theorem dX11_back_25 : decode cX11_back 25 = .ok (.if_icmp .ge 29, 3) := by decide +kernel
theorem dX11_back_28 : decode cX11_back 28 = .ok (.aload_n 0, 1) := by decide +kernel
theorem dX11_back_29 : decode cX11_back 29 = .ok (.getfield 48, 3) := by decide +kernel
theorem dX11_back_32 : decode cX11_back 32 = .ok (.iload_n 1, 1) := by decide +kernel
theorem dX11_back_33 : decode cX11_back 33 = .ok (.aload_n 0, 1) := by decide +kernel
theorem dX11_back_34 : decode cX11_back 34 = .ok (.getfield 51, 3) := by decide +kernel
theorem dX11_back_37 : decode cX11_back 37 = .ok (.bipush 8, 2) := by decide +kernel
theorem dX11_back_39 : decode cX11_back 39 = .ok (.aload_n 0, 1) := by decide +kernel
theorem dX11_back_40 : decode cX11_back 40 = .ok (.getfield 139, 3) := by decide +kernel
theorem dX11_back_43 : decode cX11_back 43 = .ok (.imul, 1) := by decide +kernel
theorem dX11_back_44 : decode cX11_back 44 = .ok (.iload_n 1, 1) := by decide +kernel
theorem dX11_back_45 : decode cX11_back 45 = .ok (.iadd, 1) := by decide +kernel
theorem dX11_back_46 : decode cX11_back 46 = .ok (.iaload, 1) := by decide +kernel
theorem dX11_back_47 : decode cX11_back 47 = .ok (.iastore, 1) := by decide +kernel
theorem dX11_back_48 : decode cX11_back 48 = .ok (.iinc 1 1, 3) := by decide +kernel
theorem dX11_back_51 : decode cX11_back 51 = .ok (.goto (-29), 3) := by decide +kernel
theorem dX11_back_54 : decode cX11_back 54 = .ok (.aload_n 0, 1) := by decide +kernel
theorem dX11_back_55 : decode cX11_back 55 = .ok (.aload_n 0, 1) := by decide +kernel
theorem dX11_back_56 : decode cX11_back 56 = .ok (.getfield 54, 3) := by decide +kernel
theorem dX11_back_59 : decode cX11_back 59 = .ok (.aload_n 0, 1) := by decide +kernel
theorem dX11_back_60 : decode cX11_back 60 = .ok (.getfield 139, 3) := by decide +kernel
theorem dX11_back_63 : decode cX11_back 63 = .ok (.iaload, 1) := by decide +kernel
theorem dX11_back_64 : decode cX11_back 64 = .ok (.putfield 136, 3) := by decide +kernel
theorem dX11_back_67 : decode cX11_back 67 = .ok (.aload_n 0, 1) := by decide +kernel
theorem dX11_back_68 : decode cX11_back 68 = .ok (.getfield 139, 3) := by decide +kernel
theorem dX11_back_71 : decode cX11_back 71 = .ok (.ireturn, 1) := by decide +kernel
theorem dX11_count_0 : decode cX11_count 0 = .ok (.iconst 0, 1) := by decide +kernel
theorem dX11_count_1 : decode cX11_count 1 = .ok (.istore_n 2, 1) := by decide +kernel
theorem dX11_count_2 : decode cX11_count 2 = .ok (.iconst 0, 1) := by decide +kernel
theorem dX11_count_3 : decode cX11_count 3 = .ok (.istore_n 3, 1) := by decide +kernel
theorem dX11_count_4 : decode cX11_count 4 = .ok (.iload_n 3, 1) := by decide +kernel
theorem dX11_count_5 : decode cX11_count 5 = .ok (.aload_n 0, 1) := by decide +kernel
theorem dX11_count_6 : decode cX11_count 6 = .ok (.getfield 13, 3) := by decide +kernel
theorem dX11_count_9 : decode cX11_count 9 = .ok (.iconst 0, 1) := by decide +kernel
theorem dX11_count_10 : decode cX11_count 10 = .ok (.iaload, 1) := by decide +kernel
theorem dX11_count_11 : decode cX11_count 11 = .ok (.if_icmp .ge 18, 3) := by decide +kernel
theorem dX11_count_14 : decode cX11_count 14 = .ok (.iload_n 2, 1) := by decide +kernel
theorem dX11_count_15 : decode cX11_count 15 = .ok (.aload_n 0, 1) := by decide +kernel
theorem dX11_count_16 : decode cX11_count 16 = .ok (.getfield 48, 3) := by decide +kernel
theorem dX11_count_19 : decode cX11_count 19 = .ok (.iload_n 3, 1) := by decide +kernel
theorem dX11_count_20 : decode cX11_count 20 = .ok (.iaload, 1) := by decide +kernel
theorem dX11_count_21 : decode cX11_count 21 = .ok (.iadd, 1) := by decide +kernel
theorem dX11_count_22 : decode cX11_count 22 = .ok (.istore_n 2, 1) := by decide +kernel
theorem dX11_count_23 : decode cX11_count 23 = .ok (.iinc 3 1, 3) := by decide +kernel
theorem dX11_count_26 : decode cX11_count 26 = .ok (.goto (-22), 3) := by decide +kernel
theorem dX11_count_29 : decode cX11_count 29 = .ok (.iload_n 1, 1) := by decide +kernel
theorem dX11_count_30 : decode cX11_count 30 = .ok (.tableswitch 89 0 7 #[46, 53, 58, 65, 72, 77, 79, 84], 46) := by decide +kernel
theorem dX11_count_76 : decode cX11_count 76 = .ok (.aload_n 0, 1) := by decide +kernel
theorem dX11_count_77 : decode cX11_count 77 = .ok (.getfield 13, 3) := by decide +kernel
theorem dX11_count_80 : decode cX11_count 80 = .ok (.iconst 0, 1) := by decide +kernel
theorem dX11_count_81 : decode cX11_count 81 = .ok (.iaload, 1) := by decide +kernel
theorem dX11_count_82 : decode cX11_count 82 = .ok (.ireturn, 1) := by decide +kernel
theorem dX11_count_83 : decode cX11_count 83 = .ok (.aload_n 0, 1) := by decide +kernel
theorem dX11_count_84 : decode cX11_count 84 = .ok (.getfield 123, 3) := by decide +kernel
theorem dX11_count_87 : decode cX11_count 87 = .ok (.ireturn, 1) := by decide +kernel
theorem dX11_count_88 : decode cX11_count 88 = .ok (.aload_n 0, 1) := by decide +kernel
theorem dX11_count_89 : decode cX11_count 89 = .ok (.getfield 26, 3) := by decide +kernel
theorem dX11_count_92 : decode cX11_count 92 = .ok (.iconst 0, 1) := by decide +kernel
theorem dX11_count_93 : decode cX11_count 93 = .ok (.iaload, 1) := by decide +kernel
theorem dX11_count_94 : decode cX11_count 94 = .ok (.ireturn, 1) := by decide +kernel
theorem dX11_count_95 : decode cX11_count 95 = .ok (.aload_n 0, 1) := by decide +kernel
theorem dX11_count_96 : decode cX11_count 96 = .ok (.getfield 32, 3) := by decide +kernel
theorem dX11_count_99 : decode cX11_count 99 = .ok (.iconst 0, 1) := by decide +kernel
theorem dX11_count_100 : decode cX11_count 100 = .ok (.iaload, 1) := by decide +kernel
theorem dX11_count_101 : decode cX11_count 101 = .ok (.ireturn, 1) := by decide +kernel
theorem dX11_count_102 : decode cX11_count 102 = .ok (.aload_n 0, 1) := by decide +kernel
theorem dX11_count_103 : decode cX11_count 103 = .ok (.getfield 136, 3) := by decide +kernel
theorem dX11_count_106 : decode cX11_count 106 = .ok (.ireturn, 1) := by decide +kernel
theorem dX11_count_107 : decode cX11_count 107 = .ok (.iload_n 2, 1) := by decide +kernel
theorem dX11_count_108 : decode cX11_count 108 = .ok (.ireturn, 1) := by decide +kernel
theorem dX11_count_109 : decode cX11_count 109 = .ok (.aload_n 0, 1) := by decide +kernel
theorem dX11_count_110 : decode cX11_count 110 = .ok (.getfield 90, 3) := by decide +kernel
theorem dX11_count_113 : decode cX11_count 113 = .ok (.ireturn, 1) := by decide +kernel
theorem dX11_count_114 : decode cX11_count 114 = .ok (.aload_n 0, 1) := by decide +kernel
theorem dX11_count_115 : decode cX11_count 115 = .ok (.getfield 139, 3) := by decide +kernel
theorem dX11_count_118 : decode cX11_count 118 = .ok (.ireturn, 1) := by decide +kernel
theorem dX11_count_119 : decode cX11_count 119 = .ok (.iconst (-1), 1) := by decide +kernel
theorem dX11_count_120 : decode cX11_count 120 = .ok (.ireturn, 1) := by decide +kernel
