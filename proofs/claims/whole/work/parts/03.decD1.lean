theorem dX11_lay_9 : decode cX11_lay 9 = .ok (.aload_n 0, 1) := by decide +kernel
theorem dX11_lay_10 : decode cX11_lay 10 = .ok (.getfield 13, 3) := by decide +kernel
theorem dX11_lay_13 : decode cX11_lay 13 = .ok (.iconst 1, 1) := by decide +kernel
theorem dX11_lay_14 : decode cX11_lay 14 = .ok (.iaload, 1) := by decide +kernel
theorem dX11_lay_15 : decode cX11_lay 15 = .ok (.ifCond .ne 6, 3) := by decide +kernel
theorem dX11_lay_18 : decode cX11_lay 18 = .ok (.bipush (-2), 2) := by decide +kernel
theorem dX11_lay_20 : decode cX11_lay 20 = .ok (.ireturn, 1) := by decide +kernel
theorem dX11_lay_21 : decode cX11_lay 21 = .ok (.aload_n 0, 1) := by decide +kernel
theorem dX11_lay_22 : decode cX11_lay 22 = .ok (.invokevirtual 81, 3) := by decide +kernel
theorem dX11_lay_25 : decode cX11_lay 25 = .ok (.aload_n 0, 1) := by decide +kernel
theorem dX11_lay_26 : decode cX11_lay 26 = .ok (.getfield 13, 3) := by decide +kernel
theorem dX11_lay_29 : decode cX11_lay 29 = .ok (.iconst 0, 1) := by decide +kernel
theorem dX11_lay_30 : decode cX11_lay 30 = .ok (.iaload, 1) := by decide +kernel
theorem dX11_lay_31 : decode cX11_lay 31 = .ok (.ireturn, 1) := by decide +kernel
theorem dX11_isBin_0 : decode cX11_isBin 0 = .ok (.iload_n 1, 1) := by decide +kernel
theorem dX11_isBin_1 : decode cX11_isBin 1 = .ok (.i2l, 1) := by decide +kernel
theorem dX11_isBin_2 : decode cX11_isBin 2 = .ok (.lconst 0, 1) := by decide +kernel
theorem dX11_isBin_3 : decode cX11_isBin 3 = .ok (.aload_n 0, 1) := by decide +kernel
theorem dX11_isBin_4 : decode cX11_isBin 4 = .ok (.getfield 13, 3) := by decide +kernel
theorem dX11_isBin_7 : decode cX11_isBin 7 = .ok (.iconst 0, 1) := by decide +kernel
theorem dX11_isBin_8 : decode cX11_isBin 8 = .ok (.iaload, 1) := by decide +kernel
theorem dX11_isBin_9 : decode cX11_isBin 9 = .ok (.iconst 1, 1) := by decide +kernel
theorem dX11_isBin_10 : decode cX11_isBin 10 = .ok (.isub, 1) := by decide +kernel
theorem dX11_isBin_11 : decode cX11_isBin 11 = .ok (.i2l, 1) := by decide +kernel
theorem dX11_isBin_12 : decode cX11_isBin 12 = .ok (.invokestatic 86, 3) := by decide +kernel
theorem dX11_isBin_15 : decode cX11_isBin 15 = .ok (.ireturn, 1) := by decide +kernel
theorem dX11_bin_0 : decode cX11_bin 0 = .ok (.aload_n 0, 1) := by decide +kernel
theorem dX11_bin_1 : decode cX11_bin 1 = .ok (.iload_n 1, 1) := by decide +kernel
theorem dX11_bin_2 : decode cX11_bin 2 = .ok (.invokevirtual 149, 3) := by decide +kernel
theorem dX11_bin_5 : decode cX11_bin 5 = .ok (.ifCond .eq 13, 3) := by decide +kernel
theorem dX11_bin_8 : decode cX11_bin 8 = .ok (.iload_n 2, 1) := by decide +kernel
theorem dX11_bin_9 : decode cX11_bin 9 = .ok (.i2l, 1) := by decide +kernel
theorem dX11_bin_10 : decode cX11_bin 10 = .ok (.lconst 0, 1) := by decide +kernel
theorem dX11_bin_11 : decode cX11_bin 11 = .ok (.lconst 1, 1) := by decide +kernel
theorem dX11_bin_12 : decode cX11_bin 12 = .ok (.invokestatic 86, 3) := by decide +kernel
theorem dX11_bin_15 : decode cX11_bin 15 = .ok (.ifCond .ne 7, 3) := by decide +kernel
theorem dX11_bin_18 : decode cX11_bin 18 = .ok (.iconst (-1), 1) := by decide +kernel
theorem dX11_bin_19 : decode cX11_bin 19 = .ok (.goto 22, 3) := by decide +kernel
theorem dX11_bin_22 : decode cX11_bin 22 = .ok (.iload_n 2, 1) := by decide +kernel
theorem dX11_bin_23 : decode cX11_bin 23 = .ok (.ifCond .ne 12, 3) := by decide +kernel
theorem dX11_bin_26 : decode cX11_bin 26 = .ok (.aload_n 0, 1) := by decide +kernel
theorem dX11_bin_27 : decode cX11_bin 27 = .ok (.getfield 48, 3) := by decide +kernel
theorem dX11_bin_30 : decode cX11_bin 30 = .ok (.iload_n 1, 1) := by decide +kernel
theorem dX11_bin_31 : decode cX11_bin 31 = .ok (.iaload, 1) := by decide +kernel
theorem dX11_bin_32 : decode cX11_bin 32 = .ok (.goto 9, 3) := by decide +kernel
theorem dX11_bin_35 : decode cX11_bin 35 = .ok (.aload_n 0, 1) := by decide +kernel
theorem dX11_bin_36 : decode cX11_bin 36 = .ok (.getfield 20, 3) := by decide +kernel
theorem dX11_bin_39 : decode cX11_bin 39 = .ok (.iload_n 1, 1) := by decide +kernel
theorem dX11_bin_40 : decode cX11_bin 40 = .ok (.iaload, 1) := by decide +kernel
theorem dX11_bin_41 : decode cX11_bin 41 = .ok (.ireturn, 1) := by decide +kernel
theorem dX11_gap_0 : decode cX11_gap 0 = .ok (.iload_n 1, 1) := by decide +kernel
theorem dX11_gap_1 : decode cX11_gap 1 = .ok (.i2l, 1) := by decide +kernel
theorem dX11_gap_2 : decode cX11_gap 2 = .ok (.lconst 0, 1) := by decide +kernel
theorem dX11_gap_3 : decode cX11_gap 3 = .ok (.aload_n 0, 1) := by decide +kernel
theorem dX11_gap_4 : decode cX11_gap 4 = .ok (.getfield 123, 3) := by decide +kernel
theorem dX11_gap_7 : decode cX11_gap 7 = .ok (.iconst 1, 1) := by decide +kernel
theorem dX11_gap_8 : decode cX11_gap 8 = .ok (.isub, 1) := by decide +kernel
theorem dX11_gap_9 : decode cX11_gap 9 = .ok (.i2l, 1) := by decide +kernel
theorem dX11_gap_10 : decode cX11_gap 10 = .ok (.invokestatic 86, 3) := by decide +kernel
theorem dX11_gap_13 : decode cX11_gap 13 = .ok (.ifCond .eq 15, 3) := by decide +kernel
theorem dX11_gap_16 : decode cX11_gap 16 = .ok (.iload_n 2, 1) := by decide +kernel
theorem dX11_gap_17 : decode cX11_gap 17 = .ok (.i2l, 1) := by decide +kernel
theorem dX11_gap_18 : decode cX11_gap 18 = .ok (.lconst 0, 1) := by decide +kernel
theorem dX11_gap_19 : decode cX11_gap 19 = .ok (.ldc2_w 117, 3) := by decide +kernel
theorem dX11_gap_22 : decode cX11_gap 22 = .ok (.invokestatic 86, 3) := by decide +kernel
theorem dX11_gap_25 : decode cX11_gap 25 = .ok (.ifCond .ne 7, 3) := by decide +kernel
theorem dX11_gap_28 : decode cX11_gap 28 = .ok (.iconst (-1), 1) := by decide +kernel
theorem dX11_gap_29 : decode cX11_gap 29 = .ok (.goto 44, 3) := by decide +kernel
theorem dX11_gap_32 : decode cX11_gap 32 = .ok (.iload_n 2, 1) := by decide +kernel
theorem dX11_gap_33 : decode cX11_gap 33 = .ok (.ifCond .ne 12, 3) := by decide +kernel
theorem dX11_gap_36 : decode cX11_gap 36 = .ok (.aload_n 0, 1) := by decide +kernel
theorem dX11_gap_37 : decode cX11_gap 37 = .ok (.getfield 38, 3) := by decide +kernel
theorem dX11_gap_40 : decode cX11_gap 40 = .ok (.iload_n 1, 1) := by decide +kernel
theorem dX11_gap_41 : decode cX11_gap 41 = .ok (.iaload, 1) := by decide +kernel
theorem dX11_gap_42 : decode cX11_gap 42 = .ok (.goto 31, 3) := by decide +kernel
theorem dX11_gap_45 : decode cX11_gap 45 = .ok (.iload_n 2, 1) := by decide +kernel
theorem dX11_gap_46 : decode cX11_gap 46 = .ok (.iconst 1, 1) := by decide +kernel
theorem dX11_gap_47 : decode cX11_gap 47 = .ok (.if_icmp .ne 12, 3) := by decide +kernel
theorem dX11_gap_50 : decode cX11_gap 50 = .ok (.aload_n 0, 1) := by decide +kernel
theorem dX11_gap_51 : decode cX11_gap 51 = .ok (.getfield 41, 3) := by decide +kernel
theorem dX11_gap_54 : decode cX11_gap 54 = .ok (.iload_n 1, 1) := by decide +kernel
theorem dX11_gap_55 : decode cX11_gap 55 = .ok (.iaload, 1) := by decide +kernel
theorem dX11_gap_56 : decode cX11_gap 56 = .ok (.goto 17, 3) := by decide +kernel
theorem dX11_gap_59 : decode cX11_gap 59 = .ok (.aload_n 0, 1) := by decide +kernel
theorem dX11_gap_60 : decode cX11_gap 60 = .ok (.getfield 44, 3) := by decide +kernel
theorem dX11_gap_63 : decode cX11_gap 63 = .ok (.iload_n 1, 1) := by decide +kernel
theorem dX11_gap_64 : decode cX11_gap 64 = .ok (.baload, 1) := by decide +kernel
theorem dX11_gap_65 : decode cX11_gap 65 = .ok (.ifCond .eq 7, 3) := by decide +kernel
theorem dX11_gap_68 : decode cX11_gap 68 = .ok (.iconst 1, 1) := by decide +kernel
theorem dX11_gap_69 : decode cX11_gap 69 = .ok (.goto 4, 3) := by decide +kernel
theorem dX11_gap_72 : decode cX11_gap 72 = .ok (.iconst 0, 1) := by decide +kernel
theorem dX11_gap_73 : decode cX11_gap 73 = .ok (.ireturn, 1) := by decide +kernel
theorem dX11_eats_0 : decode cX11_eats 0 = .ok (.aload_n 0, 1) := by decide +kernel
theorem dX11_eats_1 : decode cX11_eats 1 = .ok (.getfield 23, 3) := by decide +kernel
theorem dX11_eats_4 : decode cX11_eats 4 = .ok (.iconst 2, 1) := by decide +kernel
theorem dX11_eats_5 : decode cX11_eats 5 = .ok (.iaload, 1) := by decide +kernel
theorem dX11_eats_6 : decode cX11_eats 6 = .ok (.istore 4, 2) := by decide +kernel
theorem dX11_eats_8 : decode cX11_eats 8 = .ok (.iload_n 1, 1) := by decide +kernel
theorem dX11_eats_9 : decode cX11_eats 9 = .ok (.ifCond .ne 7, 3) := by decide +kernel
theorem dX11_eats_12 : decode cX11_eats 12 = .ok (.iload_n 2, 1) := by decide +kernel
theorem dX11_eats_13 : decode cX11_eats 13 = .ok (.goto 55, 3) := by decide +kernel
theorem dX11_eats_16 : decode cX11_eats 16 = .ok (.iload_n 1, 1) := by decide +kernel
theorem dX11_eats_17 : decode cX11_eats 17 = .ok (.iconst 1, 1) := by decide +kernel
theorem dX11_eats_18 : decode cX11_eats 18 = .ok (.if_icmp .ne 9, 3) := by decide +kernel
theorem dX11_eats_21 : decode cX11_eats 21 = .ok (.iload_n 2, 1) := by decide +kernel
theorem dX11_eats_22 : decode cX11_eats 22 = .ok (.iconst 2, 1) := by decide +kernel
theorem dX11_eats_23 : decode cX11_eats 23 = .ok (.idiv, 1) := by decide +kernel
theorem dX11_eats_24 : decode cX11_eats 24 = .ok (.goto 44, 3) := by decide +kernel
theorem dX11_eats_27 : decode cX11_eats 27 = .ok (.iload_n 1, 1) := by decide +kernel
theorem dX11_eats_28 : decode cX11_eats 28 = .ok (.iconst 2, 1) := by decide +kernel
theorem dX11_eats_29 : decode cX11_eats 29 = .ok (.if_icmp .ne 20, 3) := by decide +kernel
theorem dX11_eats_32 : decode cX11_eats 32 = .ok (.iload_n 2, 1) := by decide +kernel
theorem dX11_eats_33 : decode cX11_eats 33 = .ok (.iload 4, 2) := by decide +kernel
theorem dX11_eats_35 : decode cX11_eats 35 = .ok (.if_icmp .le 10, 3) := by decide +kernel
theorem dX11_eats_38 : decode cX11_eats 38 = .ok (.iload_n 2, 1) := by decide +kernel
theorem dX11_eats_39 : decode cX11_eats 39 = .ok (.iload 4, 2) := by decide +kernel
theorem dX11_eats_41 : decode cX11_eats 41 = .ok (.isub, 1) := by decide +kernel
theorem dX11_eats_42 : decode cX11_eats 42 = .ok (.goto 26, 3) := by decide +kernel
theorem dX11_eats_45 : decode cX11_eats 45 = .ok (.iconst 0, 1) := by decide +kernel
theorem dX11_eats_46 : decode cX11_eats 46 = .ok (.goto 22, 3) := by decide +kernel
theorem dX11_eats_49 : decode cX11_eats 49 = .ok (.iload_n 3, 1) := by decide +kernel
theorem dX11_eats_50 : decode cX11_eats 50 = .ok (.bipush 7, 2) := by decide +kernel
theorem dX11_eats_52 : decode cX11_eats 52 = .ok (.irem, 1) := by decide +kernel
theorem dX11_eats_53 : decode cX11_eats 53 = .ok (.iload 4, 2) := by decide +kernel
theorem dX11_eats_55 : decode cX11_eats 55 = .ok (.bipush 7, 2) := by decide +kernel
theorem dX11_eats_57 : decode cX11_eats 57 = .ok (.irem, 1) := by decide +kernel
theorem dX11_eats_58 : decode cX11_eats 58 = .ok (.if_icmp .ne 7, 3) := by decide +kernel
theorem dX11_eats_61 : decode cX11_eats 61 = .ok (.iload_n 2, 1) := by decide +kernel
theorem dX11_eats_62 : decode cX11_eats 62 = .ok (.goto 6, 3) := by decide +kernel
theorem dX11_eats_65 : decode cX11_eats 65 = .ok (.iload_n 2, 1) := by decide +kernel
theorem dX11_eats_66 : decode cX11_eats 66 = .ok (.iconst 3, 1) := by decide +kernel
theorem dX11_eats_67 : decode cX11_eats 67 = .ok (.idiv, 1) := by decide +kernel
theorem dX11_eats_68 : decode cX11_eats 68 = .ok (.ireturn, 1) := by decide +kernel
theorem dX11_goes_0 : decode cX11_goes 0 = .ok (.iconst 0, 1) := by decide +kernel
theorem dX11_goes_1 : decode cX11_goes 1 = .ok (.istore_n 3, 1) := by decide +kernel
theorem dX11_goes_2 : decode cX11_goes 2 = .ok (.iload_n 3, 1) := by decide +kernel
theorem dX11_goes_3 : decode cX11_goes 3 = .ok (.bipush 8, 2) := by decide +kernel
theorem dX11_goes_5 : decode cX11_goes 5 = .ok (.if_icmp .ge 21, 3) := by decide +kernel
theorem dX11_goes_8 : decode cX11_goes 8 = .ok (.aload_n 0, 1) := by decide +kernel
theorem dX11_goes_9 : decode cX11_goes 9 = .ok (.getfield 60, 3) := by decide +kernel
theorem dX11_goes_12 : decode cX11_goes 12 = .ok (.iload_n 3, 1) := by decide +kernel
theorem dX11_goes_13 : decode cX11_goes 13 = .ok (.aload_n 0, 1) := by decide +kernel
theorem dX11_goes_14 : decode cX11_goes 14 = .ok (.getfield 57, 3) := by decide +kernel
theorem dX11_goes_17 : decode cX11_goes 17 = .ok (.iload_n 3, 1) := by decide +kernel
theorem dX11_goes_18 : decode cX11_goes 18 = .ok (.iaload, 1) := by decide +kernel
theorem dX11_goes_19 : decode cX11_goes 19 = .ok (.iastore, 1) := by decide +kernel
theorem dX11_goes_20 : decode cX11_goes 20 = .ok (.iinc 3 1, 3) := by decide +kernel
theorem dX11_goes_23 : decode cX11_goes 23 = .ok (.goto (-21), 3) := by decide +kernel
theorem dX11_goes_26 : decode cX11_goes 26 = .ok (.iconst 0, 1) := by decide +kernel
theorem dX11_goes_27 : decode cX11_goes 27 = .ok (.istore_n 3, 1) := by decide +kernel
theorem dX11_goes_28 : decode cX11_goes 28 = .ok (.iconst 0, 1) := by decide +kernel
theorem dX11_goes_29 : decode cX11_goes 29 = .ok (.istore 4, 2) := by decide +kernel
theorem dX11_goes_31 : decode cX11_goes 31 = .ok (.iload 4, 2) := by decide +kernel
theorem dX11_goes_33 : decode cX11_goes 33 = .ok (.aload_n 0, 1) := by decide +kernel
theorem dX11_goes_34 : decode cX11_goes 34 = .ok (.getfield 123, 3) := by decide +kernel
theorem dX11_goes_37 : decode cX11_goes 37 = .ok (.if_icmp .ge 168, 3) := by decide +kernel
theorem dX11_goes_40 : decode cX11_goes 40 = .ok (.aload_n 0, 1) := by decide +kernel
theorem dX11_goes_41 : decode cX11_goes 41 = .ok (.getfield 60, 3) := by decide +kernel
theorem dX11_goes_44 : decode cX11_goes 44 = .ok (.aload_n 0, 1) := by decide +kernel
theorem dX11_goes_45 : decode cX11_goes 45 = .ok (.getfield 38, 3) := by decide +kernel
theorem dX11_goes_48 : decode cX11_goes 48 = .ok (.iload 4, 2) := by decide +kernel
theorem dX11_goes_50 : decode cX11_goes 50 = .ok (.iaload, 1) := by decide +kernel
theorem dX11_goes_51 : decode cX11_goes 51 = .ok (.iaload, 1) := by decide +kernel
theorem dX11_goes_52 : decode cX11_goes 52 = .ok (.aload_n 0, 1) := by decide +kernel
theorem dX11_goes_53 : decode cX11_goes 53 = .ok (.getfield 60, 3) := by decide +kernel
theorem dX11_goes_56 : decode cX11_goes 56 = .ok (.aload_n 0, 1) := by decide +kernel
theorem dX11_goes_57 : decode cX11_goes 57 = .ok (.getfield 41, 3) := by decide +kernel
theorem dX11_goes_60 : decode cX11_goes 60 = .ok (.iload 4, 2) := by decide +kernel
theorem dX11_goes_62 : decode cX11_goes 62 = .ok (.iaload, 1) := by decide +kernel
theorem dX11_goes_63 : decode cX11_goes 63 = .ok (.iaload, 1) := by decide +kernel
theorem dX11_goes_64 : decode cX11_goes 64 = .ok (.isub, 1) := by decide +kernel
theorem dX11_goes_65 : decode cX11_goes 65 = .ok (.istore 5, 2) := by decide +kernel
theorem dX11_goes_67 : decode cX11_goes 67 = .ok (.iload 5, 2) := by decide +kernel
theorem dX11_goes_69 : decode cX11_goes 69 = .ok (.ifCond .le 13, 3) := by decide +kernel
theorem dX11_goes_72 : decode cX11_goes 72 = .ok (.aload_n 0, 1) := by decide +kernel
theorem dX11_goes_73 : decode cX11_goes 73 = .ok (.getfield 38, 3) := by decide +kernel
theorem dX11_goes_76 : decode cX11_goes 76 = .ok (.iload 4, 2) := by decide +kernel
theorem dX11_goes_78 : decode cX11_goes 78 = .ok (.iaload, 1) := by decide +kernel
theorem dX11_goes_79 : decode cX11_goes 79 = .ok (.goto 10, 3) := by decide +kernel
theorem dX11_goes_82 : decode cX11_goes 82 = .ok (.aload_n 0, 1) := by decide +kernel
theorem dX11_goes_83 : decode cX11_goes 83 = .ok (.getfield 41, 3) := by decide +kernel
theorem dX11_goes_86 : decode cX11_goes 86 = .ok (.iload 4, 2) := by decide +kernel
theorem dX11_goes_88 : decode cX11_goes 88 = .ok (.iaload, 1) := by decide +kernel
theorem dX11_goes_89 : decode cX11_goes 89 = .ok (.istore 6, 2) := by decide +kernel
theorem dX11_goes_91 : decode cX11_goes 91 = .ok (.aload_n 0, 1) := by decide +kernel
theorem dX11_goes_92 : decode cX11_goes 92 = .ok (.getfield 44, 3) := by decide +kernel
theorem dX11_goes_95 : decode cX11_goes 95 = .ok (.iload 4, 2) := by decide +kernel
theorem dX11_goes_97 : decode cX11_goes 97 = .ok (.baload, 1) := by decide +kernel
theorem dX11_goes_98 : decode cX11_goes 98 = .ok (.ifCond .ne 16, 3) := by decide +kernel
theorem dX11_goes_101 : decode cX11_goes 101 = .ok (.aload_n 0, 1) := by decide +kernel
theorem dX11_goes_102 : decode cX11_goes 102 = .ok (.getfield 133, 3) := by decide +kernel
theorem dX11_goes_105 : decode cX11_goes 105 = .ok (.iload 4, 2) := by decide +kernel
theorem dX11_goes_107 : decode cX11_goes 107 = .ok (.ishr, 1) := by decide +kernel
theorem dX11_goes_108 : decode cX11_goes 108 = .ok (.iconst 1, 1) := by decide +kernel
theorem dX11_goes_109 : decode cX11_goes 109 = .ok (.iand, 1) := by decide +kernel
theorem dX11_goes_110 : decode cX11_goes 110 = .ok (.iconst 1, 1) := by decide +kernel
theorem dX11_goes_111 : decode cX11_goes 111 = .ok (.if_icmp .ne 7, 3) := by decide +kernel
theorem dX11_goes_114 : decode cX11_goes 114 = .ok (.iconst 0, 1) := by decide +kernel
theorem dX11_goes_115 : decode cX11_goes 115 = .ok (.goto 22, 3) := by decide +kernel
theorem dX11_goes_118 : decode cX11_goes 118 = .ok (.aload_n 0, 1) := by decide +kernel
theorem dX11_goes_119 : decode cX11_goes 119 = .ok (.iload_n 1, 1) := by decide +kernel
theorem dX11_goes_120 : decode cX11_goes 120 = .ok (.iload 5, 2) := by decide +kernel
theorem dX11_goes_122 : decode cX11_goes 122 = .ok (.ifCond .ge 9, 3) := by decide +kernel
theorem dX11_goes_125 : decode cX11_goes 125 = .ok (.iload 5, 2) := by decide +kernel
theorem dX11_goes_127 : decode cX11_goes 127 = .ok (.ineg, 1) := by decide +kernel
theorem dX11_goes_128 : decode cX11_goes 128 = .ok (.goto 5, 3) := by decide +kernel
theorem dX11_goes_131 : decode cX11_goes 131 = .ok (.iload 5, 2) := by decide +kernel
theorem dX11_goes_133 : decode cX11_goes 133 = .ok (.iload_n 2, 1) := by decide +kernel
theorem dX11_goes_134 : decode cX11_goes 134 = .ok (.invokevirtual 152, 3) := by decide +kernel
theorem dX11_goes_137 : decode cX11_goes 137 = .ok (.istore 7, 2) := by decide +kernel
theorem dX11_goes_139 : decode cX11_goes 139 = .ok (.iload 7, 2) := by decide +kernel
theorem dX11_goes_141 : decode cX11_goes 141 = .ok (.aload_n 0, 1) := by decide +kernel
theorem dX11_goes_142 : decode cX11_goes 142 = .ok (.getfield 57, 3) := by decide +kernel
theorem dX11_goes_145 : decode cX11_goes 145 = .ok (.iload 6, 2) := by decide +kernel
theorem dX11_goes_147 : decode cX11_goes 147 = .ok (.iaload, 1) := by decide +kernel
theorem dX11_goes_148 : decode cX11_goes 148 = .ok (.if_icmp .le 13, 3) := by decide +kernel
theorem dX11_goes_151 : decode cX11_goes 151 = .ok (.aload_n 0, 1) := by decide +kernel
theorem dX11_goes_152 : decode cX11_goes 152 = .ok (.getfield 57, 3) := by decide +kernel
theorem dX11_goes_155 : decode cX11_goes 155 = .ok (.iload 6, 2) := by decide +kernel
theorem dX11_goes_157 : decode cX11_goes 157 = .ok (.iaload, 1) := by decide +kernel
theorem dX11_goes_158 : decode cX11_goes 158 = .ok (.goto 5, 3) := by decide +kernel
theorem dX11_goes_161 : decode cX11_goes 161 = .ok (.iload 7, 2) := by decide +kernel
theorem dX11_goes_163 : decode cX11_goes 163 = .ok (.istore 7, 2) := by decide +kernel
theorem dX11_goes_165 : decode cX11_goes 165 = .ok (.aload_n 0, 1) := by decide +kernel
theorem dX11_goes_166 : decode cX11_goes 166 = .ok (.getfield 57, 3) := by decide +kernel
theorem dX11_goes_169 : decode cX11_goes 169 = .ok (.iload 6, 2) := by decide +kernel
theorem dX11_goes_171 : decode cX11_goes 171 = .ok (.dup2, 1) := by decide +kernel
theorem dX11_goes_172 : decode cX11_goes 172 = .ok (.iaload, 1) := by decide +kernel
theorem dX11_goes_173 : decode cX11_goes 173 = .ok (.iload 7, 2) := by decide +kernel
theorem dX11_goes_175 : decode cX11_goes 175 = .ok (.isub, 1) := by decide +kernel
theorem dX11_goes_176 : decode cX11_goes 176 = .ok (.iastore, 1) := by decide +kernel
theorem dX11_goes_177 : decode cX11_goes 177 = .ok (.aload_n 0, 1) := by decide +kernel
theorem dX11_goes_178 : decode cX11_goes 178 = .ok (.getfield 63, 3) := by decide +kernel
theorem dX11_goes_181 : decode cX11_goes 181 = .ok (.aload_n 0, 1) := by decide +kernel
theorem dX11_goes_182 : decode cX11_goes 182 = .ok (.getfield 20, 3) := by decide +kernel
theorem dX11_goes_185 : decode cX11_goes 185 = .ok (.iload 6, 2) := by decide +kernel
theorem dX11_goes_187 : decode cX11_goes 187 = .ok (.iaload, 1) := by decide +kernel
theorem dX11_goes_188 : decode cX11_goes 188 = .ok (.dup2, 1) := by decide +kernel
theorem dX11_goes_189 : decode cX11_goes 189 = .ok (.iaload, 1) := by decide +kernel
theorem dX11_goes_190 : decode cX11_goes 190 = .ok (.iload 7, 2) := by decide +kernel
theorem dX11_goes_192 : decode cX11_goes 192 = .ok (.iadd, 1) := by decide +kernel
theorem dX11_goes_193 : decode cX11_goes 193 = .ok (.iastore, 1) := by decide +kernel
theorem dX11_goes_194 : decode cX11_goes 194 = .ok (.iload_n 3, 1) := by decide +kernel
theorem dX11_goes_195 : decode cX11_goes 195 = .ok (.iload 7, 2) := by decide +kernel
theorem dX11_goes_197 : decode cX11_goes 197 = .ok (.iadd, 1) := by decide +kernel
theorem dX11_goes_198 : decode cX11_goes 198 = .ok (.istore_n 3, 1) := by decide +kernel
theorem dX11_goes_199 : decode cX11_goes 199 = .ok (.iinc 4 1, 3) := by decide +kernel
theorem dX11_goes_202 : decode cX11_goes 202 = .ok (.goto (-171), 3) := by decide +kernel
theorem dX11_goes_205 : decode cX11_goes 205 = .ok (.iload_n 3, 1) := by decide +kernel
theorem dX11_goes_206 : decode cX11_goes 206 = .ok (.ireturn, 1) := by decide +kernel
theorem dX11_nights_0 : decode cX11_nights 0 = .ok (.iconst 0, 1) := by decide +kernel
theorem dX11_nights_1 : decode cX11_nights 1 = .ok (.istore 4, 2) := by decide +kernel
theorem dX11_nights_3 : decode cX11_nights 3 = .ok (.iconst 0, 1) := by decide +kernel
theorem dX11_nights_4 : decode cX11_nights 4 = .ok (.istore 5, 2) := by decide +kernel
theorem dX11_nights_6 : decode cX11_nights 6 = .ok (.iload 5, 2) := by decide +kernel
theorem dX11_nights_8 : decode cX11_nights 8 = .ok (.iload_n 3, 1) := by decide +kernel
theorem dX11_nights_9 : decode cX11_nights 9 = .ok (.if_icmp .ge 23, 3) := by decide +kernel
theorem dX11_nights_12 : decode cX11_nights 12 = .ok (.iload 4, 2) := by decide +kernel
theorem dX11_nights_14 : decode cX11_nights 14 = .ok (.aload_n 0, 1) := by decide +kernel
theorem dX11_nights_15 : decode cX11_nights 15 = .ok (.iload_n 1, 1) := by decide +kernel
theorem dX11_nights_16 : decode cX11_nights 16 = .ok (.iload_n 2, 1) := by decide +kernel
theorem dX11_nights_17 : decode cX11_nights 17 = .ok (.iload 5, 2) := by decide +kernel
theorem dX11_nights_19 : decode cX11_nights 19 = .ok (.iadd, 1) := by decide +kernel
theorem dX11_nights_20 : decode cX11_nights 20 = .ok (.invokevirtual 156, 3) := by decide +kernel
theorem dX11_nights_23 : decode cX11_nights 23 = .ok (.iadd, 1) := by decide +kernel
theorem dX11_nights_24 : decode cX11_nights 24 = .ok (.istore 4, 2) := by decide +kernel
theorem dX11_nights_26 : decode cX11_nights 26 = .ok (.iinc 5 1, 3) := by decide +kernel
theorem dX11_nights_29 : decode cX11_nights 29 = .ok (.goto (-23), 3) := by decide +kernel
theorem dX11_nights_32 : decode cX11_nights 32 = .ok (.iload 4, 2) := by decide +kernel
theorem dX11_nights_34 : decode cX11_nights 34 = .ok (.ireturn, 1) := by decide +kernel
theorem dX11_tries_0 : decode cX11_tries 0 = .ok (.iconst 0, 1) := by decide +kernel
theorem dX11_tries_1 : decode cX11_tries 1 = .ok (.istore_n 1, 1) := by decide +kernel
theorem dX11_tries_2 : decode cX11_tries 2 = .ok (.iload_n 1, 1) := by decide +kernel
theorem dX11_tries_3 : decode cX11_tries 3 = .ok (.bipush 8, 2) := by decide +kernel
theorem dX11_tries_5 : decode cX11_tries 5 = .ok (.if_icmp .ge 21, 3) := by decide +kernel
theorem dX11_tries_8 : decode cX11_tries 8 = .ok (.aload_n 0, 1) := by decide +kernel
theorem dX11_tries_9 : decode cX11_tries 9 = .ok (.getfield 57, 3) := by decide +kernel
theorem dX11_tries_12 : decode cX11_tries 12 = .ok (.iload_n 1, 1) := by decide +kernel
theorem dX11_tries_13 : decode cX11_tries 13 = .ok (.aload_n 0, 1) := by decide +kernel
theorem dX11_tries_14 : decode cX11_tries 14 = .ok (.getfield 48, 3) := by decide +kernel
theorem dX11_tries_17 : decode cX11_tries 17 = .ok (.iload_n 1, 1) := by decide +kernel
theorem dX11_tries_18 : decode cX11_tries 18 = .ok (.iaload, 1) := by decide +kernel
theorem dX11_tries_19 : decode cX11_tries 19 = .ok (.iastore, 1) := by decide +kernel
theorem dX11_tries_20 : decode cX11_tries 20 = .ok (.iinc 1 1, 3) := by decide +kernel
theorem dX11_tries_23 : decode cX11_tries 23 = .ok (.goto (-21), 3) := by decide +kernel
theorem dX11_tries_26 : decode cX11_tries 26 = .ok (.aload_n 0, 1) := by decide +kernel
theorem dX11_tries_27 : decode cX11_tries 27 = .ok (.getfield 63, 3) := by decide +kernel
theorem dX11_tries_30 : decode cX11_tries 30 = .ok (.iconst 0, 1) := by decide +kernel
theorem dX11_tries_31 : decode cX11_tries 31 = .ok (.iconst 0, 1) := by decide +kernel
theorem dX11_tries_32 : decode cX11_tries 32 = .ok (.iastore, 1) := by decide +kernel
theorem dX11_tries_33 : decode cX11_tries 33 = .ok (.aload_n 0, 1) := by decide +kernel
theorem dX11_tries_34 : decode cX11_tries 34 = .ok (.getfield 63, 3) := by decide +kernel
theorem dX11_tries_37 : decode cX11_tries 37 = .ok (.iconst 1, 1) := by decide +kernel
theorem dX11_tries_38 : decode cX11_tries 38 = .ok (.iconst 0, 1) := by decide +kernel
theorem dX11_tries_39 : decode cX11_tries 39 = .ok (.iastore, 1) := by decide +kernel
theorem dX11_tries_40 : decode cX11_tries 40 = .ok (.return_, 1) := by decide +kernel
theorem dX11_night_0 : decode cX11_night 0 = .ok (.aload_n 0, 1) := by decide +kernel
theorem dX11_night_1 : decode cX11_night 1 = .ok (.invokevirtual 160, 3) := by decide +kernel
theorem dX11_night_4 : decode cX11_night 4 = .ok (.aload_n 0, 1) := by decide +kernel
theorem dX11_night_5 : decode cX11_night 5 = .ok (.aload_n 0, 1) := by decide +kernel
theorem dX11_night_6 : decode cX11_night 6 = .ok (.getfield 23, 3) := by decide +kernel
theorem dX11_night_9 : decode cX11_night 9 = .ok (.iconst 1, 1) := by decide +kernel
theorem dX11_night_10 : decode cX11_night 10 = .ok (.iaload, 1) := by decide +kernel
theorem dX11_night_11 : decode cX11_night 11 = .ok (.aload_n 0, 1) := by decide +kernel
theorem dX11_night_12 : decode cX11_night 12 = .ok (.getfield 136, 3) := by decide +kernel
theorem dX11_night_15 : decode cX11_night 15 = .ok (.invokevirtual 156, 3) := by decide +kernel
theorem dX11_night_18 : decode cX11_night 18 = .ok (.istore_n 1, 1) := by decide +kernel
theorem dX11_night_19 : decode cX11_night 19 = .ok (.iconst 0, 1) := by decide +kernel
theorem dX11_night_20 : decode cX11_night 20 = .ok (.istore_n 2, 1) := by decide +kernel
theorem dX11_night_21 : decode cX11_night 21 = .ok (.iload_n 2, 1) := by decide +kernel
theorem dX11_night_22 : decode cX11_night 22 = .ok (.bipush 8, 2) := by decide +kernel
theorem dX11_night_24 : decode cX11_night 24 = .ok (.if_icmp .ge 21, 3) := by decide +kernel
theorem dX11_night_27 : decode cX11_night 27 = .ok (.aload_n 0, 1) := by decide +kernel
theorem dX11_night_28 : decode cX11_night 28 = .ok (.getfield 48, 3) := by decide +kernel
theorem dX11_night_31 : decode cX11_night 31 = .ok (.iload_n 2, 1) := by decide +kernel
theorem dX11_night_32 : decode cX11_night 32 = .ok (.aload_n 0, 1) := by decide +kernel
theorem dX11_night_33 : decode cX11_night 33 = .ok (.getfield 57, 3) := by decide +kernel
theorem dX11_night_36 : decode cX11_night 36 = .ok (.iload_n 2, 1) := by decide +kernel
theorem dX11_night_37 : decode cX11_night 37 = .ok (.iaload, 1) := by decide +kernel
theorem dX11_night_38 : decode cX11_night 38 = .ok (.iastore, 1) := by decide +kernel
theorem dX11_night_39 : decode cX11_night 39 = .ok (.iinc 2 1, 3) := by decide +kernel
theorem dX11_night_42 : decode cX11_night 42 = .ok (.goto (-21), 3) := by decide +kernel
theorem dX11_night_45 : decode cX11_night 45 = .ok (.aload_n 0, 1) := by decide +kernel
theorem dX11_night_46 : decode cX11_night 46 = .ok (.dup, 1) := by decide +kernel
theorem dX11_night_47 : decode cX11_night 47 = .ok (.getfield 136, 3) := by decide +kernel
theorem dX11_night_50 : decode cX11_night 50 = .ok (.iconst 1, 1) := by decide +kernel
theorem dX11_night_51 : decode cX11_night 51 = .ok (.iadd, 1) := by decide +kernel
theorem dX11_night_52 : decode cX11_night 52 = .ok (.putfield 136, 3) := by decide +kernel
theorem dX11_night_55 : decode cX11_night 55 = .ok (.iload_n 1, 1) := by decide +kernel
theorem dX11_night_56 : decode cX11_night 56 = .ok (.ireturn, 1) := by decide +kernel
theorem dX11_pour_0 : decode cX11_pour 0 = .ok (.aload_n 0, 1) := by decide +kernel
theorem dX11_pour_1 : decode cX11_pour 1 = .ok (.iload_n 1, 1) := by decide +kernel
theorem dX11_pour_2 : decode cX11_pour 2 = .ok (.invokevirtual 149, 3) := by decide +kernel
theorem dX11_pour_5 : decode cX11_pour 5 = .ok (.ifCond .eq 28, 3) := by decide +kernel
theorem dX11_pour_8 : decode cX11_pour 8 = .ok (.aload_n 0, 1) := by decide +kernel
theorem dX11_pour_9 : decode cX11_pour 9 = .ok (.iload_n 2, 1) := by decide +kernel
theorem dX11_pour_10 : decode cX11_pour 10 = .ok (.invokevirtual 149, 3) := by decide +kernel
theorem dX11_pour_13 : decode cX11_pour 13 = .ok (.ifCond .eq 20, 3) := by decide +kernel
theorem dX11_pour_16 : decode cX11_pour 16 = .ok (.iload_n 1, 1) := by decide +kernel
theorem dX11_pour_17 : decode cX11_pour 17 = .ok (.iload_n 2, 1) := by decide +kernel
theorem dX11_pour_18 : decode cX11_pour 18 = .ok (.if_icmp .eq 15, 3) := by decide +kernel
theorem dX11_pour_21 : decode cX11_pour 21 = .ok (.iload_n 3, 1) := by decide +kernel
theorem dX11_pour_22 : decode cX11_pour 22 = .ok (.i2l, 1) := by decide +kernel
theorem dX11_pour_23 : decode cX11_pour 23 = .ok (.lconst 1, 1) := by decide +kernel
theorem dX11_pour_24 : decode cX11_pour 24 = .ok (.ldc2_w 115, 3) := by decide +kernel
theorem dX11_pour_27 : decode cX11_pour 27 = .ok (.invokestatic 86, 3) := by decide +kernel
theorem dX11_pour_30 : decode cX11_pour 30 = .ok (.ifCond .ne 5, 3) := by decide +kernel
theorem dX11_pour_33 : decode cX11_pour 33 = .ok (.iconst (-1), 1) := by decide +kernel
theorem dX11_pour_34 : decode cX11_pour 34 = .ok (.ireturn, 1) := by decide +kernel
theorem dX11_pour_35 : decode cX11_pour 35 = .ok (.aload_n 0, 1) := by decide +kernel
theorem dX11_pour_36 : decode cX11_pour 36 = .ok (.getfield 48, 3) := by decide +kernel
theorem dX11_pour_39 : decode cX11_pour 39 = .ok (.iload_n 1, 1) := by decide +kernel
theorem dX11_pour_40 : decode cX11_pour 40 = .ok (.iaload, 1) := by decide +kernel
theorem dX11_pour_41 : decode cX11_pour 41 = .ok (.iload_n 3, 1) := by decide +kernel
theorem dX11_pour_42 : decode cX11_pour 42 = .ok (.if_icmp .lt 17, 3) := by decide +kernel
theorem dX11_pour_45 : decode cX11_pour 45 = .ok (.aload_n 0, 1) := by decide +kernel
theorem dX11_pour_46 : decode cX11_pour 46 = .ok (.getfield 48, 3) := by decide +kernel
theorem dX11_pour_49 : decode cX11_pour 49 = .ok (.iload_n 2, 1) := by decide +kernel
theorem dX11_pour_50 : decode cX11_pour 50 = .ok (.iaload, 1) := by decide +kernel
theorem dX11_pour_51 : decode cX11_pour 51 = .ok (.iload_n 3, 1) := by decide +kernel
theorem dX11_pour_52 : decode cX11_pour 52 = .ok (.iadd, 1) := by decide +kernel
theorem dX11_pour_53 : decode cX11_pour 53 = .ok (.sipush 199, 3) := by decide +kernel
theorem dX11_pour_56 : decode cX11_pour 56 = .ok (.if_icmp .le 6, 3) := by decide +kernel
theorem dX11_pour_59 : decode cX11_pour 59 = .ok (.bipush (-2), 2) := by decide +kernel
theorem dX11_pour_61 : decode cX11_pour 61 = .ok (.ireturn, 1) := by decide +kernel
theorem dX11_pour_62 : decode cX11_pour 62 = .ok (.aload_n 0, 1) := by decide +kernel
theorem dX11_pour_63 : decode cX11_pour 63 = .ok (.getfield 48, 3) := by decide +kernel
theorem dX11_pour_66 : decode cX11_pour 66 = .ok (.iload_n 1, 1) := by decide +kernel
theorem dX11_pour_67 : decode cX11_pour 67 = .ok (.dup2, 1) := by decide +kernel
theorem dX11_pour_68 : decode cX11_pour 68 = .ok (.iaload, 1) := by decide +kernel
theorem dX11_pour_69 : decode cX11_pour 69 = .ok (.iload_n 3, 1) := by decide +kernel
theorem dX11_pour_70 : decode cX11_pour 70 = .ok (.isub, 1) := by decide +kernel
theorem dX11_pour_71 : decode cX11_pour 71 = .ok (.iastore, 1) := by decide +kernel
theorem dX11_pour_72 : decode cX11_pour 72 = .ok (.aload_n 0, 1) := by decide +kernel
theorem dX11_pour_73 : decode cX11_pour 73 = .ok (.getfield 48, 3) := by decide +kernel
theorem dX11_pour_76 : decode cX11_pour 76 = .ok (.iload_n 2, 1) := by decide +kernel
theorem dX11_pour_77 : decode cX11_pour 77 = .ok (.dup2, 1) := by decide +kernel
theorem dX11_pour_78 : decode cX11_pour 78 = .ok (.iaload, 1) := by decide +kernel
theorem dX11_pour_79 : decode cX11_pour 79 = .ok (.iload_n 3, 1) := by decide +kernel
theorem dX11_pour_80 : decode cX11_pour 80 = .ok (.iadd, 1) := by decide +kernel
theorem dX11_pour_81 : decode cX11_pour 81 = .ok (.iastore, 1) := by decide +kernel
theorem dX11_pour_82 : decode cX11_pour 82 = .ok (.aload_n 0, 1) := by decide +kernel
theorem dX11_pour_83 : decode cX11_pour 83 = .ok (.getfield 48, 3) := by decide +kernel
theorem dX11_pour_86 : decode cX11_pour 86 = .ok (.iload_n 2, 1) := by decide +kernel
theorem dX11_pour_87 : decode cX11_pour 87 = .ok (.iaload, 1) := by decide +kernel
theorem dX11_pour_88 : decode cX11_pour 88 = .ok (.ireturn, 1) := by decide +kernel
theorem dX11_isLong_0 : decode cX11_isLong 0 = .ok (.iload_n 0, 1) := by decide +kernel
theorem dX11_isLong_1 : decode cX11_isLong 1 = .ok (.i2l, 1) := by decide +kernel
theorem dX11_isLong_2 : decode cX11_isLong 2 = .ok (.lconst 0, 1) := by decide +kernel
theorem dX11_isLong_3 : decode cX11_isLong 3 = .ok (.ldc2_w 121, 3) := by decide +kernel
theorem dX11_isLong_6 : decode cX11_isLong 6 = .ok (.invokestatic 86, 3) := by decide +kernel
theorem dX11_isLong_9 : decode cX11_isLong 9 = .ok (.ireturn, 1) := by decide +kernel
theorem dX11_left_0 : decode cX11_left 0 = .ok (.aload_n 0, 1) := by decide +kernel
theorem dX11_left_1 : decode cX11_left 1 = .ok (.iload_n 1, 1) := by decide +kernel
theorem dX11_left_2 : decode cX11_left 2 = .ok (.invokevirtual 149, 3) := by decide +kernel
theorem dX11_left_5 : decode cX11_left 5 = .ok (.ifCond .eq 10, 3) := by decide +kernel
theorem dX11_left_8 : decode cX11_left 8 = .ok (.iload_n 2, 1) := by decide +kernel
theorem dX11_left_9 : decode cX11_left 9 = .ok (.invokestatic 163, 3) := by decide +kernel
theorem dX11_left_12 : decode cX11_left 12 = .ok (.ifCond .ne 5, 3) := by decide +kernel
theorem dX11_left_15 : decode cX11_left 15 = .ok (.iconst (-1), 1) := by decide +kernel
theorem dX11_left_16 : decode cX11_left 16 = .ok (.ireturn, 1) := by decide +kernel
theorem dX11_left_17 : decode cX11_left 17 = .ok (.aload_n 0, 1) := by decide +kernel
theorem dX11_left_18 : decode cX11_left 18 = .ok (.invokevirtual 160, 3) := by decide +kernel
theorem dX11_left_21 : decode cX11_left 21 = .ok (.aload_n 0, 1) := by decide +kernel
theorem dX11_left_22 : decode cX11_left 22 = .ok (.aload_n 0, 1) := by decide +kernel
theorem dX11_left_23 : decode cX11_left 23 = .ok (.getfield 23, 3) := by decide +kernel
theorem dX11_left_26 : decode cX11_left 26 = .ok (.iconst 1, 1) := by decide +kernel
theorem dX11_left_27 : decode cX11_left 27 = .ok (.iaload, 1) := by decide +kernel
theorem dX11_left_28 : decode cX11_left 28 = .ok (.aload_n 0, 1) := by decide +kernel
theorem dX11_left_29 : decode cX11_left 29 = .ok (.getfield 136, 3) := by decide +kernel
theorem dX11_left_32 : decode cX11_left 32 = .ok (.iload_n 2, 1) := by decide +kernel
theorem dX11_left_33 : decode cX11_left 33 = .ok (.invokevirtual 166, 3) := by decide +kernel
theorem dX11_left_36 : decode cX11_left 36 = .ok (.istore_n 3, 1) := by decide +kernel
theorem dX11_left_37 : decode cX11_left 37 = .ok (.iload_n 3, 1) := by decide +kernel
theorem dX11_left_38 : decode cX11_left 38 = .ok (.ifCond .ge 7, 3) := by decide +kernel
theorem dX11_left_41 : decode cX11_left 41 = .ok (.iconst (-1), 1) := by decide +kernel
theorem dX11_left_42 : decode cX11_left 42 = .ok (.goto 9, 3) := by decide +kernel
theorem dX11_left_45 : decode cX11_left 45 = .ok (.aload_n 0, 1) := by decide +kernel
theorem dX11_left_46 : decode cX11_left 46 = .ok (.getfield 57, 3) := by decide +kernel
theorem dX11_left_49 : decode cX11_left 49 = .ok (.iload_n 1, 1) := by decide +kernel
theorem dX11_left_50 : decode cX11_left 50 = .ok (.iaload, 1) := by decide +kernel
theorem dX11_left_51 : decode cX11_left 51 = .ok (.ireturn, 1) := by decide +kernel
theorem dX11_lost_0 : decode cX11_lost 0 = .ok (.iload_n 1, 1) := by decide +kernel
theorem dX11_lost_1 : decode cX11_lost 1 = .ok (.invokestatic 163, 3) := by decide +kernel
theorem dX11_lost_4 : decode cX11_lost 4 = .ok (.ifCond .eq 15, 3) := by decide +kernel
theorem dX11_lost_7 : decode cX11_lost 7 = .ok (.iload_n 2, 1) := by decide +kernel
theorem dX11_lost_8 : decode cX11_lost 8 = .ok (.i2l, 1) := by decide +kernel
theorem dX11_lost_9 : decode cX11_lost 9 = .ok (.ldc2_w 169, 3) := by decide +kernel
theorem dX11_lost_12 : decode cX11_lost 12 = .ok (.lconst 1, 1) := by decide +kernel
theorem dX11_lost_13 : decode cX11_lost 13 = .ok (.invokestatic 86, 3) := by decide +kernel
theorem dX11_lost_16 : decode cX11_lost 16 = .ok (.ifCond .ne 5, 3) := by decide +kernel
theorem dX11_lost_19 : decode cX11_lost 19 = .ok (.iconst (-1), 1) := by decide +kernel
theorem dX11_lost_20 : decode cX11_lost 20 = .ok (.ireturn, 1) := by decide +kernel
theorem dX11_lost_21 : decode cX11_lost 21 = .ok (.aload_n 0, 1) := by decide +kernel
theorem dX11_lost_22 : decode cX11_lost 22 = .ok (.invokevirtual 160, 3) := by decide +kernel
theorem dX11_lost_25 : decode cX11_lost 25 = .ok (.aload_n 0, 1) := by decide +kernel
theorem dX11_lost_26 : decode cX11_lost 26 = .ok (.aload_n 0, 1) := by decide +kernel
theorem dX11_lost_27 : decode cX11_lost 27 = .ok (.getfield 23, 3) := by decide +kernel
theorem dX11_lost_30 : decode cX11_lost 30 = .ok (.iconst 1, 1) := by decide +kernel
theorem dX11_lost_31 : decode cX11_lost 31 = .ok (.iaload, 1) := by decide +kernel
theorem dX11_lost_32 : decode cX11_lost 32 = .ok (.aload_n 0, 1) := by decide +kernel
theorem dX11_lost_33 : decode cX11_lost 33 = .ok (.getfield 136, 3) := by decide +kernel
theorem dX11_lost_36 : decode cX11_lost 36 = .ok (.iload_n 1, 1) := by decide +kernel
theorem dX11_lost_37 : decode cX11_lost 37 = .ok (.invokevirtual 166, 3) := by decide +kernel
theorem dX11_lost_40 : decode cX11_lost 40 = .ok (.istore_n 3, 1) := by decide +kernel
theorem dX11_lost_41 : decode cX11_lost 41 = .ok (.iload_n 2, 1) := by decide +kernel
theorem dX11_lost_42 : decode cX11_lost 42 = .ok (.ifCond .ge 7, 3) := by decide +kernel
theorem dX11_lost_45 : decode cX11_lost 45 = .ok (.iload_n 3, 1) := by decide +kernel
theorem dX11_lost_46 : decode cX11_lost 46 = .ok (.goto 9, 3) := by decide +kernel
theorem dX11_lost_49 : decode cX11_lost 49 = .ok (.aload_n 0, 1) := by decide +kernel
theorem dX11_lost_50 : decode cX11_lost 50 = .ok (.getfield 63, 3) := by decide +kernel
theorem dX11_lost_53 : decode cX11_lost 53 = .ok (.iload_n 2, 1) := by decide +kernel
theorem dX11_lost_54 : decode cX11_lost 54 = .ok (.iaload, 1) := by decide +kernel
theorem dX11_lost_55 : decode cX11_lost 55 = .ok (.ireturn, 1) := by decide +kernel
theorem dX11_follows_0 : decode cX11_follows 0 = .ok (.aload_n 0, 1) := by decide +kernel
theorem dX11_follows_1 : decode cX11_follows 1 = .ok (.getfield 13, 3) := by decide +kernel
theorem dX11_follows_4 : decode cX11_follows 4 = .ok (.iconst 0, 1) := by decide +kernel
theorem dX11_follows_5 : decode cX11_follows 5 = .ok (.iaload, 1) := by decide +kernel
theorem dX11_follows_6 : decode cX11_follows 6 = .ok (.iconst 2, 1) := by decide +kernel
theorem dX11_follows_7 : decode cX11_follows 7 = .ok (.isub, 1) := by decide +kernel
theorem dX11_follows_8 : decode cX11_follows 8 = .ok (.istore_n 1, 1) := by decide +kernel
theorem dX11_follows_9 : decode cX11_follows 9 = .ok (.iload_n 1, 1) := by decide +kernel
theorem dX11_follows_10 : decode cX11_follows 10 = .ok (.ifCond .lt 26, 3) := by decide +kernel
theorem dX11_follows_13 : decode cX11_follows 13 = .ok (.aload_n 0, 1) := by decide +kernel
theorem dX11_follows_14 : decode cX11_follows 14 = .ok (.getfield 66, 3) := by decide +kernel
theorem dX11_follows_17 : decode cX11_follows 17 = .ok (.iload_n 1, 1) := by decide +kernel
theorem dX11_follows_18 : decode cX11_follows 18 = .ok (.iaload, 1) := by decide +kernel
theorem dX11_follows_19 : decode cX11_follows 19 = .ok (.aload_n 0, 1) := by decide +kernel
theorem dX11_follows_20 : decode cX11_follows 20 = .ok (.getfield 66, 3) := by decide +kernel
theorem dX11_follows_23 : decode cX11_follows 23 = .ok (.iload_n 1, 1) := by decide +kernel
theorem dX11_follows_24 : decode cX11_follows 24 = .ok (.iconst 1, 1) := by decide +kernel
theorem dX11_follows_25 : decode cX11_follows 25 = .ok (.iadd, 1) := by decide +kernel
theorem dX11_follows_26 : decode cX11_follows 26 = .ok (.iaload, 1) := by decide +kernel
theorem dX11_follows_27 : decode cX11_follows 27 = .ok (.if_icmp .lt 9, 3) := by decide +kernel
theorem dX11_follows_30 : decode cX11_follows 30 = .ok (.iinc 1 (-1), 3) := by decide +kernel
theorem dX11_follows_33 : decode cX11_follows 33 = .ok (.goto (-24), 3) := by decide +kernel
theorem dX11_follows_36 : decode cX11_follows 36 = .ok (.iload_n 1, 1) := by decide +kernel
theorem dX11_follows_37 : decode cX11_follows 37 = .ok (.ifCond .ge 5, 3) := by decide +kernel
theorem dX11_follows_40 : decode cX11_follows 40 = .ok (.iconst 0, 1) := by decide +kernel
theorem dX11_follows_41 : decode cX11_follows 41 = .ok (.ireturn, 1) := by decide +kernel
theorem dX11_follows_42 : decode cX11_follows 42 = .ok (.aload_n 0, 1) := by decide +kernel
theorem dX11_follows_43 : decode cX11_follows 43 = .ok (.getfield 13, 3) := by decide +kernel
theorem dX11_follows_46 : decode cX11_follows 46 = .ok (.iconst 0, 1) := by decide +kernel
theorem dX11_follows_47 : decode cX11_follows 47 = .ok (.iaload, 1) := by decide +kernel
theorem dX11_follows_48 : decode cX11_follows 48 = .ok (.iconst 1, 1) := by decide +kernel
theorem dX11_follows_49 : decode cX11_follows 49 = .ok (.isub, 1) := by decide +kernel
theorem dX11_follows_50 : decode cX11_follows 50 = .ok (.istore_n 2, 1) := by decide +kernel
theorem dX11_follows_51 : decode cX11_follows 51 = .ok (.aload_n 0, 1) := by decide +kernel
theorem dX11_follows_52 : decode cX11_follows 52 = .ok (.getfield 66, 3) := by decide +kernel
theorem dX11_follows_55 : decode cX11_follows 55 = .ok (.iload_n 2, 1) := by decide +kernel
theorem dX11_follows_56 : decode cX11_follows 56 = .ok (.iaload, 1) := by decide +kernel
theorem dX11_follows_57 : decode cX11_follows 57 = .ok (.aload_n 0, 1) := by decide +kernel
theorem dX11_follows_58 : decode cX11_follows 58 = .ok (.getfield 66, 3) := by decide +kernel
theorem dX11_follows_61 : decode cX11_follows 61 = .ok (.iload_n 1, 1) := by decide +kernel
theorem dX11_follows_62 : decode cX11_follows 62 = .ok (.iaload, 1) := by decide +kernel
theorem dX11_follows_63 : decode cX11_follows 63 = .ok (.if_icmp .gt 9, 3) := by decide +kernel
theorem dX11_follows_66 : decode cX11_follows 66 = .ok (.iinc 2 (-1), 3) := by decide +kernel
theorem dX11_follows_69 : decode cX11_follows 69 = .ok (.goto (-18), 3) := by decide +kernel
theorem dX11_follows_72 : decode cX11_follows 72 = .ok (.aload_n 0, 1) := by decide +kernel
theorem dX11_follows_73 : decode cX11_follows 73 = .ok (.iload_n 1, 1) := by decide +kernel
theorem dX11_follows_74 : decode cX11_follows 74 = .ok (.iload_n 2, 1) := by decide +kernel
theorem dX11_follows_75 : decode cX11_follows 75 = .ok (.invokevirtual 171, 3) := by decide +kernel
theorem dX11_follows_78 : decode cX11_follows 78 = .ok (.iload_n 1, 1) := by decide +kernel
theorem dX11_follows_79 : decode cX11_follows 79 = .ok (.iconst 1, 1) := by decide +kernel
theorem dX11_follows_80 : decode cX11_follows 80 = .ok (.iadd, 1) := by decide +kernel
theorem dX11_follows_81 : decode cX11_follows 81 = .ok (.istore_n 3, 1) := by decide +kernel
theorem dX11_follows_82 : decode cX11_follows 82 = .ok (.aload_n 0, 1) := by decide +kernel
theorem dX11_follows_83 : decode cX11_follows 83 = .ok (.getfield 13, 3) := by decide +kernel
theorem dX11_follows_86 : decode cX11_follows 86 = .ok (.iconst 0, 1) := by decide +kernel
theorem dX11_follows_87 : decode cX11_follows 87 = .ok (.iaload, 1) := by decide +kernel
theorem dX11_follows_88 : decode cX11_follows 88 = .ok (.iconst 1, 1) := by decide +kernel
theorem dX11_follows_89 : decode cX11_follows 89 = .ok (.isub, 1) := by decide +kernel
theorem dX11_follows_90 : decode cX11_follows 90 = .ok (.istore 4, 2) := by decide +kernel
theorem dX11_follows_92 : decode cX11_follows 92 = .ok (.iload_n 3, 1) := by decide +kernel
theorem dX11_follows_93 : decode cX11_follows 93 = .ok (.iload 4, 2) := by decide +kernel
theorem dX11_follows_95 : decode cX11_follows 95 = .ok (.if_icmp .ge 19, 3) := by decide +kernel
theorem dX11_follows_98 : decode cX11_follows 98 = .ok (.aload_n 0, 1) := by decide +kernel
theorem dX11_follows_99 : decode cX11_follows 99 = .ok (.iload_n 3, 1) := by decide +kernel
theorem dX11_follows_100 : decode cX11_follows 100 = .ok (.iload 4, 2) := by decide +kernel
theorem dX11_follows_102 : decode cX11_follows 102 = .ok (.invokevirtual 171, 3) := by decide +kernel
theorem dX11_follows_105 : decode cX11_follows 105 = .ok (.iinc 3 1, 3) := by decide +kernel
theorem dX11_follows_108 : decode cX11_follows 108 = .ok (.iinc 4 (-1), 3) := by decide +kernel
theorem dX11_follows_111 : decode cX11_follows 111 = .ok (.goto (-19), 3) := by decide +kernel
theorem dX11_follows_114 : decode cX11_follows 114 = .ok (.iconst 1, 1) := by decide +kernel
theorem dX11_follows_115 : decode cX11_follows 115 = .ok (.ireturn, 1) := by decide +kernel
theorem dX11_swaps_0 : decode cX11_swaps 0 = .ok (.aload_n 0, 1) := by decide +kernel
theorem dX11_swaps_1 : decode cX11_swaps 1 = .ok (.getfield 66, 3) := by decide +kernel
theorem dX11_swaps_4 : decode cX11_swaps 4 = .ok (.iload_n 1, 1) := by decide +kernel
theorem dX11_swaps_5 : decode cX11_swaps 5 = .ok (.iaload, 1) := by decide +kernel
theorem dX11_swaps_6 : decode cX11_swaps 6 = .ok (.istore_n 3, 1) := by decide +kernel
theorem dX11_swaps_7 : decode cX11_swaps 7 = .ok (.aload_n 0, 1) := by decide +kernel
theorem dX11_swaps_8 : decode cX11_swaps 8 = .ok (.getfield 66, 3) := by decide +kernel
theorem dX11_swaps_11 : decode cX11_swaps 11 = .ok (.iload_n 1, 1) := by decide +kernel
theorem dX11_swaps_12 : decode cX11_swaps 12 = .ok (.aload_n 0, 1) := by decide +kernel
theorem dX11_swaps_13 : decode cX11_swaps 13 = .ok (.getfield 66, 3) := by decide +kernel
theorem dX11_swaps_16 : decode cX11_swaps 16 = .ok (.iload_n 2, 1) := by decide +kernel
theorem dX11_swaps_17 : decode cX11_swaps 17 = .ok (.iaload, 1) := by decide +kernel
theorem dX11_swaps_18 : decode cX11_swaps 18 = .ok (.iastore, 1) := by decide +kernel
theorem dX11_swaps_19 : decode cX11_swaps 19 = .ok (.aload_n 0, 1) := by decide +kernel
theorem dX11_swaps_20 : decode cX11_swaps 20 = .ok (.getfield 66, 3) := by decide +kernel
theorem dX11_swaps_23 : decode cX11_swaps 23 = .ok (.iload_n 2, 1) := by decide +kernel
theorem dX11_swaps_24 : decode cX11_swaps 24 = .ok (.iload_n 3, 1) := by decide +kernel
theorem dX11_swaps_25 : decode cX11_swaps 25 = .ok (.iastore, 1) := by decide +kernel
theorem dX11_swaps_26 : decode cX11_swaps 26 = .ok (.return_, 1) := by decide +kernel
theorem dX11_order_0 : decode cX11_order 0 = .ok (.iload_n 1, 1) := by decide +kernel
theorem dX11_order_1 : decode cX11_order 1 = .ok (.i2l, 1) := by decide +kernel
theorem dX11_order_2 : decode cX11_order 2 = .ok (.lconst 1, 1) := by decide +kernel
theorem dX11_order_3 : decode cX11_order 3 = .ok (.ldc2_w 175, 3) := by decide +kernel
theorem dX11_order_6 : decode cX11_order 6 = .ok (.invokestatic 86, 3) := by decide +kernel
theorem dX11_order_9 : decode cX11_order 9 = .ok (.ifCond .eq 23, 3) := by decide +kernel
theorem dX11_order_12 : decode cX11_order 12 = .ok (.iload_n 2, 1) := by decide +kernel
theorem dX11_order_13 : decode cX11_order 13 = .ok (.i2l, 1) := by decide +kernel
theorem dX11_order_14 : decode cX11_order 14 = .ok (.ldc2_w 169, 3) := by decide +kernel
theorem dX11_order_17 : decode cX11_order 17 = .ok (.aload_n 0, 1) := by decide +kernel
theorem dX11_order_18 : decode cX11_order 18 = .ok (.getfield 13, 3) := by decide +kernel
theorem dX11_order_21 : decode cX11_order 21 = .ok (.iconst 0, 1) := by decide +kernel
theorem dX11_order_22 : decode cX11_order 22 = .ok (.iaload, 1) := by decide +kernel
theorem dX11_order_23 : decode cX11_order 23 = .ok (.iconst 1, 1) := by decide +kernel
theorem dX11_order_24 : decode cX11_order 24 = .ok (.isub, 1) := by decide +kernel
theorem dX11_order_25 : decode cX11_order 25 = .ok (.i2l, 1) := by decide +kernel
theorem dX11_order_26 : decode cX11_order 26 = .ok (.invokestatic 86, 3) := by decide +kernel
theorem dX11_order_29 : decode cX11_order 29 = .ok (.ifCond .ne 5, 3) := by decide +kernel
theorem dX11_order_32 : decode cX11_order 32 = .ok (.iconst (-1), 1) := by decide +kernel
theorem dX11_order_33 : decode cX11_order 33 = .ok (.ireturn, 1) := by decide +kernel
theorem dX11_order_34 : decode cX11_order 34 = .ok (.iconst 0, 1) := by decide +kernel
theorem dX11_order_35 : decode cX11_order 35 = .ok (.istore_n 3, 1) := by decide +kernel
theorem dX11_order_36 : decode cX11_order 36 = .ok (.iload_n 3, 1) := by decide +kernel
theorem dX11_order_37 : decode cX11_order 37 = .ok (.aload_n 0, 1) := by decide +kernel
theorem dX11_order_38 : decode cX11_order 38 = .ok (.getfield 13, 3) := by decide +kernel
theorem dX11_order_41 : decode cX11_order 41 = .ok (.iconst 0, 1) := by decide +kernel
theorem dX11_order_42 : decode cX11_order 42 = .ok (.iaload, 1) := by decide +kernel
theorem dX11_order_43 : decode cX11_order 43 = .ok (.if_icmp .ge 21, 3) := by decide +kernel
theorem dX11_order_46 : decode cX11_order 46 = .ok (.aload_n 0, 1) := by decide +kernel
theorem dX11_order_47 : decode cX11_order 47 = .ok (.getfield 66, 3) := by decide +kernel
theorem dX11_order_50 : decode cX11_order 50 = .ok (.iload_n 3, 1) := by decide +kernel
theorem dX11_order_51 : decode cX11_order 51 = .ok (.aload_n 0, 1) := by decide +kernel
theorem dX11_order_52 : decode cX11_order 52 = .ok (.getfield 48, 3) := by decide +kernel
theorem dX11_order_55 : decode cX11_order 55 = .ok (.iload_n 3, 1) := by decide +kernel
theorem dX11_order_56 : decode cX11_order 56 = .ok (.iaload, 1) := by decide +kernel
theorem dX11_order_57 : decode cX11_order 57 = .ok (.iastore, 1) := by decide +kernel
theorem dX11_order_58 : decode cX11_order 58 = .ok (.iinc 3 1, 3) := by decide +kernel
theorem dX11_order_61 : decode cX11_order 61 = .ok (.goto (-25), 3) := by decide +kernel
theorem dX11_order_64 : decode cX11_order 64 = .ok (.iconst 0, 1) := by decide +kernel
theorem dX11_order_65 : decode cX11_order 65 = .ok (.istore_n 3, 1) := by decide +kernel
theorem dX11_order_66 : decode cX11_order 66 = .ok (.iload_n 3, 1) := by decide +kernel
theorem dX11_order_67 : decode cX11_order 67 = .ok (.aload_n 0, 1) := by decide +kernel
theorem dX11_order_68 : decode cX11_order 68 = .ok (.getfield 13, 3) := by decide +kernel
theorem dX11_order_71 : decode cX11_order 71 = .ok (.iconst 0, 1) := by decide +kernel
theorem dX11_order_72 : decode cX11_order 72 = .ok (.iaload, 1) := by decide +kernel
theorem dX11_order_73 : decode cX11_order 73 = .ok (.if_icmp .ge 54, 3) := by decide +kernel
theorem dX11_order_76 : decode cX11_order 76 = .ok (.iload_n 3, 1) := by decide +kernel
theorem dX11_order_77 : decode cX11_order 77 = .ok (.iconst 1, 1) := by decide +kernel
theorem dX11_order_78 : decode cX11_order 78 = .ok (.iadd, 1) := by decide +kernel
theorem dX11_order_79 : decode cX11_order 79 = .ok (.istore 4, 2) := by decide +kernel
theorem dX11_order_81 : decode cX11_order 81 = .ok (.iload 4, 2) := by decide +kernel
theorem dX11_order_83 : decode cX11_order 83 = .ok (.aload_n 0, 1) := by decide +kernel
theorem dX11_order_84 : decode cX11_order 84 = .ok (.getfield 13, 3) := by decide +kernel
theorem dX11_order_87 : decode cX11_order 87 = .ok (.iconst 0, 1) := by decide +kernel
theorem dX11_order_88 : decode cX11_order 88 = .ok (.iaload, 1) := by decide +kernel
theorem dX11_order_89 : decode cX11_order 89 = .ok (.if_icmp .ge 32, 3) := by decide +kernel
theorem dX11_order_92 : decode cX11_order 92 = .ok (.aload_n 0, 1) := by decide +kernel
theorem dX11_order_93 : decode cX11_order 93 = .ok (.getfield 66, 3) := by decide +kernel
theorem dX11_order_96 : decode cX11_order 96 = .ok (.iload 4, 2) := by decide +kernel
theorem dX11_order_98 : decode cX11_order 98 = .ok (.iaload, 1) := by decide +kernel
theorem dX11_order_99 : decode cX11_order 99 = .ok (.aload_n 0, 1) := by decide +kernel
theorem dX11_order_100 : decode cX11_order 100 = .ok (.getfield 66, 3) := by decide +kernel
theorem dX11_order_103 : decode cX11_order 103 = .ok (.iload_n 3, 1) := by decide +kernel
theorem dX11_order_104 : decode cX11_order 104 = .ok (.iaload, 1) := by decide +kernel
theorem dX11_order_105 : decode cX11_order 105 = .ok (.if_icmp .ge 10, 3) := by decide +kernel
theorem dX11_order_108 : decode cX11_order 108 = .ok (.aload_n 0, 1) := by decide +kernel
theorem dX11_order_109 : decode cX11_order 109 = .ok (.iload_n 3, 1) := by decide +kernel
theorem dX11_order_110 : decode cX11_order 110 = .ok (.iload 4, 2) := by decide +kernel
theorem dX11_order_112 : decode cX11_order 112 = .ok (.invokevirtual 171, 3) := by decide +kernel
theorem dX11_order_115 : decode cX11_order 115 = .ok (.iinc 4 1, 3) := by decide +kernel
theorem dX11_order_118 : decode cX11_order 118 = .ok (.goto (-37), 3) := by decide +kernel
theorem dX11_order_121 : decode cX11_order 121 = .ok (.iinc 3 1, 3) := by decide +kernel
theorem dX11_order_124 : decode cX11_order 124 = .ok (.goto (-58), 3) := by decide +kernel
theorem dX11_order_127 : decode cX11_order 127 = .ok (.iconst (-1), 1) := by decide +kernel
theorem dX11_order_128 : decode cX11_order 128 = .ok (.istore_n 3, 1) := by decide +kernel
theorem dX11_order_129 : decode cX11_order 129 = .ok (.iconst 1, 1) := by decide +kernel
theorem dX11_order_130 : decode cX11_order 130 = .ok (.istore 4, 2) := by decide +kernel
theorem dX11_order_132 : decode cX11_order 132 = .ok (.iload 4, 2) := by decide +kernel
theorem dX11_order_134 : decode cX11_order 134 = .ok (.ifCond .eq 110, 3) := by decide +kernel
theorem dX11_order_137 : decode cX11_order 137 = .ok (.iconst 0, 1) := by decide +kernel
theorem dX11_order_138 : decode cX11_order 138 = .ok (.istore 5, 2) := by decide +kernel
theorem dX11_order_140 : decode cX11_order 140 = .ok (.iload 5, 2) := by decide +kernel
theorem dX11_order_142 : decode cX11_order 142 = .ok (.aload_n 0, 1) := by decide +kernel
theorem dX11_order_143 : decode cX11_order 143 = .ok (.getfield 13, 3) := by decide +kernel
theorem dX11_order_146 : decode cX11_order 146 = .ok (.iconst 0, 1) := by decide +kernel
theorem dX11_order_147 : decode cX11_order 147 = .ok (.iaload, 1) := by decide +kernel
theorem dX11_order_148 : decode cX11_order 148 = .ok (.if_icmp .ge 23, 3) := by decide +kernel
theorem dX11_order_151 : decode cX11_order 151 = .ok (.aload_n 0, 1) := by decide +kernel
theorem dX11_order_152 : decode cX11_order 152 = .ok (.getfield 57, 3) := by decide +kernel
theorem dX11_order_155 : decode cX11_order 155 = .ok (.iload 5, 2) := by decide +kernel
theorem dX11_order_157 : decode cX11_order 157 = .ok (.aload_n 0, 1) := by decide +kernel
theorem dX11_order_158 : decode cX11_order 158 = .ok (.getfield 66, 3) := by decide +kernel
theorem dX11_order_161 : decode cX11_order 161 = .ok (.iload 5, 2) := by decide +kernel
theorem dX11_order_163 : decode cX11_order 163 = .ok (.iaload, 1) := by decide +kernel
theorem dX11_order_164 : decode cX11_order 164 = .ok (.iastore, 1) := by decide +kernel
theorem dX11_order_165 : decode cX11_order 165 = .ok (.iinc 5 1, 3) := by decide +kernel
theorem dX11_order_168 : decode cX11_order 168 = .ok (.goto (-28), 3) := by decide +kernel
theorem dX11_order_171 : decode cX11_order 171 = .ok (.aload_n 0, 1) := by decide +kernel
theorem dX11_order_172 : decode cX11_order 172 = .ok (.aload_n 0, 1) := by decide +kernel
theorem dX11_order_173 : decode cX11_order 173 = .ok (.getfield 23, 3) := by decide +kernel
theorem dX11_order_176 : decode cX11_order 176 = .ok (.iconst 1, 1) := by decide +kernel
theorem dX11_order_177 : decode cX11_order 177 = .ok (.iaload, 1) := by decide +kernel
theorem dX11_order_178 : decode cX11_order 178 = .ok (.aload_n 0, 1) := by decide +kernel
theorem dX11_order_179 : decode cX11_order 179 = .ok (.getfield 136, 3) := by decide +kernel
theorem dX11_order_182 : decode cX11_order 182 = .ok (.iload_n 1, 1) := by decide +kernel
theorem dX11_order_183 : decode cX11_order 183 = .ok (.invokevirtual 166, 3) := by decide +kernel
theorem dX11_order_186 : decode cX11_order 186 = .ok (.istore 5, 2) := by decide +kernel
theorem dX11_order_188 : decode cX11_order 188 = .ok (.iload_n 3, 1) := by decide +kernel
theorem dX11_order_189 : decode cX11_order 189 = .ok (.ifCond .lt 9, 3) := by decide +kernel
theorem dX11_order_192 : decode cX11_order 192 = .ok (.iload 5, 2) := by decide +kernel
theorem dX11_order_194 : decode cX11_order 194 = .ok (.iload_n 3, 1) := by decide +kernel
theorem dX11_order_195 : decode cX11_order 195 = .ok (.if_icmp .ge 40, 3) := by decide +kernel
theorem dX11_order_198 : decode cX11_order 198 = .ok (.iload 5, 2) := by decide +kernel
theorem dX11_order_200 : decode cX11_order 200 = .ok (.istore_n 3, 1) := by decide +kernel
theorem dX11_order_201 : decode cX11_order 201 = .ok (.iconst 0, 1) := by decide +kernel
theorem dX11_order_202 : decode cX11_order 202 = .ok (.istore 6, 2) := by decide +kernel
theorem dX11_order_204 : decode cX11_order 204 = .ok (.iload 6, 2) := by decide +kernel
theorem dX11_order_206 : decode cX11_order 206 = .ok (.aload_n 0, 1) := by decide +kernel
theorem dX11_order_207 : decode cX11_order 207 = .ok (.getfield 13, 3) := by decide +kernel
theorem dX11_order_210 : decode cX11_order 210 = .ok (.iconst 0, 1) := by decide +kernel
theorem dX11_order_211 : decode cX11_order 211 = .ok (.iaload, 1) := by decide +kernel
theorem dX11_order_212 : decode cX11_order 212 = .ok (.if_icmp .ge 23, 3) := by decide +kernel
theorem dX11_order_215 : decode cX11_order 215 = .ok (.aload_n 0, 1) := by decide +kernel
theorem dX11_order_216 : decode cX11_order 216 = .ok (.getfield 69, 3) := by decide +kernel
theorem dX11_order_219 : decode cX11_order 219 = .ok (.iload 6, 2) := by decide +kernel
theorem dX11_order_221 : decode cX11_order 221 = .ok (.aload_n 0, 1) := by decide +kernel
theorem dX11_order_222 : decode cX11_order 222 = .ok (.getfield 66, 3) := by decide +kernel
theorem dX11_order_225 : decode cX11_order 225 = .ok (.iload 6, 2) := by decide +kernel
theorem dX11_order_227 : decode cX11_order 227 = .ok (.iaload, 1) := by decide +kernel
theorem dX11_order_228 : decode cX11_order 228 = .ok (.iastore, 1) := by decide +kernel
theorem dX11_order_229 : decode cX11_order 229 = .ok (.iinc 6 1, 3) := by decide +kernel
theorem dX11_order_232 : decode cX11_order 232 = .ok (.goto (-28), 3) := by decide +kernel
theorem dX11_order_235 : decode cX11_order 235 = .ok (.aload_n 0, 1) := by decide +kernel
theorem dX11_order_236 : decode cX11_order 236 = .ok (.invokevirtual 177, 3) := by decide +kernel
theorem dX11_order_239 : decode cX11_order 239 = .ok (.istore 4, 2) := by decide +kernel
theorem dX11_order_241 : decode cX11_order 241 = .ok (.goto (-109), 3) := by decide +kernel
theorem dX11_order_244 : decode cX11_order 244 = .ok (.iload_n 2, 1) := by decide +kernel
theorem dX11_order_245 : decode cX11_order 245 = .ok (.ifCond .ge 7, 3) := by decide +kernel
theorem dX11_order_248 : decode cX11_order 248 = .ok (.iload_n 3, 1) := by decide +kernel
theorem dX11_order_249 : decode cX11_order 249 = .ok (.goto 9, 3) := by decide +kernel
theorem dX11_order_252 : decode cX11_order 252 = .ok (.aload_n 0, 1) := by decide +kernel
theorem dX11_order_253 : decode cX11_order 253 = .ok (.getfield 69, 3) := by decide +kernel
theorem dX11_order_256 : decode cX11_order 256 = .ok (.iload_n 2, 1) := by decide +kernel
theorem dX11_order_257 : decode cX11_order 257 = .ok (.iaload, 1) := by decide +kernel
theorem dX11_order_258 : decode cX11_order 258 = .ok (.ireturn, 1) := by decide +kernel
theorem dX11_changes_0 : decode cX11_changes 0 = .ok (.aload_n 0, 1) := by decide +kernel
theorem dX11_changes_1 : decode cX11_changes 1 = .ok (.getfield 48, 3) := by decide +kernel
theorem dX11_changes_4 : decode cX11_changes 4 = .ok (.iload_n 1, 1) := by decide +kernel
theorem dX11_changes_5 : decode cX11_changes 5 = .ok (.iaload, 1) := by decide +kernel
theorem dX11_changes_6 : decode cX11_changes 6 = .ok (.istore_n 3, 1) := by decide +kernel
theorem dX11_changes_7 : decode cX11_changes 7 = .ok (.aload_n 0, 1) := by decide +kernel
theorem dX11_changes_8 : decode cX11_changes 8 = .ok (.getfield 48, 3) := by decide +kernel
theorem dX11_changes_11 : decode cX11_changes 11 = .ok (.iload_n 1, 1) := by decide +kernel
theorem dX11_changes_12 : decode cX11_changes 12 = .ok (.aload_n 0, 1) := by decide +kernel
theorem dX11_changes_13 : decode cX11_changes 13 = .ok (.getfield 48, 3) := by decide +kernel
theorem dX11_changes_16 : decode cX11_changes 16 = .ok (.iload_n 2, 1) := by decide +kernel
theorem dX11_changes_17 : decode cX11_changes 17 = .ok (.iaload, 1) := by decide +kernel
theorem dX11_changes_18 : decode cX11_changes 18 = .ok (.iastore, 1) := by decide +kernel
theorem dX11_changes_19 : decode cX11_changes 19 = .ok (.aload_n 0, 1) := by decide +kernel
theorem dX11_changes_20 : decode cX11_changes 20 = .ok (.getfield 48, 3) := by decide +kernel
theorem dX11_changes_23 : decode cX11_changes 23 = .ok (.iload_n 2, 1) := by decide +kernel
theorem dX11_changes_24 : decode cX11_changes 24 = .ok (.iload_n 3, 1) := by decide +kernel
theorem dX11_changes_25 : decode cX11_changes 25 = .ok (.iastore, 1) := by decide +kernel
theorem dX11_changes_26 : decode cX11_changes 26 = .ok (.return_, 1) := by decide +kernel
theorem dX11_lostBy_0 : decode cX11_lostBy 0 = .ok (.aload_n 0, 1) := by decide +kernel
theorem dX11_lostBy_1 : decode cX11_lostBy 1 = .ok (.iload_n 1, 1) := by decide +kernel
theorem dX11_lostBy_2 : decode cX11_lostBy 2 = .ok (.iload_n 2, 1) := by decide +kernel
theorem dX11_lostBy_3 : decode cX11_lostBy 3 = .ok (.invokevirtual 180, 3) := by decide +kernel
theorem dX11_lostBy_6 : decode cX11_lostBy 6 = .ok (.aload_n 0, 1) := by decide +kernel
theorem dX11_lostBy_7 : decode cX11_lostBy 7 = .ok (.invokevirtual 160, 3) := by decide +kernel
theorem dX11_lostBy_10 : decode cX11_lostBy 10 = .ok (.aload_n 0, 1) := by decide +kernel
theorem dX11_lostBy_11 : decode cX11_lostBy 11 = .ok (.aload_n 0, 1) := by decide +kernel
theorem dX11_lostBy_12 : decode cX11_lostBy 12 = .ok (.getfield 23, 3) := by decide +kernel
theorem dX11_lostBy_15 : decode cX11_lostBy 15 = .ok (.iconst 1, 1) := by decide +kernel
theorem dX11_lostBy_16 : decode cX11_lostBy 16 = .ok (.iaload, 1) := by decide +kernel
theorem dX11_lostBy_17 : decode cX11_lostBy 17 = .ok (.aload_n 0, 1) := by decide +kernel
theorem dX11_lostBy_18 : decode cX11_lostBy 18 = .ok (.getfield 136, 3) := by decide +kernel
theorem dX11_lostBy_21 : decode cX11_lostBy 21 = .ok (.invokevirtual 156, 3) := by decide +kernel
theorem dX11_lostBy_24 : decode cX11_lostBy 24 = .ok (.istore 4, 2) := by decide +kernel
theorem dX11_lostBy_26 : decode cX11_lostBy 26 = .ok (.aload_n 0, 1) := by decide +kernel
theorem dX11_lostBy_27 : decode cX11_lostBy 27 = .ok (.iload_n 1, 1) := by decide +kernel
theorem dX11_lostBy_28 : decode cX11_lostBy 28 = .ok (.iload_n 2, 1) := by decide +kernel
theorem dX11_lostBy_29 : decode cX11_lostBy 29 = .ok (.invokevirtual 180, 3) := by decide +kernel
theorem dX11_lostBy_32 : decode cX11_lostBy 32 = .ok (.iload_n 3, 1) := by decide +kernel
theorem dX11_lostBy_33 : decode cX11_lostBy 33 = .ok (.ifCond .ge 8, 3) := by decide +kernel
theorem dX11_lostBy_36 : decode cX11_lostBy 36 = .ok (.iload 4, 2) := by decide +kernel
theorem dX11_lostBy_38 : decode cX11_lostBy 38 = .ok (.goto 9, 3) := by decide +kernel
theorem dX11_lostBy_41 : decode cX11_lostBy 41 = .ok (.aload_n 0, 1) := by decide +kernel
theorem dX11_lostBy_42 : decode cX11_lostBy 42 = .ok (.getfield 63, 3) := by decide +kernel
theorem dX11_lostBy_45 : decode cX11_lostBy 45 = .ok (.iload_n 3, 1) := by decide +kernel
theorem dX11_lostBy_46 : decode cX11_lostBy 46 = .ok (.iaload, 1) := by decide +kernel
theorem dX11_lostBy_47 : decode cX11_lostBy 47 = .ok (.ireturn, 1) := by decide +kernel
theorem dX11_exchanged_0 : decode cX11_exchanged 0 = .ok (.iload_n 1, 1) := by decide +kernel
theorem dX11_exchanged_1 : decode cX11_exchanged 1 = .ok (.i2l, 1) := by decide +kernel
theorem dX11_exchanged_2 : decode cX11_exchanged 2 = .ok (.lconst 0, 1) := by decide +kernel
theorem dX11_exchanged_3 : decode cX11_exchanged 3 = .ok (.lconst 1, 1) := by decide +kernel
theorem dX11_exchanged_4 : decode cX11_exchanged 4 = .ok (.invokestatic 86, 3) := by decide +kernel
theorem dX11_exchanged_7 : decode cX11_exchanged 7 = .ok (.ifCond .ne 5, 3) := by decide +kernel
theorem dX11_exchanged_10 : decode cX11_exchanged 10 = .ok (.iconst (-1), 1) := by decide +kernel
theorem dX11_exchanged_11 : decode cX11_exchanged 11 = .ok (.ireturn, 1) := by decide +kernel
theorem dX11_exchanged_12 : decode cX11_exchanged 12 = .ok (.aload_n 0, 1) := by decide +kernel
theorem dX11_exchanged_13 : decode cX11_exchanged 13 = .ok (.iconst 0, 1) := by decide +kernel
theorem dX11_exchanged_14 : decode cX11_exchanged 14 = .ok (.iconst 0, 1) := by decide +kernel
theorem dX11_exchanged_15 : decode cX11_exchanged 15 = .ok (.iconst (-1), 1) := by decide +kernel
theorem dX11_exchanged_16 : decode cX11_exchanged 16 = .ok (.invokevirtual 183, 3) := by decide +kernel
theorem dX11_exchanged_19 : decode cX11_exchanged 19 = .ok (.istore_n 2, 1) := by decide +kernel
theorem dX11_exchanged_20 : decode cX11_exchanged 20 = .ok (.iconst 0, 1) := by decide +kernel
theorem dX11_exchanged_21 : decode cX11_exchanged 21 = .ok (.istore_n 3, 1) := by decide +kernel
theorem dX11_exchanged_22 : decode cX11_exchanged 22 = .ok (.iload_n 3, 1) := by decide +kernel
theorem dX11_exchanged_23 : decode cX11_exchanged 23 = .ok (.aload_n 0, 1) := by decide +kernel
theorem dX11_exchanged_24 : decode cX11_exchanged 24 = .ok (.getfield 13, 3) := by decide +kernel
theorem dX11_exchanged_27 : decode cX11_exchanged 27 = .ok (.iconst 0, 1) := by decide +kernel
theorem dX11_exchanged_28 : decode cX11_exchanged 28 = .ok (.iaload, 1) := by decide +kernel
theorem dX11_exchanged_29 : decode cX11_exchanged 29 = .ok (.if_icmp .ge 54, 3) := by decide +kernel
theorem dX11_exchanged_32 : decode cX11_exchanged 32 = .ok (.iload_n 3, 1) := by decide +kernel
theorem dX11_exchanged_33 : decode cX11_exchanged 33 = .ok (.iconst 1, 1) := by decide +kernel
theorem dX11_exchanged_34 : decode cX11_exchanged 34 = .ok (.iadd, 1) := by decide +kernel
theorem dX11_exchanged_35 : decode cX11_exchanged 35 = .ok (.istore 4, 2) := by decide +kernel
theorem dX11_exchanged_37 : decode cX11_exchanged 37 = .ok (.iload 4, 2) := by decide +kernel
theorem dX11_exchanged_39 : decode cX11_exchanged 39 = .ok (.aload_n 0, 1) := by decide +kernel
theorem dX11_exchanged_40 : decode cX11_exchanged 40 = .ok (.getfield 13, 3) := by decide +kernel
theorem dX11_exchanged_43 : decode cX11_exchanged 43 = .ok (.iconst 0, 1) := by decide +kernel
theorem dX11_exchanged_44 : decode cX11_exchanged 44 = .ok (.iaload, 1) := by decide +kernel
theorem dX11_exchanged_45 : decode cX11_exchanged 45 = .ok (.if_icmp .ge 32, 3) := by decide +kernel
theorem dX11_exchanged_48 : decode cX11_exchanged 48 = .ok (.aload_n 0, 1) := by decide +kernel
theorem dX11_exchanged_49 : decode cX11_exchanged 49 = .ok (.iload_n 3, 1) := by decide +kernel
theorem dX11_exchanged_50 : decode cX11_exchanged 50 = .ok (.iload 4, 2) := by decide +kernel
theorem dX11_exchanged_52 : decode cX11_exchanged 52 = .ok (.iconst (-1), 1) := by decide +kernel
theorem dX11_exchanged_53 : decode cX11_exchanged 53 = .ok (.invokevirtual 183, 3) := by decide +kernel
theorem dX11_exchanged_56 : decode cX11_exchanged 56 = .ok (.iload_n 2, 1) := by decide +kernel
theorem dX11_exchanged_57 : decode cX11_exchanged 57 = .ok (.if_icmp .ge 14, 3) := by decide +kernel
theorem dX11_exchanged_60 : decode cX11_exchanged 60 = .ok (.iload_n 1, 1) := by decide +kernel
theorem dX11_exchanged_61 : decode cX11_exchanged 61 = .ok (.ifCond .ne 7, 3) := by decide +kernel
theorem dX11_exchanged_64 : decode cX11_exchanged 64 = .ok (.iload_n 3, 1) := by decide +kernel
theorem dX11_exchanged_65 : decode cX11_exchanged 65 = .ok (.goto 5, 3) := by decide +kernel
theorem dX11_exchanged_68 : decode cX11_exchanged 68 = .ok (.iload 4, 2) := by decide +kernel
theorem dX11_exchanged_70 : decode cX11_exchanged 70 = .ok (.ireturn, 1) := by decide +kernel
theorem dX11_exchanged_71 : decode cX11_exchanged 71 = .ok (.iinc 4 1, 3) := by decide +kernel
theorem dX11_exchanged_74 : decode cX11_exchanged 74 = .ok (.goto (-37), 3) := by decide +kernel
theorem dX11_exchanged_77 : decode cX11_exchanged 77 = .ok (.iinc 3 1, 3) := by decide +kernel
theorem dX11_exchanged_80 : decode cX11_exchanged 80 = .ok (.goto (-58), 3) := by decide +kernel
theorem dX11_exchanged_83 : decode cX11_exchanged 83 = .ok (.bipush (-4), 2) := by decide +kernel
theorem dX11_exchanged_85 : decode cX11_exchanged 85 = .ok (.ireturn, 1) := by decide +kernel
theorem dX11_isPoured_0 : decode cX11_isPoured 0 = .ok (.iload_n 1, 1) := by decide +kernel
theorem dX11_isPoured_1 : decode cX11_isPoured 1 = .ok (.ifCond .ne 5, 3) := by decide +kernel
theorem dX11_isPoured_4 : decode cX11_isPoured 4 = .ok (.iconst 1, 1) := by decide +kernel
theorem dX11_isPoured_5 : decode cX11_isPoured 5 = .ok (.ireturn, 1) := by decide +kernel
theorem dX11_isPoured_6 : decode cX11_isPoured 6 = .ok (.iload_n 1, 1) := by decide +kernel
theorem dX11_isPoured_7 : decode cX11_isPoured 7 = .ok (.iconst 1, 1) := by decide +kernel
theorem dX11_isPoured_8 : decode cX11_isPoured 8 = .ok (.isub, 1) := by decide +kernel
theorem dX11_isPoured_9 : decode cX11_isPoured 9 = .ok (.iload_n 2, 1) := by decide +kernel
theorem dX11_isPoured_10 : decode cX11_isPoured 10 = .ok (.idiv, 1) := by decide +kernel
theorem dX11_isPoured_11 : decode cX11_isPoured 11 = .ok (.aload_n 0, 1) := by decide +kernel
theorem dX11_isPoured_12 : decode cX11_isPoured 12 = .ok (.getfield 13, 3) := by decide +kernel
theorem dX11_isPoured_15 : decode cX11_isPoured 15 = .ok (.iconst 0, 1) := by decide +kernel
theorem dX11_isPoured_16 : decode cX11_isPoured 16 = .ok (.iaload, 1) := by decide +kernel
theorem dX11_isPoured_17 : decode cX11_isPoured 17 = .ok (.idiv, 1) := by decide +kernel
theorem dX11_isPoured_18 : decode cX11_isPoured 18 = .ok (.istore_n 3, 1) := by decide +kernel
theorem dX11_isPoured_19 : decode cX11_isPoured 19 = .ok (.iload_n 1, 1) := by decide +kernel
theorem dX11_isPoured_20 : decode cX11_isPoured 20 = .ok (.iconst 1, 1) := by decide +kernel
theorem dX11_isPoured_21 : decode cX11_isPoured 21 = .ok (.isub, 1) := by decide +kernel
theorem dX11_isPoured_22 : decode cX11_isPoured 22 = .ok (.iload_n 2, 1) := by decide +kernel
theorem dX11_isPoured_23 : decode cX11_isPoured 23 = .ok (.idiv, 1) := by decide +kernel
theorem dX11_isPoured_24 : decode cX11_isPoured 24 = .ok (.aload_n 0, 1) := by decide +kernel
theorem dX11_isPoured_25 : decode cX11_isPoured 25 = .ok (.getfield 13, 3) := by decide +kernel
theorem dX11_isPoured_28 : decode cX11_isPoured 28 = .ok (.iconst 0, 1) := by decide +kernel
theorem dX11_isPoured_29 : decode cX11_isPoured 29 = .ok (.iaload, 1) := by decide +kernel
theorem dX11_isPoured_30 : decode cX11_isPoured 30 = .ok (.irem, 1) := by decide +kernel
theorem dX11_isPoured_31 : decode cX11_isPoured 31 = .ok (.istore 4, 2) := by decide +kernel
theorem dX11_isPoured_33 : decode cX11_isPoured 33 = .ok (.iload_n 1, 1) := by decide +kernel
theorem dX11_isPoured_34 : decode cX11_isPoured 34 = .ok (.iconst 1, 1) := by decide +kernel
theorem dX11_isPoured_35 : decode cX11_isPoured 35 = .ok (.isub, 1) := by decide +kernel
theorem dX11_isPoured_36 : decode cX11_isPoured 36 = .ok (.iload_n 2, 1) := by decide +kernel
theorem dX11_isPoured_37 : decode cX11_isPoured 37 = .ok (.irem, 1) := by decide +kernel
theorem dX11_isPoured_38 : decode cX11_isPoured 38 = .ok (.iconst 1, 1) := by decide +kernel
theorem dX11_isPoured_39 : decode cX11_isPoured 39 = .ok (.iadd, 1) := by decide +kernel
theorem dX11_isPoured_40 : decode cX11_isPoured 40 = .ok (.istore 5, 2) := by decide +kernel
theorem dX11_isPoured_42 : decode cX11_isPoured 42 = .ok (.iload_n 3, 1) := by decide +kernel
theorem dX11_isPoured_43 : decode cX11_isPoured 43 = .ok (.iload 4, 2) := by decide +kernel
theorem dX11_isPoured_45 : decode cX11_isPoured 45 = .ok (.if_icmp .eq 30, 3) := by decide +kernel
theorem dX11_isPoured_48 : decode cX11_isPoured 48 = .ok (.aload_n 0, 1) := by decide +kernel
theorem dX11_isPoured_49 : decode cX11_isPoured 49 = .ok (.getfield 57, 3) := by decide +kernel
theorem dX11_isPoured_52 : decode cX11_isPoured 52 = .ok (.iload_n 3, 1) := by decide +kernel
theorem dX11_isPoured_53 : decode cX11_isPoured 53 = .ok (.iaload, 1) := by decide +kernel
theorem dX11_isPoured_54 : decode cX11_isPoured 54 = .ok (.iload 5, 2) := by decide +kernel
theorem dX11_isPoured_56 : decode cX11_isPoured 56 = .ok (.if_icmp .lt 19, 3) := by decide +kernel
theorem dX11_isPoured_59 : decode cX11_isPoured 59 = .ok (.aload_n 0, 1) := by decide +kernel
theorem dX11_isPoured_60 : decode cX11_isPoured 60 = .ok (.getfield 57, 3) := by decide +kernel
theorem dX11_isPoured_63 : decode cX11_isPoured 63 = .ok (.iload 4, 2) := by decide +kernel
theorem dX11_isPoured_65 : decode cX11_isPoured 65 = .ok (.iaload, 1) := by decide +kernel
theorem dX11_isPoured_66 : decode cX11_isPoured 66 = .ok (.iload 5, 2) := by decide +kernel
theorem dX11_isPoured_68 : decode cX11_isPoured 68 = .ok (.iadd, 1) := by decide +kernel
theorem dX11_isPoured_69 : decode cX11_isPoured 69 = .ok (.sipush 199, 3) := by decide +kernel
theorem dX11_isPoured_72 : decode cX11_isPoured 72 = .ok (.if_icmp .le 5, 3) := by decide +kernel
theorem dX11_isPoured_75 : decode cX11_isPoured 75 = .ok (.iconst 0, 1) := by decide +kernel
theorem dX11_isPoured_76 : decode cX11_isPoured 76 = .ok (.ireturn, 1) := by decide +kernel
theorem dX11_isPoured_77 : decode cX11_isPoured 77 = .ok (.aload_n 0, 1) := by decide +kernel
theorem dX11_isPoured_78 : decode cX11_isPoured 78 = .ok (.getfield 57, 3) := by decide +kernel
theorem dX11_isPoured_81 : decode cX11_isPoured 81 = .ok (.iload_n 3, 1) := by decide +kernel
theorem dX11_isPoured_82 : decode cX11_isPoured 82 = .ok (.dup2, 1) := by decide +kernel
theorem dX11_isPoured_83 : decode cX11_isPoured 83 = .ok (.iaload, 1) := by decide +kernel
theorem dX11_isPoured_84 : decode cX11_isPoured 84 = .ok (.iload 5, 2) := by decide +kernel
theorem dX11_isPoured_86 : decode cX11_isPoured 86 = .ok (.isub, 1) := by decide +kernel
theorem dX11_isPoured_87 : decode cX11_isPoured 87 = .ok (.iastore, 1) := by decide +kernel
theorem dX11_isPoured_88 : decode cX11_isPoured 88 = .ok (.aload_n 0, 1) := by decide +kernel
theorem dX11_isPoured_89 : decode cX11_isPoured 89 = .ok (.getfield 57, 3) := by decide +kernel
theorem dX11_isPoured_92 : decode cX11_isPoured 92 = .ok (.iload 4, 2) := by decide +kernel
theorem dX11_isPoured_94 : decode cX11_isPoured 94 = .ok (.dup2, 1) := by decide +kernel
theorem dX11_isPoured_95 : decode cX11_isPoured 95 = .ok (.iaload, 1) := by decide +kernel
theorem dX11_isPoured_96 : decode cX11_isPoured 96 = .ok (.iload 5, 2) := by decide +kernel
theorem dX11_isPoured_98 : decode cX11_isPoured 98 = .ok (.iadd, 1) := by decide +kernel
theorem dX11_isPoured_99 : decode cX11_isPoured 99 = .ok (.iastore, 1) := by decide +kernel
theorem dX11_isPoured_100 : decode cX11_isPoured 100 = .ok (.iconst 1, 1) := by decide +kernel
theorem dX11_isPoured_101 : decode cX11_isPoured 101 = .ok (.ireturn, 1) := by decide +kernel
theorem dX11_pours_0 : decode cX11_pours 0 = .ok (.iload_n 1, 1) := by decide +kernel
theorem dX11_pours_1 : decode cX11_pours 1 = .ok (.i2l, 1) := by decide +kernel
theorem dX11_pours_2 : decode cX11_pours 2 = .ok (.lconst 1, 1) := by decide +kernel
theorem dX11_pours_3 : decode cX11_pours 3 = .ok (.ldc2_w 117, 3) := by decide +kernel
theorem dX11_pours_6 : decode cX11_pours 6 = .ok (.invokestatic 86, 3) := by decide +kernel
theorem dX11_pours_9 : decode cX11_pours 9 = .ok (.ifCond .eq 27, 3) := by decide +kernel
theorem dX11_pours_12 : decode cX11_pours 12 = .ok (.iload_n 2, 1) := by decide +kernel
theorem dX11_pours_13 : decode cX11_pours 13 = .ok (.i2l, 1) := by decide +kernel
theorem dX11_pours_14 : decode cX11_pours 14 = .ok (.lconst 1, 1) := by decide +kernel
theorem dX11_pours_15 : decode cX11_pours 15 = .ok (.ldc2_w 186, 3) := by decide +kernel
theorem dX11_pours_18 : decode cX11_pours 18 = .ok (.invokestatic 86, 3) := by decide +kernel
theorem dX11_pours_21 : decode cX11_pours 21 = .ok (.ifCond .eq 15, 3) := by decide +kernel
theorem dX11_pours_24 : decode cX11_pours 24 = .ok (.iload_n 3, 1) := by decide +kernel
theorem dX11_pours_25 : decode cX11_pours 25 = .ok (.i2l, 1) := by decide +kernel
theorem dX11_pours_26 : decode cX11_pours 26 = .ok (.lconst 0, 1) := by decide +kernel
theorem dX11_pours_27 : decode cX11_pours 27 = .ok (.ldc2_w 101, 3) := by decide +kernel
theorem dX11_pours_30 : decode cX11_pours 30 = .ok (.invokestatic 86, 3) := by decide +kernel
theorem dX11_pours_33 : decode cX11_pours 33 = .ok (.ifCond .ne 5, 3) := by decide +kernel
theorem dX11_pours_36 : decode cX11_pours 36 = .ok (.iconst (-1), 1) := by decide +kernel
theorem dX11_pours_37 : decode cX11_pours 37 = .ok (.ireturn, 1) := by decide +kernel
theorem dX11_pours_38 : decode cX11_pours 38 = .ok (.iconst 1, 1) := by decide +kernel
theorem dX11_pours_39 : decode cX11_pours 39 = .ok (.aload_n 0, 1) := by decide +kernel
theorem dX11_pours_40 : decode cX11_pours 40 = .ok (.getfield 13, 3) := by decide +kernel
theorem dX11_pours_43 : decode cX11_pours 43 = .ok (.iconst 0, 1) := by decide +kernel
theorem dX11_pours_44 : decode cX11_pours 44 = .ok (.iaload, 1) := by decide +kernel
theorem dX11_pours_45 : decode cX11_pours 45 = .ok (.aload_n 0, 1) := by decide +kernel
theorem dX11_pours_46 : decode cX11_pours 46 = .ok (.getfield 13, 3) := by decide +kernel
theorem dX11_pours_49 : decode cX11_pours 49 = .ok (.iconst 0, 1) := by decide +kernel
theorem dX11_pours_50 : decode cX11_pours 50 = .ok (.iaload, 1) := by decide +kernel
theorem dX11_pours_51 : decode cX11_pours 51 = .ok (.imul, 1) := by decide +kernel
theorem dX11_pours_52 : decode cX11_pours 52 = .ok (.iload_n 2, 1) := by decide +kernel
theorem dX11_pours_53 : decode cX11_pours 53 = .ok (.imul, 1) := by decide +kernel
theorem dX11_pours_54 : decode cX11_pours 54 = .ok (.iadd, 1) := by decide +kernel
theorem dX11_pours_55 : decode cX11_pours 55 = .ok (.istore 4, 2) := by decide +kernel
theorem dX11_pours_57 : decode cX11_pours 57 = .ok (.iconst (-1), 1) := by decide +kernel
theorem dX11_pours_58 : decode cX11_pours 58 = .ok (.istore 5, 2) := by decide +kernel
theorem dX11_pours_60 : decode cX11_pours 60 = .ok (.iconst 0, 1) := by decide +kernel
theorem dX11_pours_61 : decode cX11_pours 61 = .ok (.istore 6, 2) := by decide +kernel
theorem dX11_pours_63 : decode cX11_pours 63 = .ok (.iconst 0, 1) := by decide +kernel
theorem dX11_pours_64 : decode cX11_pours 64 = .ok (.istore 7, 2) := by decide +kernel
theorem dX11_pours_66 : decode cX11_pours 66 = .ok (.iload 7, 2) := by decide +kernel
theorem dX11_pours_68 : decode cX11_pours 68 = .ok (.iload 4, 2) := by decide +kernel
theorem dX11_pours_70 : decode cX11_pours 70 = .ok (.if_icmp .ge 146, 3) := by decide +kernel
theorem dX11_pours_73 : decode cX11_pours 73 = .ok (.iconst 0, 1) := by decide +kernel
theorem dX11_pours_74 : decode cX11_pours 74 = .ok (.istore 8, 2) := by decide +kernel
theorem dX11_pours_76 : decode cX11_pours 76 = .ok (.iload 8, 2) := by decide +kernel
theorem dX11_pours_78 : decode cX11_pours 78 = .ok (.iload_n 1, 1) := by decide +kernel
theorem dX11_pours_79 : decode cX11_pours 79 = .ok (.iconst 1, 1) := by decide +kernel
theorem dX11_pours_80 : decode cX11_pours 80 = .ok (.if_icmp .ne 7, 3) := by decide +kernel
theorem dX11_pours_83 : decode cX11_pours 83 = .ok (.iconst 1, 1) := by decide +kernel
theorem dX11_pours_84 : decode cX11_pours 84 = .ok (.goto 5, 3) := by decide +kernel
theorem dX11_pours_87 : decode cX11_pours 87 = .ok (.iload 4, 2) := by decide +kernel
theorem dX11_pours_89 : decode cX11_pours 89 = .ok (.if_icmp .ge 121, 3) := by decide +kernel
theorem dX11_pours_92 : decode cX11_pours 92 = .ok (.aload_n 0, 1) := by decide +kernel
theorem dX11_pours_93 : decode cX11_pours 93 = .ok (.invokevirtual 160, 3) := by decide +kernel
theorem dX11_pours_96 : decode cX11_pours 96 = .ok (.aload_n 0, 1) := by decide +kernel
theorem dX11_pours_97 : decode cX11_pours 97 = .ok (.iload 7, 2) := by decide +kernel
theorem dX11_pours_99 : decode cX11_pours 99 = .ok (.iload_n 2, 1) := by decide +kernel
theorem dX11_pours_100 : decode cX11_pours 100 = .ok (.invokevirtual 188, 3) := by decide +kernel
theorem dX11_pours_103 : decode cX11_pours 103 = .ok (.ifCond .eq 101, 3) := by decide +kernel
theorem dX11_pours_106 : decode cX11_pours 106 = .ok (.aload_n 0, 1) := by decide +kernel
theorem dX11_pours_107 : decode cX11_pours 107 = .ok (.aload_n 0, 1) := by decide +kernel
theorem dX11_pours_108 : decode cX11_pours 108 = .ok (.getfield 23, 3) := by decide +kernel
theorem dX11_pours_111 : decode cX11_pours 111 = .ok (.iconst 1, 1) := by decide +kernel
theorem dX11_pours_112 : decode cX11_pours 112 = .ok (.iaload, 1) := by decide +kernel
theorem dX11_pours_113 : decode cX11_pours 113 = .ok (.aload_n 0, 1) := by decide +kernel
theorem dX11_pours_114 : decode cX11_pours 114 = .ok (.getfield 136, 3) := by decide +kernel
theorem dX11_pours_117 : decode cX11_pours 117 = .ok (.invokevirtual 156, 3) := by decide +kernel
theorem dX11_pours_120 : decode cX11_pours 120 = .ok (.istore 9, 2) := by decide +kernel
theorem dX11_pours_122 : decode cX11_pours 122 = .ok (.iload_n 1, 1) := by decide +kernel
theorem dX11_pours_123 : decode cX11_pours 123 = .ok (.iconst 1, 1) := by decide +kernel
theorem dX11_pours_124 : decode cX11_pours 124 = .ok (.if_icmp .eq 13, 3) := by decide +kernel
theorem dX11_pours_127 : decode cX11_pours 127 = .ok (.aload_n 0, 1) := by decide +kernel
theorem dX11_pours_128 : decode cX11_pours 128 = .ok (.iload 8, 2) := by decide +kernel
theorem dX11_pours_130 : decode cX11_pours 130 = .ok (.iload_n 2, 1) := by decide +kernel
theorem dX11_pours_131 : decode cX11_pours 131 = .ok (.invokevirtual 188, 3) := by decide +kernel
theorem dX11_pours_134 : decode cX11_pours 134 = .ok (.ifCond .eq 7, 3) := by decide +kernel
theorem dX11_pours_137 : decode cX11_pours 137 = .ok (.iconst 1, 1) := by decide +kernel
theorem dX11_pours_138 : decode cX11_pours 138 = .ok (.goto 4, 3) := by decide +kernel
theorem dX11_pours_141 : decode cX11_pours 141 = .ok (.iconst 0, 1) := by decide +kernel
theorem dX11_pours_142 : decode cX11_pours 142 = .ok (.istore 10, 2) := by decide +kernel
theorem dX11_pours_144 : decode cX11_pours 144 = .ok (.iload 9, 2) := by decide +kernel
theorem dX11_pours_146 : decode cX11_pours 146 = .ok (.iload_n 1, 1) := by decide +kernel
theorem dX11_pours_147 : decode cX11_pours 147 = .ok (.iconst 2, 1) := by decide +kernel
theorem dX11_pours_148 : decode cX11_pours 148 = .ok (.if_icmp .ne 27, 3) := by decide +kernel
theorem dX11_pours_151 : decode cX11_pours 151 = .ok (.iload 10, 2) := by decide +kernel
theorem dX11_pours_153 : decode cX11_pours 153 = .ok (.ifCond .eq 22, 3) := by decide +kernel
theorem dX11_pours_156 : decode cX11_pours 156 = .ok (.aload_n 0, 1) := by decide +kernel
theorem dX11_pours_157 : decode cX11_pours 157 = .ok (.aload_n 0, 1) := by decide +kernel
theorem dX11_pours_158 : decode cX11_pours 158 = .ok (.getfield 23, 3) := by decide +kernel
theorem dX11_pours_161 : decode cX11_pours 161 = .ok (.iconst 1, 1) := by decide +kernel
theorem dX11_pours_162 : decode cX11_pours 162 = .ok (.iaload, 1) := by decide +kernel
theorem dX11_pours_163 : decode cX11_pours 163 = .ok (.aload_n 0, 1) := by decide +kernel
theorem dX11_pours_164 : decode cX11_pours 164 = .ok (.getfield 136, 3) := by decide +kernel
theorem dX11_pours_167 : decode cX11_pours 167 = .ok (.iconst 1, 1) := by decide +kernel
theorem dX11_pours_168 : decode cX11_pours 168 = .ok (.iadd, 1) := by decide +kernel
theorem dX11_pours_169 : decode cX11_pours 169 = .ok (.invokevirtual 156, 3) := by decide +kernel
theorem dX11_pours_172 : decode cX11_pours 172 = .ok (.goto 4, 3) := by decide +kernel
theorem dX11_pours_175 : decode cX11_pours 175 = .ok (.iconst 0, 1) := by decide +kernel
theorem dX11_pours_176 : decode cX11_pours 176 = .ok (.iadd, 1) := by decide +kernel
theorem dX11_pours_177 : decode cX11_pours 177 = .ok (.istore 9, 2) := by decide +kernel
theorem dX11_pours_179 : decode cX11_pours 179 = .ok (.iload 10, 2) := by decide +kernel
theorem dX11_pours_181 : decode cX11_pours 181 = .ok (.ifCond .eq 23, 3) := by decide +kernel
theorem dX11_pours_184 : decode cX11_pours 184 = .ok (.iload 5, 2) := by decide +kernel
theorem dX11_pours_186 : decode cX11_pours 186 = .ok (.ifCond .lt 10, 3) := by decide +kernel
theorem dX11_pours_189 : decode cX11_pours 189 = .ok (.iload 9, 2) := by decide +kernel
theorem dX11_pours_191 : decode cX11_pours 191 = .ok (.iload 5, 2) := by decide +kernel
theorem dX11_pours_193 : decode cX11_pours 193 = .ok (.if_icmp .ge 11, 3) := by decide +kernel
theorem dX11_pours_196 : decode cX11_pours 196 = .ok (.iload 9, 2) := by decide +kernel
theorem dX11_pours_198 : decode cX11_pours 198 = .ok (.istore 5, 2) := by decide +kernel
theorem dX11_pours_200 : decode cX11_pours 200 = .ok (.iload 7, 2) := by decide +kernel
theorem dX11_pours_202 : decode cX11_pours 202 = .ok (.istore 6, 2) := by decide +kernel
theorem dX11_pours_204 : decode cX11_pours 204 = .ok (.iinc 8 1, 3) := by decide +kernel
theorem dX11_pours_207 : decode cX11_pours 207 = .ok (.goto (-131), 3) := by decide +kernel
theorem dX11_pours_210 : decode cX11_pours 210 = .ok (.iinc 7 1, 3) := by decide +kernel
theorem dX11_pours_213 : decode cX11_pours 213 = .ok (.goto (-147), 3) := by decide +kernel
theorem dX11_pours_216 : decode cX11_pours 216 = .ok (.aload_n 0, 1) := by decide +kernel
theorem dX11_pours_217 : decode cX11_pours 217 = .ok (.getfield 72, 3) := by decide +kernel
theorem dX11_pours_220 : decode cX11_pours 220 = .ok (.iconst 0, 1) := by decide +kernel
theorem dX11_pours_221 : decode cX11_pours 221 = .ok (.iload 6, 2) := by decide +kernel
theorem dX11_pours_223 : decode cX11_pours 223 = .ok (.ifCond .ne 8, 3) := by decide +kernel
theorem dX11_pours_226 : decode cX11_pours 226 = .ok (.bipush (-4), 2) := by decide +kernel
theorem dX11_pours_228 : decode cX11_pours 228 = .ok (.goto 16, 3) := by decide +kernel
theorem dX11_pours_231 : decode cX11_pours 231 = .ok (.iload 6, 2) := by decide +kernel
theorem dX11_pours_233 : decode cX11_pours 233 = .ok (.iconst 1, 1) := by decide +kernel
theorem dX11_pours_234 : decode cX11_pours 234 = .ok (.isub, 1) := by decide +kernel
theorem dX11_pours_235 : decode cX11_pours 235 = .ok (.iload_n 2, 1) := by decide +kernel
theorem dX11_pours_236 : decode cX11_pours 236 = .ok (.idiv, 1) := by decide +kernel
theorem dX11_pours_237 : decode cX11_pours 237 = .ok (.aload_n 0, 1) := by decide +kernel
theorem dX11_pours_238 : decode cX11_pours 238 = .ok (.getfield 13, 3) := by decide +kernel
theorem dX11_pours_241 : decode cX11_pours 241 = .ok (.iconst 0, 1) := by decide +kernel
theorem dX11_pours_242 : decode cX11_pours 242 = .ok (.iaload, 1) := by decide +kernel
theorem dX11_pours_243 : decode cX11_pours 243 = .ok (.idiv, 1) := by decide +kernel
theorem dX11_pours_244 : decode cX11_pours 244 = .ok (.iastore, 1) := by decide +kernel
theorem dX11_pours_245 : decode cX11_pours 245 = .ok (.aload_n 0, 1) := by decide +kernel
theorem dX11_pours_246 : decode cX11_pours 246 = .ok (.getfield 72, 3) := by decide +kernel
theorem dX11_pours_249 : decode cX11_pours 249 = .ok (.iconst 1, 1) := by decide +kernel
theorem dX11_pours_250 : decode cX11_pours 250 = .ok (.iload 6, 2) := by decide +kernel
theorem dX11_pours_252 : decode cX11_pours 252 = .ok (.ifCond .ne 8, 3) := by decide +kernel
theorem dX11_pours_255 : decode cX11_pours 255 = .ok (.bipush (-4), 2) := by decide +kernel
theorem dX11_pours_257 : decode cX11_pours 257 = .ok (.goto 16, 3) := by decide +kernel
theorem dX11_pours_260 : decode cX11_pours 260 = .ok (.iload 6, 2) := by decide +kernel
theorem dX11_pours_262 : decode cX11_pours 262 = .ok (.iconst 1, 1) := by decide +kernel
theorem dX11_pours_263 : decode cX11_pours 263 = .ok (.isub, 1) := by decide +kernel
theorem dX11_pours_264 : decode cX11_pours 264 = .ok (.iload_n 2, 1) := by decide +kernel
theorem dX11_pours_265 : decode cX11_pours 265 = .ok (.idiv, 1) := by decide +kernel
theorem dX11_pours_266 : decode cX11_pours 266 = .ok (.aload_n 0, 1) := by decide +kernel
theorem dX11_pours_267 : decode cX11_pours 267 = .ok (.getfield 13, 3) := by decide +kernel
theorem dX11_pours_270 : decode cX11_pours 270 = .ok (.iconst 0, 1) := by decide +kernel
theorem dX11_pours_271 : decode cX11_pours 271 = .ok (.iaload, 1) := by decide +kernel
theorem dX11_pours_272 : decode cX11_pours 272 = .ok (.irem, 1) := by decide +kernel
theorem dX11_pours_273 : decode cX11_pours 273 = .ok (.iastore, 1) := by decide +kernel
theorem dX11_pours_274 : decode cX11_pours 274 = .ok (.aload_n 0, 1) := by decide +kernel
theorem dX11_pours_275 : decode cX11_pours 275 = .ok (.getfield 72, 3) := by decide +kernel
theorem dX11_pours_278 : decode cX11_pours 278 = .ok (.iconst 2, 1) := by decide +kernel
theorem dX11_pours_279 : decode cX11_pours 279 = .ok (.iload 6, 2) := by decide +kernel
theorem dX11_pours_281 : decode cX11_pours 281 = .ok (.ifCond .ne 8, 3) := by decide +kernel
