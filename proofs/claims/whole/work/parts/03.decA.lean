theorem dX0_init_0 : decode cX0_init 0 = .ok (.aload_n 0, 1) := by decide +kernel
theorem dX0_init_1 : decode cX0_init 1 = .ok (.invokespecial 3, 3) := by decide +kernel
theorem dX0_init_4 : decode cX0_init 4 = .ok (.aload_n 0, 1) := by decide +kernel
theorem dX0_init_5 : decode cX0_init 5 = .ok (.bipush 8, 2) := by decide +kernel
theorem dX0_init_7 : decode cX0_init 7 = .ok (.newarray .int, 2) := by decide +kernel
theorem dX0_init_9 : decode cX0_init 9 = .ok (.putfield 9, 3) := by decide +kernel
theorem dX0_init_12 : decode cX0_init 12 = .ok (.aload_n 0, 1) := by decide +kernel
theorem dX0_init_13 : decode cX0_init 13 = .ok (.bipush 8, 2) := by decide +kernel
theorem dX0_init_15 : decode cX0_init 15 = .ok (.newarray .int, 2) := by decide +kernel
theorem dX0_init_17 : decode cX0_init 17 = .ok (.putfield 15, 3) := by decide +kernel
theorem dX0_init_20 : decode cX0_init 20 = .ok (.aload_n 0, 1) := by decide +kernel
theorem dX0_init_21 : decode cX0_init 21 = .ok (.iconst 0, 1) := by decide +kernel
theorem dX0_init_22 : decode cX0_init 22 = .ok (.putfield 18, 3) := by decide +kernel
theorem dX0_init_25 : decode cX0_init 25 = .ok (.aload_n 0, 1) := by decide +kernel
theorem dX0_init_26 : decode cX0_init 26 = .ok (.iconst 0, 1) := by decide +kernel
theorem dX0_init_27 : decode cX0_init 27 = .ok (.putfield 22, 3) := by decide +kernel
theorem dX0_init_30 : decode cX0_init 30 = .ok (.aload_n 0, 1) := by decide +kernel
theorem dX0_init_31 : decode cX0_init 31 = .ok (.iconst 0, 1) := by decide +kernel
theorem dX0_init_32 : decode cX0_init 32 = .ok (.putfield 25, 3) := by decide +kernel
theorem dX0_init_35 : decode cX0_init 35 = .ok (.aload_n 0, 1) := by decide +kernel
theorem dX0_init_36 : decode cX0_init 36 = .ok (.iconst 0, 1) := by decide +kernel
theorem dX0_init_37 : decode cX0_init 37 = .ok (.putfield 28, 3) := by decide +kernel
theorem dX0_init_40 : decode cX0_init 40 = .ok (.aload_n 0, 1) := by decide +kernel
theorem dX0_init_41 : decode cX0_init 41 = .ok (.bipush 8, 2) := by decide +kernel
theorem dX0_init_43 : decode cX0_init 43 = .ok (.newarray .int, 2) := by decide +kernel
theorem dX0_init_45 : decode cX0_init 45 = .ok (.putfield 31, 3) := by decide +kernel
theorem dX0_init_48 : decode cX0_init 48 = .ok (.aload_n 0, 1) := by decide +kernel
theorem dX0_init_49 : decode cX0_init 49 = .ok (.bipush 8, 2) := by decide +kernel
theorem dX0_init_51 : decode cX0_init 51 = .ok (.newarray .int, 2) := by decide +kernel
theorem dX0_init_53 : decode cX0_init 53 = .ok (.putfield 34, 3) := by decide +kernel
theorem dX0_init_56 : decode cX0_init 56 = .ok (.aload_n 0, 1) := by decide +kernel
theorem dX0_init_57 : decode cX0_init 57 = .ok (.iconst 0, 1) := by decide +kernel
theorem dX0_init_58 : decode cX0_init 58 = .ok (.putfield 37, 3) := by decide +kernel
theorem dX0_init_61 : decode cX0_init 61 = .ok (.aload_n 0, 1) := by decide +kernel
theorem dX0_init_62 : decode cX0_init 62 = .ok (.iconst 4, 1) := by decide +kernel
theorem dX0_init_63 : decode cX0_init 63 = .ok (.newarray .int, 2) := by decide +kernel
theorem dX0_init_65 : decode cX0_init 65 = .ok (.putfield 40, 3) := by decide +kernel
theorem dX0_init_68 : decode cX0_init 68 = .ok (.aload_n 0, 1) := by decide +kernel
theorem dX0_init_69 : decode cX0_init 69 = .ok (.iconst 4, 1) := by decide +kernel
theorem dX0_init_70 : decode cX0_init 70 = .ok (.newarray .int, 2) := by decide +kernel
theorem dX0_init_72 : decode cX0_init 72 = .ok (.putfield 43, 3) := by decide +kernel
theorem dX0_init_75 : decode cX0_init 75 = .ok (.aload_n 0, 1) := by decide +kernel
theorem dX0_init_76 : decode cX0_init 76 = .ok (.iconst 0, 1) := by decide +kernel
theorem dX0_init_77 : decode cX0_init 77 = .ok (.putfield 46, 3) := by decide +kernel
theorem dX0_init_80 : decode cX0_init 80 = .ok (.aload_n 0, 1) := by decide +kernel
theorem dX0_init_81 : decode cX0_init 81 = .ok (.bipush 10, 2) := by decide +kernel
theorem dX0_init_83 : decode cX0_init 83 = .ok (.newarray .int, 2) := by decide +kernel
theorem dX0_init_85 : decode cX0_init 85 = .ok (.putfield 49, 3) := by decide +kernel
theorem dX0_init_88 : decode cX0_init 88 = .ok (.aload_n 0, 1) := by decide +kernel
theorem dX0_init_89 : decode cX0_init 89 = .ok (.bipush 10, 2) := by decide +kernel
theorem dX0_init_91 : decode cX0_init 91 = .ok (.newarray .int, 2) := by decide +kernel
theorem dX0_init_93 : decode cX0_init 93 = .ok (.putfield 52, 3) := by decide +kernel
theorem dX0_init_96 : decode cX0_init 96 = .ok (.aload_n 0, 1) := by decide +kernel
theorem dX0_init_97 : decode cX0_init 97 = .ok (.bipush 10, 2) := by decide +kernel
theorem dX0_init_99 : decode cX0_init 99 = .ok (.newarray .boolean, 2) := by decide +kernel
theorem dX0_init_101 : decode cX0_init 101 = .ok (.putfield 55, 3) := by decide +kernel
theorem dX0_init_104 : decode cX0_init 104 = .ok (.aload_n 0, 1) := by decide +kernel
theorem dX0_init_105 : decode cX0_init 105 = .ok (.iconst 0, 1) := by decide +kernel
theorem dX0_init_106 : decode cX0_init 106 = .ok (.putfield 59, 3) := by decide +kernel
theorem dX0_init_109 : decode cX0_init 109 = .ok (.return_, 1) := by decide +kernel
theorem dX0_clear_0 : decode cX0_clear 0 = .ok (.aload_n 0, 1) := by decide +kernel
theorem dX0_clear_1 : decode cX0_clear 1 = .ok (.iconst 0, 1) := by decide +kernel
theorem dX0_clear_2 : decode cX0_clear 2 = .ok (.putfield 18, 3) := by decide +kernel
theorem dX0_clear_5 : decode cX0_clear 5 = .ok (.aload_n 0, 1) := by decide +kernel
theorem dX0_clear_6 : decode cX0_clear 6 = .ok (.iconst 0, 1) := by decide +kernel
theorem dX0_clear_7 : decode cX0_clear 7 = .ok (.putfield 22, 3) := by decide +kernel
theorem dX0_clear_10 : decode cX0_clear 10 = .ok (.aload_n 0, 1) := by decide +kernel
theorem dX0_clear_11 : decode cX0_clear 11 = .ok (.iconst 0, 1) := by decide +kernel
theorem dX0_clear_12 : decode cX0_clear 12 = .ok (.putfield 25, 3) := by decide +kernel
theorem dX0_clear_15 : decode cX0_clear 15 = .ok (.aload_n 0, 1) := by decide +kernel
theorem dX0_clear_16 : decode cX0_clear 16 = .ok (.iconst 0, 1) := by decide +kernel
theorem dX0_clear_17 : decode cX0_clear 17 = .ok (.putfield 28, 3) := by decide +kernel
theorem dX0_clear_20 : decode cX0_clear 20 = .ok (.aload_n 0, 1) := by decide +kernel
theorem dX0_clear_21 : decode cX0_clear 21 = .ok (.iconst 0, 1) := by decide +kernel
theorem dX0_clear_22 : decode cX0_clear 22 = .ok (.putfield 37, 3) := by decide +kernel
theorem dX0_clear_25 : decode cX0_clear 25 = .ok (.aload_n 0, 1) := by decide +kernel
theorem dX0_clear_26 : decode cX0_clear 26 = .ok (.iconst 0, 1) := by decide +kernel
theorem dX0_clear_27 : decode cX0_clear 27 = .ok (.putfield 46, 3) := by decide +kernel
theorem dX0_clear_30 : decode cX0_clear 30 = .ok (.aload_n 0, 1) := by decide +kernel
theorem dX0_clear_31 : decode cX0_clear 31 = .ok (.iconst 0, 1) := by decide +kernel
theorem dX0_clear_32 : decode cX0_clear 32 = .ok (.putfield 59, 3) := by decide +kernel
theorem dX0_clear_35 : decode cX0_clear 35 = .ok (.return_, 1) := by decide +kernel
theorem dX0_addBin_0 : decode cX0_addBin 0 = .ok (.aload_n 0, 1) := by decide +kernel
theorem dX0_addBin_1 : decode cX0_addBin 1 = .ok (.getfield 18, 3) := by decide +kernel
theorem dX0_addBin_4 : decode cX0_addBin 4 = .ok (.bipush 8, 2) := by decide +kernel
theorem dX0_addBin_6 : decode cX0_addBin 6 = .ok (.if_icmp .ge 14, 3) := by decide +kernel
theorem dX0_addBin_9 : decode cX0_addBin 9 = .ok (.iload_n 1, 1) := by decide +kernel
theorem dX0_addBin_10 : decode cX0_addBin 10 = .ok (.bipush 99, 2) := by decide +kernel
theorem dX0_addBin_12 : decode cX0_addBin 12 = .ok (.if_icmp .gt 8, 3) := by decide +kernel
theorem dX0_addBin_15 : decode cX0_addBin 15 = .ok (.iload_n 2, 1) := by decide +kernel
theorem dX0_addBin_16 : decode cX0_addBin 16 = .ok (.iconst 1, 1) := by decide +kernel
theorem dX0_addBin_17 : decode cX0_addBin 17 = .ok (.if_icmp .le 5, 3) := by decide +kernel
theorem dX0_addBin_20 : decode cX0_addBin 20 = .ok (.iconst 0, 1) := by decide +kernel
theorem dX0_addBin_21 : decode cX0_addBin 21 = .ok (.ireturn, 1) := by decide +kernel
theorem dX0_addBin_22 : decode cX0_addBin 22 = .ok (.aload_n 0, 1) := by decide +kernel
theorem dX0_addBin_23 : decode cX0_addBin 23 = .ok (.getfield 9, 3) := by decide +kernel
theorem dX0_addBin_26 : decode cX0_addBin 26 = .ok (.aload_n 0, 1) := by decide +kernel
theorem dX0_addBin_27 : decode cX0_addBin 27 = .ok (.getfield 18, 3) := by decide +kernel
theorem dX0_addBin_30 : decode cX0_addBin 30 = .ok (.iload_n 1, 1) := by decide +kernel
theorem dX0_addBin_31 : decode cX0_addBin 31 = .ok (.iastore, 1) := by decide +kernel
theorem dX0_addBin_32 : decode cX0_addBin 32 = .ok (.aload_n 0, 1) := by decide +kernel
theorem dX0_addBin_33 : decode cX0_addBin 33 = .ok (.getfield 15, 3) := by decide +kernel
theorem dX0_addBin_36 : decode cX0_addBin 36 = .ok (.aload_n 0, 1) := by decide +kernel
theorem dX0_addBin_37 : decode cX0_addBin 37 = .ok (.getfield 18, 3) := by decide +kernel
theorem dX0_addBin_40 : decode cX0_addBin 40 = .ok (.iload_n 2, 1) := by decide +kernel
theorem dX0_addBin_41 : decode cX0_addBin 41 = .ok (.iastore, 1) := by decide +kernel
theorem dX0_addBin_42 : decode cX0_addBin 42 = .ok (.aload_n 0, 1) := by decide +kernel
theorem dX0_addBin_43 : decode cX0_addBin 43 = .ok (.dup, 1) := by decide +kernel
theorem dX0_addBin_44 : decode cX0_addBin 44 = .ok (.getfield 18, 3) := by decide +kernel
theorem dX0_addBin_47 : decode cX0_addBin 47 = .ok (.iconst 1, 1) := by decide +kernel
theorem dX0_addBin_48 : decode cX0_addBin 48 = .ok (.iadd, 1) := by decide +kernel
theorem dX0_addBin_49 : decode cX0_addBin 49 = .ok (.putfield 18, 3) := by decide +kernel
theorem dX0_addBin_52 : decode cX0_addBin 52 = .ok (.iconst 1, 1) := by decide +kernel
theorem dX0_addBin_53 : decode cX0_addBin 53 = .ok (.ireturn, 1) := by decide +kernel
theorem dX0_setKind_0 : decode cX0_setKind 0 = .ok (.iload_n 1, 1) := by decide +kernel
theorem dX0_setKind_1 : decode cX0_setKind 1 = .ok (.iconst 2, 1) := by decide +kernel
theorem dX0_setKind_2 : decode cX0_setKind 2 = .ok (.if_icmp .le 5, 3) := by decide +kernel
theorem dX0_setKind_5 : decode cX0_setKind 5 = .ok (.iconst 0, 1) := by decide +kernel
theorem dX0_setKind_6 : decode cX0_setKind 6 = .ok (.ireturn, 1) := by decide +kernel
theorem dX0_setKind_7 : decode cX0_setKind 7 = .ok (.aload_n 0, 1) := by decide +kernel
theorem dX0_setKind_8 : decode cX0_setKind 8 = .ok (.iload_n 1, 1) := by decide +kernel
theorem dX0_setKind_9 : decode cX0_setKind 9 = .ok (.putfield 22, 3) := by decide +kernel
theorem dX0_setKind_12 : decode cX0_setKind 12 = .ok (.iconst 1, 1) := by decide +kernel
theorem dX0_setKind_13 : decode cX0_setKind 13 = .ok (.ireturn, 1) := by decide +kernel
theorem dX0_setRats_0 : decode cX0_setRats 0 = .ok (.iload_n 1, 1) := by decide +kernel
theorem dX0_setRats_1 : decode cX0_setRats 1 = .ok (.iconst 3, 1) := by decide +kernel
theorem dX0_setRats_2 : decode cX0_setRats 2 = .ok (.if_icmp .gt 9, 3) := by decide +kernel
theorem dX0_setRats_5 : decode cX0_setRats 5 = .ok (.iload_n 2, 1) := by decide +kernel
theorem dX0_setRats_6 : decode cX0_setRats 6 = .ok (.bipush 30, 2) := by decide +kernel
theorem dX0_setRats_8 : decode cX0_setRats 8 = .ok (.if_icmp .le 5, 3) := by decide +kernel
theorem dX0_setRats_11 : decode cX0_setRats 11 = .ok (.iconst 0, 1) := by decide +kernel
theorem dX0_setRats_12 : decode cX0_setRats 12 = .ok (.ireturn, 1) := by decide +kernel
theorem dX0_setRats_13 : decode cX0_setRats 13 = .ok (.aload_n 0, 1) := by decide +kernel
theorem dX0_setRats_14 : decode cX0_setRats 14 = .ok (.iload_n 1, 1) := by decide +kernel
theorem dX0_setRats_15 : decode cX0_setRats 15 = .ok (.putfield 25, 3) := by decide +kernel
theorem dX0_setRats_18 : decode cX0_setRats 18 = .ok (.aload_n 0, 1) := by decide +kernel
theorem dX0_setRats_19 : decode cX0_setRats 19 = .ok (.iload_n 2, 1) := by decide +kernel
theorem dX0_setRats_20 : decode cX0_setRats 20 = .ok (.putfield 28, 3) := by decide +kernel
theorem dX0_setRats_23 : decode cX0_setRats 23 = .ok (.iconst 1, 1) := by decide +kernel
theorem dX0_setRats_24 : decode cX0_setRats 24 = .ok (.ireturn, 1) := by decide +kernel
theorem dX0_addWall_0 : decode cX0_addWall 0 = .ok (.aload_n 0, 1) := by decide +kernel
theorem dX0_addWall_1 : decode cX0_addWall 1 = .ok (.getfield 37, 3) := by decide +kernel
theorem dX0_addWall_4 : decode cX0_addWall 4 = .ok (.bipush 8, 2) := by decide +kernel
theorem dX0_addWall_6 : decode cX0_addWall 6 = .ok (.if_icmp .ge 24, 3) := by decide +kernel
theorem dX0_addWall_9 : decode cX0_addWall 9 = .ok (.iload_n 1, 1) := by decide +kernel
theorem dX0_addWall_10 : decode cX0_addWall 10 = .ok (.aload_n 0, 1) := by decide +kernel
theorem dX0_addWall_11 : decode cX0_addWall 11 = .ok (.getfield 18, 3) := by decide +kernel
theorem dX0_addWall_14 : decode cX0_addWall 14 = .ok (.if_icmp .ge 16, 3) := by decide +kernel
theorem dX0_addWall_17 : decode cX0_addWall 17 = .ok (.iload_n 2, 1) := by decide +kernel
theorem dX0_addWall_18 : decode cX0_addWall 18 = .ok (.aload_n 0, 1) := by decide +kernel
theorem dX0_addWall_19 : decode cX0_addWall 19 = .ok (.getfield 18, 3) := by decide +kernel
theorem dX0_addWall_22 : decode cX0_addWall 22 = .ok (.if_icmp .ge 8, 3) := by decide +kernel
theorem dX0_addWall_25 : decode cX0_addWall 25 = .ok (.iload_n 1, 1) := by decide +kernel
theorem dX0_addWall_26 : decode cX0_addWall 26 = .ok (.iload_n 2, 1) := by decide +kernel
theorem dX0_addWall_27 : decode cX0_addWall 27 = .ok (.if_icmp .ne 5, 3) := by decide +kernel
theorem dX0_addWall_30 : decode cX0_addWall 30 = .ok (.iconst 0, 1) := by decide +kernel
theorem dX0_addWall_31 : decode cX0_addWall 31 = .ok (.ireturn, 1) := by decide +kernel
theorem dX0_addWall_32 : decode cX0_addWall 32 = .ok (.aload_n 0, 1) := by decide +kernel
theorem dX0_addWall_33 : decode cX0_addWall 33 = .ok (.getfield 31, 3) := by decide +kernel
theorem dX0_addWall_36 : decode cX0_addWall 36 = .ok (.aload_n 0, 1) := by decide +kernel
theorem dX0_addWall_37 : decode cX0_addWall 37 = .ok (.getfield 37, 3) := by decide +kernel
theorem dX0_addWall_40 : decode cX0_addWall 40 = .ok (.iload_n 1, 1) := by decide +kernel
theorem dX0_addWall_41 : decode cX0_addWall 41 = .ok (.iastore, 1) := by decide +kernel
theorem dX0_addWall_42 : decode cX0_addWall 42 = .ok (.aload_n 0, 1) := by decide +kernel
theorem dX0_addWall_43 : decode cX0_addWall 43 = .ok (.getfield 34, 3) := by decide +kernel
theorem dX0_addWall_46 : decode cX0_addWall 46 = .ok (.aload_n 0, 1) := by decide +kernel
theorem dX0_addWall_47 : decode cX0_addWall 47 = .ok (.getfield 37, 3) := by decide +kernel
theorem dX0_addWall_50 : decode cX0_addWall 50 = .ok (.iload_n 2, 1) := by decide +kernel
theorem dX0_addWall_51 : decode cX0_addWall 51 = .ok (.iastore, 1) := by decide +kernel
theorem dX0_addWall_52 : decode cX0_addWall 52 = .ok (.aload_n 0, 1) := by decide +kernel
theorem dX0_addWall_53 : decode cX0_addWall 53 = .ok (.dup, 1) := by decide +kernel
theorem dX0_addWall_54 : decode cX0_addWall 54 = .ok (.getfield 37, 3) := by decide +kernel
theorem dX0_addWall_57 : decode cX0_addWall 57 = .ok (.iconst 1, 1) := by decide +kernel
theorem dX0_addWall_58 : decode cX0_addWall 58 = .ok (.iadd, 1) := by decide +kernel
theorem dX0_addWall_59 : decode cX0_addWall 59 = .ok (.putfield 37, 3) := by decide +kernel
theorem dX0_addWall_62 : decode cX0_addWall 62 = .ok (.iconst 1, 1) := by decide +kernel
theorem dX0_addWall_63 : decode cX0_addWall 63 = .ok (.ireturn, 1) := by decide +kernel
theorem dX0_addCorn_0 : decode cX0_addCorn 0 = .ok (.aload_n 0, 1) := by decide +kernel
theorem dX0_addCorn_1 : decode cX0_addCorn 1 = .ok (.getfield 46, 3) := by decide +kernel
theorem dX0_addCorn_4 : decode cX0_addCorn 4 = .ok (.iconst 4, 1) := by decide +kernel
theorem dX0_addCorn_5 : decode cX0_addCorn 5 = .ok (.if_icmp .ge 19, 3) := by decide +kernel
theorem dX0_addCorn_8 : decode cX0_addCorn 8 = .ok (.iload_n 1, 1) := by decide +kernel
theorem dX0_addCorn_9 : decode cX0_addCorn 9 = .ok (.bipush 30, 2) := by decide +kernel
theorem dX0_addCorn_11 : decode cX0_addCorn 11 = .ok (.if_icmp .gt 13, 3) := by decide +kernel
theorem dX0_addCorn_14 : decode cX0_addCorn 14 = .ok (.iload_n 2, 1) := by decide +kernel
theorem dX0_addCorn_15 : decode cX0_addCorn 15 = .ok (.iconst 1, 1) := by decide +kernel
theorem dX0_addCorn_16 : decode cX0_addCorn 16 = .ok (.bipush 60, 2) := by decide +kernel
theorem dX0_addCorn_18 : decode cX0_addCorn 18 = .ok (.invokestatic 62, 3) := by decide +kernel
theorem dX0_addCorn_21 : decode cX0_addCorn 21 = .ok (.ifCond .ne 5, 3) := by decide +kernel
theorem dX0_addCorn_24 : decode cX0_addCorn 24 = .ok (.iconst 0, 1) := by decide +kernel
theorem dX0_addCorn_25 : decode cX0_addCorn 25 = .ok (.ireturn, 1) := by decide +kernel
theorem dX0_addCorn_26 : decode cX0_addCorn 26 = .ok (.aload_n 0, 1) := by decide +kernel
theorem dX0_addCorn_27 : decode cX0_addCorn 27 = .ok (.getfield 46, 3) := by decide +kernel
theorem dX0_addCorn_30 : decode cX0_addCorn 30 = .ok (.ifCond .le 20, 3) := by decide +kernel
theorem dX0_addCorn_33 : decode cX0_addCorn 33 = .ok (.iload_n 1, 1) := by decide +kernel
theorem dX0_addCorn_34 : decode cX0_addCorn 34 = .ok (.aload_n 0, 1) := by decide +kernel
theorem dX0_addCorn_35 : decode cX0_addCorn 35 = .ok (.getfield 40, 3) := by decide +kernel
theorem dX0_addCorn_38 : decode cX0_addCorn 38 = .ok (.aload_n 0, 1) := by decide +kernel
theorem dX0_addCorn_39 : decode cX0_addCorn 39 = .ok (.getfield 46, 3) := by decide +kernel
theorem dX0_addCorn_42 : decode cX0_addCorn 42 = .ok (.iconst 1, 1) := by decide +kernel
theorem dX0_addCorn_43 : decode cX0_addCorn 43 = .ok (.isub, 1) := by decide +kernel
theorem dX0_addCorn_44 : decode cX0_addCorn 44 = .ok (.iaload, 1) := by decide +kernel
theorem dX0_addCorn_45 : decode cX0_addCorn 45 = .ok (.if_icmp .ge 5, 3) := by decide +kernel
theorem dX0_addCorn_48 : decode cX0_addCorn 48 = .ok (.iconst 0, 1) := by decide +kernel
theorem dX0_addCorn_49 : decode cX0_addCorn 49 = .ok (.ireturn, 1) := by decide +kernel
theorem dX0_addCorn_50 : decode cX0_addCorn 50 = .ok (.aload_n 0, 1) := by decide +kernel
theorem dX0_addCorn_51 : decode cX0_addCorn 51 = .ok (.getfield 40, 3) := by decide +kernel
theorem dX0_addCorn_54 : decode cX0_addCorn 54 = .ok (.aload_n 0, 1) := by decide +kernel
theorem dX0_addCorn_55 : decode cX0_addCorn 55 = .ok (.getfield 46, 3) := by decide +kernel
theorem dX0_addCorn_58 : decode cX0_addCorn 58 = .ok (.iload_n 1, 1) := by decide +kernel
theorem dX0_addCorn_59 : decode cX0_addCorn 59 = .ok (.iastore, 1) := by decide +kernel
theorem dX0_addCorn_60 : decode cX0_addCorn 60 = .ok (.aload_n 0, 1) := by decide +kernel
theorem dX0_addCorn_61 : decode cX0_addCorn 61 = .ok (.getfield 43, 3) := by decide +kernel
theorem dX0_addCorn_64 : decode cX0_addCorn 64 = .ok (.aload_n 0, 1) := by decide +kernel
theorem dX0_addCorn_65 : decode cX0_addCorn 65 = .ok (.getfield 46, 3) := by decide +kernel
theorem dX0_addCorn_68 : decode cX0_addCorn 68 = .ok (.iload_n 2, 1) := by decide +kernel
theorem dX0_addCorn_69 : decode cX0_addCorn 69 = .ok (.iastore, 1) := by decide +kernel
theorem dX0_addCorn_70 : decode cX0_addCorn 70 = .ok (.aload_n 0, 1) := by decide +kernel
theorem dX0_addCorn_71 : decode cX0_addCorn 71 = .ok (.dup, 1) := by decide +kernel
theorem dX0_addCorn_72 : decode cX0_addCorn 72 = .ok (.getfield 46, 3) := by decide +kernel
theorem dX0_addCorn_75 : decode cX0_addCorn 75 = .ok (.iconst 1, 1) := by decide +kernel
theorem dX0_addCorn_76 : decode cX0_addCorn 76 = .ok (.iadd, 1) := by decide +kernel
theorem dX0_addCorn_77 : decode cX0_addCorn 77 = .ok (.putfield 46, 3) := by decide +kernel
theorem dX0_addCorn_80 : decode cX0_addCorn 80 = .ok (.iconst 1, 1) := by decide +kernel
theorem dX0_addCorn_81 : decode cX0_addCorn 81 = .ok (.ireturn, 1) := by decide +kernel
theorem dX0_joinBins_0 : decode cX0_joinBins 0 = .ok (.aload_n 0, 1) := by decide +kernel
theorem dX0_joinBins_1 : decode cX0_joinBins 1 = .ok (.iconst 0, 1) := by decide +kernel
theorem dX0_joinBins_2 : decode cX0_joinBins 2 = .ok (.putfield 59, 3) := by decide +kernel
theorem dX0_joinBins_5 : decode cX0_joinBins 5 = .ok (.iconst 0, 1) := by decide +kernel
theorem dX0_joinBins_6 : decode cX0_joinBins 6 = .ok (.istore_n 1, 1) := by decide +kernel
theorem dX0_joinBins_7 : decode cX0_joinBins 7 = .ok (.iload_n 1, 1) := by decide +kernel
theorem dX0_joinBins_8 : decode cX0_joinBins 8 = .ok (.aload_n 0, 1) := by decide +kernel
theorem dX0_joinBins_9 : decode cX0_joinBins 9 = .ok (.getfield 18, 3) := by decide +kernel
theorem dX0_joinBins_12 : decode cX0_joinBins 12 = .ok (.if_icmp .ge 90, 3) := by decide +kernel
theorem dX0_joinBins_15 : decode cX0_joinBins 15 = .ok (.iload_n 1, 1) := by decide +kernel
theorem dX0_joinBins_16 : decode cX0_joinBins 16 = .ok (.iconst 1, 1) := by decide +kernel
theorem dX0_joinBins_17 : decode cX0_joinBins 17 = .ok (.iadd, 1) := by decide +kernel
theorem dX0_joinBins_18 : decode cX0_joinBins 18 = .ok (.istore_n 2, 1) := by decide +kernel
theorem dX0_joinBins_19 : decode cX0_joinBins 19 = .ok (.iload_n 2, 1) := by decide +kernel
theorem dX0_joinBins_20 : decode cX0_joinBins 20 = .ok (.aload_n 0, 1) := by decide +kernel
theorem dX0_joinBins_21 : decode cX0_joinBins 21 = .ok (.getfield 18, 3) := by decide +kernel
theorem dX0_joinBins_24 : decode cX0_joinBins 24 = .ok (.if_icmp .ge 72, 3) := by decide +kernel
theorem dX0_joinBins_27 : decode cX0_joinBins 27 = .ok (.aload_n 0, 1) := by decide +kernel
theorem dX0_joinBins_28 : decode cX0_joinBins 28 = .ok (.iload_n 1, 1) := by decide +kernel
theorem dX0_joinBins_29 : decode cX0_joinBins 29 = .ok (.iload_n 2, 1) := by decide +kernel
theorem dX0_joinBins_30 : decode cX0_joinBins 30 = .ok (.invokevirtual 66, 3) := by decide +kernel
theorem dX0_joinBins_33 : decode cX0_joinBins 33 = .ok (.ifCond .eq 57, 3) := by decide +kernel
theorem dX0_joinBins_36 : decode cX0_joinBins 36 = .ok (.aload_n 0, 1) := by decide +kernel
theorem dX0_joinBins_37 : decode cX0_joinBins 37 = .ok (.getfield 59, 3) := by decide +kernel
theorem dX0_joinBins_40 : decode cX0_joinBins 40 = .ok (.bipush 10, 2) := by decide +kernel
theorem dX0_joinBins_42 : decode cX0_joinBins 42 = .ok (.if_icmp .ge 48, 3) := by decide +kernel
theorem dX0_joinBins_45 : decode cX0_joinBins 45 = .ok (.aload_n 0, 1) := by decide +kernel
theorem dX0_joinBins_46 : decode cX0_joinBins 46 = .ok (.getfield 49, 3) := by decide +kernel
theorem dX0_joinBins_49 : decode cX0_joinBins 49 = .ok (.aload_n 0, 1) := by decide +kernel
theorem dX0_joinBins_50 : decode cX0_joinBins 50 = .ok (.getfield 59, 3) := by decide +kernel
theorem dX0_joinBins_53 : decode cX0_joinBins 53 = .ok (.iload_n 1, 1) := by decide +kernel
theorem dX0_joinBins_54 : decode cX0_joinBins 54 = .ok (.iastore, 1) := by decide +kernel
theorem dX0_joinBins_55 : decode cX0_joinBins 55 = .ok (.aload_n 0, 1) := by decide +kernel
theorem dX0_joinBins_56 : decode cX0_joinBins 56 = .ok (.getfield 52, 3) := by decide +kernel
theorem dX0_joinBins_59 : decode cX0_joinBins 59 = .ok (.aload_n 0, 1) := by decide +kernel
theorem dX0_joinBins_60 : decode cX0_joinBins 60 = .ok (.getfield 59, 3) := by decide +kernel
theorem dX0_joinBins_63 : decode cX0_joinBins 63 = .ok (.iload_n 2, 1) := by decide +kernel
theorem dX0_joinBins_64 : decode cX0_joinBins 64 = .ok (.iastore, 1) := by decide +kernel
theorem dX0_joinBins_65 : decode cX0_joinBins 65 = .ok (.aload_n 0, 1) := by decide +kernel
theorem dX0_joinBins_66 : decode cX0_joinBins 66 = .ok (.getfield 55, 3) := by decide +kernel
theorem dX0_joinBins_69 : decode cX0_joinBins 69 = .ok (.aload_n 0, 1) := by decide +kernel
theorem dX0_joinBins_70 : decode cX0_joinBins 70 = .ok (.getfield 59, 3) := by decide +kernel
theorem dX0_joinBins_73 : decode cX0_joinBins 73 = .ok (.aload_n 0, 1) := by decide +kernel
theorem dX0_joinBins_74 : decode cX0_joinBins 74 = .ok (.iload_n 1, 1) := by decide +kernel
theorem dX0_joinBins_75 : decode cX0_joinBins 75 = .ok (.iload_n 2, 1) := by decide +kernel
theorem dX0_joinBins_76 : decode cX0_joinBins 76 = .ok (.invokevirtual 70, 3) := by decide +kernel
theorem dX0_joinBins_79 : decode cX0_joinBins 79 = .ok (.bastore, 1) := by decide +kernel
theorem dX0_joinBins_80 : decode cX0_joinBins 80 = .ok (.aload_n 0, 1) := by decide +kernel
theorem dX0_joinBins_81 : decode cX0_joinBins 81 = .ok (.dup, 1) := by decide +kernel
theorem dX0_joinBins_82 : decode cX0_joinBins 82 = .ok (.getfield 59, 3) := by decide +kernel
theorem dX0_joinBins_85 : decode cX0_joinBins 85 = .ok (.iconst 1, 1) := by decide +kernel
theorem dX0_joinBins_86 : decode cX0_joinBins 86 = .ok (.iadd, 1) := by decide +kernel
theorem dX0_joinBins_87 : decode cX0_joinBins 87 = .ok (.putfield 59, 3) := by decide +kernel
theorem dX0_joinBins_90 : decode cX0_joinBins 90 = .ok (.iinc 2 1, 3) := by decide +kernel
theorem dX0_joinBins_93 : decode cX0_joinBins 93 = .ok (.goto (-74), 3) := by decide +kernel
theorem dX0_joinBins_96 : decode cX0_joinBins 96 = .ok (.iinc 1 1, 3) := by decide +kernel
theorem dX0_joinBins_99 : decode cX0_joinBins 99 = .ok (.goto (-92), 3) := by decide +kernel
theorem dX0_joinBins_102 : decode cX0_joinBins 102 = .ok (.return_, 1) := by decide +kernel
theorem dX0_touch_0 : decode cX0_touch 0 = .ok (.iload_n 2, 1) := by decide +kernel
theorem dX0_touch_1 : decode cX0_touch 1 = .ok (.iload_n 1, 1) := by decide +kernel
theorem dX0_touch_2 : decode cX0_touch 2 = .ok (.iconst 1, 1) := by decide +kernel
theorem dX0_touch_3 : decode cX0_touch 3 = .ok (.iadd, 1) := by decide +kernel
theorem dX0_touch_4 : decode cX0_touch 4 = .ok (.if_icmp .ne 7, 3) := by decide +kernel
theorem dX0_touch_7 : decode cX0_touch 7 = .ok (.iconst 1, 1) := by decide +kernel
theorem dX0_touch_8 : decode cX0_touch 8 = .ok (.goto 4, 3) := by decide +kernel
theorem dX0_touch_11 : decode cX0_touch 11 = .ok (.iconst 0, 1) := by decide +kernel
theorem dX0_touch_12 : decode cX0_touch 12 = .ok (.istore_n 3, 1) := by decide +kernel
theorem dX0_touch_13 : decode cX0_touch 13 = .ok (.aload_n 0, 1) := by decide +kernel
theorem dX0_touch_14 : decode cX0_touch 14 = .ok (.getfield 22, 3) := by decide +kernel
theorem dX0_touch_17 : decode cX0_touch 17 = .ok (.iconst 1, 1) := by decide +kernel
theorem dX0_touch_18 : decode cX0_touch 18 = .ok (.if_icmp .ne 27, 3) := by decide +kernel
theorem dX0_touch_21 : decode cX0_touch 21 = .ok (.iload_n 3, 1) := by decide +kernel
theorem dX0_touch_22 : decode cX0_touch 22 = .ok (.ifCond .ne 17, 3) := by decide +kernel
theorem dX0_touch_25 : decode cX0_touch 25 = .ok (.iload_n 1, 1) := by decide +kernel
theorem dX0_touch_26 : decode cX0_touch 26 = .ok (.ifCond .ne 17, 3) := by decide +kernel
theorem dX0_touch_29 : decode cX0_touch 29 = .ok (.iload_n 2, 1) := by decide +kernel
theorem dX0_touch_30 : decode cX0_touch 30 = .ok (.aload_n 0, 1) := by decide +kernel
theorem dX0_touch_31 : decode cX0_touch 31 = .ok (.getfield 18, 3) := by decide +kernel
theorem dX0_touch_34 : decode cX0_touch 34 = .ok (.iconst 1, 1) := by decide +kernel
theorem dX0_touch_35 : decode cX0_touch 35 = .ok (.isub, 1) := by decide +kernel
theorem dX0_touch_36 : decode cX0_touch 36 = .ok (.if_icmp .ne 7, 3) := by decide +kernel
theorem dX0_touch_39 : decode cX0_touch 39 = .ok (.iconst 1, 1) := by decide +kernel
theorem dX0_touch_40 : decode cX0_touch 40 = .ok (.goto 4, 3) := by decide +kernel
theorem dX0_touch_43 : decode cX0_touch 43 = .ok (.iconst 0, 1) := by decide +kernel
theorem dX0_touch_44 : decode cX0_touch 44 = .ok (.ireturn, 1) := by decide +kernel
theorem dX0_touch_45 : decode cX0_touch 45 = .ok (.aload_n 0, 1) := by decide +kernel
theorem dX0_touch_46 : decode cX0_touch 46 = .ok (.getfield 22, 3) := by decide +kernel
theorem dX0_touch_49 : decode cX0_touch 49 = .ok (.iconst 2, 1) := by decide +kernel
theorem dX0_touch_50 : decode cX0_touch 50 = .ok (.if_icmp .ne 43, 3) := by decide +kernel
theorem dX0_touch_53 : decode cX0_touch 53 = .ok (.aload_n 0, 1) := by decide +kernel
theorem dX0_touch_54 : decode cX0_touch 54 = .ok (.getfield 18, 3) := by decide +kernel
theorem dX0_touch_57 : decode cX0_touch 57 = .ok (.iconst 1, 1) := by decide +kernel
theorem dX0_touch_58 : decode cX0_touch 58 = .ok (.iadd, 1) := by decide +kernel
theorem dX0_touch_59 : decode cX0_touch 59 = .ok (.iconst 2, 1) := by decide +kernel
theorem dX0_touch_60 : decode cX0_touch 60 = .ok (.idiv, 1) := by decide +kernel
theorem dX0_touch_61 : decode cX0_touch 61 = .ok (.istore 4, 2) := by decide +kernel
theorem dX0_touch_63 : decode cX0_touch 63 = .ok (.iload_n 3, 1) := by decide +kernel
theorem dX0_touch_64 : decode cX0_touch 64 = .ok (.ifCond .eq 9, 3) := by decide +kernel
theorem dX0_touch_67 : decode cX0_touch 67 = .ok (.iload_n 2, 1) := by decide +kernel
theorem dX0_touch_68 : decode cX0_touch 68 = .ok (.iload 4, 2) := by decide +kernel
theorem dX0_touch_70 : decode cX0_touch 70 = .ok (.if_icmp .ne 17, 3) := by decide +kernel
theorem dX0_touch_73 : decode cX0_touch 73 = .ok (.iload_n 1, 1) := by decide +kernel
theorem dX0_touch_74 : decode cX0_touch 74 = .ok (.iload 4, 2) := by decide +kernel
theorem dX0_touch_76 : decode cX0_touch 76 = .ok (.if_icmp .ge 15, 3) := by decide +kernel
theorem dX0_touch_79 : decode cX0_touch 79 = .ok (.iload_n 2, 1) := by decide +kernel
theorem dX0_touch_80 : decode cX0_touch 80 = .ok (.iload 4, 2) := by decide +kernel
theorem dX0_touch_82 : decode cX0_touch 82 = .ok (.iload_n 1, 1) := by decide +kernel
theorem dX0_touch_83 : decode cX0_touch 83 = .ok (.iadd, 1) := by decide +kernel
theorem dX0_touch_84 : decode cX0_touch 84 = .ok (.if_icmp .ne 7, 3) := by decide +kernel
theorem dX0_touch_87 : decode cX0_touch 87 = .ok (.iconst 1, 1) := by decide +kernel
theorem dX0_touch_88 : decode cX0_touch 88 = .ok (.goto 4, 3) := by decide +kernel
theorem dX0_touch_91 : decode cX0_touch 91 = .ok (.iconst 0, 1) := by decide +kernel
theorem dX0_touch_92 : decode cX0_touch 92 = .ok (.ireturn, 1) := by decide +kernel
theorem dX0_touch_93 : decode cX0_touch 93 = .ok (.iload_n 3, 1) := by decide +kernel
theorem dX0_touch_94 : decode cX0_touch 94 = .ok (.ireturn, 1) := by decide +kernel
theorem dX0_hasWall_0 : decode cX0_hasWall 0 = .ok (.iconst 0, 1) := by decide +kernel
theorem dX0_hasWall_1 : decode cX0_hasWall 1 = .ok (.istore_n 3, 1) := by decide +kernel
theorem dX0_hasWall_2 : decode cX0_hasWall 2 = .ok (.iload_n 3, 1) := by decide +kernel
theorem dX0_hasWall_3 : decode cX0_hasWall 3 = .ok (.aload_n 0, 1) := by decide +kernel
theorem dX0_hasWall_4 : decode cX0_hasWall 4 = .ok (.getfield 37, 3) := by decide +kernel
theorem dX0_hasWall_7 : decode cX0_hasWall 7 = .ok (.if_icmp .ge 49, 3) := by decide +kernel
theorem dX0_hasWall_10 : decode cX0_hasWall 10 = .ok (.aload_n 0, 1) := by decide +kernel
theorem dX0_hasWall_11 : decode cX0_hasWall 11 = .ok (.getfield 31, 3) := by decide +kernel
theorem dX0_hasWall_14 : decode cX0_hasWall 14 = .ok (.iload_n 3, 1) := by decide +kernel
theorem dX0_hasWall_15 : decode cX0_hasWall 15 = .ok (.iaload, 1) := by decide +kernel
theorem dX0_hasWall_16 : decode cX0_hasWall 16 = .ok (.aload_n 0, 1) := by decide +kernel
theorem dX0_hasWall_17 : decode cX0_hasWall 17 = .ok (.getfield 34, 3) := by decide +kernel
theorem dX0_hasWall_20 : decode cX0_hasWall 20 = .ok (.iload_n 3, 1) := by decide +kernel
theorem dX0_hasWall_21 : decode cX0_hasWall 21 = .ok (.iaload, 1) := by decide +kernel
theorem dX0_hasWall_22 : decode cX0_hasWall 22 = .ok (.invokestatic 73, 3) := by decide +kernel
theorem dX0_hasWall_25 : decode cX0_hasWall 25 = .ok (.iload_n 1, 1) := by decide +kernel
theorem dX0_hasWall_26 : decode cX0_hasWall 26 = .ok (.if_icmp .ne 24, 3) := by decide +kernel
theorem dX0_hasWall_29 : decode cX0_hasWall 29 = .ok (.aload_n 0, 1) := by decide +kernel
theorem dX0_hasWall_30 : decode cX0_hasWall 30 = .ok (.getfield 31, 3) := by decide +kernel
theorem dX0_hasWall_33 : decode cX0_hasWall 33 = .ok (.iload_n 3, 1) := by decide +kernel
theorem dX0_hasWall_34 : decode cX0_hasWall 34 = .ok (.iaload, 1) := by decide +kernel
theorem dX0_hasWall_35 : decode cX0_hasWall 35 = .ok (.aload_n 0, 1) := by decide +kernel
theorem dX0_hasWall_36 : decode cX0_hasWall 36 = .ok (.getfield 34, 3) := by decide +kernel
theorem dX0_hasWall_39 : decode cX0_hasWall 39 = .ok (.iload_n 3, 1) := by decide +kernel
theorem dX0_hasWall_40 : decode cX0_hasWall 40 = .ok (.iaload, 1) := by decide +kernel
theorem dX0_hasWall_41 : decode cX0_hasWall 41 = .ok (.invokestatic 79, 3) := by decide +kernel
theorem dX0_hasWall_44 : decode cX0_hasWall 44 = .ok (.iload_n 2, 1) := by decide +kernel
theorem dX0_hasWall_45 : decode cX0_hasWall 45 = .ok (.if_icmp .ne 5, 3) := by decide +kernel
theorem dX0_hasWall_48 : decode cX0_hasWall 48 = .ok (.iconst 1, 1) := by decide +kernel
theorem dX0_hasWall_49 : decode cX0_hasWall 49 = .ok (.ireturn, 1) := by decide +kernel
theorem dX0_hasWall_50 : decode cX0_hasWall 50 = .ok (.iinc 3 1, 3) := by decide +kernel
theorem dX0_hasWall_53 : decode cX0_hasWall 53 = .ok (.goto (-51), 3) := by decide +kernel
theorem dX0_hasWall_56 : decode cX0_hasWall 56 = .ok (.iconst 0, 1) := by decide +kernel
theorem dX0_hasWall_57 : decode cX0_hasWall 57 = .ok (.ireturn, 1) := by decide +kernel
theorem dX1_init_0 : decode cX1_init 0 = .ok (.aload_n 0, 1) := by decide +kernel
theorem dX1_init_1 : decode cX1_init 1 = .ok (.invokespecial 3, 3) := by decide +kernel
theorem dX1_init_4 : decode cX1_init 4 = .ok (.aload_n 0, 1) := by decide +kernel
theorem dX1_init_5 : decode cX1_init 5 = .ok (.bipush 8, 2) := by decide +kernel
theorem dX1_init_7 : decode cX1_init 7 = .ok (.newarray .int, 2) := by decide +kernel
theorem dX1_init_9 : decode cX1_init 9 = .ok (.putfield 9, 3) := by decide +kernel
theorem dX1_init_12 : decode cX1_init 12 = .ok (.aload_n 0, 1) := by decide +kernel
theorem dX1_init_13 : decode cX1_init 13 = .ok (.bipush 8, 2) := by decide +kernel
theorem dX1_init_15 : decode cX1_init 15 = .ok (.newarray .int, 2) := by decide +kernel
theorem dX1_init_17 : decode cX1_init 17 = .ok (.putfield 15, 3) := by decide +kernel
theorem dX1_init_20 : decode cX1_init 20 = .ok (.aload_n 0, 1) := by decide +kernel
theorem dX1_init_21 : decode cX1_init 21 = .ok (.bipush 8, 2) := by decide +kernel
theorem dX1_init_23 : decode cX1_init 23 = .ok (.newarray .int, 2) := by decide +kernel
theorem dX1_init_25 : decode cX1_init 25 = .ok (.putfield 18, 3) := by decide +kernel
theorem dX1_init_28 : decode cX1_init 28 = .ok (.aload_n 0, 1) := by decide +kernel
theorem dX1_init_29 : decode cX1_init 29 = .ok (.iconst 0, 1) := by decide +kernel
theorem dX1_init_30 : decode cX1_init 30 = .ok (.putfield 21, 3) := by decide +kernel
theorem dX1_init_33 : decode cX1_init 33 = .ok (.aload_n 0, 1) := by decide +kernel
theorem dX1_init_34 : decode cX1_init 34 = .ok (.aload_n 1, 1) := by decide +kernel
theorem dX1_init_35 : decode cX1_init 35 = .ok (.putfield 25, 3) := by decide +kernel
theorem dX1_init_38 : decode cX1_init 38 = .ok (.aload_n 0, 1) := by decide +kernel
theorem dX1_init_39 : decode cX1_init 39 = .ok (.aload_n 2, 1) := by decide +kernel
theorem dX1_init_40 : decode cX1_init 40 = .ok (.putfield 29, 3) := by decide +kernel
theorem dX1_init_43 : decode cX1_init 43 = .ok (.return_, 1) := by decide +kernel
theorem dX1_search_0 : decode cX1_search 0 = .ok (.aload_n 0, 1) := by decide +kernel
theorem dX1_search_1 : decode cX1_search 1 = .ok (.iconst 0, 1) := by decide +kernel
theorem dX1_search_2 : decode cX1_search 2 = .ok (.putfield 21, 3) := by decide +kernel
theorem dX1_search_5 : decode cX1_search 5 = .ok (.aload_n 0, 1) := by decide +kernel
theorem dX1_search_6 : decode cX1_search 6 = .ok (.aload_n 1, 1) := by decide +kernel
theorem dX1_search_7 : decode cX1_search 7 = .ok (.iload_n 2, 1) := by decide +kernel
theorem dX1_search_8 : decode cX1_search 8 = .ok (.invokevirtual 33, 3) := by decide +kernel
theorem dX1_search_11 : decode cX1_search 11 = .ok (.istore 4, 2) := by decide +kernel
theorem dX1_search_13 : decode cX1_search 13 = .ok (.iconst 0, 1) := by decide +kernel
theorem dX1_search_14 : decode cX1_search 14 = .ok (.istore 5, 2) := by decide +kernel
theorem dX1_search_16 : decode cX1_search 16 = .ok (.iload 5, 2) := by decide +kernel
theorem dX1_search_18 : decode cX1_search 18 = .ok (.ldc 37, 2) := by decide +kernel
theorem dX1_search_20 : decode cX1_search 20 = .ok (.if_icmp .ge 59, 3) := by decide +kernel
theorem dX1_search_23 : decode cX1_search 23 = .ok (.iload 4, 2) := by decide +kernel
theorem dX1_search_25 : decode cX1_search 25 = .ok (.ifCond .eq 54, 3) := by decide +kernel
theorem dX1_search_28 : decode cX1_search 28 = .ok (.aload_n 0, 1) := by decide +kernel
theorem dX1_search_29 : decode cX1_search 29 = .ok (.aload_n 1, 1) := by decide +kernel
theorem dX1_search_30 : decode cX1_search 30 = .ok (.iload_n 3, 1) := by decide +kernel
theorem dX1_search_31 : decode cX1_search 31 = .ok (.invokevirtual 38, 3) := by decide +kernel
theorem dX1_search_34 : decode cX1_search 34 = .ok (.ifCond .eq 31, 3) := by decide +kernel
theorem dX1_search_37 : decode cX1_search 37 = .ok (.aload_n 0, 1) := by decide +kernel
theorem dX1_search_38 : decode cX1_search 38 = .ok (.getfield 21, 3) := by decide +kernel
theorem dX1_search_41 : decode cX1_search 41 = .ok (.ifCond .ne 14, 3) := by decide +kernel
theorem dX1_search_44 : decode cX1_search 44 = .ok (.aload_n 0, 1) := by decide +kernel
theorem dX1_search_45 : decode cX1_search 45 = .ok (.getfield 9, 3) := by decide +kernel
theorem dX1_search_48 : decode cX1_search 48 = .ok (.aload_n 0, 1) := by decide +kernel
theorem dX1_search_49 : decode cX1_search 49 = .ok (.getfield 18, 3) := by decide +kernel
theorem dX1_search_52 : decode cX1_search 52 = .ok (.invokestatic 41, 3) := by decide +kernel
theorem dX1_search_55 : decode cX1_search 55 = .ok (.aload_n 0, 1) := by decide +kernel
theorem dX1_search_56 : decode cX1_search 56 = .ok (.dup, 1) := by decide +kernel
theorem dX1_search_57 : decode cX1_search 57 = .ok (.getfield 21, 3) := by decide +kernel
theorem dX1_search_60 : decode cX1_search 60 = .ok (.iconst 1, 1) := by decide +kernel
theorem dX1_search_61 : decode cX1_search 61 = .ok (.iadd, 1) := by decide +kernel
theorem dX1_search_62 : decode cX1_search 62 = .ok (.putfield 21, 3) := by decide +kernel
theorem dX1_search_65 : decode cX1_search 65 = .ok (.aload_n 0, 1) := by decide +kernel
theorem dX1_search_66 : decode cX1_search 66 = .ok (.aload_n 1, 1) := by decide +kernel
theorem dX1_search_67 : decode cX1_search 67 = .ok (.iload_n 2, 1) := by decide +kernel
theorem dX1_search_68 : decode cX1_search 68 = .ok (.invokevirtual 45, 3) := by decide +kernel
theorem dX1_search_71 : decode cX1_search 71 = .ok (.istore 4, 2) := by decide +kernel
theorem dX1_search_73 : decode cX1_search 73 = .ok (.iinc 5 1, 3) := by decide +kernel
theorem dX1_search_76 : decode cX1_search 76 = .ok (.goto (-60), 3) := by decide +kernel
theorem dX1_search_79 : decode cX1_search 79 = .ok (.return_, 1) := by decide +kernel
theorem dX1_startRow_0 : decode cX1_startRow 0 = .ok (.aload_n 1, 1) := by decide +kernel
theorem dX1_startRow_1 : decode cX1_startRow 1 = .ok (.aload_n 0, 1) := by decide +kernel
theorem dX1_startRow_2 : decode cX1_startRow 2 = .ok (.getfield 9, 3) := by decide +kernel
theorem dX1_startRow_5 : decode cX1_startRow 5 = .ok (.invokestatic 41, 3) := by decide +kernel
theorem dX1_startRow_8 : decode cX1_startRow 8 = .ok (.iconst 0, 1) := by decide +kernel
theorem dX1_startRow_9 : decode cX1_startRow 9 = .ok (.istore_n 3, 1) := by decide +kernel
theorem dX1_startRow_10 : decode cX1_startRow 10 = .ok (.iload_n 3, 1) := by decide +kernel
theorem dX1_startRow_11 : decode cX1_startRow 11 = .ok (.aload_n 0, 1) := by decide +kernel
theorem dX1_startRow_12 : decode cX1_startRow 12 = .ok (.getfield 25, 3) := by decide +kernel
theorem dX1_startRow_15 : decode cX1_startRow 15 = .ok (.getfield 48, 3) := by decide +kernel
theorem dX1_startRow_18 : decode cX1_startRow 18 = .ok (.if_icmp .ge 18, 3) := by decide +kernel
theorem dX1_startRow_21 : decode cX1_startRow 21 = .ok (.aload_n 1, 1) := by decide +kernel
theorem dX1_startRow_22 : decode cX1_startRow 22 = .ok (.iload_n 3, 1) := by decide +kernel
theorem dX1_startRow_23 : decode cX1_startRow 23 = .ok (.iaload, 1) := by decide +kernel
theorem dX1_startRow_24 : decode cX1_startRow 24 = .ok (.iload_n 2, 1) := by decide +kernel
theorem dX1_startRow_25 : decode cX1_startRow 25 = .ok (.if_icmp .le 5, 3) := by decide +kernel
theorem dX1_startRow_28 : decode cX1_startRow 28 = .ok (.iconst 0, 1) := by decide +kernel
theorem dX1_startRow_29 : decode cX1_startRow 29 = .ok (.ireturn, 1) := by decide +kernel
theorem dX1_startRow_30 : decode cX1_startRow 30 = .ok (.iinc 3 1, 3) := by decide +kernel
theorem dX1_startRow_33 : decode cX1_startRow 33 = .ok (.goto (-23), 3) := by decide +kernel
theorem dX1_startRow_36 : decode cX1_startRow 36 = .ok (.iconst 1, 1) := by decide +kernel
theorem dX1_startRow_37 : decode cX1_startRow 37 = .ok (.ireturn, 1) := by decide +kernel
theorem dX1_nextRow_0 : decode cX1_nextRow 0 = .ok (.aload_n 0, 1) := by decide +kernel
theorem dX1_nextRow_1 : decode cX1_nextRow 1 = .ok (.getfield 25, 3) := by decide +kernel
theorem dX1_nextRow_4 : decode cX1_nextRow 4 = .ok (.getfield 48, 3) := by decide +kernel
theorem dX1_nextRow_7 : decode cX1_nextRow 7 = .ok (.iconst 1, 1) := by decide +kernel
theorem dX1_nextRow_8 : decode cX1_nextRow 8 = .ok (.isub, 1) := by decide +kernel
theorem dX1_nextRow_9 : decode cX1_nextRow 9 = .ok (.istore_n 3, 1) := by decide +kernel
theorem dX1_nextRow_10 : decode cX1_nextRow 10 = .ok (.iload_n 3, 1) := by decide +kernel
theorem dX1_nextRow_11 : decode cX1_nextRow 11 = .ok (.ifCond .lt 40, 3) := by decide +kernel
theorem dX1_nextRow_14 : decode cX1_nextRow 14 = .ok (.aload_n 0, 1) := by decide +kernel
theorem dX1_nextRow_15 : decode cX1_nextRow 15 = .ok (.getfield 9, 3) := by decide +kernel
theorem dX1_nextRow_18 : decode cX1_nextRow 18 = .ok (.iload_n 3, 1) := by decide +kernel
theorem dX1_nextRow_19 : decode cX1_nextRow 19 = .ok (.iaload, 1) := by decide +kernel
theorem dX1_nextRow_20 : decode cX1_nextRow 20 = .ok (.iload_n 2, 1) := by decide +kernel
theorem dX1_nextRow_21 : decode cX1_nextRow 21 = .ok (.if_icmp .ge 15, 3) := by decide +kernel
theorem dX1_nextRow_24 : decode cX1_nextRow 24 = .ok (.aload_n 0, 1) := by decide +kernel
theorem dX1_nextRow_25 : decode cX1_nextRow 25 = .ok (.getfield 9, 3) := by decide +kernel
theorem dX1_nextRow_28 : decode cX1_nextRow 28 = .ok (.iload_n 3, 1) := by decide +kernel
theorem dX1_nextRow_29 : decode cX1_nextRow 29 = .ok (.dup2, 1) := by decide +kernel
theorem dX1_nextRow_30 : decode cX1_nextRow 30 = .ok (.iaload, 1) := by decide +kernel
theorem dX1_nextRow_31 : decode cX1_nextRow 31 = .ok (.iconst 1, 1) := by decide +kernel
theorem dX1_nextRow_32 : decode cX1_nextRow 32 = .ok (.iadd, 1) := by decide +kernel
theorem dX1_nextRow_33 : decode cX1_nextRow 33 = .ok (.iastore, 1) := by decide +kernel
theorem dX1_nextRow_34 : decode cX1_nextRow 34 = .ok (.iconst 1, 1) := by decide +kernel
theorem dX1_nextRow_35 : decode cX1_nextRow 35 = .ok (.ireturn, 1) := by decide +kernel
theorem dX1_nextRow_36 : decode cX1_nextRow 36 = .ok (.aload_n 0, 1) := by decide +kernel
theorem dX1_nextRow_37 : decode cX1_nextRow 37 = .ok (.getfield 9, 3) := by decide +kernel
theorem dX1_nextRow_40 : decode cX1_nextRow 40 = .ok (.iload_n 3, 1) := by decide +kernel
theorem dX1_nextRow_41 : decode cX1_nextRow 41 = .ok (.aload_n 1, 1) := by decide +kernel
theorem dX1_nextRow_42 : decode cX1_nextRow 42 = .ok (.iload_n 3, 1) := by decide +kernel
theorem dX1_nextRow_43 : decode cX1_nextRow 43 = .ok (.iaload, 1) := by decide +kernel
theorem dX1_nextRow_44 : decode cX1_nextRow 44 = .ok (.iastore, 1) := by decide +kernel
theorem dX1_nextRow_45 : decode cX1_nextRow 45 = .ok (.iinc 3 (-1), 3) := by decide +kernel
theorem dX1_nextRow_48 : decode cX1_nextRow 48 = .ok (.goto (-38), 3) := by decide +kernel
theorem dX1_nextRow_51 : decode cX1_nextRow 51 = .ok (.iconst 0, 1) := by decide +kernel
theorem dX1_nextRow_52 : decode cX1_nextRow 52 = .ok (.ireturn, 1) := by decide +kernel
theorem dX1_becomes_0 : decode cX1_becomes 0 = .ok (.aload_n 0, 1) := by decide +kernel
theorem dX1_becomes_1 : decode cX1_becomes 1 = .ok (.getfield 9, 3) := by decide +kernel
theorem dX1_becomes_4 : decode cX1_becomes 4 = .ok (.aload_n 0, 1) := by decide +kernel
theorem dX1_becomes_5 : decode cX1_becomes 5 = .ok (.getfield 15, 3) := by decide +kernel
theorem dX1_becomes_8 : decode cX1_becomes 8 = .ok (.invokestatic 41, 3) := by decide +kernel
theorem dX1_becomes_11 : decode cX1_becomes 11 = .ok (.aload_n 0, 1) := by decide +kernel
theorem dX1_becomes_12 : decode cX1_becomes 12 = .ok (.getfield 29, 3) := by decide +kernel
theorem dX1_becomes_15 : decode cX1_becomes 15 = .ok (.aload_n 0, 1) := by decide +kernel
theorem dX1_becomes_16 : decode cX1_becomes 16 = .ok (.getfield 25, 3) := by decide +kernel
theorem dX1_becomes_19 : decode cX1_becomes 19 = .ok (.getfield 53, 3) := by decide +kernel
theorem dX1_becomes_22 : decode cX1_becomes 22 = .ok (.aload_n 0, 1) := by decide +kernel
theorem dX1_becomes_23 : decode cX1_becomes 23 = .ok (.getfield 15, 3) := by decide +kernel
theorem dX1_becomes_26 : decode cX1_becomes 26 = .ok (.iload_n 2, 1) := by decide +kernel
theorem dX1_becomes_27 : decode cX1_becomes 27 = .ok (.iconst 1, 1) := by decide +kernel
theorem dX1_becomes_28 : decode cX1_becomes 28 = .ok (.ldc 56, 2) := by decide +kernel
theorem dX1_becomes_30 : decode cX1_becomes 30 = .ok (.invokevirtual 57, 3) := by decide +kernel
theorem dX1_becomes_33 : decode cX1_becomes 33 = .ok (.pop, 1) := by decide +kernel
theorem dX1_becomes_34 : decode cX1_becomes 34 = .ok (.iconst 0, 1) := by decide +kernel
theorem dX1_becomes_35 : decode cX1_becomes 35 = .ok (.istore_n 3, 1) := by decide +kernel
theorem dX1_becomes_36 : decode cX1_becomes 36 = .ok (.iload_n 3, 1) := by decide +kernel
theorem dX1_becomes_37 : decode cX1_becomes 37 = .ok (.aload_n 0, 1) := by decide +kernel
theorem dX1_becomes_38 : decode cX1_becomes 38 = .ok (.getfield 25, 3) := by decide +kernel
theorem dX1_becomes_41 : decode cX1_becomes 41 = .ok (.getfield 48, 3) := by decide +kernel
theorem dX1_becomes_44 : decode cX1_becomes 44 = .ok (.if_icmp .ge 23, 3) := by decide +kernel
theorem dX1_becomes_47 : decode cX1_becomes 47 = .ok (.aload_n 0, 1) := by decide +kernel
theorem dX1_becomes_48 : decode cX1_becomes 48 = .ok (.getfield 15, 3) := by decide +kernel
theorem dX1_becomes_51 : decode cX1_becomes 51 = .ok (.iload_n 3, 1) := by decide +kernel
theorem dX1_becomes_52 : decode cX1_becomes 52 = .ok (.iaload, 1) := by decide +kernel
theorem dX1_becomes_53 : decode cX1_becomes 53 = .ok (.aload_n 1, 1) := by decide +kernel
theorem dX1_becomes_54 : decode cX1_becomes 54 = .ok (.iload_n 3, 1) := by decide +kernel
theorem dX1_becomes_55 : decode cX1_becomes 55 = .ok (.iaload, 1) := by decide +kernel
theorem dX1_becomes_56 : decode cX1_becomes 56 = .ok (.if_icmp .eq 5, 3) := by decide +kernel
theorem dX1_becomes_59 : decode cX1_becomes 59 = .ok (.iconst 0, 1) := by decide +kernel
theorem dX1_becomes_60 : decode cX1_becomes 60 = .ok (.ireturn, 1) := by decide +kernel
theorem dX1_becomes_61 : decode cX1_becomes 61 = .ok (.iinc 3 1, 3) := by decide +kernel
theorem dX1_becomes_64 : decode cX1_becomes 64 = .ok (.goto (-28), 3) := by decide +kernel
theorem dX1_becomes_67 : decode cX1_becomes 67 = .ok (.iconst 1, 1) := by decide +kernel
theorem dX1_becomes_68 : decode cX1_becomes 68 = .ok (.ireturn, 1) := by decide +kernel
theorem dX2_init_0 : decode cX2_init 0 = .ok (.aload_n 0, 1) := by decide +kernel
theorem dX2_init_1 : decode cX2_init 1 = .ok (.invokespecial 3, 3) := by decide +kernel
theorem dX2_init_4 : decode cX2_init 4 = .ok (.aload_n 0, 1) := by decide +kernel
theorem dX2_init_5 : decode cX2_init 5 = .ok (.bipush 8, 2) := by decide +kernel
theorem dX2_init_7 : decode cX2_init 7 = .ok (.newarray .int, 2) := by decide +kernel
theorem dX2_init_9 : decode cX2_init 9 = .ok (.putfield 9, 3) := by decide +kernel
theorem dX2_init_12 : decode cX2_init 12 = .ok (.aload_n 0, 1) := by decide +kernel
theorem dX2_init_13 : decode cX2_init 13 = .ok (.bipush 8, 2) := by decide +kernel
theorem dX2_init_15 : decode cX2_init 15 = .ok (.newarray .int, 2) := by decide +kernel
theorem dX2_init_17 : decode cX2_init 17 = .ok (.putfield 15, 3) := by decide +kernel
theorem dX2_init_20 : decode cX2_init 20 = .ok (.aload_n 0, 1) := by decide +kernel
theorem dX2_init_21 : decode cX2_init 21 = .ok (.iconst 3, 1) := by decide +kernel
theorem dX2_init_22 : decode cX2_init 22 = .ok (.newarray .int, 2) := by decide +kernel
theorem dX2_init_24 : decode cX2_init 24 = .ok (.putfield 18, 3) := by decide +kernel
theorem dX2_init_27 : decode cX2_init 27 = .ok (.aload_n 0, 1) := by decide +kernel
theorem dX2_init_28 : decode cX2_init 28 = .ok (.iconst 3, 1) := by decide +kernel
theorem dX2_init_29 : decode cX2_init 29 = .ok (.newarray .int, 2) := by decide +kernel
theorem dX2_init_31 : decode cX2_init 31 = .ok (.putfield 21, 3) := by decide +kernel
theorem dX2_init_34 : decode cX2_init 34 = .ok (.aload_n 0, 1) := by decide +kernel
theorem dX2_init_35 : decode cX2_init 35 = .ok (.iconst 0, 1) := by decide +kernel
theorem dX2_init_36 : decode cX2_init 36 = .ok (.putfield 24, 3) := by decide +kernel
theorem dX2_init_39 : decode cX2_init 39 = .ok (.aload_n 0, 1) := by decide +kernel
theorem dX2_init_40 : decode cX2_init 40 = .ok (.iconst 0, 1) := by decide +kernel
theorem dX2_init_41 : decode cX2_init 41 = .ok (.putfield 28, 3) := by decide +kernel
theorem dX2_init_44 : decode cX2_init 44 = .ok (.aload_n 0, 1) := by decide +kernel
theorem dX2_init_45 : decode cX2_init 45 = .ok (.iconst 0, 1) := by decide +kernel
theorem dX2_init_46 : decode cX2_init 46 = .ok (.putfield 31, 3) := by decide +kernel
theorem dX2_init_49 : decode cX2_init 49 = .ok (.aload_n 0, 1) := by decide +kernel
theorem dX2_init_50 : decode cX2_init 50 = .ok (.iconst 0, 1) := by decide +kernel
theorem dX2_init_51 : decode cX2_init 51 = .ok (.putfield 34, 3) := by decide +kernel
theorem dX2_init_54 : decode cX2_init 54 = .ok (.aload_n 0, 1) := by decide +kernel
theorem dX2_init_55 : decode cX2_init 55 = .ok (.aload_n 1, 1) := by decide +kernel
theorem dX2_init_56 : decode cX2_init 56 = .ok (.putfield 37, 3) := by decide +kernel
theorem dX2_init_59 : decode cX2_init 59 = .ok (.aload_n 0, 1) := by decide +kernel
theorem dX2_init_60 : decode cX2_init 60 = .ok (.aload_n 2, 1) := by decide +kernel
theorem dX2_init_61 : decode cX2_init 61 = .ok (.putfield 41, 3) := by decide +kernel
theorem dX2_init_64 : decode cX2_init 64 = .ok (.return_, 1) := by decide +kernel
theorem dX2_search_0 : decode cX2_search 0 = .ok (.aload_n 1, 1) := by decide +kernel
theorem dX2_search_1 : decode cX2_search 1 = .ok (.aload_n 0, 1) := by decide +kernel
theorem dX2_search_2 : decode cX2_search 2 = .ok (.getfield 9, 3) := by decide +kernel
theorem dX2_search_5 : decode cX2_search 5 = .ok (.invokestatic 45, 3) := by decide +kernel
theorem dX2_search_8 : decode cX2_search 8 = .ok (.aload_n 0, 1) := by decide +kernel
theorem dX2_search_9 : decode cX2_search 9 = .ok (.iload_n 2, 1) := by decide +kernel
theorem dX2_search_10 : decode cX2_search 10 = .ok (.putfield 28, 3) := by decide +kernel
theorem dX2_search_13 : decode cX2_search 13 = .ok (.aload_n 0, 1) := by decide +kernel
theorem dX2_search_14 : decode cX2_search 14 = .ok (.iload_n 3, 1) := by decide +kernel
theorem dX2_search_15 : decode cX2_search 15 = .ok (.putfield 31, 3) := by decide +kernel
theorem dX2_search_18 : decode cX2_search 18 = .ok (.aload_n 0, 1) := by decide +kernel
theorem dX2_search_19 : decode cX2_search 19 = .ok (.iload 4, 2) := by decide +kernel
theorem dX2_search_21 : decode cX2_search 21 = .ok (.iconst 3, 1) := by decide +kernel
theorem dX2_search_22 : decode cX2_search 22 = .ok (.invokestatic 49, 3) := by decide +kernel
theorem dX2_search_25 : decode cX2_search 25 = .ok (.putfield 34, 3) := by decide +kernel
theorem dX2_search_28 : decode cX2_search 28 = .ok (.aload_n 0, 1) := by decide +kernel
theorem dX2_search_29 : decode cX2_search 29 = .ok (.ldc 55, 2) := by decide +kernel
theorem dX2_search_31 : decode cX2_search 31 = .ok (.putfield 24, 3) := by decide +kernel
theorem dX2_search_34 : decode cX2_search 34 = .ok (.aload_n 0, 1) := by decide +kernel
theorem dX2_search_35 : decode cX2_search 35 = .ok (.iconst 0, 1) := by decide +kernel
theorem dX2_search_36 : decode cX2_search 36 = .ok (.iconst 0, 1) := by decide +kernel
theorem dX2_search_37 : decode cX2_search 37 = .ok (.invokevirtual 56, 3) := by decide +kernel
theorem dX2_search_40 : decode cX2_search 40 = .ok (.aload_n 0, 1) := by decide +kernel
theorem dX2_search_41 : decode cX2_search 41 = .ok (.getfield 24, 3) := by decide +kernel
theorem dX2_search_44 : decode cX2_search 44 = .ok (.ldc 55, 2) := by decide +kernel
theorem dX2_search_46 : decode cX2_search 46 = .ok (.if_icmp .eq 7, 3) := by decide +kernel
theorem dX2_search_49 : decode cX2_search 49 = .ok (.iconst 1, 1) := by decide +kernel
theorem dX2_search_50 : decode cX2_search 50 = .ok (.goto 4, 3) := by decide +kernel
theorem dX2_search_53 : decode cX2_search 53 = .ok (.iconst 0, 1) := by decide +kernel
theorem dX2_search_54 : decode cX2_search 54 = .ok (.ireturn, 1) := by decide +kernel
theorem dX2_choose_0 : decode cX2_choose 0 = .ok (.iload_n 1, 1) := by decide +kernel
theorem dX2_choose_1 : decode cX2_choose 1 = .ok (.aload_n 0, 1) := by decide +kernel
theorem dX2_choose_2 : decode cX2_choose 2 = .ok (.getfield 34, 3) := by decide +kernel
theorem dX2_choose_5 : decode cX2_choose 5 = .ok (.if_icmp .lt 8, 3) := by decide +kernel
theorem dX2_choose_8 : decode cX2_choose 8 = .ok (.aload_n 0, 1) := by decide +kernel
theorem dX2_choose_9 : decode cX2_choose 9 = .ok (.invokevirtual 60, 3) := by decide +kernel
theorem dX2_choose_12 : decode cX2_choose 12 = .ok (.return_, 1) := by decide +kernel
theorem dX2_choose_13 : decode cX2_choose 13 = .ok (.iload_n 2, 1) := by decide +kernel
theorem dX2_choose_14 : decode cX2_choose 14 = .ok (.istore_n 3, 1) := by decide +kernel
theorem dX2_choose_15 : decode cX2_choose 15 = .ok (.iload_n 3, 1) := by decide +kernel
theorem dX2_choose_16 : decode cX2_choose 16 = .ok (.aload_n 0, 1) := by decide +kernel
theorem dX2_choose_17 : decode cX2_choose 17 = .ok (.getfield 37, 3) := by decide +kernel
theorem dX2_choose_20 : decode cX2_choose 20 = .ok (.getfield 63, 3) := by decide +kernel
theorem dX2_choose_23 : decode cX2_choose 23 = .ok (.if_icmp .ge 58, 3) := by decide +kernel
theorem dX2_choose_26 : decode cX2_choose 26 = .ok (.aload_n 0, 1) := by decide +kernel
theorem dX2_choose_27 : decode cX2_choose 27 = .ok (.getfield 37, 3) := by decide +kernel
theorem dX2_choose_30 : decode cX2_choose 30 = .ok (.getfield 68, 3) := by decide +kernel
theorem dX2_choose_33 : decode cX2_choose 33 = .ok (.iload_n 3, 1) := by decide +kernel
theorem dX2_choose_34 : decode cX2_choose 34 = .ok (.baload, 1) := by decide +kernel
theorem dX2_choose_35 : decode cX2_choose 35 = .ok (.ifCond .ne 40, 3) := by decide +kernel
theorem dX2_choose_38 : decode cX2_choose 38 = .ok (.aload_n 0, 1) := by decide +kernel
theorem dX2_choose_39 : decode cX2_choose 39 = .ok (.getfield 18, 3) := by decide +kernel
theorem dX2_choose_42 : decode cX2_choose 42 = .ok (.iload_n 1, 1) := by decide +kernel
theorem dX2_choose_43 : decode cX2_choose 43 = .ok (.iload_n 3, 1) := by decide +kernel
theorem dX2_choose_44 : decode cX2_choose 44 = .ok (.iastore, 1) := by decide +kernel
theorem dX2_choose_45 : decode cX2_choose 45 = .ok (.aload_n 0, 1) := by decide +kernel
theorem dX2_choose_46 : decode cX2_choose 46 = .ok (.getfield 41, 3) := by decide +kernel
theorem dX2_choose_49 : decode cX2_choose 49 = .ok (.getfield 72, 3) := by decide +kernel
theorem dX2_choose_52 : decode cX2_choose 52 = .ok (.iload_n 3, 1) := by decide +kernel
theorem dX2_choose_53 : decode cX2_choose 53 = .ok (.iconst 1, 1) := by decide +kernel
theorem dX2_choose_54 : decode cX2_choose 54 = .ok (.bastore, 1) := by decide +kernel
theorem dX2_choose_55 : decode cX2_choose 55 = .ok (.aload_n 0, 1) := by decide +kernel
theorem dX2_choose_56 : decode cX2_choose 56 = .ok (.iload_n 1, 1) := by decide +kernel
theorem dX2_choose_57 : decode cX2_choose 57 = .ok (.iconst 1, 1) := by decide +kernel
theorem dX2_choose_58 : decode cX2_choose 58 = .ok (.iadd, 1) := by decide +kernel
theorem dX2_choose_59 : decode cX2_choose 59 = .ok (.iload_n 3, 1) := by decide +kernel
theorem dX2_choose_60 : decode cX2_choose 60 = .ok (.iconst 1, 1) := by decide +kernel
theorem dX2_choose_61 : decode cX2_choose 61 = .ok (.iadd, 1) := by decide +kernel
theorem dX2_choose_62 : decode cX2_choose 62 = .ok (.invokevirtual 56, 3) := by decide +kernel
theorem dX2_choose_65 : decode cX2_choose 65 = .ok (.aload_n 0, 1) := by decide +kernel
theorem dX2_choose_66 : decode cX2_choose 66 = .ok (.getfield 41, 3) := by decide +kernel
theorem dX2_choose_69 : decode cX2_choose 69 = .ok (.getfield 72, 3) := by decide +kernel
theorem dX2_choose_72 : decode cX2_choose 72 = .ok (.iload_n 3, 1) := by decide +kernel
theorem dX2_choose_73 : decode cX2_choose 73 = .ok (.iconst 0, 1) := by decide +kernel
theorem dX2_choose_74 : decode cX2_choose 74 = .ok (.bastore, 1) := by decide +kernel
theorem dX2_choose_75 : decode cX2_choose 75 = .ok (.iinc 3 1, 3) := by decide +kernel
theorem dX2_choose_78 : decode cX2_choose 78 = .ok (.goto (-63), 3) := by decide +kernel
theorem dX2_choose_81 : decode cX2_choose 81 = .ok (.return_, 1) := by decide +kernel
theorem dX2_weigh_0 : decode cX2_weigh 0 = .ok (.aload_n 0, 1) := by decide +kernel
theorem dX2_weigh_1 : decode cX2_weigh 1 = .ok (.getfield 9, 3) := by decide +kernel
theorem dX2_weigh_4 : decode cX2_weigh 4 = .ok (.aload_n 0, 1) := by decide +kernel
theorem dX2_weigh_5 : decode cX2_weigh 5 = .ok (.getfield 15, 3) := by decide +kernel
theorem dX2_weigh_8 : decode cX2_weigh 8 = .ok (.invokestatic 45, 3) := by decide +kernel
theorem dX2_weigh_11 : decode cX2_weigh 11 = .ok (.aload_n 0, 1) := by decide +kernel
theorem dX2_weigh_12 : decode cX2_weigh 12 = .ok (.getfield 41, 3) := by decide +kernel
theorem dX2_weigh_15 : decode cX2_weigh 15 = .ok (.aload_n 0, 1) := by decide +kernel
theorem dX2_weigh_16 : decode cX2_weigh 16 = .ok (.getfield 37, 3) := by decide +kernel
theorem dX2_weigh_19 : decode cX2_weigh 19 = .ok (.getfield 77, 3) := by decide +kernel
theorem dX2_weigh_22 : decode cX2_weigh 22 = .ok (.aload_n 0, 1) := by decide +kernel
theorem dX2_weigh_23 : decode cX2_weigh 23 = .ok (.getfield 15, 3) := by decide +kernel
theorem dX2_weigh_26 : decode cX2_weigh 26 = .ok (.aload_n 0, 1) := by decide +kernel
theorem dX2_weigh_27 : decode cX2_weigh 27 = .ok (.getfield 28, 3) := by decide +kernel
theorem dX2_weigh_30 : decode cX2_weigh 30 = .ok (.aload_n 0, 1) := by decide +kernel
theorem dX2_weigh_31 : decode cX2_weigh 31 = .ok (.getfield 31, 3) := by decide +kernel
theorem dX2_weigh_34 : decode cX2_weigh 34 = .ok (.aload_n 0, 1) := by decide +kernel
theorem dX2_weigh_35 : decode cX2_weigh 35 = .ok (.getfield 24, 3) := by decide +kernel
theorem dX2_weigh_38 : decode cX2_weigh 38 = .ok (.invokevirtual 80, 3) := by decide +kernel
theorem dX2_weigh_41 : decode cX2_weigh 41 = .ok (.istore_n 1, 1) := by decide +kernel
theorem dX2_weigh_42 : decode cX2_weigh 42 = .ok (.iload_n 1, 1) := by decide +kernel
theorem dX2_weigh_43 : decode cX2_weigh 43 = .ok (.aload_n 0, 1) := by decide +kernel
theorem dX2_weigh_44 : decode cX2_weigh 44 = .ok (.getfield 24, 3) := by decide +kernel
theorem dX2_weigh_47 : decode cX2_weigh 47 = .ok (.if_icmp .ge 22, 3) := by decide +kernel
theorem dX2_weigh_50 : decode cX2_weigh 50 = .ok (.aload_n 0, 1) := by decide +kernel
theorem dX2_weigh_51 : decode cX2_weigh 51 = .ok (.iload_n 1, 1) := by decide +kernel
theorem dX2_weigh_52 : decode cX2_weigh 52 = .ok (.putfield 24, 3) := by decide +kernel
theorem dX2_weigh_55 : decode cX2_weigh 55 = .ok (.aload_n 0, 1) := by decide +kernel
theorem dX2_weigh_56 : decode cX2_weigh 56 = .ok (.getfield 18, 3) := by decide +kernel
theorem dX2_weigh_59 : decode cX2_weigh 59 = .ok (.iconst 0, 1) := by decide +kernel
theorem dX2_weigh_60 : decode cX2_weigh 60 = .ok (.aload_n 0, 1) := by decide +kernel
theorem dX2_weigh_61 : decode cX2_weigh 61 = .ok (.getfield 21, 3) := by decide +kernel
theorem dX2_weigh_64 : decode cX2_weigh 64 = .ok (.iconst 0, 1) := by decide +kernel
theorem dX2_weigh_65 : decode cX2_weigh 65 = .ok (.iconst 3, 1) := by decide +kernel
theorem dX2_weigh_66 : decode cX2_weigh 66 = .ok (.invokestatic 84, 3) := by decide +kernel
theorem dX2_weigh_69 : decode cX2_weigh 69 = .ok (.return_, 1) := by decide +kernel
theorem dX3_init_0 : decode cX3_init 0 = .ok (.aload_n 0, 1) := by decide +kernel
theorem dX3_init_1 : decode cX3_init 1 = .ok (.invokespecial 3, 3) := by decide +kernel
theorem dX3_init_4 : decode cX3_init 4 = .ok (.aload_n 0, 1) := by decide +kernel
theorem dX3_init_5 : decode cX3_init 5 = .ok (.bipush 8, 2) := by decide +kernel
theorem dX3_init_7 : decode cX3_init 7 = .ok (.newarray .int, 2) := by decide +kernel
theorem dX3_init_9 : decode cX3_init 9 = .ok (.putfield 9, 3) := by decide +kernel
theorem dX3_init_12 : decode cX3_init 12 = .ok (.aload_n 0, 1) := by decide +kernel
theorem dX3_init_13 : decode cX3_init 13 = .ok (.bipush 8, 2) := by decide +kernel
theorem dX3_init_15 : decode cX3_init 15 = .ok (.newarray .int, 2) := by decide +kernel
theorem dX3_init_17 : decode cX3_init 17 = .ok (.putfield 15, 3) := by decide +kernel
theorem dX3_init_20 : decode cX3_init 20 = .ok (.aload_n 0, 1) := by decide +kernel
theorem dX3_init_21 : decode cX3_init 21 = .ok (.iconst 0, 1) := by decide +kernel
theorem dX3_init_22 : decode cX3_init 22 = .ok (.putfield 18, 3) := by decide +kernel
theorem dX3_init_25 : decode cX3_init 25 = .ok (.aload_n 0, 1) := by decide +kernel
theorem dX3_init_26 : decode cX3_init 26 = .ok (.iconst 0, 1) := by decide +kernel
theorem dX3_init_27 : decode cX3_init 27 = .ok (.putfield 22, 3) := by decide +kernel
theorem dX3_init_30 : decode cX3_init 30 = .ok (.aload_n 0, 1) := by decide +kernel
theorem dX3_init_31 : decode cX3_init 31 = .ok (.iconst 0, 1) := by decide +kernel
theorem dX3_init_32 : decode cX3_init 32 = .ok (.putfield 25, 3) := by decide +kernel
theorem dX3_init_35 : decode cX3_init 35 = .ok (.aload_n 0, 1) := by decide +kernel
theorem dX3_init_36 : decode cX3_init 36 = .ok (.aload_n 1, 1) := by decide +kernel
theorem dX3_init_37 : decode cX3_init 37 = .ok (.putfield 28, 3) := by decide +kernel
theorem dX3_init_40 : decode cX3_init 40 = .ok (.aload_n 0, 1) := by decide +kernel
theorem dX3_init_41 : decode cX3_init 41 = .ok (.aload_n 2, 1) := by decide +kernel
theorem dX3_init_42 : decode cX3_init 42 = .ok (.putfield 32, 3) := by decide +kernel
theorem dX3_init_45 : decode cX3_init 45 = .ok (.return_, 1) := by decide +kernel
theorem dX3_findExchange_0 : decode cX3_findExchange 0 = .ok (.aload_n 1, 1) := by decide +kernel
theorem dX3_findExchange_1 : decode cX3_findExchange 1 = .ok (.aload_n 0, 1) := by decide +kernel
theorem dX3_findExchange_2 : decode cX3_findExchange 2 = .ok (.getfield 9, 3) := by decide +kernel
theorem dX3_findExchange_5 : decode cX3_findExchange 5 = .ok (.invokestatic 36, 3) := by decide +kernel
theorem dX3_findExchange_8 : decode cX3_findExchange 8 = .ok (.aload_n 0, 1) := by decide +kernel
theorem dX3_findExchange_9 : decode cX3_findExchange 9 = .ok (.iconst (-1), 1) := by decide +kernel
theorem dX3_findExchange_10 : decode cX3_findExchange 10 = .ok (.iload_n 2, 1) := by decide +kernel
theorem dX3_findExchange_11 : decode cX3_findExchange 11 = .ok (.invokevirtual 40, 3) := by decide +kernel
theorem dX3_findExchange_14 : decode cX3_findExchange 14 = .ok (.istore_n 3, 1) := by decide +kernel
theorem dX3_findExchange_15 : decode cX3_findExchange 15 = .ok (.iconst 0, 1) := by decide +kernel
theorem dX3_findExchange_16 : decode cX3_findExchange 16 = .ok (.istore 4, 2) := by decide +kernel
theorem dX3_findExchange_18 : decode cX3_findExchange 18 = .ok (.iload 4, 2) := by decide +kernel
theorem dX3_findExchange_20 : decode cX3_findExchange 20 = .ok (.aload_n 0, 1) := by decide +kernel
theorem dX3_findExchange_21 : decode cX3_findExchange 21 = .ok (.getfield 28, 3) := by decide +kernel
theorem dX3_findExchange_24 : decode cX3_findExchange 24 = .ok (.getfield 44, 3) := by decide +kernel
theorem dX3_findExchange_27 : decode cX3_findExchange 27 = .ok (.if_icmp .ge 83, 3) := by decide +kernel
theorem dX3_findExchange_30 : decode cX3_findExchange 30 = .ok (.iload 4, 2) := by decide +kernel
theorem dX3_findExchange_32 : decode cX3_findExchange 32 = .ok (.iconst 1, 1) := by decide +kernel
theorem dX3_findExchange_33 : decode cX3_findExchange 33 = .ok (.iadd, 1) := by decide +kernel
theorem dX3_findExchange_34 : decode cX3_findExchange 34 = .ok (.istore 5, 2) := by decide +kernel
theorem dX3_findExchange_36 : decode cX3_findExchange 36 = .ok (.iload 5, 2) := by decide +kernel
theorem dX3_findExchange_38 : decode cX3_findExchange 38 = .ok (.aload_n 0, 1) := by decide +kernel
theorem dX3_findExchange_39 : decode cX3_findExchange 39 = .ok (.getfield 28, 3) := by decide +kernel
theorem dX3_findExchange_42 : decode cX3_findExchange 42 = .ok (.getfield 44, 3) := by decide +kernel
theorem dX3_findExchange_45 : decode cX3_findExchange 45 = .ok (.if_icmp .ge 59, 3) := by decide +kernel
theorem dX3_findExchange_48 : decode cX3_findExchange 48 = .ok (.aload_n 0, 1) := by decide +kernel
theorem dX3_findExchange_49 : decode cX3_findExchange 49 = .ok (.getfield 9, 3) := by decide +kernel
theorem dX3_findExchange_52 : decode cX3_findExchange 52 = .ok (.iload 4, 2) := by decide +kernel
theorem dX3_findExchange_54 : decode cX3_findExchange 54 = .ok (.iload 5, 2) := by decide +kernel
theorem dX3_findExchange_56 : decode cX3_findExchange 56 = .ok (.invokestatic 49, 3) := by decide +kernel
theorem dX3_findExchange_59 : decode cX3_findExchange 59 = .ok (.aload_n 0, 1) := by decide +kernel
theorem dX3_findExchange_60 : decode cX3_findExchange 60 = .ok (.iconst (-1), 1) := by decide +kernel
theorem dX3_findExchange_61 : decode cX3_findExchange 61 = .ok (.iload_n 2, 1) := by decide +kernel
theorem dX3_findExchange_62 : decode cX3_findExchange 62 = .ok (.invokevirtual 40, 3) := by decide +kernel
theorem dX3_findExchange_65 : decode cX3_findExchange 65 = .ok (.istore 6, 2) := by decide +kernel
theorem dX3_findExchange_67 : decode cX3_findExchange 67 = .ok (.aload_n 0, 1) := by decide +kernel
theorem dX3_findExchange_68 : decode cX3_findExchange 68 = .ok (.getfield 9, 3) := by decide +kernel
theorem dX3_findExchange_71 : decode cX3_findExchange 71 = .ok (.iload 4, 2) := by decide +kernel
theorem dX3_findExchange_73 : decode cX3_findExchange 73 = .ok (.iload 5, 2) := by decide +kernel
theorem dX3_findExchange_75 : decode cX3_findExchange 75 = .ok (.invokestatic 49, 3) := by decide +kernel
theorem dX3_findExchange_78 : decode cX3_findExchange 78 = .ok (.iload 6, 2) := by decide +kernel
theorem dX3_findExchange_80 : decode cX3_findExchange 80 = .ok (.iload_n 3, 1) := by decide +kernel
theorem dX3_findExchange_81 : decode cX3_findExchange 81 = .ok (.if_icmp .ge 17, 3) := by decide +kernel
theorem dX3_findExchange_84 : decode cX3_findExchange 84 = .ok (.aload_n 0, 1) := by decide +kernel
theorem dX3_findExchange_85 : decode cX3_findExchange 85 = .ok (.iload 4, 2) := by decide +kernel
theorem dX3_findExchange_87 : decode cX3_findExchange 87 = .ok (.putfield 18, 3) := by decide +kernel
theorem dX3_findExchange_90 : decode cX3_findExchange 90 = .ok (.aload_n 0, 1) := by decide +kernel
theorem dX3_findExchange_91 : decode cX3_findExchange 91 = .ok (.iload 5, 2) := by decide +kernel
theorem dX3_findExchange_93 : decode cX3_findExchange 93 = .ok (.putfield 22, 3) := by decide +kernel
theorem dX3_findExchange_96 : decode cX3_findExchange 96 = .ok (.iconst 1, 1) := by decide +kernel
theorem dX3_findExchange_97 : decode cX3_findExchange 97 = .ok (.ireturn, 1) := by decide +kernel
theorem dX3_findExchange_98 : decode cX3_findExchange 98 = .ok (.iinc 5 1, 3) := by decide +kernel
theorem dX3_findExchange_101 : decode cX3_findExchange 101 = .ok (.goto (-65), 3) := by decide +kernel
theorem dX3_findExchange_104 : decode cX3_findExchange 104 = .ok (.iinc 4 1, 3) := by decide +kernel
theorem dX3_findExchange_107 : decode cX3_findExchange 107 = .ok (.goto (-89), 3) := by decide +kernel
theorem dX3_findExchange_110 : decode cX3_findExchange 110 = .ok (.iconst 0, 1) := by decide +kernel
theorem dX3_findExchange_111 : decode cX3_findExchange 111 = .ok (.ireturn, 1) := by decide +kernel
theorem dX3_settle_0 : decode cX3_settle 0 = .ok (.aload_n 1, 1) := by decide +kernel
theorem dX3_settle_1 : decode cX3_settle 1 = .ok (.aload_n 0, 1) := by decide +kernel
theorem dX3_settle_2 : decode cX3_settle 2 = .ok (.getfield 9, 3) := by decide +kernel
theorem dX3_settle_5 : decode cX3_settle 5 = .ok (.invokestatic 36, 3) := by decide +kernel
theorem dX3_settle_8 : decode cX3_settle 8 = .ok (.aload_n 0, 1) := by decide +kernel
theorem dX3_settle_9 : decode cX3_settle 9 = .ok (.iconst 0, 1) := by decide +kernel
theorem dX3_settle_10 : decode cX3_settle 10 = .ok (.putfield 25, 3) := by decide +kernel
theorem dX3_settle_13 : decode cX3_settle 13 = .ok (.iconst 0, 1) := by decide +kernel
theorem dX3_settle_14 : decode cX3_settle 14 = .ok (.istore_n 3, 1) := by decide +kernel
theorem dX3_settle_15 : decode cX3_settle 15 = .ok (.iconst 0, 1) := by decide +kernel
theorem dX3_settle_16 : decode cX3_settle 16 = .ok (.istore 4, 2) := by decide +kernel
theorem dX3_settle_18 : decode cX3_settle 18 = .ok (.iload 4, 2) := by decide +kernel
theorem dX3_settle_20 : decode cX3_settle 20 = .ok (.bipush 82, 2) := by decide +kernel
theorem dX3_settle_22 : decode cX3_settle 22 = .ok (.if_icmp .ge 53, 3) := by decide +kernel
theorem dX3_settle_25 : decode cX3_settle 25 = .ok (.iload_n 3, 1) := by decide +kernel
theorem dX3_settle_26 : decode cX3_settle 26 = .ok (.iconst 2, 1) := by decide +kernel
theorem dX3_settle_27 : decode cX3_settle 27 = .ok (.if_icmp .ge 48, 3) := by decide +kernel
theorem dX3_settle_30 : decode cX3_settle 30 = .ok (.aload_n 0, 1) := by decide +kernel
theorem dX3_settle_31 : decode cX3_settle 31 = .ok (.getfield 25, 3) := by decide +kernel
theorem dX3_settle_34 : decode cX3_settle 34 = .ok (.bipush 40, 2) := by decide +kernel
theorem dX3_settle_36 : decode cX3_settle 36 = .ok (.if_icmp .ge 39, 3) := by decide +kernel
theorem dX3_settle_39 : decode cX3_settle 39 = .ok (.aload_n 0, 1) := by decide +kernel
theorem dX3_settle_40 : decode cX3_settle 40 = .ok (.iload 4, 2) := by decide +kernel
theorem dX3_settle_42 : decode cX3_settle 42 = .ok (.iconst 2, 1) := by decide +kernel
theorem dX3_settle_43 : decode cX3_settle 43 = .ok (.irem, 1) := by decide +kernel
theorem dX3_settle_44 : decode cX3_settle 44 = .ok (.iload_n 2, 1) := by decide +kernel
theorem dX3_settle_45 : decode cX3_settle 45 = .ok (.invokevirtual 53, 3) := by decide +kernel
theorem dX3_settle_48 : decode cX3_settle 48 = .ok (.ifCond .eq 18, 3) := by decide +kernel
theorem dX3_settle_51 : decode cX3_settle 51 = .ok (.aload_n 0, 1) := by decide +kernel
theorem dX3_settle_52 : decode cX3_settle 52 = .ok (.dup, 1) := by decide +kernel
theorem dX3_settle_53 : decode cX3_settle 53 = .ok (.getfield 25, 3) := by decide +kernel
theorem dX3_settle_56 : decode cX3_settle 56 = .ok (.iconst 1, 1) := by decide +kernel
theorem dX3_settle_57 : decode cX3_settle 57 = .ok (.iadd, 1) := by decide +kernel
theorem dX3_settle_58 : decode cX3_settle 58 = .ok (.putfield 25, 3) := by decide +kernel
theorem dX3_settle_61 : decode cX3_settle 61 = .ok (.iconst 0, 1) := by decide +kernel
theorem dX3_settle_62 : decode cX3_settle 62 = .ok (.istore_n 3, 1) := by decide +kernel
theorem dX3_settle_63 : decode cX3_settle 63 = .ok (.goto 6, 3) := by decide +kernel
theorem dX3_settle_66 : decode cX3_settle 66 = .ok (.iinc 3 1, 3) := by decide +kernel
theorem dX3_settle_69 : decode cX3_settle 69 = .ok (.iinc 4 1, 3) := by decide +kernel
theorem dX3_settle_72 : decode cX3_settle 72 = .ok (.goto (-54), 3) := by decide +kernel
theorem dX3_settle_75 : decode cX3_settle 75 = .ok (.return_, 1) := by decide +kernel
theorem dX3_changeBest_0 : decode cX3_changeBest 0 = .ok (.aload_n 0, 1) := by decide +kernel
theorem dX3_changeBest_1 : decode cX3_changeBest 1 = .ok (.iload_n 1, 1) := by decide +kernel
theorem dX3_changeBest_2 : decode cX3_changeBest 2 = .ok (.iload_n 2, 1) := by decide +kernel
theorem dX3_changeBest_3 : decode cX3_changeBest 3 = .ok (.invokevirtual 40, 3) := by decide +kernel
theorem dX3_changeBest_6 : decode cX3_changeBest 6 = .ok (.istore_n 3, 1) := by decide +kernel
theorem dX3_changeBest_7 : decode cX3_changeBest 7 = .ok (.iconst 0, 1) := by decide +kernel
theorem dX3_changeBest_8 : decode cX3_changeBest 8 = .ok (.istore 4, 2) := by decide +kernel
theorem dX3_changeBest_10 : decode cX3_changeBest 10 = .ok (.iconst 0, 1) := by decide +kernel
theorem dX3_changeBest_11 : decode cX3_changeBest 11 = .ok (.istore 5, 2) := by decide +kernel
theorem dX3_changeBest_13 : decode cX3_changeBest 13 = .ok (.iload 5, 2) := by decide +kernel
theorem dX3_changeBest_15 : decode cX3_changeBest 15 = .ok (.aload_n 0, 1) := by decide +kernel
theorem dX3_changeBest_16 : decode cX3_changeBest 16 = .ok (.getfield 28, 3) := by decide +kernel
theorem dX3_changeBest_19 : decode cX3_changeBest 19 = .ok (.getfield 44, 3) := by decide +kernel
theorem dX3_changeBest_22 : decode cX3_changeBest 22 = .ok (.if_icmp .ge 118, 3) := by decide +kernel
theorem dX3_changeBest_25 : decode cX3_changeBest 25 = .ok (.iload 5, 2) := by decide +kernel
theorem dX3_changeBest_27 : decode cX3_changeBest 27 = .ok (.iconst 1, 1) := by decide +kernel
theorem dX3_changeBest_28 : decode cX3_changeBest 28 = .ok (.iadd, 1) := by decide +kernel
theorem dX3_changeBest_29 : decode cX3_changeBest 29 = .ok (.istore 6, 2) := by decide +kernel
theorem dX3_changeBest_31 : decode cX3_changeBest 31 = .ok (.iload 6, 2) := by decide +kernel
theorem dX3_changeBest_33 : decode cX3_changeBest 33 = .ok (.aload_n 0, 1) := by decide +kernel
theorem dX3_changeBest_34 : decode cX3_changeBest 34 = .ok (.getfield 28, 3) := by decide +kernel
theorem dX3_changeBest_37 : decode cX3_changeBest 37 = .ok (.getfield 44, 3) := by decide +kernel
theorem dX3_changeBest_40 : decode cX3_changeBest 40 = .ok (.if_icmp .ge 94, 3) := by decide +kernel
theorem dX3_changeBest_43 : decode cX3_changeBest 43 = .ok (.aload_n 0, 1) := by decide +kernel
theorem dX3_changeBest_44 : decode cX3_changeBest 44 = .ok (.getfield 28, 3) := by decide +kernel
theorem dX3_changeBest_47 : decode cX3_changeBest 47 = .ok (.getfield 57, 3) := by decide +kernel
theorem dX3_changeBest_50 : decode cX3_changeBest 50 = .ok (.iload 5, 2) := by decide +kernel
theorem dX3_changeBest_52 : decode cX3_changeBest 52 = .ok (.iaload, 1) := by decide +kernel
theorem dX3_changeBest_53 : decode cX3_changeBest 53 = .ok (.iload_n 1, 1) := by decide +kernel
theorem dX3_changeBest_54 : decode cX3_changeBest 54 = .ok (.if_icmp .ne 74, 3) := by decide +kernel
theorem dX3_changeBest_57 : decode cX3_changeBest 57 = .ok (.aload_n 0, 1) := by decide +kernel
theorem dX3_changeBest_58 : decode cX3_changeBest 58 = .ok (.getfield 28, 3) := by decide +kernel
theorem dX3_changeBest_61 : decode cX3_changeBest 61 = .ok (.getfield 57, 3) := by decide +kernel
theorem dX3_changeBest_64 : decode cX3_changeBest 64 = .ok (.iload 6, 2) := by decide +kernel
theorem dX3_changeBest_66 : decode cX3_changeBest 66 = .ok (.iaload, 1) := by decide +kernel
theorem dX3_changeBest_67 : decode cX3_changeBest 67 = .ok (.iload_n 1, 1) := by decide +kernel
theorem dX3_changeBest_68 : decode cX3_changeBest 68 = .ok (.if_icmp .eq 6, 3) := by decide +kernel
theorem dX3_changeBest_71 : decode cX3_changeBest 71 = .ok (.goto 57, 3) := by decide +kernel
theorem dX3_changeBest_74 : decode cX3_changeBest 74 = .ok (.aload_n 0, 1) := by decide +kernel
theorem dX3_changeBest_75 : decode cX3_changeBest 75 = .ok (.getfield 9, 3) := by decide +kernel
theorem dX3_changeBest_78 : decode cX3_changeBest 78 = .ok (.iload 5, 2) := by decide +kernel
theorem dX3_changeBest_80 : decode cX3_changeBest 80 = .ok (.iload 6, 2) := by decide +kernel
theorem dX3_changeBest_82 : decode cX3_changeBest 82 = .ok (.invokestatic 49, 3) := by decide +kernel
theorem dX3_changeBest_85 : decode cX3_changeBest 85 = .ok (.aload_n 0, 1) := by decide +kernel
theorem dX3_changeBest_86 : decode cX3_changeBest 86 = .ok (.iload_n 1, 1) := by decide +kernel
theorem dX3_changeBest_87 : decode cX3_changeBest 87 = .ok (.iload_n 2, 1) := by decide +kernel
theorem dX3_changeBest_88 : decode cX3_changeBest 88 = .ok (.invokevirtual 40, 3) := by decide +kernel
theorem dX3_changeBest_91 : decode cX3_changeBest 91 = .ok (.istore 7, 2) := by decide +kernel
theorem dX3_changeBest_93 : decode cX3_changeBest 93 = .ok (.aload_n 0, 1) := by decide +kernel
theorem dX3_changeBest_94 : decode cX3_changeBest 94 = .ok (.getfield 9, 3) := by decide +kernel
theorem dX3_changeBest_97 : decode cX3_changeBest 97 = .ok (.iload 5, 2) := by decide +kernel
theorem dX3_changeBest_99 : decode cX3_changeBest 99 = .ok (.iload 6, 2) := by decide +kernel
theorem dX3_changeBest_101 : decode cX3_changeBest 101 = .ok (.invokestatic 49, 3) := by decide +kernel
theorem dX3_changeBest_104 : decode cX3_changeBest 104 = .ok (.iload 7, 2) := by decide +kernel
theorem dX3_changeBest_106 : decode cX3_changeBest 106 = .ok (.iload_n 3, 1) := by decide +kernel
theorem dX3_changeBest_107 : decode cX3_changeBest 107 = .ok (.if_icmp .ge 21, 3) := by decide +kernel
theorem dX3_changeBest_110 : decode cX3_changeBest 110 = .ok (.iload 7, 2) := by decide +kernel
theorem dX3_changeBest_112 : decode cX3_changeBest 112 = .ok (.istore_n 3, 1) := by decide +kernel
theorem dX3_changeBest_113 : decode cX3_changeBest 113 = .ok (.aload_n 0, 1) := by decide +kernel
theorem dX3_changeBest_114 : decode cX3_changeBest 114 = .ok (.iload 5, 2) := by decide +kernel
theorem dX3_changeBest_116 : decode cX3_changeBest 116 = .ok (.putfield 18, 3) := by decide +kernel
theorem dX3_changeBest_119 : decode cX3_changeBest 119 = .ok (.aload_n 0, 1) := by decide +kernel
theorem dX3_changeBest_120 : decode cX3_changeBest 120 = .ok (.iload 6, 2) := by decide +kernel
theorem dX3_changeBest_122 : decode cX3_changeBest 122 = .ok (.putfield 22, 3) := by decide +kernel
theorem dX3_changeBest_125 : decode cX3_changeBest 125 = .ok (.iconst 1, 1) := by decide +kernel
theorem dX3_changeBest_126 : decode cX3_changeBest 126 = .ok (.istore 4, 2) := by decide +kernel
theorem dX3_changeBest_128 : decode cX3_changeBest 128 = .ok (.iinc 6 1, 3) := by decide +kernel
theorem dX3_changeBest_131 : decode cX3_changeBest 131 = .ok (.goto (-100), 3) := by decide +kernel
theorem dX3_changeBest_134 : decode cX3_changeBest 134 = .ok (.iinc 5 1, 3) := by decide +kernel
theorem dX3_changeBest_137 : decode cX3_changeBest 137 = .ok (.goto (-124), 3) := by decide +kernel
theorem dX3_changeBest_140 : decode cX3_changeBest 140 = .ok (.iload 4, 2) := by decide +kernel
theorem dX3_changeBest_142 : decode cX3_changeBest 142 = .ok (.ifCond .eq 18, 3) := by decide +kernel
theorem dX3_changeBest_145 : decode cX3_changeBest 145 = .ok (.aload_n 0, 1) := by decide +kernel
theorem dX3_changeBest_146 : decode cX3_changeBest 146 = .ok (.getfield 9, 3) := by decide +kernel
theorem dX3_changeBest_149 : decode cX3_changeBest 149 = .ok (.aload_n 0, 1) := by decide +kernel
theorem dX3_changeBest_150 : decode cX3_changeBest 150 = .ok (.getfield 18, 3) := by decide +kernel
theorem dX3_changeBest_153 : decode cX3_changeBest 153 = .ok (.aload_n 0, 1) := by decide +kernel
theorem dX3_changeBest_154 : decode cX3_changeBest 154 = .ok (.getfield 22, 3) := by decide +kernel
theorem dX3_changeBest_157 : decode cX3_changeBest 157 = .ok (.invokestatic 49, 3) := by decide +kernel
theorem dX3_changeBest_160 : decode cX3_changeBest 160 = .ok (.iload 4, 2) := by decide +kernel
theorem dX3_changeBest_162 : decode cX3_changeBest 162 = .ok (.ireturn, 1) := by decide +kernel
theorem dX3_lossOfRow_0 : decode cX3_lossOfRow 0 = .ok (.aload_n 0, 1) := by decide +kernel
theorem dX3_lossOfRow_1 : decode cX3_lossOfRow 1 = .ok (.getfield 9, 3) := by decide +kernel
theorem dX3_lossOfRow_4 : decode cX3_lossOfRow 4 = .ok (.aload_n 0, 1) := by decide +kernel
theorem dX3_lossOfRow_5 : decode cX3_lossOfRow 5 = .ok (.getfield 15, 3) := by decide +kernel
theorem dX3_lossOfRow_8 : decode cX3_lossOfRow 8 = .ok (.invokestatic 36, 3) := by decide +kernel
theorem dX3_lossOfRow_11 : decode cX3_lossOfRow 11 = .ok (.aload_n 0, 1) := by decide +kernel
theorem dX3_lossOfRow_12 : decode cX3_lossOfRow 12 = .ok (.getfield 32, 3) := by decide +kernel
theorem dX3_lossOfRow_15 : decode cX3_lossOfRow 15 = .ok (.aload_n 0, 1) := by decide +kernel
theorem dX3_lossOfRow_16 : decode cX3_lossOfRow 16 = .ok (.getfield 28, 3) := by decide +kernel
theorem dX3_lossOfRow_19 : decode cX3_lossOfRow 19 = .ok (.getfield 60, 3) := by decide +kernel
theorem dX3_lossOfRow_22 : decode cX3_lossOfRow 22 = .ok (.aload_n 0, 1) := by decide +kernel
theorem dX3_lossOfRow_23 : decode cX3_lossOfRow 23 = .ok (.getfield 15, 3) := by decide +kernel
theorem dX3_lossOfRow_26 : decode cX3_lossOfRow 26 = .ok (.iload_n 2, 1) := by decide +kernel
theorem dX3_lossOfRow_27 : decode cX3_lossOfRow 27 = .ok (.iconst 1, 1) := by decide +kernel
theorem dX3_lossOfRow_28 : decode cX3_lossOfRow 28 = .ok (.ldc 63, 2) := by decide +kernel
theorem dX3_lossOfRow_30 : decode cX3_lossOfRow 30 = .ok (.invokevirtual 64, 3) := by decide +kernel
theorem dX3_lossOfRow_33 : decode cX3_lossOfRow 33 = .ok (.pop, 1) := by decide +kernel
theorem dX3_lossOfRow_34 : decode cX3_lossOfRow 34 = .ok (.aload_n 0, 1) := by decide +kernel
theorem dX3_lossOfRow_35 : decode cX3_lossOfRow 35 = .ok (.getfield 32, 3) := by decide +kernel
theorem dX3_lossOfRow_38 : decode cX3_lossOfRow 38 = .ok (.iload_n 1, 1) := by decide +kernel
theorem dX3_lossOfRow_39 : decode cX3_lossOfRow 39 = .ok (.invokevirtual 70, 3) := by decide +kernel
theorem dX3_lossOfRow_42 : decode cX3_lossOfRow 42 = .ok (.ireturn, 1) := by decide +kernel
theorem dX4_init_0 : decode cX4_init 0 = .ok (.aload_n 0, 1) := by decide +kernel
theorem dX4_init_1 : decode cX4_init 1 = .ok (.invokespecial 3, 3) := by decide +kernel
theorem dX4_init_4 : decode cX4_init 4 = .ok (.aload_n 0, 1) := by decide +kernel
theorem dX4_init_5 : decode cX4_init 5 = .ok (.iconst 5, 1) := by decide +kernel
theorem dX4_init_6 : decode cX4_init 6 = .ok (.bipush 8, 2) := by decide +kernel
theorem dX4_init_8 : decode cX4_init 8 = .ok (.multianewarray 9 2, 4) := by decide +kernel
theorem dX4_init_12 : decode cX4_init 12 = .ok (.putfield 11, 3) := by decide +kernel
theorem dX4_init_15 : decode cX4_init 15 = .ok (.aload_n 0, 1) := by decide +kernel
theorem dX4_init_16 : decode cX4_init 16 = .ok (.iconst 4, 1) := by decide +kernel
theorem dX4_init_17 : decode cX4_init 17 = .ok (.newarray .int, 2) := by decide +kernel
theorem dX4_init_19 : decode cX4_init 19 = .ok (.putfield 16, 3) := by decide +kernel
theorem dX4_init_22 : decode cX4_init 22 = .ok (.aload_n 0, 1) := by decide +kernel
theorem dX4_init_23 : decode cX4_init 23 = .ok (.iconst 4, 1) := by decide +kernel
theorem dX4_init_24 : decode cX4_init 24 = .ok (.newarray .int, 2) := by decide +kernel
theorem dX4_init_26 : decode cX4_init 26 = .ok (.putfield 20, 3) := by decide +kernel
theorem dX4_init_29 : decode cX4_init 29 = .ok (.aload_n 0, 1) := by decide +kernel
theorem dX4_init_30 : decode cX4_init 30 = .ok (.iconst 0, 1) := by decide +kernel
theorem dX4_init_31 : decode cX4_init 31 = .ok (.putfield 23, 3) := by decide +kernel
theorem dX4_init_34 : decode cX4_init 34 = .ok (.aload_n 0, 1) := by decide +kernel
theorem dX4_init_35 : decode cX4_init 35 = .ok (.iconst 0, 1) := by decide +kernel
theorem dX4_init_36 : decode cX4_init 36 = .ok (.putfield 27, 3) := by decide +kernel
theorem dX4_init_39 : decode cX4_init 39 = .ok (.aload_n 0, 1) := by decide +kernel
theorem dX4_init_40 : decode cX4_init 40 = .ok (.iconst 0, 1) := by decide +kernel
theorem dX4_init_41 : decode cX4_init 41 = .ok (.putfield 30, 3) := by decide +kernel
theorem dX4_init_44 : decode cX4_init 44 = .ok (.aload_n 0, 1) := by decide +kernel
theorem dX4_init_45 : decode cX4_init 45 = .ok (.aload_n 1, 1) := by decide +kernel
theorem dX4_init_46 : decode cX4_init 46 = .ok (.putfield 33, 3) := by decide +kernel
theorem dX4_init_49 : decode cX4_init 49 = .ok (.aload_n 0, 1) := by decide +kernel
theorem dX4_init_50 : decode cX4_init 50 = .ok (.aload_n 2, 1) := by decide +kernel
theorem dX4_init_51 : decode cX4_init 51 = .ok (.putfield 37, 3) := by decide +kernel
theorem dX4_init_54 : decode cX4_init 54 = .ok (.return_, 1) := by decide +kernel
theorem dX4_search_0 : decode cX4_search 0 = .ok (.aload_n 0, 1) := by decide +kernel
theorem dX4_search_1 : decode cX4_search 1 = .ok (.iload_n 2, 1) := by decide +kernel
theorem dX4_search_2 : decode cX4_search 2 = .ok (.putfield 30, 3) := by decide +kernel
theorem dX4_search_5 : decode cX4_search 5 = .ok (.aload_n 0, 1) := by decide +kernel
theorem dX4_search_6 : decode cX4_search 6 = .ok (.iconst 0, 1) := by decide +kernel
theorem dX4_search_7 : decode cX4_search 7 = .ok (.putfield 27, 3) := by decide +kernel
theorem dX4_search_10 : decode cX4_search 10 = .ok (.iconst 0, 1) := by decide +kernel
theorem dX4_search_11 : decode cX4_search 11 = .ok (.istore_n 3, 1) := by decide +kernel
theorem dX4_search_12 : decode cX4_search 12 = .ok (.iload_n 3, 1) := by decide +kernel
theorem dX4_search_13 : decode cX4_search 13 = .ok (.aload_n 0, 1) := by decide +kernel
theorem dX4_search_14 : decode cX4_search 14 = .ok (.getfield 33, 3) := by decide +kernel
theorem dX4_search_17 : decode cX4_search 17 = .ok (.getfield 41, 3) := by decide +kernel
theorem dX4_search_20 : decode cX4_search 20 = .ok (.if_icmp .ge 39, 3) := by decide +kernel
theorem dX4_search_23 : decode cX4_search 23 = .ok (.aload_n 0, 1) := by decide +kernel
theorem dX4_search_24 : decode cX4_search 24 = .ok (.getfield 16, 3) := by decide +kernel
theorem dX4_search_27 : decode cX4_search 27 = .ok (.iload_n 3, 1) := by decide +kernel
theorem dX4_search_28 : decode cX4_search 28 = .ok (.iconst 0, 1) := by decide +kernel
theorem dX4_search_29 : decode cX4_search 29 = .ok (.iastore, 1) := by decide +kernel
theorem dX4_search_30 : decode cX4_search 30 = .ok (.aload_n 0, 1) := by decide +kernel
theorem dX4_search_31 : decode cX4_search 31 = .ok (.getfield 33, 3) := by decide +kernel
theorem dX4_search_34 : decode cX4_search 34 = .ok (.getfield 46, 3) := by decide +kernel
theorem dX4_search_37 : decode cX4_search 37 = .ok (.iload_n 3, 1) := by decide +kernel
theorem dX4_search_38 : decode cX4_search 38 = .ok (.iaload, 1) := by decide +kernel
theorem dX4_search_39 : decode cX4_search 39 = .ok (.iload_n 2, 1) := by decide +kernel
theorem dX4_search_40 : decode cX4_search 40 = .ok (.if_icmp .ge 13, 3) := by decide +kernel
theorem dX4_search_43 : decode cX4_search 43 = .ok (.aload_n 0, 1) := by decide +kernel
theorem dX4_search_44 : decode cX4_search 44 = .ok (.dup, 1) := by decide +kernel
theorem dX4_search_45 : decode cX4_search 45 = .ok (.getfield 27, 3) := by decide +kernel
theorem dX4_search_48 : decode cX4_search 48 = .ok (.iconst 1, 1) := by decide +kernel
theorem dX4_search_49 : decode cX4_search 49 = .ok (.iadd, 1) := by decide +kernel
theorem dX4_search_50 : decode cX4_search 50 = .ok (.putfield 27, 3) := by decide +kernel
theorem dX4_search_53 : decode cX4_search 53 = .ok (.iinc 3 1, 3) := by decide +kernel
theorem dX4_search_56 : decode cX4_search 56 = .ok (.goto (-44), 3) := by decide +kernel
theorem dX4_search_59 : decode cX4_search 59 = .ok (.aload_n 0, 1) := by decide +kernel
theorem dX4_search_60 : decode cX4_search 60 = .ok (.ldc 49, 2) := by decide +kernel
theorem dX4_search_62 : decode cX4_search 62 = .ok (.putfield 23, 3) := by decide +kernel
theorem dX4_search_65 : decode cX4_search 65 = .ok (.aload_n 1, 1) := by decide +kernel
theorem dX4_search_66 : decode cX4_search 66 = .ok (.aload_n 0, 1) := by decide +kernel
theorem dX4_search_67 : decode cX4_search 67 = .ok (.getfield 11, 3) := by decide +kernel
theorem dX4_search_70 : decode cX4_search 70 = .ok (.iconst 0, 1) := by decide +kernel
theorem dX4_search_71 : decode cX4_search 71 = .ok (.aaload, 1) := by decide +kernel
theorem dX4_search_72 : decode cX4_search 72 = .ok (.invokestatic 50, 3) := by decide +kernel
theorem dX4_search_75 : decode cX4_search 75 = .ok (.aload_n 0, 1) := by decide +kernel
theorem dX4_search_76 : decode cX4_search 76 = .ok (.iconst 0, 1) := by decide +kernel
theorem dX4_search_77 : decode cX4_search 77 = .ok (.iconst 0, 1) := by decide +kernel
theorem dX4_search_78 : decode cX4_search 78 = .ok (.iconst 0, 1) := by decide +kernel
theorem dX4_search_79 : decode cX4_search 79 = .ok (.invokevirtual 54, 3) := by decide +kernel
theorem dX4_search_82 : decode cX4_search 82 = .ok (.aload_n 0, 1) := by decide +kernel
theorem dX4_search_83 : decode cX4_search 83 = .ok (.getfield 23, 3) := by decide +kernel
theorem dX4_search_86 : decode cX4_search 86 = .ok (.ldc 49, 2) := by decide +kernel
theorem dX4_search_88 : decode cX4_search 88 = .ok (.if_icmp .eq 7, 3) := by decide +kernel
theorem dX4_search_91 : decode cX4_search 91 = .ok (.iconst 1, 1) := by decide +kernel
theorem dX4_search_92 : decode cX4_search 92 = .ok (.goto 4, 3) := by decide +kernel
theorem dX4_search_95 : decode cX4_search 95 = .ok (.iconst 0, 1) := by decide +kernel
theorem dX4_search_96 : decode cX4_search 96 = .ok (.ireturn, 1) := by decide +kernel
theorem dX4_goOn_0 : decode cX4_goOn 0 = .ok (.iload_n 1, 1) := by decide +kernel
theorem dX4_goOn_1 : decode cX4_goOn 1 = .ok (.aload_n 0, 1) := by decide +kernel
theorem dX4_goOn_2 : decode cX4_goOn 2 = .ok (.getfield 27, 3) := by decide +kernel
theorem dX4_goOn_5 : decode cX4_goOn 5 = .ok (.if_icmp .lt 7, 3) := by decide +kernel
theorem dX4_goOn_8 : decode cX4_goOn 8 = .ok (.iconst 1, 1) := by decide +kernel
theorem dX4_goOn_9 : decode cX4_goOn 9 = .ok (.goto 4, 3) := by decide +kernel
theorem dX4_goOn_12 : decode cX4_goOn 12 = .ok (.iconst 0, 1) := by decide +kernel
theorem dX4_goOn_13 : decode cX4_goOn 13 = .ok (.istore 4, 2) := by decide +kernel
theorem dX4_goOn_15 : decode cX4_goOn 15 = .ok (.iload 4, 2) := by decide +kernel
theorem dX4_goOn_17 : decode cX4_goOn 17 = .ok (.ifCond .eq 10, 3) := by decide +kernel
theorem dX4_goOn_20 : decode cX4_goOn 20 = .ok (.aload_n 0, 1) := by decide +kernel
theorem dX4_goOn_21 : decode cX4_goOn 21 = .ok (.getfield 30, 3) := by decide +kernel
theorem dX4_goOn_24 : decode cX4_goOn 24 = .ok (.goto 12, 3) := by decide +kernel
theorem dX4_goOn_27 : decode cX4_goOn 27 = .ok (.aload_n 0, 1) := by decide +kernel
theorem dX4_goOn_28 : decode cX4_goOn 28 = .ok (.getfield 33, 3) := by decide +kernel
theorem dX4_goOn_31 : decode cX4_goOn 31 = .ok (.getfield 46, 3) := by decide +kernel
theorem dX4_goOn_34 : decode cX4_goOn 34 = .ok (.iload_n 1, 1) := by decide +kernel
theorem dX4_goOn_35 : decode cX4_goOn 35 = .ok (.iaload, 1) := by decide +kernel
theorem dX4_goOn_36 : decode cX4_goOn 36 = .ok (.istore 5, 2) := by decide +kernel
theorem dX4_goOn_38 : decode cX4_goOn 38 = .ok (.iload_n 3, 1) := by decide +kernel
theorem dX4_goOn_39 : decode cX4_goOn 39 = .ok (.aload_n 0, 1) := by decide +kernel
theorem dX4_goOn_40 : decode cX4_goOn 40 = .ok (.getfield 37, 3) := by decide +kernel
theorem dX4_goOn_43 : decode cX4_goOn 43 = .ok (.aload_n 0, 1) := by decide +kernel
theorem dX4_goOn_44 : decode cX4_goOn 44 = .ok (.getfield 33, 3) := by decide +kernel
theorem dX4_goOn_47 : decode cX4_goOn 47 = .ok (.getfield 58, 3) := by decide +kernel
theorem dX4_goOn_50 : decode cX4_goOn 50 = .ok (.aload_n 0, 1) := by decide +kernel
theorem dX4_goOn_51 : decode cX4_goOn 51 = .ok (.getfield 11, 3) := by decide +kernel
theorem dX4_goOn_54 : decode cX4_goOn 54 = .ok (.iload_n 1, 1) := by decide +kernel
theorem dX4_goOn_55 : decode cX4_goOn 55 = .ok (.aaload, 1) := by decide +kernel
theorem dX4_goOn_56 : decode cX4_goOn 56 = .ok (.iload_n 2, 1) := by decide +kernel
theorem dX4_goOn_57 : decode cX4_goOn 57 = .ok (.iload 5, 2) := by decide +kernel
theorem dX4_goOn_59 : decode cX4_goOn 59 = .ok (.iload_n 2, 1) := by decide +kernel
theorem dX4_goOn_60 : decode cX4_goOn 60 = .ok (.isub, 1) := by decide +kernel
theorem dX4_goOn_61 : decode cX4_goOn 61 = .ok (.aload_n 0, 1) := by decide +kernel
theorem dX4_goOn_62 : decode cX4_goOn 62 = .ok (.getfield 23, 3) := by decide +kernel
theorem dX4_goOn_65 : decode cX4_goOn 65 = .ok (.iload_n 3, 1) := by decide +kernel
theorem dX4_goOn_66 : decode cX4_goOn 66 = .ok (.isub, 1) := by decide +kernel
theorem dX4_goOn_67 : decode cX4_goOn 67 = .ok (.invokevirtual 61, 3) := by decide +kernel
theorem dX4_goOn_70 : decode cX4_goOn 70 = .ok (.iadd, 1) := by decide +kernel
theorem dX4_goOn_71 : decode cX4_goOn 71 = .ok (.istore 6, 2) := by decide +kernel
theorem dX4_goOn_73 : decode cX4_goOn 73 = .ok (.iload 6, 2) := by decide +kernel
theorem dX4_goOn_75 : decode cX4_goOn 75 = .ok (.aload_n 0, 1) := by decide +kernel
theorem dX4_goOn_76 : decode cX4_goOn 76 = .ok (.getfield 23, 3) := by decide +kernel
theorem dX4_goOn_79 : decode cX4_goOn 79 = .ok (.if_icmp .lt 4, 3) := by decide +kernel
theorem dX4_goOn_82 : decode cX4_goOn 82 = .ok (.return_, 1) := by decide +kernel
theorem dX4_goOn_83 : decode cX4_goOn 83 = .ok (.iload 4, 2) := by decide +kernel
theorem dX4_goOn_85 : decode cX4_goOn 85 = .ok (.ifCond .eq 24, 3) := by decide +kernel
theorem dX4_goOn_88 : decode cX4_goOn 88 = .ok (.aload_n 0, 1) := by decide +kernel
theorem dX4_goOn_89 : decode cX4_goOn 89 = .ok (.iload 6, 2) := by decide +kernel
theorem dX4_goOn_91 : decode cX4_goOn 91 = .ok (.putfield 23, 3) := by decide +kernel
theorem dX4_goOn_94 : decode cX4_goOn 94 = .ok (.aload_n 0, 1) := by decide +kernel
theorem dX4_goOn_95 : decode cX4_goOn 95 = .ok (.getfield 16, 3) := by decide +kernel
theorem dX4_goOn_98 : decode cX4_goOn 98 = .ok (.iconst 0, 1) := by decide +kernel
theorem dX4_goOn_99 : decode cX4_goOn 99 = .ok (.aload_n 0, 1) := by decide +kernel
theorem dX4_goOn_100 : decode cX4_goOn 100 = .ok (.getfield 20, 3) := by decide +kernel
theorem dX4_goOn_103 : decode cX4_goOn 103 = .ok (.iconst 0, 1) := by decide +kernel
theorem dX4_goOn_104 : decode cX4_goOn 104 = .ok (.iconst 4, 1) := by decide +kernel
theorem dX4_goOn_105 : decode cX4_goOn 105 = .ok (.invokestatic 67, 3) := by decide +kernel
theorem dX4_goOn_108 : decode cX4_goOn 108 = .ok (.return_, 1) := by decide +kernel
theorem dX4_goOn_109 : decode cX4_goOn 109 = .ok (.iconst 0, 1) := by decide +kernel
theorem dX4_goOn_110 : decode cX4_goOn 110 = .ok (.istore 7, 2) := by decide +kernel
theorem dX4_goOn_112 : decode cX4_goOn 112 = .ok (.iload 7, 2) := by decide +kernel
theorem dX4_goOn_114 : decode cX4_goOn 114 = .ok (.aload_n 0, 1) := by decide +kernel
theorem dX4_goOn_115 : decode cX4_goOn 115 = .ok (.getfield 33, 3) := by decide +kernel
theorem dX4_goOn_118 : decode cX4_goOn 118 = .ok (.getfield 73, 3) := by decide +kernel
theorem dX4_goOn_121 : decode cX4_goOn 121 = .ok (.if_icmp .ge 93, 3) := by decide +kernel
theorem dX4_goOn_124 : decode cX4_goOn 124 = .ok (.aload_n 0, 1) := by decide +kernel
theorem dX4_goOn_125 : decode cX4_goOn 125 = .ok (.getfield 11, 3) := by decide +kernel
theorem dX4_goOn_128 : decode cX4_goOn 128 = .ok (.iload_n 1, 1) := by decide +kernel
theorem dX4_goOn_129 : decode cX4_goOn 129 = .ok (.aaload, 1) := by decide +kernel
theorem dX4_goOn_130 : decode cX4_goOn 130 = .ok (.iload 7, 2) := by decide +kernel
theorem dX4_goOn_132 : decode cX4_goOn 132 = .ok (.iaload, 1) := by decide +kernel
theorem dX4_goOn_133 : decode cX4_goOn 133 = .ok (.aload_n 0, 1) := by decide +kernel
theorem dX4_goOn_134 : decode cX4_goOn 134 = .ok (.getfield 33, 3) := by decide +kernel
theorem dX4_goOn_137 : decode cX4_goOn 137 = .ok (.getfield 76, 3) := by decide +kernel
theorem dX4_goOn_140 : decode cX4_goOn 140 = .ok (.iload_n 1, 1) := by decide +kernel
theorem dX4_goOn_141 : decode cX4_goOn 141 = .ok (.iaload, 1) := by decide +kernel
theorem dX4_goOn_142 : decode cX4_goOn 142 = .ok (.iadd, 1) := by decide +kernel
theorem dX4_goOn_143 : decode cX4_goOn 143 = .ok (.sipush 199, 3) := by decide +kernel
theorem dX4_goOn_146 : decode cX4_goOn 146 = .ok (.if_icmp .gt 62, 3) := by decide +kernel
theorem dX4_goOn_149 : decode cX4_goOn 149 = .ok (.aload_n 0, 1) := by decide +kernel
theorem dX4_goOn_150 : decode cX4_goOn 150 = .ok (.getfield 16, 3) := by decide +kernel
theorem dX4_goOn_153 : decode cX4_goOn 153 = .ok (.iload_n 1, 1) := by decide +kernel
theorem dX4_goOn_154 : decode cX4_goOn 154 = .ok (.iload 7, 2) := by decide +kernel
theorem dX4_goOn_156 : decode cX4_goOn 156 = .ok (.iastore, 1) := by decide +kernel
theorem dX4_goOn_157 : decode cX4_goOn 157 = .ok (.aload_n 0, 1) := by decide +kernel
theorem dX4_goOn_158 : decode cX4_goOn 158 = .ok (.getfield 11, 3) := by decide +kernel
theorem dX4_goOn_161 : decode cX4_goOn 161 = .ok (.iload_n 1, 1) := by decide +kernel
theorem dX4_goOn_162 : decode cX4_goOn 162 = .ok (.aaload, 1) := by decide +kernel
theorem dX4_goOn_163 : decode cX4_goOn 163 = .ok (.aload_n 0, 1) := by decide +kernel
theorem dX4_goOn_164 : decode cX4_goOn 164 = .ok (.getfield 11, 3) := by decide +kernel
theorem dX4_goOn_167 : decode cX4_goOn 167 = .ok (.iload_n 1, 1) := by decide +kernel
theorem dX4_goOn_168 : decode cX4_goOn 168 = .ok (.iconst 1, 1) := by decide +kernel
theorem dX4_goOn_169 : decode cX4_goOn 169 = .ok (.iadd, 1) := by decide +kernel
theorem dX4_goOn_170 : decode cX4_goOn 170 = .ok (.aaload, 1) := by decide +kernel
theorem dX4_goOn_171 : decode cX4_goOn 171 = .ok (.invokestatic 50, 3) := by decide +kernel
theorem dX4_goOn_174 : decode cX4_goOn 174 = .ok (.aload_n 0, 1) := by decide +kernel
theorem dX4_goOn_175 : decode cX4_goOn 175 = .ok (.getfield 11, 3) := by decide +kernel
theorem dX4_goOn_178 : decode cX4_goOn 178 = .ok (.iload_n 1, 1) := by decide +kernel
theorem dX4_goOn_179 : decode cX4_goOn 179 = .ok (.iconst 1, 1) := by decide +kernel
theorem dX4_goOn_180 : decode cX4_goOn 180 = .ok (.iadd, 1) := by decide +kernel
theorem dX4_goOn_181 : decode cX4_goOn 181 = .ok (.aaload, 1) := by decide +kernel
theorem dX4_goOn_182 : decode cX4_goOn 182 = .ok (.iload 7, 2) := by decide +kernel
theorem dX4_goOn_184 : decode cX4_goOn 184 = .ok (.dup2, 1) := by decide +kernel
theorem dX4_goOn_185 : decode cX4_goOn 185 = .ok (.iaload, 1) := by decide +kernel
theorem dX4_goOn_186 : decode cX4_goOn 186 = .ok (.aload_n 0, 1) := by decide +kernel
theorem dX4_goOn_187 : decode cX4_goOn 187 = .ok (.getfield 33, 3) := by decide +kernel
theorem dX4_goOn_190 : decode cX4_goOn 190 = .ok (.getfield 76, 3) := by decide +kernel
theorem dX4_goOn_193 : decode cX4_goOn 193 = .ok (.iload_n 1, 1) := by decide +kernel
theorem dX4_goOn_194 : decode cX4_goOn 194 = .ok (.iaload, 1) := by decide +kernel
theorem dX4_goOn_195 : decode cX4_goOn 195 = .ok (.iadd, 1) := by decide +kernel
theorem dX4_goOn_196 : decode cX4_goOn 196 = .ok (.iastore, 1) := by decide +kernel
theorem dX4_goOn_197 : decode cX4_goOn 197 = .ok (.aload_n 0, 1) := by decide +kernel
theorem dX4_goOn_198 : decode cX4_goOn 198 = .ok (.iload_n 1, 1) := by decide +kernel
theorem dX4_goOn_199 : decode cX4_goOn 199 = .ok (.iconst 1, 1) := by decide +kernel
theorem dX4_goOn_200 : decode cX4_goOn 200 = .ok (.iadd, 1) := by decide +kernel
theorem dX4_goOn_201 : decode cX4_goOn 201 = .ok (.iload 5, 2) := by decide +kernel
theorem dX4_goOn_203 : decode cX4_goOn 203 = .ok (.iload 6, 2) := by decide +kernel
theorem dX4_goOn_205 : decode cX4_goOn 205 = .ok (.invokevirtual 54, 3) := by decide +kernel
theorem dX4_goOn_208 : decode cX4_goOn 208 = .ok (.iinc 7 1, 3) := by decide +kernel
theorem dX4_goOn_211 : decode cX4_goOn 211 = .ok (.goto (-99), 3) := by decide +kernel
theorem dX4_goOn_214 : decode cX4_goOn 214 = .ok (.return_, 1) := by decide +kernel
