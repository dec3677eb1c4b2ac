theorem dX5_init_0 : decode cX5_init 0 = .ok (.aload_n 0, 1) := by decide +kernel
theorem dX5_init_1 : decode cX5_init 1 = .ok (.invokespecial 3, 3) := by decide +kernel
theorem dX5_init_4 : decode cX5_init 4 = .ok (.aload_n 0, 1) := by decide +kernel
theorem dX5_init_5 : decode cX5_init 5 = .ok (.bipush 10, 2) := by decide +kernel
theorem dX5_init_7 : decode cX5_init 7 = .ok (.newarray .boolean, 2) := by decide +kernel
theorem dX5_init_9 : decode cX5_init 9 = .ok (.putfield 9, 3) := by decide +kernel
theorem dX5_init_12 : decode cX5_init 12 = .ok (.aload_n 0, 1) := by decide +kernel
theorem dX5_init_13 : decode cX5_init 13 = .ok (.bipush 8, 2) := by decide +kernel
theorem dX5_init_15 : decode cX5_init 15 = .ok (.newarray .int, 2) := by decide +kernel
theorem dX5_init_17 : decode cX5_init 17 = .ok (.putfield 15, 3) := by decide +kernel
theorem dX5_init_20 : decode cX5_init 20 = .ok (.aload_n 0, 1) := by decide +kernel
theorem dX5_init_21 : decode cX5_init 21 = .ok (.iconst 2, 1) := by decide +kernel
theorem dX5_init_22 : decode cX5_init 22 = .ok (.newarray .int, 2) := by decide +kernel
theorem dX5_init_24 : decode cX5_init 24 = .ok (.putfield 19, 3) := by decide +kernel
theorem dX5_init_27 : decode cX5_init 27 = .ok (.aload_n 0, 1) := by decide +kernel
theorem dX5_init_28 : decode cX5_init 28 = .ok (.aload_n 1, 1) := by decide +kernel
theorem dX5_init_29 : decode cX5_init 29 = .ok (.putfield 22, 3) := by decide +kernel
theorem dX5_init_32 : decode cX5_init 32 = .ok (.return_, 1) := by decide +kernel
theorem dX5_run_0 : decode cX5_run 0 = .ok (.aload_n 0, 1) := by decide +kernel
theorem dX5_run_1 : decode cX5_run 1 = .ok (.getfield 19, 3) := by decide +kernel
theorem dX5_run_4 : decode cX5_run 4 = .ok (.iconst 0, 1) := by decide +kernel
theorem dX5_run_5 : decode cX5_run 5 = .ok (.iconst 0, 1) := by decide +kernel
theorem dX5_run_6 : decode cX5_run 6 = .ok (.iastore, 1) := by decide +kernel
theorem dX5_run_7 : decode cX5_run 7 = .ok (.aload_n 0, 1) := by decide +kernel
theorem dX5_run_8 : decode cX5_run 8 = .ok (.getfield 19, 3) := by decide +kernel
theorem dX5_run_11 : decode cX5_run 11 = .ok (.iconst 1, 1) := by decide +kernel
theorem dX5_run_12 : decode cX5_run 12 = .ok (.iconst 0, 1) := by decide +kernel
theorem dX5_run_13 : decode cX5_run 13 = .ok (.iastore, 1) := by decide +kernel
theorem dX5_run_14 : decode cX5_run 14 = .ok (.iload_n 1, 1) := by decide +kernel
theorem dX5_run_15 : decode cX5_run 15 = .ok (.iconst 2, 1) := by decide +kernel
theorem dX5_run_16 : decode cX5_run 16 = .ok (.if_icmp .ne 13, 3) := by decide +kernel
theorem dX5_run_19 : decode cX5_run 19 = .ok (.aload_n 0, 1) := by decide +kernel
theorem dX5_run_20 : decode cX5_run 20 = .ok (.getfield 22, 3) := by decide +kernel
theorem dX5_run_23 : decode cX5_run 23 = .ok (.getfield 26, 3) := by decide +kernel
theorem dX5_run_26 : decode cX5_run 26 = .ok (.goto 4, 3) := by decide +kernel
theorem dX5_run_29 : decode cX5_run 29 = .ok (.iconst 0, 1) := by decide +kernel
theorem dX5_run_30 : decode cX5_run 30 = .ok (.istore 6, 2) := by decide +kernel
theorem dX5_run_32 : decode cX5_run 32 = .ok (.iconst 0, 1) := by decide +kernel
theorem dX5_run_33 : decode cX5_run 33 = .ok (.istore 7, 2) := by decide +kernel
theorem dX5_run_35 : decode cX5_run 35 = .ok (.iconst 0, 1) := by decide +kernel
theorem dX5_run_36 : decode cX5_run 36 = .ok (.istore 8, 2) := by decide +kernel
theorem dX5_run_38 : decode cX5_run 38 = .ok (.iload 8, 2) := by decide +kernel
theorem dX5_run_40 : decode cX5_run 40 = .ok (.iload 4, 2) := by decide +kernel
theorem dX5_run_42 : decode cX5_run 42 = .ok (.if_icmp .ge 64, 3) := by decide +kernel
theorem dX5_run_45 : decode cX5_run 45 = .ok (.iload 7, 2) := by decide +kernel
theorem dX5_run_47 : decode cX5_run 47 = .ok (.iload 5, 2) := by decide +kernel
theorem dX5_run_49 : decode cX5_run 49 = .ok (.if_icmp .ge 57, 3) := by decide +kernel
theorem dX5_run_52 : decode cX5_run 52 = .ok (.aload_n 0, 1) := by decide +kernel
theorem dX5_run_53 : decode cX5_run 53 = .ok (.iload_n 1, 1) := by decide +kernel
theorem dX5_run_54 : decode cX5_run 54 = .ok (.iload_n 3, 1) := by decide +kernel
theorem dX5_run_55 : decode cX5_run 55 = .ok (.iload 8, 2) := by decide +kernel
theorem dX5_run_57 : decode cX5_run 57 = .ok (.iadd, 1) := by decide +kernel
theorem dX5_run_58 : decode cX5_run 58 = .ok (.invokevirtual 32, 3) := by decide +kernel
theorem dX5_run_61 : decode cX5_run 61 = .ok (.istore 9, 2) := by decide +kernel
theorem dX5_run_63 : decode cX5_run 63 = .ok (.aload_n 0, 1) := by decide +kernel
theorem dX5_run_64 : decode cX5_run 64 = .ok (.aload_n 2, 1) := by decide +kernel
theorem dX5_run_65 : decode cX5_run 65 = .ok (.iload 6, 2) := by decide +kernel
theorem dX5_run_67 : decode cX5_run 67 = .ok (.iload 9, 2) := by decide +kernel
theorem dX5_run_69 : decode cX5_run 69 = .ok (.invokevirtual 36, 3) := by decide +kernel
theorem dX5_run_72 : decode cX5_run 72 = .ok (.istore 10, 2) := by decide +kernel
theorem dX5_run_74 : decode cX5_run 74 = .ok (.iload 7, 2) := by decide +kernel
theorem dX5_run_76 : decode cX5_run 76 = .ok (.iload 10, 2) := by decide +kernel
theorem dX5_run_78 : decode cX5_run 78 = .ok (.iadd, 1) := by decide +kernel
theorem dX5_run_79 : decode cX5_run 79 = .ok (.istore 7, 2) := by decide +kernel
theorem dX5_run_81 : decode cX5_run 81 = .ok (.iload 10, 2) := by decide +kernel
theorem dX5_run_83 : decode cX5_run 83 = .ok (.ifCond .ne 17, 3) := by decide +kernel
theorem dX5_run_86 : decode cX5_run 86 = .ok (.iload_n 1, 1) := by decide +kernel
theorem dX5_run_87 : decode cX5_run 87 = .ok (.iconst 3, 1) := by decide +kernel
theorem dX5_run_88 : decode cX5_run 88 = .ok (.if_icmp .ne 18, 3) := by decide +kernel
theorem dX5_run_91 : decode cX5_run 91 = .ok (.iload 9, 2) := by decide +kernel
theorem dX5_run_93 : decode cX5_run 93 = .ok (.iconst 1, 1) := by decide +kernel
theorem dX5_run_94 : decode cX5_run 94 = .ok (.if_icmp .ne 6, 3) := by decide +kernel
theorem dX5_run_97 : decode cX5_run 97 = .ok (.goto 9, 3) := by decide +kernel
theorem dX5_run_100 : decode cX5_run 100 = .ok (.iinc 8 1, 3) := by decide +kernel
theorem dX5_run_103 : decode cX5_run 103 = .ok (.goto (-65), 3) := by decide +kernel
theorem dX5_run_106 : decode cX5_run 106 = .ok (.iload 7, 2) := by decide +kernel
theorem dX5_run_108 : decode cX5_run 108 = .ok (.ireturn, 1) := by decide +kernel
theorem dX5_goneFrom_0 : decode cX5_goneFrom 0 = .ok (.iload_n 1, 1) := by decide +kernel
theorem dX5_goneFrom_1 : decode cX5_goneFrom 1 = .ok (.iconst 0, 1) := by decide +kernel
theorem dX5_goneFrom_2 : decode cX5_goneFrom 2 = .ok (.iconst 1, 1) := by decide +kernel
theorem dX5_goneFrom_3 : decode cX5_goneFrom 3 = .ok (.invokestatic 40, 3) := by decide +kernel
theorem dX5_goneFrom_6 : decode cX5_goneFrom 6 = .ok (.ifCond .eq 12, 3) := by decide +kernel
theorem dX5_goneFrom_9 : decode cX5_goneFrom 9 = .ok (.aload_n 0, 1) := by decide +kernel
theorem dX5_goneFrom_10 : decode cX5_goneFrom 10 = .ok (.getfield 19, 3) := by decide +kernel
theorem dX5_goneFrom_13 : decode cX5_goneFrom 13 = .ok (.iload_n 1, 1) := by decide +kernel
theorem dX5_goneFrom_14 : decode cX5_goneFrom 14 = .ok (.iaload, 1) := by decide +kernel
theorem dX5_goneFrom_15 : decode cX5_goneFrom 15 = .ok (.goto 16, 3) := by decide +kernel
theorem dX5_goneFrom_18 : decode cX5_goneFrom 18 = .ok (.aload_n 0, 1) := by decide +kernel
theorem dX5_goneFrom_19 : decode cX5_goneFrom 19 = .ok (.getfield 19, 3) := by decide +kernel
theorem dX5_goneFrom_22 : decode cX5_goneFrom 22 = .ok (.iconst 0, 1) := by decide +kernel
theorem dX5_goneFrom_23 : decode cX5_goneFrom 23 = .ok (.iaload, 1) := by decide +kernel
theorem dX5_goneFrom_24 : decode cX5_goneFrom 24 = .ok (.aload_n 0, 1) := by decide +kernel
theorem dX5_goneFrom_25 : decode cX5_goneFrom 25 = .ok (.getfield 19, 3) := by decide +kernel
theorem dX5_goneFrom_28 : decode cX5_goneFrom 28 = .ok (.iconst 1, 1) := by decide +kernel
theorem dX5_goneFrom_29 : decode cX5_goneFrom 29 = .ok (.iaload, 1) := by decide +kernel
theorem dX5_goneFrom_30 : decode cX5_goneFrom 30 = .ok (.iadd, 1) := by decide +kernel
theorem dX5_goneFrom_31 : decode cX5_goneFrom 31 = .ok (.ireturn, 1) := by decide +kernel
theorem dX5_partOf_0 : decode cX5_partOf 0 = .ok (.iload_n 1, 1) := by decide +kernel
theorem dX5_partOf_1 : decode cX5_partOf 1 = .ok (.iconst 3, 1) := by decide +kernel
theorem dX5_partOf_2 : decode cX5_partOf 2 = .ok (.if_icmp .ne 26, 3) := by decide +kernel
theorem dX5_partOf_5 : decode cX5_partOf 5 = .ok (.iload_n 2, 1) := by decide +kernel
theorem dX5_partOf_6 : decode cX5_partOf 6 = .ok (.bipush 7, 2) := by decide +kernel
theorem dX5_partOf_8 : decode cX5_partOf 8 = .ok (.irem, 1) := by decide +kernel
theorem dX5_partOf_9 : decode cX5_partOf 9 = .ok (.aload_n 0, 1) := by decide +kernel
theorem dX5_partOf_10 : decode cX5_partOf 10 = .ok (.getfield 22, 3) := by decide +kernel
theorem dX5_partOf_13 : decode cX5_partOf 13 = .ok (.getfield 26, 3) := by decide +kernel
theorem dX5_partOf_16 : decode cX5_partOf 16 = .ok (.bipush 7, 2) := by decide +kernel
theorem dX5_partOf_18 : decode cX5_partOf 18 = .ok (.irem, 1) := by decide +kernel
theorem dX5_partOf_19 : decode cX5_partOf 19 = .ok (.if_icmp .ne 7, 3) := by decide +kernel
theorem dX5_partOf_22 : decode cX5_partOf 22 = .ok (.iconst 1, 1) := by decide +kernel
theorem dX5_partOf_23 : decode cX5_partOf 23 = .ok (.goto 4, 3) := by decide +kernel
theorem dX5_partOf_26 : decode cX5_partOf 26 = .ok (.iconst 3, 1) := by decide +kernel
theorem dX5_partOf_27 : decode cX5_partOf 27 = .ok (.ireturn, 1) := by decide +kernel
theorem dX5_partOf_28 : decode cX5_partOf 28 = .ok (.iload_n 1, 1) := by decide +kernel
theorem dX5_partOf_29 : decode cX5_partOf 29 = .ok (.iconst 1, 1) := by decide +kernel
theorem dX5_partOf_30 : decode cX5_partOf 30 = .ok (.if_icmp .ne 7, 3) := by decide +kernel
theorem dX5_partOf_33 : decode cX5_partOf 33 = .ok (.iconst 2, 1) := by decide +kernel
theorem dX5_partOf_34 : decode cX5_partOf 34 = .ok (.goto 4, 3) := by decide +kernel
theorem dX5_partOf_37 : decode cX5_partOf 37 = .ok (.iconst 1, 1) := by decide +kernel
theorem dX5_partOf_38 : decode cX5_partOf 38 = .ok (.ireturn, 1) := by decide +kernel
theorem dX5_pass_0 : decode cX5_pass 0 = .ok (.aload_n 0, 1) := by decide +kernel
theorem dX5_pass_1 : decode cX5_pass 1 = .ok (.aload_n 1, 1) := by decide +kernel
theorem dX5_pass_2 : decode cX5_pass 2 = .ok (.iload_n 2, 1) := by decide +kernel
theorem dX5_pass_3 : decode cX5_pass 3 = .ok (.iload_n 3, 1) := by decide +kernel
theorem dX5_pass_4 : decode cX5_pass 4 = .ok (.invokevirtual 44, 3) := by decide +kernel
theorem dX5_pass_7 : decode cX5_pass 7 = .ok (.iconst 0, 1) := by decide +kernel
theorem dX5_pass_8 : decode cX5_pass 8 = .ok (.istore 4, 2) := by decide +kernel
theorem dX5_pass_10 : decode cX5_pass 10 = .ok (.iconst 0, 1) := by decide +kernel
theorem dX5_pass_11 : decode cX5_pass 11 = .ok (.istore 5, 2) := by decide +kernel
theorem dX5_pass_13 : decode cX5_pass 13 = .ok (.iload 5, 2) := by decide +kernel
theorem dX5_pass_15 : decode cX5_pass 15 = .ok (.aload_n 0, 1) := by decide +kernel
theorem dX5_pass_16 : decode cX5_pass 16 = .ok (.getfield 22, 3) := by decide +kernel
theorem dX5_pass_19 : decode cX5_pass 19 = .ok (.getfield 48, 3) := by decide +kernel
theorem dX5_pass_22 : decode cX5_pass 22 = .ok (.if_icmp .ge 75, 3) := by decide +kernel
theorem dX5_pass_25 : decode cX5_pass 25 = .ok (.aload_n 0, 1) := by decide +kernel
theorem dX5_pass_26 : decode cX5_pass 26 = .ok (.getfield 15, 3) := by decide +kernel
theorem dX5_pass_29 : decode cX5_pass 29 = .ok (.iload 5, 2) := by decide +kernel
theorem dX5_pass_31 : decode cX5_pass 31 = .ok (.iaload, 1) := by decide +kernel
theorem dX5_pass_32 : decode cX5_pass 32 = .ok (.aload_n 1, 1) := by decide +kernel
theorem dX5_pass_33 : decode cX5_pass 33 = .ok (.iload 5, 2) := by decide +kernel
theorem dX5_pass_35 : decode cX5_pass 35 = .ok (.iaload, 1) := by decide +kernel
theorem dX5_pass_36 : decode cX5_pass 36 = .ok (.if_icmp .ge 13, 3) := by decide +kernel
theorem dX5_pass_39 : decode cX5_pass 39 = .ok (.aload_n 0, 1) := by decide +kernel
theorem dX5_pass_40 : decode cX5_pass 40 = .ok (.getfield 15, 3) := by decide +kernel
theorem dX5_pass_43 : decode cX5_pass 43 = .ok (.iload 5, 2) := by decide +kernel
theorem dX5_pass_45 : decode cX5_pass 45 = .ok (.iaload, 1) := by decide +kernel
theorem dX5_pass_46 : decode cX5_pass 46 = .ok (.goto 7, 3) := by decide +kernel
theorem dX5_pass_49 : decode cX5_pass 49 = .ok (.aload_n 1, 1) := by decide +kernel
theorem dX5_pass_50 : decode cX5_pass 50 = .ok (.iload 5, 2) := by decide +kernel
theorem dX5_pass_52 : decode cX5_pass 52 = .ok (.iaload, 1) := by decide +kernel
theorem dX5_pass_53 : decode cX5_pass 53 = .ok (.istore 6, 2) := by decide +kernel
theorem dX5_pass_55 : decode cX5_pass 55 = .ok (.aload_n 1, 1) := by decide +kernel
theorem dX5_pass_56 : decode cX5_pass 56 = .ok (.iload 5, 2) := by decide +kernel
theorem dX5_pass_58 : decode cX5_pass 58 = .ok (.dup2, 1) := by decide +kernel
theorem dX5_pass_59 : decode cX5_pass 59 = .ok (.iaload, 1) := by decide +kernel
theorem dX5_pass_60 : decode cX5_pass 60 = .ok (.iload 6, 2) := by decide +kernel
theorem dX5_pass_62 : decode cX5_pass 62 = .ok (.isub, 1) := by decide +kernel
theorem dX5_pass_63 : decode cX5_pass 63 = .ok (.iastore, 1) := by decide +kernel
theorem dX5_pass_64 : decode cX5_pass 64 = .ok (.aload_n 0, 1) := by decide +kernel
theorem dX5_pass_65 : decode cX5_pass 65 = .ok (.getfield 19, 3) := by decide +kernel
theorem dX5_pass_68 : decode cX5_pass 68 = .ok (.aload_n 0, 1) := by decide +kernel
theorem dX5_pass_69 : decode cX5_pass 69 = .ok (.getfield 22, 3) := by decide +kernel
theorem dX5_pass_72 : decode cX5_pass 72 = .ok (.getfield 51, 3) := by decide +kernel
theorem dX5_pass_75 : decode cX5_pass 75 = .ok (.iload 5, 2) := by decide +kernel
theorem dX5_pass_77 : decode cX5_pass 77 = .ok (.iaload, 1) := by decide +kernel
theorem dX5_pass_78 : decode cX5_pass 78 = .ok (.dup2, 1) := by decide +kernel
theorem dX5_pass_79 : decode cX5_pass 79 = .ok (.iaload, 1) := by decide +kernel
theorem dX5_pass_80 : decode cX5_pass 80 = .ok (.iload 6, 2) := by decide +kernel
theorem dX5_pass_82 : decode cX5_pass 82 = .ok (.iadd, 1) := by decide +kernel
theorem dX5_pass_83 : decode cX5_pass 83 = .ok (.iastore, 1) := by decide +kernel
theorem dX5_pass_84 : decode cX5_pass 84 = .ok (.iload 4, 2) := by decide +kernel
theorem dX5_pass_86 : decode cX5_pass 86 = .ok (.iload 6, 2) := by decide +kernel
theorem dX5_pass_88 : decode cX5_pass 88 = .ok (.iadd, 1) := by decide +kernel
theorem dX5_pass_89 : decode cX5_pass 89 = .ok (.istore 4, 2) := by decide +kernel
theorem dX5_pass_91 : decode cX5_pass 91 = .ok (.iinc 5 1, 3) := by decide +kernel
theorem dX5_pass_94 : decode cX5_pass 94 = .ok (.goto (-81), 3) := by decide +kernel
theorem dX5_pass_97 : decode cX5_pass 97 = .ok (.iload 4, 2) := by decide +kernel
theorem dX5_pass_99 : decode cX5_pass 99 = .ok (.ireturn, 1) := by decide +kernel
theorem dX5_wantByGaps_0 : decode cX5_wantByGaps 0 = .ok (.iconst 0, 1) := by decide +kernel
theorem dX5_wantByGaps_1 : decode cX5_wantByGaps 1 = .ok (.istore 4, 2) := by decide +kernel
theorem dX5_wantByGaps_3 : decode cX5_wantByGaps 3 = .ok (.iload 4, 2) := by decide +kernel
theorem dX5_wantByGaps_5 : decode cX5_wantByGaps 5 = .ok (.aload_n 0, 1) := by decide +kernel
theorem dX5_wantByGaps_6 : decode cX5_wantByGaps 6 = .ok (.getfield 22, 3) := by decide +kernel
theorem dX5_wantByGaps_9 : decode cX5_wantByGaps 9 = .ok (.getfield 48, 3) := by decide +kernel
theorem dX5_wantByGaps_12 : decode cX5_wantByGaps 12 = .ok (.if_icmp .ge 17, 3) := by decide +kernel
theorem dX5_wantByGaps_15 : decode cX5_wantByGaps 15 = .ok (.aload_n 0, 1) := by decide +kernel
theorem dX5_wantByGaps_16 : decode cX5_wantByGaps 16 = .ok (.getfield 15, 3) := by decide +kernel
theorem dX5_wantByGaps_19 : decode cX5_wantByGaps 19 = .ok (.iload 4, 2) := by decide +kernel
theorem dX5_wantByGaps_21 : decode cX5_wantByGaps 21 = .ok (.iconst 0, 1) := by decide +kernel
theorem dX5_wantByGaps_22 : decode cX5_wantByGaps 22 = .ok (.iastore, 1) := by decide +kernel
theorem dX5_wantByGaps_23 : decode cX5_wantByGaps 23 = .ok (.iinc 4 1, 3) := by decide +kernel
theorem dX5_wantByGaps_26 : decode cX5_wantByGaps 26 = .ok (.goto (-23), 3) := by decide +kernel
theorem dX5_wantByGaps_29 : decode cX5_wantByGaps 29 = .ok (.iconst 0, 1) := by decide +kernel
theorem dX5_wantByGaps_30 : decode cX5_wantByGaps 30 = .ok (.istore 4, 2) := by decide +kernel
theorem dX5_wantByGaps_32 : decode cX5_wantByGaps 32 = .ok (.iload 4, 2) := by decide +kernel
theorem dX5_wantByGaps_34 : decode cX5_wantByGaps 34 = .ok (.aload_n 0, 1) := by decide +kernel
theorem dX5_wantByGaps_35 : decode cX5_wantByGaps 35 = .ok (.getfield 22, 3) := by decide +kernel
theorem dX5_wantByGaps_38 : decode cX5_wantByGaps 38 = .ok (.getfield 54, 3) := by decide +kernel
theorem dX5_wantByGaps_41 : decode cX5_wantByGaps 41 = .ok (.if_icmp .ge 117, 3) := by decide +kernel
theorem dX5_wantByGaps_44 : decode cX5_wantByGaps 44 = .ok (.aload_n 0, 1) := by decide +kernel
theorem dX5_wantByGaps_45 : decode cX5_wantByGaps 45 = .ok (.getfield 22, 3) := by decide +kernel
theorem dX5_wantByGaps_48 : decode cX5_wantByGaps 48 = .ok (.getfield 57, 3) := by decide +kernel
theorem dX5_wantByGaps_51 : decode cX5_wantByGaps 51 = .ok (.iload 4, 2) := by decide +kernel
theorem dX5_wantByGaps_53 : decode cX5_wantByGaps 53 = .ok (.iaload, 1) := by decide +kernel
theorem dX5_wantByGaps_54 : decode cX5_wantByGaps 54 = .ok (.istore 5, 2) := by decide +kernel
theorem dX5_wantByGaps_56 : decode cX5_wantByGaps 56 = .ok (.aload_n 0, 1) := by decide +kernel
theorem dX5_wantByGaps_57 : decode cX5_wantByGaps 57 = .ok (.getfield 22, 3) := by decide +kernel
theorem dX5_wantByGaps_60 : decode cX5_wantByGaps 60 = .ok (.getfield 60, 3) := by decide +kernel
theorem dX5_wantByGaps_63 : decode cX5_wantByGaps 63 = .ok (.iload 4, 2) := by decide +kernel
theorem dX5_wantByGaps_65 : decode cX5_wantByGaps 65 = .ok (.iaload, 1) := by decide +kernel
theorem dX5_wantByGaps_66 : decode cX5_wantByGaps 66 = .ok (.istore 6, 2) := by decide +kernel
theorem dX5_wantByGaps_68 : decode cX5_wantByGaps 68 = .ok (.aload_n 1, 1) := by decide +kernel
theorem dX5_wantByGaps_69 : decode cX5_wantByGaps 69 = .ok (.iload 5, 2) := by decide +kernel
theorem dX5_wantByGaps_71 : decode cX5_wantByGaps 71 = .ok (.iaload, 1) := by decide +kernel
theorem dX5_wantByGaps_72 : decode cX5_wantByGaps 72 = .ok (.aload_n 1, 1) := by decide +kernel
theorem dX5_wantByGaps_73 : decode cX5_wantByGaps 73 = .ok (.iload 6, 2) := by decide +kernel
theorem dX5_wantByGaps_75 : decode cX5_wantByGaps 75 = .ok (.iaload, 1) := by decide +kernel
theorem dX5_wantByGaps_76 : decode cX5_wantByGaps 76 = .ok (.isub, 1) := by decide +kernel
theorem dX5_wantByGaps_77 : decode cX5_wantByGaps 77 = .ok (.istore 7, 2) := by decide +kernel
theorem dX5_wantByGaps_79 : decode cX5_wantByGaps 79 = .ok (.iload 7, 2) := by decide +kernel
theorem dX5_wantByGaps_81 : decode cX5_wantByGaps 81 = .ok (.ifCond .ge 9, 3) := by decide +kernel
theorem dX5_wantByGaps_84 : decode cX5_wantByGaps 84 = .ok (.iload 7, 2) := by decide +kernel
theorem dX5_wantByGaps_86 : decode cX5_wantByGaps 86 = .ok (.ineg, 1) := by decide +kernel
theorem dX5_wantByGaps_87 : decode cX5_wantByGaps 87 = .ok (.goto 5, 3) := by decide +kernel
theorem dX5_wantByGaps_90 : decode cX5_wantByGaps 90 = .ok (.iload 7, 2) := by decide +kernel
theorem dX5_wantByGaps_92 : decode cX5_wantByGaps 92 = .ok (.iload_n 2, 1) := by decide +kernel
theorem dX5_wantByGaps_93 : decode cX5_wantByGaps 93 = .ok (.isub, 1) := by decide +kernel
theorem dX5_wantByGaps_94 : decode cX5_wantByGaps 94 = .ok (.istore 8, 2) := by decide +kernel
theorem dX5_wantByGaps_96 : decode cX5_wantByGaps 96 = .ok (.iload 8, 2) := by decide +kernel
theorem dX5_wantByGaps_98 : decode cX5_wantByGaps 98 = .ok (.ifCond .le 54, 3) := by decide +kernel
theorem dX5_wantByGaps_101 : decode cX5_wantByGaps 101 = .ok (.iload_n 3, 1) := by decide +kernel
theorem dX5_wantByGaps_102 : decode cX5_wantByGaps 102 = .ok (.ifCond .le 50, 3) := by decide +kernel
theorem dX5_wantByGaps_105 : decode cX5_wantByGaps 105 = .ok (.aload_n 0, 1) := by decide +kernel
theorem dX5_wantByGaps_106 : decode cX5_wantByGaps 106 = .ok (.getfield 22, 3) := by decide +kernel
theorem dX5_wantByGaps_109 : decode cX5_wantByGaps 109 = .ok (.getfield 63, 3) := by decide +kernel
theorem dX5_wantByGaps_112 : decode cX5_wantByGaps 112 = .ok (.iload 4, 2) := by decide +kernel
theorem dX5_wantByGaps_114 : decode cX5_wantByGaps 114 = .ok (.baload, 1) := by decide +kernel
theorem dX5_wantByGaps_115 : decode cX5_wantByGaps 115 = .ok (.ifCond .ne 37, 3) := by decide +kernel
theorem dX5_wantByGaps_118 : decode cX5_wantByGaps 118 = .ok (.aload_n 0, 1) := by decide +kernel
theorem dX5_wantByGaps_119 : decode cX5_wantByGaps 119 = .ok (.getfield 9, 3) := by decide +kernel
theorem dX5_wantByGaps_122 : decode cX5_wantByGaps 122 = .ok (.iload 4, 2) := by decide +kernel
theorem dX5_wantByGaps_124 : decode cX5_wantByGaps 124 = .ok (.baload, 1) := by decide +kernel
theorem dX5_wantByGaps_125 : decode cX5_wantByGaps 125 = .ok (.ifCond .ne 27, 3) := by decide +kernel
theorem dX5_wantByGaps_128 : decode cX5_wantByGaps 128 = .ok (.aload_n 0, 1) := by decide +kernel
theorem dX5_wantByGaps_129 : decode cX5_wantByGaps 129 = .ok (.getfield 15, 3) := by decide +kernel
theorem dX5_wantByGaps_132 : decode cX5_wantByGaps 132 = .ok (.iload 7, 2) := by decide +kernel
theorem dX5_wantByGaps_134 : decode cX5_wantByGaps 134 = .ok (.ifCond .le 8, 3) := by decide +kernel
theorem dX5_wantByGaps_137 : decode cX5_wantByGaps 137 = .ok (.iload 5, 2) := by decide +kernel
theorem dX5_wantByGaps_139 : decode cX5_wantByGaps 139 = .ok (.goto 5, 3) := by decide +kernel
theorem dX5_wantByGaps_142 : decode cX5_wantByGaps 142 = .ok (.iload 6, 2) := by decide +kernel
theorem dX5_wantByGaps_144 : decode cX5_wantByGaps 144 = .ok (.dup2, 1) := by decide +kernel
theorem dX5_wantByGaps_145 : decode cX5_wantByGaps 145 = .ok (.iaload, 1) := by decide +kernel
theorem dX5_wantByGaps_146 : decode cX5_wantByGaps 146 = .ok (.iload 8, 2) := by decide +kernel
theorem dX5_wantByGaps_148 : decode cX5_wantByGaps 148 = .ok (.iload_n 3, 1) := by decide +kernel
theorem dX5_wantByGaps_149 : decode cX5_wantByGaps 149 = .ok (.idiv, 1) := by decide +kernel
theorem dX5_wantByGaps_150 : decode cX5_wantByGaps 150 = .ok (.iadd, 1) := by decide +kernel
theorem dX5_wantByGaps_151 : decode cX5_wantByGaps 151 = .ok (.iastore, 1) := by decide +kernel
theorem dX5_wantByGaps_152 : decode cX5_wantByGaps 152 = .ok (.iinc 4 1, 3) := by decide +kernel
theorem dX5_wantByGaps_155 : decode cX5_wantByGaps 155 = .ok (.goto (-123), 3) := by decide +kernel
theorem dX5_wantByGaps_158 : decode cX5_wantByGaps 158 = .ok (.return_, 1) := by decide +kernel
theorem dX6_init_0 : decode cX6_init 0 = .ok (.aload_n 0, 1) := by decide +kernel
theorem dX6_init_1 : decode cX6_init 1 = .ok (.invokespecial 3, 3) := by decide +kernel
theorem dX6_init_4 : decode cX6_init 4 = .ok (.aload_n 0, 1) := by decide +kernel
theorem dX6_init_5 : decode cX6_init 5 = .ok (.bipush 8, 2) := by decide +kernel
theorem dX6_init_7 : decode cX6_init 7 = .ok (.newarray .int, 2) := by decide +kernel
theorem dX6_init_9 : decode cX6_init 9 = .ok (.putfield 9, 3) := by decide +kernel
theorem dX6_init_12 : decode cX6_init 12 = .ok (.aload_n 0, 1) := by decide +kernel
theorem dX6_init_13 : decode cX6_init 13 = .ok (.bipush 8, 2) := by decide +kernel
theorem dX6_init_15 : decode cX6_init 15 = .ok (.newarray .int, 2) := by decide +kernel
theorem dX6_init_17 : decode cX6_init 17 = .ok (.putfield 15, 3) := by decide +kernel
theorem dX6_init_20 : decode cX6_init 20 = .ok (.aload_n 0, 1) := by decide +kernel
theorem dX6_init_21 : decode cX6_init 21 = .ok (.bipush 8, 2) := by decide +kernel
theorem dX6_init_23 : decode cX6_init 23 = .ok (.newarray .int, 2) := by decide +kernel
theorem dX6_init_25 : decode cX6_init 25 = .ok (.putfield 18, 3) := by decide +kernel
theorem dX6_init_28 : decode cX6_init 28 = .ok (.aload_n 0, 1) := by decide +kernel
theorem dX6_init_29 : decode cX6_init 29 = .ok (.iconst 0, 1) := by decide +kernel
theorem dX6_init_30 : decode cX6_init 30 = .ok (.putfield 21, 3) := by decide +kernel
theorem dX6_init_33 : decode cX6_init 33 = .ok (.aload_n 0, 1) := by decide +kernel
theorem dX6_init_34 : decode cX6_init 34 = .ok (.aload_n 1, 1) := by decide +kernel
theorem dX6_init_35 : decode cX6_init 35 = .ok (.putfield 25, 3) := by decide +kernel
theorem dX6_init_38 : decode cX6_init 38 = .ok (.aload_n 0, 1) := by decide +kernel
theorem dX6_init_39 : decode cX6_init 39 = .ok (.aload_n 2, 1) := by decide +kernel
theorem dX6_init_40 : decode cX6_init 40 = .ok (.putfield 29, 3) := by decide +kernel
theorem dX6_init_43 : decode cX6_init 43 = .ok (.return_, 1) := by decide +kernel
theorem dX6_search_0 : decode cX6_search 0 = .ok (.aload_n 1, 1) := by decide +kernel
theorem dX6_search_1 : decode cX6_search 1 = .ok (.aload_n 0, 1) := by decide +kernel
theorem dX6_search_2 : decode cX6_search 2 = .ok (.getfield 9, 3) := by decide +kernel
theorem dX6_search_5 : decode cX6_search 5 = .ok (.invokestatic 33, 3) := by decide +kernel
theorem dX6_search_8 : decode cX6_search 8 = .ok (.aload_n 0, 1) := by decide +kernel
theorem dX6_search_9 : decode cX6_search 9 = .ok (.invokevirtual 37, 3) := by decide +kernel
theorem dX6_search_12 : decode cX6_search 12 = .ok (.aload_n 0, 1) := by decide +kernel
theorem dX6_search_13 : decode cX6_search 13 = .ok (.ldc 40, 2) := by decide +kernel
theorem dX6_search_15 : decode cX6_search 15 = .ok (.putfield 21, 3) := by decide +kernel
theorem dX6_search_18 : decode cX6_search 18 = .ok (.iconst 1, 1) := by decide +kernel
theorem dX6_search_19 : decode cX6_search 19 = .ok (.istore 4, 2) := by decide +kernel
theorem dX6_search_21 : decode cX6_search 21 = .ok (.iconst 0, 1) := by decide +kernel
theorem dX6_search_22 : decode cX6_search 22 = .ok (.istore 5, 2) := by decide +kernel
theorem dX6_search_24 : decode cX6_search 24 = .ok (.iload 5, 2) := by decide +kernel
theorem dX6_search_26 : decode cX6_search 26 = .ok (.ldc 41, 2) := by decide +kernel
theorem dX6_search_28 : decode cX6_search 28 = .ok (.if_icmp .ge 83, 3) := by decide +kernel
theorem dX6_search_31 : decode cX6_search 31 = .ok (.iload 4, 2) := by decide +kernel
theorem dX6_search_33 : decode cX6_search 33 = .ok (.ifCond .eq 78, 3) := by decide +kernel
theorem dX6_search_36 : decode cX6_search 36 = .ok (.aload_n 0, 1) := by decide +kernel
theorem dX6_search_37 : decode cX6_search 37 = .ok (.getfield 9, 3) := by decide +kernel
theorem dX6_search_40 : decode cX6_search 40 = .ok (.aload_n 0, 1) := by decide +kernel
theorem dX6_search_41 : decode cX6_search 41 = .ok (.getfield 15, 3) := by decide +kernel
theorem dX6_search_44 : decode cX6_search 44 = .ok (.invokestatic 33, 3) := by decide +kernel
theorem dX6_search_47 : decode cX6_search 47 = .ok (.aload_n 0, 1) := by decide +kernel
theorem dX6_search_48 : decode cX6_search 48 = .ok (.getfield 29, 3) := by decide +kernel
theorem dX6_search_51 : decode cX6_search 51 = .ok (.aload_n 0, 1) := by decide +kernel
theorem dX6_search_52 : decode cX6_search 52 = .ok (.getfield 25, 3) := by decide +kernel
theorem dX6_search_55 : decode cX6_search 55 = .ok (.getfield 42, 3) := by decide +kernel
theorem dX6_search_58 : decode cX6_search 58 = .ok (.aload_n 0, 1) := by decide +kernel
theorem dX6_search_59 : decode cX6_search 59 = .ok (.getfield 15, 3) := by decide +kernel
theorem dX6_search_62 : decode cX6_search 62 = .ok (.iload_n 2, 1) := by decide +kernel
theorem dX6_search_63 : decode cX6_search 63 = .ok (.iload_n 3, 1) := by decide +kernel
theorem dX6_search_64 : decode cX6_search 64 = .ok (.aload_n 0, 1) := by decide +kernel
theorem dX6_search_65 : decode cX6_search 65 = .ok (.getfield 21, 3) := by decide +kernel
theorem dX6_search_68 : decode cX6_search 68 = .ok (.invokevirtual 47, 3) := by decide +kernel
theorem dX6_search_71 : decode cX6_search 71 = .ok (.istore 6, 2) := by decide +kernel
theorem dX6_search_73 : decode cX6_search 73 = .ok (.iload 6, 2) := by decide +kernel
theorem dX6_search_75 : decode cX6_search 75 = .ok (.aload_n 0, 1) := by decide +kernel
theorem dX6_search_76 : decode cX6_search 76 = .ok (.getfield 21, 3) := by decide +kernel
theorem dX6_search_79 : decode cX6_search 79 = .ok (.if_icmp .ge 20, 3) := by decide +kernel
theorem dX6_search_82 : decode cX6_search 82 = .ok (.aload_n 0, 1) := by decide +kernel
theorem dX6_search_83 : decode cX6_search 83 = .ok (.iload 6, 2) := by decide +kernel
theorem dX6_search_85 : decode cX6_search 85 = .ok (.putfield 21, 3) := by decide +kernel
theorem dX6_search_88 : decode cX6_search 88 = .ok (.aload_n 0, 1) := by decide +kernel
theorem dX6_search_89 : decode cX6_search 89 = .ok (.getfield 9, 3) := by decide +kernel
theorem dX6_search_92 : decode cX6_search 92 = .ok (.aload_n 0, 1) := by decide +kernel
theorem dX6_search_93 : decode cX6_search 93 = .ok (.getfield 18, 3) := by decide +kernel
theorem dX6_search_96 : decode cX6_search 96 = .ok (.invokestatic 33, 3) := by decide +kernel
theorem dX6_search_99 : decode cX6_search 99 = .ok (.aload_n 0, 1) := by decide +kernel
theorem dX6_search_100 : decode cX6_search 100 = .ok (.invokevirtual 53, 3) := by decide +kernel
theorem dX6_search_103 : decode cX6_search 103 = .ok (.istore 4, 2) := by decide +kernel
theorem dX6_search_105 : decode cX6_search 105 = .ok (.iinc 5 1, 3) := by decide +kernel
theorem dX6_search_108 : decode cX6_search 108 = .ok (.goto (-84), 3) := by decide +kernel
theorem dX6_search_111 : decode cX6_search 111 = .ok (.return_, 1) := by decide +kernel
theorem dX6_sortRow_0 : decode cX6_sortRow 0 = .ok (.iconst 1, 1) := by decide +kernel
theorem dX6_sortRow_1 : decode cX6_sortRow 1 = .ok (.istore_n 1, 1) := by decide +kernel
theorem dX6_sortRow_2 : decode cX6_sortRow 2 = .ok (.iload_n 1, 1) := by decide +kernel
theorem dX6_sortRow_3 : decode cX6_sortRow 3 = .ok (.aload_n 0, 1) := by decide +kernel
theorem dX6_sortRow_4 : decode cX6_sortRow 4 = .ok (.getfield 25, 3) := by decide +kernel
theorem dX6_sortRow_7 : decode cX6_sortRow 7 = .ok (.getfield 57, 3) := by decide +kernel
theorem dX6_sortRow_10 : decode cX6_sortRow 10 = .ok (.if_icmp .ge 49, 3) := by decide +kernel
theorem dX6_sortRow_13 : decode cX6_sortRow 13 = .ok (.iload_n 1, 1) := by decide +kernel
theorem dX6_sortRow_14 : decode cX6_sortRow 14 = .ok (.istore_n 2, 1) := by decide +kernel
theorem dX6_sortRow_15 : decode cX6_sortRow 15 = .ok (.iload_n 2, 1) := by decide +kernel
theorem dX6_sortRow_16 : decode cX6_sortRow 16 = .ok (.ifCond .le 37, 3) := by decide +kernel
theorem dX6_sortRow_19 : decode cX6_sortRow 19 = .ok (.aload_n 0, 1) := by decide +kernel
theorem dX6_sortRow_20 : decode cX6_sortRow 20 = .ok (.getfield 9, 3) := by decide +kernel
theorem dX6_sortRow_23 : decode cX6_sortRow 23 = .ok (.iload_n 2, 1) := by decide +kernel
theorem dX6_sortRow_24 : decode cX6_sortRow 24 = .ok (.iaload, 1) := by decide +kernel
theorem dX6_sortRow_25 : decode cX6_sortRow 25 = .ok (.aload_n 0, 1) := by decide +kernel
theorem dX6_sortRow_26 : decode cX6_sortRow 26 = .ok (.getfield 9, 3) := by decide +kernel
theorem dX6_sortRow_29 : decode cX6_sortRow 29 = .ok (.iload_n 2, 1) := by decide +kernel
theorem dX6_sortRow_30 : decode cX6_sortRow 30 = .ok (.iconst 1, 1) := by decide +kernel
theorem dX6_sortRow_31 : decode cX6_sortRow 31 = .ok (.isub, 1) := by decide +kernel
theorem dX6_sortRow_32 : decode cX6_sortRow 32 = .ok (.iaload, 1) := by decide +kernel
theorem dX6_sortRow_33 : decode cX6_sortRow 33 = .ok (.if_icmp .ge 20, 3) := by decide +kernel
theorem dX6_sortRow_36 : decode cX6_sortRow 36 = .ok (.aload_n 0, 1) := by decide +kernel
theorem dX6_sortRow_37 : decode cX6_sortRow 37 = .ok (.getfield 9, 3) := by decide +kernel
theorem dX6_sortRow_40 : decode cX6_sortRow 40 = .ok (.iload_n 2, 1) := by decide +kernel
theorem dX6_sortRow_41 : decode cX6_sortRow 41 = .ok (.iload_n 2, 1) := by decide +kernel
theorem dX6_sortRow_42 : decode cX6_sortRow 42 = .ok (.iconst 1, 1) := by decide +kernel
theorem dX6_sortRow_43 : decode cX6_sortRow 43 = .ok (.isub, 1) := by decide +kernel
theorem dX6_sortRow_44 : decode cX6_sortRow 44 = .ok (.invokestatic 60, 3) := by decide +kernel
theorem dX6_sortRow_47 : decode cX6_sortRow 47 = .ok (.iinc 2 (-1), 3) := by decide +kernel
theorem dX6_sortRow_50 : decode cX6_sortRow 50 = .ok (.goto (-35), 3) := by decide +kernel
theorem dX6_sortRow_53 : decode cX6_sortRow 53 = .ok (.iinc 1 1, 3) := by decide +kernel
theorem dX6_sortRow_56 : decode cX6_sortRow 56 = .ok (.goto (-54), 3) := by decide +kernel
theorem dX6_sortRow_59 : decode cX6_sortRow 59 = .ok (.return_, 1) := by decide +kernel
theorem dX6_nextOrder_0 : decode cX6_nextOrder 0 = .ok (.aload_n 0, 1) := by decide +kernel
theorem dX6_nextOrder_1 : decode cX6_nextOrder 1 = .ok (.getfield 25, 3) := by decide +kernel
theorem dX6_nextOrder_4 : decode cX6_nextOrder 4 = .ok (.getfield 57, 3) := by decide +kernel
theorem dX6_nextOrder_7 : decode cX6_nextOrder 7 = .ok (.iconst 2, 1) := by decide +kernel
theorem dX6_nextOrder_8 : decode cX6_nextOrder 8 = .ok (.isub, 1) := by decide +kernel
theorem dX6_nextOrder_9 : decode cX6_nextOrder 9 = .ok (.istore_n 1, 1) := by decide +kernel
theorem dX6_nextOrder_10 : decode cX6_nextOrder 10 = .ok (.iload_n 1, 1) := by decide +kernel
theorem dX6_nextOrder_11 : decode cX6_nextOrder 11 = .ok (.ifCond .lt 26, 3) := by decide +kernel
theorem dX6_nextOrder_14 : decode cX6_nextOrder 14 = .ok (.aload_n 0, 1) := by decide +kernel
theorem dX6_nextOrder_15 : decode cX6_nextOrder 15 = .ok (.getfield 9, 3) := by decide +kernel
theorem dX6_nextOrder_18 : decode cX6_nextOrder 18 = .ok (.iload_n 1, 1) := by decide +kernel
theorem dX6_nextOrder_19 : decode cX6_nextOrder 19 = .ok (.iaload, 1) := by decide +kernel
theorem dX6_nextOrder_20 : decode cX6_nextOrder 20 = .ok (.aload_n 0, 1) := by decide +kernel
theorem dX6_nextOrder_21 : decode cX6_nextOrder 21 = .ok (.getfield 9, 3) := by decide +kernel
theorem dX6_nextOrder_24 : decode cX6_nextOrder 24 = .ok (.iload_n 1, 1) := by decide +kernel
theorem dX6_nextOrder_25 : decode cX6_nextOrder 25 = .ok (.iconst 1, 1) := by decide +kernel
theorem dX6_nextOrder_26 : decode cX6_nextOrder 26 = .ok (.iadd, 1) := by decide +kernel
theorem dX6_nextOrder_27 : decode cX6_nextOrder 27 = .ok (.iaload, 1) := by decide +kernel
theorem dX6_nextOrder_28 : decode cX6_nextOrder 28 = .ok (.if_icmp .lt 9, 3) := by decide +kernel
theorem dX6_nextOrder_31 : decode cX6_nextOrder 31 = .ok (.iinc 1 (-1), 3) := by decide +kernel
theorem dX6_nextOrder_34 : decode cX6_nextOrder 34 = .ok (.goto (-24), 3) := by decide +kernel
theorem dX6_nextOrder_37 : decode cX6_nextOrder 37 = .ok (.iload_n 1, 1) := by decide +kernel
theorem dX6_nextOrder_38 : decode cX6_nextOrder 38 = .ok (.ifCond .ge 5, 3) := by decide +kernel
theorem dX6_nextOrder_41 : decode cX6_nextOrder 41 = .ok (.iconst 0, 1) := by decide +kernel
theorem dX6_nextOrder_42 : decode cX6_nextOrder 42 = .ok (.ireturn, 1) := by decide +kernel
theorem dX6_nextOrder_43 : decode cX6_nextOrder 43 = .ok (.aload_n 0, 1) := by decide +kernel
theorem dX6_nextOrder_44 : decode cX6_nextOrder 44 = .ok (.getfield 25, 3) := by decide +kernel
theorem dX6_nextOrder_47 : decode cX6_nextOrder 47 = .ok (.getfield 57, 3) := by decide +kernel
theorem dX6_nextOrder_50 : decode cX6_nextOrder 50 = .ok (.iconst 1, 1) := by decide +kernel
theorem dX6_nextOrder_51 : decode cX6_nextOrder 51 = .ok (.isub, 1) := by decide +kernel
theorem dX6_nextOrder_52 : decode cX6_nextOrder 52 = .ok (.istore_n 2, 1) := by decide +kernel
theorem dX6_nextOrder_53 : decode cX6_nextOrder 53 = .ok (.iload_n 2, 1) := by decide +kernel
theorem dX6_nextOrder_54 : decode cX6_nextOrder 54 = .ok (.iload_n 1, 1) := by decide +kernel
theorem dX6_nextOrder_55 : decode cX6_nextOrder 55 = .ok (.iconst 1, 1) := by decide +kernel
theorem dX6_nextOrder_56 : decode cX6_nextOrder 56 = .ok (.iadd, 1) := by decide +kernel
theorem dX6_nextOrder_57 : decode cX6_nextOrder 57 = .ok (.if_icmp .le 24, 3) := by decide +kernel
theorem dX6_nextOrder_60 : decode cX6_nextOrder 60 = .ok (.aload_n 0, 1) := by decide +kernel
theorem dX6_nextOrder_61 : decode cX6_nextOrder 61 = .ok (.getfield 9, 3) := by decide +kernel
theorem dX6_nextOrder_64 : decode cX6_nextOrder 64 = .ok (.iload_n 2, 1) := by decide +kernel
theorem dX6_nextOrder_65 : decode cX6_nextOrder 65 = .ok (.iaload, 1) := by decide +kernel
theorem dX6_nextOrder_66 : decode cX6_nextOrder 66 = .ok (.aload_n 0, 1) := by decide +kernel
theorem dX6_nextOrder_67 : decode cX6_nextOrder 67 = .ok (.getfield 9, 3) := by decide +kernel
theorem dX6_nextOrder_70 : decode cX6_nextOrder 70 = .ok (.iload_n 1, 1) := by decide +kernel
theorem dX6_nextOrder_71 : decode cX6_nextOrder 71 = .ok (.iaload, 1) := by decide +kernel
theorem dX6_nextOrder_72 : decode cX6_nextOrder 72 = .ok (.if_icmp .gt 9, 3) := by decide +kernel
theorem dX6_nextOrder_75 : decode cX6_nextOrder 75 = .ok (.iinc 2 (-1), 3) := by decide +kernel
theorem dX6_nextOrder_78 : decode cX6_nextOrder 78 = .ok (.goto (-25), 3) := by decide +kernel
theorem dX6_nextOrder_81 : decode cX6_nextOrder 81 = .ok (.aload_n 0, 1) := by decide +kernel
theorem dX6_nextOrder_82 : decode cX6_nextOrder 82 = .ok (.getfield 9, 3) := by decide +kernel
theorem dX6_nextOrder_85 : decode cX6_nextOrder 85 = .ok (.iload_n 1, 1) := by decide +kernel
theorem dX6_nextOrder_86 : decode cX6_nextOrder 86 = .ok (.iload_n 2, 1) := by decide +kernel
theorem dX6_nextOrder_87 : decode cX6_nextOrder 87 = .ok (.invokestatic 60, 3) := by decide +kernel
theorem dX6_nextOrder_90 : decode cX6_nextOrder 90 = .ok (.iload_n 1, 1) := by decide +kernel
theorem dX6_nextOrder_91 : decode cX6_nextOrder 91 = .ok (.iconst 1, 1) := by decide +kernel
theorem dX6_nextOrder_92 : decode cX6_nextOrder 92 = .ok (.iadd, 1) := by decide +kernel
theorem dX6_nextOrder_93 : decode cX6_nextOrder 93 = .ok (.istore_n 3, 1) := by decide +kernel
theorem dX6_nextOrder_94 : decode cX6_nextOrder 94 = .ok (.aload_n 0, 1) := by decide +kernel
theorem dX6_nextOrder_95 : decode cX6_nextOrder 95 = .ok (.getfield 25, 3) := by decide +kernel
theorem dX6_nextOrder_98 : decode cX6_nextOrder 98 = .ok (.getfield 57, 3) := by decide +kernel
theorem dX6_nextOrder_101 : decode cX6_nextOrder 101 = .ok (.iconst 1, 1) := by decide +kernel
theorem dX6_nextOrder_102 : decode cX6_nextOrder 102 = .ok (.isub, 1) := by decide +kernel
theorem dX6_nextOrder_103 : decode cX6_nextOrder 103 = .ok (.istore 4, 2) := by decide +kernel
theorem dX6_nextOrder_105 : decode cX6_nextOrder 105 = .ok (.iload_n 3, 1) := by decide +kernel
theorem dX6_nextOrder_106 : decode cX6_nextOrder 106 = .ok (.iload 4, 2) := by decide +kernel
theorem dX6_nextOrder_108 : decode cX6_nextOrder 108 = .ok (.if_icmp .ge 22, 3) := by decide +kernel
theorem dX6_nextOrder_111 : decode cX6_nextOrder 111 = .ok (.aload_n 0, 1) := by decide +kernel
theorem dX6_nextOrder_112 : decode cX6_nextOrder 112 = .ok (.getfield 9, 3) := by decide +kernel
theorem dX6_nextOrder_115 : decode cX6_nextOrder 115 = .ok (.iload_n 3, 1) := by decide +kernel
theorem dX6_nextOrder_116 : decode cX6_nextOrder 116 = .ok (.iload 4, 2) := by decide +kernel
theorem dX6_nextOrder_118 : decode cX6_nextOrder 118 = .ok (.invokestatic 60, 3) := by decide +kernel
theorem dX6_nextOrder_121 : decode cX6_nextOrder 121 = .ok (.iinc 3 1, 3) := by decide +kernel
theorem dX6_nextOrder_124 : decode cX6_nextOrder 124 = .ok (.iinc 4 (-1), 3) := by decide +kernel
theorem dX6_nextOrder_127 : decode cX6_nextOrder 127 = .ok (.goto (-22), 3) := by decide +kernel
theorem dX6_nextOrder_130 : decode cX6_nextOrder 130 = .ok (.iconst 1, 1) := by decide +kernel
theorem dX6_nextOrder_131 : decode cX6_nextOrder 131 = .ok (.ireturn, 1) := by decide +kernel
theorem dX7_init_0 : decode cX7_init 0 = .ok (.aload_n 0, 1) := by decide +kernel
theorem dX7_init_1 : decode cX7_init 1 = .ok (.invokespecial 3, 3) := by decide +kernel
theorem dX7_init_4 : decode cX7_init 4 = .ok (.aload_n 0, 1) := by decide +kernel
theorem dX7_init_5 : decode cX7_init 5 = .ok (.new 9, 3) := by decide +kernel
theorem dX7_init_8 : decode cX7_init 8 = .ok (.dup, 1) := by decide +kernel
theorem dX7_init_9 : decode cX7_init 9 = .ok (.invokespecial 11, 3) := by decide +kernel
theorem dX7_init_12 : decode cX7_init 12 = .ok (.putfield 12, 3) := by decide +kernel
theorem dX7_init_15 : decode cX7_init 15 = .ok (.aload_n 0, 1) := by decide +kernel
theorem dX7_init_16 : decode cX7_init 16 = .ok (.new 9, 3) := by decide +kernel
theorem dX7_init_19 : decode cX7_init 19 = .ok (.dup, 1) := by decide +kernel
theorem dX7_init_20 : decode cX7_init 20 = .ok (.invokespecial 11, 3) := by decide +kernel
theorem dX7_init_23 : decode cX7_init 23 = .ok (.putfield 18, 3) := by decide +kernel
theorem dX7_init_26 : decode cX7_init 26 = .ok (.aload_n 0, 1) := by decide +kernel
theorem dX7_init_27 : decode cX7_init 27 = .ok (.bipush 8, 2) := by decide +kernel
theorem dX7_init_29 : decode cX7_init 29 = .ok (.newarray .int, 2) := by decide +kernel
theorem dX7_init_31 : decode cX7_init 31 = .ok (.putfield 21, 3) := by decide +kernel
theorem dX7_init_34 : decode cX7_init 34 = .ok (.aload_n 0, 1) := by decide +kernel
theorem dX7_init_35 : decode cX7_init 35 = .ok (.bipush 8, 2) := by decide +kernel
theorem dX7_init_37 : decode cX7_init 37 = .ok (.newarray .int, 2) := by decide +kernel
theorem dX7_init_39 : decode cX7_init 39 = .ok (.putfield 25, 3) := by decide +kernel
theorem dX7_init_42 : decode cX7_init 42 = .ok (.aload_n 0, 1) := by decide +kernel
theorem dX7_init_43 : decode cX7_init 43 = .ok (.iconst 0, 1) := by decide +kernel
theorem dX7_init_44 : decode cX7_init 44 = .ok (.putfield 28, 3) := by decide +kernel
theorem dX7_init_47 : decode cX7_init 47 = .ok (.aload_n 0, 1) := by decide +kernel
theorem dX7_init_48 : decode cX7_init 48 = .ok (.iconst 0, 1) := by decide +kernel
theorem dX7_init_49 : decode cX7_init 49 = .ok (.putfield 32, 3) := by decide +kernel
theorem dX7_init_52 : decode cX7_init 52 = .ok (.aload_n 0, 1) := by decide +kernel
theorem dX7_init_53 : decode cX7_init 53 = .ok (.iconst 0, 1) := by decide +kernel
theorem dX7_init_54 : decode cX7_init 54 = .ok (.putfield 35, 3) := by decide +kernel
theorem dX7_init_57 : decode cX7_init 57 = .ok (.aload_n 0, 1) := by decide +kernel
theorem dX7_init_58 : decode cX7_init 58 = .ok (.iconst 0, 1) := by decide +kernel
theorem dX7_init_59 : decode cX7_init 59 = .ok (.putfield 38, 3) := by decide +kernel
theorem dX7_init_62 : decode cX7_init 62 = .ok (.aload_n 0, 1) := by decide +kernel
theorem dX7_init_63 : decode cX7_init 63 = .ok (.aload_n 1, 1) := by decide +kernel
theorem dX7_init_64 : decode cX7_init 64 = .ok (.putfield 41, 3) := by decide +kernel
theorem dX7_init_67 : decode cX7_init 67 = .ok (.aload_n 0, 1) := by decide +kernel
theorem dX7_init_68 : decode cX7_init 68 = .ok (.aload_n 2, 1) := by decide +kernel
theorem dX7_init_69 : decode cX7_init 69 = .ok (.putfield 45, 3) := by decide +kernel
theorem dX7_init_72 : decode cX7_init 72 = .ok (.return_, 1) := by decide +kernel
theorem dX7_search_0 : decode cX7_search 0 = .ok (.aload_n 0, 1) := by decide +kernel
theorem dX7_search_1 : decode cX7_search 1 = .ok (.ldc 49, 2) := by decide +kernel
theorem dX7_search_3 : decode cX7_search 3 = .ok (.putfield 28, 3) := by decide +kernel
theorem dX7_search_6 : decode cX7_search 6 = .ok (.aload_n 0, 1) := by decide +kernel
theorem dX7_search_7 : decode cX7_search 7 = .ok (.getfield 12, 3) := by decide +kernel
theorem dX7_search_10 : decode cX7_search 10 = .ok (.invokevirtual 50, 3) := by decide +kernel
theorem dX7_search_13 : decode cX7_search 13 = .ok (.iconst 1, 1) := by decide +kernel
theorem dX7_search_14 : decode cX7_search 14 = .ok (.istore 5, 2) := by decide +kernel
theorem dX7_search_16 : decode cX7_search 16 = .ok (.iconst 0, 1) := by decide +kernel
theorem dX7_search_17 : decode cX7_search 17 = .ok (.istore 6, 2) := by decide +kernel
theorem dX7_search_19 : decode cX7_search 19 = .ok (.iload 6, 2) := by decide +kernel
theorem dX7_search_21 : decode cX7_search 21 = .ok (.sipush 281, 3) := by decide +kernel
theorem dX7_search_24 : decode cX7_search 24 = .ok (.if_icmp .ge 145, 3) := by decide +kernel
theorem dX7_search_27 : decode cX7_search 27 = .ok (.iload 5, 2) := by decide +kernel
theorem dX7_search_29 : decode cX7_search 29 = .ok (.ifCond .eq 140, 3) := by decide +kernel
theorem dX7_search_32 : decode cX7_search 32 = .ok (.aload_n 0, 1) := by decide +kernel
theorem dX7_search_33 : decode cX7_search 33 = .ok (.getfield 12, 3) := by decide +kernel
theorem dX7_search_36 : decode cX7_search 36 = .ok (.aload_n 1, 1) := by decide +kernel
theorem dX7_search_37 : decode cX7_search 37 = .ok (.aload_n 0, 1) := by decide +kernel
theorem dX7_search_38 : decode cX7_search 38 = .ok (.getfield 21, 3) := by decide +kernel
theorem dX7_search_41 : decode cX7_search 41 = .ok (.invokevirtual 53, 3) := by decide +kernel
theorem dX7_search_44 : decode cX7_search 44 = .ok (.aload_n 0, 1) := by decide +kernel
theorem dX7_search_45 : decode cX7_search 45 = .ok (.getfield 45, 3) := by decide +kernel
theorem dX7_search_48 : decode cX7_search 48 = .ok (.aload_n 0, 1) := by decide +kernel
theorem dX7_search_49 : decode cX7_search 49 = .ok (.getfield 41, 3) := by decide +kernel
theorem dX7_search_52 : decode cX7_search 52 = .ok (.getfield 57, 3) := by decide +kernel
theorem dX7_search_55 : decode cX7_search 55 = .ok (.aload_n 0, 1) := by decide +kernel
theorem dX7_search_56 : decode cX7_search 56 = .ok (.getfield 21, 3) := by decide +kernel
theorem dX7_search_59 : decode cX7_search 59 = .ok (.iload_n 2, 1) := by decide +kernel
theorem dX7_search_60 : decode cX7_search 60 = .ok (.iconst 1, 1) := by decide +kernel
theorem dX7_search_61 : decode cX7_search 61 = .ok (.ldc 49, 2) := by decide +kernel
theorem dX7_search_63 : decode cX7_search 63 = .ok (.invokevirtual 62, 3) := by decide +kernel
theorem dX7_search_66 : decode cX7_search 66 = .ok (.istore 7, 2) := by decide +kernel
theorem dX7_search_68 : decode cX7_search 68 = .ok (.iload_n 3, 1) := by decide +kernel
theorem dX7_search_69 : decode cX7_search 69 = .ok (.iconst 2, 1) := by decide +kernel
theorem dX7_search_70 : decode cX7_search 70 = .ok (.if_icmp .ne 26, 3) := by decide +kernel
theorem dX7_search_73 : decode cX7_search 73 = .ok (.iload 7, 2) := by decide +kernel
theorem dX7_search_75 : decode cX7_search 75 = .ok (.aload_n 0, 1) := by decide +kernel
theorem dX7_search_76 : decode cX7_search 76 = .ok (.getfield 28, 3) := by decide +kernel
theorem dX7_search_79 : decode cX7_search 79 = .ok (.if_icmp .ge 17, 3) := by decide +kernel
theorem dX7_search_82 : decode cX7_search 82 = .ok (.iload 7, 2) := by decide +kernel
theorem dX7_search_84 : decode cX7_search 84 = .ok (.aload_n 0, 1) := by decide +kernel
theorem dX7_search_85 : decode cX7_search 85 = .ok (.iload_n 2, 1) := by decide +kernel
theorem dX7_search_86 : decode cX7_search 86 = .ok (.iconst 1, 1) := by decide +kernel
theorem dX7_search_87 : decode cX7_search 87 = .ok (.iadd, 1) := by decide +kernel
theorem dX7_search_88 : decode cX7_search 88 = .ok (.iload 4, 2) := by decide +kernel
theorem dX7_search_90 : decode cX7_search 90 = .ok (.invokevirtual 68, 3) := by decide +kernel
theorem dX7_search_93 : decode cX7_search 93 = .ok (.iadd, 1) := by decide +kernel
theorem dX7_search_94 : decode cX7_search 94 = .ok (.istore 7, 2) := by decide +kernel
theorem dX7_search_96 : decode cX7_search 96 = .ok (.iload 7, 2) := by decide +kernel
theorem dX7_search_98 : decode cX7_search 98 = .ok (.aload_n 0, 1) := by decide +kernel
theorem dX7_search_99 : decode cX7_search 99 = .ok (.getfield 28, 3) := by decide +kernel
theorem dX7_search_102 : decode cX7_search 102 = .ok (.if_icmp .ge 42, 3) := by decide +kernel
theorem dX7_search_105 : decode cX7_search 105 = .ok (.aload_n 0, 1) := by decide +kernel
theorem dX7_search_106 : decode cX7_search 106 = .ok (.iload 7, 2) := by decide +kernel
theorem dX7_search_108 : decode cX7_search 108 = .ok (.putfield 28, 3) := by decide +kernel
theorem dX7_search_111 : decode cX7_search 111 = .ok (.aload_n 0, 1) := by decide +kernel
theorem dX7_search_112 : decode cX7_search 112 = .ok (.aload_n 0, 1) := by decide +kernel
theorem dX7_search_113 : decode cX7_search 113 = .ok (.getfield 12, 3) := by decide +kernel
theorem dX7_search_116 : decode cX7_search 116 = .ok (.getfield 72, 3) := by decide +kernel
theorem dX7_search_119 : decode cX7_search 119 = .ok (.putfield 32, 3) := by decide +kernel
theorem dX7_search_122 : decode cX7_search 122 = .ok (.aload_n 0, 1) := by decide +kernel
theorem dX7_search_123 : decode cX7_search 123 = .ok (.aload_n 0, 1) := by decide +kernel
theorem dX7_search_124 : decode cX7_search 124 = .ok (.getfield 12, 3) := by decide +kernel
theorem dX7_search_127 : decode cX7_search 127 = .ok (.getfield 73, 3) := by decide +kernel
theorem dX7_search_130 : decode cX7_search 130 = .ok (.putfield 35, 3) := by decide +kernel
theorem dX7_search_133 : decode cX7_search 133 = .ok (.aload_n 0, 1) := by decide +kernel
theorem dX7_search_134 : decode cX7_search 134 = .ok (.aload_n 0, 1) := by decide +kernel
theorem dX7_search_135 : decode cX7_search 135 = .ok (.getfield 12, 3) := by decide +kernel
theorem dX7_search_138 : decode cX7_search 138 = .ok (.getfield 74, 3) := by decide +kernel
theorem dX7_search_141 : decode cX7_search 141 = .ok (.putfield 38, 3) := by decide +kernel
theorem dX7_search_144 : decode cX7_search 144 = .ok (.aload_n 0, 1) := by decide +kernel
theorem dX7_search_145 : decode cX7_search 145 = .ok (.getfield 12, 3) := by decide +kernel
theorem dX7_search_148 : decode cX7_search 148 = .ok (.aload_n 1, 1) := by decide +kernel
theorem dX7_search_149 : decode cX7_search 149 = .ok (.aload_n 0, 1) := by decide +kernel
theorem dX7_search_150 : decode cX7_search 150 = .ok (.getfield 41, 3) := by decide +kernel
theorem dX7_search_153 : decode cX7_search 153 = .ok (.getfield 75, 3) := by decide +kernel
theorem dX7_search_156 : decode cX7_search 156 = .ok (.iload 4, 2) := by decide +kernel
theorem dX7_search_158 : decode cX7_search 158 = .ok (.invokevirtual 78, 3) := by decide +kernel
theorem dX7_search_161 : decode cX7_search 161 = .ok (.istore 5, 2) := by decide +kernel
theorem dX7_search_163 : decode cX7_search 163 = .ok (.iinc 6 1, 3) := by decide +kernel
theorem dX7_search_166 : decode cX7_search 166 = .ok (.goto (-147), 3) := by decide +kernel
theorem dX7_search_169 : decode cX7_search 169 = .ok (.return_, 1) := by decide +kernel
theorem dX7_leastTomorrow_0 : decode cX7_leastTomorrow 0 = .ok (.ldc 49, 2) := by decide +kernel
theorem dX7_leastTomorrow_2 : decode cX7_leastTomorrow 2 = .ok (.istore_n 3, 1) := by decide +kernel
theorem dX7_leastTomorrow_3 : decode cX7_leastTomorrow 3 = .ok (.aload_n 0, 1) := by decide +kernel
theorem dX7_leastTomorrow_4 : decode cX7_leastTomorrow 4 = .ok (.getfield 18, 3) := by decide +kernel
theorem dX7_leastTomorrow_7 : decode cX7_leastTomorrow 7 = .ok (.invokevirtual 50, 3) := by decide +kernel
theorem dX7_leastTomorrow_10 : decode cX7_leastTomorrow 10 = .ok (.iconst 1, 1) := by decide +kernel
theorem dX7_leastTomorrow_11 : decode cX7_leastTomorrow 11 = .ok (.istore 4, 2) := by decide +kernel
theorem dX7_leastTomorrow_13 : decode cX7_leastTomorrow 13 = .ok (.iconst 0, 1) := by decide +kernel
theorem dX7_leastTomorrow_14 : decode cX7_leastTomorrow 14 = .ok (.istore 5, 2) := by decide +kernel
theorem dX7_leastTomorrow_16 : decode cX7_leastTomorrow 16 = .ok (.iload 5, 2) := by decide +kernel
theorem dX7_leastTomorrow_18 : decode cX7_leastTomorrow 18 = .ok (.sipush 281, 3) := by decide +kernel
theorem dX7_leastTomorrow_21 : decode cX7_leastTomorrow 21 = .ok (.if_icmp .ge 81, 3) := by decide +kernel
theorem dX7_leastTomorrow_24 : decode cX7_leastTomorrow 24 = .ok (.iload 4, 2) := by decide +kernel
theorem dX7_leastTomorrow_26 : decode cX7_leastTomorrow 26 = .ok (.ifCond .eq 76, 3) := by decide +kernel
theorem dX7_leastTomorrow_29 : decode cX7_leastTomorrow 29 = .ok (.iload_n 3, 1) := by decide +kernel
theorem dX7_leastTomorrow_30 : decode cX7_leastTomorrow 30 = .ok (.ifCond .le 72, 3) := by decide +kernel
theorem dX7_leastTomorrow_33 : decode cX7_leastTomorrow 33 = .ok (.aload_n 0, 1) := by decide +kernel
theorem dX7_leastTomorrow_34 : decode cX7_leastTomorrow 34 = .ok (.getfield 18, 3) := by decide +kernel
theorem dX7_leastTomorrow_37 : decode cX7_leastTomorrow 37 = .ok (.aload_n 0, 1) := by decide +kernel
theorem dX7_leastTomorrow_38 : decode cX7_leastTomorrow 38 = .ok (.getfield 21, 3) := by decide +kernel
theorem dX7_leastTomorrow_41 : decode cX7_leastTomorrow 41 = .ok (.aload_n 0, 1) := by decide +kernel
theorem dX7_leastTomorrow_42 : decode cX7_leastTomorrow 42 = .ok (.getfield 25, 3) := by decide +kernel
theorem dX7_leastTomorrow_45 : decode cX7_leastTomorrow 45 = .ok (.invokevirtual 53, 3) := by decide +kernel
theorem dX7_leastTomorrow_48 : decode cX7_leastTomorrow 48 = .ok (.iload_n 3, 1) := by decide +kernel
theorem dX7_leastTomorrow_49 : decode cX7_leastTomorrow 49 = .ok (.aload_n 0, 1) := by decide +kernel
theorem dX7_leastTomorrow_50 : decode cX7_leastTomorrow 50 = .ok (.getfield 45, 3) := by decide +kernel
theorem dX7_leastTomorrow_53 : decode cX7_leastTomorrow 53 = .ok (.aload_n 0, 1) := by decide +kernel
theorem dX7_leastTomorrow_54 : decode cX7_leastTomorrow 54 = .ok (.getfield 41, 3) := by decide +kernel
theorem dX7_leastTomorrow_57 : decode cX7_leastTomorrow 57 = .ok (.getfield 57, 3) := by decide +kernel
theorem dX7_leastTomorrow_60 : decode cX7_leastTomorrow 60 = .ok (.aload_n 0, 1) := by decide +kernel
theorem dX7_leastTomorrow_61 : decode cX7_leastTomorrow 61 = .ok (.getfield 25, 3) := by decide +kernel
theorem dX7_leastTomorrow_64 : decode cX7_leastTomorrow 64 = .ok (.iload_n 1, 1) := by decide +kernel
theorem dX7_leastTomorrow_65 : decode cX7_leastTomorrow 65 = .ok (.iconst 1, 1) := by decide +kernel
theorem dX7_leastTomorrow_66 : decode cX7_leastTomorrow 66 = .ok (.ldc 49, 2) := by decide +kernel
theorem dX7_leastTomorrow_68 : decode cX7_leastTomorrow 68 = .ok (.invokevirtual 62, 3) := by decide +kernel
theorem dX7_leastTomorrow_71 : decode cX7_leastTomorrow 71 = .ok (.invokestatic 82, 3) := by decide +kernel
theorem dX7_leastTomorrow_74 : decode cX7_leastTomorrow 74 = .ok (.istore_n 3, 1) := by decide +kernel
theorem dX7_leastTomorrow_75 : decode cX7_leastTomorrow 75 = .ok (.aload_n 0, 1) := by decide +kernel
theorem dX7_leastTomorrow_76 : decode cX7_leastTomorrow 76 = .ok (.getfield 18, 3) := by decide +kernel
theorem dX7_leastTomorrow_79 : decode cX7_leastTomorrow 79 = .ok (.aload_n 0, 1) := by decide +kernel
theorem dX7_leastTomorrow_80 : decode cX7_leastTomorrow 80 = .ok (.getfield 21, 3) := by decide +kernel
theorem dX7_leastTomorrow_83 : decode cX7_leastTomorrow 83 = .ok (.aload_n 0, 1) := by decide +kernel
theorem dX7_leastTomorrow_84 : decode cX7_leastTomorrow 84 = .ok (.getfield 41, 3) := by decide +kernel
theorem dX7_leastTomorrow_87 : decode cX7_leastTomorrow 87 = .ok (.getfield 75, 3) := by decide +kernel
theorem dX7_leastTomorrow_90 : decode cX7_leastTomorrow 90 = .ok (.iload_n 2, 1) := by decide +kernel
theorem dX7_leastTomorrow_91 : decode cX7_leastTomorrow 91 = .ok (.invokevirtual 78, 3) := by decide +kernel
theorem dX7_leastTomorrow_94 : decode cX7_leastTomorrow 94 = .ok (.istore 4, 2) := by decide +kernel
theorem dX7_leastTomorrow_96 : decode cX7_leastTomorrow 96 = .ok (.iinc 5 1, 3) := by decide +kernel
theorem dX7_leastTomorrow_99 : decode cX7_leastTomorrow 99 = .ok (.goto (-83), 3) := by decide +kernel
theorem dX7_leastTomorrow_102 : decode cX7_leastTomorrow 102 = .ok (.iload_n 3, 1) := by decide +kernel
theorem dX7_leastTomorrow_103 : decode cX7_leastTomorrow 103 = .ok (.ireturn, 1) := by decide +kernel
theorem dX8_init_0 : decode cX8_init 0 = .ok (.aload_n 0, 1) := by decide +kernel
theorem dX8_init_1 : decode cX8_init 1 = .ok (.invokespecial 3, 3) := by decide +kernel
theorem dX8_init_4 : decode cX8_init 4 = .ok (.aload_n 0, 1) := by decide +kernel
theorem dX8_init_5 : decode cX8_init 5 = .ok (.iconst 0, 1) := by decide +kernel
theorem dX8_init_6 : decode cX8_init 6 = .ok (.putfield 9, 3) := by decide +kernel
theorem dX8_init_9 : decode cX8_init 9 = .ok (.aload_n 0, 1) := by decide +kernel
theorem dX8_init_10 : decode cX8_init 10 = .ok (.iconst 0, 1) := by decide +kernel
theorem dX8_init_11 : decode cX8_init 11 = .ok (.putfield 15, 3) := by decide +kernel
theorem dX8_init_14 : decode cX8_init 14 = .ok (.aload_n 0, 1) := by decide +kernel
theorem dX8_init_15 : decode cX8_init 15 = .ok (.iconst 0, 1) := by decide +kernel
theorem dX8_init_16 : decode cX8_init 16 = .ok (.putfield 18, 3) := by decide +kernel
theorem dX8_init_19 : decode cX8_init 19 = .ok (.return_, 1) := by decide +kernel
theorem dX8_toNothing_0 : decode cX8_toNothing 0 = .ok (.aload_n 0, 1) := by decide +kernel
theorem dX8_toNothing_1 : decode cX8_toNothing 1 = .ok (.iconst 0, 1) := by decide +kernel
theorem dX8_toNothing_2 : decode cX8_toNothing 2 = .ok (.putfield 9, 3) := by decide +kernel
theorem dX8_toNothing_5 : decode cX8_toNothing 5 = .ok (.aload_n 0, 1) := by decide +kernel
theorem dX8_toNothing_6 : decode cX8_toNothing 6 = .ok (.iconst 0, 1) := by decide +kernel
theorem dX8_toNothing_7 : decode cX8_toNothing 7 = .ok (.putfield 15, 3) := by decide +kernel
theorem dX8_toNothing_10 : decode cX8_toNothing 10 = .ok (.aload_n 0, 1) := by decide +kernel
theorem dX8_toNothing_11 : decode cX8_toNothing 11 = .ok (.iconst 0, 1) := by decide +kernel
theorem dX8_toNothing_12 : decode cX8_toNothing 12 = .ok (.putfield 18, 3) := by decide +kernel
theorem dX8_toNothing_15 : decode cX8_toNothing 15 = .ok (.return_, 1) := by decide +kernel
theorem dX8_toNext_0 : decode cX8_toNext 0 = .ok (.aload_n 0, 1) := by decide +kernel
theorem dX8_toNext_1 : decode cX8_toNext 1 = .ok (.getfield 18, 3) := by decide +kernel
theorem dX8_toNext_4 : decode cX8_toNext 4 = .ok (.ifCond .le 44, 3) := by decide +kernel
theorem dX8_toNext_7 : decode cX8_toNext 7 = .ok (.aload_n 0, 1) := by decide +kernel
theorem dX8_toNext_8 : decode cX8_toNext 8 = .ok (.getfield 18, 3) := by decide +kernel
theorem dX8_toNext_11 : decode cX8_toNext 11 = .ok (.iload_n 3, 1) := by decide +kernel
theorem dX8_toNext_12 : decode cX8_toNext 12 = .ok (.if_icmp .ge 36, 3) := by decide +kernel
theorem dX8_toNext_15 : decode cX8_toNext 15 = .ok (.aload_n 1, 1) := by decide +kernel
theorem dX8_toNext_16 : decode cX8_toNext 16 = .ok (.aload_n 0, 1) := by decide +kernel
theorem dX8_toNext_17 : decode cX8_toNext 17 = .ok (.getfield 9, 3) := by decide +kernel
theorem dX8_toNext_20 : decode cX8_toNext 20 = .ok (.aload_n 0, 1) := by decide +kernel
theorem dX8_toNext_21 : decode cX8_toNext 21 = .ok (.getfield 15, 3) := by decide +kernel
theorem dX8_toNext_24 : decode cX8_toNext 24 = .ok (.aload_n 0, 1) := by decide +kernel
theorem dX8_toNext_25 : decode cX8_toNext 25 = .ok (.getfield 18, 3) := by decide +kernel
theorem dX8_toNext_28 : decode cX8_toNext 28 = .ok (.iconst 1, 1) := by decide +kernel
theorem dX8_toNext_29 : decode cX8_toNext 29 = .ok (.iadd, 1) := by decide +kernel
theorem dX8_toNext_30 : decode cX8_toNext 30 = .ok (.invokestatic 21, 3) := by decide +kernel
theorem dX8_toNext_33 : decode cX8_toNext 33 = .ok (.ifCond .eq 15, 3) := by decide +kernel
theorem dX8_toNext_36 : decode cX8_toNext 36 = .ok (.aload_n 0, 1) := by decide +kernel
theorem dX8_toNext_37 : decode cX8_toNext 37 = .ok (.dup, 1) := by decide +kernel
theorem dX8_toNext_38 : decode cX8_toNext 38 = .ok (.getfield 18, 3) := by decide +kernel
theorem dX8_toNext_41 : decode cX8_toNext 41 = .ok (.iconst 1, 1) := by decide +kernel
theorem dX8_toNext_42 : decode cX8_toNext 42 = .ok (.iadd, 1) := by decide +kernel
theorem dX8_toNext_43 : decode cX8_toNext 43 = .ok (.putfield 18, 3) := by decide +kernel
theorem dX8_toNext_46 : decode cX8_toNext 46 = .ok (.iconst 1, 1) := by decide +kernel
theorem dX8_toNext_47 : decode cX8_toNext 47 = .ok (.ireturn, 1) := by decide +kernel
theorem dX8_toNext_48 : decode cX8_toNext 48 = .ok (.aload_n 0, 1) := by decide +kernel
theorem dX8_toNext_49 : decode cX8_toNext 49 = .ok (.getfield 9, 3) := by decide +kernel
theorem dX8_toNext_52 : decode cX8_toNext 52 = .ok (.bipush 8, 2) := by decide +kernel
theorem dX8_toNext_54 : decode cX8_toNext 54 = .ok (.imul, 1) := by decide +kernel
theorem dX8_toNext_55 : decode cX8_toNext 55 = .ok (.aload_n 0, 1) := by decide +kernel
theorem dX8_toNext_56 : decode cX8_toNext 56 = .ok (.getfield 15, 3) := by decide +kernel
theorem dX8_toNext_59 : decode cX8_toNext 59 = .ok (.iadd, 1) := by decide +kernel
theorem dX8_toNext_60 : decode cX8_toNext 60 = .ok (.iconst 1, 1) := by decide +kernel
theorem dX8_toNext_61 : decode cX8_toNext 61 = .ok (.iadd, 1) := by decide +kernel
theorem dX8_toNext_62 : decode cX8_toNext 62 = .ok (.istore 4, 2) := by decide +kernel
theorem dX8_toNext_64 : decode cX8_toNext 64 = .ok (.iload 4, 2) := by decide +kernel
theorem dX8_toNext_66 : decode cX8_toNext 66 = .ok (.iload_n 2, 1) := by decide +kernel
theorem dX8_toNext_67 : decode cX8_toNext 67 = .ok (.bipush 8, 2) := by decide +kernel
theorem dX8_toNext_69 : decode cX8_toNext 69 = .ok (.imul, 1) := by decide +kernel
theorem dX8_toNext_70 : decode cX8_toNext 70 = .ok (.if_icmp .ge 69, 3) := by decide +kernel
theorem dX8_toNext_73 : decode cX8_toNext 73 = .ok (.aload_n 0, 1) := by decide +kernel
theorem dX8_toNext_74 : decode cX8_toNext 74 = .ok (.iload 4, 2) := by decide +kernel
theorem dX8_toNext_76 : decode cX8_toNext 76 = .ok (.bipush 8, 2) := by decide +kernel
theorem dX8_toNext_78 : decode cX8_toNext 78 = .ok (.idiv, 1) := by decide +kernel
theorem dX8_toNext_79 : decode cX8_toNext 79 = .ok (.putfield 9, 3) := by decide +kernel
theorem dX8_toNext_82 : decode cX8_toNext 82 = .ok (.aload_n 0, 1) := by decide +kernel
theorem dX8_toNext_83 : decode cX8_toNext 83 = .ok (.iload 4, 2) := by decide +kernel
theorem dX8_toNext_85 : decode cX8_toNext 85 = .ok (.bipush 8, 2) := by decide +kernel
theorem dX8_toNext_87 : decode cX8_toNext 87 = .ok (.irem, 1) := by decide +kernel
theorem dX8_toNext_88 : decode cX8_toNext 88 = .ok (.putfield 15, 3) := by decide +kernel
theorem dX8_toNext_91 : decode cX8_toNext 91 = .ok (.aload_n 0, 1) := by decide +kernel
theorem dX8_toNext_92 : decode cX8_toNext 92 = .ok (.getfield 15, 3) := by decide +kernel
theorem dX8_toNext_95 : decode cX8_toNext 95 = .ok (.iload_n 2, 1) := by decide +kernel
theorem dX8_toNext_96 : decode cX8_toNext 96 = .ok (.if_icmp .ge 37, 3) := by decide +kernel
theorem dX8_toNext_99 : decode cX8_toNext 99 = .ok (.aload_n 0, 1) := by decide +kernel
theorem dX8_toNext_100 : decode cX8_toNext 100 = .ok (.getfield 9, 3) := by decide +kernel
theorem dX8_toNext_103 : decode cX8_toNext 103 = .ok (.aload_n 0, 1) := by decide +kernel
theorem dX8_toNext_104 : decode cX8_toNext 104 = .ok (.getfield 15, 3) := by decide +kernel
theorem dX8_toNext_107 : decode cX8_toNext 107 = .ok (.if_icmp .eq 26, 3) := by decide +kernel
theorem dX8_toNext_110 : decode cX8_toNext 110 = .ok (.aload_n 1, 1) := by decide +kernel
theorem dX8_toNext_111 : decode cX8_toNext 111 = .ok (.aload_n 0, 1) := by decide +kernel
theorem dX8_toNext_112 : decode cX8_toNext 112 = .ok (.getfield 9, 3) := by decide +kernel
theorem dX8_toNext_115 : decode cX8_toNext 115 = .ok (.aload_n 0, 1) := by decide +kernel
theorem dX8_toNext_116 : decode cX8_toNext 116 = .ok (.getfield 15, 3) := by decide +kernel
theorem dX8_toNext_119 : decode cX8_toNext 119 = .ok (.iconst 1, 1) := by decide +kernel
theorem dX8_toNext_120 : decode cX8_toNext 120 = .ok (.invokestatic 21, 3) := by decide +kernel
theorem dX8_toNext_123 : decode cX8_toNext 123 = .ok (.ifCond .eq 10, 3) := by decide +kernel
theorem dX8_toNext_126 : decode cX8_toNext 126 = .ok (.aload_n 0, 1) := by decide +kernel
theorem dX8_toNext_127 : decode cX8_toNext 127 = .ok (.iconst 1, 1) := by decide +kernel
theorem dX8_toNext_128 : decode cX8_toNext 128 = .ok (.putfield 18, 3) := by decide +kernel
theorem dX8_toNext_131 : decode cX8_toNext 131 = .ok (.iconst 1, 1) := by decide +kernel
theorem dX8_toNext_132 : decode cX8_toNext 132 = .ok (.ireturn, 1) := by decide +kernel
theorem dX8_toNext_133 : decode cX8_toNext 133 = .ok (.iinc 4 1, 3) := by decide +kernel
theorem dX8_toNext_136 : decode cX8_toNext 136 = .ok (.goto (-72), 3) := by decide +kernel
theorem dX8_toNext_139 : decode cX8_toNext 139 = .ok (.iconst 0, 1) := by decide +kernel
theorem dX8_toNext_140 : decode cX8_toNext 140 = .ok (.ireturn, 1) := by decide +kernel
theorem dX8_fill_0 : decode cX8_fill 0 = .ok (.aload_n 1, 1) := by decide +kernel
theorem dX8_fill_1 : decode cX8_fill 1 = .ok (.aload_n 2, 1) := by decide +kernel
theorem dX8_fill_2 : decode cX8_fill 2 = .ok (.invokestatic 25, 3) := by decide +kernel
theorem dX8_fill_5 : decode cX8_fill 5 = .ok (.aload_n 2, 1) := by decide +kernel
theorem dX8_fill_6 : decode cX8_fill 6 = .ok (.aload_n 0, 1) := by decide +kernel
theorem dX8_fill_7 : decode cX8_fill 7 = .ok (.getfield 9, 3) := by decide +kernel
theorem dX8_fill_10 : decode cX8_fill 10 = .ok (.dup2, 1) := by decide +kernel
theorem dX8_fill_11 : decode cX8_fill 11 = .ok (.iaload, 1) := by decide +kernel
theorem dX8_fill_12 : decode cX8_fill 12 = .ok (.aload_n 0, 1) := by decide +kernel
theorem dX8_fill_13 : decode cX8_fill 13 = .ok (.getfield 18, 3) := by decide +kernel
theorem dX8_fill_16 : decode cX8_fill 16 = .ok (.isub, 1) := by decide +kernel
theorem dX8_fill_17 : decode cX8_fill 17 = .ok (.iastore, 1) := by decide +kernel
theorem dX8_fill_18 : decode cX8_fill 18 = .ok (.aload_n 2, 1) := by decide +kernel
theorem dX8_fill_19 : decode cX8_fill 19 = .ok (.aload_n 0, 1) := by decide +kernel
theorem dX8_fill_20 : decode cX8_fill 20 = .ok (.getfield 15, 3) := by decide +kernel
theorem dX8_fill_23 : decode cX8_fill 23 = .ok (.dup2, 1) := by decide +kernel
theorem dX8_fill_24 : decode cX8_fill 24 = .ok (.iaload, 1) := by decide +kernel
theorem dX8_fill_25 : decode cX8_fill 25 = .ok (.aload_n 0, 1) := by decide +kernel
theorem dX8_fill_26 : decode cX8_fill 26 = .ok (.getfield 18, 3) := by decide +kernel
theorem dX8_fill_29 : decode cX8_fill 29 = .ok (.iadd, 1) := by decide +kernel
theorem dX8_fill_30 : decode cX8_fill 30 = .ok (.iastore, 1) := by decide +kernel
theorem dX8_fill_31 : decode cX8_fill 31 = .ok (.return_, 1) := by decide +kernel
theorem dX9_init_0 : decode cX9_init 0 = .ok (.aload_n 0, 1) := by decide +kernel
theorem dX9_init_1 : decode cX9_init 1 = .ok (.invokespecial 3, 3) := by decide +kernel
theorem dX9_init_4 : decode cX9_init 4 = .ok (.aload_n 0, 1) := by decide +kernel
theorem dX9_init_5 : decode cX9_init 5 = .ok (.iconst 2, 1) := by decide +kernel
theorem dX9_init_6 : decode cX9_init 6 = .ok (.newarray .int, 2) := by decide +kernel
theorem dX9_init_8 : decode cX9_init 8 = .ok (.putfield 9, 3) := by decide +kernel
theorem dX9_init_11 : decode cX9_init 11 = .ok (.return_, 1) := by decide +kernel
theorem dX9_readInto_0 : decode cX9_readInto 0 = .ok (.aload_n 1, 1) := by decide +kernel
theorem dX9_readInto_1 : decode cX9_readInto 1 = .ok (.invokevirtual 15, 3) := by decide +kernel
theorem dX9_readInto_4 : decode cX9_readInto 4 = .ok (.iconst 0, 1) := by decide +kernel
theorem dX9_readInto_5 : decode cX9_readInto 5 = .ok (.istore 4, 2) := by decide +kernel
theorem dX9_readInto_7 : decode cX9_readInto 7 = .ok (.iconst 0, 1) := by decide +kernel
theorem dX9_readInto_8 : decode cX9_readInto 8 = .ok (.istore 5, 2) := by decide +kernel
theorem dX9_readInto_10 : decode cX9_readInto 10 = .ok (.iload 5, 2) := by decide +kernel
theorem dX9_readInto_12 : decode cX9_readInto 12 = .ok (.sipush 300, 3) := by decide +kernel
theorem dX9_readInto_15 : decode cX9_readInto 15 = .ok (.if_icmp .ge 51, 3) := by decide +kernel
theorem dX9_readInto_18 : decode cX9_readInto 18 = .ok (.iload 4, 2) := by decide +kernel
theorem dX9_readInto_20 : decode cX9_readInto 20 = .ok (.iload_n 3, 1) := by decide +kernel
theorem dX9_readInto_21 : decode cX9_readInto 21 = .ok (.if_icmp .ge 45, 3) := by decide +kernel
theorem dX9_readInto_24 : decode cX9_readInto 24 = .ok (.aload_n 0, 1) := by decide +kernel
theorem dX9_readInto_25 : decode cX9_readInto 25 = .ok (.aload_n 2, 1) := by decide +kernel
theorem dX9_readInto_26 : decode cX9_readInto 26 = .ok (.iload 4, 2) := by decide +kernel
theorem dX9_readInto_28 : decode cX9_readInto 28 = .ok (.iload_n 3, 1) := by decide +kernel
theorem dX9_readInto_29 : decode cX9_readInto 29 = .ok (.invokevirtual 20, 3) := by decide +kernel
theorem dX9_readInto_32 : decode cX9_readInto 32 = .ok (.istore 6, 2) := by decide +kernel
theorem dX9_readInto_34 : decode cX9_readInto 34 = .ok (.iload 6, 2) := by decide +kernel
theorem dX9_readInto_36 : decode cX9_readInto 36 = .ok (.bipush (-4), 2) := by decide +kernel
theorem dX9_readInto_38 : decode cX9_readInto 38 = .ok (.if_icmp .eq 15, 3) := by decide +kernel
theorem dX9_readInto_41 : decode cX9_readInto 41 = .ok (.aload_n 0, 1) := by decide +kernel
theorem dX9_readInto_42 : decode cX9_readInto 42 = .ok (.aload_n 1, 1) := by decide +kernel
theorem dX9_readInto_43 : decode cX9_readInto 43 = .ok (.aload_n 2, 1) := by decide +kernel
theorem dX9_readInto_44 : decode cX9_readInto 44 = .ok (.iload 4, 2) := by decide +kernel
theorem dX9_readInto_46 : decode cX9_readInto 46 = .ok (.baload, 1) := by decide +kernel
theorem dX9_readInto_47 : decode cX9_readInto 47 = .ok (.invokevirtual 24, 3) := by decide +kernel
theorem dX9_readInto_50 : decode cX9_readInto 50 = .ok (.ifCond .ne 6, 3) := by decide +kernel
theorem dX9_readInto_53 : decode cX9_readInto 53 = .ok (.iload 4, 2) := by decide +kernel
theorem dX9_readInto_55 : decode cX9_readInto 55 = .ok (.ireturn, 1) := by decide +kernel
theorem dX9_readInto_56 : decode cX9_readInto 56 = .ok (.iload 6, 2) := by decide +kernel
theorem dX9_readInto_58 : decode cX9_readInto 58 = .ok (.istore 4, 2) := by decide +kernel
theorem dX9_readInto_60 : decode cX9_readInto 60 = .ok (.iinc 5 1, 3) := by decide +kernel
theorem dX9_readInto_63 : decode cX9_readInto 63 = .ok (.goto (-53), 3) := by decide +kernel
theorem dX9_readInto_66 : decode cX9_readInto 66 = .ok (.bipush (-4), 2) := by decide +kernel
theorem dX9_readInto_68 : decode cX9_readInto 68 = .ok (.ireturn, 1) := by decide +kernel
theorem dX9_behindItem_0 : decode cX9_behindItem 0 = .ok (.aload_n 1, 1) := by decide +kernel
theorem dX9_behindItem_1 : decode cX9_behindItem 1 = .ok (.iload_n 2, 1) := by decide +kernel
theorem dX9_behindItem_2 : decode cX9_behindItem 2 = .ok (.baload, 1) := by decide +kernel
theorem dX9_behindItem_3 : decode cX9_behindItem 3 = .ok (.invokestatic 28, 3) := by decide +kernel
theorem dX9_behindItem_6 : decode cX9_behindItem 6 = .ok (.istore 4, 2) := by decide +kernel
theorem dX9_behindItem_8 : decode cX9_behindItem 8 = .ok (.iload_n 2, 1) := by decide +kernel
theorem dX9_behindItem_9 : decode cX9_behindItem 9 = .ok (.iconst 1, 1) := by decide +kernel
theorem dX9_behindItem_10 : decode cX9_behindItem 10 = .ok (.iadd, 1) := by decide +kernel
theorem dX9_behindItem_11 : decode cX9_behindItem 11 = .ok (.istore 5, 2) := by decide +kernel
theorem dX9_behindItem_13 : decode cX9_behindItem 13 = .ok (.iconst 0, 1) := by decide +kernel
theorem dX9_behindItem_14 : decode cX9_behindItem 14 = .ok (.istore 6, 2) := by decide +kernel
theorem dX9_behindItem_16 : decode cX9_behindItem 16 = .ok (.iload 6, 2) := by decide +kernel
theorem dX9_behindItem_18 : decode cX9_behindItem 18 = .ok (.iload 4, 2) := by decide +kernel
theorem dX9_behindItem_20 : decode cX9_behindItem 20 = .ok (.if_icmp .ge 81, 3) := by decide +kernel
theorem dX9_behindItem_23 : decode cX9_behindItem 23 = .ok (.aload_n 1, 1) := by decide +kernel
theorem dX9_behindItem_24 : decode cX9_behindItem 24 = .ok (.iload 5, 2) := by decide +kernel
theorem dX9_behindItem_26 : decode cX9_behindItem 26 = .ok (.iload_n 3, 1) := by decide +kernel
theorem dX9_behindItem_27 : decode cX9_behindItem 27 = .ok (.invokestatic 32, 3) := by decide +kernel
theorem dX9_behindItem_30 : decode cX9_behindItem 30 = .ok (.istore 7, 2) := by decide +kernel
theorem dX9_behindItem_32 : decode cX9_behindItem 32 = .ok (.iload 7, 2) := by decide +kernel
theorem dX9_behindItem_34 : decode cX9_behindItem 34 = .ok (.iload 5, 2) := by decide +kernel
theorem dX9_behindItem_36 : decode cX9_behindItem 36 = .ok (.if_icmp .eq 9, 3) := by decide +kernel
theorem dX9_behindItem_39 : decode cX9_behindItem 39 = .ok (.iload 7, 2) := by decide +kernel
theorem dX9_behindItem_41 : decode cX9_behindItem 41 = .ok (.iload_n 3, 1) := by decide +kernel
theorem dX9_behindItem_42 : decode cX9_behindItem 42 = .ok (.if_icmp .lt 6, 3) := by decide +kernel
theorem dX9_behindItem_45 : decode cX9_behindItem 45 = .ok (.bipush (-4), 2) := by decide +kernel
theorem dX9_behindItem_47 : decode cX9_behindItem 47 = .ok (.ireturn, 1) := by decide +kernel
theorem dX9_behindItem_48 : decode cX9_behindItem 48 = .ok (.aload_n 0, 1) := by decide +kernel
theorem dX9_behindItem_49 : decode cX9_behindItem 49 = .ok (.getfield 9, 3) := by decide +kernel
theorem dX9_behindItem_52 : decode cX9_behindItem 52 = .ok (.iload 6, 2) := by decide +kernel
theorem dX9_behindItem_54 : decode cX9_behindItem 54 = .ok (.aload_n 1, 1) := by decide +kernel
theorem dX9_behindItem_55 : decode cX9_behindItem 55 = .ok (.iload 5, 2) := by decide +kernel
theorem dX9_behindItem_57 : decode cX9_behindItem 57 = .ok (.iload 7, 2) := by decide +kernel
theorem dX9_behindItem_59 : decode cX9_behindItem 59 = .ok (.invokestatic 35, 3) := by decide +kernel
theorem dX9_behindItem_62 : decode cX9_behindItem 62 = .ok (.iastore, 1) := by decide +kernel
theorem dX9_behindItem_63 : decode cX9_behindItem 63 = .ok (.aload_n 1, 1) := by decide +kernel
theorem dX9_behindItem_64 : decode cX9_behindItem 64 = .ok (.iload 7, 2) := by decide +kernel
theorem dX9_behindItem_66 : decode cX9_behindItem 66 = .ok (.baload, 1) := by decide +kernel
theorem dX9_behindItem_67 : decode cX9_behindItem 67 = .ok (.iload 6, 2) := by decide +kernel
theorem dX9_behindItem_69 : decode cX9_behindItem 69 = .ok (.iload 4, 2) := by decide +kernel
theorem dX9_behindItem_71 : decode cX9_behindItem 71 = .ok (.iconst 1, 1) := by decide +kernel
theorem dX9_behindItem_72 : decode cX9_behindItem 72 = .ok (.isub, 1) := by decide +kernel
theorem dX9_behindItem_73 : decode cX9_behindItem 73 = .ok (.if_icmp .ne 8, 3) := by decide +kernel
theorem dX9_behindItem_76 : decode cX9_behindItem 76 = .ok (.bipush 59, 2) := by decide +kernel
theorem dX9_behindItem_78 : decode cX9_behindItem 78 = .ok (.goto 5, 3) := by decide +kernel
theorem dX9_behindItem_81 : decode cX9_behindItem 81 = .ok (.bipush 44, 2) := by decide +kernel
theorem dX9_behindItem_83 : decode cX9_behindItem 83 = .ok (.if_icmp .eq 6, 3) := by decide +kernel
theorem dX9_behindItem_86 : decode cX9_behindItem 86 = .ok (.bipush (-4), 2) := by decide +kernel
theorem dX9_behindItem_88 : decode cX9_behindItem 88 = .ok (.ireturn, 1) := by decide +kernel
theorem dX9_behindItem_89 : decode cX9_behindItem 89 = .ok (.iload 7, 2) := by decide +kernel
theorem dX9_behindItem_91 : decode cX9_behindItem 91 = .ok (.iconst 1, 1) := by decide +kernel
theorem dX9_behindItem_92 : decode cX9_behindItem 92 = .ok (.iadd, 1) := by decide +kernel
theorem dX9_behindItem_93 : decode cX9_behindItem 93 = .ok (.istore 5, 2) := by decide +kernel
theorem dX9_behindItem_95 : decode cX9_behindItem 95 = .ok (.iinc 6 1, 3) := by decide +kernel
theorem dX9_behindItem_98 : decode cX9_behindItem 98 = .ok (.goto (-82), 3) := by decide +kernel
theorem dX9_behindItem_101 : decode cX9_behindItem 101 = .ok (.iload 4, 2) := by decide +kernel
theorem dX9_behindItem_103 : decode cX9_behindItem 103 = .ok (.ifCond .ne 8, 3) := by decide +kernel
theorem dX9_behindItem_106 : decode cX9_behindItem 106 = .ok (.bipush (-4), 2) := by decide +kernel
theorem dX9_behindItem_108 : decode cX9_behindItem 108 = .ok (.goto 5, 3) := by decide +kernel
theorem dX9_behindItem_111 : decode cX9_behindItem 111 = .ok (.iload 5, 2) := by decide +kernel
theorem dX9_behindItem_113 : decode cX9_behindItem 113 = .ok (.ireturn, 1) := by decide +kernel
theorem dX9_numbersDue_0 : decode cX9_numbersDue 0 = .ok (.iload_n 0, 1) := by decide +kernel
theorem dX9_numbersDue_1 : decode cX9_numbersDue 1 = .ok (.lookupswitch 55 #[(98, 53), (99, 53), (114, 53), (115, 51), (119, 53)], 51) := by decide +kernel
theorem dX9_numbersDue_52 : decode cX9_numbersDue 52 = .ok (.iconst 1, 1) := by decide +kernel
theorem dX9_numbersDue_53 : decode cX9_numbersDue 53 = .ok (.ireturn, 1) := by decide +kernel
theorem dX9_numbersDue_54 : decode cX9_numbersDue 54 = .ok (.iconst 2, 1) := by decide +kernel
theorem dX9_numbersDue_55 : decode cX9_numbersDue 55 = .ok (.ireturn, 1) := by decide +kernel
theorem dX9_numbersDue_56 : decode cX9_numbersDue 56 = .ok (.iconst 0, 1) := by decide +kernel
theorem dX9_numbersDue_57 : decode cX9_numbersDue 57 = .ok (.ireturn, 1) := by decide +kernel
theorem dX9_behindFigures_0 : decode cX9_behindFigures 0 = .ok (.iload_n 2, 1) := by decide +kernel
theorem dX9_behindFigures_1 : decode cX9_behindFigures 1 = .ok (.iload_n 1, 1) := by decide +kernel
theorem dX9_behindFigures_2 : decode cX9_behindFigures 2 = .ok (.iconst 3, 1) := by decide +kernel
theorem dX9_behindFigures_3 : decode cX9_behindFigures 3 = .ok (.iadd, 1) := by decide +kernel
theorem dX9_behindFigures_4 : decode cX9_behindFigures 4 = .ok (.invokestatic 38, 3) := by decide +kernel
theorem dX9_behindFigures_7 : decode cX9_behindFigures 7 = .ok (.istore_n 3, 1) := by decide +kernel
theorem dX9_behindFigures_8 : decode cX9_behindFigures 8 = .ok (.iload_n 1, 1) := by decide +kernel
theorem dX9_behindFigures_9 : decode cX9_behindFigures 9 = .ok (.istore 4, 2) := by decide +kernel
theorem dX9_behindFigures_11 : decode cX9_behindFigures 11 = .ok (.iload 4, 2) := by decide +kernel
theorem dX9_behindFigures_13 : decode cX9_behindFigures 13 = .ok (.iload_n 3, 1) := by decide +kernel
theorem dX9_behindFigures_14 : decode cX9_behindFigures 14 = .ok (.if_icmp .ge 26, 3) := by decide +kernel
theorem dX9_behindFigures_17 : decode cX9_behindFigures 17 = .ok (.aload_n 0, 1) := by decide +kernel
theorem dX9_behindFigures_18 : decode cX9_behindFigures 18 = .ok (.iload 4, 2) := by decide +kernel
theorem dX9_behindFigures_20 : decode cX9_behindFigures 20 = .ok (.baload, 1) := by decide +kernel
theorem dX9_behindFigures_21 : decode cX9_behindFigures 21 = .ok (.bipush 48, 2) := by decide +kernel
theorem dX9_behindFigures_23 : decode cX9_behindFigures 23 = .ok (.bipush 57, 2) := by decide +kernel
theorem dX9_behindFigures_25 : decode cX9_behindFigures 25 = .ok (.invokestatic 44, 3) := by decide +kernel
theorem dX9_behindFigures_28 : decode cX9_behindFigures 28 = .ok (.ifCond .ne 6, 3) := by decide +kernel
theorem dX9_behindFigures_31 : decode cX9_behindFigures 31 = .ok (.iload 4, 2) := by decide +kernel
theorem dX9_behindFigures_33 : decode cX9_behindFigures 33 = .ok (.ireturn, 1) := by decide +kernel
theorem dX9_behindFigures_34 : decode cX9_behindFigures 34 = .ok (.iinc 4 1, 3) := by decide +kernel
theorem dX9_behindFigures_37 : decode cX9_behindFigures 37 = .ok (.goto (-26), 3) := by decide +kernel
theorem dX9_behindFigures_40 : decode cX9_behindFigures 40 = .ok (.iload_n 1, 1) := by decide +kernel
theorem dX9_behindFigures_41 : decode cX9_behindFigures 41 = .ok (.iload_n 3, 1) := by decide +kernel
theorem dX9_behindFigures_42 : decode cX9_behindFigures 42 = .ok (.invokestatic 48, 3) := by decide +kernel
theorem dX9_behindFigures_45 : decode cX9_behindFigures 45 = .ok (.ireturn, 1) := by decide +kernel
theorem dX9_numberIn_0 : decode cX9_numberIn 0 = .ok (.iconst 0, 1) := by decide +kernel
theorem dX9_numberIn_1 : decode cX9_numberIn 1 = .ok (.istore_n 3, 1) := by decide +kernel
theorem dX9_numberIn_2 : decode cX9_numberIn 2 = .ok (.iload_n 1, 1) := by decide +kernel
theorem dX9_numberIn_3 : decode cX9_numberIn 3 = .ok (.istore 4, 2) := by decide +kernel
theorem dX9_numberIn_5 : decode cX9_numberIn 5 = .ok (.iload 4, 2) := by decide +kernel
theorem dX9_numberIn_7 : decode cX9_numberIn 7 = .ok (.iload_n 2, 1) := by decide +kernel
theorem dX9_numberIn_8 : decode cX9_numberIn 8 = .ok (.if_icmp .ge 22, 3) := by decide +kernel
theorem dX9_numberIn_11 : decode cX9_numberIn 11 = .ok (.bipush 10, 2) := by decide +kernel
theorem dX9_numberIn_13 : decode cX9_numberIn 13 = .ok (.iload_n 3, 1) := by decide +kernel
theorem dX9_numberIn_14 : decode cX9_numberIn 14 = .ok (.imul, 1) := by decide +kernel
theorem dX9_numberIn_15 : decode cX9_numberIn 15 = .ok (.aload_n 0, 1) := by decide +kernel
theorem dX9_numberIn_16 : decode cX9_numberIn 16 = .ok (.iload 4, 2) := by decide +kernel
theorem dX9_numberIn_18 : decode cX9_numberIn 18 = .ok (.baload, 1) := by decide +kernel
theorem dX9_numberIn_19 : decode cX9_numberIn 19 = .ok (.iadd, 1) := by decide +kernel
theorem dX9_numberIn_20 : decode cX9_numberIn 20 = .ok (.bipush 48, 2) := by decide +kernel
theorem dX9_numberIn_22 : decode cX9_numberIn 22 = .ok (.isub, 1) := by decide +kernel
theorem dX9_numberIn_23 : decode cX9_numberIn 23 = .ok (.istore_n 3, 1) := by decide +kernel
theorem dX9_numberIn_24 : decode cX9_numberIn 24 = .ok (.iinc 4 1, 3) := by decide +kernel
theorem dX9_numberIn_27 : decode cX9_numberIn 27 = .ok (.goto (-22), 3) := by decide +kernel
theorem dX9_numberIn_30 : decode cX9_numberIn 30 = .ok (.iload_n 3, 1) := by decide +kernel
theorem dX9_numberIn_31 : decode cX9_numberIn 31 = .ok (.ireturn, 1) := by decide +kernel
theorem dX9_tell_0 : decode cX9_tell 0 = .ok (.iload_n 2, 1) := by decide +kernel
theorem dX9_tell_1 : decode cX9_tell 1 = .ok (.lookupswitch 130 #[(98, 51), (99, 113), (114, 79), (115, 68), (119, 96)], 51) := by decide +kernel
theorem dX9_tell_52 : decode cX9_tell 52 = .ok (.aload_n 1, 1) := by decide +kernel
theorem dX9_tell_53 : decode cX9_tell 53 = .ok (.aload_n 0, 1) := by decide +kernel
theorem dX9_tell_54 : decode cX9_tell 54 = .ok (.getfield 9, 3) := by decide +kernel
theorem dX9_tell_57 : decode cX9_tell 57 = .ok (.iconst 0, 1) := by decide +kernel
theorem dX9_tell_58 : decode cX9_tell 58 = .ok (.iaload, 1) := by decide +kernel
theorem dX9_tell_59 : decode cX9_tell 59 = .ok (.aload_n 0, 1) := by decide +kernel
theorem dX9_tell_60 : decode cX9_tell 60 = .ok (.getfield 9, 3) := by decide +kernel
theorem dX9_tell_63 : decode cX9_tell 63 = .ok (.iconst 1, 1) := by decide +kernel
theorem dX9_tell_64 : decode cX9_tell 64 = .ok (.iaload, 1) := by decide +kernel
theorem dX9_tell_65 : decode cX9_tell 65 = .ok (.invokevirtual 51, 3) := by decide +kernel
theorem dX9_tell_68 : decode cX9_tell 68 = .ok (.ireturn, 1) := by decide +kernel
theorem dX9_tell_69 : decode cX9_tell 69 = .ok (.aload_n 1, 1) := by decide +kernel
theorem dX9_tell_70 : decode cX9_tell 70 = .ok (.aload_n 0, 1) := by decide +kernel
theorem dX9_tell_71 : decode cX9_tell 71 = .ok (.getfield 9, 3) := by decide +kernel
theorem dX9_tell_74 : decode cX9_tell 74 = .ok (.iconst 0, 1) := by decide +kernel
theorem dX9_tell_75 : decode cX9_tell 75 = .ok (.iaload, 1) := by decide +kernel
theorem dX9_tell_76 : decode cX9_tell 76 = .ok (.invokevirtual 55, 3) := by decide +kernel
theorem dX9_tell_79 : decode cX9_tell 79 = .ok (.ireturn, 1) := by decide +kernel
theorem dX9_tell_80 : decode cX9_tell 80 = .ok (.aload_n 1, 1) := by decide +kernel
theorem dX9_tell_81 : decode cX9_tell 81 = .ok (.aload_n 0, 1) := by decide +kernel
theorem dX9_tell_82 : decode cX9_tell 82 = .ok (.getfield 9, 3) := by decide +kernel
theorem dX9_tell_85 : decode cX9_tell 85 = .ok (.iconst 0, 1) := by decide +kernel
theorem dX9_tell_86 : decode cX9_tell 86 = .ok (.iaload, 1) := by decide +kernel
theorem dX9_tell_87 : decode cX9_tell 87 = .ok (.aload_n 0, 1) := by decide +kernel
theorem dX9_tell_88 : decode cX9_tell 88 = .ok (.getfield 9, 3) := by decide +kernel
theorem dX9_tell_91 : decode cX9_tell 91 = .ok (.iconst 1, 1) := by decide +kernel
theorem dX9_tell_92 : decode cX9_tell 92 = .ok (.iaload, 1) := by decide +kernel
theorem dX9_tell_93 : decode cX9_tell 93 = .ok (.invokevirtual 59, 3) := by decide +kernel
theorem dX9_tell_96 : decode cX9_tell 96 = .ok (.ireturn, 1) := by decide +kernel
theorem dX9_tell_97 : decode cX9_tell 97 = .ok (.aload_n 1, 1) := by decide +kernel
theorem dX9_tell_98 : decode cX9_tell 98 = .ok (.aload_n 0, 1) := by decide +kernel
theorem dX9_tell_99 : decode cX9_tell 99 = .ok (.getfield 9, 3) := by decide +kernel
theorem dX9_tell_102 : decode cX9_tell 102 = .ok (.iconst 0, 1) := by decide +kernel
theorem dX9_tell_103 : decode cX9_tell 103 = .ok (.iaload, 1) := by decide +kernel
theorem dX9_tell_104 : decode cX9_tell 104 = .ok (.aload_n 0, 1) := by decide +kernel
theorem dX9_tell_105 : decode cX9_tell 105 = .ok (.getfield 9, 3) := by decide +kernel
theorem dX9_tell_108 : decode cX9_tell 108 = .ok (.iconst 1, 1) := by decide +kernel
theorem dX9_tell_109 : decode cX9_tell 109 = .ok (.iaload, 1) := by decide +kernel
theorem dX9_tell_110 : decode cX9_tell 110 = .ok (.invokevirtual 62, 3) := by decide +kernel
theorem dX9_tell_113 : decode cX9_tell 113 = .ok (.ireturn, 1) := by decide +kernel
theorem dX9_tell_114 : decode cX9_tell 114 = .ok (.aload_n 1, 1) := by decide +kernel
theorem dX9_tell_115 : decode cX9_tell 115 = .ok (.aload_n 0, 1) := by decide +kernel
theorem dX9_tell_116 : decode cX9_tell 116 = .ok (.getfield 9, 3) := by decide +kernel
theorem dX9_tell_119 : decode cX9_tell 119 = .ok (.iconst 0, 1) := by decide +kernel
theorem dX9_tell_120 : decode cX9_tell 120 = .ok (.iaload, 1) := by decide +kernel
theorem dX9_tell_121 : decode cX9_tell 121 = .ok (.aload_n 0, 1) := by decide +kernel
theorem dX9_tell_122 : decode cX9_tell 122 = .ok (.getfield 9, 3) := by decide +kernel
theorem dX9_tell_125 : decode cX9_tell 125 = .ok (.iconst 1, 1) := by decide +kernel
theorem dX9_tell_126 : decode cX9_tell 126 = .ok (.iaload, 1) := by decide +kernel
theorem dX9_tell_127 : decode cX9_tell 127 = .ok (.invokevirtual 65, 3) := by decide +kernel
theorem dX9_tell_130 : decode cX9_tell 130 = .ok (.ireturn, 1) := by decide +kernel
theorem dX9_tell_131 : decode cX9_tell 131 = .ok (.iconst 0, 1) := by decide +kernel
theorem dX9_tell_132 : decode cX9_tell 132 = .ok (.ireturn, 1) := by decide +kernel
theorem dL_law_0 : decode cL_law 0 = .ok (.new 7, 3) := by decide +kernel
theorem dL_law_3 : decode cL_law 3 = .ok (.dup, 1) := by decide +kernel
theorem dL_law_4 : decode cL_law 4 = .ok (.invokespecial 9, 3) := by decide +kernel
theorem dL_law_7 : decode cL_law 7 = .ok (.astore_n 1, 1) := by decide +kernel
theorem dL_law_8 : decode cL_law 8 = .ok (.new 10, 3) := by decide +kernel
theorem dL_law_11 : decode cL_law 11 = .ok (.dup, 1) := by decide +kernel
theorem dL_law_12 : decode cL_law 12 = .ok (.invokespecial 12, 3) := by decide +kernel
theorem dL_law_15 : decode cL_law 15 = .ok (.astore_n 2, 1) := by decide +kernel
theorem dL_law_16 : decode cL_law 16 = .ok (.iconst 0, 1) := by decide +kernel
theorem dL_law_17 : decode cL_law 17 = .ok (.istore_n 3, 1) := by decide +kernel
theorem dL_law_18 : decode cL_law 18 = .ok (.iload_n 3, 1) := by decide +kernel
theorem dL_law_19 : decode cL_law 19 = .ok (.aload_n 0, 1) := by decide +kernel
theorem dL_law_20 : decode cL_law 20 = .ok (.arraylength, 1) := by decide +kernel
theorem dL_law_21 : decode cL_law 21 = .ok (.iconst 4, 1) := by decide +kernel
theorem dL_law_22 : decode cL_law 22 = .ok (.isub, 1) := by decide +kernel
theorem dL_law_23 : decode cL_law 23 = .ok (.if_icmp .gt 802, 3) := by decide +kernel
theorem dL_law_26 : decode cL_law 26 = .ok (.aload_n 0, 1) := by decide +kernel
theorem dL_law_27 : decode cL_law 27 = .ok (.iload_n 3, 1) := by decide +kernel
theorem dL_law_28 : decode cL_law 28 = .ok (.iaload, 1) := by decide +kernel
theorem dL_law_29 : decode cL_law 29 = .ok (.bipush 31, 2) := by decide +kernel
theorem dL_law_31 : decode cL_law 31 = .ok (.iand, 1) := by decide +kernel
theorem dL_law_32 : decode cL_law 32 = .ok (.tableswitch 787 0 22 #[108, 171, 184, 197, 210, 243, 276, 289, 332, 365, 398, 431, 454, 497, 530, 573, 596, 639, 672, 705, 738, 751, 764], 108) := by decide +kernel
theorem dL_law_140 : decode cL_law 140 = .ok (.aload_n 1, 1) := by decide +kernel
theorem dL_law_141 : decode cL_law 141 = .ok (.aload_n 0, 1) := by decide +kernel
theorem dL_law_142 : decode cL_law 142 = .ok (.iload_n 3, 1) := by decide +kernel
theorem dL_law_143 : decode cL_law 143 = .ok (.iconst 1, 1) := by decide +kernel
theorem dL_law_144 : decode cL_law 144 = .ok (.iadd, 1) := by decide +kernel
theorem dL_law_145 : decode cL_law 145 = .ok (.iaload, 1) := by decide +kernel
theorem dL_law_146 : decode cL_law 146 = .ok (.aload_n 0, 1) := by decide +kernel
theorem dL_law_147 : decode cL_law 147 = .ok (.iload_n 3, 1) := by decide +kernel
theorem dL_law_148 : decode cL_law 148 = .ok (.iconst 2, 1) := by decide +kernel
theorem dL_law_149 : decode cL_law 149 = .ok (.iadd, 1) := by decide +kernel
theorem dL_law_150 : decode cL_law 150 = .ok (.iaload, 1) := by decide +kernel
theorem dL_law_151 : decode cL_law 151 = .ok (.i2l, 1) := by decide +kernel
theorem dL_law_152 : decode cL_law 152 = .ok (.bipush 32, 2) := by decide +kernel
theorem dL_law_154 : decode cL_law 154 = .ok (.lshl, 1) := by decide +kernel
theorem dL_law_155 : decode cL_law 155 = .ok (.aload_n 0, 1) := by decide +kernel
theorem dL_law_156 : decode cL_law 156 = .ok (.iload_n 3, 1) := by decide +kernel
theorem dL_law_157 : decode cL_law 157 = .ok (.iconst 3, 1) := by decide +kernel
theorem dL_law_158 : decode cL_law 158 = .ok (.iadd, 1) := by decide +kernel
theorem dL_law_159 : decode cL_law 159 = .ok (.iaload, 1) := by decide +kernel
theorem dL_law_160 : decode cL_law 160 = .ok (.i2l, 1) := by decide +kernel
theorem dL_law_161 : decode cL_law 161 = .ok (.ldc2_w 13, 3) := by decide +kernel
theorem dL_law_164 : decode cL_law 164 = .ok (.land, 1) := by decide +kernel
theorem dL_law_165 : decode cL_law 165 = .ok (.lor, 1) := by decide +kernel
theorem dL_law_166 : decode cL_law 166 = .ok (.invokevirtual 15, 3) := by decide +kernel
theorem dL_law_169 : decode cL_law 169 = .ok (.aload_n 2, 1) := by decide +kernel
theorem dL_law_170 : decode cL_law 170 = .ok (.aload_n 0, 1) := by decide +kernel
theorem dL_law_171 : decode cL_law 171 = .ok (.iload_n 3, 1) := by decide +kernel
theorem dL_law_172 : decode cL_law 172 = .ok (.iconst 1, 1) := by decide +kernel
theorem dL_law_173 : decode cL_law 173 = .ok (.iadd, 1) := by decide +kernel
theorem dL_law_174 : decode cL_law 174 = .ok (.iaload, 1) := by decide +kernel
theorem dL_law_175 : decode cL_law 175 = .ok (.aload_n 0, 1) := by decide +kernel
theorem dL_law_176 : decode cL_law 176 = .ok (.iload_n 3, 1) := by decide +kernel
theorem dL_law_177 : decode cL_law 177 = .ok (.iconst 2, 1) := by decide +kernel
theorem dL_law_178 : decode cL_law 178 = .ok (.iadd, 1) := by decide +kernel
theorem dL_law_179 : decode cL_law 179 = .ok (.iaload, 1) := by decide +kernel
theorem dL_law_180 : decode cL_law 180 = .ok (.i2l, 1) := by decide +kernel
theorem dL_law_181 : decode cL_law 181 = .ok (.bipush 32, 2) := by decide +kernel
theorem dL_law_183 : decode cL_law 183 = .ok (.lshl, 1) := by decide +kernel
theorem dL_law_184 : decode cL_law 184 = .ok (.aload_n 0, 1) := by decide +kernel
theorem dL_law_185 : decode cL_law 185 = .ok (.iload_n 3, 1) := by decide +kernel
theorem dL_law_186 : decode cL_law 186 = .ok (.iconst 3, 1) := by decide +kernel
theorem dL_law_187 : decode cL_law 187 = .ok (.iadd, 1) := by decide +kernel
theorem dL_law_188 : decode cL_law 188 = .ok (.iaload, 1) := by decide +kernel
theorem dL_law_189 : decode cL_law 189 = .ok (.i2l, 1) := by decide +kernel
theorem dL_law_190 : decode cL_law 190 = .ok (.ldc2_w 13, 3) := by decide +kernel
theorem dL_law_193 : decode cL_law 193 = .ok (.land, 1) := by decide +kernel
theorem dL_law_194 : decode cL_law 194 = .ok (.lor, 1) := by decide +kernel
theorem dL_law_195 : decode cL_law 195 = .ok (.invokevirtual 19, 3) := by decide +kernel
theorem dL_law_198 : decode cL_law 198 = .ok (.if_icmp .eq 621, 3) := by decide +kernel
theorem dL_law_201 : decode cL_law 201 = .ok (.iconst 0, 1) := by decide +kernel
theorem dL_law_202 : decode cL_law 202 = .ok (.ireturn, 1) := by decide +kernel
theorem dL_law_203 : decode cL_law 203 = .ok (.aload_n 1, 1) := by decide +kernel
theorem dL_law_204 : decode cL_law 204 = .ok (.invokevirtual 20, 3) := by decide +kernel
theorem dL_law_207 : decode cL_law 207 = .ok (.aload_n 2, 1) := by decide +kernel
theorem dL_law_208 : decode cL_law 208 = .ok (.invokevirtual 24, 3) := by decide +kernel
theorem dL_law_211 : decode cL_law 211 = .ok (.if_icmp .eq 608, 3) := by decide +kernel
theorem dL_law_214 : decode cL_law 214 = .ok (.iconst 0, 1) := by decide +kernel
theorem dL_law_215 : decode cL_law 215 = .ok (.ireturn, 1) := by decide +kernel
theorem dL_law_216 : decode cL_law 216 = .ok (.aload_n 1, 1) := by decide +kernel
theorem dL_law_217 : decode cL_law 217 = .ok (.invokevirtual 25, 3) := by decide +kernel
theorem dL_law_220 : decode cL_law 220 = .ok (.aload_n 2, 1) := by decide +kernel
theorem dL_law_221 : decode cL_law 221 = .ok (.invokevirtual 28, 3) := by decide +kernel
theorem dL_law_224 : decode cL_law 224 = .ok (.if_icmp .eq 595, 3) := by decide +kernel
theorem dL_law_227 : decode cL_law 227 = .ok (.iconst 0, 1) := by decide +kernel
theorem dL_law_228 : decode cL_law 228 = .ok (.ireturn, 1) := by decide +kernel
theorem dL_law_229 : decode cL_law 229 = .ok (.aload_n 1, 1) := by decide +kernel
theorem dL_law_230 : decode cL_law 230 = .ok (.invokevirtual 29, 3) := by decide +kernel
theorem dL_law_233 : decode cL_law 233 = .ok (.aload_n 2, 1) := by decide +kernel
theorem dL_law_234 : decode cL_law 234 = .ok (.invokevirtual 32, 3) := by decide +kernel
theorem dL_law_237 : decode cL_law 237 = .ok (.if_icmp .eq 582, 3) := by decide +kernel
theorem dL_law_240 : decode cL_law 240 = .ok (.iconst 0, 1) := by decide +kernel
theorem dL_law_241 : decode cL_law 241 = .ok (.ireturn, 1) := by decide +kernel
theorem dL_law_242 : decode cL_law 242 = .ok (.aload_n 1, 1) := by decide +kernel
theorem dL_law_243 : decode cL_law 243 = .ok (.aload_n 0, 1) := by decide +kernel
theorem dL_law_244 : decode cL_law 244 = .ok (.iload_n 3, 1) := by decide +kernel
theorem dL_law_245 : decode cL_law 245 = .ok (.iconst 1, 1) := by decide +kernel
theorem dL_law_246 : decode cL_law 246 = .ok (.iadd, 1) := by decide +kernel
theorem dL_law_247 : decode cL_law 247 = .ok (.iaload, 1) := by decide +kernel
theorem dL_law_248 : decode cL_law 248 = .ok (.aload_n 0, 1) := by decide +kernel
theorem dL_law_249 : decode cL_law 249 = .ok (.iload_n 3, 1) := by decide +kernel
theorem dL_law_250 : decode cL_law 250 = .ok (.iconst 2, 1) := by decide +kernel
theorem dL_law_251 : decode cL_law 251 = .ok (.iadd, 1) := by decide +kernel
theorem dL_law_252 : decode cL_law 252 = .ok (.iaload, 1) := by decide +kernel
theorem dL_law_253 : decode cL_law 253 = .ok (.invokevirtual 33, 3) := by decide +kernel
theorem dL_law_256 : decode cL_law 256 = .ok (.aload_n 2, 1) := by decide +kernel
theorem dL_law_257 : decode cL_law 257 = .ok (.aload_n 0, 1) := by decide +kernel
theorem dL_law_258 : decode cL_law 258 = .ok (.iload_n 3, 1) := by decide +kernel
theorem dL_law_259 : decode cL_law 259 = .ok (.iconst 1, 1) := by decide +kernel
theorem dL_law_260 : decode cL_law 260 = .ok (.iadd, 1) := by decide +kernel
theorem dL_law_261 : decode cL_law 261 = .ok (.iaload, 1) := by decide +kernel
theorem dL_law_262 : decode cL_law 262 = .ok (.aload_n 0, 1) := by decide +kernel
theorem dL_law_263 : decode cL_law 263 = .ok (.iload_n 3, 1) := by decide +kernel
theorem dL_law_264 : decode cL_law 264 = .ok (.iconst 2, 1) := by decide +kernel
theorem dL_law_265 : decode cL_law 265 = .ok (.iadd, 1) := by decide +kernel
theorem dL_law_266 : decode cL_law 266 = .ok (.iaload, 1) := by decide +kernel
theorem dL_law_267 : decode cL_law 267 = .ok (.invokevirtual 37, 3) := by decide +kernel
theorem dL_law_270 : decode cL_law 270 = .ok (.if_icmp .eq 549, 3) := by decide +kernel
theorem dL_law_273 : decode cL_law 273 = .ok (.iconst 0, 1) := by decide +kernel
theorem dL_law_274 : decode cL_law 274 = .ok (.ireturn, 1) := by decide +kernel
theorem dL_law_275 : decode cL_law 275 = .ok (.aload_n 1, 1) := by decide +kernel
theorem dL_law_276 : decode cL_law 276 = .ok (.aload_n 0, 1) := by decide +kernel
theorem dL_law_277 : decode cL_law 277 = .ok (.iload_n 3, 1) := by decide +kernel
theorem dL_law_278 : decode cL_law 278 = .ok (.iconst 1, 1) := by decide +kernel
theorem dL_law_279 : decode cL_law 279 = .ok (.iadd, 1) := by decide +kernel
theorem dL_law_280 : decode cL_law 280 = .ok (.iaload, 1) := by decide +kernel
theorem dL_law_281 : decode cL_law 281 = .ok (.aload_n 0, 1) := by decide +kernel
theorem dL_law_282 : decode cL_law 282 = .ok (.iload_n 3, 1) := by decide +kernel
theorem dL_law_283 : decode cL_law 283 = .ok (.iconst 2, 1) := by decide +kernel
theorem dL_law_284 : decode cL_law 284 = .ok (.iadd, 1) := by decide +kernel
theorem dL_law_285 : decode cL_law 285 = .ok (.iaload, 1) := by decide +kernel
theorem dL_law_286 : decode cL_law 286 = .ok (.invokevirtual 38, 3) := by decide +kernel
theorem dL_law_289 : decode cL_law 289 = .ok (.aload_n 2, 1) := by decide +kernel
theorem dL_law_290 : decode cL_law 290 = .ok (.aload_n 0, 1) := by decide +kernel
theorem dL_law_291 : decode cL_law 291 = .ok (.iload_n 3, 1) := by decide +kernel
theorem dL_law_292 : decode cL_law 292 = .ok (.iconst 1, 1) := by decide +kernel
theorem dL_law_293 : decode cL_law 293 = .ok (.iadd, 1) := by decide +kernel
theorem dL_law_294 : decode cL_law 294 = .ok (.iaload, 1) := by decide +kernel
theorem dL_law_295 : decode cL_law 295 = .ok (.aload_n 0, 1) := by decide +kernel
theorem dL_law_296 : decode cL_law 296 = .ok (.iload_n 3, 1) := by decide +kernel
theorem dL_law_297 : decode cL_law 297 = .ok (.iconst 2, 1) := by decide +kernel
theorem dL_law_298 : decode cL_law 298 = .ok (.iadd, 1) := by decide +kernel
theorem dL_law_299 : decode cL_law 299 = .ok (.iaload, 1) := by decide +kernel
theorem dL_law_300 : decode cL_law 300 = .ok (.invokevirtual 41, 3) := by decide +kernel
theorem dL_law_303 : decode cL_law 303 = .ok (.if_icmp .eq 516, 3) := by decide +kernel
theorem dL_law_306 : decode cL_law 306 = .ok (.iconst 0, 1) := by decide +kernel
theorem dL_law_307 : decode cL_law 307 = .ok (.ireturn, 1) := by decide +kernel
theorem dL_law_308 : decode cL_law 308 = .ok (.aload_n 1, 1) := by decide +kernel
theorem dL_law_309 : decode cL_law 309 = .ok (.invokevirtual 42, 3) := by decide +kernel
theorem dL_law_312 : decode cL_law 312 = .ok (.aload_n 2, 1) := by decide +kernel
theorem dL_law_313 : decode cL_law 313 = .ok (.invokevirtual 45, 3) := by decide +kernel
theorem dL_law_316 : decode cL_law 316 = .ok (.if_icmp .eq 503, 3) := by decide +kernel
theorem dL_law_319 : decode cL_law 319 = .ok (.iconst 0, 1) := by decide +kernel
theorem dL_law_320 : decode cL_law 320 = .ok (.ireturn, 1) := by decide +kernel
theorem dL_law_321 : decode cL_law 321 = .ok (.aload_n 1, 1) := by decide +kernel
theorem dL_law_322 : decode cL_law 322 = .ok (.aload_n 0, 1) := by decide +kernel
theorem dL_law_323 : decode cL_law 323 = .ok (.iload_n 3, 1) := by decide +kernel
theorem dL_law_324 : decode cL_law 324 = .ok (.iconst 1, 1) := by decide +kernel
theorem dL_law_325 : decode cL_law 325 = .ok (.iadd, 1) := by decide +kernel
theorem dL_law_326 : decode cL_law 326 = .ok (.iaload, 1) := by decide +kernel
theorem dL_law_327 : decode cL_law 327 = .ok (.aload_n 0, 1) := by decide +kernel
theorem dL_law_328 : decode cL_law 328 = .ok (.iload_n 3, 1) := by decide +kernel
theorem dL_law_329 : decode cL_law 329 = .ok (.iconst 2, 1) := by decide +kernel
theorem dL_law_330 : decode cL_law 330 = .ok (.iadd, 1) := by decide +kernel
theorem dL_law_331 : decode cL_law 331 = .ok (.iaload, 1) := by decide +kernel
theorem dL_law_332 : decode cL_law 332 = .ok (.aload_n 0, 1) := by decide +kernel
theorem dL_law_333 : decode cL_law 333 = .ok (.iload_n 3, 1) := by decide +kernel
theorem dL_law_334 : decode cL_law 334 = .ok (.iconst 3, 1) := by decide +kernel
theorem dL_law_335 : decode cL_law 335 = .ok (.iadd, 1) := by decide +kernel
theorem dL_law_336 : decode cL_law 336 = .ok (.iaload, 1) := by decide +kernel
theorem dL_law_337 : decode cL_law 337 = .ok (.invokevirtual 46, 3) := by decide +kernel
theorem dL_law_340 : decode cL_law 340 = .ok (.aload_n 2, 1) := by decide +kernel
theorem dL_law_341 : decode cL_law 341 = .ok (.aload_n 0, 1) := by decide +kernel
theorem dL_law_342 : decode cL_law 342 = .ok (.iload_n 3, 1) := by decide +kernel
theorem dL_law_343 : decode cL_law 343 = .ok (.iconst 1, 1) := by decide +kernel
theorem dL_law_344 : decode cL_law 344 = .ok (.iadd, 1) := by decide +kernel
theorem dL_law_345 : decode cL_law 345 = .ok (.iaload, 1) := by decide +kernel
theorem dL_law_346 : decode cL_law 346 = .ok (.aload_n 0, 1) := by decide +kernel
theorem dL_law_347 : decode cL_law 347 = .ok (.iload_n 3, 1) := by decide +kernel
theorem dL_law_348 : decode cL_law 348 = .ok (.iconst 2, 1) := by decide +kernel
theorem dL_law_349 : decode cL_law 349 = .ok (.iadd, 1) := by decide +kernel
theorem dL_law_350 : decode cL_law 350 = .ok (.iaload, 1) := by decide +kernel
theorem dL_law_351 : decode cL_law 351 = .ok (.aload_n 0, 1) := by decide +kernel
theorem dL_law_352 : decode cL_law 352 = .ok (.iload_n 3, 1) := by decide +kernel
theorem dL_law_353 : decode cL_law 353 = .ok (.iconst 3, 1) := by decide +kernel
theorem dL_law_354 : decode cL_law 354 = .ok (.iadd, 1) := by decide +kernel
theorem dL_law_355 : decode cL_law 355 = .ok (.iaload, 1) := by decide +kernel
theorem dL_law_356 : decode cL_law 356 = .ok (.invokevirtual 50, 3) := by decide +kernel
theorem dL_law_359 : decode cL_law 359 = .ok (.if_icmp .eq 460, 3) := by decide +kernel
theorem dL_law_362 : decode cL_law 362 = .ok (.iconst 0, 1) := by decide +kernel
theorem dL_law_363 : decode cL_law 363 = .ok (.ireturn, 1) := by decide +kernel
theorem dL_law_364 : decode cL_law 364 = .ok (.aload_n 1, 1) := by decide +kernel
theorem dL_law_365 : decode cL_law 365 = .ok (.aload_n 0, 1) := by decide +kernel
theorem dL_law_366 : decode cL_law 366 = .ok (.iload_n 3, 1) := by decide +kernel
theorem dL_law_367 : decode cL_law 367 = .ok (.iconst 1, 1) := by decide +kernel
theorem dL_law_368 : decode cL_law 368 = .ok (.iadd, 1) := by decide +kernel
theorem dL_law_369 : decode cL_law 369 = .ok (.iaload, 1) := by decide +kernel
theorem dL_law_370 : decode cL_law 370 = .ok (.aload_n 0, 1) := by decide +kernel
theorem dL_law_371 : decode cL_law 371 = .ok (.iload_n 3, 1) := by decide +kernel
theorem dL_law_372 : decode cL_law 372 = .ok (.iconst 2, 1) := by decide +kernel
theorem dL_law_373 : decode cL_law 373 = .ok (.iadd, 1) := by decide +kernel
theorem dL_law_374 : decode cL_law 374 = .ok (.iaload, 1) := by decide +kernel
theorem dL_law_375 : decode cL_law 375 = .ok (.invokevirtual 51, 3) := by decide +kernel
theorem dL_law_378 : decode cL_law 378 = .ok (.aload_n 2, 1) := by decide +kernel
theorem dL_law_379 : decode cL_law 379 = .ok (.aload_n 0, 1) := by decide +kernel
theorem dL_law_380 : decode cL_law 380 = .ok (.iload_n 3, 1) := by decide +kernel
theorem dL_law_381 : decode cL_law 381 = .ok (.iconst 1, 1) := by decide +kernel
theorem dL_law_382 : decode cL_law 382 = .ok (.iadd, 1) := by decide +kernel
theorem dL_law_383 : decode cL_law 383 = .ok (.iaload, 1) := by decide +kernel
theorem dL_law_384 : decode cL_law 384 = .ok (.aload_n 0, 1) := by decide +kernel
theorem dL_law_385 : decode cL_law 385 = .ok (.iload_n 3, 1) := by decide +kernel
theorem dL_law_386 : decode cL_law 386 = .ok (.iconst 2, 1) := by decide +kernel
theorem dL_law_387 : decode cL_law 387 = .ok (.iadd, 1) := by decide +kernel
theorem dL_law_388 : decode cL_law 388 = .ok (.iaload, 1) := by decide +kernel
theorem dL_law_389 : decode cL_law 389 = .ok (.invokevirtual 54, 3) := by decide +kernel
theorem dL_law_392 : decode cL_law 392 = .ok (.if_icmp .eq 427, 3) := by decide +kernel
theorem dL_law_395 : decode cL_law 395 = .ok (.iconst 0, 1) := by decide +kernel
theorem dL_law_396 : decode cL_law 396 = .ok (.ireturn, 1) := by decide +kernel
theorem dL_law_397 : decode cL_law 397 = .ok (.aload_n 1, 1) := by decide +kernel
theorem dL_law_398 : decode cL_law 398 = .ok (.aload_n 0, 1) := by decide +kernel
theorem dL_law_399 : decode cL_law 399 = .ok (.iload_n 3, 1) := by decide +kernel
theorem dL_law_400 : decode cL_law 400 = .ok (.iconst 1, 1) := by decide +kernel
theorem dL_law_401 : decode cL_law 401 = .ok (.iadd, 1) := by decide +kernel
theorem dL_law_402 : decode cL_law 402 = .ok (.iaload, 1) := by decide +kernel
theorem dL_law_403 : decode cL_law 403 = .ok (.aload_n 0, 1) := by decide +kernel
theorem dL_law_404 : decode cL_law 404 = .ok (.iload_n 3, 1) := by decide +kernel
theorem dL_law_405 : decode cL_law 405 = .ok (.iconst 2, 1) := by decide +kernel
theorem dL_law_406 : decode cL_law 406 = .ok (.iadd, 1) := by decide +kernel
theorem dL_law_407 : decode cL_law 407 = .ok (.iaload, 1) := by decide +kernel
theorem dL_law_408 : decode cL_law 408 = .ok (.invokevirtual 55, 3) := by decide +kernel
theorem dL_law_411 : decode cL_law 411 = .ok (.aload_n 2, 1) := by decide +kernel
theorem dL_law_412 : decode cL_law 412 = .ok (.aload_n 0, 1) := by decide +kernel
theorem dL_law_413 : decode cL_law 413 = .ok (.iload_n 3, 1) := by decide +kernel
theorem dL_law_414 : decode cL_law 414 = .ok (.iconst 1, 1) := by decide +kernel
theorem dL_law_415 : decode cL_law 415 = .ok (.iadd, 1) := by decide +kernel
theorem dL_law_416 : decode cL_law 416 = .ok (.iaload, 1) := by decide +kernel
theorem dL_law_417 : decode cL_law 417 = .ok (.aload_n 0, 1) := by decide +kernel
theorem dL_law_418 : decode cL_law 418 = .ok (.iload_n 3, 1) := by decide +kernel
theorem dL_law_419 : decode cL_law 419 = .ok (.iconst 2, 1) := by decide +kernel
theorem dL_law_420 : decode cL_law 420 = .ok (.iadd, 1) := by decide +kernel
theorem dL_law_421 : decode cL_law 421 = .ok (.iaload, 1) := by decide +kernel
theorem dL_law_422 : decode cL_law 422 = .ok (.invokevirtual 58, 3) := by decide +kernel
theorem dL_law_425 : decode cL_law 425 = .ok (.if_icmp .eq 394, 3) := by decide +kernel
theorem dL_law_428 : decode cL_law 428 = .ok (.iconst 0, 1) := by decide +kernel
theorem dL_law_429 : decode cL_law 429 = .ok (.ireturn, 1) := by decide +kernel
theorem dL_law_430 : decode cL_law 430 = .ok (.aload_n 1, 1) := by decide +kernel
theorem dL_law_431 : decode cL_law 431 = .ok (.aload_n 0, 1) := by decide +kernel
theorem dL_law_432 : decode cL_law 432 = .ok (.iload_n 3, 1) := by decide +kernel
theorem dL_law_433 : decode cL_law 433 = .ok (.iconst 1, 1) := by decide +kernel
theorem dL_law_434 : decode cL_law 434 = .ok (.iadd, 1) := by decide +kernel
theorem dL_law_435 : decode cL_law 435 = .ok (.iaload, 1) := by decide +kernel
theorem dL_law_436 : decode cL_law 436 = .ok (.aload_n 0, 1) := by decide +kernel
theorem dL_law_437 : decode cL_law 437 = .ok (.iload_n 3, 1) := by decide +kernel
theorem dL_law_438 : decode cL_law 438 = .ok (.iconst 2, 1) := by decide +kernel
theorem dL_law_439 : decode cL_law 439 = .ok (.iadd, 1) := by decide +kernel
theorem dL_law_440 : decode cL_law 440 = .ok (.iaload, 1) := by decide +kernel
theorem dL_law_441 : decode cL_law 441 = .ok (.invokevirtual 59, 3) := by decide +kernel
theorem dL_law_444 : decode cL_law 444 = .ok (.aload_n 2, 1) := by decide +kernel
theorem dL_law_445 : decode cL_law 445 = .ok (.aload_n 0, 1) := by decide +kernel
theorem dL_law_446 : decode cL_law 446 = .ok (.iload_n 3, 1) := by decide +kernel
theorem dL_law_447 : decode cL_law 447 = .ok (.iconst 1, 1) := by decide +kernel
theorem dL_law_448 : decode cL_law 448 = .ok (.iadd, 1) := by decide +kernel
theorem dL_law_449 : decode cL_law 449 = .ok (.iaload, 1) := by decide +kernel
theorem dL_law_450 : decode cL_law 450 = .ok (.aload_n 0, 1) := by decide +kernel
theorem dL_law_451 : decode cL_law 451 = .ok (.iload_n 3, 1) := by decide +kernel
theorem dL_law_452 : decode cL_law 452 = .ok (.iconst 2, 1) := by decide +kernel
theorem dL_law_453 : decode cL_law 453 = .ok (.iadd, 1) := by decide +kernel
theorem dL_law_454 : decode cL_law 454 = .ok (.iaload, 1) := by decide +kernel
theorem dL_law_455 : decode cL_law 455 = .ok (.invokevirtual 62, 3) := by decide +kernel
theorem dL_law_458 : decode cL_law 458 = .ok (.if_icmp .eq 361, 3) := by decide +kernel
theorem dL_law_461 : decode cL_law 461 = .ok (.iconst 0, 1) := by decide +kernel
theorem dL_law_462 : decode cL_law 462 = .ok (.ireturn, 1) := by decide +kernel
theorem dL_law_463 : decode cL_law 463 = .ok (.aload_n 1, 1) := by decide +kernel
theorem dL_law_464 : decode cL_law 464 = .ok (.aload_n 0, 1) := by decide +kernel
theorem dL_law_465 : decode cL_law 465 = .ok (.iload_n 3, 1) := by decide +kernel
theorem dL_law_466 : decode cL_law 466 = .ok (.iconst 1, 1) := by decide +kernel
theorem dL_law_467 : decode cL_law 467 = .ok (.iadd, 1) := by decide +kernel
theorem dL_law_468 : decode cL_law 468 = .ok (.iaload, 1) := by decide +kernel
theorem dL_law_469 : decode cL_law 469 = .ok (.invokevirtual 63, 3) := by decide +kernel
theorem dL_law_472 : decode cL_law 472 = .ok (.aload_n 2, 1) := by decide +kernel
theorem dL_law_473 : decode cL_law 473 = .ok (.aload_n 0, 1) := by decide +kernel
theorem dL_law_474 : decode cL_law 474 = .ok (.iload_n 3, 1) := by decide +kernel
theorem dL_law_475 : decode cL_law 475 = .ok (.iconst 1, 1) := by decide +kernel
theorem dL_law_476 : decode cL_law 476 = .ok (.iadd, 1) := by decide +kernel
theorem dL_law_477 : decode cL_law 477 = .ok (.iaload, 1) := by decide +kernel
theorem dL_law_478 : decode cL_law 478 = .ok (.invokevirtual 67, 3) := by decide +kernel
theorem dL_law_481 : decode cL_law 481 = .ok (.if_icmp .eq 338, 3) := by decide +kernel
theorem dL_law_484 : decode cL_law 484 = .ok (.iconst 0, 1) := by decide +kernel
theorem dL_law_485 : decode cL_law 485 = .ok (.ireturn, 1) := by decide +kernel
theorem dL_law_486 : decode cL_law 486 = .ok (.aload_n 1, 1) := by decide +kernel
theorem dL_law_487 : decode cL_law 487 = .ok (.aload_n 0, 1) := by decide +kernel
theorem dL_law_488 : decode cL_law 488 = .ok (.iload_n 3, 1) := by decide +kernel
theorem dL_law_489 : decode cL_law 489 = .ok (.iconst 1, 1) := by decide +kernel
theorem dL_law_490 : decode cL_law 490 = .ok (.iadd, 1) := by decide +kernel
theorem dL_law_491 : decode cL_law 491 = .ok (.iaload, 1) := by decide +kernel
theorem dL_law_492 : decode cL_law 492 = .ok (.aload_n 0, 1) := by decide +kernel
theorem dL_law_493 : decode cL_law 493 = .ok (.iload_n 3, 1) := by decide +kernel
theorem dL_law_494 : decode cL_law 494 = .ok (.iconst 2, 1) := by decide +kernel
theorem dL_law_495 : decode cL_law 495 = .ok (.iadd, 1) := by decide +kernel
theorem dL_law_496 : decode cL_law 496 = .ok (.iaload, 1) := by decide +kernel
theorem dL_law_497 : decode cL_law 497 = .ok (.aload_n 0, 1) := by decide +kernel
theorem dL_law_498 : decode cL_law 498 = .ok (.iload_n 3, 1) := by decide +kernel
theorem dL_law_499 : decode cL_law 499 = .ok (.iconst 3, 1) := by decide +kernel
theorem dL_law_500 : decode cL_law 500 = .ok (.iadd, 1) := by decide +kernel
theorem dL_law_501 : decode cL_law 501 = .ok (.iaload, 1) := by decide +kernel
theorem dL_law_502 : decode cL_law 502 = .ok (.invokevirtual 68, 3) := by decide +kernel
theorem dL_law_505 : decode cL_law 505 = .ok (.aload_n 2, 1) := by decide +kernel
theorem dL_law_506 : decode cL_law 506 = .ok (.aload_n 0, 1) := by decide +kernel
theorem dL_law_507 : decode cL_law 507 = .ok (.iload_n 3, 1) := by decide +kernel
theorem dL_law_508 : decode cL_law 508 = .ok (.iconst 1, 1) := by decide +kernel
theorem dL_law_509 : decode cL_law 509 = .ok (.iadd, 1) := by decide +kernel
theorem dL_law_510 : decode cL_law 510 = .ok (.iaload, 1) := by decide +kernel
theorem dL_law_511 : decode cL_law 511 = .ok (.aload_n 0, 1) := by decide +kernel
theorem dL_law_512 : decode cL_law 512 = .ok (.iload_n 3, 1) := by decide +kernel
theorem dL_law_513 : decode cL_law 513 = .ok (.iconst 2, 1) := by decide +kernel
theorem dL_law_514 : decode cL_law 514 = .ok (.iadd, 1) := by decide +kernel
theorem dL_law_515 : decode cL_law 515 = .ok (.iaload, 1) := by decide +kernel
theorem dL_law_516 : decode cL_law 516 = .ok (.aload_n 0, 1) := by decide +kernel
theorem dL_law_517 : decode cL_law 517 = .ok (.iload_n 3, 1) := by decide +kernel
theorem dL_law_518 : decode cL_law 518 = .ok (.iconst 3, 1) := by decide +kernel
theorem dL_law_519 : decode cL_law 519 = .ok (.iadd, 1) := by decide +kernel
theorem dL_law_520 : decode cL_law 520 = .ok (.iaload, 1) := by decide +kernel
theorem dL_law_521 : decode cL_law 521 = .ok (.invokevirtual 71, 3) := by decide +kernel
theorem dL_law_524 : decode cL_law 524 = .ok (.if_icmp .eq 295, 3) := by decide +kernel
theorem dL_law_527 : decode cL_law 527 = .ok (.iconst 0, 1) := by decide +kernel
theorem dL_law_528 : decode cL_law 528 = .ok (.ireturn, 1) := by decide +kernel
theorem dL_law_529 : decode cL_law 529 = .ok (.aload_n 1, 1) := by decide +kernel
theorem dL_law_530 : decode cL_law 530 = .ok (.aload_n 0, 1) := by decide +kernel
theorem dL_law_531 : decode cL_law 531 = .ok (.iload_n 3, 1) := by decide +kernel
theorem dL_law_532 : decode cL_law 532 = .ok (.iconst 1, 1) := by decide +kernel
theorem dL_law_533 : decode cL_law 533 = .ok (.iadd, 1) := by decide +kernel
theorem dL_law_534 : decode cL_law 534 = .ok (.iaload, 1) := by decide +kernel
theorem dL_law_535 : decode cL_law 535 = .ok (.aload_n 0, 1) := by decide +kernel
theorem dL_law_536 : decode cL_law 536 = .ok (.iload_n 3, 1) := by decide +kernel
theorem dL_law_537 : decode cL_law 537 = .ok (.iconst 2, 1) := by decide +kernel
theorem dL_law_538 : decode cL_law 538 = .ok (.iadd, 1) := by decide +kernel
theorem dL_law_539 : decode cL_law 539 = .ok (.iaload, 1) := by decide +kernel
theorem dL_law_540 : decode cL_law 540 = .ok (.invokevirtual 72, 3) := by decide +kernel
theorem dL_law_543 : decode cL_law 543 = .ok (.aload_n 2, 1) := by decide +kernel
theorem dL_law_544 : decode cL_law 544 = .ok (.aload_n 0, 1) := by decide +kernel
theorem dL_law_545 : decode cL_law 545 = .ok (.iload_n 3, 1) := by decide +kernel
theorem dL_law_546 : decode cL_law 546 = .ok (.iconst 1, 1) := by decide +kernel
theorem dL_law_547 : decode cL_law 547 = .ok (.iadd, 1) := by decide +kernel
theorem dL_law_548 : decode cL_law 548 = .ok (.iaload, 1) := by decide +kernel
theorem dL_law_549 : decode cL_law 549 = .ok (.aload_n 0, 1) := by decide +kernel
theorem dL_law_550 : decode cL_law 550 = .ok (.iload_n 3, 1) := by decide +kernel
theorem dL_law_551 : decode cL_law 551 = .ok (.iconst 2, 1) := by decide +kernel
theorem dL_law_552 : decode cL_law 552 = .ok (.iadd, 1) := by decide +kernel
theorem dL_law_553 : decode cL_law 553 = .ok (.iaload, 1) := by decide +kernel
theorem dL_law_554 : decode cL_law 554 = .ok (.invokevirtual 75, 3) := by decide +kernel
theorem dL_law_557 : decode cL_law 557 = .ok (.if_icmp .eq 262, 3) := by decide +kernel
theorem dL_law_560 : decode cL_law 560 = .ok (.iconst 0, 1) := by decide +kernel
theorem dL_law_561 : decode cL_law 561 = .ok (.ireturn, 1) := by decide +kernel
theorem dL_law_562 : decode cL_law 562 = .ok (.aload_n 1, 1) := by decide +kernel
theorem dL_law_563 : decode cL_law 563 = .ok (.aload_n 0, 1) := by decide +kernel
theorem dL_law_564 : decode cL_law 564 = .ok (.iload_n 3, 1) := by decide +kernel
theorem dL_law_565 : decode cL_law 565 = .ok (.iconst 1, 1) := by decide +kernel
theorem dL_law_566 : decode cL_law 566 = .ok (.iadd, 1) := by decide +kernel
theorem dL_law_567 : decode cL_law 567 = .ok (.iaload, 1) := by decide +kernel
theorem dL_law_568 : decode cL_law 568 = .ok (.aload_n 0, 1) := by decide +kernel
theorem dL_law_569 : decode cL_law 569 = .ok (.iload_n 3, 1) := by decide +kernel
theorem dL_law_570 : decode cL_law 570 = .ok (.iconst 2, 1) := by decide +kernel
theorem dL_law_571 : decode cL_law 571 = .ok (.iadd, 1) := by decide +kernel
theorem dL_law_572 : decode cL_law 572 = .ok (.iaload, 1) := by decide +kernel
theorem dL_law_573 : decode cL_law 573 = .ok (.aload_n 0, 1) := by decide +kernel
theorem dL_law_574 : decode cL_law 574 = .ok (.iload_n 3, 1) := by decide +kernel
theorem dL_law_575 : decode cL_law 575 = .ok (.iconst 3, 1) := by decide +kernel
theorem dL_law_576 : decode cL_law 576 = .ok (.iadd, 1) := by decide +kernel
theorem dL_law_577 : decode cL_law 577 = .ok (.iaload, 1) := by decide +kernel
theorem dL_law_578 : decode cL_law 578 = .ok (.invokevirtual 76, 3) := by decide +kernel
theorem dL_law_581 : decode cL_law 581 = .ok (.aload_n 2, 1) := by decide +kernel
theorem dL_law_582 : decode cL_law 582 = .ok (.aload_n 0, 1) := by decide +kernel
theorem dL_law_583 : decode cL_law 583 = .ok (.iload_n 3, 1) := by decide +kernel
theorem dL_law_584 : decode cL_law 584 = .ok (.iconst 1, 1) := by decide +kernel
theorem dL_law_585 : decode cL_law 585 = .ok (.iadd, 1) := by decide +kernel
theorem dL_law_586 : decode cL_law 586 = .ok (.iaload, 1) := by decide +kernel
theorem dL_law_587 : decode cL_law 587 = .ok (.aload_n 0, 1) := by decide +kernel
theorem dL_law_588 : decode cL_law 588 = .ok (.iload_n 3, 1) := by decide +kernel
theorem dL_law_589 : decode cL_law 589 = .ok (.iconst 2, 1) := by decide +kernel
theorem dL_law_590 : decode cL_law 590 = .ok (.iadd, 1) := by decide +kernel
theorem dL_law_591 : decode cL_law 591 = .ok (.iaload, 1) := by decide +kernel
theorem dL_law_592 : decode cL_law 592 = .ok (.aload_n 0, 1) := by decide +kernel
theorem dL_law_593 : decode cL_law 593 = .ok (.iload_n 3, 1) := by decide +kernel
theorem dL_law_594 : decode cL_law 594 = .ok (.iconst 3, 1) := by decide +kernel
theorem dL_law_595 : decode cL_law 595 = .ok (.iadd, 1) := by decide +kernel
theorem dL_law_596 : decode cL_law 596 = .ok (.iaload, 1) := by decide +kernel
theorem dL_law_597 : decode cL_law 597 = .ok (.invokevirtual 79, 3) := by decide +kernel
theorem dL_law_600 : decode cL_law 600 = .ok (.if_icmp .eq 219, 3) := by decide +kernel
theorem dL_law_603 : decode cL_law 603 = .ok (.iconst 0, 1) := by decide +kernel
theorem dL_law_604 : decode cL_law 604 = .ok (.ireturn, 1) := by decide +kernel
theorem dL_law_605 : decode cL_law 605 = .ok (.aload_n 1, 1) := by decide +kernel
theorem dL_law_606 : decode cL_law 606 = .ok (.aload_n 0, 1) := by decide +kernel
theorem dL_law_607 : decode cL_law 607 = .ok (.iload_n 3, 1) := by decide +kernel
theorem dL_law_608 : decode cL_law 608 = .ok (.iconst 1, 1) := by decide +kernel
theorem dL_law_609 : decode cL_law 609 = .ok (.iadd, 1) := by decide +kernel
theorem dL_law_610 : decode cL_law 610 = .ok (.iaload, 1) := by decide +kernel
theorem dL_law_611 : decode cL_law 611 = .ok (.invokevirtual 80, 3) := by decide +kernel
theorem dL_law_614 : decode cL_law 614 = .ok (.aload_n 2, 1) := by decide +kernel
theorem dL_law_615 : decode cL_law 615 = .ok (.aload_n 0, 1) := by decide +kernel
theorem dL_law_616 : decode cL_law 616 = .ok (.iload_n 3, 1) := by decide +kernel
theorem dL_law_617 : decode cL_law 617 = .ok (.iconst 1, 1) := by decide +kernel
theorem dL_law_618 : decode cL_law 618 = .ok (.iadd, 1) := by decide +kernel
theorem dL_law_619 : decode cL_law 619 = .ok (.iaload, 1) := by decide +kernel
theorem dL_law_620 : decode cL_law 620 = .ok (.invokevirtual 83, 3) := by decide +kernel
theorem dL_law_623 : decode cL_law 623 = .ok (.if_icmp .eq 196, 3) := by decide +kernel
theorem dL_law_626 : decode cL_law 626 = .ok (.iconst 0, 1) := by decide +kernel
theorem dL_law_627 : decode cL_law 627 = .ok (.ireturn, 1) := by decide +kernel
theorem dL_law_628 : decode cL_law 628 = .ok (.aload_n 1, 1) := by decide +kernel
theorem dL_law_629 : decode cL_law 629 = .ok (.aload_n 0, 1) := by decide +kernel
theorem dL_law_630 : decode cL_law 630 = .ok (.iload_n 3, 1) := by decide +kernel
theorem dL_law_631 : decode cL_law 631 = .ok (.iconst 1, 1) := by decide +kernel
theorem dL_law_632 : decode cL_law 632 = .ok (.iadd, 1) := by decide +kernel
theorem dL_law_633 : decode cL_law 633 = .ok (.iaload, 1) := by decide +kernel
theorem dL_law_634 : decode cL_law 634 = .ok (.aload_n 0, 1) := by decide +kernel
theorem dL_law_635 : decode cL_law 635 = .ok (.iload_n 3, 1) := by decide +kernel
theorem dL_law_636 : decode cL_law 636 = .ok (.iconst 2, 1) := by decide +kernel
theorem dL_law_637 : decode cL_law 637 = .ok (.iadd, 1) := by decide +kernel
theorem dL_law_638 : decode cL_law 638 = .ok (.iaload, 1) := by decide +kernel
theorem dL_law_639 : decode cL_law 639 = .ok (.aload_n 0, 1) := by decide +kernel
theorem dL_law_640 : decode cL_law 640 = .ok (.iload_n 3, 1) := by decide +kernel
theorem dL_law_641 : decode cL_law 641 = .ok (.iconst 3, 1) := by decide +kernel
theorem dL_law_642 : decode cL_law 642 = .ok (.iadd, 1) := by decide +kernel
theorem dL_law_643 : decode cL_law 643 = .ok (.iaload, 1) := by decide +kernel
theorem dL_law_644 : decode cL_law 644 = .ok (.invokevirtual 84, 3) := by decide +kernel
theorem dL_law_647 : decode cL_law 647 = .ok (.aload_n 2, 1) := by decide +kernel
theorem dL_law_648 : decode cL_law 648 = .ok (.aload_n 0, 1) := by decide +kernel
theorem dL_law_649 : decode cL_law 649 = .ok (.iload_n 3, 1) := by decide +kernel
theorem dL_law_650 : decode cL_law 650 = .ok (.iconst 1, 1) := by decide +kernel
theorem dL_law_651 : decode cL_law 651 = .ok (.iadd, 1) := by decide +kernel
theorem dL_law_652 : decode cL_law 652 = .ok (.iaload, 1) := by decide +kernel
theorem dL_law_653 : decode cL_law 653 = .ok (.aload_n 0, 1) := by decide +kernel
theorem dL_law_654 : decode cL_law 654 = .ok (.iload_n 3, 1) := by decide +kernel
theorem dL_law_655 : decode cL_law 655 = .ok (.iconst 2, 1) := by decide +kernel
theorem dL_law_656 : decode cL_law 656 = .ok (.iadd, 1) := by decide +kernel
theorem dL_law_657 : decode cL_law 657 = .ok (.iaload, 1) := by decide +kernel
theorem dL_law_658 : decode cL_law 658 = .ok (.aload_n 0, 1) := by decide +kernel
theorem dL_law_659 : decode cL_law 659 = .ok (.iload_n 3, 1) := by decide +kernel
theorem dL_law_660 : decode cL_law 660 = .ok (.iconst 3, 1) := by decide +kernel
theorem dL_law_661 : decode cL_law 661 = .ok (.iadd, 1) := by decide +kernel
theorem dL_law_662 : decode cL_law 662 = .ok (.iaload, 1) := by decide +kernel
theorem dL_law_663 : decode cL_law 663 = .ok (.invokevirtual 87, 3) := by decide +kernel
theorem dL_law_666 : decode cL_law 666 = .ok (.if_icmp .eq 153, 3) := by decide +kernel
theorem dL_law_669 : decode cL_law 669 = .ok (.iconst 0, 1) := by decide +kernel
theorem dL_law_670 : decode cL_law 670 = .ok (.ireturn, 1) := by decide +kernel
theorem dL_law_671 : decode cL_law 671 = .ok (.aload_n 1, 1) := by decide +kernel
theorem dL_law_672 : decode cL_law 672 = .ok (.aload_n 0, 1) := by decide +kernel
theorem dL_law_673 : decode cL_law 673 = .ok (.iload_n 3, 1) := by decide +kernel
theorem dL_law_674 : decode cL_law 674 = .ok (.iconst 1, 1) := by decide +kernel
theorem dL_law_675 : decode cL_law 675 = .ok (.iadd, 1) := by decide +kernel
theorem dL_law_676 : decode cL_law 676 = .ok (.iaload, 1) := by decide +kernel
theorem dL_law_677 : decode cL_law 677 = .ok (.aload_n 0, 1) := by decide +kernel
theorem dL_law_678 : decode cL_law 678 = .ok (.iload_n 3, 1) := by decide +kernel
theorem dL_law_679 : decode cL_law 679 = .ok (.iconst 2, 1) := by decide +kernel
theorem dL_law_680 : decode cL_law 680 = .ok (.iadd, 1) := by decide +kernel
theorem dL_law_681 : decode cL_law 681 = .ok (.iaload, 1) := by decide +kernel
theorem dL_law_682 : decode cL_law 682 = .ok (.invokevirtual 88, 3) := by decide +kernel
theorem dL_law_685 : decode cL_law 685 = .ok (.aload_n 2, 1) := by decide +kernel
theorem dL_law_686 : decode cL_law 686 = .ok (.aload_n 0, 1) := by decide +kernel
theorem dL_law_687 : decode cL_law 687 = .ok (.iload_n 3, 1) := by decide +kernel
theorem dL_law_688 : decode cL_law 688 = .ok (.iconst 1, 1) := by decide +kernel
theorem dL_law_689 : decode cL_law 689 = .ok (.iadd, 1) := by decide +kernel
theorem dL_law_690 : decode cL_law 690 = .ok (.iaload, 1) := by decide +kernel
theorem dL_law_691 : decode cL_law 691 = .ok (.aload_n 0, 1) := by decide +kernel
theorem dL_law_692 : decode cL_law 692 = .ok (.iload_n 3, 1) := by decide +kernel
theorem dL_law_693 : decode cL_law 693 = .ok (.iconst 2, 1) := by decide +kernel
theorem dL_law_694 : decode cL_law 694 = .ok (.iadd, 1) := by decide +kernel
theorem dL_law_695 : decode cL_law 695 = .ok (.iaload, 1) := by decide +kernel
theorem dL_law_696 : decode cL_law 696 = .ok (.invokevirtual 91, 3) := by decide +kernel
theorem dL_law_699 : decode cL_law 699 = .ok (.if_icmp .eq 120, 3) := by decide +kernel
theorem dL_law_702 : decode cL_law 702 = .ok (.iconst 0, 1) := by decide +kernel
theorem dL_law_703 : decode cL_law 703 = .ok (.ireturn, 1) := by decide +kernel
theorem dL_law_704 : decode cL_law 704 = .ok (.aload_n 1, 1) := by decide +kernel
theorem dL_law_705 : decode cL_law 705 = .ok (.aload_n 0, 1) := by decide +kernel
theorem dL_law_706 : decode cL_law 706 = .ok (.iload_n 3, 1) := by decide +kernel
theorem dL_law_707 : decode cL_law 707 = .ok (.iconst 1, 1) := by decide +kernel
theorem dL_law_708 : decode cL_law 708 = .ok (.iadd, 1) := by decide +kernel
theorem dL_law_709 : decode cL_law 709 = .ok (.iaload, 1) := by decide +kernel
theorem dL_law_710 : decode cL_law 710 = .ok (.aload_n 0, 1) := by decide +kernel
theorem dL_law_711 : decode cL_law 711 = .ok (.iload_n 3, 1) := by decide +kernel
theorem dL_law_712 : decode cL_law 712 = .ok (.iconst 2, 1) := by decide +kernel
theorem dL_law_713 : decode cL_law 713 = .ok (.iadd, 1) := by decide +kernel
theorem dL_law_714 : decode cL_law 714 = .ok (.iaload, 1) := by decide +kernel
theorem dL_law_715 : decode cL_law 715 = .ok (.invokevirtual 92, 3) := by decide +kernel
theorem dL_law_718 : decode cL_law 718 = .ok (.aload_n 2, 1) := by decide +kernel
theorem dL_law_719 : decode cL_law 719 = .ok (.aload_n 0, 1) := by decide +kernel
theorem dL_law_720 : decode cL_law 720 = .ok (.iload_n 3, 1) := by decide +kernel
theorem dL_law_721 : decode cL_law 721 = .ok (.iconst 1, 1) := by decide +kernel
theorem dL_law_722 : decode cL_law 722 = .ok (.iadd, 1) := by decide +kernel
theorem dL_law_723 : decode cL_law 723 = .ok (.iaload, 1) := by decide +kernel
theorem dL_law_724 : decode cL_law 724 = .ok (.aload_n 0, 1) := by decide +kernel
theorem dL_law_725 : decode cL_law 725 = .ok (.iload_n 3, 1) := by decide +kernel
theorem dL_law_726 : decode cL_law 726 = .ok (.iconst 2, 1) := by decide +kernel
theorem dL_law_727 : decode cL_law 727 = .ok (.iadd, 1) := by decide +kernel
theorem dL_law_728 : decode cL_law 728 = .ok (.iaload, 1) := by decide +kernel
theorem dL_law_729 : decode cL_law 729 = .ok (.invokevirtual 95, 3) := by decide +kernel
theorem dL_law_732 : decode cL_law 732 = .ok (.if_icmp .eq 87, 3) := by decide +kernel
theorem dL_law_735 : decode cL_law 735 = .ok (.iconst 0, 1) := by decide +kernel
theorem dL_law_736 : decode cL_law 736 = .ok (.ireturn, 1) := by decide +kernel
theorem dL_law_737 : decode cL_law 737 = .ok (.aload_n 1, 1) := by decide +kernel
theorem dL_law_738 : decode cL_law 738 = .ok (.aload_n 0, 1) := by decide +kernel
theorem dL_law_739 : decode cL_law 739 = .ok (.iload_n 3, 1) := by decide +kernel
theorem dL_law_740 : decode cL_law 740 = .ok (.iconst 1, 1) := by decide +kernel
theorem dL_law_741 : decode cL_law 741 = .ok (.iadd, 1) := by decide +kernel
theorem dL_law_742 : decode cL_law 742 = .ok (.iaload, 1) := by decide +kernel
theorem dL_law_743 : decode cL_law 743 = .ok (.aload_n 0, 1) := by decide +kernel
theorem dL_law_744 : decode cL_law 744 = .ok (.iload_n 3, 1) := by decide +kernel
theorem dL_law_745 : decode cL_law 745 = .ok (.iconst 2, 1) := by decide +kernel
theorem dL_law_746 : decode cL_law 746 = .ok (.iadd, 1) := by decide +kernel
theorem dL_law_747 : decode cL_law 747 = .ok (.iaload, 1) := by decide +kernel
theorem dL_law_748 : decode cL_law 748 = .ok (.invokevirtual 96, 3) := by decide +kernel
theorem dL_law_751 : decode cL_law 751 = .ok (.aload_n 2, 1) := by decide +kernel
theorem dL_law_752 : decode cL_law 752 = .ok (.aload_n 0, 1) := by decide +kernel
theorem dL_law_753 : decode cL_law 753 = .ok (.iload_n 3, 1) := by decide +kernel
theorem dL_law_754 : decode cL_law 754 = .ok (.iconst 1, 1) := by decide +kernel
theorem dL_law_755 : decode cL_law 755 = .ok (.iadd, 1) := by decide +kernel
theorem dL_law_756 : decode cL_law 756 = .ok (.iaload, 1) := by decide +kernel
theorem dL_law_757 : decode cL_law 757 = .ok (.aload_n 0, 1) := by decide +kernel
theorem dL_law_758 : decode cL_law 758 = .ok (.iload_n 3, 1) := by decide +kernel
theorem dL_law_759 : decode cL_law 759 = .ok (.iconst 2, 1) := by decide +kernel
theorem dL_law_760 : decode cL_law 760 = .ok (.iadd, 1) := by decide +kernel
theorem dL_law_761 : decode cL_law 761 = .ok (.iaload, 1) := by decide +kernel
theorem dL_law_762 : decode cL_law 762 = .ok (.invokevirtual 99, 3) := by decide +kernel
theorem dL_law_765 : decode cL_law 765 = .ok (.if_icmp .eq 54, 3) := by decide +kernel
theorem dL_law_768 : decode cL_law 768 = .ok (.iconst 0, 1) := by decide +kernel
theorem dL_law_769 : decode cL_law 769 = .ok (.ireturn, 1) := by decide +kernel
theorem dL_law_770 : decode cL_law 770 = .ok (.aload_n 1, 1) := by decide +kernel
theorem dL_law_771 : decode cL_law 771 = .ok (.invokevirtual 100, 3) := by decide +kernel
theorem dL_law_774 : decode cL_law 774 = .ok (.aload_n 2, 1) := by decide +kernel
theorem dL_law_775 : decode cL_law 775 = .ok (.invokevirtual 103, 3) := by decide +kernel
theorem dL_law_778 : decode cL_law 778 = .ok (.if_icmp .eq 41, 3) := by decide +kernel
theorem dL_law_781 : decode cL_law 781 = .ok (.iconst 0, 1) := by decide +kernel
theorem dL_law_782 : decode cL_law 782 = .ok (.ireturn, 1) := by decide +kernel
theorem dL_law_783 : decode cL_law 783 = .ok (.aload_n 1, 1) := by decide +kernel
theorem dL_law_784 : decode cL_law 784 = .ok (.invokevirtual 104, 3) := by decide +kernel
theorem dL_law_787 : decode cL_law 787 = .ok (.aload_n 2, 1) := by decide +kernel
theorem dL_law_788 : decode cL_law 788 = .ok (.invokevirtual 107, 3) := by decide +kernel
theorem dL_law_791 : decode cL_law 791 = .ok (.if_icmp .eq 28, 3) := by decide +kernel
theorem dL_law_794 : decode cL_law 794 = .ok (.iconst 0, 1) := by decide +kernel
theorem dL_law_795 : decode cL_law 795 = .ok (.ireturn, 1) := by decide +kernel
theorem dL_law_796 : decode cL_law 796 = .ok (.aload_n 1, 1) := by decide +kernel
theorem dL_law_797 : decode cL_law 797 = .ok (.aload_n 0, 1) := by decide +kernel
theorem dL_law_798 : decode cL_law 798 = .ok (.iload_n 3, 1) := by decide +kernel
theorem dL_law_799 : decode cL_law 799 = .ok (.iconst 1, 1) := by decide +kernel
theorem dL_law_800 : decode cL_law 800 = .ok (.iadd, 1) := by decide +kernel
theorem dL_law_801 : decode cL_law 801 = .ok (.iaload, 1) := by decide +kernel
theorem dL_law_802 : decode cL_law 802 = .ok (.invokevirtual 108, 3) := by decide +kernel
theorem dL_law_805 : decode cL_law 805 = .ok (.aload_n 2, 1) := by decide +kernel
theorem dL_law_806 : decode cL_law 806 = .ok (.aload_n 0, 1) := by decide +kernel
theorem dL_law_807 : decode cL_law 807 = .ok (.iload_n 3, 1) := by decide +kernel
theorem dL_law_808 : decode cL_law 808 = .ok (.iconst 1, 1) := by decide +kernel
theorem dL_law_809 : decode cL_law 809 = .ok (.iadd, 1) := by decide +kernel
theorem dL_law_810 : decode cL_law 810 = .ok (.iaload, 1) := by decide +kernel
theorem dL_law_811 : decode cL_law 811 = .ok (.invokevirtual 111, 3) := by decide +kernel
theorem dL_law_814 : decode cL_law 814 = .ok (.if_icmp .eq 5, 3) := by decide +kernel
theorem dL_law_817 : decode cL_law 817 = .ok (.iconst 0, 1) := by decide +kernel
theorem dL_law_818 : decode cL_law 818 = .ok (.ireturn, 1) := by decide +kernel
theorem dL_law_819 : decode cL_law 819 = .ok (.iinc 3 4, 3) := by decide +kernel
theorem dL_law_822 : decode cL_law 822 = .ok (.goto (-804), 3) := by decide +kernel
theorem dL_law_825 : decode cL_law 825 = .ok (.iconst 1, 1) := by decide +kernel
theorem dL_law_826 : decode cL_law 826 = .ok (.ireturn, 1) := by decide +kernel
