theorem dX0_init_0 : decode cX0_init 0 = .ok (.aload_n 0, 1) := by decide +kernel
theorem dX0_init_1 : decode cX0_init 1 = .ok (.invokespecial 3, 3) := by decide +kernel
theorem dX0_init_4 : decode cX0_init 4 = .ok (.aload_n 0, 1) := by decide +kernel
theorem dX0_init_5 : decode cX0_init 5 = .ok (.bipush 30, 2) := by decide +kernel
theorem dX0_init_7 : decode cX0_init 7 = .ok (.newarray .int, 2) := by decide +kernel
theorem dX0_init_9 : decode cX0_init 9 = .ok (.putfield 9, 3) := by decide +kernel
theorem dX0_init_12 : decode cX0_init 12 = .ok (.aload_n 0, 1) := by decide +kernel
theorem dX0_init_13 : decode cX0_init 13 = .ok (.iconst 0, 1) := by decide +kernel
theorem dX0_init_14 : decode cX0_init 14 = .ok (.putfield 15, 3) := by decide +kernel
theorem dX0_init_17 : decode cX0_init 17 = .ok (.aload_n 0, 1) := by decide +kernel
theorem dX0_init_18 : decode cX0_init 18 = .ok (.iconst 0, 1) := by decide +kernel
theorem dX0_init_19 : decode cX0_init 19 = .ok (.putfield 19, 3) := by decide +kernel
theorem dX0_init_22 : decode cX0_init 22 = .ok (.aload_n 0, 1) := by decide +kernel
theorem dX0_init_23 : decode cX0_init 23 = .ok (.iconst 0, 1) := by decide +kernel
theorem dX0_init_24 : decode cX0_init 24 = .ok (.putfield 22, 3) := by decide +kernel
theorem dX0_init_27 : decode cX0_init 27 = .ok (.return_, 1) := by decide +kernel
theorem dX0_clear_0 : decode cX0_clear 0 = .ok (.aload_n 0, 1) := by decide +kernel
theorem dX0_clear_1 : decode cX0_clear 1 = .ok (.iconst 0, 1) := by decide +kernel
theorem dX0_clear_2 : decode cX0_clear 2 = .ok (.putfield 15, 3) := by decide +kernel
theorem dX0_clear_5 : decode cX0_clear 5 = .ok (.iconst 0, 1) := by decide +kernel
theorem dX0_clear_6 : decode cX0_clear 6 = .ok (.istore_n 1, 1) := by decide +kernel
theorem dX0_clear_7 : decode cX0_clear 7 = .ok (.iload_n 1, 1) := by decide +kernel
theorem dX0_clear_8 : decode cX0_clear 8 = .ok (.aload_n 0, 1) := by decide +kernel
theorem dX0_clear_9 : decode cX0_clear 9 = .ok (.getfield 9, 3) := by decide +kernel
theorem dX0_clear_12 : decode cX0_clear 12 = .ok (.arraylength, 1) := by decide +kernel
theorem dX0_clear_13 : decode cX0_clear 13 = .ok (.if_icmp .ge 16, 3) := by decide +kernel
theorem dX0_clear_16 : decode cX0_clear 16 = .ok (.aload_n 0, 1) := by decide +kernel
theorem dX0_clear_17 : decode cX0_clear 17 = .ok (.getfield 9, 3) := by decide +kernel
theorem dX0_clear_20 : decode cX0_clear 20 = .ok (.iload_n 1, 1) := by decide +kernel
theorem dX0_clear_21 : decode cX0_clear 21 = .ok (.iconst 0, 1) := by decide +kernel
theorem dX0_clear_22 : decode cX0_clear 22 = .ok (.iastore, 1) := by decide +kernel
theorem dX0_clear_23 : decode cX0_clear 23 = .ok (.iinc 1 1, 3) := by decide +kernel
theorem dX0_clear_26 : decode cX0_clear 26 = .ok (.goto (-19), 3) := by decide +kernel
theorem dX0_clear_29 : decode cX0_clear 29 = .ok (.return_, 1) := by decide +kernel
theorem dX0_addVotes_0 : decode cX0_addVotes 0 = .ok (.iload_n 1, 1) := by decide +kernel
theorem dX0_addVotes_1 : decode cX0_addVotes 1 = .ok (.ifCond .lt 32, 3) := by decide +kernel
theorem dX0_addVotes_4 : decode cX0_addVotes 4 = .ok (.iload_n 1, 1) := by decide +kernel
theorem dX0_addVotes_5 : decode cX0_addVotes 5 = .ok (.aload_n 0, 1) := by decide +kernel
theorem dX0_addVotes_6 : decode cX0_addVotes 6 = .ok (.getfield 9, 3) := by decide +kernel
theorem dX0_addVotes_9 : decode cX0_addVotes 9 = .ok (.arraylength, 1) := by decide +kernel
theorem dX0_addVotes_10 : decode cX0_addVotes 10 = .ok (.if_icmp .ge 23, 3) := by decide +kernel
theorem dX0_addVotes_13 : decode cX0_addVotes 13 = .ok (.aload_n 0, 1) := by decide +kernel
theorem dX0_addVotes_14 : decode cX0_addVotes 14 = .ok (.getfield 9, 3) := by decide +kernel
theorem dX0_addVotes_17 : decode cX0_addVotes 17 = .ok (.iload_n 1, 1) := by decide +kernel
theorem dX0_addVotes_18 : decode cX0_addVotes 18 = .ok (.dup2, 1) := by decide +kernel
theorem dX0_addVotes_19 : decode cX0_addVotes 19 = .ok (.iaload, 1) := by decide +kernel
theorem dX0_addVotes_20 : decode cX0_addVotes 20 = .ok (.iload_n 2, 1) := by decide +kernel
theorem dX0_addVotes_21 : decode cX0_addVotes 21 = .ok (.iadd, 1) := by decide +kernel
theorem dX0_addVotes_22 : decode cX0_addVotes 22 = .ok (.iastore, 1) := by decide +kernel
theorem dX0_addVotes_23 : decode cX0_addVotes 23 = .ok (.aload_n 0, 1) := by decide +kernel
theorem dX0_addVotes_24 : decode cX0_addVotes 24 = .ok (.dup, 1) := by decide +kernel
theorem dX0_addVotes_25 : decode cX0_addVotes 25 = .ok (.getfield 15, 3) := by decide +kernel
theorem dX0_addVotes_28 : decode cX0_addVotes 28 = .ok (.iload_n 2, 1) := by decide +kernel
theorem dX0_addVotes_29 : decode cX0_addVotes 29 = .ok (.iadd, 1) := by decide +kernel
theorem dX0_addVotes_30 : decode cX0_addVotes 30 = .ok (.putfield 15, 3) := by decide +kernel
theorem dX0_addVotes_33 : decode cX0_addVotes 33 = .ok (.return_, 1) := by decide +kernel
theorem dX0_trimEnds_0 : decode cX0_trimEnds 0 = .ok (.aload_n 0, 1) := by decide +kernel
theorem dX0_trimEnds_1 : decode cX0_trimEnds 1 = .ok (.getfield 15, 3) := by decide +kernel
theorem dX0_trimEnds_4 : decode cX0_trimEnds 4 = .ok (.iload_n 1, 1) := by decide +kernel
theorem dX0_trimEnds_5 : decode cX0_trimEnds 5 = .ok (.imul, 1) := by decide +kernel
theorem dX0_trimEnds_6 : decode cX0_trimEnds 6 = .ok (.bipush 100, 2) := by decide +kernel
theorem dX0_trimEnds_8 : decode cX0_trimEnds 8 = .ok (.idiv, 1) := by decide +kernel
theorem dX0_trimEnds_9 : decode cX0_trimEnds 9 = .ok (.istore_n 2, 1) := by decide +kernel
theorem dX0_trimEnds_10 : decode cX0_trimEnds 10 = .ok (.aload_n 0, 1) := by decide +kernel
theorem dX0_trimEnds_11 : decode cX0_trimEnds 11 = .ok (.getfield 15, 3) := by decide +kernel
theorem dX0_trimEnds_14 : decode cX0_trimEnds 14 = .ok (.iload_n 2, 1) := by decide +kernel
theorem dX0_trimEnds_15 : decode cX0_trimEnds 15 = .ok (.isub, 1) := by decide +kernel
theorem dX0_trimEnds_16 : decode cX0_trimEnds 16 = .ok (.istore_n 3, 1) := by decide +kernel
theorem dX0_trimEnds_17 : decode cX0_trimEnds 17 = .ok (.aload_n 0, 1) := by decide +kernel
theorem dX0_trimEnds_18 : decode cX0_trimEnds 18 = .ok (.iload_n 3, 1) := by decide +kernel
theorem dX0_trimEnds_19 : decode cX0_trimEnds 19 = .ok (.iload_n 2, 1) := by decide +kernel
theorem dX0_trimEnds_20 : decode cX0_trimEnds 20 = .ok (.isub, 1) := by decide +kernel
theorem dX0_trimEnds_21 : decode cX0_trimEnds 21 = .ok (.putfield 22, 3) := by decide +kernel
theorem dX0_trimEnds_24 : decode cX0_trimEnds 24 = .ok (.aload_n 0, 1) := by decide +kernel
theorem dX0_trimEnds_25 : decode cX0_trimEnds 25 = .ok (.iconst 0, 1) := by decide +kernel
theorem dX0_trimEnds_26 : decode cX0_trimEnds 26 = .ok (.putfield 19, 3) := by decide +kernel
theorem dX0_trimEnds_29 : decode cX0_trimEnds 29 = .ok (.iconst 0, 1) := by decide +kernel
theorem dX0_trimEnds_30 : decode cX0_trimEnds 30 = .ok (.istore 4, 2) := by decide +kernel
theorem dX0_trimEnds_32 : decode cX0_trimEnds 32 = .ok (.iconst 0, 1) := by decide +kernel
theorem dX0_trimEnds_33 : decode cX0_trimEnds 33 = .ok (.istore 5, 2) := by decide +kernel
theorem dX0_trimEnds_35 : decode cX0_trimEnds 35 = .ok (.iload 5, 2) := by decide +kernel
theorem dX0_trimEnds_37 : decode cX0_trimEnds 37 = .ok (.aload_n 0, 1) := by decide +kernel
theorem dX0_trimEnds_38 : decode cX0_trimEnds 38 = .ok (.getfield 9, 3) := by decide +kernel
theorem dX0_trimEnds_41 : decode cX0_trimEnds 41 = .ok (.arraylength, 1) := by decide +kernel
theorem dX0_trimEnds_42 : decode cX0_trimEnds 42 = .ok (.if_icmp .ge 73, 3) := by decide +kernel
theorem dX0_trimEnds_45 : decode cX0_trimEnds 45 = .ok (.iload 4, 2) := by decide +kernel
theorem dX0_trimEnds_47 : decode cX0_trimEnds 47 = .ok (.iload_n 2, 1) := by decide +kernel
theorem dX0_trimEnds_48 : decode cX0_trimEnds 48 = .ok (.if_icmp .le 8, 3) := by decide +kernel
theorem dX0_trimEnds_51 : decode cX0_trimEnds 51 = .ok (.iload 4, 2) := by decide +kernel
theorem dX0_trimEnds_53 : decode cX0_trimEnds 53 = .ok (.goto 4, 3) := by decide +kernel
theorem dX0_trimEnds_56 : decode cX0_trimEnds 56 = .ok (.iload_n 2, 1) := by decide +kernel
theorem dX0_trimEnds_57 : decode cX0_trimEnds 57 = .ok (.istore 6, 2) := by decide +kernel
theorem dX0_trimEnds_59 : decode cX0_trimEnds 59 = .ok (.iload 4, 2) := by decide +kernel
theorem dX0_trimEnds_61 : decode cX0_trimEnds 61 = .ok (.aload_n 0, 1) := by decide +kernel
theorem dX0_trimEnds_62 : decode cX0_trimEnds 62 = .ok (.getfield 9, 3) := by decide +kernel
theorem dX0_trimEnds_65 : decode cX0_trimEnds 65 = .ok (.iload 5, 2) := by decide +kernel
theorem dX0_trimEnds_67 : decode cX0_trimEnds 67 = .ok (.iaload, 1) := by decide +kernel
theorem dX0_trimEnds_68 : decode cX0_trimEnds 68 = .ok (.iadd, 1) := by decide +kernel
theorem dX0_trimEnds_69 : decode cX0_trimEnds 69 = .ok (.istore 4, 2) := by decide +kernel
theorem dX0_trimEnds_71 : decode cX0_trimEnds 71 = .ok (.iload 4, 2) := by decide +kernel
theorem dX0_trimEnds_73 : decode cX0_trimEnds 73 = .ok (.iload_n 3, 1) := by decide +kernel
theorem dX0_trimEnds_74 : decode cX0_trimEnds 74 = .ok (.if_icmp .ge 8, 3) := by decide +kernel
theorem dX0_trimEnds_77 : decode cX0_trimEnds 77 = .ok (.iload 4, 2) := by decide +kernel
theorem dX0_trimEnds_79 : decode cX0_trimEnds 79 = .ok (.goto 4, 3) := by decide +kernel
theorem dX0_trimEnds_82 : decode cX0_trimEnds 82 = .ok (.iload_n 3, 1) := by decide +kernel
theorem dX0_trimEnds_83 : decode cX0_trimEnds 83 = .ok (.istore 7, 2) := by decide +kernel
theorem dX0_trimEnds_85 : decode cX0_trimEnds 85 = .ok (.iload 7, 2) := by decide +kernel
theorem dX0_trimEnds_87 : decode cX0_trimEnds 87 = .ok (.iload 6, 2) := by decide +kernel
theorem dX0_trimEnds_89 : decode cX0_trimEnds 89 = .ok (.if_icmp .le 20, 3) := by decide +kernel
theorem dX0_trimEnds_92 : decode cX0_trimEnds 92 = .ok (.aload_n 0, 1) := by decide +kernel
theorem dX0_trimEnds_93 : decode cX0_trimEnds 93 = .ok (.dup, 1) := by decide +kernel
theorem dX0_trimEnds_94 : decode cX0_trimEnds 94 = .ok (.getfield 19, 3) := by decide +kernel
theorem dX0_trimEnds_97 : decode cX0_trimEnds 97 = .ok (.iload 7, 2) := by decide +kernel
theorem dX0_trimEnds_99 : decode cX0_trimEnds 99 = .ok (.iload 6, 2) := by decide +kernel
theorem dX0_trimEnds_101 : decode cX0_trimEnds 101 = .ok (.isub, 1) := by decide +kernel
theorem dX0_trimEnds_102 : decode cX0_trimEnds 102 = .ok (.iload 5, 2) := by decide +kernel
theorem dX0_trimEnds_104 : decode cX0_trimEnds 104 = .ok (.imul, 1) := by decide +kernel
theorem dX0_trimEnds_105 : decode cX0_trimEnds 105 = .ok (.iadd, 1) := by decide +kernel
theorem dX0_trimEnds_106 : decode cX0_trimEnds 106 = .ok (.putfield 19, 3) := by decide +kernel
theorem dX0_trimEnds_109 : decode cX0_trimEnds 109 = .ok (.iinc 5 1, 3) := by decide +kernel
theorem dX0_trimEnds_112 : decode cX0_trimEnds 112 = .ok (.goto (-77), 3) := by decide +kernel
theorem dX0_trimEnds_115 : decode cX0_trimEnds 115 = .ok (.return_, 1) := by decide +kernel
theorem dX0_nearestGrade_0 : decode cX0_nearestGrade 0 = .ok (.aload_n 0, 1) := by decide +kernel
theorem dX0_nearestGrade_1 : decode cX0_nearestGrade 1 = .ok (.getfield 22, 3) := by decide +kernel
theorem dX0_nearestGrade_4 : decode cX0_nearestGrade 4 = .ok (.ifCond .le 24, 3) := by decide +kernel
theorem dX0_nearestGrade_7 : decode cX0_nearestGrade 7 = .ok (.iconst 2, 1) := by decide +kernel
theorem dX0_nearestGrade_8 : decode cX0_nearestGrade 8 = .ok (.aload_n 0, 1) := by decide +kernel
theorem dX0_nearestGrade_9 : decode cX0_nearestGrade 9 = .ok (.getfield 19, 3) := by decide +kernel
theorem dX0_nearestGrade_12 : decode cX0_nearestGrade 12 = .ok (.imul, 1) := by decide +kernel
theorem dX0_nearestGrade_13 : decode cX0_nearestGrade 13 = .ok (.aload_n 0, 1) := by decide +kernel
theorem dX0_nearestGrade_14 : decode cX0_nearestGrade 14 = .ok (.getfield 22, 3) := by decide +kernel
theorem dX0_nearestGrade_17 : decode cX0_nearestGrade 17 = .ok (.iadd, 1) := by decide +kernel
theorem dX0_nearestGrade_18 : decode cX0_nearestGrade 18 = .ok (.iconst 2, 1) := by decide +kernel
theorem dX0_nearestGrade_19 : decode cX0_nearestGrade 19 = .ok (.aload_n 0, 1) := by decide +kernel
theorem dX0_nearestGrade_20 : decode cX0_nearestGrade 20 = .ok (.getfield 22, 3) := by decide +kernel
theorem dX0_nearestGrade_23 : decode cX0_nearestGrade 23 = .ok (.imul, 1) := by decide +kernel
theorem dX0_nearestGrade_24 : decode cX0_nearestGrade 24 = .ok (.idiv, 1) := by decide +kernel
theorem dX0_nearestGrade_25 : decode cX0_nearestGrade 25 = .ok (.goto 4, 3) := by decide +kernel
theorem dX0_nearestGrade_28 : decode cX0_nearestGrade 28 = .ok (.iconst 0, 1) := by decide +kernel
theorem dX0_nearestGrade_29 : decode cX0_nearestGrade 29 = .ok (.ireturn, 1) := by decide +kernel
theorem dX1_init_0 : decode cX1_init 0 = .ok (.aload_n 0, 1) := by decide +kernel
theorem dX1_init_1 : decode cX1_init 1 = .ok (.invokespecial 3, 3) := by decide +kernel
theorem dX1_init_4 : decode cX1_init 4 = .ok (.aload_n 0, 1) := by decide +kernel
theorem dX1_init_5 : decode cX1_init 5 = .ok (.new 9, 3) := by decide +kernel
theorem dX1_init_8 : decode cX1_init 8 = .ok (.dup, 1) := by decide +kernel
theorem dX1_init_9 : decode cX1_init 9 = .ok (.bipush 8, 2) := by decide +kernel
theorem dX1_init_11 : decode cX1_init 11 = .ok (.iconst 4, 1) := by decide +kernel
theorem dX1_init_12 : decode cX1_init 12 = .ok (.invokespecial 11, 3) := by decide +kernel
theorem dX1_init_15 : decode cX1_init 15 = .ok (.putfield 14, 3) := by decide +kernel
theorem dX1_init_18 : decode cX1_init 18 = .ok (.aload_n 0, 1) := by decide +kernel
theorem dX1_init_19 : decode cX1_init 19 = .ok (.new 9, 3) := by decide +kernel
theorem dX1_init_22 : decode cX1_init 22 = .ok (.dup, 1) := by decide +kernel
theorem dX1_init_23 : decode cX1_init 23 = .ok (.bipush 24, 2) := by decide +kernel
theorem dX1_init_25 : decode cX1_init 25 = .ok (.bipush 18, 2) := by decide +kernel
theorem dX1_init_27 : decode cX1_init 27 = .ok (.invokespecial 11, 3) := by decide +kernel
theorem dX1_init_30 : decode cX1_init 30 = .ok (.putfield 20, 3) := by decide +kernel
theorem dX1_init_33 : decode cX1_init 33 = .ok (.aload_n 0, 1) := by decide +kernel
theorem dX1_init_34 : decode cX1_init 34 = .ok (.new 9, 3) := by decide +kernel
theorem dX1_init_37 : decode cX1_init 37 = .ok (.dup, 1) := by decide +kernel
theorem dX1_init_38 : decode cX1_init 38 = .ok (.bipush 30, 2) := by decide +kernel
theorem dX1_init_40 : decode cX1_init 40 = .ok (.iconst 4, 1) := by decide +kernel
theorem dX1_init_41 : decode cX1_init 41 = .ok (.invokespecial 11, 3) := by decide +kernel
theorem dX1_init_44 : decode cX1_init 44 = .ok (.putfield 23, 3) := by decide +kernel
theorem dX1_init_47 : decode cX1_init 47 = .ok (.aload_n 0, 1) := by decide +kernel
theorem dX1_init_48 : decode cX1_init 48 = .ok (.new 9, 3) := by decide +kernel
theorem dX1_init_51 : decode cX1_init 51 = .ok (.dup, 1) := by decide +kernel
theorem dX1_init_52 : decode cX1_init 52 = .ok (.bipush 15, 2) := by decide +kernel
theorem dX1_init_54 : decode cX1_init 54 = .ok (.iconst 4, 1) := by decide +kernel
theorem dX1_init_55 : decode cX1_init 55 = .ok (.invokespecial 11, 3) := by decide +kernel
theorem dX1_init_58 : decode cX1_init 58 = .ok (.putfield 26, 3) := by decide +kernel
theorem dX1_init_61 : decode cX1_init 61 = .ok (.aload_n 0, 1) := by decide +kernel
theorem dX1_init_62 : decode cX1_init 62 = .ok (.new 9, 3) := by decide +kernel
theorem dX1_init_65 : decode cX1_init 65 = .ok (.dup, 1) := by decide +kernel
theorem dX1_init_66 : decode cX1_init 66 = .ok (.bipush 12, 2) := by decide +kernel
theorem dX1_init_68 : decode cX1_init 68 = .ok (.bipush 6, 2) := by decide +kernel
theorem dX1_init_70 : decode cX1_init 70 = .ok (.invokespecial 11, 3) := by decide +kernel
theorem dX1_init_73 : decode cX1_init 73 = .ok (.putfield 29, 3) := by decide +kernel
theorem dX1_init_76 : decode cX1_init 76 = .ok (.aload_n 0, 1) := by decide +kernel
theorem dX1_init_77 : decode cX1_init 77 = .ok (.new 9, 3) := by decide +kernel
theorem dX1_init_80 : decode cX1_init 80 = .ok (.dup, 1) := by decide +kernel
theorem dX1_init_81 : decode cX1_init 81 = .ok (.bipush 8, 2) := by decide +kernel
theorem dX1_init_83 : decode cX1_init 83 = .ok (.iconst 3, 1) := by decide +kernel
theorem dX1_init_84 : decode cX1_init 84 = .ok (.invokespecial 11, 3) := by decide +kernel
theorem dX1_init_87 : decode cX1_init 87 = .ok (.putfield 32, 3) := by decide +kernel
theorem dX1_init_90 : decode cX1_init 90 = .ok (.aload_n 0, 1) := by decide +kernel
theorem dX1_init_91 : decode cX1_init 91 = .ok (.iconst 0, 1) := by decide +kernel
theorem dX1_init_92 : decode cX1_init 92 = .ok (.putfield 35, 3) := by decide +kernel
theorem dX1_init_95 : decode cX1_init 95 = .ok (.aload_n 0, 1) := by decide +kernel
theorem dX1_init_96 : decode cX1_init 96 = .ok (.bipush 20, 2) := by decide +kernel
theorem dX1_init_98 : decode cX1_init 98 = .ok (.putfield 39, 3) := by decide +kernel
theorem dX1_init_101 : decode cX1_init 101 = .ok (.aload_n 0, 1) := by decide +kernel
theorem dX1_init_102 : decode cX1_init 102 = .ok (.iconst 2, 1) := by decide +kernel
theorem dX1_init_103 : decode cX1_init 103 = .ok (.putfield 42, 3) := by decide +kernel
theorem dX1_init_106 : decode cX1_init 106 = .ok (.aload_n 0, 1) := by decide +kernel
theorem dX1_init_107 : decode cX1_init 107 = .ok (.bipush 50, 2) := by decide +kernel
theorem dX1_init_109 : decode cX1_init 109 = .ok (.putfield 45, 3) := by decide +kernel
theorem dX1_init_112 : decode cX1_init 112 = .ok (.aload_n 0, 1) := by decide +kernel
theorem dX1_init_113 : decode cX1_init 113 = .ok (.aload_n 1, 1) := by decide +kernel
theorem dX1_init_114 : decode cX1_init 114 = .ok (.putfield 48, 3) := by decide +kernel
theorem dX1_init_117 : decode cX1_init 117 = .ok (.return_, 1) := by decide +kernel
theorem dX1_copyFrom_0 : decode cX1_copyFrom 0 = .ok (.aload_n 0, 1) := by decide +kernel
theorem dX1_copyFrom_1 : decode cX1_copyFrom 1 = .ok (.getfield 14, 3) := by decide +kernel
theorem dX1_copyFrom_4 : decode cX1_copyFrom 4 = .ok (.aload_n 1, 1) := by decide +kernel
theorem dX1_copyFrom_5 : decode cX1_copyFrom 5 = .ok (.getfield 14, 3) := by decide +kernel
theorem dX1_copyFrom_8 : decode cX1_copyFrom 8 = .ok (.invokevirtual 52, 3) := by decide +kernel
theorem dX1_copyFrom_11 : decode cX1_copyFrom 11 = .ok (.aload_n 0, 1) := by decide +kernel
theorem dX1_copyFrom_12 : decode cX1_copyFrom 12 = .ok (.getfield 20, 3) := by decide +kernel
theorem dX1_copyFrom_15 : decode cX1_copyFrom 15 = .ok (.aload_n 1, 1) := by decide +kernel
theorem dX1_copyFrom_16 : decode cX1_copyFrom 16 = .ok (.getfield 20, 3) := by decide +kernel
theorem dX1_copyFrom_19 : decode cX1_copyFrom 19 = .ok (.invokevirtual 52, 3) := by decide +kernel
theorem dX1_copyFrom_22 : decode cX1_copyFrom 22 = .ok (.aload_n 0, 1) := by decide +kernel
theorem dX1_copyFrom_23 : decode cX1_copyFrom 23 = .ok (.getfield 23, 3) := by decide +kernel
theorem dX1_copyFrom_26 : decode cX1_copyFrom 26 = .ok (.aload_n 1, 1) := by decide +kernel
theorem dX1_copyFrom_27 : decode cX1_copyFrom 27 = .ok (.getfield 23, 3) := by decide +kernel
theorem dX1_copyFrom_30 : decode cX1_copyFrom 30 = .ok (.invokevirtual 52, 3) := by decide +kernel
theorem dX1_copyFrom_33 : decode cX1_copyFrom 33 = .ok (.aload_n 0, 1) := by decide +kernel
theorem dX1_copyFrom_34 : decode cX1_copyFrom 34 = .ok (.getfield 26, 3) := by decide +kernel
theorem dX1_copyFrom_37 : decode cX1_copyFrom 37 = .ok (.aload_n 1, 1) := by decide +kernel
theorem dX1_copyFrom_38 : decode cX1_copyFrom 38 = .ok (.getfield 26, 3) := by decide +kernel
theorem dX1_copyFrom_41 : decode cX1_copyFrom 41 = .ok (.invokevirtual 52, 3) := by decide +kernel
theorem dX1_copyFrom_44 : decode cX1_copyFrom 44 = .ok (.aload_n 0, 1) := by decide +kernel
theorem dX1_copyFrom_45 : decode cX1_copyFrom 45 = .ok (.getfield 29, 3) := by decide +kernel
theorem dX1_copyFrom_48 : decode cX1_copyFrom 48 = .ok (.aload_n 1, 1) := by decide +kernel
theorem dX1_copyFrom_49 : decode cX1_copyFrom 49 = .ok (.getfield 29, 3) := by decide +kernel
theorem dX1_copyFrom_52 : decode cX1_copyFrom 52 = .ok (.invokevirtual 52, 3) := by decide +kernel
theorem dX1_copyFrom_55 : decode cX1_copyFrom 55 = .ok (.aload_n 0, 1) := by decide +kernel
theorem dX1_copyFrom_56 : decode cX1_copyFrom 56 = .ok (.getfield 32, 3) := by decide +kernel
theorem dX1_copyFrom_59 : decode cX1_copyFrom 59 = .ok (.aload_n 1, 1) := by decide +kernel
theorem dX1_copyFrom_60 : decode cX1_copyFrom 60 = .ok (.getfield 32, 3) := by decide +kernel
theorem dX1_copyFrom_63 : decode cX1_copyFrom 63 = .ok (.invokevirtual 52, 3) := by decide +kernel
theorem dX1_copyFrom_66 : decode cX1_copyFrom 66 = .ok (.aload_n 0, 1) := by decide +kernel
theorem dX1_copyFrom_67 : decode cX1_copyFrom 67 = .ok (.aload_n 1, 1) := by decide +kernel
theorem dX1_copyFrom_68 : decode cX1_copyFrom 68 = .ok (.getfield 35, 3) := by decide +kernel
theorem dX1_copyFrom_71 : decode cX1_copyFrom 71 = .ok (.putfield 35, 3) := by decide +kernel
theorem dX1_copyFrom_74 : decode cX1_copyFrom 74 = .ok (.aload_n 0, 1) := by decide +kernel
theorem dX1_copyFrom_75 : decode cX1_copyFrom 75 = .ok (.aload_n 1, 1) := by decide +kernel
theorem dX1_copyFrom_76 : decode cX1_copyFrom 76 = .ok (.getfield 39, 3) := by decide +kernel
theorem dX1_copyFrom_79 : decode cX1_copyFrom 79 = .ok (.aload_n 1, 1) := by decide +kernel
theorem dX1_copyFrom_80 : decode cX1_copyFrom 80 = .ok (.getfield 42, 3) := by decide +kernel
theorem dX1_copyFrom_83 : decode cX1_copyFrom 83 = .ok (.aload_n 1, 1) := by decide +kernel
theorem dX1_copyFrom_84 : decode cX1_copyFrom 84 = .ok (.getfield 45, 3) := by decide +kernel
theorem dX1_copyFrom_87 : decode cX1_copyFrom 87 = .ok (.invokevirtual 56, 3) := by decide +kernel
theorem dX1_copyFrom_90 : decode cX1_copyFrom 90 = .ok (.return_, 1) := by decide +kernel
theorem dX1_clear_0 : decode cX1_clear 0 = .ok (.aload_n 0, 1) := by decide +kernel
theorem dX1_clear_1 : decode cX1_clear 1 = .ok (.getfield 14, 3) := by decide +kernel
theorem dX1_clear_4 : decode cX1_clear 4 = .ok (.invokevirtual 60, 3) := by decide +kernel
theorem dX1_clear_7 : decode cX1_clear 7 = .ok (.aload_n 0, 1) := by decide +kernel
theorem dX1_clear_8 : decode cX1_clear 8 = .ok (.getfield 20, 3) := by decide +kernel
theorem dX1_clear_11 : decode cX1_clear 11 = .ok (.invokevirtual 60, 3) := by decide +kernel
theorem dX1_clear_14 : decode cX1_clear 14 = .ok (.aload_n 0, 1) := by decide +kernel
theorem dX1_clear_15 : decode cX1_clear 15 = .ok (.getfield 23, 3) := by decide +kernel
theorem dX1_clear_18 : decode cX1_clear 18 = .ok (.invokevirtual 60, 3) := by decide +kernel
theorem dX1_clear_21 : decode cX1_clear 21 = .ok (.aload_n 0, 1) := by decide +kernel
theorem dX1_clear_22 : decode cX1_clear 22 = .ok (.getfield 26, 3) := by decide +kernel
theorem dX1_clear_25 : decode cX1_clear 25 = .ok (.invokevirtual 60, 3) := by decide +kernel
theorem dX1_clear_28 : decode cX1_clear 28 = .ok (.aload_n 0, 1) := by decide +kernel
theorem dX1_clear_29 : decode cX1_clear 29 = .ok (.getfield 29, 3) := by decide +kernel
theorem dX1_clear_32 : decode cX1_clear 32 = .ok (.invokevirtual 60, 3) := by decide +kernel
theorem dX1_clear_35 : decode cX1_clear 35 = .ok (.aload_n 0, 1) := by decide +kernel
theorem dX1_clear_36 : decode cX1_clear 36 = .ok (.getfield 32, 3) := by decide +kernel
theorem dX1_clear_39 : decode cX1_clear 39 = .ok (.invokevirtual 60, 3) := by decide +kernel
theorem dX1_clear_42 : decode cX1_clear 42 = .ok (.aload_n 0, 1) := by decide +kernel
theorem dX1_clear_43 : decode cX1_clear 43 = .ok (.iconst 0, 1) := by decide +kernel
theorem dX1_clear_44 : decode cX1_clear 44 = .ok (.putfield 35, 3) := by decide +kernel
theorem dX1_clear_47 : decode cX1_clear 47 = .ok (.aload_n 0, 1) := by decide +kernel
theorem dX1_clear_48 : decode cX1_clear 48 = .ok (.bipush 20, 2) := by decide +kernel
theorem dX1_clear_50 : decode cX1_clear 50 = .ok (.iconst 2, 1) := by decide +kernel
theorem dX1_clear_51 : decode cX1_clear 51 = .ok (.bipush 50, 2) := by decide +kernel
theorem dX1_clear_53 : decode cX1_clear 53 = .ok (.invokevirtual 56, 3) := by decide +kernel
theorem dX1_clear_56 : decode cX1_clear 56 = .ok (.return_, 1) := by decide +kernel
theorem dX1_setRules_0 : decode cX1_setRules 0 = .ok (.aload_n 0, 1) := by decide +kernel
theorem dX1_setRules_1 : decode cX1_setRules 1 = .ok (.iload_n 1, 1) := by decide +kernel
theorem dX1_setRules_2 : decode cX1_setRules 2 = .ok (.putfield 39, 3) := by decide +kernel
theorem dX1_setRules_5 : decode cX1_setRules 5 = .ok (.aload_n 0, 1) := by decide +kernel
theorem dX1_setRules_6 : decode cX1_setRules 6 = .ok (.iload_n 2, 1) := by decide +kernel
theorem dX1_setRules_7 : decode cX1_setRules 7 = .ok (.putfield 42, 3) := by decide +kernel
theorem dX1_setRules_10 : decode cX1_setRules 10 = .ok (.aload_n 0, 1) := by decide +kernel
theorem dX1_setRules_11 : decode cX1_setRules 11 = .ok (.iload_n 3, 1) := by decide +kernel
theorem dX1_setRules_12 : decode cX1_setRules 12 = .ok (.putfield 45, 3) := by decide +kernel
theorem dX1_setRules_15 : decode cX1_setRules 15 = .ok (.return_, 1) := by decide +kernel
theorem dX1_addWall_0 : decode cX1_addWall 0 = .ok (.aload_n 0, 1) := by decide +kernel
theorem dX1_addWall_1 : decode cX1_addWall 1 = .ok (.getfield 14, 3) := by decide +kernel
theorem dX1_addWall_4 : decode cX1_addWall 4 = .ok (.invokevirtual 63, 3) := by decide +kernel
theorem dX1_addWall_7 : decode cX1_addWall 7 = .ok (.istore 4, 2) := by decide +kernel
theorem dX1_addWall_9 : decode cX1_addWall 9 = .ok (.aload_n 0, 1) := by decide +kernel
theorem dX1_addWall_10 : decode cX1_addWall 10 = .ok (.getfield 14, 3) := by decide +kernel
theorem dX1_addWall_13 : decode cX1_addWall 13 = .ok (.iload 4, 2) := by decide +kernel
theorem dX1_addWall_15 : decode cX1_addWall 15 = .ok (.iconst 0, 1) := by decide +kernel
theorem dX1_addWall_16 : decode cX1_addWall 16 = .ok (.iload_n 1, 1) := by decide +kernel
theorem dX1_addWall_17 : decode cX1_addWall 17 = .ok (.invokevirtual 67, 3) := by decide +kernel
theorem dX1_addWall_20 : decode cX1_addWall 20 = .ok (.aload_n 0, 1) := by decide +kernel
theorem dX1_addWall_21 : decode cX1_addWall 21 = .ok (.getfield 14, 3) := by decide +kernel
theorem dX1_addWall_24 : decode cX1_addWall 24 = .ok (.iload 4, 2) := by decide +kernel
theorem dX1_addWall_26 : decode cX1_addWall 26 = .ok (.iconst 1, 1) := by decide +kernel
theorem dX1_addWall_27 : decode cX1_addWall 27 = .ok (.iload_n 2, 1) := by decide +kernel
theorem dX1_addWall_28 : decode cX1_addWall 28 = .ok (.invokevirtual 67, 3) := by decide +kernel
theorem dX1_addWall_31 : decode cX1_addWall 31 = .ok (.aload_n 0, 1) := by decide +kernel
theorem dX1_addWall_32 : decode cX1_addWall 32 = .ok (.getfield 14, 3) := by decide +kernel
theorem dX1_addWall_35 : decode cX1_addWall 35 = .ok (.iload 4, 2) := by decide +kernel
theorem dX1_addWall_37 : decode cX1_addWall 37 = .ok (.iconst 2, 1) := by decide +kernel
theorem dX1_addWall_38 : decode cX1_addWall 38 = .ok (.iload_n 3, 1) := by decide +kernel
theorem dX1_addWall_39 : decode cX1_addWall 39 = .ok (.invokevirtual 67, 3) := by decide +kernel
theorem dX1_addWall_42 : decode cX1_addWall 42 = .ok (.aload_n 0, 1) := by decide +kernel
theorem dX1_addWall_43 : decode cX1_addWall 43 = .ok (.getfield 14, 3) := by decide +kernel
theorem dX1_addWall_46 : decode cX1_addWall 46 = .ok (.iload 4, 2) := by decide +kernel
theorem dX1_addWall_48 : decode cX1_addWall 48 = .ok (.iconst 3, 1) := by decide +kernel
theorem dX1_addWall_49 : decode cX1_addWall 49 = .ok (.iload_n 3, 1) := by decide +kernel
theorem dX1_addWall_50 : decode cX1_addWall 50 = .ok (.invokevirtual 67, 3) := by decide +kernel
theorem dX1_addWall_53 : decode cX1_addWall 53 = .ok (.return_, 1) := by decide +kernel
theorem dX1_addHarness_0 : decode cX1_addHarness 0 = .ok (.aload_n 0, 1) := by decide +kernel
theorem dX1_addHarness_1 : decode cX1_addHarness 1 = .ok (.getfield 26, 3) := by decide +kernel
theorem dX1_addHarness_4 : decode cX1_addHarness 4 = .ok (.invokevirtual 63, 3) := by decide +kernel
theorem dX1_addHarness_7 : decode cX1_addHarness 7 = .ok (.istore_n 3, 1) := by decide +kernel
theorem dX1_addHarness_8 : decode cX1_addHarness 8 = .ok (.aload_n 0, 1) := by decide +kernel
theorem dX1_addHarness_9 : decode cX1_addHarness 9 = .ok (.getfield 26, 3) := by decide +kernel
theorem dX1_addHarness_12 : decode cX1_addHarness 12 = .ok (.iload_n 3, 1) := by decide +kernel
theorem dX1_addHarness_13 : decode cX1_addHarness 13 = .ok (.iconst 0, 1) := by decide +kernel
theorem dX1_addHarness_14 : decode cX1_addHarness 14 = .ok (.iload_n 1, 1) := by decide +kernel
theorem dX1_addHarness_15 : decode cX1_addHarness 15 = .ok (.invokevirtual 67, 3) := by decide +kernel
theorem dX1_addHarness_18 : decode cX1_addHarness 18 = .ok (.aload_n 0, 1) := by decide +kernel
theorem dX1_addHarness_19 : decode cX1_addHarness 19 = .ok (.getfield 26, 3) := by decide +kernel
theorem dX1_addHarness_22 : decode cX1_addHarness 22 = .ok (.iload_n 3, 1) := by decide +kernel
theorem dX1_addHarness_23 : decode cX1_addHarness 23 = .ok (.iconst 1, 1) := by decide +kernel
theorem dX1_addHarness_24 : decode cX1_addHarness 24 = .ok (.iload_n 2, 1) := by decide +kernel
theorem dX1_addHarness_25 : decode cX1_addHarness 25 = .ok (.invokevirtual 67, 3) := by decide +kernel
theorem dX1_addHarness_28 : decode cX1_addHarness 28 = .ok (.return_, 1) := by decide +kernel
theorem dX1_addMember_0 : decode cX1_addMember 0 = .ok (.aload_n 0, 1) := by decide +kernel
theorem dX1_addMember_1 : decode cX1_addMember 1 = .ok (.getfield 29, 3) := by decide +kernel
theorem dX1_addMember_4 : decode cX1_addMember 4 = .ok (.invokevirtual 63, 3) := by decide +kernel
theorem dX1_addMember_7 : decode cX1_addMember 7 = .ok (.istore_n 3, 1) := by decide +kernel
theorem dX1_addMember_8 : decode cX1_addMember 8 = .ok (.aload_n 0, 1) := by decide +kernel
theorem dX1_addMember_9 : decode cX1_addMember 9 = .ok (.getfield 29, 3) := by decide +kernel
theorem dX1_addMember_12 : decode cX1_addMember 12 = .ok (.iload_n 3, 1) := by decide +kernel
theorem dX1_addMember_13 : decode cX1_addMember 13 = .ok (.iconst 0, 1) := by decide +kernel
theorem dX1_addMember_14 : decode cX1_addMember 14 = .ok (.iload_n 1, 1) := by decide +kernel
theorem dX1_addMember_15 : decode cX1_addMember 15 = .ok (.invokevirtual 67, 3) := by decide +kernel
theorem dX1_addMember_18 : decode cX1_addMember 18 = .ok (.aload_n 0, 1) := by decide +kernel
theorem dX1_addMember_19 : decode cX1_addMember 19 = .ok (.getfield 29, 3) := by decide +kernel
theorem dX1_addMember_22 : decode cX1_addMember 22 = .ok (.iload_n 3, 1) := by decide +kernel
theorem dX1_addMember_23 : decode cX1_addMember 23 = .ok (.iconst 1, 1) := by decide +kernel
theorem dX1_addMember_24 : decode cX1_addMember 24 = .ok (.iload_n 2, 1) := by decide +kernel
theorem dX1_addMember_25 : decode cX1_addMember 25 = .ok (.invokevirtual 67, 3) := by decide +kernel
theorem dX1_addMember_28 : decode cX1_addMember 28 = .ok (.aload_n 0, 1) := by decide +kernel
theorem dX1_addMember_29 : decode cX1_addMember 29 = .ok (.getfield 29, 3) := by decide +kernel
theorem dX1_addMember_32 : decode cX1_addMember 32 = .ok (.iload_n 3, 1) := by decide +kernel
theorem dX1_addMember_33 : decode cX1_addMember 33 = .ok (.iconst 3, 1) := by decide +kernel
theorem dX1_addMember_34 : decode cX1_addMember 34 = .ok (.iconst (-1), 1) := by decide +kernel
theorem dX1_addMember_35 : decode cX1_addMember 35 = .ok (.invokevirtual 67, 3) := by decide +kernel
theorem dX1_addMember_38 : decode cX1_addMember 38 = .ok (.aload_n 0, 1) := by decide +kernel
theorem dX1_addMember_39 : decode cX1_addMember 39 = .ok (.getfield 29, 3) := by decide +kernel
theorem dX1_addMember_42 : decode cX1_addMember 42 = .ok (.iload_n 3, 1) := by decide +kernel
theorem dX1_addMember_43 : decode cX1_addMember 43 = .ok (.iconst 4, 1) := by decide +kernel
theorem dX1_addMember_44 : decode cX1_addMember 44 = .ok (.iconst (-1), 1) := by decide +kernel
theorem dX1_addMember_45 : decode cX1_addMember 45 = .ok (.invokevirtual 67, 3) := by decide +kernel
theorem dX1_addMember_48 : decode cX1_addMember 48 = .ok (.return_, 1) := by decide +kernel
theorem dX1_addCourse_0 : decode cX1_addCourse 0 = .ok (.aload_n 0, 1) := by decide +kernel
theorem dX1_addCourse_1 : decode cX1_addCourse 1 = .ok (.getfield 32, 3) := by decide +kernel
theorem dX1_addCourse_4 : decode cX1_addCourse 4 = .ok (.invokevirtual 63, 3) := by decide +kernel
theorem dX1_addCourse_7 : decode cX1_addCourse 7 = .ok (.istore 4, 2) := by decide +kernel
theorem dX1_addCourse_9 : decode cX1_addCourse 9 = .ok (.aload_n 0, 1) := by decide +kernel
theorem dX1_addCourse_10 : decode cX1_addCourse 10 = .ok (.getfield 32, 3) := by decide +kernel
theorem dX1_addCourse_13 : decode cX1_addCourse 13 = .ok (.iload 4, 2) := by decide +kernel
theorem dX1_addCourse_15 : decode cX1_addCourse 15 = .ok (.iconst 0, 1) := by decide +kernel
theorem dX1_addCourse_16 : decode cX1_addCourse 16 = .ok (.iload_n 1, 1) := by decide +kernel
theorem dX1_addCourse_17 : decode cX1_addCourse 17 = .ok (.invokevirtual 67, 3) := by decide +kernel
theorem dX1_addCourse_20 : decode cX1_addCourse 20 = .ok (.aload_n 0, 1) := by decide +kernel
theorem dX1_addCourse_21 : decode cX1_addCourse 21 = .ok (.getfield 32, 3) := by decide +kernel
theorem dX1_addCourse_24 : decode cX1_addCourse 24 = .ok (.iload 4, 2) := by decide +kernel
theorem dX1_addCourse_26 : decode cX1_addCourse 26 = .ok (.iconst 1, 1) := by decide +kernel
theorem dX1_addCourse_27 : decode cX1_addCourse 27 = .ok (.iload_n 2, 1) := by decide +kernel
theorem dX1_addCourse_28 : decode cX1_addCourse 28 = .ok (.invokevirtual 67, 3) := by decide +kernel
theorem dX1_addCourse_31 : decode cX1_addCourse 31 = .ok (.aload_n 0, 1) := by decide +kernel
theorem dX1_addCourse_32 : decode cX1_addCourse 32 = .ok (.getfield 32, 3) := by decide +kernel
theorem dX1_addCourse_35 : decode cX1_addCourse 35 = .ok (.iload 4, 2) := by decide +kernel
theorem dX1_addCourse_37 : decode cX1_addCourse 37 = .ok (.iconst 2, 1) := by decide +kernel
theorem dX1_addCourse_38 : decode cX1_addCourse 38 = .ok (.iload_n 3, 1) := by decide +kernel
theorem dX1_addCourse_39 : decode cX1_addCourse 39 = .ok (.invokevirtual 67, 3) := by decide +kernel
theorem dX1_addCourse_42 : decode cX1_addCourse 42 = .ok (.return_, 1) := by decide +kernel
theorem dX1_routesOn_0 : decode cX1_routesOn 0 = .ok (.iconst 0, 1) := by decide +kernel
theorem dX1_routesOn_1 : decode cX1_routesOn 1 = .ok (.istore_n 2, 1) := by decide +kernel
theorem dX1_routesOn_2 : decode cX1_routesOn 2 = .ok (.iconst 0, 1) := by decide +kernel
theorem dX1_routesOn_3 : decode cX1_routesOn 3 = .ok (.istore_n 3, 1) := by decide +kernel
theorem dX1_routesOn_4 : decode cX1_routesOn 4 = .ok (.iload_n 3, 1) := by decide +kernel
theorem dX1_routesOn_5 : decode cX1_routesOn 5 = .ok (.aload_n 0, 1) := by decide +kernel
theorem dX1_routesOn_6 : decode cX1_routesOn 6 = .ok (.getfield 20, 3) := by decide +kernel
theorem dX1_routesOn_9 : decode cX1_routesOn 9 = .ok (.getfield 70, 3) := by decide +kernel
theorem dX1_routesOn_12 : decode cX1_routesOn 12 = .ok (.if_icmp .ge 25, 3) := by decide +kernel
theorem dX1_routesOn_15 : decode cX1_routesOn 15 = .ok (.aload_n 0, 1) := by decide +kernel
theorem dX1_routesOn_16 : decode cX1_routesOn 16 = .ok (.getfield 20, 3) := by decide +kernel
theorem dX1_routesOn_19 : decode cX1_routesOn 19 = .ok (.iload_n 3, 1) := by decide +kernel
theorem dX1_routesOn_20 : decode cX1_routesOn 20 = .ok (.iconst 0, 1) := by decide +kernel
theorem dX1_routesOn_21 : decode cX1_routesOn 21 = .ok (.invokevirtual 73, 3) := by decide +kernel
theorem dX1_routesOn_24 : decode cX1_routesOn 24 = .ok (.iload_n 1, 1) := by decide +kernel
theorem dX1_routesOn_25 : decode cX1_routesOn 25 = .ok (.if_icmp .ne 6, 3) := by decide +kernel
theorem dX1_routesOn_28 : decode cX1_routesOn 28 = .ok (.iinc 2 1, 3) := by decide +kernel
theorem dX1_routesOn_31 : decode cX1_routesOn 31 = .ok (.iinc 3 1, 3) := by decide +kernel
theorem dX1_routesOn_34 : decode cX1_routesOn 34 = .ok (.goto (-30), 3) := by decide +kernel
theorem dX1_routesOn_37 : decode cX1_routesOn 37 = .ok (.iload_n 2, 1) := by decide +kernel
theorem dX1_routesOn_38 : decode cX1_routesOn 38 = .ok (.ireturn, 1) := by decide +kernel
theorem dX1_addRoute_0 : decode cX1_addRoute 0 = .ok (.aload_n 0, 1) := by decide +kernel
theorem dX1_addRoute_1 : decode cX1_addRoute 1 = .ok (.getfield 20, 3) := by decide +kernel
theorem dX1_addRoute_4 : decode cX1_addRoute 4 = .ok (.invokevirtual 63, 3) := by decide +kernel
theorem dX1_addRoute_7 : decode cX1_addRoute 7 = .ok (.istore_n 3, 1) := by decide +kernel
theorem dX1_addRoute_8 : decode cX1_addRoute 8 = .ok (.aload_n 0, 1) := by decide +kernel
theorem dX1_addRoute_9 : decode cX1_addRoute 9 = .ok (.getfield 20, 3) := by decide +kernel
theorem dX1_addRoute_12 : decode cX1_addRoute 12 = .ok (.iload_n 3, 1) := by decide +kernel
theorem dX1_addRoute_13 : decode cX1_addRoute 13 = .ok (.iconst 0, 1) := by decide +kernel
theorem dX1_addRoute_14 : decode cX1_addRoute 14 = .ok (.iload_n 1, 1) := by decide +kernel
theorem dX1_addRoute_15 : decode cX1_addRoute 15 = .ok (.invokevirtual 67, 3) := by decide +kernel
theorem dX1_addRoute_18 : decode cX1_addRoute 18 = .ok (.aload_n 0, 1) := by decide +kernel
theorem dX1_addRoute_19 : decode cX1_addRoute 19 = .ok (.getfield 20, 3) := by decide +kernel
theorem dX1_addRoute_22 : decode cX1_addRoute 22 = .ok (.iload_n 3, 1) := by decide +kernel
theorem dX1_addRoute_23 : decode cX1_addRoute 23 = .ok (.iconst 1, 1) := by decide +kernel
theorem dX1_addRoute_24 : decode cX1_addRoute 24 = .ok (.iload_n 2, 1) := by decide +kernel
theorem dX1_addRoute_25 : decode cX1_addRoute 25 = .ok (.invokevirtual 67, 3) := by decide +kernel
theorem dX1_addRoute_28 : decode cX1_addRoute 28 = .ok (.aload_n 0, 1) := by decide +kernel
theorem dX1_addRoute_29 : decode cX1_addRoute 29 = .ok (.getfield 20, 3) := by decide +kernel
theorem dX1_addRoute_32 : decode cX1_addRoute 32 = .ok (.iload_n 3, 1) := by decide +kernel
theorem dX1_addRoute_33 : decode cX1_addRoute 33 = .ok (.iconst 2, 1) := by decide +kernel
theorem dX1_addRoute_34 : decode cX1_addRoute 34 = .ok (.aload_n 0, 1) := by decide +kernel
theorem dX1_addRoute_35 : decode cX1_addRoute 35 = .ok (.getfield 35, 3) := by decide +kernel
theorem dX1_addRoute_38 : decode cX1_addRoute 38 = .ok (.invokevirtual 67, 3) := by decide +kernel
theorem dX1_addRoute_41 : decode cX1_addRoute 41 = .ok (.iconst 0, 1) := by decide +kernel
theorem dX1_addRoute_42 : decode cX1_addRoute 42 = .ok (.istore 4, 2) := by decide +kernel
theorem dX1_addRoute_44 : decode cX1_addRoute 44 = .ok (.iload 4, 2) := by decide +kernel
theorem dX1_addRoute_46 : decode cX1_addRoute 46 = .ok (.bipush 12, 2) := by decide +kernel
theorem dX1_addRoute_48 : decode cX1_addRoute 48 = .ok (.if_icmp .ge 23, 3) := by decide +kernel
theorem dX1_addRoute_51 : decode cX1_addRoute 51 = .ok (.aload_n 0, 1) := by decide +kernel
theorem dX1_addRoute_52 : decode cX1_addRoute 52 = .ok (.getfield 20, 3) := by decide +kernel
theorem dX1_addRoute_55 : decode cX1_addRoute 55 = .ok (.iload_n 3, 1) := by decide +kernel
theorem dX1_addRoute_56 : decode cX1_addRoute 56 = .ok (.bipush 6, 2) := by decide +kernel
theorem dX1_addRoute_58 : decode cX1_addRoute 58 = .ok (.iload 4, 2) := by decide +kernel
theorem dX1_addRoute_60 : decode cX1_addRoute 60 = .ok (.iadd, 1) := by decide +kernel
theorem dX1_addRoute_61 : decode cX1_addRoute 61 = .ok (.iconst (-1), 1) := by decide +kernel
theorem dX1_addRoute_62 : decode cX1_addRoute 62 = .ok (.invokevirtual 67, 3) := by decide +kernel
theorem dX1_addRoute_65 : decode cX1_addRoute 65 = .ok (.iinc 4 1, 3) := by decide +kernel
theorem dX1_addRoute_68 : decode cX1_addRoute 68 = .ok (.goto (-24), 3) := by decide +kernel
theorem dX1_addRoute_71 : decode cX1_addRoute 71 = .ok (.iload_n 3, 1) := by decide +kernel
theorem dX1_addRoute_72 : decode cX1_addRoute 72 = .ok (.ireturn, 1) := by decide +kernel
theorem dX1_archiveRoute_0 : decode cX1_archiveRoute 0 = .ok (.aload_n 0, 1) := by decide +kernel
theorem dX1_archiveRoute_1 : decode cX1_archiveRoute 1 = .ok (.iload_n 1, 1) := by decide +kernel
theorem dX1_archiveRoute_2 : decode cX1_archiveRoute 2 = .ok (.invokevirtual 77, 3) := by decide +kernel
theorem dX1_archiveRoute_5 : decode cX1_archiveRoute 5 = .ok (.istore_n 2, 1) := by decide +kernel
theorem dX1_archiveRoute_6 : decode cX1_archiveRoute 6 = .ok (.aload_n 0, 1) := by decide +kernel
theorem dX1_archiveRoute_7 : decode cX1_archiveRoute 7 = .ok (.getfield 23, 3) := by decide +kernel
theorem dX1_archiveRoute_10 : decode cX1_archiveRoute 10 = .ok (.invokevirtual 81, 3) := by decide +kernel
theorem dX1_archiveRoute_13 : decode cX1_archiveRoute 13 = .ok (.ifCond .eq 11, 3) := by decide +kernel
theorem dX1_archiveRoute_16 : decode cX1_archiveRoute 16 = .ok (.aload_n 0, 1) := by decide +kernel
theorem dX1_archiveRoute_17 : decode cX1_archiveRoute 17 = .ok (.getfield 23, 3) := by decide +kernel
theorem dX1_archiveRoute_20 : decode cX1_archiveRoute 20 = .ok (.iconst 0, 1) := by decide +kernel
theorem dX1_archiveRoute_21 : decode cX1_archiveRoute 21 = .ok (.invokevirtual 85, 3) := by decide +kernel
theorem dX1_archiveRoute_24 : decode cX1_archiveRoute 24 = .ok (.aload_n 0, 1) := by decide +kernel
theorem dX1_archiveRoute_25 : decode cX1_archiveRoute 25 = .ok (.getfield 23, 3) := by decide +kernel
theorem dX1_archiveRoute_28 : decode cX1_archiveRoute 28 = .ok (.invokevirtual 63, 3) := by decide +kernel
theorem dX1_archiveRoute_31 : decode cX1_archiveRoute 31 = .ok (.istore_n 3, 1) := by decide +kernel
theorem dX1_archiveRoute_32 : decode cX1_archiveRoute 32 = .ok (.aload_n 0, 1) := by decide +kernel
theorem dX1_archiveRoute_33 : decode cX1_archiveRoute 33 = .ok (.getfield 23, 3) := by decide +kernel
theorem dX1_archiveRoute_36 : decode cX1_archiveRoute 36 = .ok (.iload_n 3, 1) := by decide +kernel
theorem dX1_archiveRoute_37 : decode cX1_archiveRoute 37 = .ok (.iconst 0, 1) := by decide +kernel
theorem dX1_archiveRoute_38 : decode cX1_archiveRoute 38 = .ok (.aload_n 0, 1) := by decide +kernel
theorem dX1_archiveRoute_39 : decode cX1_archiveRoute 39 = .ok (.getfield 20, 3) := by decide +kernel
theorem dX1_archiveRoute_42 : decode cX1_archiveRoute 42 = .ok (.iload_n 1, 1) := by decide +kernel
theorem dX1_archiveRoute_43 : decode cX1_archiveRoute 43 = .ok (.iconst 0, 1) := by decide +kernel
theorem dX1_archiveRoute_44 : decode cX1_archiveRoute 44 = .ok (.invokevirtual 73, 3) := by decide +kernel
theorem dX1_archiveRoute_47 : decode cX1_archiveRoute 47 = .ok (.invokevirtual 67, 3) := by decide +kernel
theorem dX1_archiveRoute_50 : decode cX1_archiveRoute 50 = .ok (.aload_n 0, 1) := by decide +kernel
theorem dX1_archiveRoute_51 : decode cX1_archiveRoute 51 = .ok (.getfield 23, 3) := by decide +kernel
theorem dX1_archiveRoute_54 : decode cX1_archiveRoute 54 = .ok (.iload_n 3, 1) := by decide +kernel
theorem dX1_archiveRoute_55 : decode cX1_archiveRoute 55 = .ok (.iconst 1, 1) := by decide +kernel
theorem dX1_archiveRoute_56 : decode cX1_archiveRoute 56 = .ok (.iload_n 2, 1) := by decide +kernel
theorem dX1_archiveRoute_57 : decode cX1_archiveRoute 57 = .ok (.invokevirtual 67, 3) := by decide +kernel
theorem dX1_archiveRoute_60 : decode cX1_archiveRoute 60 = .ok (.aload_n 0, 1) := by decide +kernel
theorem dX1_archiveRoute_61 : decode cX1_archiveRoute 61 = .ok (.getfield 23, 3) := by decide +kernel
theorem dX1_archiveRoute_64 : decode cX1_archiveRoute 64 = .ok (.iload_n 3, 1) := by decide +kernel
theorem dX1_archiveRoute_65 : decode cX1_archiveRoute 65 = .ok (.iconst 2, 1) := by decide +kernel
theorem dX1_archiveRoute_66 : decode cX1_archiveRoute 66 = .ok (.aload_n 0, 1) := by decide +kernel
theorem dX1_archiveRoute_67 : decode cX1_archiveRoute 67 = .ok (.getfield 35, 3) := by decide +kernel
theorem dX1_archiveRoute_70 : decode cX1_archiveRoute 70 = .ok (.invokevirtual 67, 3) := by decide +kernel
theorem dX1_archiveRoute_73 : decode cX1_archiveRoute 73 = .ok (.aload_n 0, 1) := by decide +kernel
theorem dX1_archiveRoute_74 : decode cX1_archiveRoute 74 = .ok (.getfield 23, 3) := by decide +kernel
theorem dX1_archiveRoute_77 : decode cX1_archiveRoute 77 = .ok (.iload_n 3, 1) := by decide +kernel
theorem dX1_archiveRoute_78 : decode cX1_archiveRoute 78 = .ok (.iconst 3, 1) := by decide +kernel
theorem dX1_archiveRoute_79 : decode cX1_archiveRoute 79 = .ok (.aload_n 0, 1) := by decide +kernel
theorem dX1_archiveRoute_80 : decode cX1_archiveRoute 80 = .ok (.getfield 20, 3) := by decide +kernel
theorem dX1_archiveRoute_83 : decode cX1_archiveRoute 83 = .ok (.iload_n 1, 1) := by decide +kernel
theorem dX1_archiveRoute_84 : decode cX1_archiveRoute 84 = .ok (.iconst 4, 1) := by decide +kernel
theorem dX1_archiveRoute_85 : decode cX1_archiveRoute 85 = .ok (.invokevirtual 73, 3) := by decide +kernel
theorem dX1_archiveRoute_88 : decode cX1_archiveRoute 88 = .ok (.invokevirtual 67, 3) := by decide +kernel
theorem dX1_archiveRoute_91 : decode cX1_archiveRoute 91 = .ok (.aload_n 0, 1) := by decide +kernel
theorem dX1_archiveRoute_92 : decode cX1_archiveRoute 92 = .ok (.getfield 20, 3) := by decide +kernel
theorem dX1_archiveRoute_95 : decode cX1_archiveRoute 95 = .ok (.iload_n 1, 1) := by decide +kernel
theorem dX1_archiveRoute_96 : decode cX1_archiveRoute 96 = .ok (.invokevirtual 85, 3) := by decide +kernel
theorem dX1_archiveRoute_99 : decode cX1_archiveRoute 99 = .ok (.iload_n 2, 1) := by decide +kernel
theorem dX1_archiveRoute_100 : decode cX1_archiveRoute 100 = .ok (.ireturn, 1) := by decide +kernel
theorem dX1_isWorn_0 : decode cX1_isWorn 0 = .ok (.aload_n 0, 1) := by decide +kernel
theorem dX1_isWorn_1 : decode cX1_isWorn 1 = .ok (.getfield 20, 3) := by decide +kernel
theorem dX1_isWorn_4 : decode cX1_isWorn 4 = .ok (.iload_n 1, 1) := by decide +kernel
theorem dX1_isWorn_5 : decode cX1_isWorn 5 = .ok (.iconst 3, 1) := by decide +kernel
theorem dX1_isWorn_6 : decode cX1_isWorn 6 = .ok (.invokevirtual 73, 3) := by decide +kernel
theorem dX1_isWorn_9 : decode cX1_isWorn 9 = .ok (.aload_n 0, 1) := by decide +kernel
theorem dX1_isWorn_10 : decode cX1_isWorn 10 = .ok (.getfield 45, 3) := by decide +kernel
theorem dX1_isWorn_13 : decode cX1_isWorn 13 = .ok (.if_icmp .lt 7, 3) := by decide +kernel
theorem dX1_isWorn_16 : decode cX1_isWorn 16 = .ok (.iconst 1, 1) := by decide +kernel
theorem dX1_isWorn_17 : decode cX1_isWorn 17 = .ok (.goto 4, 3) := by decide +kernel
theorem dX1_isWorn_20 : decode cX1_isWorn 20 = .ok (.iconst 0, 1) := by decide +kernel
theorem dX1_isWorn_21 : decode cX1_isWorn 21 = .ok (.ireturn, 1) := by decide +kernel
theorem dX1_mayClimb_0 : decode cX1_mayClimb 0 = .ok (.aload_n 0, 1) := by decide +kernel
theorem dX1_mayClimb_1 : decode cX1_mayClimb 1 = .ok (.getfield 20, 3) := by decide +kernel
theorem dX1_mayClimb_4 : decode cX1_mayClimb 4 = .ok (.iload_n 2, 1) := by decide +kernel
theorem dX1_mayClimb_5 : decode cX1_mayClimb 5 = .ok (.iconst 0, 1) := by decide +kernel
theorem dX1_mayClimb_6 : decode cX1_mayClimb 6 = .ok (.invokevirtual 73, 3) := by decide +kernel
theorem dX1_mayClimb_9 : decode cX1_mayClimb 9 = .ok (.istore_n 3, 1) := by decide +kernel
theorem dX1_mayClimb_10 : decode cX1_mayClimb 10 = .ok (.aload_n 0, 1) := by decide +kernel
theorem dX1_mayClimb_11 : decode cX1_mayClimb 11 = .ok (.iload_n 1, 1) := by decide +kernel
theorem dX1_mayClimb_12 : decode cX1_mayClimb 12 = .ok (.invokevirtual 89, 3) := by decide +kernel
theorem dX1_mayClimb_15 : decode cX1_mayClimb 15 = .ok (.istore 4, 2) := by decide +kernel
theorem dX1_mayClimb_17 : decode cX1_mayClimb 17 = .ok (.aload_n 0, 1) := by decide +kernel
theorem dX1_mayClimb_18 : decode cX1_mayClimb 18 = .ok (.iload_n 3, 1) := by decide +kernel
theorem dX1_mayClimb_19 : decode cX1_mayClimb 19 = .ok (.invokevirtual 92, 3) := by decide +kernel
theorem dX1_mayClimb_22 : decode cX1_mayClimb 22 = .ok (.ifCond .ne 55, 3) := by decide +kernel
theorem dX1_mayClimb_25 : decode cX1_mayClimb 25 = .ok (.aload_n 0, 1) := by decide +kernel
theorem dX1_mayClimb_26 : decode cX1_mayClimb 26 = .ok (.getfield 29, 3) := by decide +kernel
theorem dX1_mayClimb_29 : decode cX1_mayClimb 29 = .ok (.iload_n 1, 1) := by decide +kernel
theorem dX1_mayClimb_30 : decode cX1_mayClimb 30 = .ok (.iconst 1, 1) := by decide +kernel
theorem dX1_mayClimb_31 : decode cX1_mayClimb 31 = .ok (.invokevirtual 73, 3) := by decide +kernel
theorem dX1_mayClimb_34 : decode cX1_mayClimb 34 = .ok (.aload_n 0, 1) := by decide +kernel
theorem dX1_mayClimb_35 : decode cX1_mayClimb 35 = .ok (.getfield 14, 3) := by decide +kernel
theorem dX1_mayClimb_38 : decode cX1_mayClimb 38 = .ok (.iload_n 3, 1) := by decide +kernel
theorem dX1_mayClimb_39 : decode cX1_mayClimb 39 = .ok (.iconst 1, 1) := by decide +kernel
theorem dX1_mayClimb_40 : decode cX1_mayClimb 40 = .ok (.invokevirtual 73, 3) := by decide +kernel
theorem dX1_mayClimb_43 : decode cX1_mayClimb 43 = .ok (.if_icmp .lt 34, 3) := by decide +kernel
theorem dX1_mayClimb_46 : decode cX1_mayClimb 46 = .ok (.iload 4, 2) := by decide +kernel
theorem dX1_mayClimb_48 : decode cX1_mayClimb 48 = .ok (.iconst (-1), 1) := by decide +kernel
theorem dX1_mayClimb_49 : decode cX1_mayClimb 49 = .ok (.if_icmp .eq 28, 3) := by decide +kernel
theorem dX1_mayClimb_52 : decode cX1_mayClimb 52 = .ok (.aload_n 0, 1) := by decide +kernel
theorem dX1_mayClimb_53 : decode cX1_mayClimb 53 = .ok (.iload 4, 2) := by decide +kernel
theorem dX1_mayClimb_55 : decode cX1_mayClimb 55 = .ok (.aload_n 0, 1) := by decide +kernel
theorem dX1_mayClimb_56 : decode cX1_mayClimb 56 = .ok (.getfield 35, 3) := by decide +kernel
theorem dX1_mayClimb_59 : decode cX1_mayClimb 59 = .ok (.invokevirtual 96, 3) := by decide +kernel
theorem dX1_mayClimb_62 : decode cX1_mayClimb 62 = .ok (.ifCond .eq 15, 3) := by decide +kernel
theorem dX1_mayClimb_65 : decode cX1_mayClimb 65 = .ok (.aload_n 0, 1) := by decide +kernel
theorem dX1_mayClimb_66 : decode cX1_mayClimb 66 = .ok (.iload_n 2, 1) := by decide +kernel
theorem dX1_mayClimb_67 : decode cX1_mayClimb 67 = .ok (.invokevirtual 100, 3) := by decide +kernel
theorem dX1_mayClimb_70 : decode cX1_mayClimb 70 = .ok (.ifCond .ne 7, 3) := by decide +kernel
theorem dX1_mayClimb_73 : decode cX1_mayClimb 73 = .ok (.iconst 1, 1) := by decide +kernel
theorem dX1_mayClimb_74 : decode cX1_mayClimb 74 = .ok (.goto 4, 3) := by decide +kernel
theorem dX1_mayClimb_77 : decode cX1_mayClimb 77 = .ok (.iconst 0, 1) := by decide +kernel
theorem dX1_mayClimb_78 : decode cX1_mayClimb 78 = .ok (.ireturn, 1) := by decide +kernel
theorem dX1_hasClimbed_0 : decode cX1_hasClimbed 0 = .ok (.aload_n 0, 1) := by decide +kernel
theorem dX1_hasClimbed_1 : decode cX1_hasClimbed 1 = .ok (.getfield 20, 3) := by decide +kernel
theorem dX1_hasClimbed_4 : decode cX1_hasClimbed 4 = .ok (.iload_n 2, 1) := by decide +kernel
theorem dX1_hasClimbed_5 : decode cX1_hasClimbed 5 = .ok (.iconst 5, 1) := by decide +kernel
theorem dX1_hasClimbed_6 : decode cX1_hasClimbed 6 = .ok (.invokevirtual 73, 3) := by decide +kernel
theorem dX1_hasClimbed_9 : decode cX1_hasClimbed 9 = .ok (.iload_n 1, 1) := by decide +kernel
theorem dX1_hasClimbed_10 : decode cX1_hasClimbed 10 = .ok (.iushr, 1) := by decide +kernel
theorem dX1_hasClimbed_11 : decode cX1_hasClimbed 11 = .ok (.iconst 1, 1) := by decide +kernel
theorem dX1_hasClimbed_12 : decode cX1_hasClimbed 12 = .ok (.iand, 1) := by decide +kernel
theorem dX1_hasClimbed_13 : decode cX1_hasClimbed 13 = .ok (.iconst 1, 1) := by decide +kernel
theorem dX1_hasClimbed_14 : decode cX1_hasClimbed 14 = .ok (.if_icmp .ne 7, 3) := by decide +kernel
theorem dX1_hasClimbed_17 : decode cX1_hasClimbed 17 = .ok (.iconst 1, 1) := by decide +kernel
theorem dX1_hasClimbed_18 : decode cX1_hasClimbed 18 = .ok (.goto 4, 3) := by decide +kernel
theorem dX1_hasClimbed_21 : decode cX1_hasClimbed 21 = .ok (.iconst 0, 1) := by decide +kernel
theorem dX1_hasClimbed_22 : decode cX1_hasClimbed 22 = .ok (.ireturn, 1) := by decide +kernel
theorem dX1_wearOfClimb_0 : decode cX1_wearOfClimb 0 = .ok (.iconst 1, 1) := by decide +kernel
theorem dX1_wearOfClimb_1 : decode cX1_wearOfClimb 1 = .ok (.aload_n 0, 1) := by decide +kernel
theorem dX1_wearOfClimb_2 : decode cX1_wearOfClimb 2 = .ok (.iload_n 1, 1) := by decide +kernel
theorem dX1_wearOfClimb_3 : decode cX1_wearOfClimb 3 = .ok (.invokevirtual 77, 3) := by decide +kernel
theorem dX1_wearOfClimb_6 : decode cX1_wearOfClimb 6 = .ok (.bipush 10, 2) := by decide +kernel
theorem dX1_wearOfClimb_8 : decode cX1_wearOfClimb 8 = .ok (.idiv, 1) := by decide +kernel
theorem dX1_wearOfClimb_9 : decode cX1_wearOfClimb 9 = .ok (.iadd, 1) := by decide +kernel
theorem dX1_wearOfClimb_10 : decode cX1_wearOfClimb 10 = .ok (.ireturn, 1) := by decide +kernel
theorem dX1_addClimb_0 : decode cX1_addClimb 0 = .ok (.aload_n 0, 1) := by decide +kernel
theorem dX1_addClimb_1 : decode cX1_addClimb 1 = .ok (.getfield 20, 3) := by decide +kernel
theorem dX1_addClimb_4 : decode cX1_addClimb 4 = .ok (.iload_n 2, 1) := by decide +kernel
theorem dX1_addClimb_5 : decode cX1_addClimb 5 = .ok (.iconst 5, 1) := by decide +kernel
theorem dX1_addClimb_6 : decode cX1_addClimb 6 = .ok (.invokevirtual 73, 3) := by decide +kernel
theorem dX1_addClimb_9 : decode cX1_addClimb 9 = .ok (.istore_n 3, 1) := by decide +kernel
theorem dX1_addClimb_10 : decode cX1_addClimb 10 = .ok (.aload_n 0, 1) := by decide +kernel
theorem dX1_addClimb_11 : decode cX1_addClimb 11 = .ok (.getfield 20, 3) := by decide +kernel
theorem dX1_addClimb_14 : decode cX1_addClimb 14 = .ok (.iload_n 2, 1) := by decide +kernel
theorem dX1_addClimb_15 : decode cX1_addClimb 15 = .ok (.iconst 5, 1) := by decide +kernel
theorem dX1_addClimb_16 : decode cX1_addClimb 16 = .ok (.iload_n 3, 1) := by decide +kernel
theorem dX1_addClimb_17 : decode cX1_addClimb 17 = .ok (.iconst 1, 1) := by decide +kernel
theorem dX1_addClimb_18 : decode cX1_addClimb 18 = .ok (.iload_n 1, 1) := by decide +kernel
theorem dX1_addClimb_19 : decode cX1_addClimb 19 = .ok (.ishl, 1) := by decide +kernel
theorem dX1_addClimb_20 : decode cX1_addClimb 20 = .ok (.ior, 1) := by decide +kernel
theorem dX1_addClimb_21 : decode cX1_addClimb 21 = .ok (.invokevirtual 67, 3) := by decide +kernel
theorem dX1_addClimb_24 : decode cX1_addClimb 24 = .ok (.aload_n 0, 1) := by decide +kernel
theorem dX1_addClimb_25 : decode cX1_addClimb 25 = .ok (.getfield 20, 3) := by decide +kernel
theorem dX1_addClimb_28 : decode cX1_addClimb 28 = .ok (.iload_n 2, 1) := by decide +kernel
theorem dX1_addClimb_29 : decode cX1_addClimb 29 = .ok (.iconst 3, 1) := by decide +kernel
theorem dX1_addClimb_30 : decode cX1_addClimb 30 = .ok (.aload_n 0, 1) := by decide +kernel
theorem dX1_addClimb_31 : decode cX1_addClimb 31 = .ok (.iload_n 2, 1) := by decide +kernel
theorem dX1_addClimb_32 : decode cX1_addClimb 32 = .ok (.invokevirtual 106, 3) := by decide +kernel
theorem dX1_addClimb_35 : decode cX1_addClimb 35 = .ok (.invokevirtual 109, 3) := by decide +kernel
theorem dX1_addClimb_38 : decode cX1_addClimb 38 = .ok (.aload_n 0, 1) := by decide +kernel
theorem dX1_addClimb_39 : decode cX1_addClimb 39 = .ok (.getfield 20, 3) := by decide +kernel
theorem dX1_addClimb_42 : decode cX1_addClimb 42 = .ok (.iload_n 2, 1) := by decide +kernel
theorem dX1_addClimb_43 : decode cX1_addClimb 43 = .ok (.iconst 4, 1) := by decide +kernel
theorem dX1_addClimb_44 : decode cX1_addClimb 44 = .ok (.iconst 1, 1) := by decide +kernel
theorem dX1_addClimb_45 : decode cX1_addClimb 45 = .ok (.invokevirtual 109, 3) := by decide +kernel
theorem dX1_addClimb_48 : decode cX1_addClimb 48 = .ok (.aload_n 0, 1) := by decide +kernel
theorem dX1_addClimb_49 : decode cX1_addClimb 49 = .ok (.getfield 29, 3) := by decide +kernel
theorem dX1_addClimb_52 : decode cX1_addClimb 52 = .ok (.iload_n 1, 1) := by decide +kernel
theorem dX1_addClimb_53 : decode cX1_addClimb 53 = .ok (.iconst 2, 1) := by decide +kernel
theorem dX1_addClimb_54 : decode cX1_addClimb 54 = .ok (.iconst 1, 1) := by decide +kernel
theorem dX1_addClimb_55 : decode cX1_addClimb 55 = .ok (.invokevirtual 109, 3) := by decide +kernel
theorem dX1_addClimb_58 : decode cX1_addClimb 58 = .ok (.aload_n 0, 1) := by decide +kernel
theorem dX1_addClimb_59 : decode cX1_addClimb 59 = .ok (.getfield 20, 3) := by decide +kernel
theorem dX1_addClimb_62 : decode cX1_addClimb 62 = .ok (.iload_n 2, 1) := by decide +kernel
theorem dX1_addClimb_63 : decode cX1_addClimb 63 = .ok (.iconst 3, 1) := by decide +kernel
theorem dX1_addClimb_64 : decode cX1_addClimb 64 = .ok (.invokevirtual 73, 3) := by decide +kernel
theorem dX1_addClimb_67 : decode cX1_addClimb 67 = .ok (.ireturn, 1) := by decide +kernel
theorem dX1_fillBallot_0 : decode cX1_fillBallot 0 = .ok (.aload_n 0, 1) := by decide +kernel
theorem dX1_fillBallot_1 : decode cX1_fillBallot 1 = .ok (.getfield 20, 3) := by decide +kernel
theorem dX1_fillBallot_4 : decode cX1_fillBallot 4 = .ok (.iload_n 1, 1) := by decide +kernel
theorem dX1_fillBallot_5 : decode cX1_fillBallot 5 = .ok (.iconst 1, 1) := by decide +kernel
theorem dX1_fillBallot_6 : decode cX1_fillBallot 6 = .ok (.invokevirtual 73, 3) := by decide +kernel
theorem dX1_fillBallot_9 : decode cX1_fillBallot 9 = .ok (.istore 4, 2) := by decide +kernel
theorem dX1_fillBallot_11 : decode cX1_fillBallot 11 = .ok (.aload_n 0, 1) := by decide +kernel
theorem dX1_fillBallot_12 : decode cX1_fillBallot 12 = .ok (.getfield 48, 3) := by decide +kernel
theorem dX1_fillBallot_15 : decode cX1_fillBallot 15 = .ok (.invokevirtual 112, 3) := by decide +kernel
theorem dX1_fillBallot_18 : decode cX1_fillBallot 18 = .ok (.aload_n 0, 1) := by decide +kernel
theorem dX1_fillBallot_19 : decode cX1_fillBallot 19 = .ok (.getfield 48, 3) := by decide +kernel
theorem dX1_fillBallot_22 : decode cX1_fillBallot 22 = .ok (.iload 4, 2) := by decide +kernel
theorem dX1_fillBallot_24 : decode cX1_fillBallot 24 = .ok (.aload_n 0, 1) := by decide +kernel
theorem dX1_fillBallot_25 : decode cX1_fillBallot 25 = .ok (.getfield 42, 3) := by decide +kernel
theorem dX1_fillBallot_28 : decode cX1_fillBallot 28 = .ok (.invokevirtual 115, 3) := by decide +kernel
theorem dX1_fillBallot_31 : decode cX1_fillBallot 31 = .ok (.iconst 0, 1) := by decide +kernel
theorem dX1_fillBallot_32 : decode cX1_fillBallot 32 = .ok (.istore 5, 2) := by decide +kernel
theorem dX1_fillBallot_34 : decode cX1_fillBallot 34 = .ok (.iload 5, 2) := by decide +kernel
theorem dX1_fillBallot_36 : decode cX1_fillBallot 36 = .ok (.aload_n 0, 1) := by decide +kernel
theorem dX1_fillBallot_37 : decode cX1_fillBallot 37 = .ok (.getfield 29, 3) := by decide +kernel
theorem dX1_fillBallot_40 : decode cX1_fillBallot 40 = .ok (.getfield 70, 3) := by decide +kernel
theorem dX1_fillBallot_43 : decode cX1_fillBallot 43 = .ok (.if_icmp .ge 30, 3) := by decide +kernel
theorem dX1_fillBallot_46 : decode cX1_fillBallot 46 = .ok (.aload_n 0, 1) := by decide +kernel
theorem dX1_fillBallot_47 : decode cX1_fillBallot 47 = .ok (.getfield 48, 3) := by decide +kernel
theorem dX1_fillBallot_50 : decode cX1_fillBallot 50 = .ok (.aload_n 0, 1) := by decide +kernel
theorem dX1_fillBallot_51 : decode cX1_fillBallot 51 = .ok (.getfield 20, 3) := by decide +kernel
theorem dX1_fillBallot_54 : decode cX1_fillBallot 54 = .ok (.iload_n 1, 1) := by decide +kernel
theorem dX1_fillBallot_55 : decode cX1_fillBallot 55 = .ok (.bipush 6, 2) := by decide +kernel
theorem dX1_fillBallot_57 : decode cX1_fillBallot 57 = .ok (.iload 5, 2) := by decide +kernel
theorem dX1_fillBallot_59 : decode cX1_fillBallot 59 = .ok (.iadd, 1) := by decide +kernel
theorem dX1_fillBallot_60 : decode cX1_fillBallot 60 = .ok (.invokevirtual 73, 3) := by decide +kernel
theorem dX1_fillBallot_63 : decode cX1_fillBallot 63 = .ok (.iconst 1, 1) := by decide +kernel
theorem dX1_fillBallot_64 : decode cX1_fillBallot 64 = .ok (.invokevirtual 115, 3) := by decide +kernel
theorem dX1_fillBallot_67 : decode cX1_fillBallot 67 = .ok (.iinc 5 1, 3) := by decide +kernel
theorem dX1_fillBallot_70 : decode cX1_fillBallot 70 = .ok (.goto (-36), 3) := by decide +kernel
theorem dX1_fillBallot_73 : decode cX1_fillBallot 73 = .ok (.aload_n 0, 1) := by decide +kernel
theorem dX1_fillBallot_74 : decode cX1_fillBallot 74 = .ok (.getfield 48, 3) := by decide +kernel
theorem dX1_fillBallot_77 : decode cX1_fillBallot 77 = .ok (.iload_n 2, 1) := by decide +kernel
theorem dX1_fillBallot_78 : decode cX1_fillBallot 78 = .ok (.iload_n 3, 1) := by decide +kernel
theorem dX1_fillBallot_79 : decode cX1_fillBallot 79 = .ok (.invokevirtual 115, 3) := by decide +kernel
theorem dX1_fillBallot_82 : decode cX1_fillBallot 82 = .ok (.aload_n 0, 1) := by decide +kernel
theorem dX1_fillBallot_83 : decode cX1_fillBallot 83 = .ok (.getfield 48, 3) := by decide +kernel
theorem dX1_fillBallot_86 : decode cX1_fillBallot 86 = .ok (.getfield 118, 3) := by decide +kernel
theorem dX1_fillBallot_89 : decode cX1_fillBallot 89 = .ok (.ifCond .ne 13, 3) := by decide +kernel
theorem dX1_fillBallot_92 : decode cX1_fillBallot 92 = .ok (.aload_n 0, 1) := by decide +kernel
theorem dX1_fillBallot_93 : decode cX1_fillBallot 93 = .ok (.getfield 48, 3) := by decide +kernel
theorem dX1_fillBallot_96 : decode cX1_fillBallot 96 = .ok (.iload 4, 2) := by decide +kernel
theorem dX1_fillBallot_98 : decode cX1_fillBallot 98 = .ok (.iconst 1, 1) := by decide +kernel
theorem dX1_fillBallot_99 : decode cX1_fillBallot 99 = .ok (.invokevirtual 115, 3) := by decide +kernel
theorem dX1_fillBallot_102 : decode cX1_fillBallot 102 = .ok (.aload_n 0, 1) := by decide +kernel
theorem dX1_fillBallot_103 : decode cX1_fillBallot 103 = .ok (.getfield 48, 3) := by decide +kernel
theorem dX1_fillBallot_106 : decode cX1_fillBallot 106 = .ok (.aload_n 0, 1) := by decide +kernel
theorem dX1_fillBallot_107 : decode cX1_fillBallot 107 = .ok (.getfield 39, 3) := by decide +kernel
theorem dX1_fillBallot_110 : decode cX1_fillBallot 110 = .ok (.invokevirtual 121, 3) := by decide +kernel
theorem dX1_fillBallot_113 : decode cX1_fillBallot 113 = .ok (.return_, 1) := by decide +kernel
theorem dX1_gradeOf_0 : decode cX1_gradeOf 0 = .ok (.aload_n 0, 1) := by decide +kernel
theorem dX1_gradeOf_1 : decode cX1_gradeOf 1 = .ok (.iload_n 1, 1) := by decide +kernel
theorem dX1_gradeOf_2 : decode cX1_gradeOf 2 = .ok (.iconst 0, 1) := by decide +kernel
theorem dX1_gradeOf_3 : decode cX1_gradeOf 3 = .ok (.iconst 0, 1) := by decide +kernel
theorem dX1_gradeOf_4 : decode cX1_gradeOf 4 = .ok (.invokevirtual 124, 3) := by decide +kernel
theorem dX1_gradeOf_7 : decode cX1_gradeOf 7 = .ok (.aload_n 0, 1) := by decide +kernel
theorem dX1_gradeOf_8 : decode cX1_gradeOf 8 = .ok (.getfield 48, 3) := by decide +kernel
theorem dX1_gradeOf_11 : decode cX1_gradeOf 11 = .ok (.invokevirtual 127, 3) := by decide +kernel
theorem dX1_gradeOf_14 : decode cX1_gradeOf 14 = .ok (.ireturn, 1) := by decide +kernel
theorem dX1_votesFor_0 : decode cX1_votesFor 0 = .ok (.iconst 0, 1) := by decide +kernel
theorem dX1_votesFor_1 : decode cX1_votesFor 1 = .ok (.istore_n 2, 1) := by decide +kernel
theorem dX1_votesFor_2 : decode cX1_votesFor 2 = .ok (.iconst 0, 1) := by decide +kernel
theorem dX1_votesFor_3 : decode cX1_votesFor 3 = .ok (.istore_n 3, 1) := by decide +kernel
theorem dX1_votesFor_4 : decode cX1_votesFor 4 = .ok (.iload_n 3, 1) := by decide +kernel
theorem dX1_votesFor_5 : decode cX1_votesFor 5 = .ok (.aload_n 0, 1) := by decide +kernel
theorem dX1_votesFor_6 : decode cX1_votesFor 6 = .ok (.getfield 29, 3) := by decide +kernel
theorem dX1_votesFor_9 : decode cX1_votesFor 9 = .ok (.getfield 70, 3) := by decide +kernel
theorem dX1_votesFor_12 : decode cX1_votesFor 12 = .ok (.if_icmp .ge 28, 3) := by decide +kernel
theorem dX1_votesFor_15 : decode cX1_votesFor 15 = .ok (.aload_n 0, 1) := by decide +kernel
theorem dX1_votesFor_16 : decode cX1_votesFor 16 = .ok (.getfield 20, 3) := by decide +kernel
theorem dX1_votesFor_19 : decode cX1_votesFor 19 = .ok (.iload_n 1, 1) := by decide +kernel
theorem dX1_votesFor_20 : decode cX1_votesFor 20 = .ok (.bipush 6, 2) := by decide +kernel
theorem dX1_votesFor_22 : decode cX1_votesFor 22 = .ok (.iload_n 3, 1) := by decide +kernel
theorem dX1_votesFor_23 : decode cX1_votesFor 23 = .ok (.iadd, 1) := by decide +kernel
theorem dX1_votesFor_24 : decode cX1_votesFor 24 = .ok (.invokevirtual 73, 3) := by decide +kernel
theorem dX1_votesFor_27 : decode cX1_votesFor 27 = .ok (.iconst (-1), 1) := by decide +kernel
theorem dX1_votesFor_28 : decode cX1_votesFor 28 = .ok (.if_icmp .eq 6, 3) := by decide +kernel
theorem dX1_votesFor_31 : decode cX1_votesFor 31 = .ok (.iinc 2 1, 3) := by decide +kernel
theorem dX1_votesFor_34 : decode cX1_votesFor 34 = .ok (.iinc 3 1, 3) := by decide +kernel
theorem dX1_votesFor_37 : decode cX1_votesFor 37 = .ok (.goto (-33), 3) := by decide +kernel
theorem dX1_votesFor_40 : decode cX1_votesFor 40 = .ok (.iload_n 2, 1) := by decide +kernel
theorem dX1_votesFor_41 : decode cX1_votesFor 41 = .ok (.ireturn, 1) := by decide +kernel
theorem dX1_harnessOf_0 : decode cX1_harnessOf 0 = .ok (.aload_n 0, 1) := by decide +kernel
theorem dX1_harnessOf_1 : decode cX1_harnessOf 1 = .ok (.getfield 29, 3) := by decide +kernel
theorem dX1_harnessOf_4 : decode cX1_harnessOf 4 = .ok (.iload_n 1, 1) := by decide +kernel
theorem dX1_harnessOf_5 : decode cX1_harnessOf 5 = .ok (.iconst 3, 1) := by decide +kernel
theorem dX1_harnessOf_6 : decode cX1_harnessOf 6 = .ok (.invokevirtual 73, 3) := by decide +kernel
theorem dX1_harnessOf_9 : decode cX1_harnessOf 9 = .ok (.ireturn, 1) := by decide +kernel
theorem dX1_isRetired_0 : decode cX1_isRetired 0 = .ok (.aload_n 0, 1) := by decide +kernel
theorem dX1_isRetired_1 : decode cX1_isRetired 1 = .ok (.getfield 26, 3) := by decide +kernel
theorem dX1_isRetired_4 : decode cX1_isRetired 4 = .ok (.iload_n 1, 1) := by decide +kernel
theorem dX1_isRetired_5 : decode cX1_isRetired 5 = .ok (.iconst 3, 1) := by decide +kernel
theorem dX1_isRetired_6 : decode cX1_isRetired 6 = .ok (.invokevirtual 73, 3) := by decide +kernel
theorem dX1_isRetired_9 : decode cX1_isRetired 9 = .ok (.ifCond .eq 7, 3) := by decide +kernel
theorem dX1_isRetired_12 : decode cX1_isRetired 12 = .ok (.iconst 1, 1) := by decide +kernel
theorem dX1_isRetired_13 : decode cX1_isRetired 13 = .ok (.goto 4, 3) := by decide +kernel
theorem dX1_isRetired_16 : decode cX1_isRetired 16 = .ok (.iconst 0, 1) := by decide +kernel
theorem dX1_isRetired_17 : decode cX1_isRetired 17 = .ok (.ireturn, 1) := by decide +kernel
theorem dX1_isLent_0 : decode cX1_isLent 0 = .ok (.iconst 0, 1) := by decide +kernel
theorem dX1_isLent_1 : decode cX1_isLent 1 = .ok (.istore_n 2, 1) := by decide +kernel
theorem dX1_isLent_2 : decode cX1_isLent 2 = .ok (.iload_n 2, 1) := by decide +kernel
theorem dX1_isLent_3 : decode cX1_isLent 3 = .ok (.aload_n 0, 1) := by decide +kernel
theorem dX1_isLent_4 : decode cX1_isLent 4 = .ok (.getfield 29, 3) := by decide +kernel
theorem dX1_isLent_7 : decode cX1_isLent 7 = .ok (.getfield 70, 3) := by decide +kernel
theorem dX1_isLent_10 : decode cX1_isLent 10 = .ok (.if_icmp .ge 20, 3) := by decide +kernel
theorem dX1_isLent_13 : decode cX1_isLent 13 = .ok (.aload_n 0, 1) := by decide +kernel
theorem dX1_isLent_14 : decode cX1_isLent 14 = .ok (.iload_n 2, 1) := by decide +kernel
theorem dX1_isLent_15 : decode cX1_isLent 15 = .ok (.invokevirtual 89, 3) := by decide +kernel
theorem dX1_isLent_18 : decode cX1_isLent 18 = .ok (.iload_n 1, 1) := by decide +kernel
theorem dX1_isLent_19 : decode cX1_isLent 19 = .ok (.if_icmp .ne 5, 3) := by decide +kernel
theorem dX1_isLent_22 : decode cX1_isLent 22 = .ok (.iconst 1, 1) := by decide +kernel
theorem dX1_isLent_23 : decode cX1_isLent 23 = .ok (.ireturn, 1) := by decide +kernel
theorem dX1_isLent_24 : decode cX1_isLent 24 = .ok (.iinc 2 1, 3) := by decide +kernel
theorem dX1_isLent_27 : decode cX1_isLent 27 = .ok (.goto (-25), 3) := by decide +kernel
theorem dX1_isLent_30 : decode cX1_isLent 30 = .ok (.iconst 0, 1) := by decide +kernel
theorem dX1_isLent_31 : decode cX1_isLent 31 = .ok (.ireturn, 1) := by decide +kernel
theorem dX1_stateOf_0 : decode cX1_stateOf 0 = .ok (.aload_n 0, 1) := by decide +kernel
theorem dX1_stateOf_1 : decode cX1_stateOf 1 = .ok (.iload_n 1, 1) := by decide +kernel
theorem dX1_stateOf_2 : decode cX1_stateOf 2 = .ok (.invokevirtual 150, 3) := by decide +kernel
theorem dX1_stateOf_5 : decode cX1_stateOf 5 = .ok (.ifCond .eq 5, 3) := by decide +kernel
theorem dX1_stateOf_8 : decode cX1_stateOf 8 = .ok (.iconst 2, 1) := by decide +kernel
theorem dX1_stateOf_9 : decode cX1_stateOf 9 = .ok (.ireturn, 1) := by decide +kernel
theorem dX1_stateOf_10 : decode cX1_stateOf 10 = .ok (.aload_n 0, 1) := by decide +kernel
theorem dX1_stateOf_11 : decode cX1_stateOf 11 = .ok (.iload_n 1, 1) := by decide +kernel
theorem dX1_stateOf_12 : decode cX1_stateOf 12 = .ok (.invokevirtual 153, 3) := by decide +kernel
theorem dX1_stateOf_15 : decode cX1_stateOf 15 = .ok (.ifCond .eq 7, 3) := by decide +kernel
theorem dX1_stateOf_18 : decode cX1_stateOf 18 = .ok (.iconst 1, 1) := by decide +kernel
theorem dX1_stateOf_19 : decode cX1_stateOf 19 = .ok (.goto 4, 3) := by decide +kernel
theorem dX1_stateOf_22 : decode cX1_stateOf 22 = .ok (.iconst 0, 1) := by decide +kernel
theorem dX1_stateOf_23 : decode cX1_stateOf 23 = .ok (.ireturn, 1) := by decide +kernel
theorem dX1_lapseOf_0 : decode cX1_lapseOf 0 = .ok (.aload_n 0, 1) := by decide +kernel
theorem dX1_lapseOf_1 : decode cX1_lapseOf 1 = .ok (.getfield 26, 3) := by decide +kernel
theorem dX1_lapseOf_4 : decode cX1_lapseOf 4 = .ok (.iload_n 1, 1) := by decide +kernel
theorem dX1_lapseOf_5 : decode cX1_lapseOf 5 = .ok (.iconst 2, 1) := by decide +kernel
theorem dX1_lapseOf_6 : decode cX1_lapseOf 6 = .ok (.invokevirtual 73, 3) := by decide +kernel
theorem dX1_lapseOf_9 : decode cX1_lapseOf 9 = .ok (.aload_n 0, 1) := by decide +kernel
theorem dX1_lapseOf_10 : decode cX1_lapseOf 10 = .ok (.getfield 26, 3) := by decide +kernel
theorem dX1_lapseOf_13 : decode cX1_lapseOf 13 = .ok (.iload_n 1, 1) := by decide +kernel
theorem dX1_lapseOf_14 : decode cX1_lapseOf 14 = .ok (.iconst 1, 1) := by decide +kernel
theorem dX1_lapseOf_15 : decode cX1_lapseOf 15 = .ok (.invokevirtual 73, 3) := by decide +kernel
theorem dX1_lapseOf_18 : decode cX1_lapseOf 18 = .ok (.iadd, 1) := by decide +kernel
theorem dX1_lapseOf_19 : decode cX1_lapseOf 19 = .ok (.ireturn, 1) := by decide +kernel
theorem dX1_isInForce_0 : decode cX1_isInForce 0 = .ok (.aload_n 0, 1) := by decide +kernel
theorem dX1_isInForce_1 : decode cX1_isInForce 1 = .ok (.iload_n 1, 1) := by decide +kernel
theorem dX1_isInForce_2 : decode cX1_isInForce 2 = .ok (.invokevirtual 150, 3) := by decide +kernel
theorem dX1_isInForce_5 : decode cX1_isInForce 5 = .ok (.ifCond .ne 16, 3) := by decide +kernel
theorem dX1_isInForce_8 : decode cX1_isInForce 8 = .ok (.iload_n 2, 1) := by decide +kernel
theorem dX1_isInForce_9 : decode cX1_isInForce 9 = .ok (.aload_n 0, 1) := by decide +kernel
theorem dX1_isInForce_10 : decode cX1_isInForce 10 = .ok (.iload_n 1, 1) := by decide +kernel
theorem dX1_isInForce_11 : decode cX1_isInForce 11 = .ok (.invokevirtual 156, 3) := by decide +kernel
theorem dX1_isInForce_14 : decode cX1_isInForce 14 = .ok (.if_icmp .ge 7, 3) := by decide +kernel
theorem dX1_isInForce_17 : decode cX1_isInForce 17 = .ok (.iconst 1, 1) := by decide +kernel
theorem dX1_isInForce_18 : decode cX1_isInForce 18 = .ok (.goto 4, 3) := by decide +kernel
theorem dX1_isInForce_21 : decode cX1_isInForce 21 = .ok (.iconst 0, 1) := by decide +kernel
theorem dX1_isInForce_22 : decode cX1_isInForce 22 = .ok (.ireturn, 1) := by decide +kernel
theorem dX1_isLendable_0 : decode cX1_isLendable 0 = .ok (.aload_n 0, 1) := by decide +kernel
theorem dX1_isLendable_1 : decode cX1_isLendable 1 = .ok (.iload_n 1, 1) := by decide +kernel
theorem dX1_isLendable_2 : decode cX1_isLendable 2 = .ok (.invokevirtual 159, 3) := by decide +kernel
theorem dX1_isLendable_5 : decode cX1_isLendable 5 = .ok (.ifCond .ne 19, 3) := by decide +kernel
theorem dX1_isLendable_8 : decode cX1_isLendable 8 = .ok (.aload_n 0, 1) := by decide +kernel
theorem dX1_isLendable_9 : decode cX1_isLendable 9 = .ok (.iload_n 1, 1) := by decide +kernel
theorem dX1_isLendable_10 : decode cX1_isLendable 10 = .ok (.aload_n 0, 1) := by decide +kernel
theorem dX1_isLendable_11 : decode cX1_isLendable 11 = .ok (.getfield 35, 3) := by decide +kernel
theorem dX1_isLendable_14 : decode cX1_isLendable 14 = .ok (.invokevirtual 96, 3) := by decide +kernel
theorem dX1_isLendable_17 : decode cX1_isLendable 17 = .ok (.ifCond .eq 7, 3) := by decide +kernel
theorem dX1_isLendable_20 : decode cX1_isLendable 20 = .ok (.iconst 1, 1) := by decide +kernel
theorem dX1_isLendable_21 : decode cX1_isLendable 21 = .ok (.goto 4, 3) := by decide +kernel
theorem dX1_isLendable_24 : decode cX1_isLendable 24 = .ok (.iconst 0, 1) := by decide +kernel
theorem dX1_isLendable_25 : decode cX1_isLendable 25 = .ok (.ireturn, 1) := by decide +kernel
theorem dX1_addCheck_0 : decode cX1_addCheck 0 = .ok (.aload_n 0, 1) := by decide +kernel
theorem dX1_addCheck_1 : decode cX1_addCheck 1 = .ok (.getfield 26, 3) := by decide +kernel
theorem dX1_addCheck_4 : decode cX1_addCheck 4 = .ok (.iload_n 1, 1) := by decide +kernel
theorem dX1_addCheck_5 : decode cX1_addCheck 5 = .ok (.iconst 2, 1) := by decide +kernel
theorem dX1_addCheck_6 : decode cX1_addCheck 6 = .ok (.aload_n 0, 1) := by decide +kernel
theorem dX1_addCheck_7 : decode cX1_addCheck 7 = .ok (.getfield 35, 3) := by decide +kernel
theorem dX1_addCheck_10 : decode cX1_addCheck 10 = .ok (.invokevirtual 67, 3) := by decide +kernel
theorem dX1_addCheck_13 : decode cX1_addCheck 13 = .ok (.aload_n 0, 1) := by decide +kernel
theorem dX1_addCheck_14 : decode cX1_addCheck 14 = .ok (.getfield 26, 3) := by decide +kernel
theorem dX1_addCheck_17 : decode cX1_addCheck 17 = .ok (.iload_n 1, 1) := by decide +kernel
theorem dX1_addCheck_18 : decode cX1_addCheck 18 = .ok (.iconst 3, 1) := by decide +kernel
theorem dX1_addCheck_19 : decode cX1_addCheck 19 = .ok (.iload_n 2, 1) := by decide +kernel
theorem dX1_addCheck_20 : decode cX1_addCheck 20 = .ok (.ifCond .eq 7, 3) := by decide +kernel
theorem dX1_addCheck_23 : decode cX1_addCheck 23 = .ok (.iconst 0, 1) := by decide +kernel
theorem dX1_addCheck_24 : decode cX1_addCheck 24 = .ok (.goto 4, 3) := by decide +kernel
theorem dX1_addCheck_27 : decode cX1_addCheck 27 = .ok (.iconst 1, 1) := by decide +kernel
theorem dX1_addCheck_28 : decode cX1_addCheck 28 = .ok (.invokevirtual 67, 3) := by decide +kernel
theorem dX1_addCheck_31 : decode cX1_addCheck 31 = .ok (.return_, 1) := by decide +kernel
theorem dX1_isClosed_0 : decode cX1_isClosed 0 = .ok (.aload_n 0, 1) := by decide +kernel
theorem dX1_isClosed_1 : decode cX1_isClosed 1 = .ok (.getfield 14, 3) := by decide +kernel
theorem dX1_isClosed_4 : decode cX1_isClosed 4 = .ok (.iload_n 1, 1) := by decide +kernel
theorem dX1_isClosed_5 : decode cX1_isClosed 5 = .ok (.iconst 3, 1) := by decide +kernel
theorem dX1_isClosed_6 : decode cX1_isClosed 6 = .ok (.invokevirtual 73, 3) := by decide +kernel
theorem dX1_isClosed_9 : decode cX1_isClosed 9 = .ok (.aload_n 0, 1) := by decide +kernel
theorem dX1_isClosed_10 : decode cX1_isClosed 10 = .ok (.getfield 35, 3) := by decide +kernel
theorem dX1_isClosed_13 : decode cX1_isClosed 13 = .ok (.if_icmp .ne 7, 3) := by decide +kernel
theorem dX1_isClosed_16 : decode cX1_isClosed 16 = .ok (.iconst 1, 1) := by decide +kernel
theorem dX1_isClosed_17 : decode cX1_isClosed 17 = .ok (.goto 4, 3) := by decide +kernel
theorem dX1_isClosed_20 : decode cX1_isClosed 20 = .ok (.iconst 0, 1) := by decide +kernel
theorem dX1_isClosed_21 : decode cX1_isClosed 21 = .ok (.ireturn, 1) := by decide +kernel
theorem dX1_resetWall_0 : decode cX1_resetWall 0 = .ok (.iconst 0, 1) := by decide +kernel
theorem dX1_resetWall_1 : decode cX1_resetWall 1 = .ok (.istore_n 2, 1) := by decide +kernel
theorem dX1_resetWall_2 : decode cX1_resetWall 2 = .ok (.iconst 0, 1) := by decide +kernel
theorem dX1_resetWall_3 : decode cX1_resetWall 3 = .ok (.istore_n 3, 1) := by decide +kernel
theorem dX1_resetWall_4 : decode cX1_resetWall 4 = .ok (.aload_n 0, 1) := by decide +kernel
theorem dX1_resetWall_5 : decode cX1_resetWall 5 = .ok (.getfield 20, 3) := by decide +kernel
theorem dX1_resetWall_8 : decode cX1_resetWall 8 = .ok (.getfield 70, 3) := by decide +kernel
theorem dX1_resetWall_11 : decode cX1_resetWall 11 = .ok (.istore 4, 2) := by decide +kernel
theorem dX1_resetWall_13 : decode cX1_resetWall 13 = .ok (.iconst 0, 1) := by decide +kernel
theorem dX1_resetWall_14 : decode cX1_resetWall 14 = .ok (.istore 5, 2) := by decide +kernel
theorem dX1_resetWall_16 : decode cX1_resetWall 16 = .ok (.iload 5, 2) := by decide +kernel
theorem dX1_resetWall_18 : decode cX1_resetWall 18 = .ok (.iload 4, 2) := by decide +kernel
theorem dX1_resetWall_20 : decode cX1_resetWall 20 = .ok (.if_icmp .ge 37, 3) := by decide +kernel
theorem dX1_resetWall_23 : decode cX1_resetWall 23 = .ok (.aload_n 0, 1) := by decide +kernel
theorem dX1_resetWall_24 : decode cX1_resetWall 24 = .ok (.getfield 20, 3) := by decide +kernel
theorem dX1_resetWall_27 : decode cX1_resetWall 27 = .ok (.iload_n 3, 1) := by decide +kernel
theorem dX1_resetWall_28 : decode cX1_resetWall 28 = .ok (.iconst 0, 1) := by decide +kernel
theorem dX1_resetWall_29 : decode cX1_resetWall 29 = .ok (.invokevirtual 73, 3) := by decide +kernel
theorem dX1_resetWall_32 : decode cX1_resetWall 32 = .ok (.iload_n 1, 1) := by decide +kernel
theorem dX1_resetWall_33 : decode cX1_resetWall 33 = .ok (.if_icmp .ne 15, 3) := by decide +kernel
theorem dX1_resetWall_36 : decode cX1_resetWall 36 = .ok (.aload_n 0, 1) := by decide +kernel
theorem dX1_resetWall_37 : decode cX1_resetWall 37 = .ok (.iload_n 3, 1) := by decide +kernel
theorem dX1_resetWall_38 : decode cX1_resetWall 38 = .ok (.invokevirtual 182, 3) := by decide +kernel
theorem dX1_resetWall_41 : decode cX1_resetWall 41 = .ok (.pop, 1) := by decide +kernel
theorem dX1_resetWall_42 : decode cX1_resetWall 42 = .ok (.iinc 2 1, 3) := by decide +kernel
theorem dX1_resetWall_45 : decode cX1_resetWall 45 = .ok (.goto 6, 3) := by decide +kernel
theorem dX1_resetWall_48 : decode cX1_resetWall 48 = .ok (.iinc 3 1, 3) := by decide +kernel
theorem dX1_resetWall_51 : decode cX1_resetWall 51 = .ok (.iinc 5 1, 3) := by decide +kernel
theorem dX1_resetWall_54 : decode cX1_resetWall 54 = .ok (.goto (-38), 3) := by decide +kernel
theorem dX1_resetWall_57 : decode cX1_resetWall 57 = .ok (.aload_n 0, 1) := by decide +kernel
theorem dX1_resetWall_58 : decode cX1_resetWall 58 = .ok (.getfield 14, 3) := by decide +kernel
theorem dX1_resetWall_61 : decode cX1_resetWall 61 = .ok (.iload_n 1, 1) := by decide +kernel
theorem dX1_resetWall_62 : decode cX1_resetWall 62 = .ok (.iconst 3, 1) := by decide +kernel
theorem dX1_resetWall_63 : decode cX1_resetWall 63 = .ok (.aload_n 0, 1) := by decide +kernel
theorem dX1_resetWall_64 : decode cX1_resetWall 64 = .ok (.getfield 35, 3) := by decide +kernel
theorem dX1_resetWall_67 : decode cX1_resetWall 67 = .ok (.aload_n 0, 1) := by decide +kernel
theorem dX1_resetWall_68 : decode cX1_resetWall 68 = .ok (.getfield 14, 3) := by decide +kernel
theorem dX1_resetWall_71 : decode cX1_resetWall 71 = .ok (.iload_n 1, 1) := by decide +kernel
theorem dX1_resetWall_72 : decode cX1_resetWall 72 = .ok (.iconst 2, 1) := by decide +kernel
theorem dX1_resetWall_73 : decode cX1_resetWall 73 = .ok (.invokevirtual 73, 3) := by decide +kernel
theorem dX1_resetWall_76 : decode cX1_resetWall 76 = .ok (.iadd, 1) := by decide +kernel
theorem dX1_resetWall_77 : decode cX1_resetWall 77 = .ok (.invokevirtual 67, 3) := by decide +kernel
theorem dX1_resetWall_80 : decode cX1_resetWall 80 = .ok (.iload_n 2, 1) := by decide +kernel
theorem dX1_resetWall_81 : decode cX1_resetWall 81 = .ok (.ireturn, 1) := by decide +kernel
theorem dX1_endDay_0 : decode cX1_endDay 0 = .ok (.iconst 0, 1) := by decide +kernel
theorem dX1_endDay_1 : decode cX1_endDay 1 = .ok (.istore_n 1, 1) := by decide +kernel
theorem dX1_endDay_2 : decode cX1_endDay 2 = .ok (.iconst 0, 1) := by decide +kernel
theorem dX1_endDay_3 : decode cX1_endDay 3 = .ok (.istore_n 2, 1) := by decide +kernel
theorem dX1_endDay_4 : decode cX1_endDay 4 = .ok (.iload_n 2, 1) := by decide +kernel
theorem dX1_endDay_5 : decode cX1_endDay 5 = .ok (.aload_n 0, 1) := by decide +kernel
theorem dX1_endDay_6 : decode cX1_endDay 6 = .ok (.getfield 14, 3) := by decide +kernel
theorem dX1_endDay_9 : decode cX1_endDay 9 = .ok (.getfield 70, 3) := by decide +kernel
theorem dX1_endDay_12 : decode cX1_endDay 12 = .ok (.if_icmp .ge 25, 3) := by decide +kernel
theorem dX1_endDay_15 : decode cX1_endDay 15 = .ok (.aload_n 0, 1) := by decide +kernel
theorem dX1_endDay_16 : decode cX1_endDay 16 = .ok (.iload_n 2, 1) := by decide +kernel
theorem dX1_endDay_17 : decode cX1_endDay 17 = .ok (.invokevirtual 92, 3) := by decide +kernel
theorem dX1_endDay_20 : decode cX1_endDay 20 = .ok (.ifCond .eq 11, 3) := by decide +kernel
theorem dX1_endDay_23 : decode cX1_endDay 23 = .ok (.iload_n 1, 1) := by decide +kernel
theorem dX1_endDay_24 : decode cX1_endDay 24 = .ok (.aload_n 0, 1) := by decide +kernel
theorem dX1_endDay_25 : decode cX1_endDay 25 = .ok (.iload_n 2, 1) := by decide +kernel
theorem dX1_endDay_26 : decode cX1_endDay 26 = .ok (.invokevirtual 185, 3) := by decide +kernel
theorem dX1_endDay_29 : decode cX1_endDay 29 = .ok (.iadd, 1) := by decide +kernel
theorem dX1_endDay_30 : decode cX1_endDay 30 = .ok (.istore_n 1, 1) := by decide +kernel
theorem dX1_endDay_31 : decode cX1_endDay 31 = .ok (.iinc 2 1, 3) := by decide +kernel
theorem dX1_endDay_34 : decode cX1_endDay 34 = .ok (.goto (-30), 3) := by decide +kernel
theorem dX1_endDay_37 : decode cX1_endDay 37 = .ok (.iconst 0, 1) := by decide +kernel
theorem dX1_endDay_38 : decode cX1_endDay 38 = .ok (.istore_n 2, 1) := by decide +kernel
theorem dX1_endDay_39 : decode cX1_endDay 39 = .ok (.iload_n 2, 1) := by decide +kernel
theorem dX1_endDay_40 : decode cX1_endDay 40 = .ok (.aload_n 0, 1) := by decide +kernel
theorem dX1_endDay_41 : decode cX1_endDay 41 = .ok (.getfield 29, 3) := by decide +kernel
theorem dX1_endDay_44 : decode cX1_endDay 44 = .ok (.getfield 70, 3) := by decide +kernel
theorem dX1_endDay_47 : decode cX1_endDay 47 = .ok (.if_icmp .ge 28, 3) := by decide +kernel
theorem dX1_endDay_50 : decode cX1_endDay 50 = .ok (.aload_n 0, 1) := by decide +kernel
theorem dX1_endDay_51 : decode cX1_endDay 51 = .ok (.iload_n 2, 1) := by decide +kernel
theorem dX1_endDay_52 : decode cX1_endDay 52 = .ok (.invokevirtual 89, 3) := by decide +kernel
theorem dX1_endDay_55 : decode cX1_endDay 55 = .ok (.iconst (-1), 1) := by decide +kernel
theorem dX1_endDay_56 : decode cX1_endDay 56 = .ok (.if_icmp .eq 13, 3) := by decide +kernel
theorem dX1_endDay_59 : decode cX1_endDay 59 = .ok (.aload_n 0, 1) := by decide +kernel
theorem dX1_endDay_60 : decode cX1_endDay 60 = .ok (.getfield 29, 3) := by decide +kernel
theorem dX1_endDay_63 : decode cX1_endDay 63 = .ok (.iload_n 2, 1) := by decide +kernel
theorem dX1_endDay_64 : decode cX1_endDay 64 = .ok (.iconst 5, 1) := by decide +kernel
theorem dX1_endDay_65 : decode cX1_endDay 65 = .ok (.iconst 1, 1) := by decide +kernel
theorem dX1_endDay_66 : decode cX1_endDay 66 = .ok (.invokevirtual 109, 3) := by decide +kernel
theorem dX1_endDay_69 : decode cX1_endDay 69 = .ok (.iinc 2 1, 3) := by decide +kernel
theorem dX1_endDay_72 : decode cX1_endDay 72 = .ok (.goto (-33), 3) := by decide +kernel
theorem dX1_endDay_75 : decode cX1_endDay 75 = .ok (.aload_n 0, 1) := by decide +kernel
theorem dX1_endDay_76 : decode cX1_endDay 76 = .ok (.dup, 1) := by decide +kernel
theorem dX1_endDay_77 : decode cX1_endDay 77 = .ok (.getfield 35, 3) := by decide +kernel
theorem dX1_endDay_80 : decode cX1_endDay 80 = .ok (.iconst 1, 1) := by decide +kernel
theorem dX1_endDay_81 : decode cX1_endDay 81 = .ok (.iadd, 1) := by decide +kernel
theorem dX1_endDay_82 : decode cX1_endDay 82 = .ok (.putfield 35, 3) := by decide +kernel
theorem dX1_endDay_85 : decode cX1_endDay 85 = .ok (.iload_n 1, 1) := by decide +kernel
theorem dX1_endDay_86 : decode cX1_endDay 86 = .ok (.ireturn, 1) := by decide +kernel
theorem dX1_membersIn_0 : decode cX1_membersIn 0 = .ok (.iconst 0, 1) := by decide +kernel
theorem dX1_membersIn_1 : decode cX1_membersIn 1 = .ok (.istore_n 2, 1) := by decide +kernel
theorem dX1_membersIn_2 : decode cX1_membersIn 2 = .ok (.iconst 0, 1) := by decide +kernel
theorem dX1_membersIn_3 : decode cX1_membersIn 3 = .ok (.istore_n 3, 1) := by decide +kernel
theorem dX1_membersIn_4 : decode cX1_membersIn 4 = .ok (.iload_n 3, 1) := by decide +kernel
theorem dX1_membersIn_5 : decode cX1_membersIn 5 = .ok (.aload_n 0, 1) := by decide +kernel
theorem dX1_membersIn_6 : decode cX1_membersIn 6 = .ok (.getfield 29, 3) := by decide +kernel
theorem dX1_membersIn_9 : decode cX1_membersIn 9 = .ok (.getfield 70, 3) := by decide +kernel
theorem dX1_membersIn_12 : decode cX1_membersIn 12 = .ok (.if_icmp .ge 28, 3) := by decide +kernel
theorem dX1_membersIn_15 : decode cX1_membersIn 15 = .ok (.aload_n 0, 1) := by decide +kernel
theorem dX1_membersIn_16 : decode cX1_membersIn 16 = .ok (.getfield 29, 3) := by decide +kernel
theorem dX1_membersIn_19 : decode cX1_membersIn 19 = .ok (.iload_n 3, 1) := by decide +kernel
theorem dX1_membersIn_20 : decode cX1_membersIn 20 = .ok (.iconst 4, 1) := by decide +kernel
theorem dX1_membersIn_21 : decode cX1_membersIn 21 = .ok (.invokevirtual 73, 3) := by decide +kernel
theorem dX1_membersIn_24 : decode cX1_membersIn 24 = .ok (.iload_n 1, 1) := by decide +kernel
theorem dX1_membersIn_25 : decode cX1_membersIn 25 = .ok (.if_icmp .ne 9, 3) := by decide +kernel
theorem dX1_membersIn_28 : decode cX1_membersIn 28 = .ok (.iload_n 2, 1) := by decide +kernel
theorem dX1_membersIn_29 : decode cX1_membersIn 29 = .ok (.iconst 1, 1) := by decide +kernel
theorem dX1_membersIn_30 : decode cX1_membersIn 30 = .ok (.iload_n 3, 1) := by decide +kernel
theorem dX1_membersIn_31 : decode cX1_membersIn 31 = .ok (.ishl, 1) := by decide +kernel
theorem dX1_membersIn_32 : decode cX1_membersIn 32 = .ok (.ior, 1) := by decide +kernel
theorem dX1_membersIn_33 : decode cX1_membersIn 33 = .ok (.istore_n 2, 1) := by decide +kernel
theorem dX1_membersIn_34 : decode cX1_membersIn 34 = .ok (.iinc 3 1, 3) := by decide +kernel
theorem dX1_membersIn_37 : decode cX1_membersIn 37 = .ok (.goto (-33), 3) := by decide +kernel
theorem dX1_membersIn_40 : decode cX1_membersIn 40 = .ok (.iload_n 2, 1) := by decide +kernel
theorem dX1_membersIn_41 : decode cX1_membersIn 41 = .ok (.ireturn, 1) := by decide +kernel
theorem dX1_mayEnroll_0 : decode cX1_mayEnroll 0 = .ok (.aload_n 0, 1) := by decide +kernel
theorem dX1_mayEnroll_1 : decode cX1_mayEnroll 1 = .ok (.getfield 29, 3) := by decide +kernel
theorem dX1_mayEnroll_4 : decode cX1_mayEnroll 4 = .ok (.iload_n 1, 1) := by decide +kernel
theorem dX1_mayEnroll_5 : decode cX1_mayEnroll 5 = .ok (.iconst 4, 1) := by decide +kernel
theorem dX1_mayEnroll_6 : decode cX1_mayEnroll 6 = .ok (.invokevirtual 73, 3) := by decide +kernel
theorem dX1_mayEnroll_9 : decode cX1_mayEnroll 9 = .ok (.iconst (-1), 1) := by decide +kernel
theorem dX1_mayEnroll_10 : decode cX1_mayEnroll 10 = .ok (.if_icmp .ne 71, 3) := by decide +kernel
theorem dX1_mayEnroll_13 : decode cX1_mayEnroll 13 = .ok (.aload_n 0, 1) := by decide +kernel
theorem dX1_mayEnroll_14 : decode cX1_mayEnroll 14 = .ok (.getfield 29, 3) := by decide +kernel
theorem dX1_mayEnroll_17 : decode cX1_mayEnroll 17 = .ok (.iload_n 1, 1) := by decide +kernel
theorem dX1_mayEnroll_18 : decode cX1_mayEnroll 18 = .ok (.iconst 1, 1) := by decide +kernel
theorem dX1_mayEnroll_19 : decode cX1_mayEnroll 19 = .ok (.invokevirtual 73, 3) := by decide +kernel
theorem dX1_mayEnroll_22 : decode cX1_mayEnroll 22 = .ok (.aload_n 0, 1) := by decide +kernel
theorem dX1_mayEnroll_23 : decode cX1_mayEnroll 23 = .ok (.getfield 32, 3) := by decide +kernel
theorem dX1_mayEnroll_26 : decode cX1_mayEnroll 26 = .ok (.iload_n 2, 1) := by decide +kernel
theorem dX1_mayEnroll_27 : decode cX1_mayEnroll 27 = .ok (.iconst 0, 1) := by decide +kernel
theorem dX1_mayEnroll_28 : decode cX1_mayEnroll 28 = .ok (.invokevirtual 73, 3) := by decide +kernel
theorem dX1_mayEnroll_31 : decode cX1_mayEnroll 31 = .ok (.iconst 1, 1) := by decide +kernel
theorem dX1_mayEnroll_32 : decode cX1_mayEnroll 32 = .ok (.isub, 1) := by decide +kernel
theorem dX1_mayEnroll_33 : decode cX1_mayEnroll 33 = .ok (.if_icmp .ne 48, 3) := by decide +kernel
theorem dX1_mayEnroll_36 : decode cX1_mayEnroll 36 = .ok (.aload_n 0, 1) := by decide +kernel
theorem dX1_mayEnroll_37 : decode cX1_mayEnroll 37 = .ok (.getfield 29, 3) := by decide +kernel
theorem dX1_mayEnroll_40 : decode cX1_mayEnroll 40 = .ok (.iload_n 1, 1) := by decide +kernel
theorem dX1_mayEnroll_41 : decode cX1_mayEnroll 41 = .ok (.iconst 2, 1) := by decide +kernel
theorem dX1_mayEnroll_42 : decode cX1_mayEnroll 42 = .ok (.invokevirtual 73, 3) := by decide +kernel
theorem dX1_mayEnroll_45 : decode cX1_mayEnroll 45 = .ok (.aload_n 0, 1) := by decide +kernel
theorem dX1_mayEnroll_46 : decode cX1_mayEnroll 46 = .ok (.getfield 32, 3) := by decide +kernel
theorem dX1_mayEnroll_49 : decode cX1_mayEnroll 49 = .ok (.iload_n 2, 1) := by decide +kernel
theorem dX1_mayEnroll_50 : decode cX1_mayEnroll 50 = .ok (.iconst 2, 1) := by decide +kernel
theorem dX1_mayEnroll_51 : decode cX1_mayEnroll 51 = .ok (.invokevirtual 73, 3) := by decide +kernel
theorem dX1_mayEnroll_54 : decode cX1_mayEnroll 54 = .ok (.if_icmp .lt 27, 3) := by decide +kernel
theorem dX1_mayEnroll_57 : decode cX1_mayEnroll 57 = .ok (.aload_n 0, 1) := by decide +kernel
theorem dX1_mayEnroll_58 : decode cX1_mayEnroll 58 = .ok (.iload_n 2, 1) := by decide +kernel
theorem dX1_mayEnroll_59 : decode cX1_mayEnroll 59 = .ok (.invokevirtual 188, 3) := by decide +kernel
theorem dX1_mayEnroll_62 : decode cX1_mayEnroll 62 = .ok (.invokestatic 174, 3) := by decide +kernel
theorem dX1_mayEnroll_65 : decode cX1_mayEnroll 65 = .ok (.aload_n 0, 1) := by decide +kernel
theorem dX1_mayEnroll_66 : decode cX1_mayEnroll 66 = .ok (.getfield 32, 3) := by decide +kernel
theorem dX1_mayEnroll_69 : decode cX1_mayEnroll 69 = .ok (.iload_n 2, 1) := by decide +kernel
theorem dX1_mayEnroll_70 : decode cX1_mayEnroll 70 = .ok (.iconst 1, 1) := by decide +kernel
theorem dX1_mayEnroll_71 : decode cX1_mayEnroll 71 = .ok (.invokevirtual 73, 3) := by decide +kernel
theorem dX1_mayEnroll_74 : decode cX1_mayEnroll 74 = .ok (.if_icmp .ge 7, 3) := by decide +kernel
theorem dX1_mayEnroll_77 : decode cX1_mayEnroll 77 = .ok (.iconst 1, 1) := by decide +kernel
theorem dX1_mayEnroll_78 : decode cX1_mayEnroll 78 = .ok (.goto 4, 3) := by decide +kernel
theorem dX1_mayEnroll_81 : decode cX1_mayEnroll 81 = .ok (.iconst 0, 1) := by decide +kernel
theorem dX1_mayEnroll_82 : decode cX1_mayEnroll 82 = .ok (.ireturn, 1) := by decide +kernel
theorem dX1_endCourse_0 : decode cX1_endCourse 0 = .ok (.iconst 0, 1) := by decide +kernel
theorem dX1_endCourse_1 : decode cX1_endCourse 1 = .ok (.istore_n 3, 1) := by decide +kernel
theorem dX1_endCourse_2 : decode cX1_endCourse 2 = .ok (.aload_n 0, 1) := by decide +kernel
theorem dX1_endCourse_3 : decode cX1_endCourse 3 = .ok (.iload_n 1, 1) := by decide +kernel
theorem dX1_endCourse_4 : decode cX1_endCourse 4 = .ok (.invokevirtual 188, 3) := by decide +kernel
theorem dX1_endCourse_7 : decode cX1_endCourse 7 = .ok (.istore 4, 2) := by decide +kernel
theorem dX1_endCourse_9 : decode cX1_endCourse 9 = .ok (.iconst 0, 1) := by decide +kernel
theorem dX1_endCourse_10 : decode cX1_endCourse 10 = .ok (.istore 5, 2) := by decide +kernel
theorem dX1_endCourse_12 : decode cX1_endCourse 12 = .ok (.iload 5, 2) := by decide +kernel
theorem dX1_endCourse_14 : decode cX1_endCourse 14 = .ok (.aload_n 0, 1) := by decide +kernel
theorem dX1_endCourse_15 : decode cX1_endCourse 15 = .ok (.getfield 29, 3) := by decide +kernel
theorem dX1_endCourse_18 : decode cX1_endCourse 18 = .ok (.getfield 70, 3) := by decide +kernel
theorem dX1_endCourse_21 : decode cX1_endCourse 21 = .ok (.if_icmp .ge 63, 3) := by decide +kernel
theorem dX1_endCourse_24 : decode cX1_endCourse 24 = .ok (.iload 4, 2) := by decide +kernel
theorem dX1_endCourse_26 : decode cX1_endCourse 26 = .ok (.iload 5, 2) := by decide +kernel
theorem dX1_endCourse_28 : decode cX1_endCourse 28 = .ok (.iushr, 1) := by decide +kernel
theorem dX1_endCourse_29 : decode cX1_endCourse 29 = .ok (.iconst 1, 1) := by decide +kernel
theorem dX1_endCourse_30 : decode cX1_endCourse 30 = .ok (.iand, 1) := by decide +kernel
theorem dX1_endCourse_31 : decode cX1_endCourse 31 = .ok (.iconst 1, 1) := by decide +kernel
theorem dX1_endCourse_32 : decode cX1_endCourse 32 = .ok (.if_icmp .ne 46, 3) := by decide +kernel
theorem dX1_endCourse_35 : decode cX1_endCourse 35 = .ok (.aload_n 0, 1) := by decide +kernel
theorem dX1_endCourse_36 : decode cX1_endCourse 36 = .ok (.getfield 29, 3) := by decide +kernel
theorem dX1_endCourse_39 : decode cX1_endCourse 39 = .ok (.iload 5, 2) := by decide +kernel
theorem dX1_endCourse_41 : decode cX1_endCourse 41 = .ok (.iconst 4, 1) := by decide +kernel
theorem dX1_endCourse_42 : decode cX1_endCourse 42 = .ok (.iconst (-1), 1) := by decide +kernel
theorem dX1_endCourse_43 : decode cX1_endCourse 43 = .ok (.invokevirtual 67, 3) := by decide +kernel
theorem dX1_endCourse_46 : decode cX1_endCourse 46 = .ok (.iload_n 2, 1) := by decide +kernel
theorem dX1_endCourse_47 : decode cX1_endCourse 47 = .ok (.iload 5, 2) := by decide +kernel
theorem dX1_endCourse_49 : decode cX1_endCourse 49 = .ok (.iushr, 1) := by decide +kernel
theorem dX1_endCourse_50 : decode cX1_endCourse 50 = .ok (.iconst 1, 1) := by decide +kernel
theorem dX1_endCourse_51 : decode cX1_endCourse 51 = .ok (.iand, 1) := by decide +kernel
theorem dX1_endCourse_52 : decode cX1_endCourse 52 = .ok (.iconst 1, 1) := by decide +kernel
theorem dX1_endCourse_53 : decode cX1_endCourse 53 = .ok (.if_icmp .ne 25, 3) := by decide +kernel
theorem dX1_endCourse_56 : decode cX1_endCourse 56 = .ok (.aload_n 0, 1) := by decide +kernel
theorem dX1_endCourse_57 : decode cX1_endCourse 57 = .ok (.getfield 29, 3) := by decide +kernel
theorem dX1_endCourse_60 : decode cX1_endCourse 60 = .ok (.iload 5, 2) := by decide +kernel
theorem dX1_endCourse_62 : decode cX1_endCourse 62 = .ok (.iconst 1, 1) := by decide +kernel
theorem dX1_endCourse_63 : decode cX1_endCourse 63 = .ok (.aload_n 0, 1) := by decide +kernel
theorem dX1_endCourse_64 : decode cX1_endCourse 64 = .ok (.getfield 32, 3) := by decide +kernel
theorem dX1_endCourse_67 : decode cX1_endCourse 67 = .ok (.iload_n 1, 1) := by decide +kernel
theorem dX1_endCourse_68 : decode cX1_endCourse 68 = .ok (.iconst 0, 1) := by decide +kernel
theorem dX1_endCourse_69 : decode cX1_endCourse 69 = .ok (.invokevirtual 73, 3) := by decide +kernel
theorem dX1_endCourse_72 : decode cX1_endCourse 72 = .ok (.invokevirtual 67, 3) := by decide +kernel
theorem dX1_endCourse_75 : decode cX1_endCourse 75 = .ok (.iinc 3 1, 3) := by decide +kernel
theorem dX1_endCourse_78 : decode cX1_endCourse 78 = .ok (.iinc 5 1, 3) := by decide +kernel
theorem dX1_endCourse_81 : decode cX1_endCourse 81 = .ok (.goto (-69), 3) := by decide +kernel
theorem dX1_endCourse_84 : decode cX1_endCourse 84 = .ok (.iload_n 3, 1) := by decide +kernel
theorem dX1_endCourse_85 : decode cX1_endCourse 85 = .ok (.ireturn, 1) := by decide +kernel
theorem dX2_init_0 : decode cX2_init 0 = .ok (.aload_n 0, 1) := by decide +kernel
theorem dX2_init_1 : decode cX2_init 1 = .ok (.invokespecial 3, 3) := by decide +kernel
theorem dX2_init_4 : decode cX2_init 4 = .ok (.aload_n 0, 1) := by decide +kernel
theorem dX2_init_5 : decode cX2_init 5 = .ok (.bipush 8, 2) := by decide +kernel
theorem dX2_init_7 : decode cX2_init 7 = .ok (.anewarray 9, 3) := by decide +kernel
theorem dX2_init_10 : decode cX2_init 10 = .ok (.putfield 11, 3) := by decide +kernel
theorem dX2_init_13 : decode cX2_init 13 = .ok (.aload_n 0, 1) := by decide +kernel
theorem dX2_init_14 : decode cX2_init 14 = .ok (.iconst 0, 1) := by decide +kernel
theorem dX2_init_15 : decode cX2_init 15 = .ok (.putfield 17, 3) := by decide +kernel
theorem dX2_init_18 : decode cX2_init 18 = .ok (.aload_n 0, 1) := by decide +kernel
theorem dX2_init_19 : decode cX2_init 19 = .ok (.iconst 0, 1) := by decide +kernel
theorem dX2_init_20 : decode cX2_init 20 = .ok (.putfield 21, 3) := by decide +kernel
theorem dX2_init_23 : decode cX2_init 23 = .ok (.aload_n 0, 1) := by decide +kernel
theorem dX2_init_24 : decode cX2_init 24 = .ok (.iconst 0, 1) := by decide +kernel
theorem dX2_init_25 : decode cX2_init 25 = .ok (.putfield 24, 3) := by decide +kernel
theorem dX2_init_28 : decode cX2_init 28 = .ok (.iconst 0, 1) := by decide +kernel
theorem dX2_init_29 : decode cX2_init 29 = .ok (.istore_n 2, 1) := by decide +kernel
theorem dX2_init_30 : decode cX2_init 30 = .ok (.iload_n 2, 1) := by decide +kernel
theorem dX2_init_31 : decode cX2_init 31 = .ok (.aload_n 0, 1) := by decide +kernel
theorem dX2_init_32 : decode cX2_init 32 = .ok (.getfield 11, 3) := by decide +kernel
theorem dX2_init_35 : decode cX2_init 35 = .ok (.arraylength, 1) := by decide +kernel
theorem dX2_init_36 : decode cX2_init 36 = .ok (.if_icmp .ge 23, 3) := by decide +kernel
theorem dX2_init_39 : decode cX2_init 39 = .ok (.aload_n 0, 1) := by decide +kernel
theorem dX2_init_40 : decode cX2_init 40 = .ok (.getfield 11, 3) := by decide +kernel
theorem dX2_init_43 : decode cX2_init 43 = .ok (.iload_n 2, 1) := by decide +kernel
theorem dX2_init_44 : decode cX2_init 44 = .ok (.new 9, 3) := by decide +kernel
theorem dX2_init_47 : decode cX2_init 47 = .ok (.dup, 1) := by decide +kernel
theorem dX2_init_48 : decode cX2_init 48 = .ok (.aload_n 1, 1) := by decide +kernel
theorem dX2_init_49 : decode cX2_init 49 = .ok (.invokespecial 28, 3) := by decide +kernel
theorem dX2_init_52 : decode cX2_init 52 = .ok (.aastore, 1) := by decide +kernel
theorem dX2_init_53 : decode cX2_init 53 = .ok (.iinc 2 1, 3) := by decide +kernel
theorem dX2_init_56 : decode cX2_init 56 = .ok (.goto (-26), 3) := by decide +kernel
theorem dX2_init_59 : decode cX2_init 59 = .ok (.aload_n 0, 1) := by decide +kernel
theorem dX2_init_60 : decode cX2_init 60 = .ok (.new 9, 3) := by decide +kernel
theorem dX2_init_63 : decode cX2_init 63 = .ok (.dup, 1) := by decide +kernel
theorem dX2_init_64 : decode cX2_init 64 = .ok (.aload_n 1, 1) := by decide +kernel
theorem dX2_init_65 : decode cX2_init 65 = .ok (.invokespecial 28, 3) := by decide +kernel
theorem dX2_init_68 : decode cX2_init 68 = .ok (.putfield 31, 3) := by decide +kernel
theorem dX2_init_71 : decode cX2_init 71 = .ok (.return_, 1) := by decide +kernel
theorem dX2_latestHall_0 : decode cX2_latestHall 0 = .ok (.aload_n 0, 1) := by decide +kernel
theorem dX2_latestHall_1 : decode cX2_latestHall 1 = .ok (.getfield 21, 3) := by decide +kernel
theorem dX2_latestHall_4 : decode cX2_latestHall 4 = .ok (.ifCond .lt 27, 3) := by decide +kernel
theorem dX2_latestHall_7 : decode cX2_latestHall 7 = .ok (.aload_n 0, 1) := by decide +kernel
theorem dX2_latestHall_8 : decode cX2_latestHall 8 = .ok (.getfield 21, 3) := by decide +kernel
theorem dX2_latestHall_11 : decode cX2_latestHall 11 = .ok (.aload_n 0, 1) := by decide +kernel
theorem dX2_latestHall_12 : decode cX2_latestHall 12 = .ok (.getfield 11, 3) := by decide +kernel
theorem dX2_latestHall_15 : decode cX2_latestHall 15 = .ok (.arraylength, 1) := by decide +kernel
theorem dX2_latestHall_16 : decode cX2_latestHall 16 = .ok (.if_icmp .ge 15, 3) := by decide +kernel
theorem dX2_latestHall_19 : decode cX2_latestHall 19 = .ok (.aload_n 0, 1) := by decide +kernel
theorem dX2_latestHall_20 : decode cX2_latestHall 20 = .ok (.getfield 11, 3) := by decide +kernel
theorem dX2_latestHall_23 : decode cX2_latestHall 23 = .ok (.aload_n 0, 1) := by decide +kernel
theorem dX2_latestHall_24 : decode cX2_latestHall 24 = .ok (.getfield 21, 3) := by decide +kernel
theorem dX2_latestHall_27 : decode cX2_latestHall 27 = .ok (.aaload, 1) := by decide +kernel
theorem dX2_latestHall_28 : decode cX2_latestHall 28 = .ok (.goto 4, 3) := by decide +kernel
theorem dX2_latestHall_31 : decode cX2_latestHall 31 = .ok (.aconst_null, 1) := by decide +kernel
theorem dX2_latestHall_32 : decode cX2_latestHall 32 = .ok (.areturn, 1) := by decide +kernel
theorem dX2_remember_0 : decode cX2_remember 0 = .ok (.aload_n 0, 1) := by decide +kernel
theorem dX2_remember_1 : decode cX2_remember 1 = .ok (.aload_n 0, 1) := by decide +kernel
theorem dX2_remember_2 : decode cX2_remember 2 = .ok (.getfield 21, 3) := by decide +kernel
theorem dX2_remember_5 : decode cX2_remember 5 = .ok (.iconst 1, 1) := by decide +kernel
theorem dX2_remember_6 : decode cX2_remember 6 = .ok (.iadd, 1) := by decide +kernel
theorem dX2_remember_7 : decode cX2_remember 7 = .ok (.bipush 8, 2) := by decide +kernel
theorem dX2_remember_9 : decode cX2_remember 9 = .ok (.irem, 1) := by decide +kernel
theorem dX2_remember_10 : decode cX2_remember 10 = .ok (.putfield 21, 3) := by decide +kernel
theorem dX2_remember_13 : decode cX2_remember 13 = .ok (.aload_n 0, 1) := by decide +kernel
theorem dX2_remember_14 : decode cX2_remember 14 = .ok (.aload_n 0, 1) := by decide +kernel
theorem dX2_remember_15 : decode cX2_remember 15 = .ok (.getfield 17, 3) := by decide +kernel
theorem dX2_remember_18 : decode cX2_remember 18 = .ok (.iconst 1, 1) := by decide +kernel
theorem dX2_remember_19 : decode cX2_remember 19 = .ok (.iadd, 1) := by decide +kernel
theorem dX2_remember_20 : decode cX2_remember 20 = .ok (.bipush 8, 2) := by decide +kernel
theorem dX2_remember_22 : decode cX2_remember 22 = .ok (.invokestatic 35, 3) := by decide +kernel
theorem dX2_remember_25 : decode cX2_remember 25 = .ok (.putfield 17, 3) := by decide +kernel
theorem dX2_remember_28 : decode cX2_remember 28 = .ok (.aload_n 0, 1) := by decide +kernel
theorem dX2_remember_29 : decode cX2_remember 29 = .ok (.invokevirtual 41, 3) := by decide +kernel
theorem dX2_remember_32 : decode cX2_remember 32 = .ok (.astore_n 2, 1) := by decide +kernel
theorem dX2_remember_33 : decode cX2_remember 33 = .ok (.aload_n 2, 1) := by decide +kernel
theorem dX2_remember_34 : decode cX2_remember 34 = .ok (.ifnull 8, 3) := by decide +kernel
theorem dX2_remember_37 : decode cX2_remember 37 = .ok (.aload_n 2, 1) := by decide +kernel
theorem dX2_remember_38 : decode cX2_remember 38 = .ok (.aload_n 1, 1) := by decide +kernel
theorem dX2_remember_39 : decode cX2_remember 39 = .ok (.invokevirtual 45, 3) := by decide +kernel
theorem dX2_remember_42 : decode cX2_remember 42 = .ok (.return_, 1) := by decide +kernel
theorem dX2_takeBack_0 : decode cX2_takeBack 0 = .ok (.aload_n 0, 1) := by decide +kernel
theorem dX2_takeBack_1 : decode cX2_takeBack 1 = .ok (.invokevirtual 41, 3) := by decide +kernel
theorem dX2_takeBack_4 : decode cX2_takeBack 4 = .ok (.astore_n 2, 1) := by decide +kernel
theorem dX2_takeBack_5 : decode cX2_takeBack 5 = .ok (.aload_n 2, 1) := by decide +kernel
theorem dX2_takeBack_6 : decode cX2_takeBack 6 = .ok (.ifnull 8, 3) := by decide +kernel
theorem dX2_takeBack_9 : decode cX2_takeBack 9 = .ok (.aload_n 1, 1) := by decide +kernel
theorem dX2_takeBack_10 : decode cX2_takeBack 10 = .ok (.aload_n 2, 1) := by decide +kernel
theorem dX2_takeBack_11 : decode cX2_takeBack 11 = .ok (.invokevirtual 45, 3) := by decide +kernel
theorem dX2_takeBack_14 : decode cX2_takeBack 14 = .ok (.aload_n 0, 1) := by decide +kernel
theorem dX2_takeBack_15 : decode cX2_takeBack 15 = .ok (.aload_n 0, 1) := by decide +kernel
theorem dX2_takeBack_16 : decode cX2_takeBack 16 = .ok (.getfield 21, 3) := by decide +kernel
theorem dX2_takeBack_19 : decode cX2_takeBack 19 = .ok (.bipush 8, 2) := by decide +kernel
theorem dX2_takeBack_21 : decode cX2_takeBack 21 = .ok (.iadd, 1) := by decide +kernel
theorem dX2_takeBack_22 : decode cX2_takeBack 22 = .ok (.iconst 1, 1) := by decide +kernel
theorem dX2_takeBack_23 : decode cX2_takeBack 23 = .ok (.isub, 1) := by decide +kernel
theorem dX2_takeBack_24 : decode cX2_takeBack 24 = .ok (.bipush 8, 2) := by decide +kernel
theorem dX2_takeBack_26 : decode cX2_takeBack 26 = .ok (.irem, 1) := by decide +kernel
theorem dX2_takeBack_27 : decode cX2_takeBack 27 = .ok (.putfield 21, 3) := by decide +kernel
theorem dX2_takeBack_30 : decode cX2_takeBack 30 = .ok (.aload_n 0, 1) := by decide +kernel
theorem dX2_takeBack_31 : decode cX2_takeBack 31 = .ok (.aload_n 0, 1) := by decide +kernel
theorem dX2_takeBack_32 : decode cX2_takeBack 32 = .ok (.getfield 17, 3) := by decide +kernel
theorem dX2_takeBack_35 : decode cX2_takeBack 35 = .ok (.iconst 1, 1) := by decide +kernel
theorem dX2_takeBack_36 : decode cX2_takeBack 36 = .ok (.isub, 1) := by decide +kernel
theorem dX2_takeBack_37 : decode cX2_takeBack 37 = .ok (.iconst 0, 1) := by decide +kernel
theorem dX2_takeBack_38 : decode cX2_takeBack 38 = .ok (.invokestatic 49, 3) := by decide +kernel
theorem dX2_takeBack_41 : decode cX2_takeBack 41 = .ok (.putfield 17, 3) := by decide +kernel
theorem dX2_takeBack_44 : decode cX2_takeBack 44 = .ok (.return_, 1) := by decide +kernel
theorem dX2_keepCopy_0 : decode cX2_keepCopy 0 = .ok (.aload_n 0, 1) := by decide +kernel
theorem dX2_keepCopy_1 : decode cX2_keepCopy 1 = .ok (.getfield 31, 3) := by decide +kernel
theorem dX2_keepCopy_4 : decode cX2_keepCopy 4 = .ok (.aload_n 1, 1) := by decide +kernel
theorem dX2_keepCopy_5 : decode cX2_keepCopy 5 = .ok (.invokevirtual 45, 3) := by decide +kernel
theorem dX2_keepCopy_8 : decode cX2_keepCopy 8 = .ok (.aload_n 0, 1) := by decide +kernel
theorem dX2_keepCopy_9 : decode cX2_keepCopy 9 = .ok (.iconst 1, 1) := by decide +kernel
theorem dX2_keepCopy_10 : decode cX2_keepCopy 10 = .ok (.putfield 24, 3) := by decide +kernel
theorem dX2_keepCopy_13 : decode cX2_keepCopy 13 = .ok (.return_, 1) := by decide +kernel
theorem dX2_bringBackCopy_0 : decode cX2_bringBackCopy 0 = .ok (.aload_n 1, 1) := by decide +kernel
theorem dX2_bringBackCopy_1 : decode cX2_bringBackCopy 1 = .ok (.aload_n 0, 1) := by decide +kernel
theorem dX2_bringBackCopy_2 : decode cX2_bringBackCopy 2 = .ok (.getfield 31, 3) := by decide +kernel
theorem dX2_bringBackCopy_5 : decode cX2_bringBackCopy 5 = .ok (.invokevirtual 45, 3) := by decide +kernel
theorem dX2_bringBackCopy_8 : decode cX2_bringBackCopy 8 = .ok (.aload_n 0, 1) := by decide +kernel
theorem dX2_bringBackCopy_9 : decode cX2_bringBackCopy 9 = .ok (.iconst 0, 1) := by decide +kernel
theorem dX2_bringBackCopy_10 : decode cX2_bringBackCopy 10 = .ok (.putfield 17, 3) := by decide +kernel
theorem dX2_bringBackCopy_13 : decode cX2_bringBackCopy 13 = .ok (.return_, 1) := by decide +kernel
theorem dX2_forgetAll_0 : decode cX2_forgetAll 0 = .ok (.aload_n 0, 1) := by decide +kernel
theorem dX2_forgetAll_1 : decode cX2_forgetAll 1 = .ok (.iconst 0, 1) := by decide +kernel
theorem dX2_forgetAll_2 : decode cX2_forgetAll 2 = .ok (.putfield 17, 3) := by decide +kernel
theorem dX2_forgetAll_5 : decode cX2_forgetAll 5 = .ok (.aload_n 0, 1) := by decide +kernel
theorem dX2_forgetAll_6 : decode cX2_forgetAll 6 = .ok (.iconst 0, 1) := by decide +kernel
theorem dX2_forgetAll_7 : decode cX2_forgetAll 7 = .ok (.putfield 24, 3) := by decide +kernel
theorem dX2_forgetAll_10 : decode cX2_forgetAll 10 = .ok (.return_, 1) := by decide +kernel
theorem dX3_init_0 : decode cX3_init 0 = .ok (.aload_n 0, 1) := by decide +kernel
theorem dX3_init_1 : decode cX3_init 1 = .ok (.invokespecial 3, 3) := by decide +kernel
theorem dX3_init_4 : decode cX3_init 4 = .ok (.aload_n 0, 1) := by decide +kernel
theorem dX3_init_5 : decode cX3_init 5 = .ok (.sipush 600, 3) := by decide +kernel
theorem dX3_init_8 : decode cX3_init 8 = .ok (.newarray .int, 2) := by decide +kernel
theorem dX3_init_10 : decode cX3_init 10 = .ok (.putfield 9, 3) := by decide +kernel
theorem dX3_init_13 : decode cX3_init 13 = .ok (.aload_n 0, 1) := by decide +kernel
theorem dX3_init_14 : decode cX3_init 14 = .ok (.iconst 0, 1) := by decide +kernel
theorem dX3_init_15 : decode cX3_init 15 = .ok (.putfield 15, 3) := by decide +kernel
theorem dX3_init_18 : decode cX3_init 18 = .ok (.aload_n 0, 1) := by decide +kernel
theorem dX3_init_19 : decode cX3_init 19 = .ok (.iconst 3, 1) := by decide +kernel
theorem dX3_init_20 : decode cX3_init 20 = .ok (.newarray .int, 2) := by decide +kernel
theorem dX3_init_22 : decode cX3_init 22 = .ok (.putfield 19, 3) := by decide +kernel
theorem dX3_init_25 : decode cX3_init 25 = .ok (.aload_n 0, 1) := by decide +kernel
theorem dX3_init_26 : decode cX3_init 26 = .ok (.iconst 0, 1) := by decide +kernel
theorem dX3_init_27 : decode cX3_init 27 = .ok (.putfield 22, 3) := by decide +kernel
theorem dX3_init_30 : decode cX3_init 30 = .ok (.aload_n 0, 1) := by decide +kernel
theorem dX3_init_31 : decode cX3_init 31 = .ok (.iconst 0, 1) := by decide +kernel
theorem dX3_init_32 : decode cX3_init 32 = .ok (.putfield 26, 3) := by decide +kernel
theorem dX3_init_35 : decode cX3_init 35 = .ok (.aload_n 0, 1) := by decide +kernel
theorem dX3_init_36 : decode cX3_init 36 = .ok (.iconst 0, 1) := by decide +kernel
theorem dX3_init_37 : decode cX3_init 37 = .ok (.putfield 29, 3) := by decide +kernel
theorem dX3_init_40 : decode cX3_init 40 = .ok (.aload_n 0, 1) := by decide +kernel
theorem dX3_init_41 : decode cX3_init 41 = .ok (.aload_n 1, 1) := by decide +kernel
theorem dX3_init_42 : decode cX3_init 42 = .ok (.putfield 32, 3) := by decide +kernel
theorem dX3_init_45 : decode cX3_init 45 = .ok (.return_, 1) := by decide +kernel
theorem dX3_addBytesOf_0 : decode cX3_addBytesOf 0 = .ok (.bipush 24, 2) := by decide +kernel
theorem dX3_addBytesOf_2 : decode cX3_addBytesOf 2 = .ok (.istore_n 2, 1) := by decide +kernel
theorem dX3_addBytesOf_3 : decode cX3_addBytesOf 3 = .ok (.iload_n 2, 1) := by decide +kernel
theorem dX3_addBytesOf_4 : decode cX3_addBytesOf 4 = .ok (.ifCond .lt 60, 3) := by decide +kernel
theorem dX3_addBytesOf_7 : decode cX3_addBytesOf 7 = .ok (.iload_n 1, 1) := by decide +kernel
theorem dX3_addBytesOf_8 : decode cX3_addBytesOf 8 = .ok (.iload_n 2, 1) := by decide +kernel
theorem dX3_addBytesOf_9 : decode cX3_addBytesOf 9 = .ok (.iushr, 1) := by decide +kernel
theorem dX3_addBytesOf_10 : decode cX3_addBytesOf 10 = .ok (.sipush 255, 3) := by decide +kernel
theorem dX3_addBytesOf_13 : decode cX3_addBytesOf 13 = .ok (.iand, 1) := by decide +kernel
theorem dX3_addBytesOf_14 : decode cX3_addBytesOf 14 = .ok (.istore_n 3, 1) := by decide +kernel
theorem dX3_addBytesOf_15 : decode cX3_addBytesOf 15 = .ok (.iload_n 3, 1) := by decide +kernel
theorem dX3_addBytesOf_16 : decode cX3_addBytesOf 16 = .ok (.ifCond .eq 42, 3) := by decide +kernel
theorem dX3_addBytesOf_19 : decode cX3_addBytesOf 19 = .ok (.aload_n 0, 1) := by decide +kernel
theorem dX3_addBytesOf_20 : decode cX3_addBytesOf 20 = .ok (.getfield 15, 3) := by decide +kernel
theorem dX3_addBytesOf_23 : decode cX3_addBytesOf 23 = .ok (.ifCond .lt 35, 3) := by decide +kernel
theorem dX3_addBytesOf_26 : decode cX3_addBytesOf 26 = .ok (.aload_n 0, 1) := by decide +kernel
theorem dX3_addBytesOf_27 : decode cX3_addBytesOf 27 = .ok (.getfield 15, 3) := by decide +kernel
theorem dX3_addBytesOf_30 : decode cX3_addBytesOf 30 = .ok (.aload_n 0, 1) := by decide +kernel
theorem dX3_addBytesOf_31 : decode cX3_addBytesOf 31 = .ok (.getfield 9, 3) := by decide +kernel
theorem dX3_addBytesOf_34 : decode cX3_addBytesOf 34 = .ok (.arraylength, 1) := by decide +kernel
theorem dX3_addBytesOf_35 : decode cX3_addBytesOf 35 = .ok (.if_icmp .ge 23, 3) := by decide +kernel
theorem dX3_addBytesOf_38 : decode cX3_addBytesOf 38 = .ok (.aload_n 0, 1) := by decide +kernel
theorem dX3_addBytesOf_39 : decode cX3_addBytesOf 39 = .ok (.getfield 9, 3) := by decide +kernel
theorem dX3_addBytesOf_42 : decode cX3_addBytesOf 42 = .ok (.aload_n 0, 1) := by decide +kernel
theorem dX3_addBytesOf_43 : decode cX3_addBytesOf 43 = .ok (.getfield 15, 3) := by decide +kernel
theorem dX3_addBytesOf_46 : decode cX3_addBytesOf 46 = .ok (.iload_n 3, 1) := by decide +kernel
theorem dX3_addBytesOf_47 : decode cX3_addBytesOf 47 = .ok (.iastore, 1) := by decide +kernel
theorem dX3_addBytesOf_48 : decode cX3_addBytesOf 48 = .ok (.aload_n 0, 1) := by decide +kernel
theorem dX3_addBytesOf_49 : decode cX3_addBytesOf 49 = .ok (.dup, 1) := by decide +kernel
theorem dX3_addBytesOf_50 : decode cX3_addBytesOf 50 = .ok (.getfield 15, 3) := by decide +kernel
theorem dX3_addBytesOf_53 : decode cX3_addBytesOf 53 = .ok (.iconst 1, 1) := by decide +kernel
theorem dX3_addBytesOf_54 : decode cX3_addBytesOf 54 = .ok (.iadd, 1) := by decide +kernel
theorem dX3_addBytesOf_55 : decode cX3_addBytesOf 55 = .ok (.putfield 15, 3) := by decide +kernel
theorem dX3_addBytesOf_58 : decode cX3_addBytesOf 58 = .ok (.iinc 2 (-8), 3) := by decide +kernel
theorem dX3_addBytesOf_61 : decode cX3_addBytesOf 61 = .ok (.goto (-58), 3) := by decide +kernel
theorem dX3_addBytesOf_64 : decode cX3_addBytesOf 64 = .ok (.return_, 1) := by decide +kernel
theorem dX3_byteAt_0 : decode cX3_byteAt 0 = .ok (.iload_n 1, 1) := by decide +kernel
theorem dX3_byteAt_1 : decode cX3_byteAt 1 = .ok (.ifCond .lt 24, 3) := by decide +kernel
theorem dX3_byteAt_4 : decode cX3_byteAt 4 = .ok (.iload_n 1, 1) := by decide +kernel
theorem dX3_byteAt_5 : decode cX3_byteAt 5 = .ok (.aload_n 0, 1) := by decide +kernel
theorem dX3_byteAt_6 : decode cX3_byteAt 6 = .ok (.getfield 15, 3) := by decide +kernel
theorem dX3_byteAt_9 : decode cX3_byteAt 9 = .ok (.if_icmp .ge 16, 3) := by decide +kernel
theorem dX3_byteAt_12 : decode cX3_byteAt 12 = .ok (.iload_n 1, 1) := by decide +kernel
theorem dX3_byteAt_13 : decode cX3_byteAt 13 = .ok (.aload_n 0, 1) := by decide +kernel
theorem dX3_byteAt_14 : decode cX3_byteAt 14 = .ok (.getfield 9, 3) := by decide +kernel
theorem dX3_byteAt_17 : decode cX3_byteAt 17 = .ok (.arraylength, 1) := by decide +kernel
theorem dX3_byteAt_18 : decode cX3_byteAt 18 = .ok (.if_icmp .ge 7, 3) := by decide +kernel
theorem dX3_byteAt_21 : decode cX3_byteAt 21 = .ok (.iconst 1, 1) := by decide +kernel
theorem dX3_byteAt_22 : decode cX3_byteAt 22 = .ok (.goto 4, 3) := by decide +kernel
theorem dX3_byteAt_25 : decode cX3_byteAt 25 = .ok (.iconst 0, 1) := by decide +kernel
theorem dX3_byteAt_26 : decode cX3_byteAt 26 = .ok (.istore_n 2, 1) := by decide +kernel
theorem dX3_byteAt_27 : decode cX3_byteAt 27 = .ok (.iload_n 2, 1) := by decide +kernel
theorem dX3_byteAt_28 : decode cX3_byteAt 28 = .ok (.ifCond .eq 12, 3) := by decide +kernel
theorem dX3_byteAt_31 : decode cX3_byteAt 31 = .ok (.aload_n 0, 1) := by decide +kernel
theorem dX3_byteAt_32 : decode cX3_byteAt 32 = .ok (.getfield 9, 3) := by decide +kernel
theorem dX3_byteAt_35 : decode cX3_byteAt 35 = .ok (.iload_n 1, 1) := by decide +kernel
theorem dX3_byteAt_36 : decode cX3_byteAt 36 = .ok (.iaload, 1) := by decide +kernel
theorem dX3_byteAt_37 : decode cX3_byteAt 37 = .ok (.goto 4, 3) := by decide +kernel
theorem dX3_byteAt_40 : decode cX3_byteAt 40 = .ok (.iconst 0, 1) := by decide +kernel
theorem dX3_byteAt_41 : decode cX3_byteAt 41 = .ok (.ireturn, 1) := by decide +kernel
theorem dX3_isLetter_0 : decode cX3_isLetter 0 = .ok (.iload_n 0, 1) := by decide +kernel
theorem dX3_isLetter_1 : decode cX3_isLetter 1 = .ok (.bipush 97, 2) := by decide +kernel
theorem dX3_isLetter_3 : decode cX3_isLetter 3 = .ok (.if_icmp .lt 13, 3) := by decide +kernel
theorem dX3_isLetter_6 : decode cX3_isLetter 6 = .ok (.iload_n 0, 1) := by decide +kernel
theorem dX3_isLetter_7 : decode cX3_isLetter 7 = .ok (.bipush 122, 2) := by decide +kernel
theorem dX3_isLetter_9 : decode cX3_isLetter 9 = .ok (.if_icmp .gt 7, 3) := by decide +kernel
theorem dX3_isLetter_12 : decode cX3_isLetter 12 = .ok (.iconst 1, 1) := by decide +kernel
theorem dX3_isLetter_13 : decode cX3_isLetter 13 = .ok (.goto 4, 3) := by decide +kernel
theorem dX3_isLetter_16 : decode cX3_isLetter 16 = .ok (.iconst 0, 1) := by decide +kernel
theorem dX3_isLetter_17 : decode cX3_isLetter 17 = .ok (.ireturn, 1) := by decide +kernel
theorem dX3_isDigit_0 : decode cX3_isDigit 0 = .ok (.iload_n 0, 1) := by decide +kernel
theorem dX3_isDigit_1 : decode cX3_isDigit 1 = .ok (.bipush 48, 2) := by decide +kernel
theorem dX3_isDigit_3 : decode cX3_isDigit 3 = .ok (.if_icmp .lt 13, 3) := by decide +kernel
theorem dX3_isDigit_6 : decode cX3_isDigit 6 = .ok (.iload_n 0, 1) := by decide +kernel
theorem dX3_isDigit_7 : decode cX3_isDigit 7 = .ok (.bipush 57, 2) := by decide +kernel
theorem dX3_isDigit_9 : decode cX3_isDigit 9 = .ok (.if_icmp .gt 7, 3) := by decide +kernel
theorem dX3_isDigit_12 : decode cX3_isDigit 12 = .ok (.iconst 1, 1) := by decide +kernel
theorem dX3_isDigit_13 : decode cX3_isDigit 13 = .ok (.goto 4, 3) := by decide +kernel
theorem dX3_isDigit_16 : decode cX3_isDigit 16 = .ok (.iconst 0, 1) := by decide +kernel
theorem dX3_isDigit_17 : decode cX3_isDigit 17 = .ok (.ireturn, 1) := by decide +kernel
theorem dX3_readToken_0 : decode cX3_readToken 0 = .ok (.aload_n 0, 1) := by decide +kernel
theorem dX3_readToken_1 : decode cX3_readToken 1 = .ok (.getfield 29, 3) := by decide +kernel
theorem dX3_readToken_4 : decode cX3_readToken 4 = .ok (.istore_n 1, 1) := by decide +kernel
theorem dX3_readToken_5 : decode cX3_readToken 5 = .ok (.iload_n 1, 1) := by decide +kernel
theorem dX3_readToken_6 : decode cX3_readToken 6 = .ok (.aload_n 0, 1) := by decide +kernel
theorem dX3_readToken_7 : decode cX3_readToken 7 = .ok (.getfield 15, 3) := by decide +kernel
theorem dX3_readToken_10 : decode cX3_readToken 10 = .ok (.if_icmp .ge 19, 3) := by decide +kernel
theorem dX3_readToken_13 : decode cX3_readToken 13 = .ok (.aload_n 0, 1) := by decide +kernel
theorem dX3_readToken_14 : decode cX3_readToken 14 = .ok (.iload_n 1, 1) := by decide +kernel
theorem dX3_readToken_15 : decode cX3_readToken 15 = .ok (.invokevirtual 36, 3) := by decide +kernel
theorem dX3_readToken_18 : decode cX3_readToken 18 = .ok (.bipush 32, 2) := by decide +kernel
theorem dX3_readToken_20 : decode cX3_readToken 20 = .ok (.if_icmp .ne 9, 3) := by decide +kernel
theorem dX3_readToken_23 : decode cX3_readToken 23 = .ok (.iinc 1 1, 3) := by decide +kernel
theorem dX3_readToken_26 : decode cX3_readToken 26 = .ok (.goto (-21), 3) := by decide +kernel
theorem dX3_readToken_29 : decode cX3_readToken 29 = .ok (.aload_n 0, 1) := by decide +kernel
theorem dX3_readToken_30 : decode cX3_readToken 30 = .ok (.iload_n 1, 1) := by decide +kernel
theorem dX3_readToken_31 : decode cX3_readToken 31 = .ok (.putfield 26, 3) := by decide +kernel
theorem dX3_readToken_34 : decode cX3_readToken 34 = .ok (.aload_n 0, 1) := by decide +kernel
theorem dX3_readToken_35 : decode cX3_readToken 35 = .ok (.iload_n 1, 1) := by decide +kernel
theorem dX3_readToken_36 : decode cX3_readToken 36 = .ok (.invokevirtual 36, 3) := by decide +kernel
theorem dX3_readToken_39 : decode cX3_readToken 39 = .ok (.invokestatic 40, 3) := by decide +kernel
theorem dX3_readToken_42 : decode cX3_readToken 42 = .ok (.ifCond .eq 28, 3) := by decide +kernel
theorem dX3_readToken_45 : decode cX3_readToken 45 = .ok (.iload_n 1, 1) := by decide +kernel
theorem dX3_readToken_46 : decode cX3_readToken 46 = .ok (.aload_n 0, 1) := by decide +kernel
theorem dX3_readToken_47 : decode cX3_readToken 47 = .ok (.getfield 15, 3) := by decide +kernel
theorem dX3_readToken_50 : decode cX3_readToken 50 = .ok (.if_icmp .ge 67, 3) := by decide +kernel
theorem dX3_readToken_53 : decode cX3_readToken 53 = .ok (.aload_n 0, 1) := by decide +kernel
theorem dX3_readToken_54 : decode cX3_readToken 54 = .ok (.iload_n 1, 1) := by decide +kernel
theorem dX3_readToken_55 : decode cX3_readToken 55 = .ok (.invokevirtual 36, 3) := by decide +kernel
theorem dX3_readToken_58 : decode cX3_readToken 58 = .ok (.invokestatic 40, 3) := by decide +kernel
theorem dX3_readToken_61 : decode cX3_readToken 61 = .ok (.ifCond .eq 56, 3) := by decide +kernel
theorem dX3_readToken_64 : decode cX3_readToken 64 = .ok (.iinc 1 1, 3) := by decide +kernel
theorem dX3_readToken_67 : decode cX3_readToken 67 = .ok (.goto (-22), 3) := by decide +kernel
theorem dX3_readToken_70 : decode cX3_readToken 70 = .ok (.aload_n 0, 1) := by decide +kernel
theorem dX3_readToken_71 : decode cX3_readToken 71 = .ok (.iload_n 1, 1) := by decide +kernel
theorem dX3_readToken_72 : decode cX3_readToken 72 = .ok (.invokevirtual 36, 3) := by decide +kernel
theorem dX3_readToken_75 : decode cX3_readToken 75 = .ok (.invokestatic 44, 3) := by decide +kernel
theorem dX3_readToken_78 : decode cX3_readToken 78 = .ok (.ifCond .eq 28, 3) := by decide +kernel
theorem dX3_readToken_81 : decode cX3_readToken 81 = .ok (.iload_n 1, 1) := by decide +kernel
theorem dX3_readToken_82 : decode cX3_readToken 82 = .ok (.aload_n 0, 1) := by decide +kernel
theorem dX3_readToken_83 : decode cX3_readToken 83 = .ok (.getfield 15, 3) := by decide +kernel
theorem dX3_readToken_86 : decode cX3_readToken 86 = .ok (.if_icmp .ge 31, 3) := by decide +kernel
theorem dX3_readToken_89 : decode cX3_readToken 89 = .ok (.aload_n 0, 1) := by decide +kernel
theorem dX3_readToken_90 : decode cX3_readToken 90 = .ok (.iload_n 1, 1) := by decide +kernel
theorem dX3_readToken_91 : decode cX3_readToken 91 = .ok (.invokevirtual 36, 3) := by decide +kernel
theorem dX3_readToken_94 : decode cX3_readToken 94 = .ok (.invokestatic 44, 3) := by decide +kernel
theorem dX3_readToken_97 : decode cX3_readToken 97 = .ok (.ifCond .eq 20, 3) := by decide +kernel
theorem dX3_readToken_100 : decode cX3_readToken 100 = .ok (.iinc 1 1, 3) := by decide +kernel
theorem dX3_readToken_103 : decode cX3_readToken 103 = .ok (.goto (-22), 3) := by decide +kernel
theorem dX3_readToken_106 : decode cX3_readToken 106 = .ok (.iload_n 1, 1) := by decide +kernel
theorem dX3_readToken_107 : decode cX3_readToken 107 = .ok (.aload_n 0, 1) := by decide +kernel
theorem dX3_readToken_108 : decode cX3_readToken 108 = .ok (.getfield 15, 3) := by decide +kernel
theorem dX3_readToken_111 : decode cX3_readToken 111 = .ok (.if_icmp .ge 6, 3) := by decide +kernel
theorem dX3_readToken_114 : decode cX3_readToken 114 = .ok (.iinc 1 1, 3) := by decide +kernel
theorem dX3_readToken_117 : decode cX3_readToken 117 = .ok (.aload_n 0, 1) := by decide +kernel
theorem dX3_readToken_118 : decode cX3_readToken 118 = .ok (.iload_n 1, 1) := by decide +kernel
theorem dX3_readToken_119 : decode cX3_readToken 119 = .ok (.putfield 29, 3) := by decide +kernel
theorem dX3_readToken_122 : decode cX3_readToken 122 = .ok (.return_, 1) := by decide +kernel
theorem dX3_tokenIs_0 : decode cX3_tokenIs 0 = .ok (.aload_n 0, 1) := by decide +kernel
theorem dX3_tokenIs_1 : decode cX3_tokenIs 1 = .ok (.getfield 29, 3) := by decide +kernel
theorem dX3_tokenIs_4 : decode cX3_tokenIs 4 = .ok (.aload_n 0, 1) := by decide +kernel
theorem dX3_tokenIs_5 : decode cX3_tokenIs 5 = .ok (.getfield 26, 3) := by decide +kernel
theorem dX3_tokenIs_8 : decode cX3_tokenIs 8 = .ok (.isub, 1) := by decide +kernel
theorem dX3_tokenIs_9 : decode cX3_tokenIs 9 = .ok (.aload_n 1, 1) := by decide +kernel
theorem dX3_tokenIs_10 : decode cX3_tokenIs 10 = .ok (.invokevirtual 47, 3) := by decide +kernel
theorem dX3_tokenIs_13 : decode cX3_tokenIs 13 = .ok (.if_icmp .eq 5, 3) := by decide +kernel
theorem dX3_tokenIs_16 : decode cX3_tokenIs 16 = .ok (.iconst 0, 1) := by decide +kernel
theorem dX3_tokenIs_17 : decode cX3_tokenIs 17 = .ok (.ireturn, 1) := by decide +kernel
theorem dX3_tokenIs_18 : decode cX3_tokenIs 18 = .ok (.iconst 0, 1) := by decide +kernel
theorem dX3_tokenIs_19 : decode cX3_tokenIs 19 = .ok (.istore_n 2, 1) := by decide +kernel
theorem dX3_tokenIs_20 : decode cX3_tokenIs 20 = .ok (.iload_n 2, 1) := by decide +kernel
theorem dX3_tokenIs_21 : decode cX3_tokenIs 21 = .ok (.aload_n 1, 1) := by decide +kernel
theorem dX3_tokenIs_22 : decode cX3_tokenIs 22 = .ok (.invokevirtual 47, 3) := by decide +kernel
theorem dX3_tokenIs_25 : decode cX3_tokenIs 25 = .ok (.if_icmp .ge 29, 3) := by decide +kernel
theorem dX3_tokenIs_28 : decode cX3_tokenIs 28 = .ok (.aload_n 0, 1) := by decide +kernel
theorem dX3_tokenIs_29 : decode cX3_tokenIs 29 = .ok (.aload_n 0, 1) := by decide +kernel
theorem dX3_tokenIs_30 : decode cX3_tokenIs 30 = .ok (.getfield 26, 3) := by decide +kernel
theorem dX3_tokenIs_33 : decode cX3_tokenIs 33 = .ok (.iload_n 2, 1) := by decide +kernel
theorem dX3_tokenIs_34 : decode cX3_tokenIs 34 = .ok (.iadd, 1) := by decide +kernel
theorem dX3_tokenIs_35 : decode cX3_tokenIs 35 = .ok (.invokevirtual 36, 3) := by decide +kernel
theorem dX3_tokenIs_38 : decode cX3_tokenIs 38 = .ok (.aload_n 1, 1) := by decide +kernel
theorem dX3_tokenIs_39 : decode cX3_tokenIs 39 = .ok (.iload_n 2, 1) := by decide +kernel
theorem dX3_tokenIs_40 : decode cX3_tokenIs 40 = .ok (.invokevirtual 52, 3) := by decide +kernel
theorem dX3_tokenIs_43 : decode cX3_tokenIs 43 = .ok (.if_icmp .eq 5, 3) := by decide +kernel
theorem dX3_tokenIs_46 : decode cX3_tokenIs 46 = .ok (.iconst 0, 1) := by decide +kernel
theorem dX3_tokenIs_47 : decode cX3_tokenIs 47 = .ok (.ireturn, 1) := by decide +kernel
theorem dX3_tokenIs_48 : decode cX3_tokenIs 48 = .ok (.iinc 2 1, 3) := by decide +kernel
theorem dX3_tokenIs_51 : decode cX3_tokenIs 51 = .ok (.goto (-31), 3) := by decide +kernel
theorem dX3_tokenIs_54 : decode cX3_tokenIs 54 = .ok (.iconst 1, 1) := by decide +kernel
theorem dX3_tokenIs_55 : decode cX3_tokenIs 55 = .ok (.ireturn, 1) := by decide +kernel
theorem dX3_wordOf_0 : decode cX3_wordOf 0 = .ok (.iload_n 0, 1) := by decide +kernel
theorem dX3_wordOf_1 : decode cX3_wordOf 1 = .ok (.tableswitch 43 0 3 #[31, 34, 37, 40], 31) := by decide +kernel
theorem dX3_wordOf_32 : decode cX3_wordOf 32 = .ok (.ldc 56, 2) := by decide +kernel
theorem dX3_wordOf_34 : decode cX3_wordOf 34 = .ok (.areturn, 1) := by decide +kernel
theorem dX3_wordOf_35 : decode cX3_wordOf 35 = .ok (.ldc 58, 2) := by decide +kernel
theorem dX3_wordOf_37 : decode cX3_wordOf 37 = .ok (.areturn, 1) := by decide +kernel
theorem dX3_wordOf_38 : decode cX3_wordOf 38 = .ok (.ldc 60, 2) := by decide +kernel
theorem dX3_wordOf_40 : decode cX3_wordOf 40 = .ok (.areturn, 1) := by decide +kernel
theorem dX3_wordOf_41 : decode cX3_wordOf 41 = .ok (.ldc 62, 2) := by decide +kernel
theorem dX3_wordOf_43 : decode cX3_wordOf 43 = .ok (.areturn, 1) := by decide +kernel
theorem dX3_wordOf_44 : decode cX3_wordOf 44 = .ok (.ldc 64, 2) := by decide +kernel
theorem dX3_wordOf_46 : decode cX3_wordOf 46 = .ok (.areturn, 1) := by decide +kernel
theorem dX3_kindOfToken_0 : decode cX3_kindOfToken 0 = .ok (.iconst 0, 1) := by decide +kernel
theorem dX3_kindOfToken_1 : decode cX3_kindOfToken 1 = .ok (.istore_n 1, 1) := by decide +kernel
theorem dX3_kindOfToken_2 : decode cX3_kindOfToken 2 = .ok (.iload_n 1, 1) := by decide +kernel
theorem dX3_kindOfToken_3 : decode cX3_kindOfToken 3 = .ok (.iconst 5, 1) := by decide +kernel
theorem dX3_kindOfToken_4 : decode cX3_kindOfToken 4 = .ok (.if_icmp .ge 22, 3) := by decide +kernel
theorem dX3_kindOfToken_7 : decode cX3_kindOfToken 7 = .ok (.aload_n 0, 1) := by decide +kernel
theorem dX3_kindOfToken_8 : decode cX3_kindOfToken 8 = .ok (.iload_n 1, 1) := by decide +kernel
theorem dX3_kindOfToken_9 : decode cX3_kindOfToken 9 = .ok (.invokestatic 66, 3) := by decide +kernel
theorem dX3_kindOfToken_12 : decode cX3_kindOfToken 12 = .ok (.invokevirtual 70, 3) := by decide +kernel
theorem dX3_kindOfToken_15 : decode cX3_kindOfToken 15 = .ok (.ifCond .eq 5, 3) := by decide +kernel
theorem dX3_kindOfToken_18 : decode cX3_kindOfToken 18 = .ok (.iload_n 1, 1) := by decide +kernel
theorem dX3_kindOfToken_19 : decode cX3_kindOfToken 19 = .ok (.ireturn, 1) := by decide +kernel
theorem dX3_kindOfToken_20 : decode cX3_kindOfToken 20 = .ok (.iinc 1 1, 3) := by decide +kernel
theorem dX3_kindOfToken_23 : decode cX3_kindOfToken 23 = .ok (.goto (-21), 3) := by decide +kernel
theorem dX3_kindOfToken_26 : decode cX3_kindOfToken 26 = .ok (.iconst (-1), 1) := by decide +kernel
theorem dX3_kindOfToken_27 : decode cX3_kindOfToken 27 = .ok (.ireturn, 1) := by decide +kernel
theorem dX3_numberOfToken_0 : decode cX3_numberOfToken 0 = .ok (.aload_n 0, 1) := by decide +kernel
theorem dX3_numberOfToken_1 : decode cX3_numberOfToken 1 = .ok (.aload_n 0, 1) := by decide +kernel
theorem dX3_numberOfToken_2 : decode cX3_numberOfToken 2 = .ok (.getfield 26, 3) := by decide +kernel
theorem dX3_numberOfToken_5 : decode cX3_numberOfToken 5 = .ok (.invokevirtual 36, 3) := by decide +kernel
theorem dX3_numberOfToken_8 : decode cX3_numberOfToken 8 = .ok (.invokestatic 44, 3) := by decide +kernel
theorem dX3_numberOfToken_11 : decode cX3_numberOfToken 11 = .ok (.ifCond .eq 16, 3) := by decide +kernel
theorem dX3_numberOfToken_14 : decode cX3_numberOfToken 14 = .ok (.aload_n 0, 1) := by decide +kernel
theorem dX3_numberOfToken_15 : decode cX3_numberOfToken 15 = .ok (.getfield 29, 3) := by decide +kernel
theorem dX3_numberOfToken_18 : decode cX3_numberOfToken 18 = .ok (.aload_n 0, 1) := by decide +kernel
theorem dX3_numberOfToken_19 : decode cX3_numberOfToken 19 = .ok (.getfield 26, 3) := by decide +kernel
theorem dX3_numberOfToken_22 : decode cX3_numberOfToken 22 = .ok (.isub, 1) := by decide +kernel
theorem dX3_numberOfToken_23 : decode cX3_numberOfToken 23 = .ok (.iconst 3, 1) := by decide +kernel
theorem dX3_numberOfToken_24 : decode cX3_numberOfToken 24 = .ok (.if_icmp .le 5, 3) := by decide +kernel
theorem dX3_numberOfToken_27 : decode cX3_numberOfToken 27 = .ok (.iconst (-1), 1) := by decide +kernel
theorem dX3_numberOfToken_28 : decode cX3_numberOfToken 28 = .ok (.ireturn, 1) := by decide +kernel
theorem dX3_numberOfToken_29 : decode cX3_numberOfToken 29 = .ok (.iconst 0, 1) := by decide +kernel
theorem dX3_numberOfToken_30 : decode cX3_numberOfToken 30 = .ok (.istore_n 1, 1) := by decide +kernel
theorem dX3_numberOfToken_31 : decode cX3_numberOfToken 31 = .ok (.aload_n 0, 1) := by decide +kernel
theorem dX3_numberOfToken_32 : decode cX3_numberOfToken 32 = .ok (.getfield 26, 3) := by decide +kernel
theorem dX3_numberOfToken_35 : decode cX3_numberOfToken 35 = .ok (.istore_n 2, 1) := by decide +kernel
theorem dX3_numberOfToken_36 : decode cX3_numberOfToken 36 = .ok (.iload_n 2, 1) := by decide +kernel
theorem dX3_numberOfToken_37 : decode cX3_numberOfToken 37 = .ok (.aload_n 0, 1) := by decide +kernel
theorem dX3_numberOfToken_38 : decode cX3_numberOfToken 38 = .ok (.getfield 29, 3) := by decide +kernel
theorem dX3_numberOfToken_41 : decode cX3_numberOfToken 41 = .ok (.if_icmp .ge 23, 3) := by decide +kernel
theorem dX3_numberOfToken_44 : decode cX3_numberOfToken 44 = .ok (.iload_n 1, 1) := by decide +kernel
theorem dX3_numberOfToken_45 : decode cX3_numberOfToken 45 = .ok (.bipush 10, 2) := by decide +kernel
theorem dX3_numberOfToken_47 : decode cX3_numberOfToken 47 = .ok (.imul, 1) := by decide +kernel
theorem dX3_numberOfToken_48 : decode cX3_numberOfToken 48 = .ok (.aload_n 0, 1) := by decide +kernel
theorem dX3_numberOfToken_49 : decode cX3_numberOfToken 49 = .ok (.iload_n 2, 1) := by decide +kernel
theorem dX3_numberOfToken_50 : decode cX3_numberOfToken 50 = .ok (.invokevirtual 36, 3) := by decide +kernel
theorem dX3_numberOfToken_53 : decode cX3_numberOfToken 53 = .ok (.iadd, 1) := by decide +kernel
theorem dX3_numberOfToken_54 : decode cX3_numberOfToken 54 = .ok (.bipush 48, 2) := by decide +kernel
theorem dX3_numberOfToken_56 : decode cX3_numberOfToken 56 = .ok (.isub, 1) := by decide +kernel
theorem dX3_numberOfToken_57 : decode cX3_numberOfToken 57 = .ok (.istore_n 1, 1) := by decide +kernel
theorem dX3_numberOfToken_58 : decode cX3_numberOfToken 58 = .ok (.iinc 2 1, 3) := by decide +kernel
theorem dX3_numberOfToken_61 : decode cX3_numberOfToken 61 = .ok (.goto (-25), 3) := by decide +kernel
theorem dX3_numberOfToken_64 : decode cX3_numberOfToken 64 = .ok (.iload_n 1, 1) := by decide +kernel
theorem dX3_numberOfToken_65 : decode cX3_numberOfToken 65 = .ok (.ireturn, 1) := by decide +kernel
theorem dX3_hasRoomFor_0 : decode cX3_hasRoomFor 0 = .ok (.iload_n 1, 1) := by decide +kernel
theorem dX3_hasRoomFor_1 : decode cX3_hasRoomFor 1 = .ok (.tableswitch 101 0 3 #[31, 44, 63, 82], 31) := by decide +kernel
theorem dX3_hasRoomFor_32 : decode cX3_hasRoomFor 32 = .ok (.aload_n 0, 1) := by decide +kernel
theorem dX3_hasRoomFor_33 : decode cX3_hasRoomFor 33 = .ok (.getfield 22, 3) := by decide +kernel
theorem dX3_hasRoomFor_36 : decode cX3_hasRoomFor 36 = .ok (.ifCond .ne 7, 3) := by decide +kernel
theorem dX3_hasRoomFor_39 : decode cX3_hasRoomFor 39 = .ok (.iconst 1, 1) := by decide +kernel
theorem dX3_hasRoomFor_40 : decode cX3_hasRoomFor 40 = .ok (.goto 4, 3) := by decide +kernel
theorem dX3_hasRoomFor_43 : decode cX3_hasRoomFor 43 = .ok (.iconst 0, 1) := by decide +kernel
theorem dX3_hasRoomFor_44 : decode cX3_hasRoomFor 44 = .ok (.ireturn, 1) := by decide +kernel
theorem dX3_hasRoomFor_45 : decode cX3_hasRoomFor 45 = .ok (.aload_n 0, 1) := by decide +kernel
theorem dX3_hasRoomFor_46 : decode cX3_hasRoomFor 46 = .ok (.getfield 32, 3) := by decide +kernel
theorem dX3_hasRoomFor_49 : decode cX3_hasRoomFor 49 = .ok (.getfield 74, 3) := by decide +kernel
theorem dX3_hasRoomFor_52 : decode cX3_hasRoomFor 52 = .ok (.invokevirtual 80, 3) := by decide +kernel
theorem dX3_hasRoomFor_55 : decode cX3_hasRoomFor 55 = .ok (.ifCond .ne 7, 3) := by decide +kernel
theorem dX3_hasRoomFor_58 : decode cX3_hasRoomFor 58 = .ok (.iconst 1, 1) := by decide +kernel
theorem dX3_hasRoomFor_59 : decode cX3_hasRoomFor 59 = .ok (.goto 4, 3) := by decide +kernel
theorem dX3_hasRoomFor_62 : decode cX3_hasRoomFor 62 = .ok (.iconst 0, 1) := by decide +kernel
theorem dX3_hasRoomFor_63 : decode cX3_hasRoomFor 63 = .ok (.ireturn, 1) := by decide +kernel
theorem dX3_hasRoomFor_64 : decode cX3_hasRoomFor 64 = .ok (.aload_n 0, 1) := by decide +kernel
theorem dX3_hasRoomFor_65 : decode cX3_hasRoomFor 65 = .ok (.getfield 32, 3) := by decide +kernel
theorem dX3_hasRoomFor_68 : decode cX3_hasRoomFor 68 = .ok (.getfield 86, 3) := by decide +kernel
theorem dX3_hasRoomFor_71 : decode cX3_hasRoomFor 71 = .ok (.invokevirtual 80, 3) := by decide +kernel
theorem dX3_hasRoomFor_74 : decode cX3_hasRoomFor 74 = .ok (.ifCond .ne 7, 3) := by decide +kernel
theorem dX3_hasRoomFor_77 : decode cX3_hasRoomFor 77 = .ok (.iconst 1, 1) := by decide +kernel
theorem dX3_hasRoomFor_78 : decode cX3_hasRoomFor 78 = .ok (.goto 4, 3) := by decide +kernel
theorem dX3_hasRoomFor_81 : decode cX3_hasRoomFor 81 = .ok (.iconst 0, 1) := by decide +kernel
theorem dX3_hasRoomFor_82 : decode cX3_hasRoomFor 82 = .ok (.ireturn, 1) := by decide +kernel
theorem dX3_hasRoomFor_83 : decode cX3_hasRoomFor 83 = .ok (.aload_n 0, 1) := by decide +kernel
theorem dX3_hasRoomFor_84 : decode cX3_hasRoomFor 84 = .ok (.getfield 32, 3) := by decide +kernel
theorem dX3_hasRoomFor_87 : decode cX3_hasRoomFor 87 = .ok (.getfield 89, 3) := by decide +kernel
theorem dX3_hasRoomFor_90 : decode cX3_hasRoomFor 90 = .ok (.invokevirtual 80, 3) := by decide +kernel
theorem dX3_hasRoomFor_93 : decode cX3_hasRoomFor 93 = .ok (.ifCond .ne 7, 3) := by decide +kernel
theorem dX3_hasRoomFor_96 : decode cX3_hasRoomFor 96 = .ok (.iconst 1, 1) := by decide +kernel
theorem dX3_hasRoomFor_97 : decode cX3_hasRoomFor 97 = .ok (.goto 4, 3) := by decide +kernel
theorem dX3_hasRoomFor_100 : decode cX3_hasRoomFor 100 = .ok (.iconst 0, 1) := by decide +kernel
theorem dX3_hasRoomFor_101 : decode cX3_hasRoomFor 101 = .ok (.ireturn, 1) := by decide +kernel
theorem dX3_hasRoomFor_102 : decode cX3_hasRoomFor 102 = .ok (.aload_n 0, 1) := by decide +kernel
theorem dX3_hasRoomFor_103 : decode cX3_hasRoomFor 103 = .ok (.getfield 32, 3) := by decide +kernel
theorem dX3_hasRoomFor_106 : decode cX3_hasRoomFor 106 = .ok (.getfield 92, 3) := by decide +kernel
theorem dX3_hasRoomFor_109 : decode cX3_hasRoomFor 109 = .ok (.invokevirtual 80, 3) := by decide +kernel
theorem dX3_hasRoomFor_112 : decode cX3_hasRoomFor 112 = .ok (.ifCond .ne 7, 3) := by decide +kernel
theorem dX3_hasRoomFor_115 : decode cX3_hasRoomFor 115 = .ok (.iconst 1, 1) := by decide +kernel
theorem dX3_hasRoomFor_116 : decode cX3_hasRoomFor 116 = .ok (.goto 4, 3) := by decide +kernel
theorem dX3_hasRoomFor_119 : decode cX3_hasRoomFor 119 = .ok (.iconst 0, 1) := by decide +kernel
theorem dX3_hasRoomFor_120 : decode cX3_hasRoomFor 120 = .ok (.ireturn, 1) := by decide +kernel
theorem dX3_numbersOf_0 : decode cX3_numbersOf 0 = .ok (.iload_n 0, 1) := by decide +kernel
theorem dX3_numbersOf_1 : decode cX3_numbersOf 1 = .ok (.ifCond .lt 23, 3) := by decide +kernel
theorem dX3_numbersOf_4 : decode cX3_numbersOf 4 = .ok (.iload_n 0, 1) := by decide +kernel
theorem dX3_numbersOf_5 : decode cX3_numbersOf 5 = .ok (.getstatic 95, 3) := by decide +kernel
theorem dX3_numbersOf_8 : decode cX3_numbersOf 8 = .ok (.arraylength, 1) := by decide +kernel
theorem dX3_numbersOf_9 : decode cX3_numbersOf 9 = .ok (.if_icmp .ge 15, 3) := by decide +kernel
theorem dX3_numbersOf_12 : decode cX3_numbersOf 12 = .ok (.getstatic 95, 3) := by decide +kernel
theorem dX3_numbersOf_15 : decode cX3_numbersOf 15 = .ok (.iload_n 0, 1) := by decide +kernel
theorem dX3_numbersOf_16 : decode cX3_numbersOf 16 = .ok (.iaload, 1) := by decide +kernel
theorem dX3_numbersOf_17 : decode cX3_numbersOf 17 = .ok (.iconst 3, 1) := by decide +kernel
theorem dX3_numbersOf_18 : decode cX3_numbersOf 18 = .ok (.invokestatic 98, 3) := by decide +kernel
theorem dX3_numbersOf_21 : decode cX3_numbersOf 21 = .ok (.goto 4, 3) := by decide +kernel
theorem dX3_numbersOf_24 : decode cX3_numbersOf 24 = .ok (.iconst 0, 1) := by decide +kernel
theorem dX3_numbersOf_25 : decode cX3_numbersOf 25 = .ok (.ireturn, 1) := by decide +kernel
theorem dX3_isInRange_0 : decode cX3_isInRange 0 = .ok (.iload_n 0, 1) := by decide +kernel
theorem dX3_isInRange_1 : decode cX3_isInRange 1 = .ok (.iconst 3, 1) := by decide +kernel
theorem dX3_isInRange_2 : decode cX3_isInRange 2 = .ok (.imul, 1) := by decide +kernel
theorem dX3_isInRange_3 : decode cX3_isInRange 3 = .ok (.iload_n 1, 1) := by decide +kernel
theorem dX3_isInRange_4 : decode cX3_isInRange 4 = .ok (.iadd, 1) := by decide +kernel
theorem dX3_isInRange_5 : decode cX3_isInRange 5 = .ok (.istore_n 3, 1) := by decide +kernel
theorem dX3_isInRange_6 : decode cX3_isInRange 6 = .ok (.iload_n 3, 1) := by decide +kernel
theorem dX3_isInRange_7 : decode cX3_isInRange 7 = .ok (.ifCond .lt 41, 3) := by decide +kernel
theorem dX3_isInRange_10 : decode cX3_isInRange 10 = .ok (.iload_n 3, 1) := by decide +kernel
theorem dX3_isInRange_11 : decode cX3_isInRange 11 = .ok (.getstatic 104, 3) := by decide +kernel
theorem dX3_isInRange_14 : decode cX3_isInRange 14 = .ok (.arraylength, 1) := by decide +kernel
theorem dX3_isInRange_15 : decode cX3_isInRange 15 = .ok (.if_icmp .ge 33, 3) := by decide +kernel
theorem dX3_isInRange_18 : decode cX3_isInRange 18 = .ok (.iload_n 3, 1) := by decide +kernel
theorem dX3_isInRange_19 : decode cX3_isInRange 19 = .ok (.getstatic 107, 3) := by decide +kernel
theorem dX3_isInRange_22 : decode cX3_isInRange 22 = .ok (.arraylength, 1) := by decide +kernel
theorem dX3_isInRange_23 : decode cX3_isInRange 23 = .ok (.if_icmp .ge 25, 3) := by decide +kernel
theorem dX3_isInRange_26 : decode cX3_isInRange 26 = .ok (.iload_n 2, 1) := by decide +kernel
theorem dX3_isInRange_27 : decode cX3_isInRange 27 = .ok (.getstatic 104, 3) := by decide +kernel
theorem dX3_isInRange_30 : decode cX3_isInRange 30 = .ok (.iload_n 3, 1) := by decide +kernel
theorem dX3_isInRange_31 : decode cX3_isInRange 31 = .ok (.iaload, 1) := by decide +kernel
theorem dX3_isInRange_32 : decode cX3_isInRange 32 = .ok (.if_icmp .lt 16, 3) := by decide +kernel
theorem dX3_isInRange_35 : decode cX3_isInRange 35 = .ok (.iload_n 2, 1) := by decide +kernel
theorem dX3_isInRange_36 : decode cX3_isInRange 36 = .ok (.getstatic 107, 3) := by decide +kernel
theorem dX3_isInRange_39 : decode cX3_isInRange 39 = .ok (.iload_n 3, 1) := by decide +kernel
theorem dX3_isInRange_40 : decode cX3_isInRange 40 = .ok (.iaload, 1) := by decide +kernel
theorem dX3_isInRange_41 : decode cX3_isInRange 41 = .ok (.if_icmp .gt 7, 3) := by decide +kernel
theorem dX3_isInRange_44 : decode cX3_isInRange 44 = .ok (.iconst 1, 1) := by decide +kernel
theorem dX3_isInRange_45 : decode cX3_isInRange 45 = .ok (.goto 4, 3) := by decide +kernel
theorem dX3_isInRange_48 : decode cX3_isInRange 48 = .ok (.iconst 0, 1) := by decide +kernel
theorem dX3_isInRange_49 : decode cX3_isInRange 49 = .ok (.ireturn, 1) := by decide +kernel
theorem dX3_addStatement_0 : decode cX3_addStatement 0 = .ok (.iload_n 1, 1) := by decide +kernel
theorem dX3_addStatement_1 : decode cX3_addStatement 1 = .ok (.tableswitch 136 0 3 #[31, 64, 92, 114], 31) := by decide +kernel
theorem dX3_addStatement_32 : decode cX3_addStatement 32 = .ok (.aload_n 0, 1) := by decide +kernel
theorem dX3_addStatement_33 : decode cX3_addStatement 33 = .ok (.getfield 32, 3) := by decide +kernel
theorem dX3_addStatement_36 : decode cX3_addStatement 36 = .ok (.aload_n 0, 1) := by decide +kernel
theorem dX3_addStatement_37 : decode cX3_addStatement 37 = .ok (.getfield 19, 3) := by decide +kernel
theorem dX3_addStatement_40 : decode cX3_addStatement 40 = .ok (.iconst 0, 1) := by decide +kernel
theorem dX3_addStatement_41 : decode cX3_addStatement 41 = .ok (.iaload, 1) := by decide +kernel
theorem dX3_addStatement_42 : decode cX3_addStatement 42 = .ok (.aload_n 0, 1) := by decide +kernel
theorem dX3_addStatement_43 : decode cX3_addStatement 43 = .ok (.getfield 19, 3) := by decide +kernel
theorem dX3_addStatement_46 : decode cX3_addStatement 46 = .ok (.iconst 1, 1) := by decide +kernel
theorem dX3_addStatement_47 : decode cX3_addStatement 47 = .ok (.iaload, 1) := by decide +kernel
theorem dX3_addStatement_48 : decode cX3_addStatement 48 = .ok (.aload_n 0, 1) := by decide +kernel
theorem dX3_addStatement_49 : decode cX3_addStatement 49 = .ok (.getfield 19, 3) := by decide +kernel
theorem dX3_addStatement_52 : decode cX3_addStatement 52 = .ok (.iconst 2, 1) := by decide +kernel
theorem dX3_addStatement_53 : decode cX3_addStatement 53 = .ok (.iaload, 1) := by decide +kernel
theorem dX3_addStatement_54 : decode cX3_addStatement 54 = .ok (.invokevirtual 110, 3) := by decide +kernel
theorem dX3_addStatement_57 : decode cX3_addStatement 57 = .ok (.aload_n 0, 1) := by decide +kernel
theorem dX3_addStatement_58 : decode cX3_addStatement 58 = .ok (.iconst 1, 1) := by decide +kernel
theorem dX3_addStatement_59 : decode cX3_addStatement 59 = .ok (.putfield 22, 3) := by decide +kernel
theorem dX3_addStatement_62 : decode cX3_addStatement 62 = .ok (.goto 100, 3) := by decide +kernel
theorem dX3_addStatement_65 : decode cX3_addStatement 65 = .ok (.aload_n 0, 1) := by decide +kernel
theorem dX3_addStatement_66 : decode cX3_addStatement 66 = .ok (.getfield 32, 3) := by decide +kernel
theorem dX3_addStatement_69 : decode cX3_addStatement 69 = .ok (.aload_n 0, 1) := by decide +kernel
theorem dX3_addStatement_70 : decode cX3_addStatement 70 = .ok (.getfield 19, 3) := by decide +kernel
theorem dX3_addStatement_73 : decode cX3_addStatement 73 = .ok (.iconst 0, 1) := by decide +kernel
theorem dX3_addStatement_74 : decode cX3_addStatement 74 = .ok (.iaload, 1) := by decide +kernel
theorem dX3_addStatement_75 : decode cX3_addStatement 75 = .ok (.aload_n 0, 1) := by decide +kernel
theorem dX3_addStatement_76 : decode cX3_addStatement 76 = .ok (.getfield 19, 3) := by decide +kernel
theorem dX3_addStatement_79 : decode cX3_addStatement 79 = .ok (.iconst 1, 1) := by decide +kernel
theorem dX3_addStatement_80 : decode cX3_addStatement 80 = .ok (.iaload, 1) := by decide +kernel
theorem dX3_addStatement_81 : decode cX3_addStatement 81 = .ok (.aload_n 0, 1) := by decide +kernel
theorem dX3_addStatement_82 : decode cX3_addStatement 82 = .ok (.getfield 19, 3) := by decide +kernel
theorem dX3_addStatement_85 : decode cX3_addStatement 85 = .ok (.iconst 2, 1) := by decide +kernel
theorem dX3_addStatement_86 : decode cX3_addStatement 86 = .ok (.iaload, 1) := by decide +kernel
theorem dX3_addStatement_87 : decode cX3_addStatement 87 = .ok (.invokevirtual 114, 3) := by decide +kernel
theorem dX3_addStatement_90 : decode cX3_addStatement 90 = .ok (.goto 72, 3) := by decide +kernel
theorem dX3_addStatement_93 : decode cX3_addStatement 93 = .ok (.aload_n 0, 1) := by decide +kernel
theorem dX3_addStatement_94 : decode cX3_addStatement 94 = .ok (.getfield 32, 3) := by decide +kernel
theorem dX3_addStatement_97 : decode cX3_addStatement 97 = .ok (.aload_n 0, 1) := by decide +kernel
theorem dX3_addStatement_98 : decode cX3_addStatement 98 = .ok (.getfield 19, 3) := by decide +kernel
theorem dX3_addStatement_101 : decode cX3_addStatement 101 = .ok (.iconst 0, 1) := by decide +kernel
theorem dX3_addStatement_102 : decode cX3_addStatement 102 = .ok (.iaload, 1) := by decide +kernel
theorem dX3_addStatement_103 : decode cX3_addStatement 103 = .ok (.aload_n 0, 1) := by decide +kernel
theorem dX3_addStatement_104 : decode cX3_addStatement 104 = .ok (.getfield 19, 3) := by decide +kernel
theorem dX3_addStatement_107 : decode cX3_addStatement 107 = .ok (.iconst 1, 1) := by decide +kernel
theorem dX3_addStatement_108 : decode cX3_addStatement 108 = .ok (.iaload, 1) := by decide +kernel
theorem dX3_addStatement_109 : decode cX3_addStatement 109 = .ok (.invokevirtual 117, 3) := by decide +kernel
theorem dX3_addStatement_112 : decode cX3_addStatement 112 = .ok (.goto 50, 3) := by decide +kernel
theorem dX3_addStatement_115 : decode cX3_addStatement 115 = .ok (.aload_n 0, 1) := by decide +kernel
theorem dX3_addStatement_116 : decode cX3_addStatement 116 = .ok (.getfield 32, 3) := by decide +kernel
theorem dX3_addStatement_119 : decode cX3_addStatement 119 = .ok (.aload_n 0, 1) := by decide +kernel
theorem dX3_addStatement_120 : decode cX3_addStatement 120 = .ok (.getfield 19, 3) := by decide +kernel
theorem dX3_addStatement_123 : decode cX3_addStatement 123 = .ok (.iconst 0, 1) := by decide +kernel
theorem dX3_addStatement_124 : decode cX3_addStatement 124 = .ok (.iaload, 1) := by decide +kernel
theorem dX3_addStatement_125 : decode cX3_addStatement 125 = .ok (.aload_n 0, 1) := by decide +kernel
theorem dX3_addStatement_126 : decode cX3_addStatement 126 = .ok (.getfield 19, 3) := by decide +kernel
theorem dX3_addStatement_129 : decode cX3_addStatement 129 = .ok (.iconst 1, 1) := by decide +kernel
theorem dX3_addStatement_130 : decode cX3_addStatement 130 = .ok (.iaload, 1) := by decide +kernel
theorem dX3_addStatement_131 : decode cX3_addStatement 131 = .ok (.invokevirtual 121, 3) := by decide +kernel
theorem dX3_addStatement_134 : decode cX3_addStatement 134 = .ok (.goto 28, 3) := by decide +kernel
theorem dX3_addStatement_137 : decode cX3_addStatement 137 = .ok (.aload_n 0, 1) := by decide +kernel
theorem dX3_addStatement_138 : decode cX3_addStatement 138 = .ok (.getfield 32, 3) := by decide +kernel
theorem dX3_addStatement_141 : decode cX3_addStatement 141 = .ok (.aload_n 0, 1) := by decide +kernel
theorem dX3_addStatement_142 : decode cX3_addStatement 142 = .ok (.getfield 19, 3) := by decide +kernel
theorem dX3_addStatement_145 : decode cX3_addStatement 145 = .ok (.iconst 0, 1) := by decide +kernel
theorem dX3_addStatement_146 : decode cX3_addStatement 146 = .ok (.iaload, 1) := by decide +kernel
theorem dX3_addStatement_147 : decode cX3_addStatement 147 = .ok (.aload_n 0, 1) := by decide +kernel
theorem dX3_addStatement_148 : decode cX3_addStatement 148 = .ok (.getfield 19, 3) := by decide +kernel
theorem dX3_addStatement_151 : decode cX3_addStatement 151 = .ok (.iconst 1, 1) := by decide +kernel
theorem dX3_addStatement_152 : decode cX3_addStatement 152 = .ok (.iaload, 1) := by decide +kernel
theorem dX3_addStatement_153 : decode cX3_addStatement 153 = .ok (.aload_n 0, 1) := by decide +kernel
theorem dX3_addStatement_154 : decode cX3_addStatement 154 = .ok (.getfield 19, 3) := by decide +kernel
theorem dX3_addStatement_157 : decode cX3_addStatement 157 = .ok (.iconst 2, 1) := by decide +kernel
theorem dX3_addStatement_158 : decode cX3_addStatement 158 = .ok (.iaload, 1) := by decide +kernel
theorem dX3_addStatement_159 : decode cX3_addStatement 159 = .ok (.invokevirtual 124, 3) := by decide +kernel
theorem dX3_addStatement_162 : decode cX3_addStatement 162 = .ok (.return_, 1) := by decide +kernel
theorem dX3_readStatement_0 : decode cX3_readStatement 0 = .ok (.aload_n 0, 1) := by decide +kernel
theorem dX3_readStatement_1 : decode cX3_readStatement 1 = .ok (.invokevirtual 127, 3) := by decide +kernel
theorem dX3_readStatement_4 : decode cX3_readStatement 4 = .ok (.aload_n 0, 1) := by decide +kernel
theorem dX3_readStatement_5 : decode cX3_readStatement 5 = .ok (.invokevirtual 130, 3) := by decide +kernel
theorem dX3_readStatement_8 : decode cX3_readStatement 8 = .ok (.istore_n 1, 1) := by decide +kernel
theorem dX3_readStatement_9 : decode cX3_readStatement 9 = .ok (.iload_n 1, 1) := by decide +kernel
theorem dX3_readStatement_10 : decode cX3_readStatement 10 = .ok (.iconst (-1), 1) := by decide +kernel
theorem dX3_readStatement_11 : decode cX3_readStatement 11 = .ok (.if_icmp .eq 11, 3) := by decide +kernel
theorem dX3_readStatement_14 : decode cX3_readStatement 14 = .ok (.aload_n 0, 1) := by decide +kernel
theorem dX3_readStatement_15 : decode cX3_readStatement 15 = .ok (.iload_n 1, 1) := by decide +kernel
theorem dX3_readStatement_16 : decode cX3_readStatement 16 = .ok (.invokevirtual 133, 3) := by decide +kernel
theorem dX3_readStatement_19 : decode cX3_readStatement 19 = .ok (.ifCond .ne 5, 3) := by decide +kernel
theorem dX3_readStatement_22 : decode cX3_readStatement 22 = .ok (.iconst 0, 1) := by decide +kernel
theorem dX3_readStatement_23 : decode cX3_readStatement 23 = .ok (.ireturn, 1) := by decide +kernel
theorem dX3_readStatement_24 : decode cX3_readStatement 24 = .ok (.iconst 0, 1) := by decide +kernel
theorem dX3_readStatement_25 : decode cX3_readStatement 25 = .ok (.istore_n 2, 1) := by decide +kernel
theorem dX3_readStatement_26 : decode cX3_readStatement 26 = .ok (.iload_n 2, 1) := by decide +kernel
theorem dX3_readStatement_27 : decode cX3_readStatement 27 = .ok (.iload_n 1, 1) := by decide +kernel
theorem dX3_readStatement_28 : decode cX3_readStatement 28 = .ok (.invokestatic 136, 3) := by decide +kernel
theorem dX3_readStatement_31 : decode cX3_readStatement 31 = .ok (.if_icmp .ge 50, 3) := by decide +kernel
theorem dX3_readStatement_34 : decode cX3_readStatement 34 = .ok (.iload_n 2, 1) := by decide +kernel
theorem dX3_readStatement_35 : decode cX3_readStatement 35 = .ok (.aload_n 0, 1) := by decide +kernel
theorem dX3_readStatement_36 : decode cX3_readStatement 36 = .ok (.getfield 19, 3) := by decide +kernel
theorem dX3_readStatement_39 : decode cX3_readStatement 39 = .ok (.arraylength, 1) := by decide +kernel
theorem dX3_readStatement_40 : decode cX3_readStatement 40 = .ok (.if_icmp .ge 41, 3) := by decide +kernel
theorem dX3_readStatement_43 : decode cX3_readStatement 43 = .ok (.aload_n 0, 1) := by decide +kernel
theorem dX3_readStatement_44 : decode cX3_readStatement 44 = .ok (.invokevirtual 127, 3) := by decide +kernel
theorem dX3_readStatement_47 : decode cX3_readStatement 47 = .ok (.aload_n 0, 1) := by decide +kernel
theorem dX3_readStatement_48 : decode cX3_readStatement 48 = .ok (.invokevirtual 139, 3) := by decide +kernel
theorem dX3_readStatement_51 : decode cX3_readStatement 51 = .ok (.istore_n 3, 1) := by decide +kernel
theorem dX3_readStatement_52 : decode cX3_readStatement 52 = .ok (.iload_n 3, 1) := by decide +kernel
theorem dX3_readStatement_53 : decode cX3_readStatement 53 = .ok (.iconst (-1), 1) := by decide +kernel
theorem dX3_readStatement_54 : decode cX3_readStatement 54 = .ok (.if_icmp .eq 12, 3) := by decide +kernel
theorem dX3_readStatement_57 : decode cX3_readStatement 57 = .ok (.iload_n 1, 1) := by decide +kernel
theorem dX3_readStatement_58 : decode cX3_readStatement 58 = .ok (.iload_n 2, 1) := by decide +kernel
theorem dX3_readStatement_59 : decode cX3_readStatement 59 = .ok (.iload_n 3, 1) := by decide +kernel
theorem dX3_readStatement_60 : decode cX3_readStatement 60 = .ok (.invokestatic 142, 3) := by decide +kernel
theorem dX3_readStatement_63 : decode cX3_readStatement 63 = .ok (.ifCond .ne 5, 3) := by decide +kernel
theorem dX3_readStatement_66 : decode cX3_readStatement 66 = .ok (.iconst 0, 1) := by decide +kernel
theorem dX3_readStatement_67 : decode cX3_readStatement 67 = .ok (.ireturn, 1) := by decide +kernel
theorem dX3_readStatement_68 : decode cX3_readStatement 68 = .ok (.aload_n 0, 1) := by decide +kernel
theorem dX3_readStatement_69 : decode cX3_readStatement 69 = .ok (.getfield 19, 3) := by decide +kernel
theorem dX3_readStatement_72 : decode cX3_readStatement 72 = .ok (.iload_n 2, 1) := by decide +kernel
theorem dX3_readStatement_73 : decode cX3_readStatement 73 = .ok (.iload_n 3, 1) := by decide +kernel
theorem dX3_readStatement_74 : decode cX3_readStatement 74 = .ok (.iastore, 1) := by decide +kernel
theorem dX3_readStatement_75 : decode cX3_readStatement 75 = .ok (.iinc 2 1, 3) := by decide +kernel
theorem dX3_readStatement_78 : decode cX3_readStatement 78 = .ok (.goto (-52), 3) := by decide +kernel
theorem dX3_readStatement_81 : decode cX3_readStatement 81 = .ok (.aload_n 0, 1) := by decide +kernel
theorem dX3_readStatement_82 : decode cX3_readStatement 82 = .ok (.iload_n 1, 1) := by decide +kernel
theorem dX3_readStatement_83 : decode cX3_readStatement 83 = .ok (.invokevirtual 146, 3) := by decide +kernel
theorem dX3_readStatement_86 : decode cX3_readStatement 86 = .ok (.iconst 1, 1) := by decide +kernel
theorem dX3_readStatement_87 : decode cX3_readStatement 87 = .ok (.ireturn, 1) := by decide +kernel
theorem dX3_readDraft_0 : decode cX3_readDraft 0 = .ok (.aload_n 0, 1) := by decide +kernel
theorem dX3_readDraft_1 : decode cX3_readDraft 1 = .ok (.getfield 32, 3) := by decide +kernel
theorem dX3_readDraft_4 : decode cX3_readDraft 4 = .ok (.invokevirtual 150, 3) := by decide +kernel
theorem dX3_readDraft_7 : decode cX3_readDraft 7 = .ok (.aload_n 0, 1) := by decide +kernel
theorem dX3_readDraft_8 : decode cX3_readDraft 8 = .ok (.iconst 0, 1) := by decide +kernel
theorem dX3_readDraft_9 : decode cX3_readDraft 9 = .ok (.putfield 22, 3) := by decide +kernel
theorem dX3_readDraft_12 : decode cX3_readDraft 12 = .ok (.aload_n 0, 1) := by decide +kernel
theorem dX3_readDraft_13 : decode cX3_readDraft 13 = .ok (.iconst 0, 1) := by decide +kernel
theorem dX3_readDraft_14 : decode cX3_readDraft 14 = .ok (.putfield 29, 3) := by decide +kernel
theorem dX3_readDraft_17 : decode cX3_readDraft 17 = .ok (.iconst 0, 1) := by decide +kernel
theorem dX3_readDraft_18 : decode cX3_readDraft 18 = .ok (.istore_n 1, 1) := by decide +kernel
theorem dX3_readDraft_19 : decode cX3_readDraft 19 = .ok (.iload_n 1, 1) := by decide +kernel
theorem dX3_readDraft_20 : decode cX3_readDraft 20 = .ok (.aload_n 0, 1) := by decide +kernel
theorem dX3_readDraft_21 : decode cX3_readDraft 21 = .ok (.getfield 15, 3) := by decide +kernel
theorem dX3_readDraft_24 : decode cX3_readDraft 24 = .ok (.if_icmp .gt 56, 3) := by decide +kernel
theorem dX3_readDraft_27 : decode cX3_readDraft 27 = .ok (.aload_n 0, 1) := by decide +kernel
theorem dX3_readDraft_28 : decode cX3_readDraft 28 = .ok (.invokevirtual 153, 3) := by decide +kernel
theorem dX3_readDraft_31 : decode cX3_readDraft 31 = .ok (.ifCond .ne 8, 3) := by decide +kernel
theorem dX3_readDraft_34 : decode cX3_readDraft 34 = .ok (.aload_n 0, 1) := by decide +kernel
theorem dX3_readDraft_35 : decode cX3_readDraft 35 = .ok (.getfield 26, 3) := by decide +kernel
theorem dX3_readDraft_38 : decode cX3_readDraft 38 = .ok (.ireturn, 1) := by decide +kernel
theorem dX3_readDraft_39 : decode cX3_readDraft 39 = .ok (.aload_n 0, 1) := by decide +kernel
theorem dX3_readDraft_40 : decode cX3_readDraft 40 = .ok (.invokevirtual 127, 3) := by decide +kernel
theorem dX3_readDraft_43 : decode cX3_readDraft 43 = .ok (.aload_n 0, 1) := by decide +kernel
theorem dX3_readDraft_44 : decode cX3_readDraft 44 = .ok (.getfield 26, 3) := by decide +kernel
theorem dX3_readDraft_47 : decode cX3_readDraft 47 = .ok (.aload_n 0, 1) := by decide +kernel
theorem dX3_readDraft_48 : decode cX3_readDraft 48 = .ok (.getfield 15, 3) := by decide +kernel
theorem dX3_readDraft_51 : decode cX3_readDraft 51 = .ok (.if_icmp .lt 5, 3) := by decide +kernel
theorem dX3_readDraft_54 : decode cX3_readDraft 54 = .ok (.iconst (-1), 1) := by decide +kernel
theorem dX3_readDraft_55 : decode cX3_readDraft 55 = .ok (.ireturn, 1) := by decide +kernel
theorem dX3_readDraft_56 : decode cX3_readDraft 56 = .ok (.aload_n 0, 1) := by decide +kernel
theorem dX3_readDraft_57 : decode cX3_readDraft 57 = .ok (.aload_n 0, 1) := by decide +kernel
theorem dX3_readDraft_58 : decode cX3_readDraft 58 = .ok (.getfield 26, 3) := by decide +kernel
theorem dX3_readDraft_61 : decode cX3_readDraft 61 = .ok (.invokevirtual 36, 3) := by decide +kernel
theorem dX3_readDraft_64 : decode cX3_readDraft 64 = .ok (.bipush 59, 2) := by decide +kernel
theorem dX3_readDraft_66 : decode cX3_readDraft 66 = .ok (.if_icmp .eq 8, 3) := by decide +kernel
theorem dX3_readDraft_69 : decode cX3_readDraft 69 = .ok (.aload_n 0, 1) := by decide +kernel
theorem dX3_readDraft_70 : decode cX3_readDraft 70 = .ok (.getfield 26, 3) := by decide +kernel
theorem dX3_readDraft_73 : decode cX3_readDraft 73 = .ok (.ireturn, 1) := by decide +kernel
theorem dX3_readDraft_74 : decode cX3_readDraft 74 = .ok (.iinc 1 1, 3) := by decide +kernel
theorem dX3_readDraft_77 : decode cX3_readDraft 77 = .ok (.goto (-58), 3) := by decide +kernel
theorem dX3_readDraft_80 : decode cX3_readDraft 80 = .ok (.aload_n 0, 1) := by decide +kernel
theorem dX3_readDraft_81 : decode cX3_readDraft 81 = .ok (.getfield 15, 3) := by decide +kernel
theorem dX3_readDraft_84 : decode cX3_readDraft 84 = .ok (.ireturn, 1) := by decide +kernel
theorem dX4_init_0 : decode cX4_init 0 = .ok (.aload_n 0, 1) := by decide +kernel
theorem dX4_init_1 : decode cX4_init 1 = .ok (.invokespecial 3, 3) := by decide +kernel
theorem dX4_init_4 : decode cX4_init 4 = .ok (.aload_n 0, 1) := by decide +kernel
theorem dX4_init_5 : decode cX4_init 5 = .ok (.iconst 0, 1) := by decide +kernel
theorem dX4_init_6 : decode cX4_init 6 = .ok (.putfield 9, 3) := by decide +kernel
theorem dX4_init_9 : decode cX4_init 9 = .ok (.aload_n 0, 1) := by decide +kernel
theorem dX4_init_10 : decode cX4_init 10 = .ok (.iload_n 1, 1) := by decide +kernel
theorem dX4_init_11 : decode cX4_init 11 = .ok (.putfield 15, 3) := by decide +kernel
theorem dX4_init_14 : decode cX4_init 14 = .ok (.aload_n 0, 1) := by decide +kernel
theorem dX4_init_15 : decode cX4_init 15 = .ok (.iload_n 2, 1) := by decide +kernel
theorem dX4_init_16 : decode cX4_init 16 = .ok (.putfield 18, 3) := by decide +kernel
theorem dX4_init_19 : decode cX4_init 19 = .ok (.aload_n 0, 1) := by decide +kernel
theorem dX4_init_20 : decode cX4_init 20 = .ok (.iconst 0, 1) := by decide +kernel
theorem dX4_init_21 : decode cX4_init 21 = .ok (.iload_n 1, 1) := by decide +kernel
theorem dX4_init_22 : decode cX4_init 22 = .ok (.iload_n 2, 1) := by decide +kernel
theorem dX4_init_23 : decode cX4_init 23 = .ok (.imul, 1) := by decide +kernel
theorem dX4_init_24 : decode cX4_init 24 = .ok (.invokestatic 21, 3) := by decide +kernel
theorem dX4_init_27 : decode cX4_init 27 = .ok (.newarray .int, 2) := by decide +kernel
theorem dX4_init_29 : decode cX4_init 29 = .ok (.putfield 27, 3) := by decide +kernel
theorem dX4_init_32 : decode cX4_init 32 = .ok (.return_, 1) := by decide +kernel
theorem dX4_hasRow_0 : decode cX4_hasRow 0 = .ok (.iload_n 1, 1) := by decide +kernel
theorem dX4_hasRow_1 : decode cX4_hasRow 1 = .ok (.ifCond .lt 15, 3) := by decide +kernel
theorem dX4_hasRow_4 : decode cX4_hasRow 4 = .ok (.iload_n 1, 1) := by decide +kernel
theorem dX4_hasRow_5 : decode cX4_hasRow 5 = .ok (.aload_n 0, 1) := by decide +kernel
theorem dX4_hasRow_6 : decode cX4_hasRow 6 = .ok (.getfield 9, 3) := by decide +kernel
theorem dX4_hasRow_9 : decode cX4_hasRow 9 = .ok (.if_icmp .ge 7, 3) := by decide +kernel
theorem dX4_hasRow_12 : decode cX4_hasRow 12 = .ok (.iconst 1, 1) := by decide +kernel
theorem dX4_hasRow_13 : decode cX4_hasRow 13 = .ok (.goto 4, 3) := by decide +kernel
theorem dX4_hasRow_16 : decode cX4_hasRow 16 = .ok (.iconst 0, 1) := by decide +kernel
theorem dX4_hasRow_17 : decode cX4_hasRow 17 = .ok (.ireturn, 1) := by decide +kernel
theorem dX4_isFull_0 : decode cX4_isFull 0 = .ok (.aload_n 0, 1) := by decide +kernel
theorem dX4_isFull_1 : decode cX4_isFull 1 = .ok (.getfield 9, 3) := by decide +kernel
theorem dX4_isFull_4 : decode cX4_isFull 4 = .ok (.aload_n 0, 1) := by decide +kernel
theorem dX4_isFull_5 : decode cX4_isFull 5 = .ok (.getfield 15, 3) := by decide +kernel
theorem dX4_isFull_8 : decode cX4_isFull 8 = .ok (.if_icmp .lt 7, 3) := by decide +kernel
theorem dX4_isFull_11 : decode cX4_isFull 11 = .ok (.iconst 1, 1) := by decide +kernel
theorem dX4_isFull_12 : decode cX4_isFull 12 = .ok (.goto 4, 3) := by decide +kernel
theorem dX4_isFull_15 : decode cX4_isFull 15 = .ok (.iconst 0, 1) := by decide +kernel
theorem dX4_isFull_16 : decode cX4_isFull 16 = .ok (.ireturn, 1) := by decide +kernel
theorem dX4_clear_0 : decode cX4_clear 0 = .ok (.aload_n 0, 1) := by decide +kernel
theorem dX4_clear_1 : decode cX4_clear 1 = .ok (.iconst 0, 1) := by decide +kernel
theorem dX4_clear_2 : decode cX4_clear 2 = .ok (.putfield 9, 3) := by decide +kernel
theorem dX4_clear_5 : decode cX4_clear 5 = .ok (.return_, 1) := by decide +kernel
theorem dX4_get_0 : decode cX4_get 0 = .ok (.iload_n 1, 1) := by decide +kernel
theorem dX4_get_1 : decode cX4_get 1 = .ok (.ifCond .lt 23, 3) := by decide +kernel
theorem dX4_get_4 : decode cX4_get 4 = .ok (.iload_n 1, 1) := by decide +kernel
theorem dX4_get_5 : decode cX4_get 5 = .ok (.aload_n 0, 1) := by decide +kernel
theorem dX4_get_6 : decode cX4_get 6 = .ok (.getfield 9, 3) := by decide +kernel
theorem dX4_get_9 : decode cX4_get 9 = .ok (.if_icmp .ge 15, 3) := by decide +kernel
theorem dX4_get_12 : decode cX4_get 12 = .ok (.iload_n 2, 1) := by decide +kernel
theorem dX4_get_13 : decode cX4_get 13 = .ok (.ifCond .lt 11, 3) := by decide +kernel
theorem dX4_get_16 : decode cX4_get 16 = .ok (.iload_n 2, 1) := by decide +kernel
theorem dX4_get_17 : decode cX4_get 17 = .ok (.aload_n 0, 1) := by decide +kernel
theorem dX4_get_18 : decode cX4_get 18 = .ok (.getfield 18, 3) := by decide +kernel
theorem dX4_get_21 : decode cX4_get 21 = .ok (.if_icmp .lt 5, 3) := by decide +kernel
theorem dX4_get_24 : decode cX4_get 24 = .ok (.iconst 0, 1) := by decide +kernel
theorem dX4_get_25 : decode cX4_get 25 = .ok (.ireturn, 1) := by decide +kernel
theorem dX4_get_26 : decode cX4_get 26 = .ok (.iload_n 1, 1) := by decide +kernel
theorem dX4_get_27 : decode cX4_get 27 = .ok (.aload_n 0, 1) := by decide +kernel
theorem dX4_get_28 : decode cX4_get 28 = .ok (.getfield 18, 3) := by decide +kernel
theorem dX4_get_31 : decode cX4_get 31 = .ok (.imul, 1) := by decide +kernel
theorem dX4_get_32 : decode cX4_get 32 = .ok (.iload_n 2, 1) := by decide +kernel
theorem dX4_get_33 : decode cX4_get 33 = .ok (.iadd, 1) := by decide +kernel
theorem dX4_get_34 : decode cX4_get 34 = .ok (.istore_n 3, 1) := by decide +kernel
theorem dX4_get_35 : decode cX4_get 35 = .ok (.iload_n 3, 1) := by decide +kernel
theorem dX4_get_36 : decode cX4_get 36 = .ok (.ifCond .lt 21, 3) := by decide +kernel
theorem dX4_get_39 : decode cX4_get 39 = .ok (.iload_n 3, 1) := by decide +kernel
theorem dX4_get_40 : decode cX4_get 40 = .ok (.aload_n 0, 1) := by decide +kernel
theorem dX4_get_41 : decode cX4_get 41 = .ok (.getfield 27, 3) := by decide +kernel
theorem dX4_get_44 : decode cX4_get 44 = .ok (.arraylength, 1) := by decide +kernel
theorem dX4_get_45 : decode cX4_get 45 = .ok (.if_icmp .ge 12, 3) := by decide +kernel
theorem dX4_get_48 : decode cX4_get 48 = .ok (.aload_n 0, 1) := by decide +kernel
theorem dX4_get_49 : decode cX4_get 49 = .ok (.getfield 27, 3) := by decide +kernel
theorem dX4_get_52 : decode cX4_get 52 = .ok (.iload_n 3, 1) := by decide +kernel
theorem dX4_get_53 : decode cX4_get 53 = .ok (.iaload, 1) := by decide +kernel
theorem dX4_get_54 : decode cX4_get 54 = .ok (.goto 4, 3) := by decide +kernel
theorem dX4_get_57 : decode cX4_get 57 = .ok (.iconst 0, 1) := by decide +kernel
theorem dX4_get_58 : decode cX4_get 58 = .ok (.ireturn, 1) := by decide +kernel
theorem dX4_set_0 : decode cX4_set 0 = .ok (.iload_n 1, 1) := by decide +kernel
theorem dX4_set_1 : decode cX4_set 1 = .ok (.ifCond .lt 23, 3) := by decide +kernel
theorem dX4_set_4 : decode cX4_set 4 = .ok (.iload_n 1, 1) := by decide +kernel
theorem dX4_set_5 : decode cX4_set 5 = .ok (.aload_n 0, 1) := by decide +kernel
theorem dX4_set_6 : decode cX4_set 6 = .ok (.getfield 9, 3) := by decide +kernel
theorem dX4_set_9 : decode cX4_set 9 = .ok (.if_icmp .ge 15, 3) := by decide +kernel
theorem dX4_set_12 : decode cX4_set 12 = .ok (.iload_n 2, 1) := by decide +kernel
theorem dX4_set_13 : decode cX4_set 13 = .ok (.ifCond .lt 11, 3) := by decide +kernel
theorem dX4_set_16 : decode cX4_set 16 = .ok (.iload_n 2, 1) := by decide +kernel
theorem dX4_set_17 : decode cX4_set 17 = .ok (.aload_n 0, 1) := by decide +kernel
theorem dX4_set_18 : decode cX4_set 18 = .ok (.getfield 18, 3) := by decide +kernel
theorem dX4_set_21 : decode cX4_set 21 = .ok (.if_icmp .lt 4, 3) := by decide +kernel
theorem dX4_set_24 : decode cX4_set 24 = .ok (.return_, 1) := by decide +kernel
theorem dX4_set_25 : decode cX4_set 25 = .ok (.iload_n 1, 1) := by decide +kernel
theorem dX4_set_26 : decode cX4_set 26 = .ok (.aload_n 0, 1) := by decide +kernel
theorem dX4_set_27 : decode cX4_set 27 = .ok (.getfield 18, 3) := by decide +kernel
theorem dX4_set_30 : decode cX4_set 30 = .ok (.imul, 1) := by decide +kernel
theorem dX4_set_31 : decode cX4_set 31 = .ok (.iload_n 2, 1) := by decide +kernel
theorem dX4_set_32 : decode cX4_set 32 = .ok (.iadd, 1) := by decide +kernel
theorem dX4_set_33 : decode cX4_set 33 = .ok (.istore 4, 2) := by decide +kernel
theorem dX4_set_35 : decode cX4_set 35 = .ok (.iload 4, 2) := by decide +kernel
theorem dX4_set_37 : decode cX4_set 37 = .ok (.ifCond .lt 21, 3) := by decide +kernel
theorem dX4_set_40 : decode cX4_set 40 = .ok (.iload 4, 2) := by decide +kernel
theorem dX4_set_42 : decode cX4_set 42 = .ok (.aload_n 0, 1) := by decide +kernel
theorem dX4_set_43 : decode cX4_set 43 = .ok (.getfield 27, 3) := by decide +kernel
theorem dX4_set_46 : decode cX4_set 46 = .ok (.arraylength, 1) := by decide +kernel
theorem dX4_set_47 : decode cX4_set 47 = .ok (.if_icmp .ge 11, 3) := by decide +kernel
theorem dX4_set_50 : decode cX4_set 50 = .ok (.aload_n 0, 1) := by decide +kernel
theorem dX4_set_51 : decode cX4_set 51 = .ok (.getfield 27, 3) := by decide +kernel
theorem dX4_set_54 : decode cX4_set 54 = .ok (.iload 4, 2) := by decide +kernel
theorem dX4_set_56 : decode cX4_set 56 = .ok (.iload_n 3, 1) := by decide +kernel
theorem dX4_set_57 : decode cX4_set 57 = .ok (.iastore, 1) := by decide +kernel
theorem dX4_set_58 : decode cX4_set 58 = .ok (.return_, 1) := by decide +kernel
theorem dX4_add_0 : decode cX4_add 0 = .ok (.aload_n 0, 1) := by decide +kernel
theorem dX4_add_1 : decode cX4_add 1 = .ok (.iload_n 1, 1) := by decide +kernel
theorem dX4_add_2 : decode cX4_add 2 = .ok (.iload_n 2, 1) := by decide +kernel
theorem dX4_add_3 : decode cX4_add 3 = .ok (.aload_n 0, 1) := by decide +kernel
theorem dX4_add_4 : decode cX4_add 4 = .ok (.iload_n 1, 1) := by decide +kernel
theorem dX4_add_5 : decode cX4_add 5 = .ok (.iload_n 2, 1) := by decide +kernel
theorem dX4_add_6 : decode cX4_add 6 = .ok (.invokevirtual 31, 3) := by decide +kernel
theorem dX4_add_9 : decode cX4_add 9 = .ok (.iload_n 3, 1) := by decide +kernel
theorem dX4_add_10 : decode cX4_add 10 = .ok (.iadd, 1) := by decide +kernel
theorem dX4_add_11 : decode cX4_add 11 = .ok (.invokevirtual 34, 3) := by decide +kernel
theorem dX4_add_14 : decode cX4_add 14 = .ok (.return_, 1) := by decide +kernel
theorem dX4_addRow_0 : decode cX4_addRow 0 = .ok (.aload_n 0, 1) := by decide +kernel
theorem dX4_addRow_1 : decode cX4_addRow 1 = .ok (.invokevirtual 38, 3) := by decide +kernel
theorem dX4_addRow_4 : decode cX4_addRow 4 = .ok (.ifCond .eq 5, 3) := by decide +kernel
theorem dX4_addRow_7 : decode cX4_addRow 7 = .ok (.iconst (-1), 1) := by decide +kernel
theorem dX4_addRow_8 : decode cX4_addRow 8 = .ok (.ireturn, 1) := by decide +kernel
theorem dX4_addRow_9 : decode cX4_addRow 9 = .ok (.aload_n 0, 1) := by decide +kernel
theorem dX4_addRow_10 : decode cX4_addRow 10 = .ok (.getfield 9, 3) := by decide +kernel
theorem dX4_addRow_13 : decode cX4_addRow 13 = .ok (.istore_n 1, 1) := by decide +kernel
theorem dX4_addRow_14 : decode cX4_addRow 14 = .ok (.aload_n 0, 1) := by decide +kernel
theorem dX4_addRow_15 : decode cX4_addRow 15 = .ok (.dup, 1) := by decide +kernel
theorem dX4_addRow_16 : decode cX4_addRow 16 = .ok (.getfield 9, 3) := by decide +kernel
theorem dX4_addRow_19 : decode cX4_addRow 19 = .ok (.iconst 1, 1) := by decide +kernel
theorem dX4_addRow_20 : decode cX4_addRow 20 = .ok (.iadd, 1) := by decide +kernel
theorem dX4_addRow_21 : decode cX4_addRow 21 = .ok (.putfield 9, 3) := by decide +kernel
theorem dX4_addRow_24 : decode cX4_addRow 24 = .ok (.iconst 0, 1) := by decide +kernel
theorem dX4_addRow_25 : decode cX4_addRow 25 = .ok (.istore_n 2, 1) := by decide +kernel
theorem dX4_addRow_26 : decode cX4_addRow 26 = .ok (.iload_n 2, 1) := by decide +kernel
theorem dX4_addRow_27 : decode cX4_addRow 27 = .ok (.aload_n 0, 1) := by decide +kernel
theorem dX4_addRow_28 : decode cX4_addRow 28 = .ok (.getfield 18, 3) := by decide +kernel
theorem dX4_addRow_31 : decode cX4_addRow 31 = .ok (.if_icmp .ge 16, 3) := by decide +kernel
theorem dX4_addRow_34 : decode cX4_addRow 34 = .ok (.aload_n 0, 1) := by decide +kernel
theorem dX4_addRow_35 : decode cX4_addRow 35 = .ok (.iload_n 1, 1) := by decide +kernel
theorem dX4_addRow_36 : decode cX4_addRow 36 = .ok (.iload_n 2, 1) := by decide +kernel
theorem dX4_addRow_37 : decode cX4_addRow 37 = .ok (.iconst 0, 1) := by decide +kernel
theorem dX4_addRow_38 : decode cX4_addRow 38 = .ok (.invokevirtual 34, 3) := by decide +kernel
theorem dX4_addRow_41 : decode cX4_addRow 41 = .ok (.iinc 2 1, 3) := by decide +kernel
theorem dX4_addRow_44 : decode cX4_addRow 44 = .ok (.goto (-18), 3) := by decide +kernel
theorem dX4_addRow_47 : decode cX4_addRow 47 = .ok (.iload_n 1, 1) := by decide +kernel
theorem dX4_addRow_48 : decode cX4_addRow 48 = .ok (.ireturn, 1) := by decide +kernel
theorem dX4_removeRow_0 : decode cX4_removeRow 0 = .ok (.aload_n 0, 1) := by decide +kernel
theorem dX4_removeRow_1 : decode cX4_removeRow 1 = .ok (.iload_n 1, 1) := by decide +kernel
theorem dX4_removeRow_2 : decode cX4_removeRow 2 = .ok (.invokevirtual 42, 3) := by decide +kernel
theorem dX4_removeRow_5 : decode cX4_removeRow 5 = .ok (.ifCond .ne 4, 3) := by decide +kernel
theorem dX4_removeRow_8 : decode cX4_removeRow 8 = .ok (.return_, 1) := by decide +kernel
theorem dX4_removeRow_9 : decode cX4_removeRow 9 = .ok (.iload_n 1, 1) := by decide +kernel
theorem dX4_removeRow_10 : decode cX4_removeRow 10 = .ok (.aload_n 0, 1) := by decide +kernel
theorem dX4_removeRow_11 : decode cX4_removeRow 11 = .ok (.getfield 18, 3) := by decide +kernel
theorem dX4_removeRow_14 : decode cX4_removeRow 14 = .ok (.imul, 1) := by decide +kernel
theorem dX4_removeRow_15 : decode cX4_removeRow 15 = .ok (.istore_n 2, 1) := by decide +kernel
theorem dX4_removeRow_16 : decode cX4_removeRow 16 = .ok (.iload_n 2, 1) := by decide +kernel
theorem dX4_removeRow_17 : decode cX4_removeRow 17 = .ok (.aload_n 0, 1) := by decide +kernel
theorem dX4_removeRow_18 : decode cX4_removeRow 18 = .ok (.getfield 18, 3) := by decide +kernel
theorem dX4_removeRow_21 : decode cX4_removeRow 21 = .ok (.iadd, 1) := by decide +kernel
theorem dX4_removeRow_22 : decode cX4_removeRow 22 = .ok (.aload_n 0, 1) := by decide +kernel
theorem dX4_removeRow_23 : decode cX4_removeRow 23 = .ok (.getfield 27, 3) := by decide +kernel
theorem dX4_removeRow_26 : decode cX4_removeRow 26 = .ok (.arraylength, 1) := by decide +kernel
theorem dX4_removeRow_27 : decode cX4_removeRow 27 = .ok (.if_icmp .ge 26, 3) := by decide +kernel
theorem dX4_removeRow_30 : decode cX4_removeRow 30 = .ok (.aload_n 0, 1) := by decide +kernel
theorem dX4_removeRow_31 : decode cX4_removeRow 31 = .ok (.getfield 27, 3) := by decide +kernel
theorem dX4_removeRow_34 : decode cX4_removeRow 34 = .ok (.iload_n 2, 1) := by decide +kernel
theorem dX4_removeRow_35 : decode cX4_removeRow 35 = .ok (.aload_n 0, 1) := by decide +kernel
theorem dX4_removeRow_36 : decode cX4_removeRow 36 = .ok (.getfield 27, 3) := by decide +kernel
theorem dX4_removeRow_39 : decode cX4_removeRow 39 = .ok (.iload_n 2, 1) := by decide +kernel
theorem dX4_removeRow_40 : decode cX4_removeRow 40 = .ok (.aload_n 0, 1) := by decide +kernel
theorem dX4_removeRow_41 : decode cX4_removeRow 41 = .ok (.getfield 18, 3) := by decide +kernel
theorem dX4_removeRow_44 : decode cX4_removeRow 44 = .ok (.iadd, 1) := by decide +kernel
theorem dX4_removeRow_45 : decode cX4_removeRow 45 = .ok (.iaload, 1) := by decide +kernel
theorem dX4_removeRow_46 : decode cX4_removeRow 46 = .ok (.iastore, 1) := by decide +kernel
theorem dX4_removeRow_47 : decode cX4_removeRow 47 = .ok (.iinc 2 1, 3) := by decide +kernel
theorem dX4_removeRow_50 : decode cX4_removeRow 50 = .ok (.goto (-34), 3) := by decide +kernel
theorem dX4_removeRow_53 : decode cX4_removeRow 53 = .ok (.aload_n 0, 1) := by decide +kernel
theorem dX4_removeRow_54 : decode cX4_removeRow 54 = .ok (.dup, 1) := by decide +kernel
theorem dX4_removeRow_55 : decode cX4_removeRow 55 = .ok (.getfield 9, 3) := by decide +kernel
theorem dX4_removeRow_58 : decode cX4_removeRow 58 = .ok (.iconst 1, 1) := by decide +kernel
theorem dX4_removeRow_59 : decode cX4_removeRow 59 = .ok (.isub, 1) := by decide +kernel
theorem dX4_removeRow_60 : decode cX4_removeRow 60 = .ok (.putfield 9, 3) := by decide +kernel
theorem dX4_removeRow_63 : decode cX4_removeRow 63 = .ok (.return_, 1) := by decide +kernel
theorem dX4_copyFrom_0 : decode cX4_copyFrom 0 = .ok (.aload_n 0, 1) := by decide +kernel
theorem dX4_copyFrom_1 : decode cX4_copyFrom 1 = .ok (.aload_n 1, 1) := by decide +kernel
theorem dX4_copyFrom_2 : decode cX4_copyFrom 2 = .ok (.getfield 9, 3) := by decide +kernel
theorem dX4_copyFrom_5 : decode cX4_copyFrom 5 = .ok (.putfield 9, 3) := by decide +kernel
theorem dX4_copyFrom_8 : decode cX4_copyFrom 8 = .ok (.aload_n 1, 1) := by decide +kernel
theorem dX4_copyFrom_9 : decode cX4_copyFrom 9 = .ok (.getfield 27, 3) := by decide +kernel
theorem dX4_copyFrom_12 : decode cX4_copyFrom 12 = .ok (.iconst 0, 1) := by decide +kernel
theorem dX4_copyFrom_13 : decode cX4_copyFrom 13 = .ok (.aload_n 0, 1) := by decide +kernel
theorem dX4_copyFrom_14 : decode cX4_copyFrom 14 = .ok (.getfield 27, 3) := by decide +kernel
theorem dX4_copyFrom_17 : decode cX4_copyFrom 17 = .ok (.iconst 0, 1) := by decide +kernel
theorem dX4_copyFrom_18 : decode cX4_copyFrom 18 = .ok (.aload_n 1, 1) := by decide +kernel
theorem dX4_copyFrom_19 : decode cX4_copyFrom 19 = .ok (.getfield 27, 3) := by decide +kernel
theorem dX4_copyFrom_22 : decode cX4_copyFrom 22 = .ok (.arraylength, 1) := by decide +kernel
theorem dX4_copyFrom_23 : decode cX4_copyFrom 23 = .ok (.aload_n 0, 1) := by decide +kernel
theorem dX4_copyFrom_24 : decode cX4_copyFrom 24 = .ok (.getfield 27, 3) := by decide +kernel
theorem dX4_copyFrom_27 : decode cX4_copyFrom 27 = .ok (.arraylength, 1) := by decide +kernel
theorem dX4_copyFrom_28 : decode cX4_copyFrom 28 = .ok (.invokestatic 46, 3) := by decide +kernel
theorem dX4_copyFrom_31 : decode cX4_copyFrom 31 = .ok (.invokestatic 49, 3) := by decide +kernel
theorem dX4_copyFrom_34 : decode cX4_copyFrom 34 = .ok (.return_, 1) := by decide +kernel
theorem dX5_init_0 : decode cX5_init 0 = .ok (.aload_n 0, 1) := by decide +kernel
theorem dX5_init_1 : decode cX5_init 1 = .ok (.invokespecial 3, 3) := by decide +kernel
theorem dX5_init_4 : decode cX5_init 4 = .ok (.new 9, 3) := by decide +kernel
theorem dX5_init_7 : decode cX5_init 7 = .ok (.dup, 1) := by decide +kernel
theorem dX5_init_8 : decode cX5_init 8 = .ok (.invokespecial 11, 3) := by decide +kernel
theorem dX5_init_11 : decode cX5_init 11 = .ok (.astore_n 1, 1) := by decide +kernel
theorem dX5_init_12 : decode cX5_init 12 = .ok (.aload_n 0, 1) := by decide +kernel
theorem dX5_init_13 : decode cX5_init 13 = .ok (.new 12, 3) := by decide +kernel
theorem dX5_init_16 : decode cX5_init 16 = .ok (.dup, 1) := by decide +kernel
theorem dX5_init_17 : decode cX5_init 17 = .ok (.aload_n 1, 1) := by decide +kernel
theorem dX5_init_18 : decode cX5_init 18 = .ok (.invokespecial 14, 3) := by decide +kernel
theorem dX5_init_21 : decode cX5_init 21 = .ok (.putfield 17, 3) := by decide +kernel
theorem dX5_init_24 : decode cX5_init 24 = .ok (.aload_n 0, 1) := by decide +kernel
theorem dX5_init_25 : decode cX5_init 25 = .ok (.new 21, 3) := by decide +kernel
theorem dX5_init_28 : decode cX5_init 28 = .ok (.dup, 1) := by decide +kernel
theorem dX5_init_29 : decode cX5_init 29 = .ok (.new 12, 3) := by decide +kernel
theorem dX5_init_32 : decode cX5_init 32 = .ok (.dup, 1) := by decide +kernel
theorem dX5_init_33 : decode cX5_init 33 = .ok (.aload_n 1, 1) := by decide +kernel
theorem dX5_init_34 : decode cX5_init 34 = .ok (.invokespecial 14, 3) := by decide +kernel
theorem dX5_init_37 : decode cX5_init 37 = .ok (.invokespecial 23, 3) := by decide +kernel
theorem dX5_init_40 : decode cX5_init 40 = .ok (.putfield 26, 3) := by decide +kernel
theorem dX5_init_43 : decode cX5_init 43 = .ok (.aload_n 0, 1) := by decide +kernel
theorem dX5_init_44 : decode cX5_init 44 = .ok (.new 30, 3) := by decide +kernel
theorem dX5_init_47 : decode cX5_init 47 = .ok (.dup, 1) := by decide +kernel
theorem dX5_init_48 : decode cX5_init 48 = .ok (.aload_n 1, 1) := by decide +kernel
theorem dX5_init_49 : decode cX5_init 49 = .ok (.invokespecial 32, 3) := by decide +kernel
theorem dX5_init_52 : decode cX5_init 52 = .ok (.putfield 33, 3) := by decide +kernel
theorem dX5_init_55 : decode cX5_init 55 = .ok (.aload_n 0, 1) := by decide +kernel
theorem dX5_init_56 : decode cX5_init 56 = .ok (.getfield 17, 3) := by decide +kernel
theorem dX5_init_59 : decode cX5_init 59 = .ok (.bipush 12, 2) := by decide +kernel
theorem dX5_init_61 : decode cX5_init 61 = .ok (.iconst 0, 1) := by decide +kernel
theorem dX5_init_62 : decode cX5_init 62 = .ok (.bipush 7, 2) := by decide +kernel
theorem dX5_init_64 : decode cX5_init 64 = .ok (.invokevirtual 37, 3) := by decide +kernel
theorem dX5_init_67 : decode cX5_init 67 = .ok (.aload_n 0, 1) := by decide +kernel
theorem dX5_init_68 : decode cX5_init 68 = .ok (.getfield 17, 3) := by decide +kernel
theorem dX5_init_71 : decode cX5_init 71 = .ok (.bipush 15, 2) := by decide +kernel
theorem dX5_init_73 : decode cX5_init 73 = .ok (.iconst 1, 1) := by decide +kernel
theorem dX5_init_74 : decode cX5_init 74 = .ok (.bipush 10, 2) := by decide +kernel
theorem dX5_init_76 : decode cX5_init 76 = .ok (.invokevirtual 37, 3) := by decide +kernel
theorem dX5_init_79 : decode cX5_init 79 = .ok (.aload_n 0, 1) := by decide +kernel
theorem dX5_init_80 : decode cX5_init 80 = .ok (.getfield 17, 3) := by decide +kernel
theorem dX5_init_83 : decode cX5_init 83 = .ok (.iconst 1, 1) := by decide +kernel
theorem dX5_init_84 : decode cX5_init 84 = .ok (.bipush 30, 2) := by decide +kernel
theorem dX5_init_86 : decode cX5_init 86 = .ok (.invokevirtual 41, 3) := by decide +kernel
theorem dX5_init_89 : decode cX5_init 89 = .ok (.aload_n 0, 1) := by decide +kernel
theorem dX5_init_90 : decode cX5_init 90 = .ok (.getfield 17, 3) := by decide +kernel
theorem dX5_init_93 : decode cX5_init 93 = .ok (.iconst 1, 1) := by decide +kernel
theorem dX5_init_94 : decode cX5_init 94 = .ok (.bipush 60, 2) := by decide +kernel
theorem dX5_init_96 : decode cX5_init 96 = .ok (.invokevirtual 41, 3) := by decide +kernel
theorem dX5_init_99 : decode cX5_init 99 = .ok (.aload_n 0, 1) := by decide +kernel
theorem dX5_init_100 : decode cX5_init 100 = .ok (.getfield 17, 3) := by decide +kernel
theorem dX5_init_103 : decode cX5_init 103 = .ok (.iconst 1, 1) := by decide +kernel
theorem dX5_init_104 : decode cX5_init 104 = .ok (.iconst 0, 1) := by decide +kernel
theorem dX5_init_105 : decode cX5_init 105 = .ok (.invokevirtual 45, 3) := by decide +kernel
theorem dX5_init_108 : decode cX5_init 108 = .ok (.aload_n 0, 1) := by decide +kernel
theorem dX5_init_109 : decode cX5_init 109 = .ok (.getfield 17, 3) := by decide +kernel
theorem dX5_init_112 : decode cX5_init 112 = .ok (.iconst 1, 1) := by decide +kernel
theorem dX5_init_113 : decode cX5_init 113 = .ok (.iconst 1, 1) := by decide +kernel
theorem dX5_init_114 : decode cX5_init 114 = .ok (.invokevirtual 45, 3) := by decide +kernel
theorem dX5_init_117 : decode cX5_init 117 = .ok (.aload_n 0, 1) := by decide +kernel
theorem dX5_init_118 : decode cX5_init 118 = .ok (.getfield 17, 3) := by decide +kernel
theorem dX5_init_121 : decode cX5_init 121 = .ok (.iconst 1, 1) := by decide +kernel
theorem dX5_init_122 : decode cX5_init 122 = .ok (.iconst 4, 1) := by decide +kernel
theorem dX5_init_123 : decode cX5_init 123 = .ok (.iconst 5, 1) := by decide +kernel
theorem dX5_init_124 : decode cX5_init 124 = .ok (.invokevirtual 48, 3) := by decide +kernel
theorem dX5_init_127 : decode cX5_init 127 = .ok (.return_, 1) := by decide +kernel
theorem dX5_append_0 : decode cX5_append 0 = .ok (.iload_n 1, 1) := by decide +kernel
theorem dX5_append_1 : decode cX5_append 1 = .ok (.invokestatic 51, 3) := by decide +kernel
theorem dX5_append_4 : decode cX5_append 4 = .ok (.iload_n 2, 1) := by decide +kernel
theorem dX5_append_5 : decode cX5_append 5 = .ok (.invokestatic 51, 3) := by decide +kernel
theorem dX5_append_8 : decode cX5_append 8 = .ok (.iadd, 1) := by decide +kernel
theorem dX5_append_9 : decode cX5_append 9 = .ok (.iload_n 3, 1) := by decide +kernel
theorem dX5_append_10 : decode cX5_append 10 = .ok (.invokestatic 51, 3) := by decide +kernel
theorem dX5_append_13 : decode cX5_append 13 = .ok (.iadd, 1) := by decide +kernel
theorem dX5_append_14 : decode cX5_append 14 = .ok (.iload 4, 2) := by decide +kernel
theorem dX5_append_16 : decode cX5_append 16 = .ok (.invokestatic 51, 3) := by decide +kernel
theorem dX5_append_19 : decode cX5_append 19 = .ok (.iadd, 1) := by decide +kernel
theorem dX5_append_20 : decode cX5_append 20 = .ok (.iload 5, 2) := by decide +kernel
theorem dX5_append_22 : decode cX5_append 22 = .ok (.invokestatic 51, 3) := by decide +kernel
theorem dX5_append_25 : decode cX5_append 25 = .ok (.iadd, 1) := by decide +kernel
theorem dX5_append_26 : decode cX5_append 26 = .ok (.istore 6, 2) := by decide +kernel
theorem dX5_append_28 : decode cX5_append 28 = .ok (.aload_n 0, 1) := by decide +kernel
theorem dX5_append_29 : decode cX5_append 29 = .ok (.getfield 26, 3) := by decide +kernel
theorem dX5_append_32 : decode cX5_append 32 = .ok (.getfield 55, 3) := by decide +kernel
theorem dX5_append_35 : decode cX5_append 35 = .ok (.iload 6, 2) := by decide +kernel
theorem dX5_append_37 : decode cX5_append 37 = .ok (.iadd, 1) := by decide +kernel
theorem dX5_append_38 : decode cX5_append 38 = .ok (.sipush 600, 3) := by decide +kernel
theorem dX5_append_41 : decode cX5_append 41 = .ok (.if_icmp .le 13, 3) := by decide +kernel
theorem dX5_append_44 : decode cX5_append 44 = .ok (.new 59, 3) := by decide +kernel
theorem dX5_append_47 : decode cX5_append 47 = .ok (.dup, 1) := by decide +kernel
theorem dX5_append_48 : decode cX5_append 48 = .ok (.ldc 61, 2) := by decide +kernel
theorem dX5_append_50 : decode cX5_append 50 = .ok (.invokespecial 63, 3) := by decide +kernel
theorem dX5_append_53 : decode cX5_append 53 = .ok (.athrow, 1) := by decide +kernel
theorem dX5_append_54 : decode cX5_append 54 = .ok (.aload_n 0, 1) := by decide +kernel
theorem dX5_append_55 : decode cX5_append 55 = .ok (.getfield 26, 3) := by decide +kernel
theorem dX5_append_58 : decode cX5_append 58 = .ok (.iload_n 1, 1) := by decide +kernel
theorem dX5_append_59 : decode cX5_append 59 = .ok (.invokevirtual 66, 3) := by decide +kernel
theorem dX5_append_62 : decode cX5_append 62 = .ok (.aload_n 0, 1) := by decide +kernel
theorem dX5_append_63 : decode cX5_append 63 = .ok (.getfield 26, 3) := by decide +kernel
theorem dX5_append_66 : decode cX5_append 66 = .ok (.iload_n 2, 1) := by decide +kernel
theorem dX5_append_67 : decode cX5_append 67 = .ok (.invokevirtual 66, 3) := by decide +kernel
theorem dX5_append_70 : decode cX5_append 70 = .ok (.aload_n 0, 1) := by decide +kernel
theorem dX5_append_71 : decode cX5_append 71 = .ok (.getfield 26, 3) := by decide +kernel
theorem dX5_append_74 : decode cX5_append 74 = .ok (.iload_n 3, 1) := by decide +kernel
theorem dX5_append_75 : decode cX5_append 75 = .ok (.invokevirtual 66, 3) := by decide +kernel
theorem dX5_append_78 : decode cX5_append 78 = .ok (.aload_n 0, 1) := by decide +kernel
theorem dX5_append_79 : decode cX5_append 79 = .ok (.getfield 26, 3) := by decide +kernel
theorem dX5_append_82 : decode cX5_append 82 = .ok (.iload 4, 2) := by decide +kernel
theorem dX5_append_84 : decode cX5_append 84 = .ok (.invokevirtual 66, 3) := by decide +kernel
theorem dX5_append_87 : decode cX5_append 87 = .ok (.aload_n 0, 1) := by decide +kernel
theorem dX5_append_88 : decode cX5_append 88 = .ok (.getfield 26, 3) := by decide +kernel
theorem dX5_append_91 : decode cX5_append 91 = .ok (.iload 5, 2) := by decide +kernel
theorem dX5_append_93 : decode cX5_append 93 = .ok (.invokevirtual 66, 3) := by decide +kernel
theorem dX5_append_96 : decode cX5_append 96 = .ok (.aload_n 0, 1) := by decide +kernel
theorem dX5_append_97 : decode cX5_append 97 = .ok (.getfield 26, 3) := by decide +kernel
theorem dX5_append_100 : decode cX5_append 100 = .ok (.getfield 55, 3) := by decide +kernel
theorem dX5_append_103 : decode cX5_append 103 = .ok (.ireturn, 1) := by decide +kernel
theorem dX5_truncate_0 : decode cX5_truncate 0 = .ok (.iload_n 1, 1) := by decide +kernel
theorem dX5_truncate_1 : decode cX5_truncate 1 = .ok (.iconst 0, 1) := by decide +kernel
theorem dX5_truncate_2 : decode cX5_truncate 2 = .ok (.aload_n 0, 1) := by decide +kernel
theorem dX5_truncate_3 : decode cX5_truncate 3 = .ok (.getfield 26, 3) := by decide +kernel
theorem dX5_truncate_6 : decode cX5_truncate 6 = .ok (.getfield 55, 3) := by decide +kernel
theorem dX5_truncate_9 : decode cX5_truncate 9 = .ok (.invokestatic 70, 3) := by decide +kernel
theorem dX5_truncate_12 : decode cX5_truncate 12 = .ok (.aload_n 0, 1) := by decide +kernel
theorem dX5_truncate_13 : decode cX5_truncate 13 = .ok (.getfield 26, 3) := by decide +kernel
theorem dX5_truncate_16 : decode cX5_truncate 16 = .ok (.iload_n 1, 1) := by decide +kernel
theorem dX5_truncate_17 : decode cX5_truncate 17 = .ok (.putfield 55, 3) := by decide +kernel
theorem dX5_truncate_20 : decode cX5_truncate 20 = .ok (.iload_n 1, 1) := by decide +kernel
theorem dX5_truncate_21 : decode cX5_truncate 21 = .ok (.ireturn, 1) := by decide +kernel
theorem dX5_errorPosition_0 : decode cX5_errorPosition 0 = .ok (.aload_n 0, 1) := by decide +kernel
theorem dX5_errorPosition_1 : decode cX5_errorPosition 1 = .ok (.getfield 26, 3) := by decide +kernel
theorem dX5_errorPosition_4 : decode cX5_errorPosition 4 = .ok (.invokevirtual 73, 3) := by decide +kernel
theorem dX5_errorPosition_7 : decode cX5_errorPosition 7 = .ok (.ireturn, 1) := by decide +kernel
theorem dX5_load_0 : decode cX5_load 0 = .ok (.aload_n 0, 1) := by decide +kernel
theorem dX5_load_1 : decode cX5_load 1 = .ok (.getfield 26, 3) := by decide +kernel
theorem dX5_load_4 : decode cX5_load 4 = .ok (.invokevirtual 73, 3) := by decide +kernel
theorem dX5_load_7 : decode cX5_load 7 = .ok (.iconst (-1), 1) := by decide +kernel
theorem dX5_load_8 : decode cX5_load 8 = .ok (.if_icmp .eq 13, 3) := by decide +kernel
theorem dX5_load_11 : decode cX5_load 11 = .ok (.new 77, 3) := by decide +kernel
theorem dX5_load_14 : decode cX5_load 14 = .ok (.dup, 1) := by decide +kernel
theorem dX5_load_15 : decode cX5_load 15 = .ok (.ldc 79, 2) := by decide +kernel
theorem dX5_load_17 : decode cX5_load 17 = .ok (.invokespecial 81, 3) := by decide +kernel
theorem dX5_load_20 : decode cX5_load 20 = .ok (.athrow, 1) := by decide +kernel
theorem dX5_load_21 : decode cX5_load 21 = .ok (.aload_n 0, 1) := by decide +kernel
theorem dX5_load_22 : decode cX5_load 22 = .ok (.getfield 17, 3) := by decide +kernel
theorem dX5_load_25 : decode cX5_load 25 = .ok (.aload_n 0, 1) := by decide +kernel
theorem dX5_load_26 : decode cX5_load 26 = .ok (.getfield 26, 3) := by decide +kernel
theorem dX5_load_29 : decode cX5_load 29 = .ok (.getfield 82, 3) := by decide +kernel
theorem dX5_load_32 : decode cX5_load 32 = .ok (.invokevirtual 85, 3) := by decide +kernel
theorem dX5_load_35 : decode cX5_load 35 = .ok (.aload_n 0, 1) := by decide +kernel
theorem dX5_load_36 : decode cX5_load 36 = .ok (.getfield 33, 3) := by decide +kernel
theorem dX5_load_39 : decode cX5_load 39 = .ok (.invokevirtual 88, 3) := by decide +kernel
theorem dX5_load_42 : decode cX5_load 42 = .ok (.aload_n 0, 1) := by decide +kernel
theorem dX5_load_43 : decode cX5_load 43 = .ok (.getfield 26, 3) := by decide +kernel
theorem dX5_load_46 : decode cX5_load 46 = .ok (.iconst 0, 1) := by decide +kernel
theorem dX5_load_47 : decode cX5_load 47 = .ok (.putfield 55, 3) := by decide +kernel
theorem dX5_load_50 : decode cX5_load 50 = .ok (.aload_n 0, 1) := by decide +kernel
theorem dX5_load_51 : decode cX5_load 51 = .ok (.getfield 17, 3) := by decide +kernel
theorem dX5_load_54 : decode cX5_load 54 = .ok (.getfield 91, 3) := by decide +kernel
theorem dX5_load_57 : decode cX5_load 57 = .ok (.getfield 95, 3) := by decide +kernel
theorem dX5_load_60 : decode cX5_load 60 = .ok (.ireturn, 1) := by decide +kernel
theorem dX5_setRoute_0 : decode cX5_setRoute 0 = .ok (.aload_n 0, 1) := by decide +kernel
theorem dX5_setRoute_1 : decode cX5_setRoute 1 = .ok (.getfield 17, 3) := by decide +kernel
theorem dX5_setRoute_4 : decode cX5_setRoute 4 = .ok (.getfield 91, 3) := by decide +kernel
theorem dX5_setRoute_7 : decode cX5_setRoute 7 = .ok (.iload_n 1, 1) := by decide +kernel
theorem dX5_setRoute_8 : decode cX5_setRoute 8 = .ok (.invokestatic 100, 3) := by decide +kernel
theorem dX5_setRoute_11 : decode cX5_setRoute 11 = .ok (.iload_n 2, 1) := by decide +kernel
theorem dX5_setRoute_12 : decode cX5_setRoute 12 = .ok (.iconst 0, 1) := by decide +kernel
theorem dX5_setRoute_13 : decode cX5_setRoute 13 = .ok (.bipush 29, 2) := by decide +kernel
theorem dX5_setRoute_15 : decode cX5_setRoute 15 = .ok (.invokestatic 70, 3) := by decide +kernel
theorem dX5_setRoute_18 : decode cX5_setRoute 18 = .ok (.aload_n 0, 1) := by decide +kernel
theorem dX5_setRoute_19 : decode cX5_setRoute 19 = .ok (.getfield 17, 3) := by decide +kernel
theorem dX5_setRoute_22 : decode cX5_setRoute 22 = .ok (.iload_n 1, 1) := by decide +kernel
theorem dX5_setRoute_23 : decode cX5_setRoute 23 = .ok (.invokevirtual 104, 3) := by decide +kernel
theorem dX5_setRoute_26 : decode cX5_setRoute 26 = .ok (.ifCond .eq 13, 3) := by decide +kernel
theorem dX5_setRoute_29 : decode cX5_setRoute 29 = .ok (.new 59, 3) := by decide +kernel
theorem dX5_setRoute_32 : decode cX5_setRoute 32 = .ok (.dup, 1) := by decide +kernel
theorem dX5_setRoute_33 : decode cX5_setRoute 33 = .ok (.ldc 108, 2) := by decide +kernel
theorem dX5_setRoute_35 : decode cX5_setRoute 35 = .ok (.invokespecial 63, 3) := by decide +kernel
theorem dX5_setRoute_38 : decode cX5_setRoute 38 = .ok (.athrow, 1) := by decide +kernel
theorem dX5_setRoute_39 : decode cX5_setRoute 39 = .ok (.aload_n 0, 1) := by decide +kernel
theorem dX5_setRoute_40 : decode cX5_setRoute 40 = .ok (.getfield 17, 3) := by decide +kernel
theorem dX5_setRoute_43 : decode cX5_setRoute 43 = .ok (.iload_n 1, 1) := by decide +kernel
theorem dX5_setRoute_44 : decode cX5_setRoute 44 = .ok (.invokevirtual 110, 3) := by decide +kernel
theorem dX5_setRoute_47 : decode cX5_setRoute 47 = .ok (.iconst 5, 1) := by decide +kernel
theorem dX5_setRoute_48 : decode cX5_setRoute 48 = .ok (.if_icmp .ge 16, 3) := by decide +kernel
theorem dX5_setRoute_51 : decode cX5_setRoute 51 = .ok (.aload_n 0, 1) := by decide +kernel
theorem dX5_setRoute_52 : decode cX5_setRoute 52 = .ok (.getfield 17, 3) := by decide +kernel
theorem dX5_setRoute_55 : decode cX5_setRoute 55 = .ok (.getfield 113, 3) := by decide +kernel
theorem dX5_setRoute_58 : decode cX5_setRoute 58 = .ok (.invokevirtual 116, 3) := by decide +kernel
theorem dX5_setRoute_61 : decode cX5_setRoute 61 = .ok (.ifCond .eq 13, 3) := by decide +kernel
theorem dX5_setRoute_64 : decode cX5_setRoute 64 = .ok (.new 59, 3) := by decide +kernel
theorem dX5_setRoute_67 : decode cX5_setRoute 67 = .ok (.dup, 1) := by decide +kernel
theorem dX5_setRoute_68 : decode cX5_setRoute 68 = .ok (.ldc 120, 2) := by decide +kernel
theorem dX5_setRoute_70 : decode cX5_setRoute 70 = .ok (.invokespecial 63, 3) := by decide +kernel
theorem dX5_setRoute_73 : decode cX5_setRoute 73 = .ok (.athrow, 1) := by decide +kernel
theorem dX5_setRoute_74 : decode cX5_setRoute 74 = .ok (.aload_n 0, 1) := by decide +kernel
theorem dX5_setRoute_75 : decode cX5_setRoute 75 = .ok (.getfield 33, 3) := by decide +kernel
theorem dX5_setRoute_78 : decode cX5_setRoute 78 = .ok (.aload_n 0, 1) := by decide +kernel
theorem dX5_setRoute_79 : decode cX5_setRoute 79 = .ok (.getfield 17, 3) := by decide +kernel
theorem dX5_setRoute_82 : decode cX5_setRoute 82 = .ok (.invokevirtual 122, 3) := by decide +kernel
theorem dX5_setRoute_85 : decode cX5_setRoute 85 = .ok (.aload_n 0, 1) := by decide +kernel
theorem dX5_setRoute_86 : decode cX5_setRoute 86 = .ok (.getfield 17, 3) := by decide +kernel
theorem dX5_setRoute_89 : decode cX5_setRoute 89 = .ok (.iload_n 1, 1) := by decide +kernel
theorem dX5_setRoute_90 : decode cX5_setRoute 90 = .ok (.iload_n 2, 1) := by decide +kernel
theorem dX5_setRoute_91 : decode cX5_setRoute 91 = .ok (.invokevirtual 125, 3) := by decide +kernel
theorem dX5_setRoute_94 : decode cX5_setRoute 94 = .ok (.ireturn, 1) := by decide +kernel
theorem dX5_removeRoute_0 : decode cX5_removeRoute 0 = .ok (.aload_n 0, 1) := by decide +kernel
theorem dX5_removeRoute_1 : decode cX5_removeRoute 1 = .ok (.getfield 17, 3) := by decide +kernel
theorem dX5_removeRoute_4 : decode cX5_removeRoute 4 = .ok (.getfield 113, 3) := by decide +kernel
theorem dX5_removeRoute_7 : decode cX5_removeRoute 7 = .ok (.iload_n 1, 1) := by decide +kernel
theorem dX5_removeRoute_8 : decode cX5_removeRoute 8 = .ok (.invokestatic 100, 3) := by decide +kernel
theorem dX5_removeRoute_11 : decode cX5_removeRoute 11 = .ok (.aload_n 0, 1) := by decide +kernel
theorem dX5_removeRoute_12 : decode cX5_removeRoute 12 = .ok (.getfield 33, 3) := by decide +kernel
theorem dX5_removeRoute_15 : decode cX5_removeRoute 15 = .ok (.aload_n 0, 1) := by decide +kernel
theorem dX5_removeRoute_16 : decode cX5_removeRoute 16 = .ok (.getfield 17, 3) := by decide +kernel
theorem dX5_removeRoute_19 : decode cX5_removeRoute 19 = .ok (.invokevirtual 122, 3) := by decide +kernel
theorem dX5_removeRoute_22 : decode cX5_removeRoute 22 = .ok (.aload_n 0, 1) := by decide +kernel
theorem dX5_removeRoute_23 : decode cX5_removeRoute 23 = .ok (.getfield 17, 3) := by decide +kernel
theorem dX5_removeRoute_26 : decode cX5_removeRoute 26 = .ok (.iload_n 1, 1) := by decide +kernel
theorem dX5_removeRoute_27 : decode cX5_removeRoute 27 = .ok (.invokevirtual 129, 3) := by decide +kernel
theorem dX5_removeRoute_30 : decode cX5_removeRoute 30 = .ok (.ireturn, 1) := by decide +kernel
theorem dX5_climb_0 : decode cX5_climb 0 = .ok (.aload_n 0, 1) := by decide +kernel
theorem dX5_climb_1 : decode cX5_climb 1 = .ok (.getfield 17, 3) := by decide +kernel
theorem dX5_climb_4 : decode cX5_climb 4 = .ok (.getfield 132, 3) := by decide +kernel
theorem dX5_climb_7 : decode cX5_climb 7 = .ok (.iload_n 1, 1) := by decide +kernel
theorem dX5_climb_8 : decode cX5_climb 8 = .ok (.invokestatic 100, 3) := by decide +kernel
theorem dX5_climb_11 : decode cX5_climb 11 = .ok (.aload_n 0, 1) := by decide +kernel
theorem dX5_climb_12 : decode cX5_climb 12 = .ok (.getfield 17, 3) := by decide +kernel
theorem dX5_climb_15 : decode cX5_climb 15 = .ok (.getfield 113, 3) := by decide +kernel
theorem dX5_climb_18 : decode cX5_climb 18 = .ok (.iload_n 2, 1) := by decide +kernel
theorem dX5_climb_19 : decode cX5_climb 19 = .ok (.invokestatic 100, 3) := by decide +kernel
theorem dX5_climb_22 : decode cX5_climb 22 = .ok (.aload_n 0, 1) := by decide +kernel
theorem dX5_climb_23 : decode cX5_climb 23 = .ok (.getfield 17, 3) := by decide +kernel
theorem dX5_climb_26 : decode cX5_climb 26 = .ok (.iload_n 1, 1) := by decide +kernel
theorem dX5_climb_27 : decode cX5_climb 27 = .ok (.iload_n 2, 1) := by decide +kernel
theorem dX5_climb_28 : decode cX5_climb 28 = .ok (.invokevirtual 135, 3) := by decide +kernel
theorem dX5_climb_31 : decode cX5_climb 31 = .ok (.ifCond .ne 13, 3) := by decide +kernel
theorem dX5_climb_34 : decode cX5_climb 34 = .ok (.new 59, 3) := by decide +kernel
theorem dX5_climb_37 : decode cX5_climb 37 = .ok (.dup, 1) := by decide +kernel
theorem dX5_climb_38 : decode cX5_climb 38 = .ok (.ldc 139, 2) := by decide +kernel
theorem dX5_climb_40 : decode cX5_climb 40 = .ok (.invokespecial 63, 3) := by decide +kernel
theorem dX5_climb_43 : decode cX5_climb 43 = .ok (.athrow, 1) := by decide +kernel
theorem dX5_climb_44 : decode cX5_climb 44 = .ok (.aload_n 0, 1) := by decide +kernel
theorem dX5_climb_45 : decode cX5_climb 45 = .ok (.getfield 33, 3) := by decide +kernel
theorem dX5_climb_48 : decode cX5_climb 48 = .ok (.aload_n 0, 1) := by decide +kernel
theorem dX5_climb_49 : decode cX5_climb 49 = .ok (.getfield 17, 3) := by decide +kernel
theorem dX5_climb_52 : decode cX5_climb 52 = .ok (.invokevirtual 122, 3) := by decide +kernel
theorem dX5_climb_55 : decode cX5_climb 55 = .ok (.aload_n 0, 1) := by decide +kernel
theorem dX5_climb_56 : decode cX5_climb 56 = .ok (.getfield 17, 3) := by decide +kernel
theorem dX5_climb_59 : decode cX5_climb 59 = .ok (.iload_n 1, 1) := by decide +kernel
theorem dX5_climb_60 : decode cX5_climb 60 = .ok (.iload_n 2, 1) := by decide +kernel
theorem dX5_climb_61 : decode cX5_climb 61 = .ok (.invokevirtual 141, 3) := by decide +kernel
theorem dX5_climb_64 : decode cX5_climb 64 = .ok (.ireturn, 1) := by decide +kernel
theorem dX5_vote_0 : decode cX5_vote 0 = .ok (.aload_n 0, 1) := by decide +kernel
theorem dX5_vote_1 : decode cX5_vote 1 = .ok (.getfield 17, 3) := by decide +kernel
theorem dX5_vote_4 : decode cX5_vote 4 = .ok (.getfield 132, 3) := by decide +kernel
theorem dX5_vote_7 : decode cX5_vote 7 = .ok (.iload_n 1, 1) := by decide +kernel
theorem dX5_vote_8 : decode cX5_vote 8 = .ok (.invokestatic 100, 3) := by decide +kernel
theorem dX5_vote_11 : decode cX5_vote 11 = .ok (.aload_n 0, 1) := by decide +kernel
theorem dX5_vote_12 : decode cX5_vote 12 = .ok (.getfield 17, 3) := by decide +kernel
theorem dX5_vote_15 : decode cX5_vote 15 = .ok (.getfield 113, 3) := by decide +kernel
theorem dX5_vote_18 : decode cX5_vote 18 = .ok (.iload_n 2, 1) := by decide +kernel
theorem dX5_vote_19 : decode cX5_vote 19 = .ok (.invokestatic 100, 3) := by decide +kernel
theorem dX5_vote_22 : decode cX5_vote 22 = .ok (.iload_n 3, 1) := by decide +kernel
theorem dX5_vote_23 : decode cX5_vote 23 = .ok (.iconst 0, 1) := by decide +kernel
theorem dX5_vote_24 : decode cX5_vote 24 = .ok (.bipush 29, 2) := by decide +kernel
theorem dX5_vote_26 : decode cX5_vote 26 = .ok (.invokestatic 70, 3) := by decide +kernel
theorem dX5_vote_29 : decode cX5_vote 29 = .ok (.aload_n 0, 1) := by decide +kernel
theorem dX5_vote_30 : decode cX5_vote 30 = .ok (.getfield 17, 3) := by decide +kernel
theorem dX5_vote_33 : decode cX5_vote 33 = .ok (.iload_n 1, 1) := by decide +kernel
theorem dX5_vote_34 : decode cX5_vote 34 = .ok (.iload_n 2, 1) := by decide +kernel
theorem dX5_vote_35 : decode cX5_vote 35 = .ok (.invokevirtual 144, 3) := by decide +kernel
theorem dX5_vote_38 : decode cX5_vote 38 = .ok (.ifCond .ne 13, 3) := by decide +kernel
theorem dX5_vote_41 : decode cX5_vote 41 = .ok (.new 59, 3) := by decide +kernel
theorem dX5_vote_44 : decode cX5_vote 44 = .ok (.dup, 1) := by decide +kernel
theorem dX5_vote_45 : decode cX5_vote 45 = .ok (.ldc 147, 2) := by decide +kernel
theorem dX5_vote_47 : decode cX5_vote 47 = .ok (.invokespecial 63, 3) := by decide +kernel
theorem dX5_vote_50 : decode cX5_vote 50 = .ok (.athrow, 1) := by decide +kernel
theorem dX5_vote_51 : decode cX5_vote 51 = .ok (.aload_n 0, 1) := by decide +kernel
theorem dX5_vote_52 : decode cX5_vote 52 = .ok (.getfield 33, 3) := by decide +kernel
theorem dX5_vote_55 : decode cX5_vote 55 = .ok (.aload_n 0, 1) := by decide +kernel
theorem dX5_vote_56 : decode cX5_vote 56 = .ok (.getfield 17, 3) := by decide +kernel
theorem dX5_vote_59 : decode cX5_vote 59 = .ok (.invokevirtual 122, 3) := by decide +kernel
theorem dX5_vote_62 : decode cX5_vote 62 = .ok (.aload_n 0, 1) := by decide +kernel
theorem dX5_vote_63 : decode cX5_vote 63 = .ok (.getfield 17, 3) := by decide +kernel
theorem dX5_vote_66 : decode cX5_vote 66 = .ok (.getfield 113, 3) := by decide +kernel
theorem dX5_vote_69 : decode cX5_vote 69 = .ok (.iload_n 2, 1) := by decide +kernel
theorem dX5_vote_70 : decode cX5_vote 70 = .ok (.bipush 6, 2) := by decide +kernel
theorem dX5_vote_72 : decode cX5_vote 72 = .ok (.iload_n 1, 1) := by decide +kernel
theorem dX5_vote_73 : decode cX5_vote 73 = .ok (.iadd, 1) := by decide +kernel
theorem dX5_vote_74 : decode cX5_vote 74 = .ok (.iload_n 3, 1) := by decide +kernel
theorem dX5_vote_75 : decode cX5_vote 75 = .ok (.invokevirtual 149, 3) := by decide +kernel
theorem dX5_vote_78 : decode cX5_vote 78 = .ok (.aload_n 0, 1) := by decide +kernel
theorem dX5_vote_79 : decode cX5_vote 79 = .ok (.getfield 17, 3) := by decide +kernel
theorem dX5_vote_82 : decode cX5_vote 82 = .ok (.iload_n 2, 1) := by decide +kernel
theorem dX5_vote_83 : decode cX5_vote 83 = .ok (.invokevirtual 152, 3) := by decide +kernel
theorem dX5_vote_86 : decode cX5_vote 86 = .ok (.ireturn, 1) := by decide +kernel
theorem dX5_lend_0 : decode cX5_lend 0 = .ok (.aload_n 0, 1) := by decide +kernel
theorem dX5_lend_1 : decode cX5_lend 1 = .ok (.getfield 17, 3) := by decide +kernel
theorem dX5_lend_4 : decode cX5_lend 4 = .ok (.getfield 132, 3) := by decide +kernel
theorem dX5_lend_7 : decode cX5_lend 7 = .ok (.iload_n 1, 1) := by decide +kernel
theorem dX5_lend_8 : decode cX5_lend 8 = .ok (.invokestatic 100, 3) := by decide +kernel
theorem dX5_lend_11 : decode cX5_lend 11 = .ok (.aload_n 0, 1) := by decide +kernel
theorem dX5_lend_12 : decode cX5_lend 12 = .ok (.getfield 17, 3) := by decide +kernel
theorem dX5_lend_15 : decode cX5_lend 15 = .ok (.getfield 155, 3) := by decide +kernel
theorem dX5_lend_18 : decode cX5_lend 18 = .ok (.iload_n 2, 1) := by decide +kernel
theorem dX5_lend_19 : decode cX5_lend 19 = .ok (.invokestatic 100, 3) := by decide +kernel
theorem dX5_lend_22 : decode cX5_lend 22 = .ok (.aload_n 0, 1) := by decide +kernel
theorem dX5_lend_23 : decode cX5_lend 23 = .ok (.getfield 17, 3) := by decide +kernel
theorem dX5_lend_26 : decode cX5_lend 26 = .ok (.iload_n 1, 1) := by decide +kernel
theorem dX5_lend_27 : decode cX5_lend 27 = .ok (.invokevirtual 158, 3) := by decide +kernel
theorem dX5_lend_30 : decode cX5_lend 30 = .ok (.iconst (-1), 1) := by decide +kernel
theorem dX5_lend_31 : decode cX5_lend 31 = .ok (.if_icmp .eq 13, 3) := by decide +kernel
theorem dX5_lend_34 : decode cX5_lend 34 = .ok (.new 59, 3) := by decide +kernel
theorem dX5_lend_37 : decode cX5_lend 37 = .ok (.dup, 1) := by decide +kernel
theorem dX5_lend_38 : decode cX5_lend 38 = .ok (.ldc 161, 2) := by decide +kernel
theorem dX5_lend_40 : decode cX5_lend 40 = .ok (.invokespecial 63, 3) := by decide +kernel
theorem dX5_lend_43 : decode cX5_lend 43 = .ok (.athrow, 1) := by decide +kernel
theorem dX5_lend_44 : decode cX5_lend 44 = .ok (.aload_n 0, 1) := by decide +kernel
theorem dX5_lend_45 : decode cX5_lend 45 = .ok (.getfield 17, 3) := by decide +kernel
theorem dX5_lend_48 : decode cX5_lend 48 = .ok (.getfield 132, 3) := by decide +kernel
theorem dX5_lend_51 : decode cX5_lend 51 = .ok (.iload_n 1, 1) := by decide +kernel
theorem dX5_lend_52 : decode cX5_lend 52 = .ok (.iconst 0, 1) := by decide +kernel
theorem dX5_lend_53 : decode cX5_lend 53 = .ok (.invokevirtual 163, 3) := by decide +kernel
theorem dX5_lend_56 : decode cX5_lend 56 = .ok (.aload_n 0, 1) := by decide +kernel
theorem dX5_lend_57 : decode cX5_lend 57 = .ok (.getfield 17, 3) := by decide +kernel
theorem dX5_lend_60 : decode cX5_lend 60 = .ok (.getfield 155, 3) := by decide +kernel
theorem dX5_lend_63 : decode cX5_lend 63 = .ok (.iload_n 2, 1) := by decide +kernel
theorem dX5_lend_64 : decode cX5_lend 64 = .ok (.iconst 0, 1) := by decide +kernel
theorem dX5_lend_65 : decode cX5_lend 65 = .ok (.invokevirtual 163, 3) := by decide +kernel
theorem dX5_lend_68 : decode cX5_lend 68 = .ok (.if_icmp .eq 13, 3) := by decide +kernel
theorem dX5_lend_71 : decode cX5_lend 71 = .ok (.new 59, 3) := by decide +kernel
theorem dX5_lend_74 : decode cX5_lend 74 = .ok (.dup, 1) := by decide +kernel
theorem dX5_lend_75 : decode cX5_lend 75 = .ok (.ldc 166, 2) := by decide +kernel
theorem dX5_lend_77 : decode cX5_lend 77 = .ok (.invokespecial 63, 3) := by decide +kernel
theorem dX5_lend_80 : decode cX5_lend 80 = .ok (.athrow, 1) := by decide +kernel
theorem dX5_lend_81 : decode cX5_lend 81 = .ok (.aload_n 0, 1) := by decide +kernel
theorem dX5_lend_82 : decode cX5_lend 82 = .ok (.getfield 17, 3) := by decide +kernel
theorem dX5_lend_85 : decode cX5_lend 85 = .ok (.iload_n 2, 1) := by decide +kernel
theorem dX5_lend_86 : decode cX5_lend 86 = .ok (.invokevirtual 168, 3) := by decide +kernel
theorem dX5_lend_89 : decode cX5_lend 89 = .ok (.ifCond .ne 13, 3) := by decide +kernel
theorem dX5_lend_92 : decode cX5_lend 92 = .ok (.new 59, 3) := by decide +kernel
theorem dX5_lend_95 : decode cX5_lend 95 = .ok (.dup, 1) := by decide +kernel
theorem dX5_lend_96 : decode cX5_lend 96 = .ok (.ldc 171, 2) := by decide +kernel
theorem dX5_lend_98 : decode cX5_lend 98 = .ok (.invokespecial 63, 3) := by decide +kernel
theorem dX5_lend_101 : decode cX5_lend 101 = .ok (.athrow, 1) := by decide +kernel
theorem dX5_lend_102 : decode cX5_lend 102 = .ok (.aload_n 0, 1) := by decide +kernel
theorem dX5_lend_103 : decode cX5_lend 103 = .ok (.getfield 33, 3) := by decide +kernel
theorem dX5_lend_106 : decode cX5_lend 106 = .ok (.aload_n 0, 1) := by decide +kernel
theorem dX5_lend_107 : decode cX5_lend 107 = .ok (.getfield 17, 3) := by decide +kernel
theorem dX5_lend_110 : decode cX5_lend 110 = .ok (.invokevirtual 122, 3) := by decide +kernel
theorem dX5_lend_113 : decode cX5_lend 113 = .ok (.aload_n 0, 1) := by decide +kernel
theorem dX5_lend_114 : decode cX5_lend 114 = .ok (.getfield 17, 3) := by decide +kernel
theorem dX5_lend_117 : decode cX5_lend 117 = .ok (.getfield 132, 3) := by decide +kernel
theorem dX5_lend_120 : decode cX5_lend 120 = .ok (.iload_n 1, 1) := by decide +kernel
theorem dX5_lend_121 : decode cX5_lend 121 = .ok (.iconst 3, 1) := by decide +kernel
theorem dX5_lend_122 : decode cX5_lend 122 = .ok (.iload_n 2, 1) := by decide +kernel
theorem dX5_lend_123 : decode cX5_lend 123 = .ok (.invokevirtual 149, 3) := by decide +kernel
theorem dX5_lend_126 : decode cX5_lend 126 = .ok (.aload_n 0, 1) := by decide +kernel
theorem dX5_lend_127 : decode cX5_lend 127 = .ok (.getfield 17, 3) := by decide +kernel
theorem dX5_lend_130 : decode cX5_lend 130 = .ok (.iload_n 2, 1) := by decide +kernel
theorem dX5_lend_131 : decode cX5_lend 131 = .ok (.invokevirtual 173, 3) := by decide +kernel
theorem dX5_lend_134 : decode cX5_lend 134 = .ok (.ireturn, 1) := by decide +kernel
theorem dX5_giveBack_0 : decode cX5_giveBack 0 = .ok (.aload_n 0, 1) := by decide +kernel
theorem dX5_giveBack_1 : decode cX5_giveBack 1 = .ok (.getfield 17, 3) := by decide +kernel
theorem dX5_giveBack_4 : decode cX5_giveBack 4 = .ok (.getfield 132, 3) := by decide +kernel
theorem dX5_giveBack_7 : decode cX5_giveBack 7 = .ok (.iload_n 1, 1) := by decide +kernel
theorem dX5_giveBack_8 : decode cX5_giveBack 8 = .ok (.invokestatic 100, 3) := by decide +kernel
theorem dX5_giveBack_11 : decode cX5_giveBack 11 = .ok (.aload_n 0, 1) := by decide +kernel
theorem dX5_giveBack_12 : decode cX5_giveBack 12 = .ok (.getfield 17, 3) := by decide +kernel
theorem dX5_giveBack_15 : decode cX5_giveBack 15 = .ok (.iload_n 1, 1) := by decide +kernel
theorem dX5_giveBack_16 : decode cX5_giveBack 16 = .ok (.invokevirtual 158, 3) := by decide +kernel
theorem dX5_giveBack_19 : decode cX5_giveBack 19 = .ok (.istore_n 2, 1) := by decide +kernel
theorem dX5_giveBack_20 : decode cX5_giveBack 20 = .ok (.iload_n 2, 1) := by decide +kernel
theorem dX5_giveBack_21 : decode cX5_giveBack 21 = .ok (.iconst (-1), 1) := by decide +kernel
theorem dX5_giveBack_22 : decode cX5_giveBack 22 = .ok (.if_icmp .ne 13, 3) := by decide +kernel
theorem dX5_giveBack_25 : decode cX5_giveBack 25 = .ok (.new 59, 3) := by decide +kernel
theorem dX5_giveBack_28 : decode cX5_giveBack 28 = .ok (.dup, 1) := by decide +kernel
theorem dX5_giveBack_29 : decode cX5_giveBack 29 = .ok (.ldc 176, 2) := by decide +kernel
theorem dX5_giveBack_31 : decode cX5_giveBack 31 = .ok (.invokespecial 63, 3) := by decide +kernel
theorem dX5_giveBack_34 : decode cX5_giveBack 34 = .ok (.athrow, 1) := by decide +kernel
theorem dX5_giveBack_35 : decode cX5_giveBack 35 = .ok (.aload_n 0, 1) := by decide +kernel
theorem dX5_giveBack_36 : decode cX5_giveBack 36 = .ok (.getfield 33, 3) := by decide +kernel
theorem dX5_giveBack_39 : decode cX5_giveBack 39 = .ok (.aload_n 0, 1) := by decide +kernel
theorem dX5_giveBack_40 : decode cX5_giveBack 40 = .ok (.getfield 17, 3) := by decide +kernel
theorem dX5_giveBack_43 : decode cX5_giveBack 43 = .ok (.invokevirtual 122, 3) := by decide +kernel
theorem dX5_giveBack_46 : decode cX5_giveBack 46 = .ok (.aload_n 0, 1) := by decide +kernel
theorem dX5_giveBack_47 : decode cX5_giveBack 47 = .ok (.getfield 17, 3) := by decide +kernel
theorem dX5_giveBack_50 : decode cX5_giveBack 50 = .ok (.getfield 132, 3) := by decide +kernel
theorem dX5_giveBack_53 : decode cX5_giveBack 53 = .ok (.iload_n 1, 1) := by decide +kernel
theorem dX5_giveBack_54 : decode cX5_giveBack 54 = .ok (.iconst 3, 1) := by decide +kernel
theorem dX5_giveBack_55 : decode cX5_giveBack 55 = .ok (.iconst (-1), 1) := by decide +kernel
theorem dX5_giveBack_56 : decode cX5_giveBack 56 = .ok (.invokevirtual 149, 3) := by decide +kernel
theorem dX5_giveBack_59 : decode cX5_giveBack 59 = .ok (.iload_n 2, 1) := by decide +kernel
theorem dX5_giveBack_60 : decode cX5_giveBack 60 = .ok (.ireturn, 1) := by decide +kernel
theorem dX5_check_0 : decode cX5_check 0 = .ok (.aload_n 0, 1) := by decide +kernel
theorem dX5_check_1 : decode cX5_check 1 = .ok (.getfield 17, 3) := by decide +kernel
theorem dX5_check_4 : decode cX5_check 4 = .ok (.getfield 155, 3) := by decide +kernel
theorem dX5_check_7 : decode cX5_check 7 = .ok (.iload_n 1, 1) := by decide +kernel
theorem dX5_check_8 : decode cX5_check 8 = .ok (.invokestatic 100, 3) := by decide +kernel
theorem dX5_check_11 : decode cX5_check 11 = .ok (.aload_n 0, 1) := by decide +kernel
theorem dX5_check_12 : decode cX5_check 12 = .ok (.getfield 17, 3) := by decide +kernel
theorem dX5_check_15 : decode cX5_check 15 = .ok (.iload_n 1, 1) := by decide +kernel
theorem dX5_check_16 : decode cX5_check 16 = .ok (.invokevirtual 178, 3) := by decide +kernel
theorem dX5_check_19 : decode cX5_check 19 = .ok (.ifCond .eq 13, 3) := by decide +kernel
theorem dX5_check_22 : decode cX5_check 22 = .ok (.new 59, 3) := by decide +kernel
theorem dX5_check_25 : decode cX5_check 25 = .ok (.dup, 1) := by decide +kernel
theorem dX5_check_26 : decode cX5_check 26 = .ok (.ldc 181, 2) := by decide +kernel
theorem dX5_check_28 : decode cX5_check 28 = .ok (.invokespecial 63, 3) := by decide +kernel
theorem dX5_check_31 : decode cX5_check 31 = .ok (.athrow, 1) := by decide +kernel
theorem dX5_check_32 : decode cX5_check 32 = .ok (.aload_n 0, 1) := by decide +kernel
theorem dX5_check_33 : decode cX5_check 33 = .ok (.getfield 33, 3) := by decide +kernel
theorem dX5_check_36 : decode cX5_check 36 = .ok (.aload_n 0, 1) := by decide +kernel
theorem dX5_check_37 : decode cX5_check 37 = .ok (.getfield 17, 3) := by decide +kernel
theorem dX5_check_40 : decode cX5_check 40 = .ok (.invokevirtual 122, 3) := by decide +kernel
theorem dX5_check_43 : decode cX5_check 43 = .ok (.aload_n 0, 1) := by decide +kernel
theorem dX5_check_44 : decode cX5_check 44 = .ok (.getfield 17, 3) := by decide +kernel
theorem dX5_check_47 : decode cX5_check 47 = .ok (.iload_n 1, 1) := by decide +kernel
theorem dX5_check_48 : decode cX5_check 48 = .ok (.iload_n 2, 1) := by decide +kernel
theorem dX5_check_49 : decode cX5_check 49 = .ok (.invokevirtual 183, 3) := by decide +kernel
theorem dX5_check_52 : decode cX5_check 52 = .ok (.iload_n 2, 1) := by decide +kernel
theorem dX5_check_53 : decode cX5_check 53 = .ok (.ifCond .eq 14, 3) := by decide +kernel
theorem dX5_check_56 : decode cX5_check 56 = .ok (.aload_n 0, 1) := by decide +kernel
theorem dX5_check_57 : decode cX5_check 57 = .ok (.getfield 17, 3) := by decide +kernel
theorem dX5_check_60 : decode cX5_check 60 = .ok (.iload_n 1, 1) := by decide +kernel
theorem dX5_check_61 : decode cX5_check 61 = .ok (.invokevirtual 173, 3) := by decide +kernel
theorem dX5_check_64 : decode cX5_check 64 = .ok (.goto 4, 3) := by decide +kernel
theorem dX5_check_67 : decode cX5_check 67 = .ok (.iconst (-1), 1) := by decide +kernel
theorem dX5_check_68 : decode cX5_check 68 = .ok (.ireturn, 1) := by decide +kernel
theorem dX5_enroll_0 : decode cX5_enroll 0 = .ok (.aload_n 0, 1) := by decide +kernel
theorem dX5_enroll_1 : decode cX5_enroll 1 = .ok (.getfield 17, 3) := by decide +kernel
theorem dX5_enroll_4 : decode cX5_enroll 4 = .ok (.getfield 132, 3) := by decide +kernel
theorem dX5_enroll_7 : decode cX5_enroll 7 = .ok (.iload_n 1, 1) := by decide +kernel
theorem dX5_enroll_8 : decode cX5_enroll 8 = .ok (.invokestatic 100, 3) := by decide +kernel
theorem dX5_enroll_11 : decode cX5_enroll 11 = .ok (.aload_n 0, 1) := by decide +kernel
theorem dX5_enroll_12 : decode cX5_enroll 12 = .ok (.getfield 17, 3) := by decide +kernel
theorem dX5_enroll_15 : decode cX5_enroll 15 = .ok (.getfield 187, 3) := by decide +kernel
theorem dX5_enroll_18 : decode cX5_enroll 18 = .ok (.iload_n 2, 1) := by decide +kernel
theorem dX5_enroll_19 : decode cX5_enroll 19 = .ok (.invokestatic 100, 3) := by decide +kernel
theorem dX5_enroll_22 : decode cX5_enroll 22 = .ok (.aload_n 0, 1) := by decide +kernel
theorem dX5_enroll_23 : decode cX5_enroll 23 = .ok (.getfield 17, 3) := by decide +kernel
theorem dX5_enroll_26 : decode cX5_enroll 26 = .ok (.iload_n 1, 1) := by decide +kernel
theorem dX5_enroll_27 : decode cX5_enroll 27 = .ok (.iload_n 2, 1) := by decide +kernel
theorem dX5_enroll_28 : decode cX5_enroll 28 = .ok (.invokevirtual 190, 3) := by decide +kernel
theorem dX5_enroll_31 : decode cX5_enroll 31 = .ok (.ifCond .ne 13, 3) := by decide +kernel
theorem dX5_enroll_34 : decode cX5_enroll 34 = .ok (.new 59, 3) := by decide +kernel
theorem dX5_enroll_37 : decode cX5_enroll 37 = .ok (.dup, 1) := by decide +kernel
theorem dX5_enroll_38 : decode cX5_enroll 38 = .ok (.ldc 193, 2) := by decide +kernel
theorem dX5_enroll_40 : decode cX5_enroll 40 = .ok (.invokespecial 63, 3) := by decide +kernel
theorem dX5_enroll_43 : decode cX5_enroll 43 = .ok (.athrow, 1) := by decide +kernel
theorem dX5_enroll_44 : decode cX5_enroll 44 = .ok (.aload_n 0, 1) := by decide +kernel
theorem dX5_enroll_45 : decode cX5_enroll 45 = .ok (.getfield 33, 3) := by decide +kernel
theorem dX5_enroll_48 : decode cX5_enroll 48 = .ok (.aload_n 0, 1) := by decide +kernel
theorem dX5_enroll_49 : decode cX5_enroll 49 = .ok (.getfield 17, 3) := by decide +kernel
theorem dX5_enroll_52 : decode cX5_enroll 52 = .ok (.invokevirtual 122, 3) := by decide +kernel
theorem dX5_enroll_55 : decode cX5_enroll 55 = .ok (.aload_n 0, 1) := by decide +kernel
theorem dX5_enroll_56 : decode cX5_enroll 56 = .ok (.getfield 17, 3) := by decide +kernel
theorem dX5_enroll_59 : decode cX5_enroll 59 = .ok (.getfield 132, 3) := by decide +kernel
theorem dX5_enroll_62 : decode cX5_enroll 62 = .ok (.iload_n 1, 1) := by decide +kernel
theorem dX5_enroll_63 : decode cX5_enroll 63 = .ok (.iconst 4, 1) := by decide +kernel
theorem dX5_enroll_64 : decode cX5_enroll 64 = .ok (.iload_n 2, 1) := by decide +kernel
theorem dX5_enroll_65 : decode cX5_enroll 65 = .ok (.invokevirtual 149, 3) := by decide +kernel
theorem dX5_enroll_68 : decode cX5_enroll 68 = .ok (.aload_n 0, 1) := by decide +kernel
theorem dX5_enroll_69 : decode cX5_enroll 69 = .ok (.getfield 17, 3) := by decide +kernel
theorem dX5_enroll_72 : decode cX5_enroll 72 = .ok (.iload_n 2, 1) := by decide +kernel
theorem dX5_enroll_73 : decode cX5_enroll 73 = .ok (.invokevirtual 195, 3) := by decide +kernel
theorem dX5_enroll_76 : decode cX5_enroll 76 = .ok (.invokestatic 198, 3) := by decide +kernel
theorem dX5_enroll_79 : decode cX5_enroll 79 = .ok (.ireturn, 1) := by decide +kernel
theorem dX5_leaveCourse_0 : decode cX5_leaveCourse 0 = .ok (.aload_n 0, 1) := by decide +kernel
theorem dX5_leaveCourse_1 : decode cX5_leaveCourse 1 = .ok (.getfield 17, 3) := by decide +kernel
theorem dX5_leaveCourse_4 : decode cX5_leaveCourse 4 = .ok (.getfield 132, 3) := by decide +kernel
theorem dX5_leaveCourse_7 : decode cX5_leaveCourse 7 = .ok (.iload_n 1, 1) := by decide +kernel
theorem dX5_leaveCourse_8 : decode cX5_leaveCourse 8 = .ok (.invokestatic 100, 3) := by decide +kernel
theorem dX5_leaveCourse_11 : decode cX5_leaveCourse 11 = .ok (.aload_n 0, 1) := by decide +kernel
theorem dX5_leaveCourse_12 : decode cX5_leaveCourse 12 = .ok (.getfield 17, 3) := by decide +kernel
theorem dX5_leaveCourse_15 : decode cX5_leaveCourse 15 = .ok (.getfield 132, 3) := by decide +kernel
theorem dX5_leaveCourse_18 : decode cX5_leaveCourse 18 = .ok (.iload_n 1, 1) := by decide +kernel
theorem dX5_leaveCourse_19 : decode cX5_leaveCourse 19 = .ok (.iconst 4, 1) := by decide +kernel
theorem dX5_leaveCourse_20 : decode cX5_leaveCourse 20 = .ok (.invokevirtual 163, 3) := by decide +kernel
theorem dX5_leaveCourse_23 : decode cX5_leaveCourse 23 = .ok (.istore_n 2, 1) := by decide +kernel
theorem dX5_leaveCourse_24 : decode cX5_leaveCourse 24 = .ok (.iload_n 2, 1) := by decide +kernel
theorem dX5_leaveCourse_25 : decode cX5_leaveCourse 25 = .ok (.iconst (-1), 1) := by decide +kernel
theorem dX5_leaveCourse_26 : decode cX5_leaveCourse 26 = .ok (.if_icmp .ne 13, 3) := by decide +kernel
theorem dX5_leaveCourse_29 : decode cX5_leaveCourse 29 = .ok (.new 59, 3) := by decide +kernel
theorem dX5_leaveCourse_32 : decode cX5_leaveCourse 32 = .ok (.dup, 1) := by decide +kernel
theorem dX5_leaveCourse_33 : decode cX5_leaveCourse 33 = .ok (.ldc 203, 2) := by decide +kernel
theorem dX5_leaveCourse_35 : decode cX5_leaveCourse 35 = .ok (.invokespecial 63, 3) := by decide +kernel
theorem dX5_leaveCourse_38 : decode cX5_leaveCourse 38 = .ok (.athrow, 1) := by decide +kernel
theorem dX5_leaveCourse_39 : decode cX5_leaveCourse 39 = .ok (.aload_n 0, 1) := by decide +kernel
theorem dX5_leaveCourse_40 : decode cX5_leaveCourse 40 = .ok (.getfield 33, 3) := by decide +kernel
theorem dX5_leaveCourse_43 : decode cX5_leaveCourse 43 = .ok (.aload_n 0, 1) := by decide +kernel
theorem dX5_leaveCourse_44 : decode cX5_leaveCourse 44 = .ok (.getfield 17, 3) := by decide +kernel
theorem dX5_leaveCourse_47 : decode cX5_leaveCourse 47 = .ok (.invokevirtual 122, 3) := by decide +kernel
theorem dX5_leaveCourse_50 : decode cX5_leaveCourse 50 = .ok (.aload_n 0, 1) := by decide +kernel
theorem dX5_leaveCourse_51 : decode cX5_leaveCourse 51 = .ok (.getfield 17, 3) := by decide +kernel
theorem dX5_leaveCourse_54 : decode cX5_leaveCourse 54 = .ok (.getfield 132, 3) := by decide +kernel
theorem dX5_leaveCourse_57 : decode cX5_leaveCourse 57 = .ok (.iload_n 1, 1) := by decide +kernel
theorem dX5_leaveCourse_58 : decode cX5_leaveCourse 58 = .ok (.iconst 4, 1) := by decide +kernel
theorem dX5_leaveCourse_59 : decode cX5_leaveCourse 59 = .ok (.iconst (-1), 1) := by decide +kernel
theorem dX5_leaveCourse_60 : decode cX5_leaveCourse 60 = .ok (.invokevirtual 149, 3) := by decide +kernel
theorem dX5_leaveCourse_63 : decode cX5_leaveCourse 63 = .ok (.iload_n 2, 1) := by decide +kernel
theorem dX5_leaveCourse_64 : decode cX5_leaveCourse 64 = .ok (.ireturn, 1) := by decide +kernel
theorem dX5_finish_0 : decode cX5_finish 0 = .ok (.aload_n 0, 1) := by decide +kernel
theorem dX5_finish_1 : decode cX5_finish 1 = .ok (.getfield 17, 3) := by decide +kernel
theorem dX5_finish_4 : decode cX5_finish 4 = .ok (.getfield 187, 3) := by decide +kernel
theorem dX5_finish_7 : decode cX5_finish 7 = .ok (.iload_n 1, 1) := by decide +kernel
theorem dX5_finish_8 : decode cX5_finish 8 = .ok (.invokestatic 100, 3) := by decide +kernel
theorem dX5_finish_11 : decode cX5_finish 11 = .ok (.aload_n 0, 1) := by decide +kernel
theorem dX5_finish_12 : decode cX5_finish 12 = .ok (.getfield 33, 3) := by decide +kernel
theorem dX5_finish_15 : decode cX5_finish 15 = .ok (.aload_n 0, 1) := by decide +kernel
theorem dX5_finish_16 : decode cX5_finish 16 = .ok (.getfield 17, 3) := by decide +kernel
theorem dX5_finish_19 : decode cX5_finish 19 = .ok (.invokevirtual 122, 3) := by decide +kernel
theorem dX5_finish_22 : decode cX5_finish 22 = .ok (.aload_n 0, 1) := by decide +kernel
theorem dX5_finish_23 : decode cX5_finish 23 = .ok (.getfield 17, 3) := by decide +kernel
theorem dX5_finish_26 : decode cX5_finish 26 = .ok (.iload_n 1, 1) := by decide +kernel
theorem dX5_finish_27 : decode cX5_finish 27 = .ok (.iload_n 2, 1) := by decide +kernel
theorem dX5_finish_28 : decode cX5_finish 28 = .ok (.invokevirtual 205, 3) := by decide +kernel
theorem dX5_finish_31 : decode cX5_finish 31 = .ok (.ireturn, 1) := by decide +kernel
theorem dX5_postpone_0 : decode cX5_postpone 0 = .ok (.aload_n 0, 1) := by decide +kernel
theorem dX5_postpone_1 : decode cX5_postpone 1 = .ok (.getfield 17, 3) := by decide +kernel
theorem dX5_postpone_4 : decode cX5_postpone 4 = .ok (.getfield 91, 3) := by decide +kernel
theorem dX5_postpone_7 : decode cX5_postpone 7 = .ok (.iload_n 1, 1) := by decide +kernel
theorem dX5_postpone_8 : decode cX5_postpone 8 = .ok (.invokestatic 100, 3) := by decide +kernel
theorem dX5_postpone_11 : decode cX5_postpone 11 = .ok (.iload_n 2, 1) := by decide +kernel
theorem dX5_postpone_12 : decode cX5_postpone 12 = .ok (.iconst 1, 1) := by decide +kernel
theorem dX5_postpone_13 : decode cX5_postpone 13 = .ok (.bipush 14, 2) := by decide +kernel
theorem dX5_postpone_15 : decode cX5_postpone 15 = .ok (.invokestatic 70, 3) := by decide +kernel
theorem dX5_postpone_18 : decode cX5_postpone 18 = .ok (.aload_n 0, 1) := by decide +kernel
theorem dX5_postpone_19 : decode cX5_postpone 19 = .ok (.getfield 33, 3) := by decide +kernel
theorem dX5_postpone_22 : decode cX5_postpone 22 = .ok (.aload_n 0, 1) := by decide +kernel
theorem dX5_postpone_23 : decode cX5_postpone 23 = .ok (.getfield 17, 3) := by decide +kernel
theorem dX5_postpone_26 : decode cX5_postpone 26 = .ok (.invokevirtual 122, 3) := by decide +kernel
theorem dX5_postpone_29 : decode cX5_postpone 29 = .ok (.aload_n 0, 1) := by decide +kernel
theorem dX5_postpone_30 : decode cX5_postpone 30 = .ok (.getfield 17, 3) := by decide +kernel
theorem dX5_postpone_33 : decode cX5_postpone 33 = .ok (.getfield 91, 3) := by decide +kernel
theorem dX5_postpone_36 : decode cX5_postpone 36 = .ok (.iload_n 1, 1) := by decide +kernel
theorem dX5_postpone_37 : decode cX5_postpone 37 = .ok (.iconst 3, 1) := by decide +kernel
theorem dX5_postpone_38 : decode cX5_postpone 38 = .ok (.iload_n 2, 1) := by decide +kernel
theorem dX5_postpone_39 : decode cX5_postpone 39 = .ok (.invokevirtual 208, 3) := by decide +kernel
theorem dX5_postpone_42 : decode cX5_postpone 42 = .ok (.aload_n 0, 1) := by decide +kernel
theorem dX5_postpone_43 : decode cX5_postpone 43 = .ok (.getfield 17, 3) := by decide +kernel
theorem dX5_postpone_46 : decode cX5_postpone 46 = .ok (.getfield 91, 3) := by decide +kernel
theorem dX5_postpone_49 : decode cX5_postpone 49 = .ok (.iload_n 1, 1) := by decide +kernel
theorem dX5_postpone_50 : decode cX5_postpone 50 = .ok (.iconst 3, 1) := by decide +kernel
theorem dX5_postpone_51 : decode cX5_postpone 51 = .ok (.invokevirtual 163, 3) := by decide +kernel
theorem dX5_postpone_54 : decode cX5_postpone 54 = .ok (.ireturn, 1) := by decide +kernel
theorem dX5_endDays_0 : decode cX5_endDays 0 = .ok (.iload_n 1, 1) := by decide +kernel
theorem dX5_endDays_1 : decode cX5_endDays 1 = .ok (.iconst 1, 1) := by decide +kernel
theorem dX5_endDays_2 : decode cX5_endDays 2 = .ok (.bipush 60, 2) := by decide +kernel
theorem dX5_endDays_4 : decode cX5_endDays 4 = .ok (.invokestatic 70, 3) := by decide +kernel
theorem dX5_endDays_7 : decode cX5_endDays 7 = .ok (.aload_n 0, 1) := by decide +kernel
theorem dX5_endDays_8 : decode cX5_endDays 8 = .ok (.getfield 17, 3) := by decide +kernel
theorem dX5_endDays_11 : decode cX5_endDays 11 = .ok (.getfield 211, 3) := by decide +kernel
theorem dX5_endDays_14 : decode cX5_endDays 14 = .ok (.iload_n 1, 1) := by decide +kernel
theorem dX5_endDays_15 : decode cX5_endDays 15 = .ok (.iadd, 1) := by decide +kernel
theorem dX5_endDays_16 : decode cX5_endDays 16 = .ok (.iconst 1, 1) := by decide +kernel
theorem dX5_endDays_17 : decode cX5_endDays 17 = .ok (.sipush 9999, 3) := by decide +kernel
theorem dX5_endDays_20 : decode cX5_endDays 20 = .ok (.invokestatic 70, 3) := by decide +kernel
theorem dX5_endDays_23 : decode cX5_endDays 23 = .ok (.aload_n 0, 1) := by decide +kernel
theorem dX5_endDays_24 : decode cX5_endDays 24 = .ok (.getfield 33, 3) := by decide +kernel
theorem dX5_endDays_27 : decode cX5_endDays 27 = .ok (.aload_n 0, 1) := by decide +kernel
theorem dX5_endDays_28 : decode cX5_endDays 28 = .ok (.getfield 17, 3) := by decide +kernel
theorem dX5_endDays_31 : decode cX5_endDays 31 = .ok (.invokevirtual 122, 3) := by decide +kernel
theorem dX5_endDays_34 : decode cX5_endDays 34 = .ok (.iconst 0, 1) := by decide +kernel
theorem dX5_endDays_35 : decode cX5_endDays 35 = .ok (.istore_n 2, 1) := by decide +kernel
theorem dX5_endDays_36 : decode cX5_endDays 36 = .ok (.iconst 0, 1) := by decide +kernel
theorem dX5_endDays_37 : decode cX5_endDays 37 = .ok (.istore_n 3, 1) := by decide +kernel
theorem dX5_endDays_38 : decode cX5_endDays 38 = .ok (.iload_n 3, 1) := by decide +kernel
theorem dX5_endDays_39 : decode cX5_endDays 39 = .ok (.iload_n 1, 1) := by decide +kernel
theorem dX5_endDays_40 : decode cX5_endDays 40 = .ok (.if_icmp .ge 19, 3) := by decide +kernel
theorem dX5_endDays_43 : decode cX5_endDays 43 = .ok (.iload_n 2, 1) := by decide +kernel
theorem dX5_endDays_44 : decode cX5_endDays 44 = .ok (.aload_n 0, 1) := by decide +kernel
theorem dX5_endDays_45 : decode cX5_endDays 45 = .ok (.getfield 17, 3) := by decide +kernel
theorem dX5_endDays_48 : decode cX5_endDays 48 = .ok (.invokevirtual 214, 3) := by decide +kernel
theorem dX5_endDays_51 : decode cX5_endDays 51 = .ok (.iadd, 1) := by decide +kernel
theorem dX5_endDays_52 : decode cX5_endDays 52 = .ok (.istore_n 2, 1) := by decide +kernel
theorem dX5_endDays_53 : decode cX5_endDays 53 = .ok (.iinc 3 1, 3) := by decide +kernel
theorem dX5_endDays_56 : decode cX5_endDays 56 = .ok (.goto (-18), 3) := by decide +kernel
theorem dX5_endDays_59 : decode cX5_endDays 59 = .ok (.iload_n 2, 1) := by decide +kernel
theorem dX5_endDays_60 : decode cX5_endDays 60 = .ok (.ireturn, 1) := by decide +kernel
theorem dX5_undo_0 : decode cX5_undo 0 = .ok (.aload_n 0, 1) := by decide +kernel
theorem dX5_undo_1 : decode cX5_undo 1 = .ok (.getfield 33, 3) := by decide +kernel
theorem dX5_undo_4 : decode cX5_undo 4 = .ok (.getfield 217, 3) := by decide +kernel
theorem dX5_undo_7 : decode cX5_undo 7 = .ok (.ifCond .ne 13, 3) := by decide +kernel
theorem dX5_undo_10 : decode cX5_undo 10 = .ok (.new 59, 3) := by decide +kernel
theorem dX5_undo_13 : decode cX5_undo 13 = .ok (.dup, 1) := by decide +kernel
theorem dX5_undo_14 : decode cX5_undo 14 = .ok (.ldc 220, 2) := by decide +kernel
theorem dX5_undo_16 : decode cX5_undo 16 = .ok (.invokespecial 63, 3) := by decide +kernel
theorem dX5_undo_19 : decode cX5_undo 19 = .ok (.athrow, 1) := by decide +kernel
theorem dX5_undo_20 : decode cX5_undo 20 = .ok (.aload_n 0, 1) := by decide +kernel
theorem dX5_undo_21 : decode cX5_undo 21 = .ok (.getfield 33, 3) := by decide +kernel
theorem dX5_undo_24 : decode cX5_undo 24 = .ok (.aload_n 0, 1) := by decide +kernel
theorem dX5_undo_25 : decode cX5_undo 25 = .ok (.getfield 17, 3) := by decide +kernel
theorem dX5_undo_28 : decode cX5_undo 28 = .ok (.invokevirtual 222, 3) := by decide +kernel
theorem dX5_undo_31 : decode cX5_undo 31 = .ok (.aload_n 0, 1) := by decide +kernel
theorem dX5_undo_32 : decode cX5_undo 32 = .ok (.getfield 33, 3) := by decide +kernel
theorem dX5_undo_35 : decode cX5_undo 35 = .ok (.getfield 217, 3) := by decide +kernel
theorem dX5_undo_38 : decode cX5_undo 38 = .ok (.ireturn, 1) := by decide +kernel
theorem dX5_undoCount_0 : decode cX5_undoCount 0 = .ok (.aload_n 0, 1) := by decide +kernel
theorem dX5_undoCount_1 : decode cX5_undoCount 1 = .ok (.getfield 33, 3) := by decide +kernel
theorem dX5_undoCount_4 : decode cX5_undoCount 4 = .ok (.getfield 217, 3) := by decide +kernel
theorem dX5_undoCount_7 : decode cX5_undoCount 7 = .ok (.ireturn, 1) := by decide +kernel
theorem dX5_save_0 : decode cX5_save 0 = .ok (.aload_n 0, 1) := by decide +kernel
theorem dX5_save_1 : decode cX5_save 1 = .ok (.getfield 33, 3) := by decide +kernel
theorem dX5_save_4 : decode cX5_save 4 = .ok (.aload_n 0, 1) := by decide +kernel
theorem dX5_save_5 : decode cX5_save 5 = .ok (.getfield 17, 3) := by decide +kernel
theorem dX5_save_8 : decode cX5_save 8 = .ok (.invokevirtual 225, 3) := by decide +kernel
theorem dX5_save_11 : decode cX5_save 11 = .ok (.aload_n 0, 1) := by decide +kernel
theorem dX5_save_12 : decode cX5_save 12 = .ok (.getfield 17, 3) := by decide +kernel
theorem dX5_save_15 : decode cX5_save 15 = .ok (.getfield 211, 3) := by decide +kernel
theorem dX5_save_18 : decode cX5_save 18 = .ok (.ireturn, 1) := by decide +kernel
theorem dX5_restore_0 : decode cX5_restore 0 = .ok (.aload_n 0, 1) := by decide +kernel
theorem dX5_restore_1 : decode cX5_restore 1 = .ok (.getfield 33, 3) := by decide +kernel
theorem dX5_restore_4 : decode cX5_restore 4 = .ok (.getfield 228, 3) := by decide +kernel
theorem dX5_restore_7 : decode cX5_restore 7 = .ok (.ifCond .ne 13, 3) := by decide +kernel
theorem dX5_restore_10 : decode cX5_restore 10 = .ok (.new 59, 3) := by decide +kernel
theorem dX5_restore_13 : decode cX5_restore 13 = .ok (.dup, 1) := by decide +kernel
theorem dX5_restore_14 : decode cX5_restore 14 = .ok (.ldc 232, 2) := by decide +kernel
theorem dX5_restore_16 : decode cX5_restore 16 = .ok (.invokespecial 63, 3) := by decide +kernel
theorem dX5_restore_19 : decode cX5_restore 19 = .ok (.athrow, 1) := by decide +kernel
theorem dX5_restore_20 : decode cX5_restore 20 = .ok (.aload_n 0, 1) := by decide +kernel
theorem dX5_restore_21 : decode cX5_restore 21 = .ok (.getfield 33, 3) := by decide +kernel
theorem dX5_restore_24 : decode cX5_restore 24 = .ok (.aload_n 0, 1) := by decide +kernel
theorem dX5_restore_25 : decode cX5_restore 25 = .ok (.getfield 17, 3) := by decide +kernel
theorem dX5_restore_28 : decode cX5_restore 28 = .ok (.invokevirtual 234, 3) := by decide +kernel
theorem dX5_restore_31 : decode cX5_restore 31 = .ok (.aload_n 0, 1) := by decide +kernel
theorem dX5_restore_32 : decode cX5_restore 32 = .ok (.getfield 17, 3) := by decide +kernel
theorem dX5_restore_35 : decode cX5_restore 35 = .ok (.getfield 211, 3) := by decide +kernel
theorem dX5_restore_38 : decode cX5_restore 38 = .ok (.ireturn, 1) := by decide +kernel
theorem dX5_count_0 : decode cX5_count 0 = .ok (.iload_n 1, 1) := by decide +kernel
theorem dX5_count_1 : decode cX5_count 1 = .ok (.iconst 0, 1) := by decide +kernel
theorem dX5_count_2 : decode cX5_count 2 = .ok (.bipush 9, 2) := by decide +kernel
theorem dX5_count_4 : decode cX5_count 4 = .ok (.invokestatic 70, 3) := by decide +kernel
theorem dX5_count_7 : decode cX5_count 7 = .ok (.iload_n 1, 1) := by decide +kernel
theorem dX5_count_8 : decode cX5_count 8 = .ok (.tableswitch 142 0 8 #[52, 63, 74, 85, 96, 107, 118, 126, 134], 52) := by decide +kernel
theorem dX5_count_60 : decode cX5_count 60 = .ok (.aload_n 0, 1) := by decide +kernel
theorem dX5_count_61 : decode cX5_count 61 = .ok (.getfield 17, 3) := by decide +kernel
theorem dX5_count_64 : decode cX5_count 64 = .ok (.getfield 91, 3) := by decide +kernel
theorem dX5_count_67 : decode cX5_count 67 = .ok (.getfield 95, 3) := by decide +kernel
theorem dX5_count_70 : decode cX5_count 70 = .ok (.ireturn, 1) := by decide +kernel
theorem dX5_count_71 : decode cX5_count 71 = .ok (.aload_n 0, 1) := by decide +kernel
theorem dX5_count_72 : decode cX5_count 72 = .ok (.getfield 17, 3) := by decide +kernel
theorem dX5_count_75 : decode cX5_count 75 = .ok (.getfield 113, 3) := by decide +kernel
theorem dX5_count_78 : decode cX5_count 78 = .ok (.getfield 95, 3) := by decide +kernel
theorem dX5_count_81 : decode cX5_count 81 = .ok (.ireturn, 1) := by decide +kernel
theorem dX5_count_82 : decode cX5_count 82 = .ok (.aload_n 0, 1) := by decide +kernel
theorem dX5_count_83 : decode cX5_count 83 = .ok (.getfield 17, 3) := by decide +kernel
theorem dX5_count_86 : decode cX5_count 86 = .ok (.getfield 155, 3) := by decide +kernel
theorem dX5_count_89 : decode cX5_count 89 = .ok (.getfield 95, 3) := by decide +kernel
theorem dX5_count_92 : decode cX5_count 92 = .ok (.ireturn, 1) := by decide +kernel
theorem dX5_count_93 : decode cX5_count 93 = .ok (.aload_n 0, 1) := by decide +kernel
theorem dX5_count_94 : decode cX5_count 94 = .ok (.getfield 17, 3) := by decide +kernel
theorem dX5_count_97 : decode cX5_count 97 = .ok (.getfield 132, 3) := by decide +kernel
theorem dX5_count_100 : decode cX5_count 100 = .ok (.getfield 95, 3) := by decide +kernel
theorem dX5_count_103 : decode cX5_count 103 = .ok (.ireturn, 1) := by decide +kernel
theorem dX5_count_104 : decode cX5_count 104 = .ok (.aload_n 0, 1) := by decide +kernel
theorem dX5_count_105 : decode cX5_count 105 = .ok (.getfield 17, 3) := by decide +kernel
theorem dX5_count_108 : decode cX5_count 108 = .ok (.getfield 187, 3) := by decide +kernel
theorem dX5_count_111 : decode cX5_count 111 = .ok (.getfield 95, 3) := by decide +kernel
theorem dX5_count_114 : decode cX5_count 114 = .ok (.ireturn, 1) := by decide +kernel
theorem dX5_count_115 : decode cX5_count 115 = .ok (.aload_n 0, 1) := by decide +kernel
theorem dX5_count_116 : decode cX5_count 116 = .ok (.getfield 17, 3) := by decide +kernel
theorem dX5_count_119 : decode cX5_count 119 = .ok (.getfield 237, 3) := by decide +kernel
theorem dX5_count_122 : decode cX5_count 122 = .ok (.getfield 95, 3) := by decide +kernel
theorem dX5_count_125 : decode cX5_count 125 = .ok (.ireturn, 1) := by decide +kernel
theorem dX5_count_126 : decode cX5_count 126 = .ok (.aload_n 0, 1) := by decide +kernel
theorem dX5_count_127 : decode cX5_count 127 = .ok (.getfield 17, 3) := by decide +kernel
theorem dX5_count_130 : decode cX5_count 130 = .ok (.getfield 211, 3) := by decide +kernel
theorem dX5_count_133 : decode cX5_count 133 = .ok (.ireturn, 1) := by decide +kernel
theorem dX5_count_134 : decode cX5_count 134 = .ok (.aload_n 0, 1) := by decide +kernel
theorem dX5_count_135 : decode cX5_count 135 = .ok (.getfield 17, 3) := by decide +kernel
theorem dX5_count_138 : decode cX5_count 138 = .ok (.getfield 240, 3) := by decide +kernel
theorem dX5_count_141 : decode cX5_count 141 = .ok (.ireturn, 1) := by decide +kernel
theorem dX5_count_142 : decode cX5_count 142 = .ok (.aload_n 0, 1) := by decide +kernel
theorem dX5_count_143 : decode cX5_count 143 = .ok (.getfield 17, 3) := by decide +kernel
theorem dX5_count_146 : decode cX5_count 146 = .ok (.getfield 243, 3) := by decide +kernel
theorem dX5_count_149 : decode cX5_count 149 = .ok (.ireturn, 1) := by decide +kernel
theorem dX5_count_150 : decode cX5_count 150 = .ok (.aload_n 0, 1) := by decide +kernel
theorem dX5_count_151 : decode cX5_count 151 = .ok (.getfield 17, 3) := by decide +kernel
theorem dX5_count_154 : decode cX5_count 154 = .ok (.getfield 246, 3) := by decide +kernel
theorem dX5_count_157 : decode cX5_count 157 = .ok (.ireturn, 1) := by decide +kernel
theorem dX5_wall_0 : decode cX5_wall 0 = .ok (.aload_n 0, 1) := by decide +kernel
theorem dX5_wall_1 : decode cX5_wall 1 = .ok (.getfield 17, 3) := by decide +kernel
theorem dX5_wall_4 : decode cX5_wall 4 = .ok (.getfield 91, 3) := by decide +kernel
theorem dX5_wall_7 : decode cX5_wall 7 = .ok (.iload_n 1, 1) := by decide +kernel
theorem dX5_wall_8 : decode cX5_wall 8 = .ok (.invokestatic 100, 3) := by decide +kernel
theorem dX5_wall_11 : decode cX5_wall 11 = .ok (.iload_n 2, 1) := by decide +kernel
theorem dX5_wall_12 : decode cX5_wall 12 = .ok (.iconst 0, 1) := by decide +kernel
theorem dX5_wall_13 : decode cX5_wall 13 = .ok (.iconst 5, 1) := by decide +kernel
theorem dX5_wall_14 : decode cX5_wall 14 = .ok (.invokestatic 70, 3) := by decide +kernel
theorem dX5_wall_17 : decode cX5_wall 17 = .ok (.iload_n 2, 1) := by decide +kernel
theorem dX5_wall_18 : decode cX5_wall 18 = .ok (.lookupswitch 52 #[(4, 26), (5, 35)], 26) := by decide +kernel
theorem dX5_wall_44 : decode cX5_wall 44 = .ok (.aload_n 0, 1) := by decide +kernel
theorem dX5_wall_45 : decode cX5_wall 45 = .ok (.getfield 17, 3) := by decide +kernel
theorem dX5_wall_48 : decode cX5_wall 48 = .ok (.iload_n 1, 1) := by decide +kernel
theorem dX5_wall_49 : decode cX5_wall 49 = .ok (.invokevirtual 110, 3) := by decide +kernel
theorem dX5_wall_52 : decode cX5_wall 52 = .ok (.ireturn, 1) := by decide +kernel
theorem dX5_wall_53 : decode cX5_wall 53 = .ok (.aload_n 0, 1) := by decide +kernel
theorem dX5_wall_54 : decode cX5_wall 54 = .ok (.getfield 17, 3) := by decide +kernel
theorem dX5_wall_57 : decode cX5_wall 57 = .ok (.iload_n 1, 1) := by decide +kernel
theorem dX5_wall_58 : decode cX5_wall 58 = .ok (.invokevirtual 104, 3) := by decide +kernel
theorem dX5_wall_61 : decode cX5_wall 61 = .ok (.ifCond .eq 7, 3) := by decide +kernel
theorem dX5_wall_64 : decode cX5_wall 64 = .ok (.iconst 1, 1) := by decide +kernel
theorem dX5_wall_65 : decode cX5_wall 65 = .ok (.goto 4, 3) := by decide +kernel
theorem dX5_wall_68 : decode cX5_wall 68 = .ok (.iconst 0, 1) := by decide +kernel
theorem dX5_wall_69 : decode cX5_wall 69 = .ok (.ireturn, 1) := by decide +kernel
theorem dX5_wall_70 : decode cX5_wall 70 = .ok (.aload_n 0, 1) := by decide +kernel
theorem dX5_wall_71 : decode cX5_wall 71 = .ok (.getfield 17, 3) := by decide +kernel
theorem dX5_wall_74 : decode cX5_wall 74 = .ok (.getfield 91, 3) := by decide +kernel
theorem dX5_wall_77 : decode cX5_wall 77 = .ok (.iload_n 1, 1) := by decide +kernel
theorem dX5_wall_78 : decode cX5_wall 78 = .ok (.iload_n 2, 1) := by decide +kernel
theorem dX5_wall_79 : decode cX5_wall 79 = .ok (.invokevirtual 163, 3) := by decide +kernel
theorem dX5_wall_82 : decode cX5_wall 82 = .ok (.ireturn, 1) := by decide +kernel
theorem dX5_route_0 : decode cX5_route 0 = .ok (.aload_n 0, 1) := by decide +kernel
theorem dX5_route_1 : decode cX5_route 1 = .ok (.getfield 17, 3) := by decide +kernel
theorem dX5_route_4 : decode cX5_route 4 = .ok (.getfield 113, 3) := by decide +kernel
theorem dX5_route_7 : decode cX5_route 7 = .ok (.iload_n 1, 1) := by decide +kernel
theorem dX5_route_8 : decode cX5_route 8 = .ok (.invokestatic 100, 3) := by decide +kernel
theorem dX5_route_11 : decode cX5_route 11 = .ok (.iload_n 2, 1) := by decide +kernel
theorem dX5_route_12 : decode cX5_route 12 = .ok (.iconst 0, 1) := by decide +kernel
theorem dX5_route_13 : decode cX5_route 13 = .ok (.bipush 6, 2) := by decide +kernel
theorem dX5_route_15 : decode cX5_route 15 = .ok (.invokestatic 70, 3) := by decide +kernel
theorem dX5_route_18 : decode cX5_route 18 = .ok (.iload_n 2, 1) := by decide +kernel
theorem dX5_route_19 : decode cX5_route 19 = .ok (.lookupswitch 51 #[(5, 25), (6, 34)], 25) := by decide +kernel
theorem dX5_route_44 : decode cX5_route 44 = .ok (.aload_n 0, 1) := by decide +kernel
theorem dX5_route_45 : decode cX5_route 45 = .ok (.getfield 17, 3) := by decide +kernel
theorem dX5_route_48 : decode cX5_route 48 = .ok (.iload_n 1, 1) := by decide +kernel
theorem dX5_route_49 : decode cX5_route 49 = .ok (.invokevirtual 249, 3) := by decide +kernel
theorem dX5_route_52 : decode cX5_route 52 = .ok (.ireturn, 1) := by decide +kernel
theorem dX5_route_53 : decode cX5_route 53 = .ok (.aload_n 0, 1) := by decide +kernel
theorem dX5_route_54 : decode cX5_route 54 = .ok (.getfield 17, 3) := by decide +kernel
theorem dX5_route_57 : decode cX5_route 57 = .ok (.iload_n 1, 1) := by decide +kernel
theorem dX5_route_58 : decode cX5_route 58 = .ok (.invokevirtual 252, 3) := by decide +kernel
theorem dX5_route_61 : decode cX5_route 61 = .ok (.ifCond .eq 7, 3) := by decide +kernel
theorem dX5_route_64 : decode cX5_route 64 = .ok (.iconst 1, 1) := by decide +kernel
theorem dX5_route_65 : decode cX5_route 65 = .ok (.goto 4, 3) := by decide +kernel
theorem dX5_route_68 : decode cX5_route 68 = .ok (.iconst 0, 1) := by decide +kernel
theorem dX5_route_69 : decode cX5_route 69 = .ok (.ireturn, 1) := by decide +kernel
theorem dX5_route_70 : decode cX5_route 70 = .ok (.aload_n 0, 1) := by decide +kernel
theorem dX5_route_71 : decode cX5_route 71 = .ok (.getfield 17, 3) := by decide +kernel
theorem dX5_route_74 : decode cX5_route 74 = .ok (.getfield 113, 3) := by decide +kernel
theorem dX5_route_77 : decode cX5_route 77 = .ok (.iload_n 1, 1) := by decide +kernel
theorem dX5_route_78 : decode cX5_route 78 = .ok (.iload_n 2, 1) := by decide +kernel
theorem dX5_route_79 : decode cX5_route 79 = .ok (.invokevirtual 163, 3) := by decide +kernel
theorem dX5_route_82 : decode cX5_route 82 = .ok (.ireturn, 1) := by decide +kernel
theorem dX5_archived_0 : decode cX5_archived 0 = .ok (.aload_n 0, 1) := by decide +kernel
theorem dX5_archived_1 : decode cX5_archived 1 = .ok (.getfield 17, 3) := by decide +kernel
theorem dX5_archived_4 : decode cX5_archived 4 = .ok (.getfield 237, 3) := by decide +kernel
theorem dX5_archived_7 : decode cX5_archived 7 = .ok (.iload_n 1, 1) := by decide +kernel
theorem dX5_archived_8 : decode cX5_archived 8 = .ok (.invokestatic 100, 3) := by decide +kernel
theorem dX5_archived_11 : decode cX5_archived 11 = .ok (.iload_n 2, 1) := by decide +kernel
theorem dX5_archived_12 : decode cX5_archived 12 = .ok (.iconst 0, 1) := by decide +kernel
theorem dX5_archived_13 : decode cX5_archived 13 = .ok (.iconst 3, 1) := by decide +kernel
theorem dX5_archived_14 : decode cX5_archived 14 = .ok (.invokestatic 70, 3) := by decide +kernel
theorem dX5_archived_17 : decode cX5_archived 17 = .ok (.aload_n 0, 1) := by decide +kernel
theorem dX5_archived_18 : decode cX5_archived 18 = .ok (.getfield 17, 3) := by decide +kernel
theorem dX5_archived_21 : decode cX5_archived 21 = .ok (.getfield 237, 3) := by decide +kernel
theorem dX5_archived_24 : decode cX5_archived 24 = .ok (.iload_n 1, 1) := by decide +kernel
theorem dX5_archived_25 : decode cX5_archived 25 = .ok (.iload_n 2, 1) := by decide +kernel
theorem dX5_archived_26 : decode cX5_archived 26 = .ok (.invokevirtual 163, 3) := by decide +kernel
theorem dX5_archived_29 : decode cX5_archived 29 = .ok (.ireturn, 1) := by decide +kernel
theorem dX5_member_0 : decode cX5_member 0 = .ok (.aload_n 0, 1) := by decide +kernel
theorem dX5_member_1 : decode cX5_member 1 = .ok (.getfield 17, 3) := by decide +kernel
theorem dX5_member_4 : decode cX5_member 4 = .ok (.getfield 132, 3) := by decide +kernel
theorem dX5_member_7 : decode cX5_member 7 = .ok (.iload_n 1, 1) := by decide +kernel
theorem dX5_member_8 : decode cX5_member 8 = .ok (.invokestatic 100, 3) := by decide +kernel
theorem dX5_member_11 : decode cX5_member 11 = .ok (.iload_n 2, 1) := by decide +kernel
theorem dX5_member_12 : decode cX5_member 12 = .ok (.iconst 0, 1) := by decide +kernel
theorem dX5_member_13 : decode cX5_member 13 = .ok (.iconst 5, 1) := by decide +kernel
theorem dX5_member_14 : decode cX5_member 14 = .ok (.invokestatic 70, 3) := by decide +kernel
theorem dX5_member_17 : decode cX5_member 17 = .ok (.aload_n 0, 1) := by decide +kernel
theorem dX5_member_18 : decode cX5_member 18 = .ok (.getfield 17, 3) := by decide +kernel
theorem dX5_member_21 : decode cX5_member 21 = .ok (.getfield 132, 3) := by decide +kernel
theorem dX5_member_24 : decode cX5_member 24 = .ok (.iload_n 1, 1) := by decide +kernel
theorem dX5_member_25 : decode cX5_member 25 = .ok (.iload_n 2, 1) := by decide +kernel
theorem dX5_member_26 : decode cX5_member 26 = .ok (.invokevirtual 163, 3) := by decide +kernel
theorem dX5_member_29 : decode cX5_member 29 = .ok (.ireturn, 1) := by decide +kernel
theorem dX5_harness_0 : decode cX5_harness 0 = .ok (.aload_n 0, 1) := by decide +kernel
theorem dX5_harness_1 : decode cX5_harness 1 = .ok (.getfield 17, 3) := by decide +kernel
theorem dX5_harness_4 : decode cX5_harness 4 = .ok (.getfield 155, 3) := by decide +kernel
theorem dX5_harness_7 : decode cX5_harness 7 = .ok (.iload_n 1, 1) := by decide +kernel
theorem dX5_harness_8 : decode cX5_harness 8 = .ok (.invokestatic 100, 3) := by decide +kernel
theorem dX5_harness_11 : decode cX5_harness 11 = .ok (.iload_n 2, 1) := by decide +kernel
theorem dX5_harness_12 : decode cX5_harness 12 = .ok (.iconst 0, 1) := by decide +kernel
theorem dX5_harness_13 : decode cX5_harness 13 = .ok (.iconst 5, 1) := by decide +kernel
theorem dX5_harness_14 : decode cX5_harness 14 = .ok (.invokestatic 70, 3) := by decide +kernel
theorem dX5_harness_17 : decode cX5_harness 17 = .ok (.iload_n 2, 1) := by decide +kernel
theorem dX5_harness_18 : decode cX5_harness 18 = .ok (.tableswitch 68 3 5 #[26, 35, 44], 26) := by decide +kernel
theorem dX5_harness_44 : decode cX5_harness 44 = .ok (.aload_n 0, 1) := by decide +kernel
theorem dX5_harness_45 : decode cX5_harness 45 = .ok (.getfield 17, 3) := by decide +kernel
theorem dX5_harness_48 : decode cX5_harness 48 = .ok (.iload_n 1, 1) := by decide +kernel
theorem dX5_harness_49 : decode cX5_harness 49 = .ok (.invokevirtual 173, 3) := by decide +kernel
theorem dX5_harness_52 : decode cX5_harness 52 = .ok (.ireturn, 1) := by decide +kernel
theorem dX5_harness_53 : decode cX5_harness 53 = .ok (.aload_n 0, 1) := by decide +kernel
theorem dX5_harness_54 : decode cX5_harness 54 = .ok (.getfield 17, 3) := by decide +kernel
theorem dX5_harness_57 : decode cX5_harness 57 = .ok (.iload_n 1, 1) := by decide +kernel
theorem dX5_harness_58 : decode cX5_harness 58 = .ok (.invokevirtual 178, 3) := by decide +kernel
theorem dX5_harness_61 : decode cX5_harness 61 = .ok (.ireturn, 1) := by decide +kernel
theorem dX5_harness_62 : decode cX5_harness 62 = .ok (.aload_n 0, 1) := by decide +kernel
theorem dX5_harness_63 : decode cX5_harness 63 = .ok (.getfield 17, 3) := by decide +kernel
theorem dX5_harness_66 : decode cX5_harness 66 = .ok (.iload_n 1, 1) := by decide +kernel
theorem dX5_harness_67 : decode cX5_harness 67 = .ok (.aload_n 0, 1) := by decide +kernel
theorem dX5_harness_68 : decode cX5_harness 68 = .ok (.getfield 17, 3) := by decide +kernel
theorem dX5_harness_71 : decode cX5_harness 71 = .ok (.getfield 211, 3) := by decide +kernel
theorem dX5_harness_74 : decode cX5_harness 74 = .ok (.invokevirtual 255, 3) := by decide +kernel
theorem dX5_harness_77 : decode cX5_harness 77 = .ok (.ifCond .eq 7, 3) := by decide +kernel
theorem dX5_harness_80 : decode cX5_harness 80 = .ok (.iconst 1, 1) := by decide +kernel
theorem dX5_harness_81 : decode cX5_harness 81 = .ok (.goto 4, 3) := by decide +kernel
theorem dX5_harness_84 : decode cX5_harness 84 = .ok (.iconst 0, 1) := by decide +kernel
theorem dX5_harness_85 : decode cX5_harness 85 = .ok (.ireturn, 1) := by decide +kernel
theorem dX5_harness_86 : decode cX5_harness 86 = .ok (.aload_n 0, 1) := by decide +kernel
theorem dX5_harness_87 : decode cX5_harness 87 = .ok (.getfield 17, 3) := by decide +kernel
theorem dX5_harness_90 : decode cX5_harness 90 = .ok (.getfield 155, 3) := by decide +kernel
theorem dX5_harness_93 : decode cX5_harness 93 = .ok (.iload_n 1, 1) := by decide +kernel
theorem dX5_harness_94 : decode cX5_harness 94 = .ok (.iload_n 2, 1) := by decide +kernel
theorem dX5_harness_95 : decode cX5_harness 95 = .ok (.invokevirtual 163, 3) := by decide +kernel
theorem dX5_harness_98 : decode cX5_harness 98 = .ok (.ireturn, 1) := by decide +kernel
theorem dX5_course_0 : decode cX5_course 0 = .ok (.aload_n 0, 1) := by decide +kernel
theorem dX5_course_1 : decode cX5_course 1 = .ok (.getfield 17, 3) := by decide +kernel
theorem dX5_course_4 : decode cX5_course 4 = .ok (.getfield 187, 3) := by decide +kernel
theorem dX5_course_7 : decode cX5_course 7 = .ok (.iload_n 1, 1) := by decide +kernel
theorem dX5_course_8 : decode cX5_course 8 = .ok (.invokestatic 100, 3) := by decide +kernel
theorem dX5_course_11 : decode cX5_course 11 = .ok (.iload_n 2, 1) := by decide +kernel
theorem dX5_course_12 : decode cX5_course 12 = .ok (.iconst 0, 1) := by decide +kernel
theorem dX5_course_13 : decode cX5_course 13 = .ok (.iconst 3, 1) := by decide +kernel
theorem dX5_course_14 : decode cX5_course 14 = .ok (.invokestatic 70, 3) := by decide +kernel
theorem dX5_course_17 : decode cX5_course 17 = .ok (.iload_n 2, 1) := by decide +kernel
theorem dX5_course_18 : decode cX5_course 18 = .ok (.iconst 3, 1) := by decide +kernel
theorem dX5_course_19 : decode cX5_course 19 = .ok (.if_icmp .ne 14, 3) := by decide +kernel
theorem dX5_course_22 : decode cX5_course 22 = .ok (.aload_n 0, 1) := by decide +kernel
theorem dX5_course_23 : decode cX5_course 23 = .ok (.getfield 17, 3) := by decide +kernel
theorem dX5_course_26 : decode cX5_course 26 = .ok (.iload_n 1, 1) := by decide +kernel
theorem dX5_course_27 : decode cX5_course 27 = .ok (.invokevirtual 195, 3) := by decide +kernel
theorem dX5_course_30 : decode cX5_course 30 = .ok (.goto 15, 3) := by decide +kernel
theorem dX5_course_33 : decode cX5_course 33 = .ok (.aload_n 0, 1) := by decide +kernel
theorem dX5_course_34 : decode cX5_course 34 = .ok (.getfield 17, 3) := by decide +kernel
theorem dX5_course_37 : decode cX5_course 37 = .ok (.getfield 187, 3) := by decide +kernel
theorem dX5_course_40 : decode cX5_course 40 = .ok (.iload_n 1, 1) := by decide +kernel
theorem dX5_course_41 : decode cX5_course 41 = .ok (.iload_n 2, 1) := by decide +kernel
theorem dX5_course_42 : decode cX5_course 42 = .ok (.invokevirtual 163, 3) := by decide +kernel
theorem dX5_course_45 : decode cX5_course 45 = .ok (.ireturn, 1) := by decide +kernel
theorem dX5_grade_0 : decode cX5_grade 0 = .ok (.aload_n 0, 1) := by decide +kernel
theorem dX5_grade_1 : decode cX5_grade 1 = .ok (.getfield 17, 3) := by decide +kernel
theorem dX5_grade_4 : decode cX5_grade 4 = .ok (.getfield 113, 3) := by decide +kernel
theorem dX5_grade_7 : decode cX5_grade 7 = .ok (.iload_n 1, 1) := by decide +kernel
theorem dX5_grade_8 : decode cX5_grade 8 = .ok (.invokestatic 100, 3) := by decide +kernel
theorem dX5_grade_11 : decode cX5_grade 11 = .ok (.aload_n 0, 1) := by decide +kernel
theorem dX5_grade_12 : decode cX5_grade 12 = .ok (.getfield 17, 3) := by decide +kernel
theorem dX5_grade_15 : decode cX5_grade 15 = .ok (.iload_n 1, 1) := by decide +kernel
theorem dX5_grade_16 : decode cX5_grade 16 = .ok (.invokevirtual 152, 3) := by decide +kernel
theorem dX5_grade_19 : decode cX5_grade 19 = .ok (.ireturn, 1) := by decide +kernel
theorem dX5_needRow_0 : decode cX5_needRow 0 = .ok (.aload_n 0, 1) := by decide +kernel
theorem dX5_needRow_1 : decode cX5_needRow 1 = .ok (.iload_n 1, 1) := by decide +kernel
theorem dX5_needRow_2 : decode cX5_needRow 2 = .ok (.invokevirtual 323, 3) := by decide +kernel
theorem dX5_needRow_5 : decode cX5_needRow 5 = .ok (.ifCond .ne 14, 3) := by decide +kernel
theorem dX5_needRow_8 : decode cX5_needRow 8 = .ok (.new 326, 3) := by decide +kernel
theorem dX5_needRow_11 : decode cX5_needRow 11 = .ok (.dup, 1) := by decide +kernel
theorem dX5_needRow_12 : decode cX5_needRow 12 = .ok (.ldc_w 328, 3) := by decide +kernel
theorem dX5_needRow_15 : decode cX5_needRow 15 = .ok (.invokespecial 330, 3) := by decide +kernel
theorem dX5_needRow_18 : decode cX5_needRow 18 = .ok (.athrow, 1) := by decide +kernel
theorem dX5_needRow_19 : decode cX5_needRow 19 = .ok (.return_, 1) := by decide +kernel
theorem dX5_needBetween_0 : decode cX5_needBetween 0 = .ok (.iload_n 0, 1) := by decide +kernel
theorem dX5_needBetween_1 : decode cX5_needBetween 1 = .ok (.iload_n 1, 1) := by decide +kernel
theorem dX5_needBetween_2 : decode cX5_needBetween 2 = .ok (.if_icmp .lt 8, 3) := by decide +kernel
theorem dX5_needBetween_5 : decode cX5_needBetween 5 = .ok (.iload_n 0, 1) := by decide +kernel
theorem dX5_needBetween_6 : decode cX5_needBetween 6 = .ok (.iload_n 2, 1) := by decide +kernel
theorem dX5_needBetween_7 : decode cX5_needBetween 7 = .ok (.if_icmp .le 14, 3) := by decide +kernel
theorem dX5_needBetween_10 : decode cX5_needBetween 10 = .ok (.new 77, 3) := by decide +kernel
theorem dX5_needBetween_13 : decode cX5_needBetween 13 = .ok (.dup, 1) := by decide +kernel
theorem dX5_needBetween_14 : decode cX5_needBetween 14 = .ok (.ldc_w 331, 3) := by decide +kernel
theorem dX5_needBetween_17 : decode cX5_needBetween 17 = .ok (.invokespecial 81, 3) := by decide +kernel
theorem dX5_needBetween_20 : decode cX5_needBetween 20 = .ok (.athrow, 1) := by decide +kernel
theorem dX5_needBetween_21 : decode cX5_needBetween 21 = .ok (.return_, 1) := by decide +kernel
theorem dX5_bytesIn_0 : decode cX5_bytesIn 0 = .ok (.iconst 0, 1) := by decide +kernel
theorem dX5_bytesIn_1 : decode cX5_bytesIn 1 = .ok (.istore_n 1, 1) := by decide +kernel
theorem dX5_bytesIn_2 : decode cX5_bytesIn 2 = .ok (.bipush 24, 2) := by decide +kernel
theorem dX5_bytesIn_4 : decode cX5_bytesIn 4 = .ok (.istore_n 2, 1) := by decide +kernel
theorem dX5_bytesIn_5 : decode cX5_bytesIn 5 = .ok (.iload_n 2, 1) := by decide +kernel
theorem dX5_bytesIn_6 : decode cX5_bytesIn 6 = .ok (.ifCond .lt 22, 3) := by decide +kernel
theorem dX5_bytesIn_9 : decode cX5_bytesIn 9 = .ok (.iload_n 0, 1) := by decide +kernel
theorem dX5_bytesIn_10 : decode cX5_bytesIn 10 = .ok (.iload_n 2, 1) := by decide +kernel
theorem dX5_bytesIn_11 : decode cX5_bytesIn 11 = .ok (.iushr, 1) := by decide +kernel
theorem dX5_bytesIn_12 : decode cX5_bytesIn 12 = .ok (.sipush 255, 3) := by decide +kernel
theorem dX5_bytesIn_15 : decode cX5_bytesIn 15 = .ok (.iand, 1) := by decide +kernel
theorem dX5_bytesIn_16 : decode cX5_bytesIn 16 = .ok (.ifCond .eq 6, 3) := by decide +kernel
theorem dX5_bytesIn_19 : decode cX5_bytesIn 19 = .ok (.iinc 1 1, 3) := by decide +kernel
theorem dX5_bytesIn_22 : decode cX5_bytesIn 22 = .ok (.iinc 2 (-8), 3) := by decide +kernel
theorem dX5_bytesIn_25 : decode cX5_bytesIn 25 = .ok (.goto (-20), 3) := by decide +kernel
theorem dX5_bytesIn_28 : decode cX5_bytesIn 28 = .ok (.iload_n 1, 1) := by decide +kernel
theorem dX5_bytesIn_29 : decode cX5_bytesIn 29 = .ok (.ireturn, 1) := by decide +kernel
