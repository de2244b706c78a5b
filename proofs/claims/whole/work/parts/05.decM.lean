theorem dX6_init_0 : decode cX6_init 0 = .ok (.aload_n 0, 1) := by decide +kernel
theorem dX6_init_1 : decode cX6_init 1 = .ok (.invokespecial 3, 3) := by decide +kernel
theorem dX6_init_4 : decode cX6_init 4 = .ok (.aload_n 0, 1) := by decide +kernel
theorem dX6_init_5 : decode cX6_init 5 = .ok (.sipush 600, 3) := by decide +kernel
theorem dX6_init_8 : decode cX6_init 8 = .ok (.newarray .int, 2) := by decide +kernel
theorem dX6_init_10 : decode cX6_init 10 = .ok (.putfield 9, 3) := by decide +kernel
theorem dX6_init_13 : decode cX6_init 13 = .ok (.aload_n 0, 1) := by decide +kernel
theorem dX6_init_14 : decode cX6_init 14 = .ok (.sipush 765, 3) := by decide +kernel
theorem dX6_init_17 : decode cX6_init 17 = .ok (.newarray .int, 2) := by decide +kernel
theorem dX6_init_19 : decode cX6_init 19 = .ok (.putfield 13, 3) := by decide +kernel
theorem dX6_init_22 : decode cX6_init 22 = .ok (.aload_n 0, 1) := by decide +kernel
theorem dX6_init_23 : decode cX6_init 23 = .ok (.sipush 765, 3) := by decide +kernel
theorem dX6_init_26 : decode cX6_init 26 = .ok (.newarray .int, 2) := by decide +kernel
theorem dX6_init_28 : decode cX6_init 28 = .ok (.putfield 16, 3) := by decide +kernel
theorem dX6_init_31 : decode cX6_init 31 = .ok (.aload_n 0, 1) := by decide +kernel
theorem dX6_init_32 : decode cX6_init 32 = .ok (.sipush 765, 3) := by decide +kernel
theorem dX6_init_35 : decode cX6_init 35 = .ok (.newarray .int, 2) := by decide +kernel
theorem dX6_init_37 : decode cX6_init 37 = .ok (.putfield 19, 3) := by decide +kernel
theorem dX6_init_40 : decode cX6_init 40 = .ok (.aload_n 0, 1) := by decide +kernel
theorem dX6_init_41 : decode cX6_init 41 = .ok (.sipush 6120, 3) := by decide +kernel
theorem dX6_init_44 : decode cX6_init 44 = .ok (.newarray .int, 2) := by decide +kernel
theorem dX6_init_46 : decode cX6_init 46 = .ok (.putfield 22, 3) := by decide +kernel
theorem dX6_init_49 : decode cX6_init 49 = .ok (.aload_n 0, 1) := by decide +kernel
theorem dX6_init_50 : decode cX6_init 50 = .ok (.bipush 30, 2) := by decide +kernel
theorem dX6_init_52 : decode cX6_init 52 = .ok (.newarray .int, 2) := by decide +kernel
theorem dX6_init_54 : decode cX6_init 54 = .ok (.putfield 25, 3) := by decide +kernel
theorem dX6_init_57 : decode cX6_init 57 = .ok (.aload_n 0, 1) := by decide +kernel
theorem dX6_init_58 : decode cX6_init 58 = .ok (.bipush 15, 2) := by decide +kernel
theorem dX6_init_60 : decode cX6_init 60 = .ok (.newarray .int, 2) := by decide +kernel
theorem dX6_init_62 : decode cX6_init 62 = .ok (.putfield 28, 3) := by decide +kernel
theorem dX6_init_65 : decode cX6_init 65 = .ok (.aload_n 0, 1) := by decide +kernel
theorem dX6_init_66 : decode cX6_init 66 = .ok (.invokevirtual 31, 3) := by decide +kernel
theorem dX6_init_69 : decode cX6_init 69 = .ok (.aload_n 0, 1) := by decide +kernel
theorem dX6_init_70 : decode cX6_init 70 = .ok (.bipush 12, 2) := by decide +kernel
theorem dX6_init_72 : decode cX6_init 72 = .ok (.iconst 0, 1) := by decide +kernel
theorem dX6_init_73 : decode cX6_init 73 = .ok (.bipush 7, 2) := by decide +kernel
theorem dX6_init_75 : decode cX6_init 75 = .ok (.invokevirtual 34, 3) := by decide +kernel
theorem dX6_init_78 : decode cX6_init 78 = .ok (.aload_n 0, 1) := by decide +kernel
theorem dX6_init_79 : decode cX6_init 79 = .ok (.bipush 15, 2) := by decide +kernel
theorem dX6_init_81 : decode cX6_init 81 = .ok (.iconst 1, 1) := by decide +kernel
theorem dX6_init_82 : decode cX6_init 82 = .ok (.bipush 10, 2) := by decide +kernel
theorem dX6_init_84 : decode cX6_init 84 = .ok (.invokevirtual 34, 3) := by decide +kernel
theorem dX6_init_87 : decode cX6_init 87 = .ok (.aload_n 0, 1) := by decide +kernel
theorem dX6_init_88 : decode cX6_init 88 = .ok (.iconst 1, 1) := by decide +kernel
theorem dX6_init_89 : decode cX6_init 89 = .ok (.bipush 30, 2) := by decide +kernel
theorem dX6_init_91 : decode cX6_init 91 = .ok (.invokevirtual 38, 3) := by decide +kernel
theorem dX6_init_94 : decode cX6_init 94 = .ok (.aload_n 0, 1) := by decide +kernel
theorem dX6_init_95 : decode cX6_init 95 = .ok (.iconst 1, 1) := by decide +kernel
theorem dX6_init_96 : decode cX6_init 96 = .ok (.bipush 60, 2) := by decide +kernel
theorem dX6_init_98 : decode cX6_init 98 = .ok (.invokevirtual 38, 3) := by decide +kernel
theorem dX6_init_101 : decode cX6_init 101 = .ok (.aload_n 0, 1) := by decide +kernel
theorem dX6_init_102 : decode cX6_init 102 = .ok (.iconst 1, 1) := by decide +kernel
theorem dX6_init_103 : decode cX6_init 103 = .ok (.iconst 0, 1) := by decide +kernel
theorem dX6_init_104 : decode cX6_init 104 = .ok (.invokevirtual 42, 3) := by decide +kernel
theorem dX6_init_107 : decode cX6_init 107 = .ok (.aload_n 0, 1) := by decide +kernel
theorem dX6_init_108 : decode cX6_init 108 = .ok (.iconst 1, 1) := by decide +kernel
theorem dX6_init_109 : decode cX6_init 109 = .ok (.iconst 1, 1) := by decide +kernel
theorem dX6_init_110 : decode cX6_init 110 = .ok (.invokevirtual 42, 3) := by decide +kernel
theorem dX6_init_113 : decode cX6_init 113 = .ok (.aload_n 0, 1) := by decide +kernel
theorem dX6_init_114 : decode cX6_init 114 = .ok (.iconst 1, 1) := by decide +kernel
theorem dX6_init_115 : decode cX6_init 115 = .ok (.iconst 4, 1) := by decide +kernel
theorem dX6_init_116 : decode cX6_init 116 = .ok (.iconst 5, 1) := by decide +kernel
theorem dX6_init_117 : decode cX6_init 117 = .ok (.invokevirtual 45, 3) := by decide +kernel
theorem dX6_init_120 : decode cX6_init 120 = .ok (.aload_n 0, 1) := by decide +kernel
theorem dX6_init_121 : decode cX6_init 121 = .ok (.invokevirtual 48, 3) := by decide +kernel
theorem dX6_init_124 : decode cX6_init 124 = .ok (.return_, 1) := by decide +kernel
theorem dX6_thrown_0 : decode cX6_thrown 0 = .ok (.aload_n 0, 1) := by decide +kernel
theorem dX6_thrown_1 : decode cX6_thrown 1 = .ok (.getfield 51, 3) := by decide +kernel
theorem dX6_thrown_4 : decode cX6_thrown 4 = .ok (.ireturn, 1) := by decide +kernel
theorem dX6_in_0 : decode cX6_in 0 = .ok (.lload_n 0, 1) := by decide +kernel
theorem dX6_in_1 : decode cX6_in 1 = .ok (.lload_n 2, 1) := by decide +kernel
theorem dX6_in_2 : decode cX6_in 2 = .ok (.lcmp, 1) := by decide +kernel
theorem dX6_in_3 : decode cX6_in 3 = .ok (.ifCond .lt 14, 3) := by decide +kernel
theorem dX6_in_6 : decode cX6_in 6 = .ok (.lload_n 0, 1) := by decide +kernel
theorem dX6_in_7 : decode cX6_in 7 = .ok (.lload 4, 2) := by decide +kernel
theorem dX6_in_9 : decode cX6_in 9 = .ok (.lcmp, 1) := by decide +kernel
theorem dX6_in_10 : decode cX6_in 10 = .ok (.ifCond .gt 7, 3) := by decide +kernel
theorem dX6_in_13 : decode cX6_in 13 = .ok (.iconst 1, 1) := by decide +kernel
theorem dX6_in_14 : decode cX6_in 14 = .ok (.goto 4, 3) := by decide +kernel
theorem dX6_in_17 : decode cX6_in 17 = .ok (.iconst 0, 1) := by decide +kernel
theorem dX6_in_18 : decode cX6_in 18 = .ok (.ireturn, 1) := by decide +kernel
theorem dX6_fails_0 : decode cX6_fails 0 = .ok (.iload_n 1, 1) := by decide +kernel
theorem dX6_fails_1 : decode cX6_fails 1 = .ok (.ifCond .ne 8, 3) := by decide +kernel
theorem dX6_fails_4 : decode cX6_fails 4 = .ok (.aload_n 0, 1) := by decide +kernel
theorem dX6_fails_5 : decode cX6_fails 5 = .ok (.iload_n 2, 1) := by decide +kernel
theorem dX6_fails_6 : decode cX6_fails 6 = .ok (.putfield 51, 3) := by decide +kernel
theorem dX6_fails_9 : decode cX6_fails 9 = .ok (.iload_n 1, 1) := by decide +kernel
theorem dX6_fails_10 : decode cX6_fails 10 = .ok (.ifCond .ne 7, 3) := by decide +kernel
theorem dX6_fails_13 : decode cX6_fails 13 = .ok (.iconst 1, 1) := by decide +kernel
theorem dX6_fails_14 : decode cX6_fails 14 = .ok (.goto 4, 3) := by decide +kernel
theorem dX6_fails_17 : decode cX6_fails 17 = .ok (.iconst 0, 1) := by decide +kernel
theorem dX6_fails_18 : decode cX6_fails 18 = .ok (.ireturn, 1) := by decide +kernel
theorem dX6_has_0 : decode cX6_has 0 = .ok (.iload_n 0, 1) := by decide +kernel
theorem dX6_has_1 : decode cX6_has 1 = .ok (.iload_n 1, 1) := by decide +kernel
theorem dX6_has_2 : decode cX6_has 2 = .ok (.ishr, 1) := by decide +kernel
theorem dX6_has_3 : decode cX6_has 3 = .ok (.iconst 1, 1) := by decide +kernel
theorem dX6_has_4 : decode cX6_has 4 = .ok (.iand, 1) := by decide +kernel
theorem dX6_has_5 : decode cX6_has 5 = .ok (.iconst 1, 1) := by decide +kernel
theorem dX6_has_6 : decode cX6_has 6 = .ok (.if_icmp .ne 7, 3) := by decide +kernel
theorem dX6_has_9 : decode cX6_has 9 = .ok (.iconst 1, 1) := by decide +kernel
theorem dX6_has_10 : decode cX6_has 10 = .ok (.goto 4, 3) := by decide +kernel
theorem dX6_has_13 : decode cX6_has 13 = .ok (.iconst 0, 1) := by decide +kernel
theorem dX6_has_14 : decode cX6_has 14 = .ok (.ireturn, 1) := by decide +kernel
theorem dX6_bits_0 : decode cX6_bits 0 = .ok (.iconst 0, 1) := by decide +kernel
theorem dX6_bits_1 : decode cX6_bits 1 = .ok (.istore_n 1, 1) := by decide +kernel
theorem dX6_bits_2 : decode cX6_bits 2 = .ok (.iload_n 0, 1) := by decide +kernel
theorem dX6_bits_3 : decode cX6_bits 3 = .ok (.istore_n 2, 1) := by decide +kernel
theorem dX6_bits_4 : decode cX6_bits 4 = .ok (.iload_n 2, 1) := by decide +kernel
theorem dX6_bits_5 : decode cX6_bits 5 = .ok (.ifCond .eq 15, 3) := by decide +kernel
theorem dX6_bits_8 : decode cX6_bits 8 = .ok (.iinc 1 1, 3) := by decide +kernel
theorem dX6_bits_11 : decode cX6_bits 11 = .ok (.iload_n 2, 1) := by decide +kernel
theorem dX6_bits_12 : decode cX6_bits 12 = .ok (.iload_n 2, 1) := by decide +kernel
theorem dX6_bits_13 : decode cX6_bits 13 = .ok (.iconst 1, 1) := by decide +kernel
theorem dX6_bits_14 : decode cX6_bits 14 = .ok (.isub, 1) := by decide +kernel
theorem dX6_bits_15 : decode cX6_bits 15 = .ok (.iand, 1) := by decide +kernel
theorem dX6_bits_16 : decode cX6_bits 16 = .ok (.istore_n 2, 1) := by decide +kernel
theorem dX6_bits_17 : decode cX6_bits 17 = .ok (.goto (-13), 3) := by decide +kernel
theorem dX6_bits_20 : decode cX6_bits 20 = .ok (.iload_n 1, 1) := by decide +kernel
theorem dX6_bits_21 : decode cX6_bits 21 = .ok (.ireturn, 1) := by decide +kernel
theorem dX6_byteOf_0 : decode cX6_byteOf 0 = .ok (.iload 5, 2) := by decide +kernel
theorem dX6_byteOf_2 : decode cX6_byteOf 2 = .ok (.iconst 4, 1) := by decide +kernel
theorem dX6_byteOf_3 : decode cX6_byteOf 3 = .ok (.if_icmp .ge 7, 3) := by decide +kernel
theorem dX6_byteOf_6 : decode cX6_byteOf 6 = .ok (.iload_n 0, 1) := by decide +kernel
theorem dX6_byteOf_7 : decode cX6_byteOf 7 = .ok (.goto 38, 3) := by decide +kernel
theorem dX6_byteOf_10 : decode cX6_byteOf 10 = .ok (.iload 5, 2) := by decide +kernel
theorem dX6_byteOf_12 : decode cX6_byteOf 12 = .ok (.bipush 8, 2) := by decide +kernel
theorem dX6_byteOf_14 : decode cX6_byteOf 14 = .ok (.if_icmp .ge 7, 3) := by decide +kernel
theorem dX6_byteOf_17 : decode cX6_byteOf 17 = .ok (.iload_n 1, 1) := by decide +kernel
theorem dX6_byteOf_18 : decode cX6_byteOf 18 = .ok (.goto 27, 3) := by decide +kernel
theorem dX6_byteOf_21 : decode cX6_byteOf 21 = .ok (.iload 5, 2) := by decide +kernel
theorem dX6_byteOf_23 : decode cX6_byteOf 23 = .ok (.bipush 12, 2) := by decide +kernel
theorem dX6_byteOf_25 : decode cX6_byteOf 25 = .ok (.if_icmp .ge 7, 3) := by decide +kernel
theorem dX6_byteOf_28 : decode cX6_byteOf 28 = .ok (.iload_n 2, 1) := by decide +kernel
theorem dX6_byteOf_29 : decode cX6_byteOf 29 = .ok (.goto 16, 3) := by decide +kernel
theorem dX6_byteOf_32 : decode cX6_byteOf 32 = .ok (.iload 5, 2) := by decide +kernel
theorem dX6_byteOf_34 : decode cX6_byteOf 34 = .ok (.bipush 16, 2) := by decide +kernel
theorem dX6_byteOf_36 : decode cX6_byteOf 36 = .ok (.if_icmp .ge 7, 3) := by decide +kernel
theorem dX6_byteOf_39 : decode cX6_byteOf 39 = .ok (.iload_n 3, 1) := by decide +kernel
theorem dX6_byteOf_40 : decode cX6_byteOf 40 = .ok (.goto 5, 3) := by decide +kernel
theorem dX6_byteOf_43 : decode cX6_byteOf 43 = .ok (.iload 4, 2) := by decide +kernel
theorem dX6_byteOf_45 : decode cX6_byteOf 45 = .ok (.istore 6, 2) := by decide +kernel
theorem dX6_byteOf_47 : decode cX6_byteOf 47 = .ok (.iload 6, 2) := by decide +kernel
theorem dX6_byteOf_49 : decode cX6_byteOf 49 = .ok (.bipush 24, 2) := by decide +kernel
theorem dX6_byteOf_51 : decode cX6_byteOf 51 = .ok (.bipush 8, 2) := by decide +kernel
theorem dX6_byteOf_53 : decode cX6_byteOf 53 = .ok (.iload 5, 2) := by decide +kernel
theorem dX6_byteOf_55 : decode cX6_byteOf 55 = .ok (.iconst 4, 1) := by decide +kernel
theorem dX6_byteOf_56 : decode cX6_byteOf 56 = .ok (.irem, 1) := by decide +kernel
theorem dX6_byteOf_57 : decode cX6_byteOf 57 = .ok (.imul, 1) := by decide +kernel
theorem dX6_byteOf_58 : decode cX6_byteOf 58 = .ok (.isub, 1) := by decide +kernel
theorem dX6_byteOf_59 : decode cX6_byteOf 59 = .ok (.ishr, 1) := by decide +kernel
theorem dX6_byteOf_60 : decode cX6_byteOf 60 = .ok (.sipush 255, 3) := by decide +kernel
theorem dX6_byteOf_63 : decode cX6_byteOf 63 = .ok (.iand, 1) := by decide +kernel
theorem dX6_byteOf_64 : decode cX6_byteOf 64 = .ok (.ireturn, 1) := by decide +kernel
theorem dX6_append_0 : decode cX6_append 0 = .ok (.aload_n 0, 1) := by decide +kernel
theorem dX6_append_1 : decode cX6_append 1 = .ok (.iconst 0, 1) := by decide +kernel
theorem dX6_append_2 : decode cX6_append 2 = .ok (.putfield 51, 3) := by decide +kernel
theorem dX6_append_5 : decode cX6_append 5 = .ok (.iconst 0, 1) := by decide +kernel
theorem dX6_append_6 : decode cX6_append 6 = .ok (.istore 6, 2) := by decide +kernel
theorem dX6_append_8 : decode cX6_append 8 = .ok (.iconst 0, 1) := by decide +kernel
theorem dX6_append_9 : decode cX6_append 9 = .ok (.istore 7, 2) := by decide +kernel
theorem dX6_append_11 : decode cX6_append 11 = .ok (.iload 7, 2) := by decide +kernel
theorem dX6_append_13 : decode cX6_append 13 = .ok (.bipush 20, 2) := by decide +kernel
theorem dX6_append_15 : decode cX6_append 15 = .ok (.if_icmp .ge 34, 3) := by decide +kernel
theorem dX6_append_18 : decode cX6_append 18 = .ok (.iload 6, 2) := by decide +kernel
theorem dX6_append_20 : decode cX6_append 20 = .ok (.iload_n 1, 1) := by decide +kernel
theorem dX6_append_21 : decode cX6_append 21 = .ok (.iload_n 2, 1) := by decide +kernel
theorem dX6_append_22 : decode cX6_append 22 = .ok (.iload_n 3, 1) := by decide +kernel
theorem dX6_append_23 : decode cX6_append 23 = .ok (.iload 4, 2) := by decide +kernel
theorem dX6_append_25 : decode cX6_append 25 = .ok (.iload 5, 2) := by decide +kernel
theorem dX6_append_27 : decode cX6_append 27 = .ok (.iload 7, 2) := by decide +kernel
theorem dX6_append_29 : decode cX6_append 29 = .ok (.invokestatic 55, 3) := by decide +kernel
theorem dX6_append_32 : decode cX6_append 32 = .ok (.ifCond .eq 7, 3) := by decide +kernel
theorem dX6_append_35 : decode cX6_append 35 = .ok (.iconst 1, 1) := by decide +kernel
theorem dX6_append_36 : decode cX6_append 36 = .ok (.goto 4, 3) := by decide +kernel
theorem dX6_append_39 : decode cX6_append 39 = .ok (.iconst 0, 1) := by decide +kernel
theorem dX6_append_40 : decode cX6_append 40 = .ok (.iadd, 1) := by decide +kernel
theorem dX6_append_41 : decode cX6_append 41 = .ok (.istore 6, 2) := by decide +kernel
theorem dX6_append_43 : decode cX6_append 43 = .ok (.iinc 7 1, 3) := by decide +kernel
theorem dX6_append_46 : decode cX6_append 46 = .ok (.goto (-35), 3) := by decide +kernel
theorem dX6_append_49 : decode cX6_append 49 = .ok (.aload_n 0, 1) := by decide +kernel
theorem dX6_append_50 : decode cX6_append 50 = .ok (.aload_n 0, 1) := by decide +kernel
theorem dX6_append_51 : decode cX6_append 51 = .ok (.getfield 59, 3) := by decide +kernel
theorem dX6_append_54 : decode cX6_append 54 = .ok (.iload 6, 2) := by decide +kernel
theorem dX6_append_56 : decode cX6_append 56 = .ok (.iadd, 1) := by decide +kernel
theorem dX6_append_57 : decode cX6_append 57 = .ok (.sipush 600, 3) := by decide +kernel
theorem dX6_append_60 : decode cX6_append 60 = .ok (.if_icmp .gt 7, 3) := by decide +kernel
theorem dX6_append_63 : decode cX6_append 63 = .ok (.iconst 1, 1) := by decide +kernel
theorem dX6_append_64 : decode cX6_append 64 = .ok (.goto 4, 3) := by decide +kernel
theorem dX6_append_67 : decode cX6_append 67 = .ok (.iconst 0, 1) := by decide +kernel
theorem dX6_append_68 : decode cX6_append 68 = .ok (.iconst 1, 1) := by decide +kernel
theorem dX6_append_69 : decode cX6_append 69 = .ok (.invokevirtual 62, 3) := by decide +kernel
theorem dX6_append_72 : decode cX6_append 72 = .ok (.ifCond .eq 5, 3) := by decide +kernel
theorem dX6_append_75 : decode cX6_append 75 = .ok (.iconst 0, 1) := by decide +kernel
theorem dX6_append_76 : decode cX6_append 76 = .ok (.ireturn, 1) := by decide +kernel
theorem dX6_append_77 : decode cX6_append 77 = .ok (.iconst 0, 1) := by decide +kernel
theorem dX6_append_78 : decode cX6_append 78 = .ok (.istore 7, 2) := by decide +kernel
theorem dX6_append_80 : decode cX6_append 80 = .ok (.iload 7, 2) := by decide +kernel
theorem dX6_append_82 : decode cX6_append 82 = .ok (.bipush 20, 2) := by decide +kernel
theorem dX6_append_84 : decode cX6_append 84 = .ok (.if_icmp .ge 49, 3) := by decide +kernel
theorem dX6_append_87 : decode cX6_append 87 = .ok (.iload_n 1, 1) := by decide +kernel
theorem dX6_append_88 : decode cX6_append 88 = .ok (.iload_n 2, 1) := by decide +kernel
theorem dX6_append_89 : decode cX6_append 89 = .ok (.iload_n 3, 1) := by decide +kernel
theorem dX6_append_90 : decode cX6_append 90 = .ok (.iload 4, 2) := by decide +kernel
theorem dX6_append_92 : decode cX6_append 92 = .ok (.iload 5, 2) := by decide +kernel
theorem dX6_append_94 : decode cX6_append 94 = .ok (.iload 7, 2) := by decide +kernel
theorem dX6_append_96 : decode cX6_append 96 = .ok (.invokestatic 55, 3) := by decide +kernel
theorem dX6_append_99 : decode cX6_append 99 = .ok (.istore 8, 2) := by decide +kernel
theorem dX6_append_101 : decode cX6_append 101 = .ok (.iload 8, 2) := by decide +kernel
theorem dX6_append_103 : decode cX6_append 103 = .ok (.ifCond .eq 24, 3) := by decide +kernel
theorem dX6_append_106 : decode cX6_append 106 = .ok (.aload_n 0, 1) := by decide +kernel
theorem dX6_append_107 : decode cX6_append 107 = .ok (.getfield 9, 3) := by decide +kernel
theorem dX6_append_110 : decode cX6_append 110 = .ok (.aload_n 0, 1) := by decide +kernel
theorem dX6_append_111 : decode cX6_append 111 = .ok (.getfield 59, 3) := by decide +kernel
theorem dX6_append_114 : decode cX6_append 114 = .ok (.iload 8, 2) := by decide +kernel
theorem dX6_append_116 : decode cX6_append 116 = .ok (.iastore, 1) := by decide +kernel
theorem dX6_append_117 : decode cX6_append 117 = .ok (.aload_n 0, 1) := by decide +kernel
theorem dX6_append_118 : decode cX6_append 118 = .ok (.dup, 1) := by decide +kernel
theorem dX6_append_119 : decode cX6_append 119 = .ok (.getfield 59, 3) := by decide +kernel
theorem dX6_append_122 : decode cX6_append 122 = .ok (.iconst 1, 1) := by decide +kernel
theorem dX6_append_123 : decode cX6_append 123 = .ok (.iadd, 1) := by decide +kernel
theorem dX6_append_124 : decode cX6_append 124 = .ok (.putfield 59, 3) := by decide +kernel
theorem dX6_append_127 : decode cX6_append 127 = .ok (.iinc 7 1, 3) := by decide +kernel
theorem dX6_append_130 : decode cX6_append 130 = .ok (.goto (-50), 3) := by decide +kernel
theorem dX6_append_133 : decode cX6_append 133 = .ok (.aload_n 0, 1) := by decide +kernel
theorem dX6_append_134 : decode cX6_append 134 = .ok (.getfield 59, 3) := by decide +kernel
theorem dX6_append_137 : decode cX6_append 137 = .ok (.ireturn, 1) := by decide +kernel
theorem dX6_truncate_0 : decode cX6_truncate 0 = .ok (.aload_n 0, 1) := by decide +kernel
theorem dX6_truncate_1 : decode cX6_truncate 1 = .ok (.iconst 0, 1) := by decide +kernel
theorem dX6_truncate_2 : decode cX6_truncate 2 = .ok (.putfield 51, 3) := by decide +kernel
theorem dX6_truncate_5 : decode cX6_truncate 5 = .ok (.aload_n 0, 1) := by decide +kernel
theorem dX6_truncate_6 : decode cX6_truncate 6 = .ok (.iload_n 1, 1) := by decide +kernel
theorem dX6_truncate_7 : decode cX6_truncate 7 = .ok (.i2l, 1) := by decide +kernel
theorem dX6_truncate_8 : decode cX6_truncate 8 = .ok (.lconst 0, 1) := by decide +kernel
theorem dX6_truncate_9 : decode cX6_truncate 9 = .ok (.aload_n 0, 1) := by decide +kernel
theorem dX6_truncate_10 : decode cX6_truncate 10 = .ok (.getfield 59, 3) := by decide +kernel
theorem dX6_truncate_13 : decode cX6_truncate 13 = .ok (.i2l, 1) := by decide +kernel
theorem dX6_truncate_14 : decode cX6_truncate 14 = .ok (.invokestatic 66, 3) := by decide +kernel
theorem dX6_truncate_17 : decode cX6_truncate 17 = .ok (.iconst 1, 1) := by decide +kernel
theorem dX6_truncate_18 : decode cX6_truncate 18 = .ok (.invokevirtual 62, 3) := by decide +kernel
theorem dX6_truncate_21 : decode cX6_truncate 21 = .ok (.ifCond .eq 5, 3) := by decide +kernel
theorem dX6_truncate_24 : decode cX6_truncate 24 = .ok (.iconst 0, 1) := by decide +kernel
theorem dX6_truncate_25 : decode cX6_truncate 25 = .ok (.ireturn, 1) := by decide +kernel
theorem dX6_truncate_26 : decode cX6_truncate 26 = .ok (.aload_n 0, 1) := by decide +kernel
theorem dX6_truncate_27 : decode cX6_truncate 27 = .ok (.iload_n 1, 1) := by decide +kernel
theorem dX6_truncate_28 : decode cX6_truncate 28 = .ok (.putfield 59, 3) := by decide +kernel
theorem dX6_truncate_31 : decode cX6_truncate 31 = .ok (.iload_n 1, 1) := by decide +kernel
theorem dX6_truncate_32 : decode cX6_truncate 32 = .ok (.ireturn, 1) := by decide +kernel
theorem dX6_peek_0 : decode cX6_peek 0 = .ok (.iload_n 1, 1) := by decide +kernel
theorem dX6_peek_1 : decode cX6_peek 1 = .ok (.aload_n 0, 1) := by decide +kernel
theorem dX6_peek_2 : decode cX6_peek 2 = .ok (.getfield 59, 3) := by decide +kernel
theorem dX6_peek_5 : decode cX6_peek 5 = .ok (.if_icmp .ge 12, 3) := by decide +kernel
theorem dX6_peek_8 : decode cX6_peek 8 = .ok (.aload_n 0, 1) := by decide +kernel
theorem dX6_peek_9 : decode cX6_peek 9 = .ok (.getfield 9, 3) := by decide +kernel
theorem dX6_peek_12 : decode cX6_peek 12 = .ok (.iload_n 1, 1) := by decide +kernel
theorem dX6_peek_13 : decode cX6_peek 13 = .ok (.iaload, 1) := by decide +kernel
theorem dX6_peek_14 : decode cX6_peek 14 = .ok (.goto 4, 3) := by decide +kernel
theorem dX6_peek_17 : decode cX6_peek 17 = .ok (.iconst (-1), 1) := by decide +kernel
theorem dX6_peek_18 : decode cX6_peek 18 = .ok (.ireturn, 1) := by decide +kernel
theorem dX6_isLetter_0 : decode cX6_isLetter 0 = .ok (.iload_n 0, 1) := by decide +kernel
theorem dX6_isLetter_1 : decode cX6_isLetter 1 = .ok (.bipush 97, 2) := by decide +kernel
theorem dX6_isLetter_3 : decode cX6_isLetter 3 = .ok (.if_icmp .lt 13, 3) := by decide +kernel
theorem dX6_isLetter_6 : decode cX6_isLetter 6 = .ok (.iload_n 0, 1) := by decide +kernel
theorem dX6_isLetter_7 : decode cX6_isLetter 7 = .ok (.bipush 122, 2) := by decide +kernel
theorem dX6_isLetter_9 : decode cX6_isLetter 9 = .ok (.if_icmp .gt 7, 3) := by decide +kernel
theorem dX6_isLetter_12 : decode cX6_isLetter 12 = .ok (.iconst 1, 1) := by decide +kernel
theorem dX6_isLetter_13 : decode cX6_isLetter 13 = .ok (.goto 4, 3) := by decide +kernel
theorem dX6_isLetter_16 : decode cX6_isLetter 16 = .ok (.iconst 0, 1) := by decide +kernel
theorem dX6_isLetter_17 : decode cX6_isLetter 17 = .ok (.ireturn, 1) := by decide +kernel
theorem dX6_isDigit_0 : decode cX6_isDigit 0 = .ok (.iload_n 0, 1) := by decide +kernel
theorem dX6_isDigit_1 : decode cX6_isDigit 1 = .ok (.bipush 48, 2) := by decide +kernel
theorem dX6_isDigit_3 : decode cX6_isDigit 3 = .ok (.if_icmp .lt 13, 3) := by decide +kernel
theorem dX6_isDigit_6 : decode cX6_isDigit 6 = .ok (.iload_n 0, 1) := by decide +kernel
theorem dX6_isDigit_7 : decode cX6_isDigit 7 = .ok (.bipush 57, 2) := by decide +kernel
theorem dX6_isDigit_9 : decode cX6_isDigit 9 = .ok (.if_icmp .gt 7, 3) := by decide +kernel
theorem dX6_isDigit_12 : decode cX6_isDigit 12 = .ok (.iconst 1, 1) := by decide +kernel
theorem dX6_isDigit_13 : decode cX6_isDigit 13 = .ok (.goto 4, 3) := by decide +kernel
theorem dX6_isDigit_16 : decode cX6_isDigit 16 = .ok (.iconst 0, 1) := by decide +kernel
theorem dX6_isDigit_17 : decode cX6_isDigit 17 = .ok (.ireturn, 1) := by decide +kernel
theorem dX6_step_0 : decode cX6_step 0 = .ok (.aload_n 0, 1) := by decide +kernel
theorem dX6_step_1 : decode cX6_step 1 = .ok (.aload_n 0, 1) := by decide +kernel
theorem dX6_step_2 : decode cX6_step 2 = .ok (.getfield 70, 3) := by decide +kernel
theorem dX6_step_5 : decode cX6_step 5 = .ok (.invokevirtual 73, 3) := by decide +kernel
theorem dX6_step_8 : decode cX6_step 8 = .ok (.bipush 32, 2) := by decide +kernel
theorem dX6_step_10 : decode cX6_step 10 = .ok (.if_icmp .ne 16, 3) := by decide +kernel
theorem dX6_step_13 : decode cX6_step 13 = .ok (.aload_n 0, 1) := by decide +kernel
theorem dX6_step_14 : decode cX6_step 14 = .ok (.dup, 1) := by decide +kernel
theorem dX6_step_15 : decode cX6_step 15 = .ok (.getfield 70, 3) := by decide +kernel
theorem dX6_step_18 : decode cX6_step 18 = .ok (.iconst 1, 1) := by decide +kernel
theorem dX6_step_19 : decode cX6_step 19 = .ok (.iadd, 1) := by decide +kernel
theorem dX6_step_20 : decode cX6_step 20 = .ok (.putfield 70, 3) := by decide +kernel
theorem dX6_step_23 : decode cX6_step 23 = .ok (.goto (-23), 3) := by decide +kernel
theorem dX6_step_26 : decode cX6_step 26 = .ok (.aload_n 0, 1) := by decide +kernel
theorem dX6_step_27 : decode cX6_step 27 = .ok (.aload_n 0, 1) := by decide +kernel
theorem dX6_step_28 : decode cX6_step 28 = .ok (.getfield 70, 3) := by decide +kernel
theorem dX6_step_31 : decode cX6_step 31 = .ok (.putfield 77, 3) := by decide +kernel
theorem dX6_step_34 : decode cX6_step 34 = .ok (.aload_n 0, 1) := by decide +kernel
theorem dX6_step_35 : decode cX6_step 35 = .ok (.aload_n 0, 1) := by decide +kernel
theorem dX6_step_36 : decode cX6_step 36 = .ok (.getfield 70, 3) := by decide +kernel
theorem dX6_step_39 : decode cX6_step 39 = .ok (.invokevirtual 73, 3) := by decide +kernel
theorem dX6_step_42 : decode cX6_step 42 = .ok (.istore_n 1, 1) := by decide +kernel
theorem dX6_step_43 : decode cX6_step 43 = .ok (.aload_n 0, 1) := by decide +kernel
theorem dX6_step_44 : decode cX6_step 44 = .ok (.iload_n 1, 1) := by decide +kernel
theorem dX6_step_45 : decode cX6_step 45 = .ok (.ifCond .ge 7, 3) := by decide +kernel
theorem dX6_step_48 : decode cX6_step 48 = .ok (.iconst 0, 1) := by decide +kernel
theorem dX6_step_49 : decode cX6_step 49 = .ok (.goto 26, 3) := by decide +kernel
theorem dX6_step_52 : decode cX6_step 52 = .ok (.iload_n 1, 1) := by decide +kernel
theorem dX6_step_53 : decode cX6_step 53 = .ok (.invokestatic 80, 3) := by decide +kernel
theorem dX6_step_56 : decode cX6_step 56 = .ok (.ifCond .eq 7, 3) := by decide +kernel
theorem dX6_step_59 : decode cX6_step 59 = .ok (.iconst 1, 1) := by decide +kernel
theorem dX6_step_60 : decode cX6_step 60 = .ok (.goto 15, 3) := by decide +kernel
theorem dX6_step_63 : decode cX6_step 63 = .ok (.iload_n 1, 1) := by decide +kernel
theorem dX6_step_64 : decode cX6_step 64 = .ok (.invokestatic 84, 3) := by decide +kernel
theorem dX6_step_67 : decode cX6_step 67 = .ok (.ifCond .eq 7, 3) := by decide +kernel
theorem dX6_step_70 : decode cX6_step 70 = .ok (.iconst 2, 1) := by decide +kernel
theorem dX6_step_71 : decode cX6_step 71 = .ok (.goto 4, 3) := by decide +kernel
theorem dX6_step_74 : decode cX6_step 74 = .ok (.iconst 3, 1) := by decide +kernel
theorem dX6_step_75 : decode cX6_step 75 = .ok (.putfield 87, 3) := by decide +kernel
theorem dX6_step_78 : decode cX6_step 78 = .ok (.aload_n 0, 1) := by decide +kernel
theorem dX6_step_79 : decode cX6_step 79 = .ok (.iconst 0, 1) := by decide +kernel
theorem dX6_step_80 : decode cX6_step 80 = .ok (.putfield 90, 3) := by decide +kernel
theorem dX6_step_83 : decode cX6_step 83 = .ok (.aload_n 0, 1) := by decide +kernel
theorem dX6_step_84 : decode cX6_step 84 = .ok (.getfield 87, 3) := by decide +kernel
theorem dX6_step_87 : decode cX6_step 87 = .ok (.iconst 3, 1) := by decide +kernel
theorem dX6_step_88 : decode cX6_step 88 = .ok (.if_icmp .ne 13, 3) := by decide +kernel
theorem dX6_step_91 : decode cX6_step 91 = .ok (.aload_n 0, 1) := by decide +kernel
theorem dX6_step_92 : decode cX6_step 92 = .ok (.dup, 1) := by decide +kernel
theorem dX6_step_93 : decode cX6_step 93 = .ok (.getfield 70, 3) := by decide +kernel
theorem dX6_step_96 : decode cX6_step 96 = .ok (.iconst 1, 1) := by decide +kernel
theorem dX6_step_97 : decode cX6_step 97 = .ok (.iadd, 1) := by decide +kernel
theorem dX6_step_98 : decode cX6_step 98 = .ok (.putfield 70, 3) := by decide +kernel
theorem dX6_step_101 : decode cX6_step 101 = .ok (.aload_n 0, 1) := by decide +kernel
theorem dX6_step_102 : decode cX6_step 102 = .ok (.getfield 87, 3) := by decide +kernel
theorem dX6_step_105 : decode cX6_step 105 = .ok (.iconst 1, 1) := by decide +kernel
theorem dX6_step_106 : decode cX6_step 106 = .ok (.if_icmp .ne 30, 3) := by decide +kernel
theorem dX6_step_109 : decode cX6_step 109 = .ok (.aload_n 0, 1) := by decide +kernel
theorem dX6_step_110 : decode cX6_step 110 = .ok (.aload_n 0, 1) := by decide +kernel
theorem dX6_step_111 : decode cX6_step 111 = .ok (.getfield 70, 3) := by decide +kernel
theorem dX6_step_114 : decode cX6_step 114 = .ok (.invokevirtual 73, 3) := by decide +kernel
theorem dX6_step_117 : decode cX6_step 117 = .ok (.invokestatic 80, 3) := by decide +kernel
theorem dX6_step_120 : decode cX6_step 120 = .ok (.ifCond .eq 16, 3) := by decide +kernel
theorem dX6_step_123 : decode cX6_step 123 = .ok (.aload_n 0, 1) := by decide +kernel
theorem dX6_step_124 : decode cX6_step 124 = .ok (.dup, 1) := by decide +kernel
theorem dX6_step_125 : decode cX6_step 125 = .ok (.getfield 70, 3) := by decide +kernel
theorem dX6_step_128 : decode cX6_step 128 = .ok (.iconst 1, 1) := by decide +kernel
theorem dX6_step_129 : decode cX6_step 129 = .ok (.iadd, 1) := by decide +kernel
theorem dX6_step_130 : decode cX6_step 130 = .ok (.putfield 70, 3) := by decide +kernel
theorem dX6_step_133 : decode cX6_step 133 = .ok (.goto (-32), 3) := by decide +kernel
theorem dX6_step_136 : decode cX6_step 136 = .ok (.aload_n 0, 1) := by decide +kernel
theorem dX6_step_137 : decode cX6_step 137 = .ok (.getfield 87, 3) := by decide +kernel
theorem dX6_step_140 : decode cX6_step 140 = .ok (.iconst 2, 1) := by decide +kernel
theorem dX6_step_141 : decode cX6_step 141 = .ok (.if_icmp .ne 59, 3) := by decide +kernel
theorem dX6_step_144 : decode cX6_step 144 = .ok (.aload_n 0, 1) := by decide +kernel
theorem dX6_step_145 : decode cX6_step 145 = .ok (.aload_n 0, 1) := by decide +kernel
theorem dX6_step_146 : decode cX6_step 146 = .ok (.getfield 70, 3) := by decide +kernel
theorem dX6_step_149 : decode cX6_step 149 = .ok (.invokevirtual 73, 3) := by decide +kernel
theorem dX6_step_152 : decode cX6_step 152 = .ok (.invokestatic 84, 3) := by decide +kernel
theorem dX6_step_155 : decode cX6_step 155 = .ok (.ifCond .eq 45, 3) := by decide +kernel
theorem dX6_step_158 : decode cX6_step 158 = .ok (.aload_n 0, 1) := by decide +kernel
theorem dX6_step_159 : decode cX6_step 159 = .ok (.sipush 10000, 3) := by decide +kernel
theorem dX6_step_162 : decode cX6_step 162 = .ok (.bipush 10, 2) := by decide +kernel
theorem dX6_step_164 : decode cX6_step 164 = .ok (.aload_n 0, 1) := by decide +kernel
theorem dX6_step_165 : decode cX6_step 165 = .ok (.getfield 90, 3) := by decide +kernel
theorem dX6_step_168 : decode cX6_step 168 = .ok (.imul, 1) := by decide +kernel
theorem dX6_step_169 : decode cX6_step 169 = .ok (.aload_n 0, 1) := by decide +kernel
theorem dX6_step_170 : decode cX6_step 170 = .ok (.aload_n 0, 1) := by decide +kernel
theorem dX6_step_171 : decode cX6_step 171 = .ok (.getfield 70, 3) := by decide +kernel
theorem dX6_step_174 : decode cX6_step 174 = .ok (.invokevirtual 73, 3) := by decide +kernel
theorem dX6_step_177 : decode cX6_step 177 = .ok (.iadd, 1) := by decide +kernel
theorem dX6_step_178 : decode cX6_step 178 = .ok (.bipush 48, 2) := by decide +kernel
theorem dX6_step_180 : decode cX6_step 180 = .ok (.isub, 1) := by decide +kernel
theorem dX6_step_181 : decode cX6_step 181 = .ok (.invokestatic 93, 3) := by decide +kernel
theorem dX6_step_184 : decode cX6_step 184 = .ok (.putfield 90, 3) := by decide +kernel
theorem dX6_step_187 : decode cX6_step 187 = .ok (.aload_n 0, 1) := by decide +kernel
theorem dX6_step_188 : decode cX6_step 188 = .ok (.dup, 1) := by decide +kernel
theorem dX6_step_189 : decode cX6_step 189 = .ok (.getfield 70, 3) := by decide +kernel
theorem dX6_step_192 : decode cX6_step 192 = .ok (.iconst 1, 1) := by decide +kernel
theorem dX6_step_193 : decode cX6_step 193 = .ok (.iadd, 1) := by decide +kernel
theorem dX6_step_194 : decode cX6_step 194 = .ok (.putfield 70, 3) := by decide +kernel
theorem dX6_step_197 : decode cX6_step 197 = .ok (.goto (-61), 3) := by decide +kernel
theorem dX6_step_200 : decode cX6_step 200 = .ok (.return_, 1) := by decide +kernel
theorem dX6_fail_0 : decode cX6_fail 0 = .ok (.aload_n 0, 1) := by decide +kernel
theorem dX6_fail_1 : decode cX6_fail 1 = .ok (.aload_n 0, 1) := by decide +kernel
theorem dX6_fail_2 : decode cX6_fail 2 = .ok (.getfield 99, 3) := by decide +kernel
theorem dX6_fail_5 : decode cX6_fail 5 = .ok (.ifCond .ge 10, 3) := by decide +kernel
theorem dX6_fail_8 : decode cX6_fail 8 = .ok (.aload_n 0, 1) := by decide +kernel
theorem dX6_fail_9 : decode cX6_fail 9 = .ok (.getfield 77, 3) := by decide +kernel
theorem dX6_fail_12 : decode cX6_fail 12 = .ok (.goto 7, 3) := by decide +kernel
theorem dX6_fail_15 : decode cX6_fail 15 = .ok (.aload_n 0, 1) := by decide +kernel
theorem dX6_fail_16 : decode cX6_fail 16 = .ok (.getfield 99, 3) := by decide +kernel
theorem dX6_fail_19 : decode cX6_fail 19 = .ok (.putfield 99, 3) := by decide +kernel
theorem dX6_fail_22 : decode cX6_fail 22 = .ok (.return_, 1) := by decide +kernel
theorem dX6_isGood_0 : decode cX6_isGood 0 = .ok (.aload_n 0, 1) := by decide +kernel
theorem dX6_isGood_1 : decode cX6_isGood 1 = .ok (.getfield 99, 3) := by decide +kernel
theorem dX6_isGood_4 : decode cX6_isGood 4 = .ok (.ifCond .ge 7, 3) := by decide +kernel
theorem dX6_isGood_7 : decode cX6_isGood 7 = .ok (.iconst 1, 1) := by decide +kernel
theorem dX6_isGood_8 : decode cX6_isGood 8 = .ok (.goto 4, 3) := by decide +kernel
theorem dX6_isGood_11 : decode cX6_isGood 11 = .ok (.iconst 0, 1) := by decide +kernel
theorem dX6_isGood_12 : decode cX6_isGood 12 = .ok (.ireturn, 1) := by decide +kernel
theorem dX6_isWord_0 : decode cX6_isWord 0 = .ok (.aload_n 0, 1) := by decide +kernel
theorem dX6_isWord_1 : decode cX6_isWord 1 = .ok (.invokevirtual 102, 3) := by decide +kernel
theorem dX6_isWord_4 : decode cX6_isWord 4 = .ok (.ifCond .eq 31, 3) := by decide +kernel
theorem dX6_isWord_7 : decode cX6_isWord 7 = .ok (.aload_n 0, 1) := by decide +kernel
theorem dX6_isWord_8 : decode cX6_isWord 8 = .ok (.getfield 87, 3) := by decide +kernel
theorem dX6_isWord_11 : decode cX6_isWord 11 = .ok (.iconst 1, 1) := by decide +kernel
theorem dX6_isWord_12 : decode cX6_isWord 12 = .ok (.if_icmp .ne 23, 3) := by decide +kernel
theorem dX6_isWord_15 : decode cX6_isWord 15 = .ok (.aload_n 0, 1) := by decide +kernel
theorem dX6_isWord_16 : decode cX6_isWord 16 = .ok (.getfield 70, 3) := by decide +kernel
theorem dX6_isWord_19 : decode cX6_isWord 19 = .ok (.aload_n 0, 1) := by decide +kernel
theorem dX6_isWord_20 : decode cX6_isWord 20 = .ok (.getfield 77, 3) := by decide +kernel
theorem dX6_isWord_23 : decode cX6_isWord 23 = .ok (.isub, 1) := by decide +kernel
theorem dX6_isWord_24 : decode cX6_isWord 24 = .ok (.aload_n 1, 1) := by decide +kernel
theorem dX6_isWord_25 : decode cX6_isWord 25 = .ok (.invokevirtual 106, 3) := by decide +kernel
theorem dX6_isWord_28 : decode cX6_isWord 28 = .ok (.if_icmp .ne 7, 3) := by decide +kernel
theorem dX6_isWord_31 : decode cX6_isWord 31 = .ok (.iconst 1, 1) := by decide +kernel
theorem dX6_isWord_32 : decode cX6_isWord 32 = .ok (.goto 4, 3) := by decide +kernel
theorem dX6_isWord_35 : decode cX6_isWord 35 = .ok (.iconst 0, 1) := by decide +kernel
theorem dX6_isWord_36 : decode cX6_isWord 36 = .ok (.istore_n 2, 1) := by decide +kernel
theorem dX6_isWord_37 : decode cX6_isWord 37 = .ok (.iconst 0, 1) := by decide +kernel
theorem dX6_isWord_38 : decode cX6_isWord 38 = .ok (.istore_n 3, 1) := by decide +kernel
theorem dX6_isWord_39 : decode cX6_isWord 39 = .ok (.iload_n 2, 1) := by decide +kernel
theorem dX6_isWord_40 : decode cX6_isWord 40 = .ok (.ifCond .eq 42, 3) := by decide +kernel
theorem dX6_isWord_43 : decode cX6_isWord 43 = .ok (.iload_n 3, 1) := by decide +kernel
theorem dX6_isWord_44 : decode cX6_isWord 44 = .ok (.aload_n 1, 1) := by decide +kernel
theorem dX6_isWord_45 : decode cX6_isWord 45 = .ok (.invokevirtual 106, 3) := by decide +kernel
theorem dX6_isWord_48 : decode cX6_isWord 48 = .ok (.if_icmp .ge 34, 3) := by decide +kernel
theorem dX6_isWord_51 : decode cX6_isWord 51 = .ok (.aload_n 0, 1) := by decide +kernel
theorem dX6_isWord_52 : decode cX6_isWord 52 = .ok (.getfield 9, 3) := by decide +kernel
theorem dX6_isWord_55 : decode cX6_isWord 55 = .ok (.aload_n 0, 1) := by decide +kernel
theorem dX6_isWord_56 : decode cX6_isWord 56 = .ok (.getfield 77, 3) := by decide +kernel
theorem dX6_isWord_59 : decode cX6_isWord 59 = .ok (.iload_n 3, 1) := by decide +kernel
theorem dX6_isWord_60 : decode cX6_isWord 60 = .ok (.iadd, 1) := by decide +kernel
theorem dX6_isWord_61 : decode cX6_isWord 61 = .ok (.iaload, 1) := by decide +kernel
theorem dX6_isWord_62 : decode cX6_isWord 62 = .ok (.aload_n 1, 1) := by decide +kernel
theorem dX6_isWord_63 : decode cX6_isWord 63 = .ok (.iload_n 3, 1) := by decide +kernel
theorem dX6_isWord_64 : decode cX6_isWord 64 = .ok (.invokevirtual 111, 3) := by decide +kernel
theorem dX6_isWord_67 : decode cX6_isWord 67 = .ok (.if_icmp .ne 7, 3) := by decide +kernel
theorem dX6_isWord_70 : decode cX6_isWord 70 = .ok (.iconst 1, 1) := by decide +kernel
theorem dX6_isWord_71 : decode cX6_isWord 71 = .ok (.goto 4, 3) := by decide +kernel
theorem dX6_isWord_74 : decode cX6_isWord 74 = .ok (.iconst 0, 1) := by decide +kernel
theorem dX6_isWord_75 : decode cX6_isWord 75 = .ok (.istore_n 2, 1) := by decide +kernel
theorem dX6_isWord_76 : decode cX6_isWord 76 = .ok (.iinc 3 1, 3) := by decide +kernel
theorem dX6_isWord_79 : decode cX6_isWord 79 = .ok (.goto (-40), 3) := by decide +kernel
theorem dX6_isWord_82 : decode cX6_isWord 82 = .ok (.iload_n 2, 1) := by decide +kernel
theorem dX6_isWord_83 : decode cX6_isWord 83 = .ok (.ireturn, 1) := by decide +kernel
theorem dX6_takeNumber_0 : decode cX6_takeNumber 0 = .ok (.aload_n 0, 1) := by decide +kernel
theorem dX6_takeNumber_1 : decode cX6_takeNumber 1 = .ok (.invokevirtual 102, 3) := by decide +kernel
theorem dX6_takeNumber_4 : decode cX6_takeNumber 4 = .ok (.ifCond .eq 39, 3) := by decide +kernel
theorem dX6_takeNumber_7 : decode cX6_takeNumber 7 = .ok (.aload_n 0, 1) := by decide +kernel
theorem dX6_takeNumber_8 : decode cX6_takeNumber 8 = .ok (.getfield 87, 3) := by decide +kernel
theorem dX6_takeNumber_11 : decode cX6_takeNumber 11 = .ok (.iconst 2, 1) := by decide +kernel
theorem dX6_takeNumber_12 : decode cX6_takeNumber 12 = .ok (.if_icmp .ne 31, 3) := by decide +kernel
theorem dX6_takeNumber_15 : decode cX6_takeNumber 15 = .ok (.aload_n 0, 1) := by decide +kernel
theorem dX6_takeNumber_16 : decode cX6_takeNumber 16 = .ok (.getfield 70, 3) := by decide +kernel
theorem dX6_takeNumber_19 : decode cX6_takeNumber 19 = .ok (.aload_n 0, 1) := by decide +kernel
theorem dX6_takeNumber_20 : decode cX6_takeNumber 20 = .ok (.getfield 77, 3) := by decide +kernel
theorem dX6_takeNumber_23 : decode cX6_takeNumber 23 = .ok (.isub, 1) := by decide +kernel
theorem dX6_takeNumber_24 : decode cX6_takeNumber 24 = .ok (.iconst 3, 1) := by decide +kernel
theorem dX6_takeNumber_25 : decode cX6_takeNumber 25 = .ok (.if_icmp .gt 18, 3) := by decide +kernel
theorem dX6_takeNumber_28 : decode cX6_takeNumber 28 = .ok (.aload_n 0, 1) := by decide +kernel
theorem dX6_takeNumber_29 : decode cX6_takeNumber 29 = .ok (.getfield 90, 3) := by decide +kernel
theorem dX6_takeNumber_32 : decode cX6_takeNumber 32 = .ok (.i2l, 1) := by decide +kernel
theorem dX6_takeNumber_33 : decode cX6_takeNumber 33 = .ok (.iload_n 1, 1) := by decide +kernel
theorem dX6_takeNumber_34 : decode cX6_takeNumber 34 = .ok (.i2l, 1) := by decide +kernel
theorem dX6_takeNumber_35 : decode cX6_takeNumber 35 = .ok (.iload_n 2, 1) := by decide +kernel
theorem dX6_takeNumber_36 : decode cX6_takeNumber 36 = .ok (.i2l, 1) := by decide +kernel
theorem dX6_takeNumber_37 : decode cX6_takeNumber 37 = .ok (.invokestatic 66, 3) := by decide +kernel
theorem dX6_takeNumber_40 : decode cX6_takeNumber 40 = .ok (.ifCond .ne 9, 3) := by decide +kernel
theorem dX6_takeNumber_43 : decode cX6_takeNumber 43 = .ok (.aload_n 0, 1) := by decide +kernel
theorem dX6_takeNumber_44 : decode cX6_takeNumber 44 = .ok (.invokevirtual 115, 3) := by decide +kernel
theorem dX6_takeNumber_47 : decode cX6_takeNumber 47 = .ok (.iload_n 1, 1) := by decide +kernel
theorem dX6_takeNumber_48 : decode cX6_takeNumber 48 = .ok (.ireturn, 1) := by decide +kernel
theorem dX6_takeNumber_49 : decode cX6_takeNumber 49 = .ok (.aload_n 0, 1) := by decide +kernel
theorem dX6_takeNumber_50 : decode cX6_takeNumber 50 = .ok (.getfield 90, 3) := by decide +kernel
theorem dX6_takeNumber_53 : decode cX6_takeNumber 53 = .ok (.istore_n 3, 1) := by decide +kernel
theorem dX6_takeNumber_54 : decode cX6_takeNumber 54 = .ok (.aload_n 0, 1) := by decide +kernel
theorem dX6_takeNumber_55 : decode cX6_takeNumber 55 = .ok (.invokevirtual 118, 3) := by decide +kernel
theorem dX6_takeNumber_58 : decode cX6_takeNumber 58 = .ok (.iload_n 3, 1) := by decide +kernel
theorem dX6_takeNumber_59 : decode cX6_takeNumber 59 = .ok (.ireturn, 1) := by decide +kernel
theorem dX6_begin_0 : decode cX6_begin 0 = .ok (.iconst 0, 1) := by decide +kernel
theorem dX6_begin_1 : decode cX6_begin 1 = .ok (.istore_n 1, 1) := by decide +kernel
theorem dX6_begin_2 : decode cX6_begin 2 = .ok (.iload_n 1, 1) := by decide +kernel
theorem dX6_begin_3 : decode cX6_begin 3 = .ok (.sipush 765, 3) := by decide +kernel
theorem dX6_begin_6 : decode cX6_begin 6 = .ok (.if_icmp .ge 16, 3) := by decide +kernel
theorem dX6_begin_9 : decode cX6_begin 9 = .ok (.aload_n 0, 1) := by decide +kernel
theorem dX6_begin_10 : decode cX6_begin 10 = .ok (.getfield 13, 3) := by decide +kernel
theorem dX6_begin_13 : decode cX6_begin 13 = .ok (.iload_n 1, 1) := by decide +kernel
theorem dX6_begin_14 : decode cX6_begin 14 = .ok (.iconst 0, 1) := by decide +kernel
theorem dX6_begin_15 : decode cX6_begin 15 = .ok (.iastore, 1) := by decide +kernel
theorem dX6_begin_16 : decode cX6_begin 16 = .ok (.iinc 1 1, 3) := by decide +kernel
theorem dX6_begin_19 : decode cX6_begin 19 = .ok (.goto (-17), 3) := by decide +kernel
theorem dX6_begin_22 : decode cX6_begin 22 = .ok (.aload_n 0, 1) := by decide +kernel
theorem dX6_begin_23 : decode cX6_begin 23 = .ok (.getfield 13, 3) := by decide +kernel
theorem dX6_begin_26 : decode cX6_begin 26 = .ok (.iconst 0, 1) := by decide +kernel
theorem dX6_begin_27 : decode cX6_begin 27 = .ok (.bipush 20, 2) := by decide +kernel
theorem dX6_begin_29 : decode cX6_begin 29 = .ok (.iastore, 1) := by decide +kernel
theorem dX6_begin_30 : decode cX6_begin 30 = .ok (.aload_n 0, 1) := by decide +kernel
theorem dX6_begin_31 : decode cX6_begin 31 = .ok (.getfield 13, 3) := by decide +kernel
theorem dX6_begin_34 : decode cX6_begin 34 = .ok (.iconst 1, 1) := by decide +kernel
theorem dX6_begin_35 : decode cX6_begin 35 = .ok (.iconst 2, 1) := by decide +kernel
theorem dX6_begin_36 : decode cX6_begin 36 = .ok (.iastore, 1) := by decide +kernel
theorem dX6_begin_37 : decode cX6_begin 37 = .ok (.aload_n 0, 1) := by decide +kernel
theorem dX6_begin_38 : decode cX6_begin 38 = .ok (.getfield 13, 3) := by decide +kernel
theorem dX6_begin_41 : decode cX6_begin 41 = .ok (.iconst 2, 1) := by decide +kernel
theorem dX6_begin_42 : decode cX6_begin 42 = .ok (.bipush 50, 2) := by decide +kernel
theorem dX6_begin_44 : decode cX6_begin 44 = .ok (.iastore, 1) := by decide +kernel
theorem dX6_begin_45 : decode cX6_begin 45 = .ok (.aload_n 0, 1) := by decide +kernel
theorem dX6_begin_46 : decode cX6_begin 46 = .ok (.iconst 0, 1) := by decide +kernel
theorem dX6_begin_47 : decode cX6_begin 47 = .ok (.putfield 121, 3) := by decide +kernel
theorem dX6_begin_50 : decode cX6_begin 50 = .ok (.return_, 1) := by decide +kernel
theorem dX6_readWall_0 : decode cX6_readWall 0 = .ok (.iconst 5, 1) := by decide +kernel
theorem dX6_readWall_1 : decode cX6_readWall 1 = .ok (.iconst 4, 1) := by decide +kernel
theorem dX6_readWall_2 : decode cX6_readWall 2 = .ok (.aload_n 0, 1) := by decide +kernel
theorem dX6_readWall_3 : decode cX6_readWall 3 = .ok (.getfield 13, 3) := by decide +kernel
theorem dX6_readWall_6 : decode cX6_readWall 6 = .ok (.iconst 4, 1) := by decide +kernel
theorem dX6_readWall_7 : decode cX6_readWall 7 = .ok (.iaload, 1) := by decide +kernel
theorem dX6_readWall_8 : decode cX6_readWall 8 = .ok (.imul, 1) := by decide +kernel
theorem dX6_readWall_9 : decode cX6_readWall 9 = .ok (.iadd, 1) := by decide +kernel
theorem dX6_readWall_10 : decode cX6_readWall 10 = .ok (.istore 4, 2) := by decide +kernel
theorem dX6_readWall_12 : decode cX6_readWall 12 = .ok (.aload_n 0, 1) := by decide +kernel
theorem dX6_readWall_13 : decode cX6_readWall 13 = .ok (.getfield 13, 3) := by decide +kernel
theorem dX6_readWall_16 : decode cX6_readWall 16 = .ok (.iload 4, 2) := by decide +kernel
theorem dX6_readWall_18 : decode cX6_readWall 18 = .ok (.iconst 0, 1) := by decide +kernel
theorem dX6_readWall_19 : decode cX6_readWall 19 = .ok (.iadd, 1) := by decide +kernel
theorem dX6_readWall_20 : decode cX6_readWall 20 = .ok (.iload_n 1, 1) := by decide +kernel
theorem dX6_readWall_21 : decode cX6_readWall 21 = .ok (.iastore, 1) := by decide +kernel
theorem dX6_readWall_22 : decode cX6_readWall 22 = .ok (.aload_n 0, 1) := by decide +kernel
theorem dX6_readWall_23 : decode cX6_readWall 23 = .ok (.getfield 13, 3) := by decide +kernel
theorem dX6_readWall_26 : decode cX6_readWall 26 = .ok (.iload 4, 2) := by decide +kernel
theorem dX6_readWall_28 : decode cX6_readWall 28 = .ok (.iconst 1, 1) := by decide +kernel
theorem dX6_readWall_29 : decode cX6_readWall 29 = .ok (.iadd, 1) := by decide +kernel
theorem dX6_readWall_30 : decode cX6_readWall 30 = .ok (.iload_n 2, 1) := by decide +kernel
theorem dX6_readWall_31 : decode cX6_readWall 31 = .ok (.iastore, 1) := by decide +kernel
theorem dX6_readWall_32 : decode cX6_readWall 32 = .ok (.aload_n 0, 1) := by decide +kernel
theorem dX6_readWall_33 : decode cX6_readWall 33 = .ok (.getfield 13, 3) := by decide +kernel
theorem dX6_readWall_36 : decode cX6_readWall 36 = .ok (.iload 4, 2) := by decide +kernel
theorem dX6_readWall_38 : decode cX6_readWall 38 = .ok (.iconst 2, 1) := by decide +kernel
theorem dX6_readWall_39 : decode cX6_readWall 39 = .ok (.iadd, 1) := by decide +kernel
theorem dX6_readWall_40 : decode cX6_readWall 40 = .ok (.iload_n 3, 1) := by decide +kernel
theorem dX6_readWall_41 : decode cX6_readWall 41 = .ok (.iastore, 1) := by decide +kernel
theorem dX6_readWall_42 : decode cX6_readWall 42 = .ok (.aload_n 0, 1) := by decide +kernel
theorem dX6_readWall_43 : decode cX6_readWall 43 = .ok (.getfield 13, 3) := by decide +kernel
theorem dX6_readWall_46 : decode cX6_readWall 46 = .ok (.iload 4, 2) := by decide +kernel
theorem dX6_readWall_48 : decode cX6_readWall 48 = .ok (.iconst 3, 1) := by decide +kernel
theorem dX6_readWall_49 : decode cX6_readWall 49 = .ok (.iadd, 1) := by decide +kernel
theorem dX6_readWall_50 : decode cX6_readWall 50 = .ok (.iload_n 3, 1) := by decide +kernel
theorem dX6_readWall_51 : decode cX6_readWall 51 = .ok (.iastore, 1) := by decide +kernel
theorem dX6_readWall_52 : decode cX6_readWall 52 = .ok (.aload_n 0, 1) := by decide +kernel
theorem dX6_readWall_53 : decode cX6_readWall 53 = .ok (.getfield 13, 3) := by decide +kernel
theorem dX6_readWall_56 : decode cX6_readWall 56 = .ok (.iconst 4, 1) := by decide +kernel
theorem dX6_readWall_57 : decode cX6_readWall 57 = .ok (.dup2, 1) := by decide +kernel
theorem dX6_readWall_58 : decode cX6_readWall 58 = .ok (.iaload, 1) := by decide +kernel
theorem dX6_readWall_59 : decode cX6_readWall 59 = .ok (.iconst 1, 1) := by decide +kernel
theorem dX6_readWall_60 : decode cX6_readWall 60 = .ok (.iadd, 1) := by decide +kernel
theorem dX6_readWall_61 : decode cX6_readWall 61 = .ok (.iastore, 1) := by decide +kernel
theorem dX6_readWall_62 : decode cX6_readWall 62 = .ok (.return_, 1) := by decide +kernel
theorem dX6_readHarness_0 : decode cX6_readHarness 0 = .ok (.sipush 471, 3) := by decide +kernel
theorem dX6_readHarness_3 : decode cX6_readHarness 3 = .ok (.iconst 5, 1) := by decide +kernel
theorem dX6_readHarness_4 : decode cX6_readHarness 4 = .ok (.aload_n 0, 1) := by decide +kernel
theorem dX6_readHarness_5 : decode cX6_readHarness 5 = .ok (.getfield 13, 3) := by decide +kernel
theorem dX6_readHarness_8 : decode cX6_readHarness 8 = .ok (.sipush 470, 3) := by decide +kernel
theorem dX6_readHarness_11 : decode cX6_readHarness 11 = .ok (.iaload, 1) := by decide +kernel
theorem dX6_readHarness_12 : decode cX6_readHarness 12 = .ok (.imul, 1) := by decide +kernel
theorem dX6_readHarness_13 : decode cX6_readHarness 13 = .ok (.iadd, 1) := by decide +kernel
theorem dX6_readHarness_14 : decode cX6_readHarness 14 = .ok (.istore_n 3, 1) := by decide +kernel
theorem dX6_readHarness_15 : decode cX6_readHarness 15 = .ok (.aload_n 0, 1) := by decide +kernel
theorem dX6_readHarness_16 : decode cX6_readHarness 16 = .ok (.getfield 13, 3) := by decide +kernel
theorem dX6_readHarness_19 : decode cX6_readHarness 19 = .ok (.iload_n 3, 1) := by decide +kernel
theorem dX6_readHarness_20 : decode cX6_readHarness 20 = .ok (.iconst 0, 1) := by decide +kernel
theorem dX6_readHarness_21 : decode cX6_readHarness 21 = .ok (.iadd, 1) := by decide +kernel
theorem dX6_readHarness_22 : decode cX6_readHarness 22 = .ok (.iload_n 1, 1) := by decide +kernel
theorem dX6_readHarness_23 : decode cX6_readHarness 23 = .ok (.iastore, 1) := by decide +kernel
theorem dX6_readHarness_24 : decode cX6_readHarness 24 = .ok (.aload_n 0, 1) := by decide +kernel
theorem dX6_readHarness_25 : decode cX6_readHarness 25 = .ok (.getfield 13, 3) := by decide +kernel
theorem dX6_readHarness_28 : decode cX6_readHarness 28 = .ok (.iload_n 3, 1) := by decide +kernel
theorem dX6_readHarness_29 : decode cX6_readHarness 29 = .ok (.iconst 1, 1) := by decide +kernel
theorem dX6_readHarness_30 : decode cX6_readHarness 30 = .ok (.iadd, 1) := by decide +kernel
theorem dX6_readHarness_31 : decode cX6_readHarness 31 = .ok (.iload_n 2, 1) := by decide +kernel
theorem dX6_readHarness_32 : decode cX6_readHarness 32 = .ok (.iastore, 1) := by decide +kernel
theorem dX6_readHarness_33 : decode cX6_readHarness 33 = .ok (.aload_n 0, 1) := by decide +kernel
theorem dX6_readHarness_34 : decode cX6_readHarness 34 = .ok (.getfield 13, 3) := by decide +kernel
theorem dX6_readHarness_37 : decode cX6_readHarness 37 = .ok (.iload_n 3, 1) := by decide +kernel
theorem dX6_readHarness_38 : decode cX6_readHarness 38 = .ok (.iconst 2, 1) := by decide +kernel
theorem dX6_readHarness_39 : decode cX6_readHarness 39 = .ok (.iadd, 1) := by decide +kernel
theorem dX6_readHarness_40 : decode cX6_readHarness 40 = .ok (.iconst 0, 1) := by decide +kernel
theorem dX6_readHarness_41 : decode cX6_readHarness 41 = .ok (.iastore, 1) := by decide +kernel
theorem dX6_readHarness_42 : decode cX6_readHarness 42 = .ok (.aload_n 0, 1) := by decide +kernel
theorem dX6_readHarness_43 : decode cX6_readHarness 43 = .ok (.getfield 13, 3) := by decide +kernel
theorem dX6_readHarness_46 : decode cX6_readHarness 46 = .ok (.iload_n 3, 1) := by decide +kernel
theorem dX6_readHarness_47 : decode cX6_readHarness 47 = .ok (.iconst 3, 1) := by decide +kernel
theorem dX6_readHarness_48 : decode cX6_readHarness 48 = .ok (.iadd, 1) := by decide +kernel
theorem dX6_readHarness_49 : decode cX6_readHarness 49 = .ok (.iconst 0, 1) := by decide +kernel
theorem dX6_readHarness_50 : decode cX6_readHarness 50 = .ok (.iastore, 1) := by decide +kernel
theorem dX6_readHarness_51 : decode cX6_readHarness 51 = .ok (.aload_n 0, 1) := by decide +kernel
theorem dX6_readHarness_52 : decode cX6_readHarness 52 = .ok (.getfield 13, 3) := by decide +kernel
theorem dX6_readHarness_55 : decode cX6_readHarness 55 = .ok (.iload_n 3, 1) := by decide +kernel
theorem dX6_readHarness_56 : decode cX6_readHarness 56 = .ok (.iconst 4, 1) := by decide +kernel
theorem dX6_readHarness_57 : decode cX6_readHarness 57 = .ok (.iadd, 1) := by decide +kernel
theorem dX6_readHarness_58 : decode cX6_readHarness 58 = .ok (.iconst 0, 1) := by decide +kernel
theorem dX6_readHarness_59 : decode cX6_readHarness 59 = .ok (.iastore, 1) := by decide +kernel
theorem dX6_readHarness_60 : decode cX6_readHarness 60 = .ok (.aload_n 0, 1) := by decide +kernel
theorem dX6_readHarness_61 : decode cX6_readHarness 61 = .ok (.getfield 13, 3) := by decide +kernel
theorem dX6_readHarness_64 : decode cX6_readHarness 64 = .ok (.sipush 470, 3) := by decide +kernel
theorem dX6_readHarness_67 : decode cX6_readHarness 67 = .ok (.dup2, 1) := by decide +kernel
theorem dX6_readHarness_68 : decode cX6_readHarness 68 = .ok (.iaload, 1) := by decide +kernel
theorem dX6_readHarness_69 : decode cX6_readHarness 69 = .ok (.iconst 1, 1) := by decide +kernel
theorem dX6_readHarness_70 : decode cX6_readHarness 70 = .ok (.iadd, 1) := by decide +kernel
theorem dX6_readHarness_71 : decode cX6_readHarness 71 = .ok (.iastore, 1) := by decide +kernel
theorem dX6_readHarness_72 : decode cX6_readHarness 72 = .ok (.return_, 1) := by decide +kernel
theorem dX6_readMember_0 : decode cX6_readMember 0 = .ok (.sipush 547, 3) := by decide +kernel
theorem dX6_readMember_3 : decode cX6_readMember 3 = .ok (.bipush 6, 2) := by decide +kernel
theorem dX6_readMember_5 : decode cX6_readMember 5 = .ok (.aload_n 0, 1) := by decide +kernel
theorem dX6_readMember_6 : decode cX6_readMember 6 = .ok (.getfield 13, 3) := by decide +kernel
theorem dX6_readMember_9 : decode cX6_readMember 9 = .ok (.sipush 546, 3) := by decide +kernel
theorem dX6_readMember_12 : decode cX6_readMember 12 = .ok (.iaload, 1) := by decide +kernel
theorem dX6_readMember_13 : decode cX6_readMember 13 = .ok (.imul, 1) := by decide +kernel
theorem dX6_readMember_14 : decode cX6_readMember 14 = .ok (.iadd, 1) := by decide +kernel
theorem dX6_readMember_15 : decode cX6_readMember 15 = .ok (.istore_n 3, 1) := by decide +kernel
theorem dX6_readMember_16 : decode cX6_readMember 16 = .ok (.aload_n 0, 1) := by decide +kernel
theorem dX6_readMember_17 : decode cX6_readMember 17 = .ok (.getfield 13, 3) := by decide +kernel
theorem dX6_readMember_20 : decode cX6_readMember 20 = .ok (.iload_n 3, 1) := by decide +kernel
theorem dX6_readMember_21 : decode cX6_readMember 21 = .ok (.iconst 0, 1) := by decide +kernel
theorem dX6_readMember_22 : decode cX6_readMember 22 = .ok (.iadd, 1) := by decide +kernel
theorem dX6_readMember_23 : decode cX6_readMember 23 = .ok (.iload_n 1, 1) := by decide +kernel
theorem dX6_readMember_24 : decode cX6_readMember 24 = .ok (.iastore, 1) := by decide +kernel
theorem dX6_readMember_25 : decode cX6_readMember 25 = .ok (.aload_n 0, 1) := by decide +kernel
theorem dX6_readMember_26 : decode cX6_readMember 26 = .ok (.getfield 13, 3) := by decide +kernel
theorem dX6_readMember_29 : decode cX6_readMember 29 = .ok (.iload_n 3, 1) := by decide +kernel
theorem dX6_readMember_30 : decode cX6_readMember 30 = .ok (.iconst 1, 1) := by decide +kernel
theorem dX6_readMember_31 : decode cX6_readMember 31 = .ok (.iadd, 1) := by decide +kernel
theorem dX6_readMember_32 : decode cX6_readMember 32 = .ok (.iload_n 2, 1) := by decide +kernel
theorem dX6_readMember_33 : decode cX6_readMember 33 = .ok (.iastore, 1) := by decide +kernel
theorem dX6_readMember_34 : decode cX6_readMember 34 = .ok (.aload_n 0, 1) := by decide +kernel
theorem dX6_readMember_35 : decode cX6_readMember 35 = .ok (.getfield 13, 3) := by decide +kernel
theorem dX6_readMember_38 : decode cX6_readMember 38 = .ok (.iload_n 3, 1) := by decide +kernel
theorem dX6_readMember_39 : decode cX6_readMember 39 = .ok (.iconst 2, 1) := by decide +kernel
theorem dX6_readMember_40 : decode cX6_readMember 40 = .ok (.iadd, 1) := by decide +kernel
theorem dX6_readMember_41 : decode cX6_readMember 41 = .ok (.iconst 0, 1) := by decide +kernel
theorem dX6_readMember_42 : decode cX6_readMember 42 = .ok (.iastore, 1) := by decide +kernel
theorem dX6_readMember_43 : decode cX6_readMember 43 = .ok (.aload_n 0, 1) := by decide +kernel
theorem dX6_readMember_44 : decode cX6_readMember 44 = .ok (.getfield 13, 3) := by decide +kernel
theorem dX6_readMember_47 : decode cX6_readMember 47 = .ok (.iload_n 3, 1) := by decide +kernel
theorem dX6_readMember_48 : decode cX6_readMember 48 = .ok (.iconst 3, 1) := by decide +kernel
theorem dX6_readMember_49 : decode cX6_readMember 49 = .ok (.iadd, 1) := by decide +kernel
theorem dX6_readMember_50 : decode cX6_readMember 50 = .ok (.iconst (-1), 1) := by decide +kernel
theorem dX6_readMember_51 : decode cX6_readMember 51 = .ok (.iastore, 1) := by decide +kernel
theorem dX6_readMember_52 : decode cX6_readMember 52 = .ok (.aload_n 0, 1) := by decide +kernel
theorem dX6_readMember_53 : decode cX6_readMember 53 = .ok (.getfield 13, 3) := by decide +kernel
theorem dX6_readMember_56 : decode cX6_readMember 56 = .ok (.iload_n 3, 1) := by decide +kernel
theorem dX6_readMember_57 : decode cX6_readMember 57 = .ok (.iconst 4, 1) := by decide +kernel
theorem dX6_readMember_58 : decode cX6_readMember 58 = .ok (.iadd, 1) := by decide +kernel
theorem dX6_readMember_59 : decode cX6_readMember 59 = .ok (.iconst (-1), 1) := by decide +kernel
theorem dX6_readMember_60 : decode cX6_readMember 60 = .ok (.iastore, 1) := by decide +kernel
theorem dX6_readMember_61 : decode cX6_readMember 61 = .ok (.aload_n 0, 1) := by decide +kernel
theorem dX6_readMember_62 : decode cX6_readMember 62 = .ok (.getfield 13, 3) := by decide +kernel
theorem dX6_readMember_65 : decode cX6_readMember 65 = .ok (.iload_n 3, 1) := by decide +kernel
theorem dX6_readMember_66 : decode cX6_readMember 66 = .ok (.iconst 5, 1) := by decide +kernel
theorem dX6_readMember_67 : decode cX6_readMember 67 = .ok (.iadd, 1) := by decide +kernel
theorem dX6_readMember_68 : decode cX6_readMember 68 = .ok (.iconst 0, 1) := by decide +kernel
theorem dX6_readMember_69 : decode cX6_readMember 69 = .ok (.iastore, 1) := by decide +kernel
theorem dX6_readMember_70 : decode cX6_readMember 70 = .ok (.aload_n 0, 1) := by decide +kernel
theorem dX6_readMember_71 : decode cX6_readMember 71 = .ok (.getfield 13, 3) := by decide +kernel
theorem dX6_readMember_74 : decode cX6_readMember 74 = .ok (.sipush 546, 3) := by decide +kernel
theorem dX6_readMember_77 : decode cX6_readMember 77 = .ok (.dup2, 1) := by decide +kernel
theorem dX6_readMember_78 : decode cX6_readMember 78 = .ok (.iaload, 1) := by decide +kernel
theorem dX6_readMember_79 : decode cX6_readMember 79 = .ok (.iconst 1, 1) := by decide +kernel
theorem dX6_readMember_80 : decode cX6_readMember 80 = .ok (.iadd, 1) := by decide +kernel
theorem dX6_readMember_81 : decode cX6_readMember 81 = .ok (.iastore, 1) := by decide +kernel
theorem dX6_readMember_82 : decode cX6_readMember 82 = .ok (.return_, 1) := by decide +kernel
theorem dX6_readCourse_0 : decode cX6_readCourse 0 = .ok (.sipush 620, 3) := by decide +kernel
theorem dX6_readCourse_3 : decode cX6_readCourse 3 = .ok (.iconst 3, 1) := by decide +kernel
theorem dX6_readCourse_4 : decode cX6_readCourse 4 = .ok (.aload_n 0, 1) := by decide +kernel
theorem dX6_readCourse_5 : decode cX6_readCourse 5 = .ok (.getfield 13, 3) := by decide +kernel
theorem dX6_readCourse_8 : decode cX6_readCourse 8 = .ok (.sipush 619, 3) := by decide +kernel
theorem dX6_readCourse_11 : decode cX6_readCourse 11 = .ok (.iaload, 1) := by decide +kernel
theorem dX6_readCourse_12 : decode cX6_readCourse 12 = .ok (.imul, 1) := by decide +kernel
theorem dX6_readCourse_13 : decode cX6_readCourse 13 = .ok (.iadd, 1) := by decide +kernel
theorem dX6_readCourse_14 : decode cX6_readCourse 14 = .ok (.istore 4, 2) := by decide +kernel
theorem dX6_readCourse_16 : decode cX6_readCourse 16 = .ok (.aload_n 0, 1) := by decide +kernel
theorem dX6_readCourse_17 : decode cX6_readCourse 17 = .ok (.getfield 13, 3) := by decide +kernel
theorem dX6_readCourse_20 : decode cX6_readCourse 20 = .ok (.iload 4, 2) := by decide +kernel
theorem dX6_readCourse_22 : decode cX6_readCourse 22 = .ok (.iconst 0, 1) := by decide +kernel
theorem dX6_readCourse_23 : decode cX6_readCourse 23 = .ok (.iadd, 1) := by decide +kernel
theorem dX6_readCourse_24 : decode cX6_readCourse 24 = .ok (.iload_n 1, 1) := by decide +kernel
theorem dX6_readCourse_25 : decode cX6_readCourse 25 = .ok (.iastore, 1) := by decide +kernel
theorem dX6_readCourse_26 : decode cX6_readCourse 26 = .ok (.aload_n 0, 1) := by decide +kernel
theorem dX6_readCourse_27 : decode cX6_readCourse 27 = .ok (.getfield 13, 3) := by decide +kernel
theorem dX6_readCourse_30 : decode cX6_readCourse 30 = .ok (.iload 4, 2) := by decide +kernel
theorem dX6_readCourse_32 : decode cX6_readCourse 32 = .ok (.iconst 1, 1) := by decide +kernel
theorem dX6_readCourse_33 : decode cX6_readCourse 33 = .ok (.iadd, 1) := by decide +kernel
theorem dX6_readCourse_34 : decode cX6_readCourse 34 = .ok (.iload_n 2, 1) := by decide +kernel
theorem dX6_readCourse_35 : decode cX6_readCourse 35 = .ok (.iastore, 1) := by decide +kernel
theorem dX6_readCourse_36 : decode cX6_readCourse 36 = .ok (.aload_n 0, 1) := by decide +kernel
theorem dX6_readCourse_37 : decode cX6_readCourse 37 = .ok (.getfield 13, 3) := by decide +kernel
theorem dX6_readCourse_40 : decode cX6_readCourse 40 = .ok (.iload 4, 2) := by decide +kernel
theorem dX6_readCourse_42 : decode cX6_readCourse 42 = .ok (.iconst 2, 1) := by decide +kernel
theorem dX6_readCourse_43 : decode cX6_readCourse 43 = .ok (.iadd, 1) := by decide +kernel
theorem dX6_readCourse_44 : decode cX6_readCourse 44 = .ok (.iload_n 3, 1) := by decide +kernel
theorem dX6_readCourse_45 : decode cX6_readCourse 45 = .ok (.iastore, 1) := by decide +kernel
theorem dX6_readCourse_46 : decode cX6_readCourse 46 = .ok (.aload_n 0, 1) := by decide +kernel
theorem dX6_readCourse_47 : decode cX6_readCourse 47 = .ok (.getfield 13, 3) := by decide +kernel
theorem dX6_readCourse_50 : decode cX6_readCourse 50 = .ok (.sipush 619, 3) := by decide +kernel
theorem dX6_readCourse_53 : decode cX6_readCourse 53 = .ok (.dup2, 1) := by decide +kernel
theorem dX6_readCourse_54 : decode cX6_readCourse 54 = .ok (.iaload, 1) := by decide +kernel
theorem dX6_readCourse_55 : decode cX6_readCourse 55 = .ok (.iconst 1, 1) := by decide +kernel
theorem dX6_readCourse_56 : decode cX6_readCourse 56 = .ok (.iadd, 1) := by decide +kernel
theorem dX6_readCourse_57 : decode cX6_readCourse 57 = .ok (.iastore, 1) := by decide +kernel
theorem dX6_readCourse_58 : decode cX6_readCourse 58 = .ok (.return_, 1) := by decide +kernel
theorem dX6_begins_0 : decode cX6_begins 0 = .ok (.aload_n 0, 1) := by decide +kernel
theorem dX6_begins_1 : decode cX6_begins 1 = .ok (.aload_n 1, 1) := by decide +kernel
theorem dX6_begins_2 : decode cX6_begins 2 = .ok (.invokevirtual 125, 3) := by decide +kernel
theorem dX6_begins_5 : decode cX6_begins 5 = .ok (.ifCond .ne 5, 3) := by decide +kernel
theorem dX6_begins_8 : decode cX6_begins 8 = .ok (.iconst 0, 1) := by decide +kernel
theorem dX6_begins_9 : decode cX6_begins 9 = .ok (.ireturn, 1) := by decide +kernel
theorem dX6_begins_10 : decode cX6_begins 10 = .ok (.iload_n 2, 1) := by decide +kernel
theorem dX6_begins_11 : decode cX6_begins 11 = .ok (.ifCond .eq 10, 3) := by decide +kernel
theorem dX6_begins_14 : decode cX6_begins 14 = .ok (.aload_n 0, 1) := by decide +kernel
theorem dX6_begins_15 : decode cX6_begins 15 = .ok (.invokevirtual 118, 3) := by decide +kernel
theorem dX6_begins_18 : decode cX6_begins 18 = .ok (.goto 7, 3) := by decide +kernel
theorem dX6_begins_21 : decode cX6_begins 21 = .ok (.aload_n 0, 1) := by decide +kernel
theorem dX6_begins_22 : decode cX6_begins 22 = .ok (.invokevirtual 115, 3) := by decide +kernel
theorem dX6_begins_25 : decode cX6_begins 25 = .ok (.iconst 1, 1) := by decide +kernel
theorem dX6_begins_26 : decode cX6_begins 26 = .ok (.ireturn, 1) := by decide +kernel
theorem dX6_readStatement_0 : decode cX6_readStatement 0 = .ok (.aload_n 0, 1) := by decide +kernel
theorem dX6_readStatement_1 : decode cX6_readStatement 1 = .ok (.ldc 129, 2) := by decide +kernel
theorem dX6_readStatement_3 : decode cX6_readStatement 3 = .ok (.aload_n 0, 1) := by decide +kernel
theorem dX6_readStatement_4 : decode cX6_readStatement 4 = .ok (.getfield 121, 3) := by decide +kernel
theorem dX6_readStatement_7 : decode cX6_readStatement 7 = .ok (.ifCond .ne 7, 3) := by decide +kernel
theorem dX6_readStatement_10 : decode cX6_readStatement 10 = .ok (.iconst 1, 1) := by decide +kernel
theorem dX6_readStatement_11 : decode cX6_readStatement 11 = .ok (.goto 4, 3) := by decide +kernel
theorem dX6_readStatement_14 : decode cX6_readStatement 14 = .ok (.iconst 0, 1) := by decide +kernel
theorem dX6_readStatement_15 : decode cX6_readStatement 15 = .ok (.invokevirtual 131, 3) := by decide +kernel
theorem dX6_readStatement_18 : decode cX6_readStatement 18 = .ok (.ifCond .eq 51, 3) := by decide +kernel
theorem dX6_readStatement_21 : decode cX6_readStatement 21 = .ok (.aload_n 0, 1) := by decide +kernel
theorem dX6_readStatement_22 : decode cX6_readStatement 22 = .ok (.iconst 1, 1) := by decide +kernel
theorem dX6_readStatement_23 : decode cX6_readStatement 23 = .ok (.putfield 121, 3) := by decide +kernel
theorem dX6_readStatement_26 : decode cX6_readStatement 26 = .ok (.aload_n 0, 1) := by decide +kernel
theorem dX6_readStatement_27 : decode cX6_readStatement 27 = .ok (.getfield 13, 3) := by decide +kernel
theorem dX6_readStatement_30 : decode cX6_readStatement 30 = .ok (.iconst 0, 1) := by decide +kernel
theorem dX6_readStatement_31 : decode cX6_readStatement 31 = .ok (.aload_n 0, 1) := by decide +kernel
theorem dX6_readStatement_32 : decode cX6_readStatement 32 = .ok (.iconst 0, 1) := by decide +kernel
theorem dX6_readStatement_33 : decode cX6_readStatement 33 = .ok (.bipush 40, 2) := by decide +kernel
theorem dX6_readStatement_35 : decode cX6_readStatement 35 = .ok (.invokevirtual 135, 3) := by decide +kernel
theorem dX6_readStatement_38 : decode cX6_readStatement 38 = .ok (.iastore, 1) := by decide +kernel
theorem dX6_readStatement_39 : decode cX6_readStatement 39 = .ok (.aload_n 0, 1) := by decide +kernel
theorem dX6_readStatement_40 : decode cX6_readStatement 40 = .ok (.getfield 13, 3) := by decide +kernel
theorem dX6_readStatement_43 : decode cX6_readStatement 43 = .ok (.iconst 1, 1) := by decide +kernel
theorem dX6_readStatement_44 : decode cX6_readStatement 44 = .ok (.aload_n 0, 1) := by decide +kernel
theorem dX6_readStatement_45 : decode cX6_readStatement 45 = .ok (.iconst 0, 1) := by decide +kernel
theorem dX6_readStatement_46 : decode cX6_readStatement 46 = .ok (.bipush 10, 2) := by decide +kernel
theorem dX6_readStatement_48 : decode cX6_readStatement 48 = .ok (.invokevirtual 135, 3) := by decide +kernel
theorem dX6_readStatement_51 : decode cX6_readStatement 51 = .ok (.iastore, 1) := by decide +kernel
theorem dX6_readStatement_52 : decode cX6_readStatement 52 = .ok (.aload_n 0, 1) := by decide +kernel
theorem dX6_readStatement_53 : decode cX6_readStatement 53 = .ok (.getfield 13, 3) := by decide +kernel
theorem dX6_readStatement_56 : decode cX6_readStatement 56 = .ok (.iconst 2, 1) := by decide +kernel
theorem dX6_readStatement_57 : decode cX6_readStatement 57 = .ok (.aload_n 0, 1) := by decide +kernel
theorem dX6_readStatement_58 : decode cX6_readStatement 58 = .ok (.iconst 1, 1) := by decide +kernel
theorem dX6_readStatement_59 : decode cX6_readStatement 59 = .ok (.sipush 200, 3) := by decide +kernel
theorem dX6_readStatement_62 : decode cX6_readStatement 62 = .ok (.invokevirtual 135, 3) := by decide +kernel
theorem dX6_readStatement_65 : decode cX6_readStatement 65 = .ok (.iastore, 1) := by decide +kernel
theorem dX6_readStatement_66 : decode cX6_readStatement 66 = .ok (.goto 256, 3) := by decide +kernel
theorem dX6_readStatement_69 : decode cX6_readStatement 69 = .ok (.aload_n 0, 1) := by decide +kernel
theorem dX6_readStatement_70 : decode cX6_readStatement 70 = .ok (.ldc 138, 2) := by decide +kernel
theorem dX6_readStatement_72 : decode cX6_readStatement 72 = .ok (.aload_n 0, 1) := by decide +kernel
theorem dX6_readStatement_73 : decode cX6_readStatement 73 = .ok (.getfield 13, 3) := by decide +kernel
theorem dX6_readStatement_76 : decode cX6_readStatement 76 = .ok (.iconst 4, 1) := by decide +kernel
theorem dX6_readStatement_77 : decode cX6_readStatement 77 = .ok (.iaload, 1) := by decide +kernel
theorem dX6_readStatement_78 : decode cX6_readStatement 78 = .ok (.bipush 8, 2) := by decide +kernel
theorem dX6_readStatement_80 : decode cX6_readStatement 80 = .ok (.if_icmp .ge 7, 3) := by decide +kernel
theorem dX6_readStatement_83 : decode cX6_readStatement 83 = .ok (.iconst 1, 1) := by decide +kernel
theorem dX6_readStatement_84 : decode cX6_readStatement 84 = .ok (.goto 4, 3) := by decide +kernel
theorem dX6_readStatement_87 : decode cX6_readStatement 87 = .ok (.iconst 0, 1) := by decide +kernel
theorem dX6_readStatement_88 : decode cX6_readStatement 88 = .ok (.invokevirtual 131, 3) := by decide +kernel
theorem dX6_readStatement_91 : decode cX6_readStatement 91 = .ok (.ifCond .eq 43, 3) := by decide +kernel
theorem dX6_readStatement_94 : decode cX6_readStatement 94 = .ok (.aload_n 0, 1) := by decide +kernel
theorem dX6_readStatement_95 : decode cX6_readStatement 95 = .ok (.iconst 3, 1) := by decide +kernel
theorem dX6_readStatement_96 : decode cX6_readStatement 96 = .ok (.bipush 30, 2) := by decide +kernel
theorem dX6_readStatement_98 : decode cX6_readStatement 98 = .ok (.invokevirtual 135, 3) := by decide +kernel
theorem dX6_readStatement_101 : decode cX6_readStatement 101 = .ok (.istore_n 1, 1) := by decide +kernel
theorem dX6_readStatement_102 : decode cX6_readStatement 102 = .ok (.aload_n 0, 1) := by decide +kernel
theorem dX6_readStatement_103 : decode cX6_readStatement 103 = .ok (.iconst 0, 1) := by decide +kernel
theorem dX6_readStatement_104 : decode cX6_readStatement 104 = .ok (.iconst 5, 1) := by decide +kernel
theorem dX6_readStatement_105 : decode cX6_readStatement 105 = .ok (.invokevirtual 135, 3) := by decide +kernel
theorem dX6_readStatement_108 : decode cX6_readStatement 108 = .ok (.istore_n 2, 1) := by decide +kernel
theorem dX6_readStatement_109 : decode cX6_readStatement 109 = .ok (.aload_n 0, 1) := by decide +kernel
theorem dX6_readStatement_110 : decode cX6_readStatement 110 = .ok (.iconst 1, 1) := by decide +kernel
theorem dX6_readStatement_111 : decode cX6_readStatement 111 = .ok (.bipush 60, 2) := by decide +kernel
theorem dX6_readStatement_113 : decode cX6_readStatement 113 = .ok (.invokevirtual 135, 3) := by decide +kernel
theorem dX6_readStatement_116 : decode cX6_readStatement 116 = .ok (.istore_n 3, 1) := by decide +kernel
theorem dX6_readStatement_117 : decode cX6_readStatement 117 = .ok (.aload_n 0, 1) := by decide +kernel
theorem dX6_readStatement_118 : decode cX6_readStatement 118 = .ok (.invokevirtual 102, 3) := by decide +kernel
theorem dX6_readStatement_121 : decode cX6_readStatement 121 = .ok (.ifCond .eq 10, 3) := by decide +kernel
theorem dX6_readStatement_124 : decode cX6_readStatement 124 = .ok (.aload_n 0, 1) := by decide +kernel
theorem dX6_readStatement_125 : decode cX6_readStatement 125 = .ok (.iload_n 1, 1) := by decide +kernel
theorem dX6_readStatement_126 : decode cX6_readStatement 126 = .ok (.iload_n 2, 1) := by decide +kernel
theorem dX6_readStatement_127 : decode cX6_readStatement 127 = .ok (.iload_n 3, 1) := by decide +kernel
theorem dX6_readStatement_128 : decode cX6_readStatement 128 = .ok (.invokevirtual 34, 3) := by decide +kernel
theorem dX6_readStatement_131 : decode cX6_readStatement 131 = .ok (.goto 191, 3) := by decide +kernel
theorem dX6_readStatement_134 : decode cX6_readStatement 134 = .ok (.aload_n 0, 1) := by decide +kernel
theorem dX6_readStatement_135 : decode cX6_readStatement 135 = .ok (.ldc 140, 2) := by decide +kernel
theorem dX6_readStatement_137 : decode cX6_readStatement 137 = .ok (.aload_n 0, 1) := by decide +kernel
theorem dX6_readStatement_138 : decode cX6_readStatement 138 = .ok (.getfield 13, 3) := by decide +kernel
theorem dX6_readStatement_141 : decode cX6_readStatement 141 = .ok (.sipush 470, 3) := by decide +kernel
theorem dX6_readStatement_144 : decode cX6_readStatement 144 = .ok (.iaload, 1) := by decide +kernel
theorem dX6_readStatement_145 : decode cX6_readStatement 145 = .ok (.bipush 15, 2) := by decide +kernel
theorem dX6_readStatement_147 : decode cX6_readStatement 147 = .ok (.if_icmp .ge 7, 3) := by decide +kernel
theorem dX6_readStatement_150 : decode cX6_readStatement 150 = .ok (.iconst 1, 1) := by decide +kernel
theorem dX6_readStatement_151 : decode cX6_readStatement 151 = .ok (.goto 4, 3) := by decide +kernel
theorem dX6_readStatement_154 : decode cX6_readStatement 154 = .ok (.iconst 0, 1) := by decide +kernel
theorem dX6_readStatement_155 : decode cX6_readStatement 155 = .ok (.invokevirtual 131, 3) := by decide +kernel
theorem dX6_readStatement_158 : decode cX6_readStatement 158 = .ok (.ifCond .eq 35, 3) := by decide +kernel
theorem dX6_readStatement_161 : decode cX6_readStatement 161 = .ok (.aload_n 0, 1) := by decide +kernel
theorem dX6_readStatement_162 : decode cX6_readStatement 162 = .ok (.iconst 0, 1) := by decide +kernel
theorem dX6_readStatement_163 : decode cX6_readStatement 163 = .ok (.iconst 3, 1) := by decide +kernel
theorem dX6_readStatement_164 : decode cX6_readStatement 164 = .ok (.invokevirtual 135, 3) := by decide +kernel
theorem dX6_readStatement_167 : decode cX6_readStatement 167 = .ok (.istore_n 1, 1) := by decide +kernel
theorem dX6_readStatement_168 : decode cX6_readStatement 168 = .ok (.aload_n 0, 1) := by decide +kernel
theorem dX6_readStatement_169 : decode cX6_readStatement 169 = .ok (.iconst 1, 1) := by decide +kernel
theorem dX6_readStatement_170 : decode cX6_readStatement 170 = .ok (.sipush 365, 3) := by decide +kernel
theorem dX6_readStatement_173 : decode cX6_readStatement 173 = .ok (.invokevirtual 135, 3) := by decide +kernel
theorem dX6_readStatement_176 : decode cX6_readStatement 176 = .ok (.istore_n 2, 1) := by decide +kernel
theorem dX6_readStatement_177 : decode cX6_readStatement 177 = .ok (.aload_n 0, 1) := by decide +kernel
theorem dX6_readStatement_178 : decode cX6_readStatement 178 = .ok (.invokevirtual 102, 3) := by decide +kernel
theorem dX6_readStatement_181 : decode cX6_readStatement 181 = .ok (.ifCond .eq 9, 3) := by decide +kernel
theorem dX6_readStatement_184 : decode cX6_readStatement 184 = .ok (.aload_n 0, 1) := by decide +kernel
theorem dX6_readStatement_185 : decode cX6_readStatement 185 = .ok (.iload_n 1, 1) := by decide +kernel
theorem dX6_readStatement_186 : decode cX6_readStatement 186 = .ok (.iload_n 2, 1) := by decide +kernel
theorem dX6_readStatement_187 : decode cX6_readStatement 187 = .ok (.invokevirtual 38, 3) := by decide +kernel
theorem dX6_readStatement_190 : decode cX6_readStatement 190 = .ok (.goto 132, 3) := by decide +kernel
theorem dX6_readStatement_193 : decode cX6_readStatement 193 = .ok (.aload_n 0, 1) := by decide +kernel
theorem dX6_readStatement_194 : decode cX6_readStatement 194 = .ok (.ldc 142, 2) := by decide +kernel
theorem dX6_readStatement_196 : decode cX6_readStatement 196 = .ok (.aload_n 0, 1) := by decide +kernel
theorem dX6_readStatement_197 : decode cX6_readStatement 197 = .ok (.getfield 13, 3) := by decide +kernel
theorem dX6_readStatement_200 : decode cX6_readStatement 200 = .ok (.sipush 546, 3) := by decide +kernel
theorem dX6_readStatement_203 : decode cX6_readStatement 203 = .ok (.iaload, 1) := by decide +kernel
theorem dX6_readStatement_204 : decode cX6_readStatement 204 = .ok (.bipush 12, 2) := by decide +kernel
theorem dX6_readStatement_206 : decode cX6_readStatement 206 = .ok (.if_icmp .ge 7, 3) := by decide +kernel
theorem dX6_readStatement_209 : decode cX6_readStatement 209 = .ok (.iconst 1, 1) := by decide +kernel
theorem dX6_readStatement_210 : decode cX6_readStatement 210 = .ok (.goto 4, 3) := by decide +kernel
theorem dX6_readStatement_213 : decode cX6_readStatement 213 = .ok (.iconst 0, 1) := by decide +kernel
theorem dX6_readStatement_214 : decode cX6_readStatement 214 = .ok (.invokevirtual 131, 3) := by decide +kernel
theorem dX6_readStatement_217 : decode cX6_readStatement 217 = .ok (.ifCond .eq 33, 3) := by decide +kernel
theorem dX6_readStatement_220 : decode cX6_readStatement 220 = .ok (.aload_n 0, 1) := by decide +kernel
theorem dX6_readStatement_221 : decode cX6_readStatement 221 = .ok (.iconst 0, 1) := by decide +kernel
theorem dX6_readStatement_222 : decode cX6_readStatement 222 = .ok (.iconst 3, 1) := by decide +kernel
theorem dX6_readStatement_223 : decode cX6_readStatement 223 = .ok (.invokevirtual 135, 3) := by decide +kernel
theorem dX6_readStatement_226 : decode cX6_readStatement 226 = .ok (.istore_n 1, 1) := by decide +kernel
theorem dX6_readStatement_227 : decode cX6_readStatement 227 = .ok (.aload_n 0, 1) := by decide +kernel
theorem dX6_readStatement_228 : decode cX6_readStatement 228 = .ok (.iconst 0, 1) := by decide +kernel
theorem dX6_readStatement_229 : decode cX6_readStatement 229 = .ok (.iconst 5, 1) := by decide +kernel
theorem dX6_readStatement_230 : decode cX6_readStatement 230 = .ok (.invokevirtual 135, 3) := by decide +kernel
theorem dX6_readStatement_233 : decode cX6_readStatement 233 = .ok (.istore_n 2, 1) := by decide +kernel
theorem dX6_readStatement_234 : decode cX6_readStatement 234 = .ok (.aload_n 0, 1) := by decide +kernel
theorem dX6_readStatement_235 : decode cX6_readStatement 235 = .ok (.invokevirtual 102, 3) := by decide +kernel
theorem dX6_readStatement_238 : decode cX6_readStatement 238 = .ok (.ifCond .eq 9, 3) := by decide +kernel
theorem dX6_readStatement_241 : decode cX6_readStatement 241 = .ok (.aload_n 0, 1) := by decide +kernel
theorem dX6_readStatement_242 : decode cX6_readStatement 242 = .ok (.iload_n 1, 1) := by decide +kernel
theorem dX6_readStatement_243 : decode cX6_readStatement 243 = .ok (.iload_n 2, 1) := by decide +kernel
theorem dX6_readStatement_244 : decode cX6_readStatement 244 = .ok (.invokevirtual 42, 3) := by decide +kernel
theorem dX6_readStatement_247 : decode cX6_readStatement 247 = .ok (.goto 75, 3) := by decide +kernel
theorem dX6_readStatement_250 : decode cX6_readStatement 250 = .ok (.aload_n 0, 1) := by decide +kernel
theorem dX6_readStatement_251 : decode cX6_readStatement 251 = .ok (.ldc 144, 2) := by decide +kernel
theorem dX6_readStatement_253 : decode cX6_readStatement 253 = .ok (.aload_n 0, 1) := by decide +kernel
theorem dX6_readStatement_254 : decode cX6_readStatement 254 = .ok (.getfield 13, 3) := by decide +kernel
theorem dX6_readStatement_257 : decode cX6_readStatement 257 = .ok (.sipush 619, 3) := by decide +kernel
theorem dX6_readStatement_260 : decode cX6_readStatement 260 = .ok (.iaload, 1) := by decide +kernel
theorem dX6_readStatement_261 : decode cX6_readStatement 261 = .ok (.bipush 8, 2) := by decide +kernel
theorem dX6_readStatement_263 : decode cX6_readStatement 263 = .ok (.if_icmp .ge 7, 3) := by decide +kernel
theorem dX6_readStatement_266 : decode cX6_readStatement 266 = .ok (.iconst 1, 1) := by decide +kernel
theorem dX6_readStatement_267 : decode cX6_readStatement 267 = .ok (.goto 4, 3) := by decide +kernel
theorem dX6_readStatement_270 : decode cX6_readStatement 270 = .ok (.iconst 0, 1) := by decide +kernel
theorem dX6_readStatement_271 : decode cX6_readStatement 271 = .ok (.invokevirtual 131, 3) := by decide +kernel
theorem dX6_readStatement_274 : decode cX6_readStatement 274 = .ok (.ifCond .eq 44, 3) := by decide +kernel
theorem dX6_readStatement_277 : decode cX6_readStatement 277 = .ok (.aload_n 0, 1) := by decide +kernel
theorem dX6_readStatement_278 : decode cX6_readStatement 278 = .ok (.iconst 1, 1) := by decide +kernel
theorem dX6_readStatement_279 : decode cX6_readStatement 279 = .ok (.iconst 5, 1) := by decide +kernel
theorem dX6_readStatement_280 : decode cX6_readStatement 280 = .ok (.invokevirtual 135, 3) := by decide +kernel
theorem dX6_readStatement_283 : decode cX6_readStatement 283 = .ok (.istore_n 1, 1) := by decide +kernel
theorem dX6_readStatement_284 : decode cX6_readStatement 284 = .ok (.aload_n 0, 1) := by decide +kernel
theorem dX6_readStatement_285 : decode cX6_readStatement 285 = .ok (.iconst 1, 1) := by decide +kernel
theorem dX6_readStatement_286 : decode cX6_readStatement 286 = .ok (.bipush 12, 2) := by decide +kernel
theorem dX6_readStatement_288 : decode cX6_readStatement 288 = .ok (.invokevirtual 135, 3) := by decide +kernel
theorem dX6_readStatement_291 : decode cX6_readStatement 291 = .ok (.istore_n 2, 1) := by decide +kernel
theorem dX6_readStatement_292 : decode cX6_readStatement 292 = .ok (.aload_n 0, 1) := by decide +kernel
theorem dX6_readStatement_293 : decode cX6_readStatement 293 = .ok (.iconst 0, 1) := by decide +kernel
theorem dX6_readStatement_294 : decode cX6_readStatement 294 = .ok (.sipush 200, 3) := by decide +kernel
theorem dX6_readStatement_297 : decode cX6_readStatement 297 = .ok (.invokevirtual 135, 3) := by decide +kernel
theorem dX6_readStatement_300 : decode cX6_readStatement 300 = .ok (.istore_n 3, 1) := by decide +kernel
theorem dX6_readStatement_301 : decode cX6_readStatement 301 = .ok (.aload_n 0, 1) := by decide +kernel
theorem dX6_readStatement_302 : decode cX6_readStatement 302 = .ok (.invokevirtual 102, 3) := by decide +kernel
theorem dX6_readStatement_305 : decode cX6_readStatement 305 = .ok (.ifCond .eq 10, 3) := by decide +kernel
theorem dX6_readStatement_308 : decode cX6_readStatement 308 = .ok (.aload_n 0, 1) := by decide +kernel
theorem dX6_readStatement_309 : decode cX6_readStatement 309 = .ok (.iload_n 1, 1) := by decide +kernel
theorem dX6_readStatement_310 : decode cX6_readStatement 310 = .ok (.iload_n 2, 1) := by decide +kernel
theorem dX6_readStatement_311 : decode cX6_readStatement 311 = .ok (.iload_n 3, 1) := by decide +kernel
theorem dX6_readStatement_312 : decode cX6_readStatement 312 = .ok (.invokevirtual 45, 3) := by decide +kernel
theorem dX6_readStatement_315 : decode cX6_readStatement 315 = .ok (.goto 7, 3) := by decide +kernel
theorem dX6_readStatement_318 : decode cX6_readStatement 318 = .ok (.aload_n 0, 1) := by decide +kernel
theorem dX6_readStatement_319 : decode cX6_readStatement 319 = .ok (.invokevirtual 115, 3) := by decide +kernel
theorem dX6_readStatement_322 : decode cX6_readStatement 322 = .ok (.return_, 1) := by decide +kernel
theorem dX6_parse_0 : decode cX6_parse 0 = .ok (.aload_n 0, 1) := by decide +kernel
theorem dX6_parse_1 : decode cX6_parse 1 = .ok (.iconst 0, 1) := by decide +kernel
theorem dX6_parse_2 : decode cX6_parse 2 = .ok (.putfield 70, 3) := by decide +kernel
theorem dX6_parse_5 : decode cX6_parse 5 = .ok (.aload_n 0, 1) := by decide +kernel
theorem dX6_parse_6 : decode cX6_parse 6 = .ok (.iconst (-1), 1) := by decide +kernel
theorem dX6_parse_7 : decode cX6_parse 7 = .ok (.putfield 99, 3) := by decide +kernel
theorem dX6_parse_10 : decode cX6_parse 10 = .ok (.aload_n 0, 1) := by decide +kernel
theorem dX6_parse_11 : decode cX6_parse 11 = .ok (.invokevirtual 31, 3) := by decide +kernel
theorem dX6_parse_14 : decode cX6_parse 14 = .ok (.aload_n 0, 1) := by decide +kernel
theorem dX6_parse_15 : decode cX6_parse 15 = .ok (.invokevirtual 118, 3) := by decide +kernel
theorem dX6_parse_18 : decode cX6_parse 18 = .ok (.aload_n 0, 1) := by decide +kernel
theorem dX6_parse_19 : decode cX6_parse 19 = .ok (.invokevirtual 146, 3) := by decide +kernel
theorem dX6_parse_22 : decode cX6_parse 22 = .ok (.aload_n 0, 1) := by decide +kernel
theorem dX6_parse_23 : decode cX6_parse 23 = .ok (.invokevirtual 102, 3) := by decide +kernel
theorem dX6_parse_26 : decode cX6_parse 26 = .ok (.ifCond .eq 36, 3) := by decide +kernel
theorem dX6_parse_29 : decode cX6_parse 29 = .ok (.aload_n 0, 1) := by decide +kernel
theorem dX6_parse_30 : decode cX6_parse 30 = .ok (.getfield 87, 3) := by decide +kernel
theorem dX6_parse_33 : decode cX6_parse 33 = .ok (.iconst 3, 1) := by decide +kernel
theorem dX6_parse_34 : decode cX6_parse 34 = .ok (.if_icmp .ne 28, 3) := by decide +kernel
theorem dX6_parse_37 : decode cX6_parse 37 = .ok (.aload_n 0, 1) := by decide +kernel
theorem dX6_parse_38 : decode cX6_parse 38 = .ok (.getfield 9, 3) := by decide +kernel
theorem dX6_parse_41 : decode cX6_parse 41 = .ok (.aload_n 0, 1) := by decide +kernel
theorem dX6_parse_42 : decode cX6_parse 42 = .ok (.getfield 77, 3) := by decide +kernel
theorem dX6_parse_45 : decode cX6_parse 45 = .ok (.iaload, 1) := by decide +kernel
theorem dX6_parse_46 : decode cX6_parse 46 = .ok (.bipush 59, 2) := by decide +kernel
theorem dX6_parse_48 : decode cX6_parse 48 = .ok (.if_icmp .ne 14, 3) := by decide +kernel
theorem dX6_parse_51 : decode cX6_parse 51 = .ok (.aload_n 0, 1) := by decide +kernel
theorem dX6_parse_52 : decode cX6_parse 52 = .ok (.invokevirtual 118, 3) := by decide +kernel
theorem dX6_parse_55 : decode cX6_parse 55 = .ok (.aload_n 0, 1) := by decide +kernel
theorem dX6_parse_56 : decode cX6_parse 56 = .ok (.invokevirtual 146, 3) := by decide +kernel
theorem dX6_parse_59 : decode cX6_parse 59 = .ok (.goto (-37), 3) := by decide +kernel
theorem dX6_parse_62 : decode cX6_parse 62 = .ok (.aload_n 0, 1) := by decide +kernel
theorem dX6_parse_63 : decode cX6_parse 63 = .ok (.invokevirtual 102, 3) := by decide +kernel
theorem dX6_parse_66 : decode cX6_parse 66 = .ok (.ifCond .eq 14, 3) := by decide +kernel
theorem dX6_parse_69 : decode cX6_parse 69 = .ok (.aload_n 0, 1) := by decide +kernel
theorem dX6_parse_70 : decode cX6_parse 70 = .ok (.getfield 87, 3) := by decide +kernel
theorem dX6_parse_73 : decode cX6_parse 73 = .ok (.ifCond .eq 7, 3) := by decide +kernel
theorem dX6_parse_76 : decode cX6_parse 76 = .ok (.aload_n 0, 1) := by decide +kernel
theorem dX6_parse_77 : decode cX6_parse 77 = .ok (.invokevirtual 115, 3) := by decide +kernel
theorem dX6_parse_80 : decode cX6_parse 80 = .ok (.aload_n 0, 1) := by decide +kernel
theorem dX6_parse_81 : decode cX6_parse 81 = .ok (.getfield 99, 3) := by decide +kernel
theorem dX6_parse_84 : decode cX6_parse 84 = .ok (.ireturn, 1) := by decide +kernel
theorem dX6_errorPosition_0 : decode cX6_errorPosition 0 = .ok (.aload_n 0, 1) := by decide +kernel
theorem dX6_errorPosition_1 : decode cX6_errorPosition 1 = .ok (.iconst 0, 1) := by decide +kernel
theorem dX6_errorPosition_2 : decode cX6_errorPosition 2 = .ok (.putfield 51, 3) := by decide +kernel
theorem dX6_errorPosition_5 : decode cX6_errorPosition 5 = .ok (.aload_n 0, 1) := by decide +kernel
theorem dX6_errorPosition_6 : decode cX6_errorPosition 6 = .ok (.invokevirtual 149, 3) := by decide +kernel
theorem dX6_errorPosition_9 : decode cX6_errorPosition 9 = .ok (.ireturn, 1) := by decide +kernel
theorem dX6_takeRead_0 : decode cX6_takeRead 0 = .ok (.iconst 0, 1) := by decide +kernel
theorem dX6_takeRead_1 : decode cX6_takeRead 1 = .ok (.istore_n 1, 1) := by decide +kernel
theorem dX6_takeRead_2 : decode cX6_takeRead 2 = .ok (.iload_n 1, 1) := by decide +kernel
theorem dX6_takeRead_3 : decode cX6_takeRead 3 = .ok (.sipush 765, 3) := by decide +kernel
theorem dX6_takeRead_6 : decode cX6_takeRead 6 = .ok (.if_icmp .ge 21, 3) := by decide +kernel
theorem dX6_takeRead_9 : decode cX6_takeRead 9 = .ok (.aload_n 0, 1) := by decide +kernel
theorem dX6_takeRead_10 : decode cX6_takeRead 10 = .ok (.getfield 16, 3) := by decide +kernel
theorem dX6_takeRead_13 : decode cX6_takeRead 13 = .ok (.iload_n 1, 1) := by decide +kernel
theorem dX6_takeRead_14 : decode cX6_takeRead 14 = .ok (.aload_n 0, 1) := by decide +kernel
theorem dX6_takeRead_15 : decode cX6_takeRead 15 = .ok (.getfield 13, 3) := by decide +kernel
theorem dX6_takeRead_18 : decode cX6_takeRead 18 = .ok (.iload_n 1, 1) := by decide +kernel
theorem dX6_takeRead_19 : decode cX6_takeRead 19 = .ok (.iaload, 1) := by decide +kernel
theorem dX6_takeRead_20 : decode cX6_takeRead 20 = .ok (.iastore, 1) := by decide +kernel
theorem dX6_takeRead_21 : decode cX6_takeRead 21 = .ok (.iinc 1 1, 3) := by decide +kernel
theorem dX6_takeRead_24 : decode cX6_takeRead 24 = .ok (.goto (-22), 3) := by decide +kernel
theorem dX6_takeRead_27 : decode cX6_takeRead 27 = .ok (.aload_n 0, 1) := by decide +kernel
theorem dX6_takeRead_28 : decode cX6_takeRead 28 = .ok (.iconst 0, 1) := by decide +kernel
theorem dX6_takeRead_29 : decode cX6_takeRead 29 = .ok (.putfield 152, 3) := by decide +kernel
theorem dX6_takeRead_32 : decode cX6_takeRead 32 = .ok (.aload_n 0, 1) := by decide +kernel
theorem dX6_takeRead_33 : decode cX6_takeRead 33 = .ok (.iconst 0, 1) := by decide +kernel
theorem dX6_takeRead_34 : decode cX6_takeRead 34 = .ok (.putfield 155, 3) := by decide +kernel
theorem dX6_takeRead_37 : decode cX6_takeRead 37 = .ok (.return_, 1) := by decide +kernel
theorem dX6_load_0 : decode cX6_load 0 = .ok (.aload_n 0, 1) := by decide +kernel
theorem dX6_load_1 : decode cX6_load 1 = .ok (.iconst 0, 1) := by decide +kernel
theorem dX6_load_2 : decode cX6_load 2 = .ok (.putfield 51, 3) := by decide +kernel
theorem dX6_load_5 : decode cX6_load 5 = .ok (.aload_n 0, 1) := by decide +kernel
theorem dX6_load_6 : decode cX6_load 6 = .ok (.aload_n 0, 1) := by decide +kernel
theorem dX6_load_7 : decode cX6_load 7 = .ok (.invokevirtual 149, 3) := by decide +kernel
theorem dX6_load_10 : decode cX6_load 10 = .ok (.ifCond .ge 7, 3) := by decide +kernel
theorem dX6_load_13 : decode cX6_load 13 = .ok (.iconst 1, 1) := by decide +kernel
theorem dX6_load_14 : decode cX6_load 14 = .ok (.goto 4, 3) := by decide +kernel
theorem dX6_load_17 : decode cX6_load 17 = .ok (.iconst 0, 1) := by decide +kernel
theorem dX6_load_18 : decode cX6_load 18 = .ok (.iconst 1, 1) := by decide +kernel
theorem dX6_load_19 : decode cX6_load 19 = .ok (.invokevirtual 62, 3) := by decide +kernel
theorem dX6_load_22 : decode cX6_load 22 = .ok (.ifCond .eq 5, 3) := by decide +kernel
theorem dX6_load_25 : decode cX6_load 25 = .ok (.iconst 0, 1) := by decide +kernel
theorem dX6_load_26 : decode cX6_load 26 = .ok (.ireturn, 1) := by decide +kernel
theorem dX6_load_27 : decode cX6_load 27 = .ok (.aload_n 0, 1) := by decide +kernel
theorem dX6_load_28 : decode cX6_load 28 = .ok (.invokevirtual 48, 3) := by decide +kernel
theorem dX6_load_31 : decode cX6_load 31 = .ok (.aload_n 0, 1) := by decide +kernel
theorem dX6_load_32 : decode cX6_load 32 = .ok (.iconst 0, 1) := by decide +kernel
theorem dX6_load_33 : decode cX6_load 33 = .ok (.putfield 59, 3) := by decide +kernel
theorem dX6_load_36 : decode cX6_load 36 = .ok (.aload_n 0, 1) := by decide +kernel
theorem dX6_load_37 : decode cX6_load 37 = .ok (.getfield 16, 3) := by decide +kernel
theorem dX6_load_40 : decode cX6_load 40 = .ok (.iconst 4, 1) := by decide +kernel
theorem dX6_load_41 : decode cX6_load 41 = .ok (.iaload, 1) := by decide +kernel
theorem dX6_load_42 : decode cX6_load 42 = .ok (.ireturn, 1) := by decide +kernel
theorem dX6_record_0 : decode cX6_record 0 = .ok (.aload_n 0, 1) := by decide +kernel
theorem dX6_record_1 : decode cX6_record 1 = .ok (.getfield 152, 3) := by decide +kernel
theorem dX6_record_4 : decode cX6_record 4 = .ok (.bipush 8, 2) := by decide +kernel
theorem dX6_record_6 : decode cX6_record 6 = .ok (.if_icmp .ne 46, 3) := by decide +kernel
theorem dX6_record_9 : decode cX6_record 9 = .ok (.sipush 765, 3) := by decide +kernel
theorem dX6_record_12 : decode cX6_record 12 = .ok (.istore_n 1, 1) := by decide +kernel
theorem dX6_record_13 : decode cX6_record 13 = .ok (.iload_n 1, 1) := by decide +kernel
theorem dX6_record_14 : decode cX6_record 14 = .ok (.sipush 6120, 3) := by decide +kernel
theorem dX6_record_17 : decode cX6_record 17 = .ok (.if_icmp .ge 25, 3) := by decide +kernel
theorem dX6_record_20 : decode cX6_record 20 = .ok (.aload_n 0, 1) := by decide +kernel
theorem dX6_record_21 : decode cX6_record 21 = .ok (.getfield 22, 3) := by decide +kernel
theorem dX6_record_24 : decode cX6_record 24 = .ok (.iload_n 1, 1) := by decide +kernel
theorem dX6_record_25 : decode cX6_record 25 = .ok (.sipush 765, 3) := by decide +kernel
theorem dX6_record_28 : decode cX6_record 28 = .ok (.isub, 1) := by decide +kernel
theorem dX6_record_29 : decode cX6_record 29 = .ok (.aload_n 0, 1) := by decide +kernel
theorem dX6_record_30 : decode cX6_record 30 = .ok (.getfield 22, 3) := by decide +kernel
theorem dX6_record_33 : decode cX6_record 33 = .ok (.iload_n 1, 1) := by decide +kernel
theorem dX6_record_34 : decode cX6_record 34 = .ok (.iaload, 1) := by decide +kernel
theorem dX6_record_35 : decode cX6_record 35 = .ok (.iastore, 1) := by decide +kernel
theorem dX6_record_36 : decode cX6_record 36 = .ok (.iinc 1 1, 3) := by decide +kernel
theorem dX6_record_39 : decode cX6_record 39 = .ok (.goto (-26), 3) := by decide +kernel
theorem dX6_record_42 : decode cX6_record 42 = .ok (.aload_n 0, 1) := by decide +kernel
theorem dX6_record_43 : decode cX6_record 43 = .ok (.dup, 1) := by decide +kernel
theorem dX6_record_44 : decode cX6_record 44 = .ok (.getfield 152, 3) := by decide +kernel
theorem dX6_record_47 : decode cX6_record 47 = .ok (.iconst 1, 1) := by decide +kernel
theorem dX6_record_48 : decode cX6_record 48 = .ok (.isub, 1) := by decide +kernel
theorem dX6_record_49 : decode cX6_record 49 = .ok (.putfield 152, 3) := by decide +kernel
theorem dX6_record_52 : decode cX6_record 52 = .ok (.iconst 0, 1) := by decide +kernel
theorem dX6_record_53 : decode cX6_record 53 = .ok (.istore_n 1, 1) := by decide +kernel
theorem dX6_record_54 : decode cX6_record 54 = .ok (.iload_n 1, 1) := by decide +kernel
theorem dX6_record_55 : decode cX6_record 55 = .ok (.sipush 765, 3) := by decide +kernel
theorem dX6_record_58 : decode cX6_record 58 = .ok (.if_icmp .ge 30, 3) := by decide +kernel
theorem dX6_record_61 : decode cX6_record 61 = .ok (.aload_n 0, 1) := by decide +kernel
theorem dX6_record_62 : decode cX6_record 62 = .ok (.getfield 22, 3) := by decide +kernel
theorem dX6_record_65 : decode cX6_record 65 = .ok (.sipush 765, 3) := by decide +kernel
theorem dX6_record_68 : decode cX6_record 68 = .ok (.aload_n 0, 1) := by decide +kernel
theorem dX6_record_69 : decode cX6_record 69 = .ok (.getfield 152, 3) := by decide +kernel
theorem dX6_record_72 : decode cX6_record 72 = .ok (.imul, 1) := by decide +kernel
theorem dX6_record_73 : decode cX6_record 73 = .ok (.iload_n 1, 1) := by decide +kernel
theorem dX6_record_74 : decode cX6_record 74 = .ok (.iadd, 1) := by decide +kernel
theorem dX6_record_75 : decode cX6_record 75 = .ok (.aload_n 0, 1) := by decide +kernel
theorem dX6_record_76 : decode cX6_record 76 = .ok (.getfield 16, 3) := by decide +kernel
theorem dX6_record_79 : decode cX6_record 79 = .ok (.iload_n 1, 1) := by decide +kernel
theorem dX6_record_80 : decode cX6_record 80 = .ok (.iaload, 1) := by decide +kernel
theorem dX6_record_81 : decode cX6_record 81 = .ok (.iastore, 1) := by decide +kernel
theorem dX6_record_82 : decode cX6_record 82 = .ok (.iinc 1 1, 3) := by decide +kernel
theorem dX6_record_85 : decode cX6_record 85 = .ok (.goto (-31), 3) := by decide +kernel
theorem dX6_record_88 : decode cX6_record 88 = .ok (.aload_n 0, 1) := by decide +kernel
theorem dX6_record_89 : decode cX6_record 89 = .ok (.dup, 1) := by decide +kernel
theorem dX6_record_90 : decode cX6_record 90 = .ok (.getfield 152, 3) := by decide +kernel
theorem dX6_record_93 : decode cX6_record 93 = .ok (.iconst 1, 1) := by decide +kernel
theorem dX6_record_94 : decode cX6_record 94 = .ok (.iadd, 1) := by decide +kernel
theorem dX6_record_95 : decode cX6_record 95 = .ok (.putfield 152, 3) := by decide +kernel
theorem dX6_record_98 : decode cX6_record 98 = .ok (.return_, 1) := by decide +kernel
theorem dX6_undo_0 : decode cX6_undo 0 = .ok (.aload_n 0, 1) := by decide +kernel
theorem dX6_undo_1 : decode cX6_undo 1 = .ok (.iconst 0, 1) := by decide +kernel
theorem dX6_undo_2 : decode cX6_undo 2 = .ok (.putfield 51, 3) := by decide +kernel
theorem dX6_undo_5 : decode cX6_undo 5 = .ok (.aload_n 0, 1) := by decide +kernel
theorem dX6_undo_6 : decode cX6_undo 6 = .ok (.aload_n 0, 1) := by decide +kernel
theorem dX6_undo_7 : decode cX6_undo 7 = .ok (.getfield 152, 3) := by decide +kernel
theorem dX6_undo_10 : decode cX6_undo 10 = .ok (.ifCond .le 7, 3) := by decide +kernel
theorem dX6_undo_13 : decode cX6_undo 13 = .ok (.iconst 1, 1) := by decide +kernel
theorem dX6_undo_14 : decode cX6_undo 14 = .ok (.goto 4, 3) := by decide +kernel
theorem dX6_undo_17 : decode cX6_undo 17 = .ok (.iconst 0, 1) := by decide +kernel
theorem dX6_undo_18 : decode cX6_undo 18 = .ok (.iconst 1, 1) := by decide +kernel
theorem dX6_undo_19 : decode cX6_undo 19 = .ok (.invokevirtual 62, 3) := by decide +kernel
theorem dX6_undo_22 : decode cX6_undo 22 = .ok (.ifCond .eq 5, 3) := by decide +kernel
theorem dX6_undo_25 : decode cX6_undo 25 = .ok (.iconst 0, 1) := by decide +kernel
theorem dX6_undo_26 : decode cX6_undo 26 = .ok (.ireturn, 1) := by decide +kernel
theorem dX6_undo_27 : decode cX6_undo 27 = .ok (.aload_n 0, 1) := by decide +kernel
theorem dX6_undo_28 : decode cX6_undo 28 = .ok (.dup, 1) := by decide +kernel
theorem dX6_undo_29 : decode cX6_undo 29 = .ok (.getfield 152, 3) := by decide +kernel
theorem dX6_undo_32 : decode cX6_undo 32 = .ok (.iconst 1, 1) := by decide +kernel
theorem dX6_undo_33 : decode cX6_undo 33 = .ok (.isub, 1) := by decide +kernel
theorem dX6_undo_34 : decode cX6_undo 34 = .ok (.putfield 152, 3) := by decide +kernel
theorem dX6_undo_37 : decode cX6_undo 37 = .ok (.iconst 0, 1) := by decide +kernel
theorem dX6_undo_38 : decode cX6_undo 38 = .ok (.istore_n 1, 1) := by decide +kernel
theorem dX6_undo_39 : decode cX6_undo 39 = .ok (.iload_n 1, 1) := by decide +kernel
theorem dX6_undo_40 : decode cX6_undo 40 = .ok (.sipush 765, 3) := by decide +kernel
theorem dX6_undo_43 : decode cX6_undo 43 = .ok (.if_icmp .ge 30, 3) := by decide +kernel
theorem dX6_undo_46 : decode cX6_undo 46 = .ok (.aload_n 0, 1) := by decide +kernel
theorem dX6_undo_47 : decode cX6_undo 47 = .ok (.getfield 16, 3) := by decide +kernel
theorem dX6_undo_50 : decode cX6_undo 50 = .ok (.iload_n 1, 1) := by decide +kernel
theorem dX6_undo_51 : decode cX6_undo 51 = .ok (.aload_n 0, 1) := by decide +kernel
theorem dX6_undo_52 : decode cX6_undo 52 = .ok (.getfield 22, 3) := by decide +kernel
theorem dX6_undo_55 : decode cX6_undo 55 = .ok (.sipush 765, 3) := by decide +kernel
theorem dX6_undo_58 : decode cX6_undo 58 = .ok (.aload_n 0, 1) := by decide +kernel
theorem dX6_undo_59 : decode cX6_undo 59 = .ok (.getfield 152, 3) := by decide +kernel
theorem dX6_undo_62 : decode cX6_undo 62 = .ok (.imul, 1) := by decide +kernel
theorem dX6_undo_63 : decode cX6_undo 63 = .ok (.iload_n 1, 1) := by decide +kernel
theorem dX6_undo_64 : decode cX6_undo 64 = .ok (.iadd, 1) := by decide +kernel
theorem dX6_undo_65 : decode cX6_undo 65 = .ok (.iaload, 1) := by decide +kernel
theorem dX6_undo_66 : decode cX6_undo 66 = .ok (.iastore, 1) := by decide +kernel
theorem dX6_undo_67 : decode cX6_undo 67 = .ok (.iinc 1 1, 3) := by decide +kernel
theorem dX6_undo_70 : decode cX6_undo 70 = .ok (.goto (-31), 3) := by decide +kernel
theorem dX6_undo_73 : decode cX6_undo 73 = .ok (.aload_n 0, 1) := by decide +kernel
theorem dX6_undo_74 : decode cX6_undo 74 = .ok (.getfield 152, 3) := by decide +kernel
theorem dX6_undo_77 : decode cX6_undo 77 = .ok (.ireturn, 1) := by decide +kernel
theorem dX6_undoCount_0 : decode cX6_undoCount 0 = .ok (.aload_n 0, 1) := by decide +kernel
theorem dX6_undoCount_1 : decode cX6_undoCount 1 = .ok (.iconst 0, 1) := by decide +kernel
theorem dX6_undoCount_2 : decode cX6_undoCount 2 = .ok (.putfield 51, 3) := by decide +kernel
theorem dX6_undoCount_5 : decode cX6_undoCount 5 = .ok (.aload_n 0, 1) := by decide +kernel
theorem dX6_undoCount_6 : decode cX6_undoCount 6 = .ok (.getfield 152, 3) := by decide +kernel
theorem dX6_undoCount_9 : decode cX6_undoCount 9 = .ok (.ireturn, 1) := by decide +kernel
theorem dX6_save_0 : decode cX6_save 0 = .ok (.aload_n 0, 1) := by decide +kernel
theorem dX6_save_1 : decode cX6_save 1 = .ok (.iconst 0, 1) := by decide +kernel
theorem dX6_save_2 : decode cX6_save 2 = .ok (.putfield 51, 3) := by decide +kernel
theorem dX6_save_5 : decode cX6_save 5 = .ok (.iconst 0, 1) := by decide +kernel
theorem dX6_save_6 : decode cX6_save 6 = .ok (.istore_n 1, 1) := by decide +kernel
theorem dX6_save_7 : decode cX6_save 7 = .ok (.iload_n 1, 1) := by decide +kernel
theorem dX6_save_8 : decode cX6_save 8 = .ok (.sipush 765, 3) := by decide +kernel
theorem dX6_save_11 : decode cX6_save 11 = .ok (.if_icmp .ge 21, 3) := by decide +kernel
theorem dX6_save_14 : decode cX6_save 14 = .ok (.aload_n 0, 1) := by decide +kernel
theorem dX6_save_15 : decode cX6_save 15 = .ok (.getfield 19, 3) := by decide +kernel
theorem dX6_save_18 : decode cX6_save 18 = .ok (.iload_n 1, 1) := by decide +kernel
theorem dX6_save_19 : decode cX6_save 19 = .ok (.aload_n 0, 1) := by decide +kernel
theorem dX6_save_20 : decode cX6_save 20 = .ok (.getfield 16, 3) := by decide +kernel
theorem dX6_save_23 : decode cX6_save 23 = .ok (.iload_n 1, 1) := by decide +kernel
theorem dX6_save_24 : decode cX6_save 24 = .ok (.iaload, 1) := by decide +kernel
theorem dX6_save_25 : decode cX6_save 25 = .ok (.iastore, 1) := by decide +kernel
theorem dX6_save_26 : decode cX6_save 26 = .ok (.iinc 1 1, 3) := by decide +kernel
theorem dX6_save_29 : decode cX6_save 29 = .ok (.goto (-22), 3) := by decide +kernel
theorem dX6_save_32 : decode cX6_save 32 = .ok (.aload_n 0, 1) := by decide +kernel
theorem dX6_save_33 : decode cX6_save 33 = .ok (.iconst 1, 1) := by decide +kernel
theorem dX6_save_34 : decode cX6_save 34 = .ok (.putfield 155, 3) := by decide +kernel
theorem dX6_save_37 : decode cX6_save 37 = .ok (.aload_n 0, 1) := by decide +kernel
theorem dX6_save_38 : decode cX6_save 38 = .ok (.getfield 16, 3) := by decide +kernel
theorem dX6_save_41 : decode cX6_save 41 = .ok (.iconst 3, 1) := by decide +kernel
theorem dX6_save_42 : decode cX6_save 42 = .ok (.iaload, 1) := by decide +kernel
theorem dX6_save_43 : decode cX6_save 43 = .ok (.ireturn, 1) := by decide +kernel
theorem dX6_restore_0 : decode cX6_restore 0 = .ok (.aload_n 0, 1) := by decide +kernel
theorem dX6_restore_1 : decode cX6_restore 1 = .ok (.iconst 0, 1) := by decide +kernel
theorem dX6_restore_2 : decode cX6_restore 2 = .ok (.putfield 51, 3) := by decide +kernel
theorem dX6_restore_5 : decode cX6_restore 5 = .ok (.aload_n 0, 1) := by decide +kernel
theorem dX6_restore_6 : decode cX6_restore 6 = .ok (.aload_n 0, 1) := by decide +kernel
theorem dX6_restore_7 : decode cX6_restore 7 = .ok (.getfield 155, 3) := by decide +kernel
theorem dX6_restore_10 : decode cX6_restore 10 = .ok (.iconst 1, 1) := by decide +kernel
theorem dX6_restore_11 : decode cX6_restore 11 = .ok (.invokevirtual 62, 3) := by decide +kernel
theorem dX6_restore_14 : decode cX6_restore 14 = .ok (.ifCond .eq 5, 3) := by decide +kernel
theorem dX6_restore_17 : decode cX6_restore 17 = .ok (.iconst 0, 1) := by decide +kernel
theorem dX6_restore_18 : decode cX6_restore 18 = .ok (.ireturn, 1) := by decide +kernel
theorem dX6_restore_19 : decode cX6_restore 19 = .ok (.iconst 0, 1) := by decide +kernel
theorem dX6_restore_20 : decode cX6_restore 20 = .ok (.istore_n 1, 1) := by decide +kernel
theorem dX6_restore_21 : decode cX6_restore 21 = .ok (.iload_n 1, 1) := by decide +kernel
theorem dX6_restore_22 : decode cX6_restore 22 = .ok (.sipush 765, 3) := by decide +kernel
theorem dX6_restore_25 : decode cX6_restore 25 = .ok (.if_icmp .ge 21, 3) := by decide +kernel
theorem dX6_restore_28 : decode cX6_restore 28 = .ok (.aload_n 0, 1) := by decide +kernel
theorem dX6_restore_29 : decode cX6_restore 29 = .ok (.getfield 16, 3) := by decide +kernel
theorem dX6_restore_32 : decode cX6_restore 32 = .ok (.iload_n 1, 1) := by decide +kernel
theorem dX6_restore_33 : decode cX6_restore 33 = .ok (.aload_n 0, 1) := by decide +kernel
theorem dX6_restore_34 : decode cX6_restore 34 = .ok (.getfield 19, 3) := by decide +kernel
theorem dX6_restore_37 : decode cX6_restore 37 = .ok (.iload_n 1, 1) := by decide +kernel
theorem dX6_restore_38 : decode cX6_restore 38 = .ok (.iaload, 1) := by decide +kernel
theorem dX6_restore_39 : decode cX6_restore 39 = .ok (.iastore, 1) := by decide +kernel
theorem dX6_restore_40 : decode cX6_restore 40 = .ok (.iinc 1 1, 3) := by decide +kernel
theorem dX6_restore_43 : decode cX6_restore 43 = .ok (.goto (-22), 3) := by decide +kernel
theorem dX6_restore_46 : decode cX6_restore 46 = .ok (.aload_n 0, 1) := by decide +kernel
theorem dX6_restore_47 : decode cX6_restore 47 = .ok (.iconst 0, 1) := by decide +kernel
theorem dX6_restore_48 : decode cX6_restore 48 = .ok (.putfield 152, 3) := by decide +kernel
theorem dX6_restore_51 : decode cX6_restore 51 = .ok (.aload_n 0, 1) := by decide +kernel
theorem dX6_restore_52 : decode cX6_restore 52 = .ok (.getfield 16, 3) := by decide +kernel
theorem dX6_restore_55 : decode cX6_restore 55 = .ok (.iconst 3, 1) := by decide +kernel
theorem dX6_restore_56 : decode cX6_restore 56 = .ok (.iaload, 1) := by decide +kernel
theorem dX6_restore_57 : decode cX6_restore 57 = .ok (.ireturn, 1) := by decide +kernel
theorem dX6_isWall_0 : decode cX6_isWall 0 = .ok (.iload_n 1, 1) := by decide +kernel
theorem dX6_isWall_1 : decode cX6_isWall 1 = .ok (.i2l, 1) := by decide +kernel
theorem dX6_isWall_2 : decode cX6_isWall 2 = .ok (.lconst 0, 1) := by decide +kernel
theorem dX6_isWall_3 : decode cX6_isWall 3 = .ok (.aload_n 0, 1) := by decide +kernel
theorem dX6_isWall_4 : decode cX6_isWall 4 = .ok (.getfield 16, 3) := by decide +kernel
theorem dX6_isWall_7 : decode cX6_isWall 7 = .ok (.iconst 4, 1) := by decide +kernel
theorem dX6_isWall_8 : decode cX6_isWall 8 = .ok (.iaload, 1) := by decide +kernel
theorem dX6_isWall_9 : decode cX6_isWall 9 = .ok (.iconst 1, 1) := by decide +kernel
theorem dX6_isWall_10 : decode cX6_isWall 10 = .ok (.isub, 1) := by decide +kernel
theorem dX6_isWall_11 : decode cX6_isWall 11 = .ok (.i2l, 1) := by decide +kernel
theorem dX6_isWall_12 : decode cX6_isWall 12 = .ok (.invokestatic 66, 3) := by decide +kernel
theorem dX6_isWall_15 : decode cX6_isWall 15 = .ok (.ireturn, 1) := by decide +kernel
theorem dX6_isRoute_0 : decode cX6_isRoute 0 = .ok (.iload_n 1, 1) := by decide +kernel
theorem dX6_isRoute_1 : decode cX6_isRoute 1 = .ok (.i2l, 1) := by decide +kernel
theorem dX6_isRoute_2 : decode cX6_isRoute 2 = .ok (.lconst 0, 1) := by decide +kernel
theorem dX6_isRoute_3 : decode cX6_isRoute 3 = .ok (.aload_n 0, 1) := by decide +kernel
theorem dX6_isRoute_4 : decode cX6_isRoute 4 = .ok (.getfield 16, 3) := by decide +kernel
theorem dX6_isRoute_7 : decode cX6_isRoute 7 = .ok (.bipush 37, 2) := by decide +kernel
theorem dX6_isRoute_9 : decode cX6_isRoute 9 = .ok (.iaload, 1) := by decide +kernel
theorem dX6_isRoute_10 : decode cX6_isRoute 10 = .ok (.iconst 1, 1) := by decide +kernel
theorem dX6_isRoute_11 : decode cX6_isRoute 11 = .ok (.isub, 1) := by decide +kernel
theorem dX6_isRoute_12 : decode cX6_isRoute 12 = .ok (.i2l, 1) := by decide +kernel
theorem dX6_isRoute_13 : decode cX6_isRoute 13 = .ok (.invokestatic 66, 3) := by decide +kernel
theorem dX6_isRoute_16 : decode cX6_isRoute 16 = .ok (.ireturn, 1) := by decide +kernel
theorem dX6_isHarness_0 : decode cX6_isHarness 0 = .ok (.iload_n 1, 1) := by decide +kernel
theorem dX6_isHarness_1 : decode cX6_isHarness 1 = .ok (.i2l, 1) := by decide +kernel
theorem dX6_isHarness_2 : decode cX6_isHarness 2 = .ok (.lconst 0, 1) := by decide +kernel
theorem dX6_isHarness_3 : decode cX6_isHarness 3 = .ok (.aload_n 0, 1) := by decide +kernel
theorem dX6_isHarness_4 : decode cX6_isHarness 4 = .ok (.getfield 16, 3) := by decide +kernel
theorem dX6_isHarness_7 : decode cX6_isHarness 7 = .ok (.sipush 470, 3) := by decide +kernel
theorem dX6_isHarness_10 : decode cX6_isHarness 10 = .ok (.iaload, 1) := by decide +kernel
theorem dX6_isHarness_11 : decode cX6_isHarness 11 = .ok (.iconst 1, 1) := by decide +kernel
theorem dX6_isHarness_12 : decode cX6_isHarness 12 = .ok (.isub, 1) := by decide +kernel
theorem dX6_isHarness_13 : decode cX6_isHarness 13 = .ok (.i2l, 1) := by decide +kernel
theorem dX6_isHarness_14 : decode cX6_isHarness 14 = .ok (.invokestatic 66, 3) := by decide +kernel
theorem dX6_isHarness_17 : decode cX6_isHarness 17 = .ok (.ireturn, 1) := by decide +kernel
theorem dX6_isMember_0 : decode cX6_isMember 0 = .ok (.iload_n 1, 1) := by decide +kernel
theorem dX6_isMember_1 : decode cX6_isMember 1 = .ok (.i2l, 1) := by decide +kernel
theorem dX6_isMember_2 : decode cX6_isMember 2 = .ok (.lconst 0, 1) := by decide +kernel
theorem dX6_isMember_3 : decode cX6_isMember 3 = .ok (.aload_n 0, 1) := by decide +kernel
theorem dX6_isMember_4 : decode cX6_isMember 4 = .ok (.getfield 16, 3) := by decide +kernel
theorem dX6_isMember_7 : decode cX6_isMember 7 = .ok (.sipush 546, 3) := by decide +kernel
theorem dX6_isMember_10 : decode cX6_isMember 10 = .ok (.iaload, 1) := by decide +kernel
theorem dX6_isMember_11 : decode cX6_isMember 11 = .ok (.iconst 1, 1) := by decide +kernel
theorem dX6_isMember_12 : decode cX6_isMember 12 = .ok (.isub, 1) := by decide +kernel
theorem dX6_isMember_13 : decode cX6_isMember 13 = .ok (.i2l, 1) := by decide +kernel
theorem dX6_isMember_14 : decode cX6_isMember 14 = .ok (.invokestatic 66, 3) := by decide +kernel
theorem dX6_isMember_17 : decode cX6_isMember 17 = .ok (.ireturn, 1) := by decide +kernel
theorem dX6_isCourse_0 : decode cX6_isCourse 0 = .ok (.iload_n 1, 1) := by decide +kernel
theorem dX6_isCourse_1 : decode cX6_isCourse 1 = .ok (.i2l, 1) := by decide +kernel
theorem dX6_isCourse_2 : decode cX6_isCourse 2 = .ok (.lconst 0, 1) := by decide +kernel
theorem dX6_isCourse_3 : decode cX6_isCourse 3 = .ok (.aload_n 0, 1) := by decide +kernel
theorem dX6_isCourse_4 : decode cX6_isCourse 4 = .ok (.getfield 16, 3) := by decide +kernel
theorem dX6_isCourse_7 : decode cX6_isCourse 7 = .ok (.sipush 619, 3) := by decide +kernel
theorem dX6_isCourse_10 : decode cX6_isCourse 10 = .ok (.iaload, 1) := by decide +kernel
theorem dX6_isCourse_11 : decode cX6_isCourse 11 = .ok (.iconst 1, 1) := by decide +kernel
theorem dX6_isCourse_12 : decode cX6_isCourse 12 = .ok (.isub, 1) := by decide +kernel
theorem dX6_isCourse_13 : decode cX6_isCourse 13 = .ok (.i2l, 1) := by decide +kernel
theorem dX6_isCourse_14 : decode cX6_isCourse 14 = .ok (.invokestatic 66, 3) := by decide +kernel
theorem dX6_isCourse_17 : decode cX6_isCourse 17 = .ok (.ireturn, 1) := by decide +kernel
theorem dX6_isGrade_0 : decode cX6_isGrade 0 = .ok (.iload_n 0, 1) := by decide +kernel
theorem dX6_isGrade_1 : decode cX6_isGrade 1 = .ok (.i2l, 1) := by decide +kernel
theorem dX6_isGrade_2 : decode cX6_isGrade 2 = .ok (.lconst 0, 1) := by decide +kernel
theorem dX6_isGrade_3 : decode cX6_isGrade 3 = .ok (.ldc2_w 158, 3) := by decide +kernel
theorem dX6_isGrade_6 : decode cX6_isGrade 6 = .ok (.invokestatic 66, 3) := by decide +kernel
theorem dX6_isGrade_9 : decode cX6_isGrade 9 = .ok (.ireturn, 1) := by decide +kernel
theorem dX6_wallPart_0 : decode cX6_wallPart 0 = .ok (.aload_n 0, 1) := by decide +kernel
theorem dX6_wallPart_1 : decode cX6_wallPart 1 = .ok (.getfield 16, 3) := by decide +kernel
theorem dX6_wallPart_4 : decode cX6_wallPart 4 = .ok (.iconst 5, 1) := by decide +kernel
theorem dX6_wallPart_5 : decode cX6_wallPart 5 = .ok (.iconst 4, 1) := by decide +kernel
theorem dX6_wallPart_6 : decode cX6_wallPart 6 = .ok (.iload_n 1, 1) := by decide +kernel
theorem dX6_wallPart_7 : decode cX6_wallPart 7 = .ok (.imul, 1) := by decide +kernel
theorem dX6_wallPart_8 : decode cX6_wallPart 8 = .ok (.iadd, 1) := by decide +kernel
theorem dX6_wallPart_9 : decode cX6_wallPart 9 = .ok (.iload_n 2, 1) := by decide +kernel
theorem dX6_wallPart_10 : decode cX6_wallPart 10 = .ok (.iadd, 1) := by decide +kernel
theorem dX6_wallPart_11 : decode cX6_wallPart 11 = .ok (.iaload, 1) := by decide +kernel
theorem dX6_wallPart_12 : decode cX6_wallPart 12 = .ok (.ireturn, 1) := by decide +kernel
theorem dX6_routePart_0 : decode cX6_routePart 0 = .ok (.aload_n 0, 1) := by decide +kernel
theorem dX6_routePart_1 : decode cX6_routePart 1 = .ok (.getfield 16, 3) := by decide +kernel
theorem dX6_routePart_4 : decode cX6_routePart 4 = .ok (.bipush 38, 2) := by decide +kernel
theorem dX6_routePart_6 : decode cX6_routePart 6 = .ok (.bipush 18, 2) := by decide +kernel
theorem dX6_routePart_8 : decode cX6_routePart 8 = .ok (.iload_n 1, 1) := by decide +kernel
theorem dX6_routePart_9 : decode cX6_routePart 9 = .ok (.imul, 1) := by decide +kernel
theorem dX6_routePart_10 : decode cX6_routePart 10 = .ok (.iadd, 1) := by decide +kernel
theorem dX6_routePart_11 : decode cX6_routePart 11 = .ok (.iload_n 2, 1) := by decide +kernel
theorem dX6_routePart_12 : decode cX6_routePart 12 = .ok (.iadd, 1) := by decide +kernel
theorem dX6_routePart_13 : decode cX6_routePart 13 = .ok (.iaload, 1) := by decide +kernel
theorem dX6_routePart_14 : decode cX6_routePart 14 = .ok (.ireturn, 1) := by decide +kernel
theorem dX6_harnessPart_0 : decode cX6_harnessPart 0 = .ok (.aload_n 0, 1) := by decide +kernel
theorem dX6_harnessPart_1 : decode cX6_harnessPart 1 = .ok (.getfield 16, 3) := by decide +kernel
theorem dX6_harnessPart_4 : decode cX6_harnessPart 4 = .ok (.sipush 471, 3) := by decide +kernel
theorem dX6_harnessPart_7 : decode cX6_harnessPart 7 = .ok (.iconst 5, 1) := by decide +kernel
theorem dX6_harnessPart_8 : decode cX6_harnessPart 8 = .ok (.iload_n 1, 1) := by decide +kernel
theorem dX6_harnessPart_9 : decode cX6_harnessPart 9 = .ok (.imul, 1) := by decide +kernel
theorem dX6_harnessPart_10 : decode cX6_harnessPart 10 = .ok (.iadd, 1) := by decide +kernel
theorem dX6_harnessPart_11 : decode cX6_harnessPart 11 = .ok (.iload_n 2, 1) := by decide +kernel
theorem dX6_harnessPart_12 : decode cX6_harnessPart 12 = .ok (.iadd, 1) := by decide +kernel
theorem dX6_harnessPart_13 : decode cX6_harnessPart 13 = .ok (.iaload, 1) := by decide +kernel
theorem dX6_harnessPart_14 : decode cX6_harnessPart 14 = .ok (.ireturn, 1) := by decide +kernel
theorem dX6_memberPart_0 : decode cX6_memberPart 0 = .ok (.aload_n 0, 1) := by decide +kernel
theorem dX6_memberPart_1 : decode cX6_memberPart 1 = .ok (.getfield 16, 3) := by decide +kernel
theorem dX6_memberPart_4 : decode cX6_memberPart 4 = .ok (.sipush 547, 3) := by decide +kernel
theorem dX6_memberPart_7 : decode cX6_memberPart 7 = .ok (.bipush 6, 2) := by decide +kernel
theorem dX6_memberPart_9 : decode cX6_memberPart 9 = .ok (.iload_n 1, 1) := by decide +kernel
theorem dX6_memberPart_10 : decode cX6_memberPart 10 = .ok (.imul, 1) := by decide +kernel
theorem dX6_memberPart_11 : decode cX6_memberPart 11 = .ok (.iadd, 1) := by decide +kernel
theorem dX6_memberPart_12 : decode cX6_memberPart 12 = .ok (.iload_n 2, 1) := by decide +kernel
theorem dX6_memberPart_13 : decode cX6_memberPart 13 = .ok (.iadd, 1) := by decide +kernel
theorem dX6_memberPart_14 : decode cX6_memberPart 14 = .ok (.iaload, 1) := by decide +kernel
theorem dX6_memberPart_15 : decode cX6_memberPart 15 = .ok (.ireturn, 1) := by decide +kernel
theorem dX6_coursePart_0 : decode cX6_coursePart 0 = .ok (.aload_n 0, 1) := by decide +kernel
theorem dX6_coursePart_1 : decode cX6_coursePart 1 = .ok (.getfield 16, 3) := by decide +kernel
theorem dX6_coursePart_4 : decode cX6_coursePart 4 = .ok (.sipush 620, 3) := by decide +kernel
theorem dX6_coursePart_7 : decode cX6_coursePart 7 = .ok (.iconst 3, 1) := by decide +kernel
theorem dX6_coursePart_8 : decode cX6_coursePart 8 = .ok (.iload_n 1, 1) := by decide +kernel
theorem dX6_coursePart_9 : decode cX6_coursePart 9 = .ok (.imul, 1) := by decide +kernel
theorem dX6_coursePart_10 : decode cX6_coursePart 10 = .ok (.iadd, 1) := by decide +kernel
theorem dX6_coursePart_11 : decode cX6_coursePart 11 = .ok (.iload_n 2, 1) := by decide +kernel
theorem dX6_coursePart_12 : decode cX6_coursePart 12 = .ok (.iadd, 1) := by decide +kernel
theorem dX6_coursePart_13 : decode cX6_coursePart 13 = .ok (.iaload, 1) := by decide +kernel
theorem dX6_coursePart_14 : decode cX6_coursePart 14 = .ok (.ireturn, 1) := by decide +kernel
theorem dX6_setMember_0 : decode cX6_setMember 0 = .ok (.aload_n 0, 1) := by decide +kernel
theorem dX6_setMember_1 : decode cX6_setMember 1 = .ok (.getfield 16, 3) := by decide +kernel
theorem dX6_setMember_4 : decode cX6_setMember 4 = .ok (.sipush 547, 3) := by decide +kernel
theorem dX6_setMember_7 : decode cX6_setMember 7 = .ok (.bipush 6, 2) := by decide +kernel
theorem dX6_setMember_9 : decode cX6_setMember 9 = .ok (.iload_n 1, 1) := by decide +kernel
theorem dX6_setMember_10 : decode cX6_setMember 10 = .ok (.imul, 1) := by decide +kernel
theorem dX6_setMember_11 : decode cX6_setMember 11 = .ok (.iadd, 1) := by decide +kernel
theorem dX6_setMember_12 : decode cX6_setMember 12 = .ok (.iload_n 2, 1) := by decide +kernel
theorem dX6_setMember_13 : decode cX6_setMember 13 = .ok (.iadd, 1) := by decide +kernel
theorem dX6_setMember_14 : decode cX6_setMember 14 = .ok (.iload_n 3, 1) := by decide +kernel
theorem dX6_setMember_15 : decode cX6_setMember 15 = .ok (.iastore, 1) := by decide +kernel
theorem dX6_setMember_16 : decode cX6_setMember 16 = .ok (.return_, 1) := by decide +kernel
theorem dX6_setHarness_0 : decode cX6_setHarness 0 = .ok (.aload_n 0, 1) := by decide +kernel
theorem dX6_setHarness_1 : decode cX6_setHarness 1 = .ok (.getfield 16, 3) := by decide +kernel
theorem dX6_setHarness_4 : decode cX6_setHarness 4 = .ok (.sipush 471, 3) := by decide +kernel
theorem dX6_setHarness_7 : decode cX6_setHarness 7 = .ok (.iconst 5, 1) := by decide +kernel
theorem dX6_setHarness_8 : decode cX6_setHarness 8 = .ok (.iload_n 1, 1) := by decide +kernel
theorem dX6_setHarness_9 : decode cX6_setHarness 9 = .ok (.imul, 1) := by decide +kernel
theorem dX6_setHarness_10 : decode cX6_setHarness 10 = .ok (.iadd, 1) := by decide +kernel
theorem dX6_setHarness_11 : decode cX6_setHarness 11 = .ok (.iload_n 2, 1) := by decide +kernel
theorem dX6_setHarness_12 : decode cX6_setHarness 12 = .ok (.iadd, 1) := by decide +kernel
theorem dX6_setHarness_13 : decode cX6_setHarness 13 = .ok (.iload_n 3, 1) := by decide +kernel
theorem dX6_setHarness_14 : decode cX6_setHarness 14 = .ok (.iastore, 1) := by decide +kernel
theorem dX6_setHarness_15 : decode cX6_setHarness 15 = .ok (.return_, 1) := by decide +kernel
theorem dX6_cast_0 : decode cX6_cast 0 = .ok (.aload_n 0, 1) := by decide +kernel
theorem dX6_cast_1 : decode cX6_cast 1 = .ok (.getfield 25, 3) := by decide +kernel
theorem dX6_cast_4 : decode cX6_cast 4 = .ok (.iload_n 1, 1) := by decide +kernel
theorem dX6_cast_5 : decode cX6_cast 5 = .ok (.dup2, 1) := by decide +kernel
theorem dX6_cast_6 : decode cX6_cast 6 = .ok (.iaload, 1) := by decide +kernel
theorem dX6_cast_7 : decode cX6_cast 7 = .ok (.iload_n 2, 1) := by decide +kernel
theorem dX6_cast_8 : decode cX6_cast 8 = .ok (.iadd, 1) := by decide +kernel
theorem dX6_cast_9 : decode cX6_cast 9 = .ok (.iastore, 1) := by decide +kernel
theorem dX6_cast_10 : decode cX6_cast 10 = .ok (.aload_n 0, 1) := by decide +kernel
theorem dX6_cast_11 : decode cX6_cast 11 = .ok (.dup, 1) := by decide +kernel
theorem dX6_cast_12 : decode cX6_cast 12 = .ok (.getfield 160, 3) := by decide +kernel
theorem dX6_cast_15 : decode cX6_cast 15 = .ok (.iload_n 2, 1) := by decide +kernel
theorem dX6_cast_16 : decode cX6_cast 16 = .ok (.iadd, 1) := by decide +kernel
theorem dX6_cast_17 : decode cX6_cast 17 = .ok (.putfield 160, 3) := by decide +kernel
theorem dX6_cast_20 : decode cX6_cast 20 = .ok (.return_, 1) := by decide +kernel
theorem dX6_layBallot_0 : decode cX6_layBallot 0 = .ok (.iconst 0, 1) := by decide +kernel
theorem dX6_layBallot_1 : decode cX6_layBallot 1 = .ok (.istore_n 2, 1) := by decide +kernel
theorem dX6_layBallot_2 : decode cX6_layBallot 2 = .ok (.iload_n 2, 1) := by decide +kernel
theorem dX6_layBallot_3 : decode cX6_layBallot 3 = .ok (.bipush 30, 2) := by decide +kernel
theorem dX6_layBallot_5 : decode cX6_layBallot 5 = .ok (.if_icmp .ge 16, 3) := by decide +kernel
theorem dX6_layBallot_8 : decode cX6_layBallot 8 = .ok (.aload_n 0, 1) := by decide +kernel
theorem dX6_layBallot_9 : decode cX6_layBallot 9 = .ok (.getfield 25, 3) := by decide +kernel
theorem dX6_layBallot_12 : decode cX6_layBallot 12 = .ok (.iload_n 2, 1) := by decide +kernel
theorem dX6_layBallot_13 : decode cX6_layBallot 13 = .ok (.iconst 0, 1) := by decide +kernel
theorem dX6_layBallot_14 : decode cX6_layBallot 14 = .ok (.iastore, 1) := by decide +kernel
theorem dX6_layBallot_15 : decode cX6_layBallot 15 = .ok (.iinc 2 1, 3) := by decide +kernel
theorem dX6_layBallot_18 : decode cX6_layBallot 18 = .ok (.goto (-16), 3) := by decide +kernel
theorem dX6_layBallot_21 : decode cX6_layBallot 21 = .ok (.aload_n 0, 1) := by decide +kernel
theorem dX6_layBallot_22 : decode cX6_layBallot 22 = .ok (.iconst 0, 1) := by decide +kernel
theorem dX6_layBallot_23 : decode cX6_layBallot 23 = .ok (.putfield 160, 3) := by decide +kernel
theorem dX6_layBallot_26 : decode cX6_layBallot 26 = .ok (.iconst 0, 1) := by decide +kernel
theorem dX6_layBallot_27 : decode cX6_layBallot 27 = .ok (.istore_n 2, 1) := by decide +kernel
theorem dX6_layBallot_28 : decode cX6_layBallot 28 = .ok (.iload_n 2, 1) := by decide +kernel
theorem dX6_layBallot_29 : decode cX6_layBallot 29 = .ok (.aload_n 0, 1) := by decide +kernel
theorem dX6_layBallot_30 : decode cX6_layBallot 30 = .ok (.getfield 16, 3) := by decide +kernel
theorem dX6_layBallot_33 : decode cX6_layBallot 33 = .ok (.sipush 546, 3) := by decide +kernel
theorem dX6_layBallot_36 : decode cX6_layBallot 36 = .ok (.iaload, 1) := by decide +kernel
theorem dX6_layBallot_37 : decode cX6_layBallot 37 = .ok (.if_icmp .ge 30, 3) := by decide +kernel
theorem dX6_layBallot_40 : decode cX6_layBallot 40 = .ok (.aload_n 0, 1) := by decide +kernel
theorem dX6_layBallot_41 : decode cX6_layBallot 41 = .ok (.iload_n 1, 1) := by decide +kernel
theorem dX6_layBallot_42 : decode cX6_layBallot 42 = .ok (.bipush 6, 2) := by decide +kernel
theorem dX6_layBallot_44 : decode cX6_layBallot 44 = .ok (.iload_n 2, 1) := by decide +kernel
theorem dX6_layBallot_45 : decode cX6_layBallot 45 = .ok (.iadd, 1) := by decide +kernel
theorem dX6_layBallot_46 : decode cX6_layBallot 46 = .ok (.invokevirtual 163, 3) := by decide +kernel
theorem dX6_layBallot_49 : decode cX6_layBallot 49 = .ok (.istore_n 3, 1) := by decide +kernel
theorem dX6_layBallot_50 : decode cX6_layBallot 50 = .ok (.iload_n 3, 1) := by decide +kernel
theorem dX6_layBallot_51 : decode cX6_layBallot 51 = .ok (.iconst (-1), 1) := by decide +kernel
theorem dX6_layBallot_52 : decode cX6_layBallot 52 = .ok (.if_icmp .eq 9, 3) := by decide +kernel
theorem dX6_layBallot_55 : decode cX6_layBallot 55 = .ok (.aload_n 0, 1) := by decide +kernel
theorem dX6_layBallot_56 : decode cX6_layBallot 56 = .ok (.iload_n 3, 1) := by decide +kernel
theorem dX6_layBallot_57 : decode cX6_layBallot 57 = .ok (.iconst 1, 1) := by decide +kernel
theorem dX6_layBallot_58 : decode cX6_layBallot 58 = .ok (.invokevirtual 166, 3) := by decide +kernel
theorem dX6_layBallot_61 : decode cX6_layBallot 61 = .ok (.iinc 2 1, 3) := by decide +kernel
theorem dX6_layBallot_64 : decode cX6_layBallot 64 = .ok (.goto (-36), 3) := by decide +kernel
theorem dX6_layBallot_67 : decode cX6_layBallot 67 = .ok (.aload_n 0, 1) := by decide +kernel
theorem dX6_layBallot_68 : decode cX6_layBallot 68 = .ok (.aload_n 0, 1) := by decide +kernel
theorem dX6_layBallot_69 : decode cX6_layBallot 69 = .ok (.iload_n 1, 1) := by decide +kernel
theorem dX6_layBallot_70 : decode cX6_layBallot 70 = .ok (.iconst 1, 1) := by decide +kernel
theorem dX6_layBallot_71 : decode cX6_layBallot 71 = .ok (.invokevirtual 163, 3) := by decide +kernel
theorem dX6_layBallot_74 : decode cX6_layBallot 74 = .ok (.aload_n 0, 1) := by decide +kernel
theorem dX6_layBallot_75 : decode cX6_layBallot 75 = .ok (.getfield 16, 3) := by decide +kernel
theorem dX6_layBallot_78 : decode cX6_layBallot 78 = .ok (.iconst 1, 1) := by decide +kernel
theorem dX6_layBallot_79 : decode cX6_layBallot 79 = .ok (.iaload, 1) := by decide +kernel
theorem dX6_layBallot_80 : decode cX6_layBallot 80 = .ok (.invokevirtual 166, 3) := by decide +kernel
theorem dX6_layBallot_83 : decode cX6_layBallot 83 = .ok (.return_, 1) := by decide +kernel
theorem dX6_dropped_0 : decode cX6_dropped 0 = .ok (.iconst 0, 1) := by decide +kernel
theorem dX6_dropped_1 : decode cX6_dropped 1 = .ok (.iload_n 1, 1) := by decide +kernel
theorem dX6_dropped_2 : decode cX6_dropped 2 = .ok (.iload_n 2, 1) := by decide +kernel
theorem dX6_dropped_3 : decode cX6_dropped 3 = .ok (.iload_n 0, 1) := by decide +kernel
theorem dX6_dropped_4 : decode cX6_dropped 4 = .ok (.isub, 1) := by decide +kernel
theorem dX6_dropped_5 : decode cX6_dropped 5 = .ok (.invokestatic 93, 3) := by decide +kernel
theorem dX6_dropped_8 : decode cX6_dropped 8 = .ok (.invokestatic 169, 3) := by decide +kernel
theorem dX6_dropped_11 : decode cX6_dropped 11 = .ok (.ireturn, 1) := by decide +kernel
theorem dX6_trim_0 : decode cX6_trim 0 = .ok (.aload_n 0, 1) := by decide +kernel
theorem dX6_trim_1 : decode cX6_trim 1 = .ok (.getfield 160, 3) := by decide +kernel
theorem dX6_trim_4 : decode cX6_trim 4 = .ok (.aload_n 0, 1) := by decide +kernel
theorem dX6_trim_5 : decode cX6_trim 5 = .ok (.getfield 16, 3) := by decide +kernel
theorem dX6_trim_8 : decode cX6_trim 8 = .ok (.iconst 0, 1) := by decide +kernel
theorem dX6_trim_9 : decode cX6_trim 9 = .ok (.iaload, 1) := by decide +kernel
theorem dX6_trim_10 : decode cX6_trim 10 = .ok (.imul, 1) := by decide +kernel
theorem dX6_trim_11 : decode cX6_trim 11 = .ok (.bipush 100, 2) := by decide +kernel
theorem dX6_trim_13 : decode cX6_trim 13 = .ok (.idiv, 1) := by decide +kernel
theorem dX6_trim_14 : decode cX6_trim 14 = .ok (.istore_n 1, 1) := by decide +kernel
theorem dX6_trim_15 : decode cX6_trim 15 = .ok (.iconst 0, 1) := by decide +kernel
theorem dX6_trim_16 : decode cX6_trim 16 = .ok (.istore_n 2, 1) := by decide +kernel
theorem dX6_trim_17 : decode cX6_trim 17 = .ok (.aload_n 0, 1) := by decide +kernel
theorem dX6_trim_18 : decode cX6_trim 18 = .ok (.iconst 0, 1) := by decide +kernel
theorem dX6_trim_19 : decode cX6_trim 19 = .ok (.putfield 172, 3) := by decide +kernel
theorem dX6_trim_22 : decode cX6_trim 22 = .ok (.aload_n 0, 1) := by decide +kernel
theorem dX6_trim_23 : decode cX6_trim 23 = .ok (.iconst 0, 1) := by decide +kernel
theorem dX6_trim_24 : decode cX6_trim 24 = .ok (.putfield 175, 3) := by decide +kernel
theorem dX6_trim_27 : decode cX6_trim 27 = .ok (.iconst 0, 1) := by decide +kernel
theorem dX6_trim_28 : decode cX6_trim 28 = .ok (.istore_n 3, 1) := by decide +kernel
theorem dX6_trim_29 : decode cX6_trim 29 = .ok (.iload_n 3, 1) := by decide +kernel
theorem dX6_trim_30 : decode cX6_trim 30 = .ok (.bipush 30, 2) := by decide +kernel
theorem dX6_trim_32 : decode cX6_trim 32 = .ok (.if_icmp .ge 98, 3) := by decide +kernel
theorem dX6_trim_35 : decode cX6_trim 35 = .ok (.aload_n 0, 1) := by decide +kernel
theorem dX6_trim_36 : decode cX6_trim 36 = .ok (.getfield 160, 3) := by decide +kernel
theorem dX6_trim_39 : decode cX6_trim 39 = .ok (.iload_n 2, 1) := by decide +kernel
theorem dX6_trim_40 : decode cX6_trim 40 = .ok (.isub, 1) := by decide +kernel
theorem dX6_trim_41 : decode cX6_trim 41 = .ok (.aload_n 0, 1) := by decide +kernel
theorem dX6_trim_42 : decode cX6_trim 42 = .ok (.getfield 25, 3) := by decide +kernel
theorem dX6_trim_45 : decode cX6_trim 45 = .ok (.iload_n 3, 1) := by decide +kernel
theorem dX6_trim_46 : decode cX6_trim 46 = .ok (.iaload, 1) := by decide +kernel
theorem dX6_trim_47 : decode cX6_trim 47 = .ok (.isub, 1) := by decide +kernel
theorem dX6_trim_48 : decode cX6_trim 48 = .ok (.istore 4, 2) := by decide +kernel
theorem dX6_trim_50 : decode cX6_trim 50 = .ok (.aload_n 0, 1) := by decide +kernel
theorem dX6_trim_51 : decode cX6_trim 51 = .ok (.getfield 25, 3) := by decide +kernel
theorem dX6_trim_54 : decode cX6_trim 54 = .ok (.iload_n 3, 1) := by decide +kernel
theorem dX6_trim_55 : decode cX6_trim 55 = .ok (.iaload, 1) := by decide +kernel
theorem dX6_trim_56 : decode cX6_trim 56 = .ok (.iload_n 2, 1) := by decide +kernel
theorem dX6_trim_57 : decode cX6_trim 57 = .ok (.aload_n 0, 1) := by decide +kernel
theorem dX6_trim_58 : decode cX6_trim 58 = .ok (.getfield 25, 3) := by decide +kernel
theorem dX6_trim_61 : decode cX6_trim 61 = .ok (.iload_n 3, 1) := by decide +kernel
theorem dX6_trim_62 : decode cX6_trim 62 = .ok (.iaload, 1) := by decide +kernel
theorem dX6_trim_63 : decode cX6_trim 63 = .ok (.iload_n 1, 1) := by decide +kernel
theorem dX6_trim_64 : decode cX6_trim 64 = .ok (.invokestatic 178, 3) := by decide +kernel
theorem dX6_trim_67 : decode cX6_trim 67 = .ok (.isub, 1) := by decide +kernel
theorem dX6_trim_68 : decode cX6_trim 68 = .ok (.iload 4, 2) := by decide +kernel
theorem dX6_trim_70 : decode cX6_trim 70 = .ok (.aload_n 0, 1) := by decide +kernel
theorem dX6_trim_71 : decode cX6_trim 71 = .ok (.getfield 25, 3) := by decide +kernel
theorem dX6_trim_74 : decode cX6_trim 74 = .ok (.iload_n 3, 1) := by decide +kernel
theorem dX6_trim_75 : decode cX6_trim 75 = .ok (.iaload, 1) := by decide +kernel
theorem dX6_trim_76 : decode cX6_trim 76 = .ok (.iload_n 1, 1) := by decide +kernel
theorem dX6_trim_77 : decode cX6_trim 77 = .ok (.invokestatic 178, 3) := by decide +kernel
theorem dX6_trim_80 : decode cX6_trim 80 = .ok (.isub, 1) := by decide +kernel
theorem dX6_trim_81 : decode cX6_trim 81 = .ok (.istore 5, 2) := by decide +kernel
theorem dX6_trim_83 : decode cX6_trim 83 = .ok (.iconst 0, 1) := by decide +kernel
theorem dX6_trim_84 : decode cX6_trim 84 = .ok (.iload 5, 2) := by decide +kernel
theorem dX6_trim_86 : decode cX6_trim 86 = .ok (.invokestatic 169, 3) := by decide +kernel
theorem dX6_trim_89 : decode cX6_trim 89 = .ok (.istore 5, 2) := by decide +kernel
theorem dX6_trim_91 : decode cX6_trim 91 = .ok (.aload_n 0, 1) := by decide +kernel
theorem dX6_trim_92 : decode cX6_trim 92 = .ok (.dup, 1) := by decide +kernel
theorem dX6_trim_93 : decode cX6_trim 93 = .ok (.getfield 172, 3) := by decide +kernel
theorem dX6_trim_96 : decode cX6_trim 96 = .ok (.iload_n 3, 1) := by decide +kernel
theorem dX6_trim_97 : decode cX6_trim 97 = .ok (.iload 5, 2) := by decide +kernel
theorem dX6_trim_99 : decode cX6_trim 99 = .ok (.imul, 1) := by decide +kernel
theorem dX6_trim_100 : decode cX6_trim 100 = .ok (.iadd, 1) := by decide +kernel
theorem dX6_trim_101 : decode cX6_trim 101 = .ok (.putfield 172, 3) := by decide +kernel
theorem dX6_trim_104 : decode cX6_trim 104 = .ok (.aload_n 0, 1) := by decide +kernel
theorem dX6_trim_105 : decode cX6_trim 105 = .ok (.dup, 1) := by decide +kernel
theorem dX6_trim_106 : decode cX6_trim 106 = .ok (.getfield 175, 3) := by decide +kernel
theorem dX6_trim_109 : decode cX6_trim 109 = .ok (.iload 5, 2) := by decide +kernel
theorem dX6_trim_111 : decode cX6_trim 111 = .ok (.iadd, 1) := by decide +kernel
theorem dX6_trim_112 : decode cX6_trim 112 = .ok (.putfield 175, 3) := by decide +kernel
theorem dX6_trim_115 : decode cX6_trim 115 = .ok (.iload_n 2, 1) := by decide +kernel
theorem dX6_trim_116 : decode cX6_trim 116 = .ok (.aload_n 0, 1) := by decide +kernel
theorem dX6_trim_117 : decode cX6_trim 117 = .ok (.getfield 25, 3) := by decide +kernel
theorem dX6_trim_120 : decode cX6_trim 120 = .ok (.iload_n 3, 1) := by decide +kernel
theorem dX6_trim_121 : decode cX6_trim 121 = .ok (.iaload, 1) := by decide +kernel
theorem dX6_trim_122 : decode cX6_trim 122 = .ok (.iadd, 1) := by decide +kernel
theorem dX6_trim_123 : decode cX6_trim 123 = .ok (.istore_n 2, 1) := by decide +kernel
theorem dX6_trim_124 : decode cX6_trim 124 = .ok (.iinc 3 1, 3) := by decide +kernel
theorem dX6_trim_127 : decode cX6_trim 127 = .ok (.goto (-98), 3) := by decide +kernel
theorem dX6_trim_130 : decode cX6_trim 130 = .ok (.return_, 1) := by decide +kernel
theorem dX6_layMean_0 : decode cX6_layMean 0 = .ok (.aload_n 0, 1) := by decide +kernel
theorem dX6_layMean_1 : decode cX6_layMean 1 = .ok (.iload_n 1, 1) := by decide +kernel
theorem dX6_layMean_2 : decode cX6_layMean 2 = .ok (.invokevirtual 182, 3) := by decide +kernel
theorem dX6_layMean_5 : decode cX6_layMean 5 = .ok (.iload_n 3, 1) := by decide +kernel
theorem dX6_layMean_6 : decode cX6_layMean 6 = .ok (.ifCond .le 9, 3) := by decide +kernel
theorem dX6_layMean_9 : decode cX6_layMean 9 = .ok (.aload_n 0, 1) := by decide +kernel
theorem dX6_layMean_10 : decode cX6_layMean 10 = .ok (.iload_n 2, 1) := by decide +kernel
theorem dX6_layMean_11 : decode cX6_layMean 11 = .ok (.iload_n 3, 1) := by decide +kernel
theorem dX6_layMean_12 : decode cX6_layMean 12 = .ok (.invokevirtual 166, 3) := by decide +kernel
theorem dX6_layMean_15 : decode cX6_layMean 15 = .ok (.aload_n 0, 1) := by decide +kernel
theorem dX6_layMean_16 : decode cX6_layMean 16 = .ok (.getfield 160, 3) := by decide +kernel
theorem dX6_layMean_19 : decode cX6_layMean 19 = .ok (.ifCond .ne 14, 3) := by decide +kernel
theorem dX6_layMean_22 : decode cX6_layMean 22 = .ok (.aload_n 0, 1) := by decide +kernel
theorem dX6_layMean_23 : decode cX6_layMean 23 = .ok (.aload_n 0, 1) := by decide +kernel
theorem dX6_layMean_24 : decode cX6_layMean 24 = .ok (.iload_n 1, 1) := by decide +kernel
theorem dX6_layMean_25 : decode cX6_layMean 25 = .ok (.iconst 1, 1) := by decide +kernel
theorem dX6_layMean_26 : decode cX6_layMean 26 = .ok (.invokevirtual 163, 3) := by decide +kernel
theorem dX6_layMean_29 : decode cX6_layMean 29 = .ok (.iconst 1, 1) := by decide +kernel
theorem dX6_layMean_30 : decode cX6_layMean 30 = .ok (.invokevirtual 166, 3) := by decide +kernel
theorem dX6_layMean_33 : decode cX6_layMean 33 = .ok (.aload_n 0, 1) := by decide +kernel
theorem dX6_layMean_34 : decode cX6_layMean 34 = .ok (.invokevirtual 186, 3) := by decide +kernel
theorem dX6_layMean_37 : decode cX6_layMean 37 = .ok (.return_, 1) := by decide +kernel
theorem dX6_gradeOf_0 : decode cX6_gradeOf 0 = .ok (.aload_n 0, 1) := by decide +kernel
theorem dX6_gradeOf_1 : decode cX6_gradeOf 1 = .ok (.iload_n 1, 1) := by decide +kernel
theorem dX6_gradeOf_2 : decode cX6_gradeOf 2 = .ok (.iconst 0, 1) := by decide +kernel
theorem dX6_gradeOf_3 : decode cX6_gradeOf 3 = .ok (.iconst 0, 1) := by decide +kernel
theorem dX6_gradeOf_4 : decode cX6_gradeOf 4 = .ok (.invokevirtual 189, 3) := by decide +kernel
theorem dX6_gradeOf_7 : decode cX6_gradeOf 7 = .ok (.ireturn, 1) := by decide +kernel
theorem dX6_gradeBy_0 : decode cX6_gradeBy 0 = .ok (.aload_n 0, 1) := by decide +kernel
theorem dX6_gradeBy_1 : decode cX6_gradeBy 1 = .ok (.iload_n 1, 1) := by decide +kernel
theorem dX6_gradeBy_2 : decode cX6_gradeBy 2 = .ok (.iload_n 2, 1) := by decide +kernel
theorem dX6_gradeBy_3 : decode cX6_gradeBy 3 = .ok (.iload_n 3, 1) := by decide +kernel
theorem dX6_gradeBy_4 : decode cX6_gradeBy 4 = .ok (.invokevirtual 192, 3) := by decide +kernel
theorem dX6_gradeBy_7 : decode cX6_gradeBy 7 = .ok (.iconst 2, 1) := by decide +kernel
theorem dX6_gradeBy_8 : decode cX6_gradeBy 8 = .ok (.aload_n 0, 1) := by decide +kernel
theorem dX6_gradeBy_9 : decode cX6_gradeBy 9 = .ok (.getfield 172, 3) := by decide +kernel
theorem dX6_gradeBy_12 : decode cX6_gradeBy 12 = .ok (.imul, 1) := by decide +kernel
theorem dX6_gradeBy_13 : decode cX6_gradeBy 13 = .ok (.aload_n 0, 1) := by decide +kernel
theorem dX6_gradeBy_14 : decode cX6_gradeBy 14 = .ok (.getfield 175, 3) := by decide +kernel
theorem dX6_gradeBy_17 : decode cX6_gradeBy 17 = .ok (.iadd, 1) := by decide +kernel
theorem dX6_gradeBy_18 : decode cX6_gradeBy 18 = .ok (.iconst 2, 1) := by decide +kernel
theorem dX6_gradeBy_19 : decode cX6_gradeBy 19 = .ok (.aload_n 0, 1) := by decide +kernel
theorem dX6_gradeBy_20 : decode cX6_gradeBy 20 = .ok (.getfield 175, 3) := by decide +kernel
theorem dX6_gradeBy_23 : decode cX6_gradeBy 23 = .ok (.imul, 1) := by decide +kernel
theorem dX6_gradeBy_24 : decode cX6_gradeBy 24 = .ok (.idiv, 1) := by decide +kernel
theorem dX6_gradeBy_25 : decode cX6_gradeBy 25 = .ok (.ireturn, 1) := by decide +kernel
theorem dX6_isClosed_0 : decode cX6_isClosed 0 = .ok (.aload_n 0, 1) := by decide +kernel
theorem dX6_isClosed_1 : decode cX6_isClosed 1 = .ok (.iload_n 1, 1) := by decide +kernel
theorem dX6_isClosed_2 : decode cX6_isClosed 2 = .ok (.iconst 3, 1) := by decide +kernel
theorem dX6_isClosed_3 : decode cX6_isClosed 3 = .ok (.invokevirtual 195, 3) := by decide +kernel
theorem dX6_isClosed_6 : decode cX6_isClosed 6 = .ok (.aload_n 0, 1) := by decide +kernel
theorem dX6_isClosed_7 : decode cX6_isClosed 7 = .ok (.getfield 16, 3) := by decide +kernel
theorem dX6_isClosed_10 : decode cX6_isClosed 10 = .ok (.iconst 3, 1) := by decide +kernel
theorem dX6_isClosed_11 : decode cX6_isClosed 11 = .ok (.iaload, 1) := by decide +kernel
theorem dX6_isClosed_12 : decode cX6_isClosed 12 = .ok (.if_icmp .ne 7, 3) := by decide +kernel
theorem dX6_isClosed_15 : decode cX6_isClosed 15 = .ok (.iconst 1, 1) := by decide +kernel
theorem dX6_isClosed_16 : decode cX6_isClosed 16 = .ok (.goto 4, 3) := by decide +kernel
theorem dX6_isClosed_19 : decode cX6_isClosed 19 = .ok (.iconst 0, 1) := by decide +kernel
theorem dX6_isClosed_20 : decode cX6_isClosed 20 = .ok (.ireturn, 1) := by decide +kernel
theorem dX6_onWall_0 : decode cX6_onWall 0 = .ok (.iconst 0, 1) := by decide +kernel
theorem dX6_onWall_1 : decode cX6_onWall 1 = .ok (.istore_n 2, 1) := by decide +kernel
theorem dX6_onWall_2 : decode cX6_onWall 2 = .ok (.iconst 0, 1) := by decide +kernel
theorem dX6_onWall_3 : decode cX6_onWall 3 = .ok (.istore_n 3, 1) := by decide +kernel
theorem dX6_onWall_4 : decode cX6_onWall 4 = .ok (.iload_n 3, 1) := by decide +kernel
theorem dX6_onWall_5 : decode cX6_onWall 5 = .ok (.aload_n 0, 1) := by decide +kernel
theorem dX6_onWall_6 : decode cX6_onWall 6 = .ok (.getfield 16, 3) := by decide +kernel
theorem dX6_onWall_9 : decode cX6_onWall 9 = .ok (.bipush 37, 2) := by decide +kernel
theorem dX6_onWall_11 : decode cX6_onWall 11 = .ok (.iaload, 1) := by decide +kernel
theorem dX6_onWall_12 : decode cX6_onWall 12 = .ok (.if_icmp .ge 27, 3) := by decide +kernel
theorem dX6_onWall_15 : decode cX6_onWall 15 = .ok (.iload_n 2, 1) := by decide +kernel
theorem dX6_onWall_16 : decode cX6_onWall 16 = .ok (.aload_n 0, 1) := by decide +kernel
theorem dX6_onWall_17 : decode cX6_onWall 17 = .ok (.iload_n 3, 1) := by decide +kernel
theorem dX6_onWall_18 : decode cX6_onWall 18 = .ok (.iconst 0, 1) := by decide +kernel
theorem dX6_onWall_19 : decode cX6_onWall 19 = .ok (.invokevirtual 163, 3) := by decide +kernel
theorem dX6_onWall_22 : decode cX6_onWall 22 = .ok (.iload_n 1, 1) := by decide +kernel
theorem dX6_onWall_23 : decode cX6_onWall 23 = .ok (.if_icmp .ne 7, 3) := by decide +kernel
theorem dX6_onWall_26 : decode cX6_onWall 26 = .ok (.iconst 1, 1) := by decide +kernel
theorem dX6_onWall_27 : decode cX6_onWall 27 = .ok (.goto 4, 3) := by decide +kernel
theorem dX6_onWall_30 : decode cX6_onWall 30 = .ok (.iconst 0, 1) := by decide +kernel
theorem dX6_onWall_31 : decode cX6_onWall 31 = .ok (.iadd, 1) := by decide +kernel
theorem dX6_onWall_32 : decode cX6_onWall 32 = .ok (.istore_n 2, 1) := by decide +kernel
theorem dX6_onWall_33 : decode cX6_onWall 33 = .ok (.iinc 3 1, 3) := by decide +kernel
theorem dX6_onWall_36 : decode cX6_onWall 36 = .ok (.goto (-32), 3) := by decide +kernel
theorem dX6_onWall_39 : decode cX6_onWall 39 = .ok (.iload_n 2, 1) := by decide +kernel
theorem dX6_onWall_40 : decode cX6_onWall 40 = .ok (.ireturn, 1) := by decide +kernel
theorem dX6_lapse_0 : decode cX6_lapse 0 = .ok (.aload_n 0, 1) := by decide +kernel
theorem dX6_lapse_1 : decode cX6_lapse 1 = .ok (.iload_n 1, 1) := by decide +kernel
theorem dX6_lapse_2 : decode cX6_lapse 2 = .ok (.iconst 2, 1) := by decide +kernel
theorem dX6_lapse_3 : decode cX6_lapse 3 = .ok (.invokevirtual 198, 3) := by decide +kernel
theorem dX6_lapse_6 : decode cX6_lapse 6 = .ok (.aload_n 0, 1) := by decide +kernel
theorem dX6_lapse_7 : decode cX6_lapse 7 = .ok (.iload_n 1, 1) := by decide +kernel
theorem dX6_lapse_8 : decode cX6_lapse 8 = .ok (.iconst 1, 1) := by decide +kernel
theorem dX6_lapse_9 : decode cX6_lapse 9 = .ok (.invokevirtual 198, 3) := by decide +kernel
theorem dX6_lapse_12 : decode cX6_lapse 12 = .ok (.iadd, 1) := by decide +kernel
theorem dX6_lapse_13 : decode cX6_lapse 13 = .ok (.ireturn, 1) := by decide +kernel
theorem dX6_isRetired_0 : decode cX6_isRetired 0 = .ok (.aload_n 0, 1) := by decide +kernel
theorem dX6_isRetired_1 : decode cX6_isRetired 1 = .ok (.iload_n 1, 1) := by decide +kernel
theorem dX6_isRetired_2 : decode cX6_isRetired 2 = .ok (.iconst 3, 1) := by decide +kernel
theorem dX6_isRetired_3 : decode cX6_isRetired 3 = .ok (.invokevirtual 198, 3) := by decide +kernel
theorem dX6_isRetired_6 : decode cX6_isRetired 6 = .ok (.iconst 1, 1) := by decide +kernel
theorem dX6_isRetired_7 : decode cX6_isRetired 7 = .ok (.if_icmp .ne 7, 3) := by decide +kernel
theorem dX6_isRetired_10 : decode cX6_isRetired 10 = .ok (.iconst 1, 1) := by decide +kernel
theorem dX6_isRetired_11 : decode cX6_isRetired 11 = .ok (.goto 4, 3) := by decide +kernel
theorem dX6_isRetired_14 : decode cX6_isRetired 14 = .ok (.iconst 0, 1) := by decide +kernel
theorem dX6_isRetired_15 : decode cX6_isRetired 15 = .ok (.ireturn, 1) := by decide +kernel
theorem dX6_isLent_0 : decode cX6_isLent 0 = .ok (.aload_n 0, 1) := by decide +kernel
theorem dX6_isLent_1 : decode cX6_isLent 1 = .ok (.iload_n 1, 1) := by decide +kernel
theorem dX6_isLent_2 : decode cX6_isLent 2 = .ok (.iconst 4, 1) := by decide +kernel
theorem dX6_isLent_3 : decode cX6_isLent 3 = .ok (.invokevirtual 198, 3) := by decide +kernel
theorem dX6_isLent_6 : decode cX6_isLent 6 = .ok (.iconst 1, 1) := by decide +kernel
theorem dX6_isLent_7 : decode cX6_isLent 7 = .ok (.if_icmp .ne 7, 3) := by decide +kernel
theorem dX6_isLent_10 : decode cX6_isLent 10 = .ok (.iconst 1, 1) := by decide +kernel
theorem dX6_isLent_11 : decode cX6_isLent 11 = .ok (.goto 4, 3) := by decide +kernel
theorem dX6_isLent_14 : decode cX6_isLent 14 = .ok (.iconst 0, 1) := by decide +kernel
theorem dX6_isLent_15 : decode cX6_isLent 15 = .ok (.ireturn, 1) := by decide +kernel
theorem dX6_isInForce_0 : decode cX6_isInForce 0 = .ok (.aload_n 0, 1) := by decide +kernel
theorem dX6_isInForce_1 : decode cX6_isInForce 1 = .ok (.iload_n 1, 1) := by decide +kernel
theorem dX6_isInForce_2 : decode cX6_isInForce 2 = .ok (.invokevirtual 201, 3) := by decide +kernel
theorem dX6_isInForce_5 : decode cX6_isInForce 5 = .ok (.ifCond .ne 16, 3) := by decide +kernel
theorem dX6_isInForce_8 : decode cX6_isInForce 8 = .ok (.iload_n 2, 1) := by decide +kernel
theorem dX6_isInForce_9 : decode cX6_isInForce 9 = .ok (.aload_n 0, 1) := by decide +kernel
theorem dX6_isInForce_10 : decode cX6_isInForce 10 = .ok (.iload_n 1, 1) := by decide +kernel
theorem dX6_isInForce_11 : decode cX6_isInForce 11 = .ok (.invokevirtual 204, 3) := by decide +kernel
theorem dX6_isInForce_14 : decode cX6_isInForce 14 = .ok (.if_icmp .ge 7, 3) := by decide +kernel
theorem dX6_isInForce_17 : decode cX6_isInForce 17 = .ok (.iconst 1, 1) := by decide +kernel
theorem dX6_isInForce_18 : decode cX6_isInForce 18 = .ok (.goto 4, 3) := by decide +kernel
theorem dX6_isInForce_21 : decode cX6_isInForce 21 = .ok (.iconst 0, 1) := by decide +kernel
theorem dX6_isInForce_22 : decode cX6_isInForce 22 = .ok (.ireturn, 1) := by decide +kernel
theorem dX6_isWorn_0 : decode cX6_isWorn 0 = .ok (.aload_n 0, 1) := by decide +kernel
theorem dX6_isWorn_1 : decode cX6_isWorn 1 = .ok (.iload_n 1, 1) := by decide +kernel
theorem dX6_isWorn_2 : decode cX6_isWorn 2 = .ok (.iconst 3, 1) := by decide +kernel
theorem dX6_isWorn_3 : decode cX6_isWorn 3 = .ok (.invokevirtual 163, 3) := by decide +kernel
theorem dX6_isWorn_6 : decode cX6_isWorn 6 = .ok (.aload_n 0, 1) := by decide +kernel
theorem dX6_isWorn_7 : decode cX6_isWorn 7 = .ok (.getfield 16, 3) := by decide +kernel
theorem dX6_isWorn_10 : decode cX6_isWorn 10 = .ok (.iconst 2, 1) := by decide +kernel
theorem dX6_isWorn_11 : decode cX6_isWorn 11 = .ok (.iaload, 1) := by decide +kernel
theorem dX6_isWorn_12 : decode cX6_isWorn 12 = .ok (.if_icmp .lt 7, 3) := by decide +kernel
theorem dX6_isWorn_15 : decode cX6_isWorn 15 = .ok (.iconst 1, 1) := by decide +kernel
theorem dX6_isWorn_16 : decode cX6_isWorn 16 = .ok (.goto 4, 3) := by decide +kernel
theorem dX6_isWorn_19 : decode cX6_isWorn 19 = .ok (.iconst 0, 1) := by decide +kernel
theorem dX6_isWorn_20 : decode cX6_isWorn 20 = .ok (.ireturn, 1) := by decide +kernel
theorem dX6_mayClimb_0 : decode cX6_mayClimb 0 = .ok (.aload_n 0, 1) := by decide +kernel
theorem dX6_mayClimb_1 : decode cX6_mayClimb 1 = .ok (.iload_n 2, 1) := by decide +kernel
theorem dX6_mayClimb_2 : decode cX6_mayClimb 2 = .ok (.iconst 0, 1) := by decide +kernel
theorem dX6_mayClimb_3 : decode cX6_mayClimb 3 = .ok (.invokevirtual 163, 3) := by decide +kernel
theorem dX6_mayClimb_6 : decode cX6_mayClimb 6 = .ok (.istore_n 3, 1) := by decide +kernel
theorem dX6_mayClimb_7 : decode cX6_mayClimb 7 = .ok (.aload_n 0, 1) := by decide +kernel
theorem dX6_mayClimb_8 : decode cX6_mayClimb 8 = .ok (.iload_n 1, 1) := by decide +kernel
theorem dX6_mayClimb_9 : decode cX6_mayClimb 9 = .ok (.iconst 3, 1) := by decide +kernel
theorem dX6_mayClimb_10 : decode cX6_mayClimb 10 = .ok (.invokevirtual 207, 3) := by decide +kernel
theorem dX6_mayClimb_13 : decode cX6_mayClimb 13 = .ok (.istore 4, 2) := by decide +kernel
theorem dX6_mayClimb_15 : decode cX6_mayClimb 15 = .ok (.iload 4, 2) := by decide +kernel
theorem dX6_mayClimb_17 : decode cX6_mayClimb 17 = .ok (.iconst (-1), 1) := by decide +kernel
theorem dX6_mayClimb_18 : decode cX6_mayClimb 18 = .ok (.if_icmp .eq 22, 3) := by decide +kernel
theorem dX6_mayClimb_21 : decode cX6_mayClimb 21 = .ok (.aload_n 0, 1) := by decide +kernel
theorem dX6_mayClimb_22 : decode cX6_mayClimb 22 = .ok (.iload 4, 2) := by decide +kernel
theorem dX6_mayClimb_24 : decode cX6_mayClimb 24 = .ok (.aload_n 0, 1) := by decide +kernel
theorem dX6_mayClimb_25 : decode cX6_mayClimb 25 = .ok (.getfield 16, 3) := by decide +kernel
theorem dX6_mayClimb_28 : decode cX6_mayClimb 28 = .ok (.iconst 3, 1) := by decide +kernel
theorem dX6_mayClimb_29 : decode cX6_mayClimb 29 = .ok (.iaload, 1) := by decide +kernel
theorem dX6_mayClimb_30 : decode cX6_mayClimb 30 = .ok (.invokevirtual 210, 3) := by decide +kernel
theorem dX6_mayClimb_33 : decode cX6_mayClimb 33 = .ok (.ifCond .eq 7, 3) := by decide +kernel
theorem dX6_mayClimb_36 : decode cX6_mayClimb 36 = .ok (.iconst 1, 1) := by decide +kernel
theorem dX6_mayClimb_37 : decode cX6_mayClimb 37 = .ok (.goto 4, 3) := by decide +kernel
theorem dX6_mayClimb_40 : decode cX6_mayClimb 40 = .ok (.iconst 0, 1) := by decide +kernel
theorem dX6_mayClimb_41 : decode cX6_mayClimb 41 = .ok (.istore 5, 2) := by decide +kernel
theorem dX6_mayClimb_43 : decode cX6_mayClimb 43 = .ok (.aload_n 0, 1) := by decide +kernel
theorem dX6_mayClimb_44 : decode cX6_mayClimb 44 = .ok (.iload_n 3, 1) := by decide +kernel
theorem dX6_mayClimb_45 : decode cX6_mayClimb 45 = .ok (.invokevirtual 214, 3) := by decide +kernel
theorem dX6_mayClimb_48 : decode cX6_mayClimb 48 = .ok (.ifCond .ne 35, 3) := by decide +kernel
theorem dX6_mayClimb_51 : decode cX6_mayClimb 51 = .ok (.aload_n 0, 1) := by decide +kernel
theorem dX6_mayClimb_52 : decode cX6_mayClimb 52 = .ok (.iload_n 1, 1) := by decide +kernel
theorem dX6_mayClimb_53 : decode cX6_mayClimb 53 = .ok (.iconst 1, 1) := by decide +kernel
theorem dX6_mayClimb_54 : decode cX6_mayClimb 54 = .ok (.invokevirtual 207, 3) := by decide +kernel
theorem dX6_mayClimb_57 : decode cX6_mayClimb 57 = .ok (.aload_n 0, 1) := by decide +kernel
theorem dX6_mayClimb_58 : decode cX6_mayClimb 58 = .ok (.iload_n 3, 1) := by decide +kernel
theorem dX6_mayClimb_59 : decode cX6_mayClimb 59 = .ok (.iconst 1, 1) := by decide +kernel
theorem dX6_mayClimb_60 : decode cX6_mayClimb 60 = .ok (.invokevirtual 195, 3) := by decide +kernel
theorem dX6_mayClimb_63 : decode cX6_mayClimb 63 = .ok (.if_icmp .lt 20, 3) := by decide +kernel
theorem dX6_mayClimb_66 : decode cX6_mayClimb 66 = .ok (.iload 5, 2) := by decide +kernel
theorem dX6_mayClimb_68 : decode cX6_mayClimb 68 = .ok (.ifCond .eq 15, 3) := by decide +kernel
theorem dX6_mayClimb_71 : decode cX6_mayClimb 71 = .ok (.aload_n 0, 1) := by decide +kernel
theorem dX6_mayClimb_72 : decode cX6_mayClimb 72 = .ok (.iload_n 2, 1) := by decide +kernel
theorem dX6_mayClimb_73 : decode cX6_mayClimb 73 = .ok (.invokevirtual 217, 3) := by decide +kernel
theorem dX6_mayClimb_76 : decode cX6_mayClimb 76 = .ok (.ifCond .ne 7, 3) := by decide +kernel
theorem dX6_mayClimb_79 : decode cX6_mayClimb 79 = .ok (.iconst 1, 1) := by decide +kernel
theorem dX6_mayClimb_80 : decode cX6_mayClimb 80 = .ok (.goto 4, 3) := by decide +kernel
theorem dX6_mayClimb_83 : decode cX6_mayClimb 83 = .ok (.iconst 0, 1) := by decide +kernel
theorem dX6_mayClimb_84 : decode cX6_mayClimb 84 = .ok (.ireturn, 1) := by decide +kernel
theorem dX6_setRoute_0 : decode cX6_setRoute 0 = .ok (.aload_n 0, 1) := by decide +kernel
theorem dX6_setRoute_1 : decode cX6_setRoute 1 = .ok (.iconst 0, 1) := by decide +kernel
theorem dX6_setRoute_2 : decode cX6_setRoute 2 = .ok (.putfield 51, 3) := by decide +kernel
theorem dX6_setRoute_5 : decode cX6_setRoute 5 = .ok (.aload_n 0, 1) := by decide +kernel
theorem dX6_setRoute_6 : decode cX6_setRoute 6 = .ok (.aload_n 0, 1) := by decide +kernel
theorem dX6_setRoute_7 : decode cX6_setRoute 7 = .ok (.iload_n 1, 1) := by decide +kernel
theorem dX6_setRoute_8 : decode cX6_setRoute 8 = .ok (.invokevirtual 220, 3) := by decide +kernel
theorem dX6_setRoute_11 : decode cX6_setRoute 11 = .ok (.iconst 1, 1) := by decide +kernel
theorem dX6_setRoute_12 : decode cX6_setRoute 12 = .ok (.invokevirtual 62, 3) := by decide +kernel
theorem dX6_setRoute_15 : decode cX6_setRoute 15 = .ok (.ifCond .ne 15, 3) := by decide +kernel
theorem dX6_setRoute_18 : decode cX6_setRoute 18 = .ok (.aload_n 0, 1) := by decide +kernel
theorem dX6_setRoute_19 : decode cX6_setRoute 19 = .ok (.iload_n 2, 1) := by decide +kernel
theorem dX6_setRoute_20 : decode cX6_setRoute 20 = .ok (.invokestatic 223, 3) := by decide +kernel
theorem dX6_setRoute_23 : decode cX6_setRoute 23 = .ok (.iconst 2, 1) := by decide +kernel
theorem dX6_setRoute_24 : decode cX6_setRoute 24 = .ok (.invokevirtual 62, 3) := by decide +kernel
theorem dX6_setRoute_27 : decode cX6_setRoute 27 = .ok (.ifCond .eq 5, 3) := by decide +kernel
theorem dX6_setRoute_30 : decode cX6_setRoute 30 = .ok (.iconst 0, 1) := by decide +kernel
theorem dX6_setRoute_31 : decode cX6_setRoute 31 = .ok (.ireturn, 1) := by decide +kernel
theorem dX6_setRoute_32 : decode cX6_setRoute 32 = .ok (.aload_n 0, 1) := by decide +kernel
theorem dX6_setRoute_33 : decode cX6_setRoute 33 = .ok (.aload_n 0, 1) := by decide +kernel
theorem dX6_setRoute_34 : decode cX6_setRoute 34 = .ok (.iload_n 1, 1) := by decide +kernel
theorem dX6_setRoute_35 : decode cX6_setRoute 35 = .ok (.invokevirtual 214, 3) := by decide +kernel
theorem dX6_setRoute_38 : decode cX6_setRoute 38 = .ok (.ifCond .ne 28, 3) := by decide +kernel
theorem dX6_setRoute_41 : decode cX6_setRoute 41 = .ok (.aload_n 0, 1) := by decide +kernel
theorem dX6_setRoute_42 : decode cX6_setRoute 42 = .ok (.iload_n 1, 1) := by decide +kernel
theorem dX6_setRoute_43 : decode cX6_setRoute 43 = .ok (.invokevirtual 226, 3) := by decide +kernel
theorem dX6_setRoute_46 : decode cX6_setRoute 46 = .ok (.iconst 5, 1) := by decide +kernel
theorem dX6_setRoute_47 : decode cX6_setRoute 47 = .ok (.if_icmp .ge 19, 3) := by decide +kernel
theorem dX6_setRoute_50 : decode cX6_setRoute 50 = .ok (.aload_n 0, 1) := by decide +kernel
theorem dX6_setRoute_51 : decode cX6_setRoute 51 = .ok (.getfield 16, 3) := by decide +kernel
theorem dX6_setRoute_54 : decode cX6_setRoute 54 = .ok (.bipush 37, 2) := by decide +kernel
theorem dX6_setRoute_56 : decode cX6_setRoute 56 = .ok (.iaload, 1) := by decide +kernel
theorem dX6_setRoute_57 : decode cX6_setRoute 57 = .ok (.bipush 24, 2) := by decide +kernel
theorem dX6_setRoute_59 : decode cX6_setRoute 59 = .ok (.if_icmp .ge 7, 3) := by decide +kernel
theorem dX6_setRoute_62 : decode cX6_setRoute 62 = .ok (.iconst 1, 1) := by decide +kernel
theorem dX6_setRoute_63 : decode cX6_setRoute 63 = .ok (.goto 4, 3) := by decide +kernel
theorem dX6_setRoute_66 : decode cX6_setRoute 66 = .ok (.iconst 0, 1) := by decide +kernel
theorem dX6_setRoute_67 : decode cX6_setRoute 67 = .ok (.iconst 3, 1) := by decide +kernel
theorem dX6_setRoute_68 : decode cX6_setRoute 68 = .ok (.invokevirtual 62, 3) := by decide +kernel
theorem dX6_setRoute_71 : decode cX6_setRoute 71 = .ok (.ifCond .eq 5, 3) := by decide +kernel
theorem dX6_setRoute_74 : decode cX6_setRoute 74 = .ok (.iconst 0, 1) := by decide +kernel
theorem dX6_setRoute_75 : decode cX6_setRoute 75 = .ok (.ireturn, 1) := by decide +kernel
theorem dX6_setRoute_76 : decode cX6_setRoute 76 = .ok (.aload_n 0, 1) := by decide +kernel
theorem dX6_setRoute_77 : decode cX6_setRoute 77 = .ok (.invokevirtual 229, 3) := by decide +kernel
theorem dX6_setRoute_80 : decode cX6_setRoute 80 = .ok (.bipush 38, 2) := by decide +kernel
theorem dX6_setRoute_82 : decode cX6_setRoute 82 = .ok (.bipush 18, 2) := by decide +kernel
theorem dX6_setRoute_84 : decode cX6_setRoute 84 = .ok (.aload_n 0, 1) := by decide +kernel
theorem dX6_setRoute_85 : decode cX6_setRoute 85 = .ok (.getfield 16, 3) := by decide +kernel
theorem dX6_setRoute_88 : decode cX6_setRoute 88 = .ok (.bipush 37, 2) := by decide +kernel
theorem dX6_setRoute_90 : decode cX6_setRoute 90 = .ok (.iaload, 1) := by decide +kernel
theorem dX6_setRoute_91 : decode cX6_setRoute 91 = .ok (.imul, 1) := by decide +kernel
theorem dX6_setRoute_92 : decode cX6_setRoute 92 = .ok (.iadd, 1) := by decide +kernel
theorem dX6_setRoute_93 : decode cX6_setRoute 93 = .ok (.istore_n 3, 1) := by decide +kernel
theorem dX6_setRoute_94 : decode cX6_setRoute 94 = .ok (.aload_n 0, 1) := by decide +kernel
theorem dX6_setRoute_95 : decode cX6_setRoute 95 = .ok (.getfield 16, 3) := by decide +kernel
theorem dX6_setRoute_98 : decode cX6_setRoute 98 = .ok (.iload_n 3, 1) := by decide +kernel
theorem dX6_setRoute_99 : decode cX6_setRoute 99 = .ok (.iconst 0, 1) := by decide +kernel
theorem dX6_setRoute_100 : decode cX6_setRoute 100 = .ok (.iadd, 1) := by decide +kernel
theorem dX6_setRoute_101 : decode cX6_setRoute 101 = .ok (.iload_n 1, 1) := by decide +kernel
theorem dX6_setRoute_102 : decode cX6_setRoute 102 = .ok (.iastore, 1) := by decide +kernel
theorem dX6_setRoute_103 : decode cX6_setRoute 103 = .ok (.aload_n 0, 1) := by decide +kernel
theorem dX6_setRoute_104 : decode cX6_setRoute 104 = .ok (.getfield 16, 3) := by decide +kernel
theorem dX6_setRoute_107 : decode cX6_setRoute 107 = .ok (.iload_n 3, 1) := by decide +kernel
theorem dX6_setRoute_108 : decode cX6_setRoute 108 = .ok (.iconst 1, 1) := by decide +kernel
theorem dX6_setRoute_109 : decode cX6_setRoute 109 = .ok (.iadd, 1) := by decide +kernel
theorem dX6_setRoute_110 : decode cX6_setRoute 110 = .ok (.iload_n 2, 1) := by decide +kernel
theorem dX6_setRoute_111 : decode cX6_setRoute 111 = .ok (.iastore, 1) := by decide +kernel
theorem dX6_setRoute_112 : decode cX6_setRoute 112 = .ok (.aload_n 0, 1) := by decide +kernel
theorem dX6_setRoute_113 : decode cX6_setRoute 113 = .ok (.getfield 16, 3) := by decide +kernel
theorem dX6_setRoute_116 : decode cX6_setRoute 116 = .ok (.iload_n 3, 1) := by decide +kernel
theorem dX6_setRoute_117 : decode cX6_setRoute 117 = .ok (.iconst 2, 1) := by decide +kernel
theorem dX6_setRoute_118 : decode cX6_setRoute 118 = .ok (.iadd, 1) := by decide +kernel
theorem dX6_setRoute_119 : decode cX6_setRoute 119 = .ok (.aload_n 0, 1) := by decide +kernel
theorem dX6_setRoute_120 : decode cX6_setRoute 120 = .ok (.getfield 16, 3) := by decide +kernel
theorem dX6_setRoute_123 : decode cX6_setRoute 123 = .ok (.iconst 3, 1) := by decide +kernel
theorem dX6_setRoute_124 : decode cX6_setRoute 124 = .ok (.iaload, 1) := by decide +kernel
theorem dX6_setRoute_125 : decode cX6_setRoute 125 = .ok (.iastore, 1) := by decide +kernel
theorem dX6_setRoute_126 : decode cX6_setRoute 126 = .ok (.aload_n 0, 1) := by decide +kernel
theorem dX6_setRoute_127 : decode cX6_setRoute 127 = .ok (.getfield 16, 3) := by decide +kernel
theorem dX6_setRoute_130 : decode cX6_setRoute 130 = .ok (.iload_n 3, 1) := by decide +kernel
theorem dX6_setRoute_131 : decode cX6_setRoute 131 = .ok (.iconst 3, 1) := by decide +kernel
theorem dX6_setRoute_132 : decode cX6_setRoute 132 = .ok (.iadd, 1) := by decide +kernel
theorem dX6_setRoute_133 : decode cX6_setRoute 133 = .ok (.iconst 0, 1) := by decide +kernel
theorem dX6_setRoute_134 : decode cX6_setRoute 134 = .ok (.iastore, 1) := by decide +kernel
theorem dX6_setRoute_135 : decode cX6_setRoute 135 = .ok (.aload_n 0, 1) := by decide +kernel
theorem dX6_setRoute_136 : decode cX6_setRoute 136 = .ok (.getfield 16, 3) := by decide +kernel
theorem dX6_setRoute_139 : decode cX6_setRoute 139 = .ok (.iload_n 3, 1) := by decide +kernel
theorem dX6_setRoute_140 : decode cX6_setRoute 140 = .ok (.iconst 4, 1) := by decide +kernel
theorem dX6_setRoute_141 : decode cX6_setRoute 141 = .ok (.iadd, 1) := by decide +kernel
theorem dX6_setRoute_142 : decode cX6_setRoute 142 = .ok (.iconst 0, 1) := by decide +kernel
theorem dX6_setRoute_143 : decode cX6_setRoute 143 = .ok (.iastore, 1) := by decide +kernel
theorem dX6_setRoute_144 : decode cX6_setRoute 144 = .ok (.aload_n 0, 1) := by decide +kernel
theorem dX6_setRoute_145 : decode cX6_setRoute 145 = .ok (.getfield 16, 3) := by decide +kernel
theorem dX6_setRoute_148 : decode cX6_setRoute 148 = .ok (.iload_n 3, 1) := by decide +kernel
theorem dX6_setRoute_149 : decode cX6_setRoute 149 = .ok (.iconst 5, 1) := by decide +kernel
theorem dX6_setRoute_150 : decode cX6_setRoute 150 = .ok (.iadd, 1) := by decide +kernel
theorem dX6_setRoute_151 : decode cX6_setRoute 151 = .ok (.iconst 0, 1) := by decide +kernel
theorem dX6_setRoute_152 : decode cX6_setRoute 152 = .ok (.iastore, 1) := by decide +kernel
theorem dX6_setRoute_153 : decode cX6_setRoute 153 = .ok (.iconst 0, 1) := by decide +kernel
theorem dX6_setRoute_154 : decode cX6_setRoute 154 = .ok (.istore 4, 2) := by decide +kernel
theorem dX6_setRoute_156 : decode cX6_setRoute 156 = .ok (.iload 4, 2) := by decide +kernel
theorem dX6_setRoute_158 : decode cX6_setRoute 158 = .ok (.bipush 12, 2) := by decide +kernel
theorem dX6_setRoute_160 : decode cX6_setRoute 160 = .ok (.if_icmp .ge 22, 3) := by decide +kernel
theorem dX6_setRoute_163 : decode cX6_setRoute 163 = .ok (.aload_n 0, 1) := by decide +kernel
theorem dX6_setRoute_164 : decode cX6_setRoute 164 = .ok (.getfield 16, 3) := by decide +kernel
theorem dX6_setRoute_167 : decode cX6_setRoute 167 = .ok (.iload_n 3, 1) := by decide +kernel
theorem dX6_setRoute_168 : decode cX6_setRoute 168 = .ok (.bipush 6, 2) := by decide +kernel
theorem dX6_setRoute_170 : decode cX6_setRoute 170 = .ok (.iadd, 1) := by decide +kernel
theorem dX6_setRoute_171 : decode cX6_setRoute 171 = .ok (.iload 4, 2) := by decide +kernel
theorem dX6_setRoute_173 : decode cX6_setRoute 173 = .ok (.iadd, 1) := by decide +kernel
theorem dX6_setRoute_174 : decode cX6_setRoute 174 = .ok (.iconst (-1), 1) := by decide +kernel
theorem dX6_setRoute_175 : decode cX6_setRoute 175 = .ok (.iastore, 1) := by decide +kernel
theorem dX6_setRoute_176 : decode cX6_setRoute 176 = .ok (.iinc 4 1, 3) := by decide +kernel
theorem dX6_setRoute_179 : decode cX6_setRoute 179 = .ok (.goto (-23), 3) := by decide +kernel
theorem dX6_setRoute_182 : decode cX6_setRoute 182 = .ok (.aload_n 0, 1) := by decide +kernel
theorem dX6_setRoute_183 : decode cX6_setRoute 183 = .ok (.getfield 16, 3) := by decide +kernel
theorem dX6_setRoute_186 : decode cX6_setRoute 186 = .ok (.bipush 37, 2) := by decide +kernel
theorem dX6_setRoute_188 : decode cX6_setRoute 188 = .ok (.dup2, 1) := by decide +kernel
theorem dX6_setRoute_189 : decode cX6_setRoute 189 = .ok (.iaload, 1) := by decide +kernel
theorem dX6_setRoute_190 : decode cX6_setRoute 190 = .ok (.iconst 1, 1) := by decide +kernel
theorem dX6_setRoute_191 : decode cX6_setRoute 191 = .ok (.iadd, 1) := by decide +kernel
theorem dX6_setRoute_192 : decode cX6_setRoute 192 = .ok (.iastore, 1) := by decide +kernel
theorem dX6_setRoute_193 : decode cX6_setRoute 193 = .ok (.aload_n 0, 1) := by decide +kernel
theorem dX6_setRoute_194 : decode cX6_setRoute 194 = .ok (.getfield 16, 3) := by decide +kernel
theorem dX6_setRoute_197 : decode cX6_setRoute 197 = .ok (.bipush 37, 2) := by decide +kernel
theorem dX6_setRoute_199 : decode cX6_setRoute 199 = .ok (.iaload, 1) := by decide +kernel
theorem dX6_setRoute_200 : decode cX6_setRoute 200 = .ok (.iconst 1, 1) := by decide +kernel
theorem dX6_setRoute_201 : decode cX6_setRoute 201 = .ok (.isub, 1) := by decide +kernel
theorem dX6_setRoute_202 : decode cX6_setRoute 202 = .ok (.ireturn, 1) := by decide +kernel
theorem dX6_archive_0 : decode cX6_archive 0 = .ok (.aload_n 0, 1) := by decide +kernel
theorem dX6_archive_1 : decode cX6_archive 1 = .ok (.getfield 16, 3) := by decide +kernel
theorem dX6_archive_4 : decode cX6_archive 4 = .ok (.sipush 644, 3) := by decide +kernel
theorem dX6_archive_7 : decode cX6_archive 7 = .ok (.iaload, 1) := by decide +kernel
theorem dX6_archive_8 : decode cX6_archive 8 = .ok (.bipush 30, 2) := by decide +kernel
theorem dX6_archive_10 : decode cX6_archive 10 = .ok (.if_icmp .ne 46, 3) := by decide +kernel
theorem dX6_archive_13 : decode cX6_archive 13 = .ok (.sipush 645, 3) := by decide +kernel
theorem dX6_archive_16 : decode cX6_archive 16 = .ok (.istore_n 2, 1) := by decide +kernel
theorem dX6_archive_17 : decode cX6_archive 17 = .ok (.iload_n 2, 1) := by decide +kernel
theorem dX6_archive_18 : decode cX6_archive 18 = .ok (.sipush 761, 3) := by decide +kernel
theorem dX6_archive_21 : decode cX6_archive 21 = .ok (.if_icmp .ge 23, 3) := by decide +kernel
theorem dX6_archive_24 : decode cX6_archive 24 = .ok (.aload_n 0, 1) := by decide +kernel
theorem dX6_archive_25 : decode cX6_archive 25 = .ok (.getfield 16, 3) := by decide +kernel
theorem dX6_archive_28 : decode cX6_archive 28 = .ok (.iload_n 2, 1) := by decide +kernel
theorem dX6_archive_29 : decode cX6_archive 29 = .ok (.aload_n 0, 1) := by decide +kernel
theorem dX6_archive_30 : decode cX6_archive 30 = .ok (.getfield 16, 3) := by decide +kernel
theorem dX6_archive_33 : decode cX6_archive 33 = .ok (.iload_n 2, 1) := by decide +kernel
theorem dX6_archive_34 : decode cX6_archive 34 = .ok (.iconst 4, 1) := by decide +kernel
theorem dX6_archive_35 : decode cX6_archive 35 = .ok (.iadd, 1) := by decide +kernel
theorem dX6_archive_36 : decode cX6_archive 36 = .ok (.iaload, 1) := by decide +kernel
theorem dX6_archive_37 : decode cX6_archive 37 = .ok (.iastore, 1) := by decide +kernel
theorem dX6_archive_38 : decode cX6_archive 38 = .ok (.iinc 2 1, 3) := by decide +kernel
theorem dX6_archive_41 : decode cX6_archive 41 = .ok (.goto (-24), 3) := by decide +kernel
theorem dX6_archive_44 : decode cX6_archive 44 = .ok (.aload_n 0, 1) := by decide +kernel
theorem dX6_archive_45 : decode cX6_archive 45 = .ok (.getfield 16, 3) := by decide +kernel
theorem dX6_archive_48 : decode cX6_archive 48 = .ok (.sipush 644, 3) := by decide +kernel
theorem dX6_archive_51 : decode cX6_archive 51 = .ok (.dup2, 1) := by decide +kernel
theorem dX6_archive_52 : decode cX6_archive 52 = .ok (.iaload, 1) := by decide +kernel
theorem dX6_archive_53 : decode cX6_archive 53 = .ok (.iconst 1, 1) := by decide +kernel
theorem dX6_archive_54 : decode cX6_archive 54 = .ok (.isub, 1) := by decide +kernel
theorem dX6_archive_55 : decode cX6_archive 55 = .ok (.iastore, 1) := by decide +kernel
theorem dX6_archive_56 : decode cX6_archive 56 = .ok (.sipush 645, 3) := by decide +kernel
theorem dX6_archive_59 : decode cX6_archive 59 = .ok (.iconst 4, 1) := by decide +kernel
theorem dX6_archive_60 : decode cX6_archive 60 = .ok (.aload_n 0, 1) := by decide +kernel
theorem dX6_archive_61 : decode cX6_archive 61 = .ok (.getfield 16, 3) := by decide +kernel
theorem dX6_archive_64 : decode cX6_archive 64 = .ok (.sipush 644, 3) := by decide +kernel
theorem dX6_archive_67 : decode cX6_archive 67 = .ok (.iaload, 1) := by decide +kernel
theorem dX6_archive_68 : decode cX6_archive 68 = .ok (.imul, 1) := by decide +kernel
theorem dX6_archive_69 : decode cX6_archive 69 = .ok (.iadd, 1) := by decide +kernel
theorem dX6_archive_70 : decode cX6_archive 70 = .ok (.istore_n 2, 1) := by decide +kernel
theorem dX6_archive_71 : decode cX6_archive 71 = .ok (.aload_n 0, 1) := by decide +kernel
theorem dX6_archive_72 : decode cX6_archive 72 = .ok (.getfield 16, 3) := by decide +kernel
theorem dX6_archive_75 : decode cX6_archive 75 = .ok (.iload_n 2, 1) := by decide +kernel
theorem dX6_archive_76 : decode cX6_archive 76 = .ok (.aload_n 0, 1) := by decide +kernel
theorem dX6_archive_77 : decode cX6_archive 77 = .ok (.iload_n 1, 1) := by decide +kernel
theorem dX6_archive_78 : decode cX6_archive 78 = .ok (.iconst 0, 1) := by decide +kernel
theorem dX6_archive_79 : decode cX6_archive 79 = .ok (.invokevirtual 163, 3) := by decide +kernel
theorem dX6_archive_82 : decode cX6_archive 82 = .ok (.iastore, 1) := by decide +kernel
theorem dX6_archive_83 : decode cX6_archive 83 = .ok (.aload_n 0, 1) := by decide +kernel
theorem dX6_archive_84 : decode cX6_archive 84 = .ok (.getfield 16, 3) := by decide +kernel
theorem dX6_archive_87 : decode cX6_archive 87 = .ok (.iload_n 2, 1) := by decide +kernel
theorem dX6_archive_88 : decode cX6_archive 88 = .ok (.iconst 1, 1) := by decide +kernel
theorem dX6_archive_89 : decode cX6_archive 89 = .ok (.iadd, 1) := by decide +kernel
theorem dX6_archive_90 : decode cX6_archive 90 = .ok (.aload_n 0, 1) := by decide +kernel
theorem dX6_archive_91 : decode cX6_archive 91 = .ok (.iload_n 1, 1) := by decide +kernel
theorem dX6_archive_92 : decode cX6_archive 92 = .ok (.invokevirtual 232, 3) := by decide +kernel
theorem dX6_archive_95 : decode cX6_archive 95 = .ok (.iastore, 1) := by decide +kernel
theorem dX6_archive_96 : decode cX6_archive 96 = .ok (.aload_n 0, 1) := by decide +kernel
theorem dX6_archive_97 : decode cX6_archive 97 = .ok (.getfield 16, 3) := by decide +kernel
theorem dX6_archive_100 : decode cX6_archive 100 = .ok (.iload_n 2, 1) := by decide +kernel
theorem dX6_archive_101 : decode cX6_archive 101 = .ok (.iconst 2, 1) := by decide +kernel
theorem dX6_archive_102 : decode cX6_archive 102 = .ok (.iadd, 1) := by decide +kernel
theorem dX6_archive_103 : decode cX6_archive 103 = .ok (.aload_n 0, 1) := by decide +kernel
theorem dX6_archive_104 : decode cX6_archive 104 = .ok (.getfield 16, 3) := by decide +kernel
theorem dX6_archive_107 : decode cX6_archive 107 = .ok (.iconst 3, 1) := by decide +kernel
theorem dX6_archive_108 : decode cX6_archive 108 = .ok (.iaload, 1) := by decide +kernel
theorem dX6_archive_109 : decode cX6_archive 109 = .ok (.iastore, 1) := by decide +kernel
theorem dX6_archive_110 : decode cX6_archive 110 = .ok (.aload_n 0, 1) := by decide +kernel
theorem dX6_archive_111 : decode cX6_archive 111 = .ok (.getfield 16, 3) := by decide +kernel
theorem dX6_archive_114 : decode cX6_archive 114 = .ok (.iload_n 2, 1) := by decide +kernel
theorem dX6_archive_115 : decode cX6_archive 115 = .ok (.iconst 3, 1) := by decide +kernel
theorem dX6_archive_116 : decode cX6_archive 116 = .ok (.iadd, 1) := by decide +kernel
theorem dX6_archive_117 : decode cX6_archive 117 = .ok (.aload_n 0, 1) := by decide +kernel
theorem dX6_archive_118 : decode cX6_archive 118 = .ok (.iload_n 1, 1) := by decide +kernel
theorem dX6_archive_119 : decode cX6_archive 119 = .ok (.iconst 4, 1) := by decide +kernel
theorem dX6_archive_120 : decode cX6_archive 120 = .ok (.invokevirtual 163, 3) := by decide +kernel
theorem dX6_archive_123 : decode cX6_archive 123 = .ok (.iastore, 1) := by decide +kernel
theorem dX6_archive_124 : decode cX6_archive 124 = .ok (.aload_n 0, 1) := by decide +kernel
theorem dX6_archive_125 : decode cX6_archive 125 = .ok (.getfield 16, 3) := by decide +kernel
theorem dX6_archive_128 : decode cX6_archive 128 = .ok (.sipush 644, 3) := by decide +kernel
theorem dX6_archive_131 : decode cX6_archive 131 = .ok (.dup2, 1) := by decide +kernel
theorem dX6_archive_132 : decode cX6_archive 132 = .ok (.iaload, 1) := by decide +kernel
theorem dX6_archive_133 : decode cX6_archive 133 = .ok (.iconst 1, 1) := by decide +kernel
theorem dX6_archive_134 : decode cX6_archive 134 = .ok (.iadd, 1) := by decide +kernel
theorem dX6_archive_135 : decode cX6_archive 135 = .ok (.iastore, 1) := by decide +kernel
theorem dX6_archive_136 : decode cX6_archive 136 = .ok (.return_, 1) := by decide +kernel
theorem dX6_takeOff_0 : decode cX6_takeOff 0 = .ok (.aload_n 0, 1) := by decide +kernel
theorem dX6_takeOff_1 : decode cX6_takeOff 1 = .ok (.iload_n 1, 1) := by decide +kernel
theorem dX6_takeOff_2 : decode cX6_takeOff 2 = .ok (.invokevirtual 235, 3) := by decide +kernel
theorem dX6_takeOff_5 : decode cX6_takeOff 5 = .ok (.aload_n 0, 1) := by decide +kernel
theorem dX6_takeOff_6 : decode cX6_takeOff 6 = .ok (.getfield 16, 3) := by decide +kernel
theorem dX6_takeOff_9 : decode cX6_takeOff 9 = .ok (.bipush 37, 2) := by decide +kernel
theorem dX6_takeOff_11 : decode cX6_takeOff 11 = .ok (.dup2, 1) := by decide +kernel
theorem dX6_takeOff_12 : decode cX6_takeOff 12 = .ok (.iaload, 1) := by decide +kernel
theorem dX6_takeOff_13 : decode cX6_takeOff 13 = .ok (.iconst 1, 1) := by decide +kernel
theorem dX6_takeOff_14 : decode cX6_takeOff 14 = .ok (.isub, 1) := by decide +kernel
theorem dX6_takeOff_15 : decode cX6_takeOff 15 = .ok (.iastore, 1) := by decide +kernel
theorem dX6_takeOff_16 : decode cX6_takeOff 16 = .ok (.bipush 38, 2) := by decide +kernel
theorem dX6_takeOff_18 : decode cX6_takeOff 18 = .ok (.bipush 18, 2) := by decide +kernel
theorem dX6_takeOff_20 : decode cX6_takeOff 20 = .ok (.iload_n 1, 1) := by decide +kernel
theorem dX6_takeOff_21 : decode cX6_takeOff 21 = .ok (.imul, 1) := by decide +kernel
theorem dX6_takeOff_22 : decode cX6_takeOff 22 = .ok (.iadd, 1) := by decide +kernel
theorem dX6_takeOff_23 : decode cX6_takeOff 23 = .ok (.istore_n 2, 1) := by decide +kernel
theorem dX6_takeOff_24 : decode cX6_takeOff 24 = .ok (.iload_n 2, 1) := by decide +kernel
theorem dX6_takeOff_25 : decode cX6_takeOff 25 = .ok (.bipush 38, 2) := by decide +kernel
theorem dX6_takeOff_27 : decode cX6_takeOff 27 = .ok (.bipush 18, 2) := by decide +kernel
theorem dX6_takeOff_29 : decode cX6_takeOff 29 = .ok (.aload_n 0, 1) := by decide +kernel
theorem dX6_takeOff_30 : decode cX6_takeOff 30 = .ok (.getfield 16, 3) := by decide +kernel
theorem dX6_takeOff_33 : decode cX6_takeOff 33 = .ok (.bipush 37, 2) := by decide +kernel
theorem dX6_takeOff_35 : decode cX6_takeOff 35 = .ok (.iaload, 1) := by decide +kernel
theorem dX6_takeOff_36 : decode cX6_takeOff 36 = .ok (.imul, 1) := by decide +kernel
theorem dX6_takeOff_37 : decode cX6_takeOff 37 = .ok (.iadd, 1) := by decide +kernel
theorem dX6_takeOff_38 : decode cX6_takeOff 38 = .ok (.if_icmp .ge 24, 3) := by decide +kernel
theorem dX6_takeOff_41 : decode cX6_takeOff 41 = .ok (.aload_n 0, 1) := by decide +kernel
theorem dX6_takeOff_42 : decode cX6_takeOff 42 = .ok (.getfield 16, 3) := by decide +kernel
theorem dX6_takeOff_45 : decode cX6_takeOff 45 = .ok (.iload_n 2, 1) := by decide +kernel
theorem dX6_takeOff_46 : decode cX6_takeOff 46 = .ok (.aload_n 0, 1) := by decide +kernel
theorem dX6_takeOff_47 : decode cX6_takeOff 47 = .ok (.getfield 16, 3) := by decide +kernel
theorem dX6_takeOff_50 : decode cX6_takeOff 50 = .ok (.iload_n 2, 1) := by decide +kernel
theorem dX6_takeOff_51 : decode cX6_takeOff 51 = .ok (.bipush 18, 2) := by decide +kernel
theorem dX6_takeOff_53 : decode cX6_takeOff 53 = .ok (.iadd, 1) := by decide +kernel
theorem dX6_takeOff_54 : decode cX6_takeOff 54 = .ok (.iaload, 1) := by decide +kernel
theorem dX6_takeOff_55 : decode cX6_takeOff 55 = .ok (.iastore, 1) := by decide +kernel
theorem dX6_takeOff_56 : decode cX6_takeOff 56 = .ok (.iinc 2 1, 3) := by decide +kernel
theorem dX6_takeOff_59 : decode cX6_takeOff 59 = .ok (.goto (-35), 3) := by decide +kernel
theorem dX6_takeOff_62 : decode cX6_takeOff 62 = .ok (.return_, 1) := by decide +kernel
theorem dX6_removeRoute_0 : decode cX6_removeRoute 0 = .ok (.aload_n 0, 1) := by decide +kernel
theorem dX6_removeRoute_1 : decode cX6_removeRoute 1 = .ok (.iconst 0, 1) := by decide +kernel
theorem dX6_removeRoute_2 : decode cX6_removeRoute 2 = .ok (.putfield 51, 3) := by decide +kernel
theorem dX6_removeRoute_5 : decode cX6_removeRoute 5 = .ok (.aload_n 0, 1) := by decide +kernel
theorem dX6_removeRoute_6 : decode cX6_removeRoute 6 = .ok (.aload_n 0, 1) := by decide +kernel
theorem dX6_removeRoute_7 : decode cX6_removeRoute 7 = .ok (.iload_n 1, 1) := by decide +kernel
theorem dX6_removeRoute_8 : decode cX6_removeRoute 8 = .ok (.invokevirtual 238, 3) := by decide +kernel
theorem dX6_removeRoute_11 : decode cX6_removeRoute 11 = .ok (.iconst 1, 1) := by decide +kernel
theorem dX6_removeRoute_12 : decode cX6_removeRoute 12 = .ok (.invokevirtual 62, 3) := by decide +kernel
theorem dX6_removeRoute_15 : decode cX6_removeRoute 15 = .ok (.ifCond .eq 5, 3) := by decide +kernel
theorem dX6_removeRoute_18 : decode cX6_removeRoute 18 = .ok (.iconst 0, 1) := by decide +kernel
theorem dX6_removeRoute_19 : decode cX6_removeRoute 19 = .ok (.ireturn, 1) := by decide +kernel
theorem dX6_removeRoute_20 : decode cX6_removeRoute 20 = .ok (.aload_n 0, 1) := by decide +kernel
theorem dX6_removeRoute_21 : decode cX6_removeRoute 21 = .ok (.iload_n 1, 1) := by decide +kernel
theorem dX6_removeRoute_22 : decode cX6_removeRoute 22 = .ok (.invokevirtual 232, 3) := by decide +kernel
theorem dX6_removeRoute_25 : decode cX6_removeRoute 25 = .ok (.istore_n 2, 1) := by decide +kernel
theorem dX6_removeRoute_26 : decode cX6_removeRoute 26 = .ok (.aload_n 0, 1) := by decide +kernel
theorem dX6_removeRoute_27 : decode cX6_removeRoute 27 = .ok (.invokevirtual 229, 3) := by decide +kernel
theorem dX6_removeRoute_30 : decode cX6_removeRoute 30 = .ok (.aload_n 0, 1) := by decide +kernel
theorem dX6_removeRoute_31 : decode cX6_removeRoute 31 = .ok (.iload_n 1, 1) := by decide +kernel
theorem dX6_removeRoute_32 : decode cX6_removeRoute 32 = .ok (.invokevirtual 241, 3) := by decide +kernel
theorem dX6_removeRoute_35 : decode cX6_removeRoute 35 = .ok (.iload_n 2, 1) := by decide +kernel
theorem dX6_removeRoute_36 : decode cX6_removeRoute 36 = .ok (.ireturn, 1) := by decide +kernel
theorem dX6_climb_0 : decode cX6_climb 0 = .ok (.aload_n 0, 1) := by decide +kernel
theorem dX6_climb_1 : decode cX6_climb 1 = .ok (.iconst 0, 1) := by decide +kernel
theorem dX6_climb_2 : decode cX6_climb 2 = .ok (.putfield 51, 3) := by decide +kernel
theorem dX6_climb_5 : decode cX6_climb 5 = .ok (.aload_n 0, 1) := by decide +kernel
theorem dX6_climb_6 : decode cX6_climb 6 = .ok (.aload_n 0, 1) := by decide +kernel
theorem dX6_climb_7 : decode cX6_climb 7 = .ok (.iload_n 1, 1) := by decide +kernel
theorem dX6_climb_8 : decode cX6_climb 8 = .ok (.invokevirtual 244, 3) := by decide +kernel
theorem dX6_climb_11 : decode cX6_climb 11 = .ok (.ifCond .eq 15, 3) := by decide +kernel
theorem dX6_climb_14 : decode cX6_climb 14 = .ok (.aload_n 0, 1) := by decide +kernel
theorem dX6_climb_15 : decode cX6_climb 15 = .ok (.iload_n 2, 1) := by decide +kernel
theorem dX6_climb_16 : decode cX6_climb 16 = .ok (.invokevirtual 238, 3) := by decide +kernel
theorem dX6_climb_19 : decode cX6_climb 19 = .ok (.ifCond .eq 7, 3) := by decide +kernel
theorem dX6_climb_22 : decode cX6_climb 22 = .ok (.iconst 1, 1) := by decide +kernel
theorem dX6_climb_23 : decode cX6_climb 23 = .ok (.goto 4, 3) := by decide +kernel
theorem dX6_climb_26 : decode cX6_climb 26 = .ok (.iconst 0, 1) := by decide +kernel
theorem dX6_climb_27 : decode cX6_climb 27 = .ok (.iconst 1, 1) := by decide +kernel
theorem dX6_climb_28 : decode cX6_climb 28 = .ok (.invokevirtual 62, 3) := by decide +kernel
theorem dX6_climb_31 : decode cX6_climb 31 = .ok (.ifCond .ne 17, 3) := by decide +kernel
theorem dX6_climb_34 : decode cX6_climb 34 = .ok (.aload_n 0, 1) := by decide +kernel
theorem dX6_climb_35 : decode cX6_climb 35 = .ok (.aload_n 0, 1) := by decide +kernel
theorem dX6_climb_36 : decode cX6_climb 36 = .ok (.iload_n 1, 1) := by decide +kernel
theorem dX6_climb_37 : decode cX6_climb 37 = .ok (.iload_n 2, 1) := by decide +kernel
theorem dX6_climb_38 : decode cX6_climb 38 = .ok (.invokevirtual 247, 3) := by decide +kernel
theorem dX6_climb_41 : decode cX6_climb 41 = .ok (.iconst 2, 1) := by decide +kernel
theorem dX6_climb_42 : decode cX6_climb 42 = .ok (.invokevirtual 62, 3) := by decide +kernel
theorem dX6_climb_45 : decode cX6_climb 45 = .ok (.ifCond .eq 5, 3) := by decide +kernel
theorem dX6_climb_48 : decode cX6_climb 48 = .ok (.iconst 0, 1) := by decide +kernel
theorem dX6_climb_49 : decode cX6_climb 49 = .ok (.ireturn, 1) := by decide +kernel
theorem dX6_climb_50 : decode cX6_climb 50 = .ok (.iconst 1, 1) := by decide +kernel
theorem dX6_climb_51 : decode cX6_climb 51 = .ok (.aload_n 0, 1) := by decide +kernel
theorem dX6_climb_52 : decode cX6_climb 52 = .ok (.iload_n 2, 1) := by decide +kernel
theorem dX6_climb_53 : decode cX6_climb 53 = .ok (.invokevirtual 232, 3) := by decide +kernel
theorem dX6_climb_56 : decode cX6_climb 56 = .ok (.bipush 10, 2) := by decide +kernel
theorem dX6_climb_58 : decode cX6_climb 58 = .ok (.idiv, 1) := by decide +kernel
theorem dX6_climb_59 : decode cX6_climb 59 = .ok (.iadd, 1) := by decide +kernel
theorem dX6_climb_60 : decode cX6_climb 60 = .ok (.istore_n 3, 1) := by decide +kernel
theorem dX6_climb_61 : decode cX6_climb 61 = .ok (.aload_n 0, 1) := by decide +kernel
theorem dX6_climb_62 : decode cX6_climb 62 = .ok (.invokevirtual 229, 3) := by decide +kernel
theorem dX6_climb_65 : decode cX6_climb 65 = .ok (.bipush 38, 2) := by decide +kernel
theorem dX6_climb_67 : decode cX6_climb 67 = .ok (.bipush 18, 2) := by decide +kernel
theorem dX6_climb_69 : decode cX6_climb 69 = .ok (.iload_n 2, 1) := by decide +kernel
theorem dX6_climb_70 : decode cX6_climb 70 = .ok (.imul, 1) := by decide +kernel
theorem dX6_climb_71 : decode cX6_climb 71 = .ok (.iadd, 1) := by decide +kernel
theorem dX6_climb_72 : decode cX6_climb 72 = .ok (.istore 4, 2) := by decide +kernel
theorem dX6_climb_74 : decode cX6_climb 74 = .ok (.aload_n 0, 1) := by decide +kernel
theorem dX6_climb_75 : decode cX6_climb 75 = .ok (.getfield 16, 3) := by decide +kernel
theorem dX6_climb_78 : decode cX6_climb 78 = .ok (.iload 4, 2) := by decide +kernel
theorem dX6_climb_80 : decode cX6_climb 80 = .ok (.iconst 3, 1) := by decide +kernel
theorem dX6_climb_81 : decode cX6_climb 81 = .ok (.iadd, 1) := by decide +kernel
theorem dX6_climb_82 : decode cX6_climb 82 = .ok (.dup2, 1) := by decide +kernel
theorem dX6_climb_83 : decode cX6_climb 83 = .ok (.iaload, 1) := by decide +kernel
theorem dX6_climb_84 : decode cX6_climb 84 = .ok (.iload_n 3, 1) := by decide +kernel
theorem dX6_climb_85 : decode cX6_climb 85 = .ok (.iadd, 1) := by decide +kernel
theorem dX6_climb_86 : decode cX6_climb 86 = .ok (.iastore, 1) := by decide +kernel
theorem dX6_climb_87 : decode cX6_climb 87 = .ok (.aload_n 0, 1) := by decide +kernel
theorem dX6_climb_88 : decode cX6_climb 88 = .ok (.getfield 16, 3) := by decide +kernel
theorem dX6_climb_91 : decode cX6_climb 91 = .ok (.iload 4, 2) := by decide +kernel
theorem dX6_climb_93 : decode cX6_climb 93 = .ok (.iconst 4, 1) := by decide +kernel
theorem dX6_climb_94 : decode cX6_climb 94 = .ok (.iadd, 1) := by decide +kernel
theorem dX6_climb_95 : decode cX6_climb 95 = .ok (.dup2, 1) := by decide +kernel
theorem dX6_climb_96 : decode cX6_climb 96 = .ok (.iaload, 1) := by decide +kernel
theorem dX6_climb_97 : decode cX6_climb 97 = .ok (.iconst 1, 1) := by decide +kernel
theorem dX6_climb_98 : decode cX6_climb 98 = .ok (.iadd, 1) := by decide +kernel
theorem dX6_climb_99 : decode cX6_climb 99 = .ok (.iastore, 1) := by decide +kernel
theorem dX6_climb_100 : decode cX6_climb 100 = .ok (.aload_n 0, 1) := by decide +kernel
theorem dX6_climb_101 : decode cX6_climb 101 = .ok (.getfield 16, 3) := by decide +kernel
theorem dX6_climb_104 : decode cX6_climb 104 = .ok (.iload 4, 2) := by decide +kernel
theorem dX6_climb_106 : decode cX6_climb 106 = .ok (.iconst 5, 1) := by decide +kernel
theorem dX6_climb_107 : decode cX6_climb 107 = .ok (.iadd, 1) := by decide +kernel
theorem dX6_climb_108 : decode cX6_climb 108 = .ok (.dup2, 1) := by decide +kernel
theorem dX6_climb_109 : decode cX6_climb 109 = .ok (.iaload, 1) := by decide +kernel
theorem dX6_climb_110 : decode cX6_climb 110 = .ok (.iconst 1, 1) := by decide +kernel
theorem dX6_climb_111 : decode cX6_climb 111 = .ok (.iload_n 1, 1) := by decide +kernel
theorem dX6_climb_112 : decode cX6_climb 112 = .ok (.ishl, 1) := by decide +kernel
theorem dX6_climb_113 : decode cX6_climb 113 = .ok (.ior, 1) := by decide +kernel
theorem dX6_climb_114 : decode cX6_climb 114 = .ok (.iastore, 1) := by decide +kernel
theorem dX6_climb_115 : decode cX6_climb 115 = .ok (.aload_n 0, 1) := by decide +kernel
theorem dX6_climb_116 : decode cX6_climb 116 = .ok (.iload_n 1, 1) := by decide +kernel
theorem dX6_climb_117 : decode cX6_climb 117 = .ok (.iconst 2, 1) := by decide +kernel
theorem dX6_climb_118 : decode cX6_climb 118 = .ok (.aload_n 0, 1) := by decide +kernel
theorem dX6_climb_119 : decode cX6_climb 119 = .ok (.iload_n 1, 1) := by decide +kernel
theorem dX6_climb_120 : decode cX6_climb 120 = .ok (.iconst 2, 1) := by decide +kernel
theorem dX6_climb_121 : decode cX6_climb 121 = .ok (.invokevirtual 207, 3) := by decide +kernel
theorem dX6_climb_124 : decode cX6_climb 124 = .ok (.iconst 1, 1) := by decide +kernel
theorem dX6_climb_125 : decode cX6_climb 125 = .ok (.iadd, 1) := by decide +kernel
theorem dX6_climb_126 : decode cX6_climb 126 = .ok (.invokevirtual 250, 3) := by decide +kernel
theorem dX6_climb_129 : decode cX6_climb 129 = .ok (.aload_n 0, 1) := by decide +kernel
theorem dX6_climb_130 : decode cX6_climb 130 = .ok (.getfield 16, 3) := by decide +kernel
theorem dX6_climb_133 : decode cX6_climb 133 = .ok (.iload 4, 2) := by decide +kernel
theorem dX6_climb_135 : decode cX6_climb 135 = .ok (.iconst 3, 1) := by decide +kernel
theorem dX6_climb_136 : decode cX6_climb 136 = .ok (.iadd, 1) := by decide +kernel
theorem dX6_climb_137 : decode cX6_climb 137 = .ok (.iaload, 1) := by decide +kernel
theorem dX6_climb_138 : decode cX6_climb 138 = .ok (.ireturn, 1) := by decide +kernel
theorem dX6_vote_0 : decode cX6_vote 0 = .ok (.aload_n 0, 1) := by decide +kernel
theorem dX6_vote_1 : decode cX6_vote 1 = .ok (.iconst 0, 1) := by decide +kernel
theorem dX6_vote_2 : decode cX6_vote 2 = .ok (.putfield 51, 3) := by decide +kernel
theorem dX6_vote_5 : decode cX6_vote 5 = .ok (.aload_n 0, 1) := by decide +kernel
theorem dX6_vote_6 : decode cX6_vote 6 = .ok (.aload_n 0, 1) := by decide +kernel
theorem dX6_vote_7 : decode cX6_vote 7 = .ok (.iload_n 1, 1) := by decide +kernel
theorem dX6_vote_8 : decode cX6_vote 8 = .ok (.invokevirtual 244, 3) := by decide +kernel
theorem dX6_vote_11 : decode cX6_vote 11 = .ok (.ifCond .eq 15, 3) := by decide +kernel
theorem dX6_vote_14 : decode cX6_vote 14 = .ok (.aload_n 0, 1) := by decide +kernel
theorem dX6_vote_15 : decode cX6_vote 15 = .ok (.iload_n 2, 1) := by decide +kernel
theorem dX6_vote_16 : decode cX6_vote 16 = .ok (.invokevirtual 238, 3) := by decide +kernel
theorem dX6_vote_19 : decode cX6_vote 19 = .ok (.ifCond .eq 7, 3) := by decide +kernel
theorem dX6_vote_22 : decode cX6_vote 22 = .ok (.iconst 1, 1) := by decide +kernel
theorem dX6_vote_23 : decode cX6_vote 23 = .ok (.goto 4, 3) := by decide +kernel
theorem dX6_vote_26 : decode cX6_vote 26 = .ok (.iconst 0, 1) := by decide +kernel
theorem dX6_vote_27 : decode cX6_vote 27 = .ok (.iconst 1, 1) := by decide +kernel
theorem dX6_vote_28 : decode cX6_vote 28 = .ok (.invokevirtual 62, 3) := by decide +kernel
theorem dX6_vote_31 : decode cX6_vote 31 = .ok (.ifCond .ne 33, 3) := by decide +kernel
theorem dX6_vote_34 : decode cX6_vote 34 = .ok (.aload_n 0, 1) := by decide +kernel
theorem dX6_vote_35 : decode cX6_vote 35 = .ok (.iload_n 3, 1) := by decide +kernel
theorem dX6_vote_36 : decode cX6_vote 36 = .ok (.invokestatic 223, 3) := by decide +kernel
theorem dX6_vote_39 : decode cX6_vote 39 = .ok (.iconst 2, 1) := by decide +kernel
theorem dX6_vote_40 : decode cX6_vote 40 = .ok (.invokevirtual 62, 3) := by decide +kernel
theorem dX6_vote_43 : decode cX6_vote 43 = .ok (.ifCond .ne 21, 3) := by decide +kernel
theorem dX6_vote_46 : decode cX6_vote 46 = .ok (.aload_n 0, 1) := by decide +kernel
theorem dX6_vote_47 : decode cX6_vote 47 = .ok (.aload_n 0, 1) := by decide +kernel
theorem dX6_vote_48 : decode cX6_vote 48 = .ok (.iload_n 2, 1) := by decide +kernel
theorem dX6_vote_49 : decode cX6_vote 49 = .ok (.iconst 5, 1) := by decide +kernel
theorem dX6_vote_50 : decode cX6_vote 50 = .ok (.invokevirtual 163, 3) := by decide +kernel
theorem dX6_vote_53 : decode cX6_vote 53 = .ok (.iload_n 1, 1) := by decide +kernel
theorem dX6_vote_54 : decode cX6_vote 54 = .ok (.invokestatic 253, 3) := by decide +kernel
theorem dX6_vote_57 : decode cX6_vote 57 = .ok (.iconst 3, 1) := by decide +kernel
theorem dX6_vote_58 : decode cX6_vote 58 = .ok (.invokevirtual 62, 3) := by decide +kernel
theorem dX6_vote_61 : decode cX6_vote 61 = .ok (.ifCond .eq 5, 3) := by decide +kernel
theorem dX6_vote_64 : decode cX6_vote 64 = .ok (.iconst 0, 1) := by decide +kernel
theorem dX6_vote_65 : decode cX6_vote 65 = .ok (.ireturn, 1) := by decide +kernel
theorem dX6_vote_66 : decode cX6_vote 66 = .ok (.aload_n 0, 1) := by decide +kernel
theorem dX6_vote_67 : decode cX6_vote 67 = .ok (.invokevirtual 229, 3) := by decide +kernel
theorem dX6_vote_70 : decode cX6_vote 70 = .ok (.aload_n 0, 1) := by decide +kernel
theorem dX6_vote_71 : decode cX6_vote 71 = .ok (.getfield 16, 3) := by decide +kernel
theorem dX6_vote_74 : decode cX6_vote 74 = .ok (.bipush 38, 2) := by decide +kernel
theorem dX6_vote_76 : decode cX6_vote 76 = .ok (.bipush 18, 2) := by decide +kernel
theorem dX6_vote_78 : decode cX6_vote 78 = .ok (.iload_n 2, 1) := by decide +kernel
theorem dX6_vote_79 : decode cX6_vote 79 = .ok (.imul, 1) := by decide +kernel
theorem dX6_vote_80 : decode cX6_vote 80 = .ok (.iadd, 1) := by decide +kernel
theorem dX6_vote_81 : decode cX6_vote 81 = .ok (.bipush 6, 2) := by decide +kernel
theorem dX6_vote_83 : decode cX6_vote 83 = .ok (.iadd, 1) := by decide +kernel
theorem dX6_vote_84 : decode cX6_vote 84 = .ok (.iload_n 1, 1) := by decide +kernel
theorem dX6_vote_85 : decode cX6_vote 85 = .ok (.iadd, 1) := by decide +kernel
theorem dX6_vote_86 : decode cX6_vote 86 = .ok (.iload_n 3, 1) := by decide +kernel
theorem dX6_vote_87 : decode cX6_vote 87 = .ok (.iastore, 1) := by decide +kernel
theorem dX6_vote_88 : decode cX6_vote 88 = .ok (.aload_n 0, 1) := by decide +kernel
theorem dX6_vote_89 : decode cX6_vote 89 = .ok (.iload_n 2, 1) := by decide +kernel
theorem dX6_vote_90 : decode cX6_vote 90 = .ok (.invokevirtual 232, 3) := by decide +kernel
theorem dX6_vote_93 : decode cX6_vote 93 = .ok (.ireturn, 1) := by decide +kernel
theorem dX6_mayLend_0 : decode cX6_mayLend 0 = .ok (.aload_n 0, 1) := by decide +kernel
theorem dX6_mayLend_1 : decode cX6_mayLend 1 = .ok (.iload_n 1, 1) := by decide +kernel
theorem dX6_mayLend_2 : decode cX6_mayLend 2 = .ok (.iconst 0, 1) := by decide +kernel
theorem dX6_mayLend_3 : decode cX6_mayLend 3 = .ok (.invokevirtual 207, 3) := by decide +kernel
theorem dX6_mayLend_6 : decode cX6_mayLend 6 = .ok (.aload_n 0, 1) := by decide +kernel
theorem dX6_mayLend_7 : decode cX6_mayLend 7 = .ok (.iload_n 2, 1) := by decide +kernel
theorem dX6_mayLend_8 : decode cX6_mayLend 8 = .ok (.iconst 0, 1) := by decide +kernel
theorem dX6_mayLend_9 : decode cX6_mayLend 9 = .ok (.invokevirtual 198, 3) := by decide +kernel
theorem dX6_mayLend_12 : decode cX6_mayLend 12 = .ok (.if_icmp .ne 7, 3) := by decide +kernel
theorem dX6_mayLend_15 : decode cX6_mayLend 15 = .ok (.iconst 1, 1) := by decide +kernel
theorem dX6_mayLend_16 : decode cX6_mayLend 16 = .ok (.goto 4, 3) := by decide +kernel
theorem dX6_mayLend_19 : decode cX6_mayLend 19 = .ok (.iconst 0, 1) := by decide +kernel
theorem dX6_mayLend_20 : decode cX6_mayLend 20 = .ok (.istore_n 3, 1) := by decide +kernel
theorem dX6_mayLend_21 : decode cX6_mayLend 21 = .ok (.aload_n 0, 1) := by decide +kernel
theorem dX6_mayLend_22 : decode cX6_mayLend 22 = .ok (.iload_n 1, 1) := by decide +kernel
theorem dX6_mayLend_23 : decode cX6_mayLend 23 = .ok (.iconst 3, 1) := by decide +kernel
theorem dX6_mayLend_24 : decode cX6_mayLend 24 = .ok (.invokevirtual 207, 3) := by decide +kernel
theorem dX6_mayLend_27 : decode cX6_mayLend 27 = .ok (.iconst (-1), 1) := by decide +kernel
theorem dX6_mayLend_28 : decode cX6_mayLend 28 = .ok (.if_icmp .ne 33, 3) := by decide +kernel
theorem dX6_mayLend_31 : decode cX6_mayLend 31 = .ok (.iload_n 3, 1) := by decide +kernel
theorem dX6_mayLend_32 : decode cX6_mayLend 32 = .ok (.ifCond .eq 29, 3) := by decide +kernel
theorem dX6_mayLend_35 : decode cX6_mayLend 35 = .ok (.aload_n 0, 1) := by decide +kernel
theorem dX6_mayLend_36 : decode cX6_mayLend 36 = .ok (.iload_n 2, 1) := by decide +kernel
theorem dX6_mayLend_37 : decode cX6_mayLend 37 = .ok (.invokevirtual 256, 3) := by decide +kernel
theorem dX6_mayLend_40 : decode cX6_mayLend 40 = .ok (.ifCond .ne 21, 3) := by decide +kernel
theorem dX6_mayLend_43 : decode cX6_mayLend 43 = .ok (.aload_n 0, 1) := by decide +kernel
theorem dX6_mayLend_44 : decode cX6_mayLend 44 = .ok (.iload_n 2, 1) := by decide +kernel
theorem dX6_mayLend_45 : decode cX6_mayLend 45 = .ok (.aload_n 0, 1) := by decide +kernel
theorem dX6_mayLend_46 : decode cX6_mayLend 46 = .ok (.getfield 16, 3) := by decide +kernel
theorem dX6_mayLend_49 : decode cX6_mayLend 49 = .ok (.iconst 3, 1) := by decide +kernel
theorem dX6_mayLend_50 : decode cX6_mayLend 50 = .ok (.iaload, 1) := by decide +kernel
theorem dX6_mayLend_51 : decode cX6_mayLend 51 = .ok (.invokevirtual 210, 3) := by decide +kernel
theorem dX6_mayLend_54 : decode cX6_mayLend 54 = .ok (.ifCond .eq 7, 3) := by decide +kernel
theorem dX6_mayLend_57 : decode cX6_mayLend 57 = .ok (.iconst 1, 1) := by decide +kernel
theorem dX6_mayLend_58 : decode cX6_mayLend 58 = .ok (.goto 4, 3) := by decide +kernel
theorem dX6_mayLend_61 : decode cX6_mayLend 61 = .ok (.iconst 0, 1) := by decide +kernel
theorem dX6_mayLend_62 : decode cX6_mayLend 62 = .ok (.ireturn, 1) := by decide +kernel
theorem dX6_lend_0 : decode cX6_lend 0 = .ok (.aload_n 0, 1) := by decide +kernel
theorem dX6_lend_1 : decode cX6_lend 1 = .ok (.iconst 0, 1) := by decide +kernel
theorem dX6_lend_2 : decode cX6_lend 2 = .ok (.putfield 51, 3) := by decide +kernel
theorem dX6_lend_5 : decode cX6_lend 5 = .ok (.aload_n 0, 1) := by decide +kernel
theorem dX6_lend_6 : decode cX6_lend 6 = .ok (.aload_n 0, 1) := by decide +kernel
theorem dX6_lend_7 : decode cX6_lend 7 = .ok (.iload_n 1, 1) := by decide +kernel
theorem dX6_lend_8 : decode cX6_lend 8 = .ok (.invokevirtual 244, 3) := by decide +kernel
theorem dX6_lend_11 : decode cX6_lend 11 = .ok (.ifCond .eq 15, 3) := by decide +kernel
theorem dX6_lend_14 : decode cX6_lend 14 = .ok (.aload_n 0, 1) := by decide +kernel
theorem dX6_lend_15 : decode cX6_lend 15 = .ok (.iload_n 2, 1) := by decide +kernel
theorem dX6_lend_16 : decode cX6_lend 16 = .ok (.invokevirtual 259, 3) := by decide +kernel
theorem dX6_lend_19 : decode cX6_lend 19 = .ok (.ifCond .eq 7, 3) := by decide +kernel
theorem dX6_lend_22 : decode cX6_lend 22 = .ok (.iconst 1, 1) := by decide +kernel
theorem dX6_lend_23 : decode cX6_lend 23 = .ok (.goto 4, 3) := by decide +kernel
theorem dX6_lend_26 : decode cX6_lend 26 = .ok (.iconst 0, 1) := by decide +kernel
theorem dX6_lend_27 : decode cX6_lend 27 = .ok (.iconst 1, 1) := by decide +kernel
theorem dX6_lend_28 : decode cX6_lend 28 = .ok (.invokevirtual 62, 3) := by decide +kernel
theorem dX6_lend_31 : decode cX6_lend 31 = .ok (.ifCond .ne 17, 3) := by decide +kernel
theorem dX6_lend_34 : decode cX6_lend 34 = .ok (.aload_n 0, 1) := by decide +kernel
theorem dX6_lend_35 : decode cX6_lend 35 = .ok (.aload_n 0, 1) := by decide +kernel
theorem dX6_lend_36 : decode cX6_lend 36 = .ok (.iload_n 1, 1) := by decide +kernel
theorem dX6_lend_37 : decode cX6_lend 37 = .ok (.iload_n 2, 1) := by decide +kernel
theorem dX6_lend_38 : decode cX6_lend 38 = .ok (.invokevirtual 262, 3) := by decide +kernel
theorem dX6_lend_41 : decode cX6_lend 41 = .ok (.iconst 2, 1) := by decide +kernel
theorem dX6_lend_42 : decode cX6_lend 42 = .ok (.invokevirtual 62, 3) := by decide +kernel
theorem dX6_lend_45 : decode cX6_lend 45 = .ok (.ifCond .eq 5, 3) := by decide +kernel
theorem dX6_lend_48 : decode cX6_lend 48 = .ok (.iconst 0, 1) := by decide +kernel
theorem dX6_lend_49 : decode cX6_lend 49 = .ok (.ireturn, 1) := by decide +kernel
theorem dX6_lend_50 : decode cX6_lend 50 = .ok (.aload_n 0, 1) := by decide +kernel
theorem dX6_lend_51 : decode cX6_lend 51 = .ok (.invokevirtual 229, 3) := by decide +kernel
theorem dX6_lend_54 : decode cX6_lend 54 = .ok (.aload_n 0, 1) := by decide +kernel
theorem dX6_lend_55 : decode cX6_lend 55 = .ok (.iload_n 1, 1) := by decide +kernel
theorem dX6_lend_56 : decode cX6_lend 56 = .ok (.iconst 3, 1) := by decide +kernel
theorem dX6_lend_57 : decode cX6_lend 57 = .ok (.iload_n 2, 1) := by decide +kernel
theorem dX6_lend_58 : decode cX6_lend 58 = .ok (.invokevirtual 250, 3) := by decide +kernel
theorem dX6_lend_61 : decode cX6_lend 61 = .ok (.aload_n 0, 1) := by decide +kernel
theorem dX6_lend_62 : decode cX6_lend 62 = .ok (.iload_n 2, 1) := by decide +kernel
theorem dX6_lend_63 : decode cX6_lend 63 = .ok (.iconst 4, 1) := by decide +kernel
theorem dX6_lend_64 : decode cX6_lend 64 = .ok (.iconst 1, 1) := by decide +kernel
theorem dX6_lend_65 : decode cX6_lend 65 = .ok (.invokevirtual 265, 3) := by decide +kernel
theorem dX6_lend_68 : decode cX6_lend 68 = .ok (.aload_n 0, 1) := by decide +kernel
theorem dX6_lend_69 : decode cX6_lend 69 = .ok (.iload_n 2, 1) := by decide +kernel
theorem dX6_lend_70 : decode cX6_lend 70 = .ok (.invokevirtual 204, 3) := by decide +kernel
theorem dX6_lend_73 : decode cX6_lend 73 = .ok (.ireturn, 1) := by decide +kernel
theorem dX6_giveBack_0 : decode cX6_giveBack 0 = .ok (.aload_n 0, 1) := by decide +kernel
theorem dX6_giveBack_1 : decode cX6_giveBack 1 = .ok (.iconst 0, 1) := by decide +kernel
theorem dX6_giveBack_2 : decode cX6_giveBack 2 = .ok (.putfield 51, 3) := by decide +kernel
theorem dX6_giveBack_5 : decode cX6_giveBack 5 = .ok (.aload_n 0, 1) := by decide +kernel
theorem dX6_giveBack_6 : decode cX6_giveBack 6 = .ok (.aload_n 0, 1) := by decide +kernel
theorem dX6_giveBack_7 : decode cX6_giveBack 7 = .ok (.iload_n 1, 1) := by decide +kernel
theorem dX6_giveBack_8 : decode cX6_giveBack 8 = .ok (.invokevirtual 244, 3) := by decide +kernel
theorem dX6_giveBack_11 : decode cX6_giveBack 11 = .ok (.iconst 1, 1) := by decide +kernel
theorem dX6_giveBack_12 : decode cX6_giveBack 12 = .ok (.invokevirtual 62, 3) := by decide +kernel
theorem dX6_giveBack_15 : decode cX6_giveBack 15 = .ok (.ifCond .ne 26, 3) := by decide +kernel
theorem dX6_giveBack_18 : decode cX6_giveBack 18 = .ok (.aload_n 0, 1) := by decide +kernel
theorem dX6_giveBack_19 : decode cX6_giveBack 19 = .ok (.aload_n 0, 1) := by decide +kernel
theorem dX6_giveBack_20 : decode cX6_giveBack 20 = .ok (.iload_n 1, 1) := by decide +kernel
theorem dX6_giveBack_21 : decode cX6_giveBack 21 = .ok (.iconst 3, 1) := by decide +kernel
theorem dX6_giveBack_22 : decode cX6_giveBack 22 = .ok (.invokevirtual 207, 3) := by decide +kernel
theorem dX6_giveBack_25 : decode cX6_giveBack 25 = .ok (.iconst (-1), 1) := by decide +kernel
theorem dX6_giveBack_26 : decode cX6_giveBack 26 = .ok (.if_icmp .eq 7, 3) := by decide +kernel
theorem dX6_giveBack_29 : decode cX6_giveBack 29 = .ok (.iconst 1, 1) := by decide +kernel
theorem dX6_giveBack_30 : decode cX6_giveBack 30 = .ok (.goto 4, 3) := by decide +kernel
theorem dX6_giveBack_33 : decode cX6_giveBack 33 = .ok (.iconst 0, 1) := by decide +kernel
theorem dX6_giveBack_34 : decode cX6_giveBack 34 = .ok (.iconst 2, 1) := by decide +kernel
theorem dX6_giveBack_35 : decode cX6_giveBack 35 = .ok (.invokevirtual 62, 3) := by decide +kernel
theorem dX6_giveBack_38 : decode cX6_giveBack 38 = .ok (.ifCond .eq 5, 3) := by decide +kernel
theorem dX6_giveBack_41 : decode cX6_giveBack 41 = .ok (.iconst 0, 1) := by decide +kernel
theorem dX6_giveBack_42 : decode cX6_giveBack 42 = .ok (.ireturn, 1) := by decide +kernel
theorem dX6_giveBack_43 : decode cX6_giveBack 43 = .ok (.aload_n 0, 1) := by decide +kernel
theorem dX6_giveBack_44 : decode cX6_giveBack 44 = .ok (.invokevirtual 229, 3) := by decide +kernel
theorem dX6_giveBack_47 : decode cX6_giveBack 47 = .ok (.aload_n 0, 1) := by decide +kernel
theorem dX6_giveBack_48 : decode cX6_giveBack 48 = .ok (.iload_n 1, 1) := by decide +kernel
theorem dX6_giveBack_49 : decode cX6_giveBack 49 = .ok (.iconst 3, 1) := by decide +kernel
theorem dX6_giveBack_50 : decode cX6_giveBack 50 = .ok (.invokevirtual 207, 3) := by decide +kernel
theorem dX6_giveBack_53 : decode cX6_giveBack 53 = .ok (.istore_n 2, 1) := by decide +kernel
theorem dX6_giveBack_54 : decode cX6_giveBack 54 = .ok (.aload_n 0, 1) := by decide +kernel
theorem dX6_giveBack_55 : decode cX6_giveBack 55 = .ok (.iload_n 1, 1) := by decide +kernel
theorem dX6_giveBack_56 : decode cX6_giveBack 56 = .ok (.iconst 3, 1) := by decide +kernel
theorem dX6_giveBack_57 : decode cX6_giveBack 57 = .ok (.iconst (-1), 1) := by decide +kernel
theorem dX6_giveBack_58 : decode cX6_giveBack 58 = .ok (.invokevirtual 250, 3) := by decide +kernel
theorem dX6_giveBack_61 : decode cX6_giveBack 61 = .ok (.aload_n 0, 1) := by decide +kernel
theorem dX6_giveBack_62 : decode cX6_giveBack 62 = .ok (.iload_n 2, 1) := by decide +kernel
theorem dX6_giveBack_63 : decode cX6_giveBack 63 = .ok (.iconst 4, 1) := by decide +kernel
theorem dX6_giveBack_64 : decode cX6_giveBack 64 = .ok (.iconst 0, 1) := by decide +kernel
theorem dX6_giveBack_65 : decode cX6_giveBack 65 = .ok (.invokevirtual 265, 3) := by decide +kernel
theorem dX6_giveBack_68 : decode cX6_giveBack 68 = .ok (.iload_n 2, 1) := by decide +kernel
theorem dX6_giveBack_69 : decode cX6_giveBack 69 = .ok (.ireturn, 1) := by decide +kernel
theorem dX6_check_0 : decode cX6_check 0 = .ok (.aload_n 0, 1) := by decide +kernel
theorem dX6_check_1 : decode cX6_check 1 = .ok (.iconst 0, 1) := by decide +kernel
theorem dX6_check_2 : decode cX6_check 2 = .ok (.putfield 51, 3) := by decide +kernel
theorem dX6_check_5 : decode cX6_check 5 = .ok (.aload_n 0, 1) := by decide +kernel
theorem dX6_check_6 : decode cX6_check 6 = .ok (.aload_n 0, 1) := by decide +kernel
theorem dX6_check_7 : decode cX6_check 7 = .ok (.iload_n 1, 1) := by decide +kernel
theorem dX6_check_8 : decode cX6_check 8 = .ok (.invokevirtual 259, 3) := by decide +kernel
theorem dX6_check_11 : decode cX6_check 11 = .ok (.iconst 1, 1) := by decide +kernel
theorem dX6_check_12 : decode cX6_check 12 = .ok (.invokevirtual 62, 3) := by decide +kernel
theorem dX6_check_15 : decode cX6_check 15 = .ok (.ifCond .ne 32, 3) := by decide +kernel
theorem dX6_check_18 : decode cX6_check 18 = .ok (.aload_n 0, 1) := by decide +kernel
theorem dX6_check_19 : decode cX6_check 19 = .ok (.aload_n 0, 1) := by decide +kernel
theorem dX6_check_20 : decode cX6_check 20 = .ok (.iload_n 1, 1) := by decide +kernel
theorem dX6_check_21 : decode cX6_check 21 = .ok (.invokevirtual 256, 3) := by decide +kernel
theorem dX6_check_24 : decode cX6_check 24 = .ok (.ifCond .ne 15, 3) := by decide +kernel
theorem dX6_check_27 : decode cX6_check 27 = .ok (.aload_n 0, 1) := by decide +kernel
theorem dX6_check_28 : decode cX6_check 28 = .ok (.iload_n 1, 1) := by decide +kernel
theorem dX6_check_29 : decode cX6_check 29 = .ok (.invokevirtual 201, 3) := by decide +kernel
theorem dX6_check_32 : decode cX6_check 32 = .ok (.ifCond .ne 7, 3) := by decide +kernel
theorem dX6_check_35 : decode cX6_check 35 = .ok (.iconst 1, 1) := by decide +kernel
theorem dX6_check_36 : decode cX6_check 36 = .ok (.goto 4, 3) := by decide +kernel
theorem dX6_check_39 : decode cX6_check 39 = .ok (.iconst 0, 1) := by decide +kernel
theorem dX6_check_40 : decode cX6_check 40 = .ok (.iconst 2, 1) := by decide +kernel
theorem dX6_check_41 : decode cX6_check 41 = .ok (.invokevirtual 62, 3) := by decide +kernel
theorem dX6_check_44 : decode cX6_check 44 = .ok (.ifCond .eq 5, 3) := by decide +kernel
theorem dX6_check_47 : decode cX6_check 47 = .ok (.iconst 0, 1) := by decide +kernel
theorem dX6_check_48 : decode cX6_check 48 = .ok (.ireturn, 1) := by decide +kernel
theorem dX6_check_49 : decode cX6_check 49 = .ok (.aload_n 0, 1) := by decide +kernel
theorem dX6_check_50 : decode cX6_check 50 = .ok (.invokevirtual 229, 3) := by decide +kernel
theorem dX6_check_53 : decode cX6_check 53 = .ok (.aload_n 0, 1) := by decide +kernel
theorem dX6_check_54 : decode cX6_check 54 = .ok (.iload_n 1, 1) := by decide +kernel
theorem dX6_check_55 : decode cX6_check 55 = .ok (.iconst 2, 1) := by decide +kernel
theorem dX6_check_56 : decode cX6_check 56 = .ok (.aload_n 0, 1) := by decide +kernel
theorem dX6_check_57 : decode cX6_check 57 = .ok (.getfield 16, 3) := by decide +kernel
theorem dX6_check_60 : decode cX6_check 60 = .ok (.iconst 3, 1) := by decide +kernel
theorem dX6_check_61 : decode cX6_check 61 = .ok (.iaload, 1) := by decide +kernel
theorem dX6_check_62 : decode cX6_check 62 = .ok (.invokevirtual 265, 3) := by decide +kernel
theorem dX6_check_65 : decode cX6_check 65 = .ok (.iload_n 2, 1) := by decide +kernel
theorem dX6_check_66 : decode cX6_check 66 = .ok (.ifCond .ne 12, 3) := by decide +kernel
theorem dX6_check_69 : decode cX6_check 69 = .ok (.aload_n 0, 1) := by decide +kernel
theorem dX6_check_70 : decode cX6_check 70 = .ok (.iload_n 1, 1) := by decide +kernel
theorem dX6_check_71 : decode cX6_check 71 = .ok (.iconst 3, 1) := by decide +kernel
theorem dX6_check_72 : decode cX6_check 72 = .ok (.iconst 1, 1) := by decide +kernel
theorem dX6_check_73 : decode cX6_check 73 = .ok (.invokevirtual 265, 3) := by decide +kernel
theorem dX6_check_76 : decode cX6_check 76 = .ok (.iconst (-1), 1) := by decide +kernel
theorem dX6_check_77 : decode cX6_check 77 = .ok (.ireturn, 1) := by decide +kernel
theorem dX6_check_78 : decode cX6_check 78 = .ok (.aload_n 0, 1) := by decide +kernel
theorem dX6_check_79 : decode cX6_check 79 = .ok (.iload_n 1, 1) := by decide +kernel
theorem dX6_check_80 : decode cX6_check 80 = .ok (.invokevirtual 204, 3) := by decide +kernel
theorem dX6_check_83 : decode cX6_check 83 = .ok (.ireturn, 1) := by decide +kernel
theorem dX6_inCourse_0 : decode cX6_inCourse 0 = .ok (.iconst 0, 1) := by decide +kernel
theorem dX6_inCourse_1 : decode cX6_inCourse 1 = .ok (.istore_n 2, 1) := by decide +kernel
theorem dX6_inCourse_2 : decode cX6_inCourse 2 = .ok (.iconst 0, 1) := by decide +kernel
theorem dX6_inCourse_3 : decode cX6_inCourse 3 = .ok (.istore_n 3, 1) := by decide +kernel
theorem dX6_inCourse_4 : decode cX6_inCourse 4 = .ok (.iload_n 3, 1) := by decide +kernel
theorem dX6_inCourse_5 : decode cX6_inCourse 5 = .ok (.aload_n 0, 1) := by decide +kernel
theorem dX6_inCourse_6 : decode cX6_inCourse 6 = .ok (.getfield 16, 3) := by decide +kernel
theorem dX6_inCourse_9 : decode cX6_inCourse 9 = .ok (.sipush 546, 3) := by decide +kernel
theorem dX6_inCourse_12 : decode cX6_inCourse 12 = .ok (.iaload, 1) := by decide +kernel
theorem dX6_inCourse_13 : decode cX6_inCourse 13 = .ok (.if_icmp .ge 29, 3) := by decide +kernel
theorem dX6_inCourse_16 : decode cX6_inCourse 16 = .ok (.iload_n 2, 1) := by decide +kernel
theorem dX6_inCourse_17 : decode cX6_inCourse 17 = .ok (.aload_n 0, 1) := by decide +kernel
theorem dX6_inCourse_18 : decode cX6_inCourse 18 = .ok (.iload_n 3, 1) := by decide +kernel
theorem dX6_inCourse_19 : decode cX6_inCourse 19 = .ok (.iconst 4, 1) := by decide +kernel
theorem dX6_inCourse_20 : decode cX6_inCourse 20 = .ok (.invokevirtual 207, 3) := by decide +kernel
theorem dX6_inCourse_23 : decode cX6_inCourse 23 = .ok (.iload_n 1, 1) := by decide +kernel
theorem dX6_inCourse_24 : decode cX6_inCourse 24 = .ok (.if_icmp .ne 9, 3) := by decide +kernel
theorem dX6_inCourse_27 : decode cX6_inCourse 27 = .ok (.iconst 1, 1) := by decide +kernel
theorem dX6_inCourse_28 : decode cX6_inCourse 28 = .ok (.iload_n 3, 1) := by decide +kernel
theorem dX6_inCourse_29 : decode cX6_inCourse 29 = .ok (.ishl, 1) := by decide +kernel
theorem dX6_inCourse_30 : decode cX6_inCourse 30 = .ok (.goto 4, 3) := by decide +kernel
theorem dX6_inCourse_33 : decode cX6_inCourse 33 = .ok (.iconst 0, 1) := by decide +kernel
theorem dX6_inCourse_34 : decode cX6_inCourse 34 = .ok (.ior, 1) := by decide +kernel
theorem dX6_inCourse_35 : decode cX6_inCourse 35 = .ok (.istore_n 2, 1) := by decide +kernel
theorem dX6_inCourse_36 : decode cX6_inCourse 36 = .ok (.iinc 3 1, 3) := by decide +kernel
theorem dX6_inCourse_39 : decode cX6_inCourse 39 = .ok (.goto (-35), 3) := by decide +kernel
theorem dX6_inCourse_42 : decode cX6_inCourse 42 = .ok (.iload_n 2, 1) := by decide +kernel
theorem dX6_inCourse_43 : decode cX6_inCourse 43 = .ok (.ireturn, 1) := by decide +kernel
theorem dX6_mayEnroll_0 : decode cX6_mayEnroll 0 = .ok (.aload_n 0, 1) := by decide +kernel
theorem dX6_mayEnroll_1 : decode cX6_mayEnroll 1 = .ok (.iload_n 1, 1) := by decide +kernel
theorem dX6_mayEnroll_2 : decode cX6_mayEnroll 2 = .ok (.iconst 1, 1) := by decide +kernel
theorem dX6_mayEnroll_3 : decode cX6_mayEnroll 3 = .ok (.invokevirtual 207, 3) := by decide +kernel
theorem dX6_mayEnroll_6 : decode cX6_mayEnroll 6 = .ok (.aload_n 0, 1) := by decide +kernel
theorem dX6_mayEnroll_7 : decode cX6_mayEnroll 7 = .ok (.iload_n 2, 1) := by decide +kernel
theorem dX6_mayEnroll_8 : decode cX6_mayEnroll 8 = .ok (.iconst 0, 1) := by decide +kernel
theorem dX6_mayEnroll_9 : decode cX6_mayEnroll 9 = .ok (.invokevirtual 268, 3) := by decide +kernel
theorem dX6_mayEnroll_12 : decode cX6_mayEnroll 12 = .ok (.iconst 1, 1) := by decide +kernel
theorem dX6_mayEnroll_13 : decode cX6_mayEnroll 13 = .ok (.isub, 1) := by decide +kernel
theorem dX6_mayEnroll_14 : decode cX6_mayEnroll 14 = .ok (.if_icmp .ne 7, 3) := by decide +kernel
theorem dX6_mayEnroll_17 : decode cX6_mayEnroll 17 = .ok (.iconst 1, 1) := by decide +kernel
theorem dX6_mayEnroll_18 : decode cX6_mayEnroll 18 = .ok (.goto 4, 3) := by decide +kernel
theorem dX6_mayEnroll_21 : decode cX6_mayEnroll 21 = .ok (.iconst 0, 1) := by decide +kernel
theorem dX6_mayEnroll_22 : decode cX6_mayEnroll 22 = .ok (.istore_n 3, 1) := by decide +kernel
theorem dX6_mayEnroll_23 : decode cX6_mayEnroll 23 = .ok (.aload_n 0, 1) := by decide +kernel
theorem dX6_mayEnroll_24 : decode cX6_mayEnroll 24 = .ok (.iload_n 1, 1) := by decide +kernel
theorem dX6_mayEnroll_25 : decode cX6_mayEnroll 25 = .ok (.iconst 4, 1) := by decide +kernel
theorem dX6_mayEnroll_26 : decode cX6_mayEnroll 26 = .ok (.invokevirtual 207, 3) := by decide +kernel
theorem dX6_mayEnroll_29 : decode cX6_mayEnroll 29 = .ok (.iconst (-1), 1) := by decide +kernel
theorem dX6_mayEnroll_30 : decode cX6_mayEnroll 30 = .ok (.if_icmp .ne 24, 3) := by decide +kernel
theorem dX6_mayEnroll_33 : decode cX6_mayEnroll 33 = .ok (.aload_n 0, 1) := by decide +kernel
theorem dX6_mayEnroll_34 : decode cX6_mayEnroll 34 = .ok (.iload_n 2, 1) := by decide +kernel
theorem dX6_mayEnroll_35 : decode cX6_mayEnroll 35 = .ok (.invokevirtual 271, 3) := by decide +kernel
theorem dX6_mayEnroll_38 : decode cX6_mayEnroll 38 = .ok (.invokestatic 274, 3) := by decide +kernel
theorem dX6_mayEnroll_41 : decode cX6_mayEnroll 41 = .ok (.aload_n 0, 1) := by decide +kernel
theorem dX6_mayEnroll_42 : decode cX6_mayEnroll 42 = .ok (.iload_n 2, 1) := by decide +kernel
theorem dX6_mayEnroll_43 : decode cX6_mayEnroll 43 = .ok (.iconst 1, 1) := by decide +kernel
theorem dX6_mayEnroll_44 : decode cX6_mayEnroll 44 = .ok (.invokevirtual 268, 3) := by decide +kernel
theorem dX6_mayEnroll_47 : decode cX6_mayEnroll 47 = .ok (.if_icmp .ge 7, 3) := by decide +kernel
theorem dX6_mayEnroll_50 : decode cX6_mayEnroll 50 = .ok (.iconst 1, 1) := by decide +kernel
theorem dX6_mayEnroll_51 : decode cX6_mayEnroll 51 = .ok (.goto 4, 3) := by decide +kernel
theorem dX6_mayEnroll_54 : decode cX6_mayEnroll 54 = .ok (.iconst 0, 1) := by decide +kernel
theorem dX6_mayEnroll_55 : decode cX6_mayEnroll 55 = .ok (.istore 4, 2) := by decide +kernel
theorem dX6_mayEnroll_57 : decode cX6_mayEnroll 57 = .ok (.iload_n 3, 1) := by decide +kernel
theorem dX6_mayEnroll_58 : decode cX6_mayEnroll 58 = .ok (.ifCond .eq 27, 3) := by decide +kernel
theorem dX6_mayEnroll_61 : decode cX6_mayEnroll 61 = .ok (.iload 4, 2) := by decide +kernel
theorem dX6_mayEnroll_63 : decode cX6_mayEnroll 63 = .ok (.ifCond .eq 22, 3) := by decide +kernel
theorem dX6_mayEnroll_66 : decode cX6_mayEnroll 66 = .ok (.aload_n 0, 1) := by decide +kernel
theorem dX6_mayEnroll_67 : decode cX6_mayEnroll 67 = .ok (.iload_n 1, 1) := by decide +kernel
theorem dX6_mayEnroll_68 : decode cX6_mayEnroll 68 = .ok (.iconst 2, 1) := by decide +kernel
theorem dX6_mayEnroll_69 : decode cX6_mayEnroll 69 = .ok (.invokevirtual 207, 3) := by decide +kernel
theorem dX6_mayEnroll_72 : decode cX6_mayEnroll 72 = .ok (.aload_n 0, 1) := by decide +kernel
theorem dX6_mayEnroll_73 : decode cX6_mayEnroll 73 = .ok (.iload_n 2, 1) := by decide +kernel
theorem dX6_mayEnroll_74 : decode cX6_mayEnroll 74 = .ok (.iconst 2, 1) := by decide +kernel
theorem dX6_mayEnroll_75 : decode cX6_mayEnroll 75 = .ok (.invokevirtual 268, 3) := by decide +kernel
theorem dX6_mayEnroll_78 : decode cX6_mayEnroll 78 = .ok (.if_icmp .lt 7, 3) := by decide +kernel
theorem dX6_mayEnroll_81 : decode cX6_mayEnroll 81 = .ok (.iconst 1, 1) := by decide +kernel
theorem dX6_mayEnroll_82 : decode cX6_mayEnroll 82 = .ok (.goto 4, 3) := by decide +kernel
theorem dX6_mayEnroll_85 : decode cX6_mayEnroll 85 = .ok (.iconst 0, 1) := by decide +kernel
theorem dX6_mayEnroll_86 : decode cX6_mayEnroll 86 = .ok (.ireturn, 1) := by decide +kernel
theorem dX6_enroll_0 : decode cX6_enroll 0 = .ok (.aload_n 0, 1) := by decide +kernel
theorem dX6_enroll_1 : decode cX6_enroll 1 = .ok (.iconst 0, 1) := by decide +kernel
theorem dX6_enroll_2 : decode cX6_enroll 2 = .ok (.putfield 51, 3) := by decide +kernel
theorem dX6_enroll_5 : decode cX6_enroll 5 = .ok (.aload_n 0, 1) := by decide +kernel
theorem dX6_enroll_6 : decode cX6_enroll 6 = .ok (.aload_n 0, 1) := by decide +kernel
theorem dX6_enroll_7 : decode cX6_enroll 7 = .ok (.iload_n 1, 1) := by decide +kernel
theorem dX6_enroll_8 : decode cX6_enroll 8 = .ok (.invokevirtual 244, 3) := by decide +kernel
theorem dX6_enroll_11 : decode cX6_enroll 11 = .ok (.ifCond .eq 15, 3) := by decide +kernel
theorem dX6_enroll_14 : decode cX6_enroll 14 = .ok (.aload_n 0, 1) := by decide +kernel
theorem dX6_enroll_15 : decode cX6_enroll 15 = .ok (.iload_n 2, 1) := by decide +kernel
theorem dX6_enroll_16 : decode cX6_enroll 16 = .ok (.invokevirtual 277, 3) := by decide +kernel
theorem dX6_enroll_19 : decode cX6_enroll 19 = .ok (.ifCond .eq 7, 3) := by decide +kernel
theorem dX6_enroll_22 : decode cX6_enroll 22 = .ok (.iconst 1, 1) := by decide +kernel
theorem dX6_enroll_23 : decode cX6_enroll 23 = .ok (.goto 4, 3) := by decide +kernel
theorem dX6_enroll_26 : decode cX6_enroll 26 = .ok (.iconst 0, 1) := by decide +kernel
theorem dX6_enroll_27 : decode cX6_enroll 27 = .ok (.iconst 1, 1) := by decide +kernel
theorem dX6_enroll_28 : decode cX6_enroll 28 = .ok (.invokevirtual 62, 3) := by decide +kernel
theorem dX6_enroll_31 : decode cX6_enroll 31 = .ok (.ifCond .ne 17, 3) := by decide +kernel
theorem dX6_enroll_34 : decode cX6_enroll 34 = .ok (.aload_n 0, 1) := by decide +kernel
theorem dX6_enroll_35 : decode cX6_enroll 35 = .ok (.aload_n 0, 1) := by decide +kernel
theorem dX6_enroll_36 : decode cX6_enroll 36 = .ok (.iload_n 1, 1) := by decide +kernel
theorem dX6_enroll_37 : decode cX6_enroll 37 = .ok (.iload_n 2, 1) := by decide +kernel
theorem dX6_enroll_38 : decode cX6_enroll 38 = .ok (.invokevirtual 280, 3) := by decide +kernel
theorem dX6_enroll_41 : decode cX6_enroll 41 = .ok (.iconst 2, 1) := by decide +kernel
theorem dX6_enroll_42 : decode cX6_enroll 42 = .ok (.invokevirtual 62, 3) := by decide +kernel
theorem dX6_enroll_45 : decode cX6_enroll 45 = .ok (.ifCond .eq 5, 3) := by decide +kernel
theorem dX6_enroll_48 : decode cX6_enroll 48 = .ok (.iconst 0, 1) := by decide +kernel
theorem dX6_enroll_49 : decode cX6_enroll 49 = .ok (.ireturn, 1) := by decide +kernel
theorem dX6_enroll_50 : decode cX6_enroll 50 = .ok (.aload_n 0, 1) := by decide +kernel
theorem dX6_enroll_51 : decode cX6_enroll 51 = .ok (.invokevirtual 229, 3) := by decide +kernel
theorem dX6_enroll_54 : decode cX6_enroll 54 = .ok (.aload_n 0, 1) := by decide +kernel
theorem dX6_enroll_55 : decode cX6_enroll 55 = .ok (.iload_n 1, 1) := by decide +kernel
theorem dX6_enroll_56 : decode cX6_enroll 56 = .ok (.iconst 4, 1) := by decide +kernel
theorem dX6_enroll_57 : decode cX6_enroll 57 = .ok (.iload_n 2, 1) := by decide +kernel
theorem dX6_enroll_58 : decode cX6_enroll 58 = .ok (.invokevirtual 250, 3) := by decide +kernel
theorem dX6_enroll_61 : decode cX6_enroll 61 = .ok (.aload_n 0, 1) := by decide +kernel
theorem dX6_enroll_62 : decode cX6_enroll 62 = .ok (.iload_n 2, 1) := by decide +kernel
theorem dX6_enroll_63 : decode cX6_enroll 63 = .ok (.invokevirtual 271, 3) := by decide +kernel
theorem dX6_enroll_66 : decode cX6_enroll 66 = .ok (.invokestatic 274, 3) := by decide +kernel
theorem dX6_enroll_69 : decode cX6_enroll 69 = .ok (.ireturn, 1) := by decide +kernel
theorem dX6_leaveCourse_0 : decode cX6_leaveCourse 0 = .ok (.aload_n 0, 1) := by decide +kernel
theorem dX6_leaveCourse_1 : decode cX6_leaveCourse 1 = .ok (.iconst 0, 1) := by decide +kernel
theorem dX6_leaveCourse_2 : decode cX6_leaveCourse 2 = .ok (.putfield 51, 3) := by decide +kernel
theorem dX6_leaveCourse_5 : decode cX6_leaveCourse 5 = .ok (.aload_n 0, 1) := by decide +kernel
theorem dX6_leaveCourse_6 : decode cX6_leaveCourse 6 = .ok (.aload_n 0, 1) := by decide +kernel
theorem dX6_leaveCourse_7 : decode cX6_leaveCourse 7 = .ok (.iload_n 1, 1) := by decide +kernel
theorem dX6_leaveCourse_8 : decode cX6_leaveCourse 8 = .ok (.invokevirtual 244, 3) := by decide +kernel
theorem dX6_leaveCourse_11 : decode cX6_leaveCourse 11 = .ok (.iconst 1, 1) := by decide +kernel
theorem dX6_leaveCourse_12 : decode cX6_leaveCourse 12 = .ok (.invokevirtual 62, 3) := by decide +kernel
theorem dX6_leaveCourse_15 : decode cX6_leaveCourse 15 = .ok (.ifCond .ne 26, 3) := by decide +kernel
theorem dX6_leaveCourse_18 : decode cX6_leaveCourse 18 = .ok (.aload_n 0, 1) := by decide +kernel
theorem dX6_leaveCourse_19 : decode cX6_leaveCourse 19 = .ok (.aload_n 0, 1) := by decide +kernel
theorem dX6_leaveCourse_20 : decode cX6_leaveCourse 20 = .ok (.iload_n 1, 1) := by decide +kernel
theorem dX6_leaveCourse_21 : decode cX6_leaveCourse 21 = .ok (.iconst 4, 1) := by decide +kernel
theorem dX6_leaveCourse_22 : decode cX6_leaveCourse 22 = .ok (.invokevirtual 207, 3) := by decide +kernel
theorem dX6_leaveCourse_25 : decode cX6_leaveCourse 25 = .ok (.iconst (-1), 1) := by decide +kernel
theorem dX6_leaveCourse_26 : decode cX6_leaveCourse 26 = .ok (.if_icmp .eq 7, 3) := by decide +kernel
theorem dX6_leaveCourse_29 : decode cX6_leaveCourse 29 = .ok (.iconst 1, 1) := by decide +kernel
theorem dX6_leaveCourse_30 : decode cX6_leaveCourse 30 = .ok (.goto 4, 3) := by decide +kernel
theorem dX6_leaveCourse_33 : decode cX6_leaveCourse 33 = .ok (.iconst 0, 1) := by decide +kernel
theorem dX6_leaveCourse_34 : decode cX6_leaveCourse 34 = .ok (.iconst 2, 1) := by decide +kernel
theorem dX6_leaveCourse_35 : decode cX6_leaveCourse 35 = .ok (.invokevirtual 62, 3) := by decide +kernel
theorem dX6_leaveCourse_38 : decode cX6_leaveCourse 38 = .ok (.ifCond .eq 5, 3) := by decide +kernel
theorem dX6_leaveCourse_41 : decode cX6_leaveCourse 41 = .ok (.iconst 0, 1) := by decide +kernel
theorem dX6_leaveCourse_42 : decode cX6_leaveCourse 42 = .ok (.ireturn, 1) := by decide +kernel
theorem dX6_leaveCourse_43 : decode cX6_leaveCourse 43 = .ok (.aload_n 0, 1) := by decide +kernel
theorem dX6_leaveCourse_44 : decode cX6_leaveCourse 44 = .ok (.invokevirtual 229, 3) := by decide +kernel
theorem dX6_leaveCourse_47 : decode cX6_leaveCourse 47 = .ok (.aload_n 0, 1) := by decide +kernel
theorem dX6_leaveCourse_48 : decode cX6_leaveCourse 48 = .ok (.iload_n 1, 1) := by decide +kernel
theorem dX6_leaveCourse_49 : decode cX6_leaveCourse 49 = .ok (.iconst 4, 1) := by decide +kernel
theorem dX6_leaveCourse_50 : decode cX6_leaveCourse 50 = .ok (.invokevirtual 207, 3) := by decide +kernel
theorem dX6_leaveCourse_53 : decode cX6_leaveCourse 53 = .ok (.istore_n 2, 1) := by decide +kernel
theorem dX6_leaveCourse_54 : decode cX6_leaveCourse 54 = .ok (.aload_n 0, 1) := by decide +kernel
theorem dX6_leaveCourse_55 : decode cX6_leaveCourse 55 = .ok (.iload_n 1, 1) := by decide +kernel
theorem dX6_leaveCourse_56 : decode cX6_leaveCourse 56 = .ok (.iconst 4, 1) := by decide +kernel
theorem dX6_leaveCourse_57 : decode cX6_leaveCourse 57 = .ok (.iconst (-1), 1) := by decide +kernel
theorem dX6_leaveCourse_58 : decode cX6_leaveCourse 58 = .ok (.invokevirtual 250, 3) := by decide +kernel
theorem dX6_leaveCourse_61 : decode cX6_leaveCourse 61 = .ok (.iload_n 2, 1) := by decide +kernel
theorem dX6_leaveCourse_62 : decode cX6_leaveCourse 62 = .ok (.ireturn, 1) := by decide +kernel
theorem dX6_finish_0 : decode cX6_finish 0 = .ok (.aload_n 0, 1) := by decide +kernel
theorem dX6_finish_1 : decode cX6_finish 1 = .ok (.iconst 0, 1) := by decide +kernel
theorem dX6_finish_2 : decode cX6_finish 2 = .ok (.putfield 51, 3) := by decide +kernel
theorem dX6_finish_5 : decode cX6_finish 5 = .ok (.aload_n 0, 1) := by decide +kernel
theorem dX6_finish_6 : decode cX6_finish 6 = .ok (.aload_n 0, 1) := by decide +kernel
theorem dX6_finish_7 : decode cX6_finish 7 = .ok (.iload_n 1, 1) := by decide +kernel
theorem dX6_finish_8 : decode cX6_finish 8 = .ok (.invokevirtual 277, 3) := by decide +kernel
theorem dX6_finish_11 : decode cX6_finish 11 = .ok (.iconst 1, 1) := by decide +kernel
theorem dX6_finish_12 : decode cX6_finish 12 = .ok (.invokevirtual 62, 3) := by decide +kernel
theorem dX6_finish_15 : decode cX6_finish 15 = .ok (.ifCond .eq 5, 3) := by decide +kernel
theorem dX6_finish_18 : decode cX6_finish 18 = .ok (.iconst 0, 1) := by decide +kernel
theorem dX6_finish_19 : decode cX6_finish 19 = .ok (.ireturn, 1) := by decide +kernel
theorem dX6_finish_20 : decode cX6_finish 20 = .ok (.aload_n 0, 1) := by decide +kernel
theorem dX6_finish_21 : decode cX6_finish 21 = .ok (.invokevirtual 229, 3) := by decide +kernel
theorem dX6_finish_24 : decode cX6_finish 24 = .ok (.iconst 0, 1) := by decide +kernel
theorem dX6_finish_25 : decode cX6_finish 25 = .ok (.istore_n 3, 1) := by decide +kernel
theorem dX6_finish_26 : decode cX6_finish 26 = .ok (.iconst 0, 1) := by decide +kernel
theorem dX6_finish_27 : decode cX6_finish 27 = .ok (.istore 4, 2) := by decide +kernel
theorem dX6_finish_29 : decode cX6_finish 29 = .ok (.iload 4, 2) := by decide +kernel
theorem dX6_finish_31 : decode cX6_finish 31 = .ok (.aload_n 0, 1) := by decide +kernel
theorem dX6_finish_32 : decode cX6_finish 32 = .ok (.getfield 16, 3) := by decide +kernel
theorem dX6_finish_35 : decode cX6_finish 35 = .ok (.sipush 546, 3) := by decide +kernel
theorem dX6_finish_38 : decode cX6_finish 38 = .ok (.iaload, 1) := by decide +kernel
theorem dX6_finish_39 : decode cX6_finish 39 = .ok (.if_icmp .ge 56, 3) := by decide +kernel
theorem dX6_finish_42 : decode cX6_finish 42 = .ok (.aload_n 0, 1) := by decide +kernel
theorem dX6_finish_43 : decode cX6_finish 43 = .ok (.iload 4, 2) := by decide +kernel
theorem dX6_finish_45 : decode cX6_finish 45 = .ok (.iconst 4, 1) := by decide +kernel
theorem dX6_finish_46 : decode cX6_finish 46 = .ok (.invokevirtual 207, 3) := by decide +kernel
theorem dX6_finish_49 : decode cX6_finish 49 = .ok (.iload_n 1, 1) := by decide +kernel
theorem dX6_finish_50 : decode cX6_finish 50 = .ok (.if_icmp .eq 6, 3) := by decide +kernel
theorem dX6_finish_53 : decode cX6_finish 53 = .ok (.goto 36, 3) := by decide +kernel
theorem dX6_finish_56 : decode cX6_finish 56 = .ok (.aload_n 0, 1) := by decide +kernel
theorem dX6_finish_57 : decode cX6_finish 57 = .ok (.iload 4, 2) := by decide +kernel
theorem dX6_finish_59 : decode cX6_finish 59 = .ok (.iconst 4, 1) := by decide +kernel
theorem dX6_finish_60 : decode cX6_finish 60 = .ok (.iconst (-1), 1) := by decide +kernel
theorem dX6_finish_61 : decode cX6_finish 61 = .ok (.invokevirtual 250, 3) := by decide +kernel
theorem dX6_finish_64 : decode cX6_finish 64 = .ok (.iload_n 2, 1) := by decide +kernel
theorem dX6_finish_65 : decode cX6_finish 65 = .ok (.iload 4, 2) := by decide +kernel
theorem dX6_finish_67 : decode cX6_finish 67 = .ok (.invokestatic 253, 3) := by decide +kernel
theorem dX6_finish_70 : decode cX6_finish 70 = .ok (.ifCond .eq 19, 3) := by decide +kernel
theorem dX6_finish_73 : decode cX6_finish 73 = .ok (.aload_n 0, 1) := by decide +kernel
theorem dX6_finish_74 : decode cX6_finish 74 = .ok (.iload 4, 2) := by decide +kernel
theorem dX6_finish_76 : decode cX6_finish 76 = .ok (.iconst 1, 1) := by decide +kernel
theorem dX6_finish_77 : decode cX6_finish 77 = .ok (.aload_n 0, 1) := by decide +kernel
theorem dX6_finish_78 : decode cX6_finish 78 = .ok (.iload_n 1, 1) := by decide +kernel
theorem dX6_finish_79 : decode cX6_finish 79 = .ok (.iconst 0, 1) := by decide +kernel
theorem dX6_finish_80 : decode cX6_finish 80 = .ok (.invokevirtual 268, 3) := by decide +kernel
theorem dX6_finish_83 : decode cX6_finish 83 = .ok (.invokevirtual 250, 3) := by decide +kernel
theorem dX6_finish_86 : decode cX6_finish 86 = .ok (.iinc 3 1, 3) := by decide +kernel
theorem dX6_finish_89 : decode cX6_finish 89 = .ok (.iinc 4 1, 3) := by decide +kernel
theorem dX6_finish_92 : decode cX6_finish 92 = .ok (.goto (-63), 3) := by decide +kernel
theorem dX6_finish_95 : decode cX6_finish 95 = .ok (.iload_n 3, 1) := by decide +kernel
theorem dX6_finish_96 : decode cX6_finish 96 = .ok (.ireturn, 1) := by decide +kernel
theorem dX6_postpone_0 : decode cX6_postpone 0 = .ok (.aload_n 0, 1) := by decide +kernel
theorem dX6_postpone_1 : decode cX6_postpone 1 = .ok (.iconst 0, 1) := by decide +kernel
theorem dX6_postpone_2 : decode cX6_postpone 2 = .ok (.putfield 51, 3) := by decide +kernel
theorem dX6_postpone_5 : decode cX6_postpone 5 = .ok (.aload_n 0, 1) := by decide +kernel
theorem dX6_postpone_6 : decode cX6_postpone 6 = .ok (.aload_n 0, 1) := by decide +kernel
theorem dX6_postpone_7 : decode cX6_postpone 7 = .ok (.iload_n 1, 1) := by decide +kernel
theorem dX6_postpone_8 : decode cX6_postpone 8 = .ok (.invokevirtual 220, 3) := by decide +kernel
theorem dX6_postpone_11 : decode cX6_postpone 11 = .ok (.iconst 1, 1) := by decide +kernel
theorem dX6_postpone_12 : decode cX6_postpone 12 = .ok (.invokevirtual 62, 3) := by decide +kernel
theorem dX6_postpone_15 : decode cX6_postpone 15 = .ok (.ifCond .ne 20, 3) := by decide +kernel
theorem dX6_postpone_18 : decode cX6_postpone 18 = .ok (.aload_n 0, 1) := by decide +kernel
theorem dX6_postpone_19 : decode cX6_postpone 19 = .ok (.iload_n 2, 1) := by decide +kernel
theorem dX6_postpone_20 : decode cX6_postpone 20 = .ok (.i2l, 1) := by decide +kernel
theorem dX6_postpone_21 : decode cX6_postpone 21 = .ok (.lconst 1, 1) := by decide +kernel
theorem dX6_postpone_22 : decode cX6_postpone 22 = .ok (.ldc2_w 283, 3) := by decide +kernel
theorem dX6_postpone_25 : decode cX6_postpone 25 = .ok (.invokestatic 66, 3) := by decide +kernel
theorem dX6_postpone_28 : decode cX6_postpone 28 = .ok (.iconst 2, 1) := by decide +kernel
theorem dX6_postpone_29 : decode cX6_postpone 29 = .ok (.invokevirtual 62, 3) := by decide +kernel
theorem dX6_postpone_32 : decode cX6_postpone 32 = .ok (.ifCond .eq 5, 3) := by decide +kernel
theorem dX6_postpone_35 : decode cX6_postpone 35 = .ok (.iconst 0, 1) := by decide +kernel
theorem dX6_postpone_36 : decode cX6_postpone 36 = .ok (.ireturn, 1) := by decide +kernel
theorem dX6_postpone_37 : decode cX6_postpone 37 = .ok (.aload_n 0, 1) := by decide +kernel
theorem dX6_postpone_38 : decode cX6_postpone 38 = .ok (.invokevirtual 229, 3) := by decide +kernel
theorem dX6_postpone_41 : decode cX6_postpone 41 = .ok (.aload_n 0, 1) := by decide +kernel
theorem dX6_postpone_42 : decode cX6_postpone 42 = .ok (.getfield 16, 3) := by decide +kernel
theorem dX6_postpone_45 : decode cX6_postpone 45 = .ok (.iconst 5, 1) := by decide +kernel
theorem dX6_postpone_46 : decode cX6_postpone 46 = .ok (.iconst 4, 1) := by decide +kernel
theorem dX6_postpone_47 : decode cX6_postpone 47 = .ok (.iload_n 1, 1) := by decide +kernel
theorem dX6_postpone_48 : decode cX6_postpone 48 = .ok (.imul, 1) := by decide +kernel
theorem dX6_postpone_49 : decode cX6_postpone 49 = .ok (.iadd, 1) := by decide +kernel
theorem dX6_postpone_50 : decode cX6_postpone 50 = .ok (.iconst 3, 1) := by decide +kernel
theorem dX6_postpone_51 : decode cX6_postpone 51 = .ok (.iadd, 1) := by decide +kernel
theorem dX6_postpone_52 : decode cX6_postpone 52 = .ok (.dup2, 1) := by decide +kernel
theorem dX6_postpone_53 : decode cX6_postpone 53 = .ok (.iaload, 1) := by decide +kernel
theorem dX6_postpone_54 : decode cX6_postpone 54 = .ok (.iload_n 2, 1) := by decide +kernel
theorem dX6_postpone_55 : decode cX6_postpone 55 = .ok (.iadd, 1) := by decide +kernel
theorem dX6_postpone_56 : decode cX6_postpone 56 = .ok (.iastore, 1) := by decide +kernel
theorem dX6_postpone_57 : decode cX6_postpone 57 = .ok (.aload_n 0, 1) := by decide +kernel
theorem dX6_postpone_58 : decode cX6_postpone 58 = .ok (.iload_n 1, 1) := by decide +kernel
theorem dX6_postpone_59 : decode cX6_postpone 59 = .ok (.iconst 3, 1) := by decide +kernel
theorem dX6_postpone_60 : decode cX6_postpone 60 = .ok (.invokevirtual 195, 3) := by decide +kernel
theorem dX6_postpone_63 : decode cX6_postpone 63 = .ok (.ireturn, 1) := by decide +kernel
theorem dX6_reset_0 : decode cX6_reset 0 = .ok (.iconst 0, 1) := by decide +kernel
theorem dX6_reset_1 : decode cX6_reset 1 = .ok (.istore_n 2, 1) := by decide +kernel
theorem dX6_reset_2 : decode cX6_reset 2 = .ok (.iconst 0, 1) := by decide +kernel
theorem dX6_reset_3 : decode cX6_reset 3 = .ok (.istore_n 3, 1) := by decide +kernel
theorem dX6_reset_4 : decode cX6_reset 4 = .ok (.iload_n 3, 1) := by decide +kernel
theorem dX6_reset_5 : decode cX6_reset 5 = .ok (.aload_n 0, 1) := by decide +kernel
theorem dX6_reset_6 : decode cX6_reset 6 = .ok (.getfield 16, 3) := by decide +kernel
theorem dX6_reset_9 : decode cX6_reset 9 = .ok (.bipush 37, 2) := by decide +kernel
theorem dX6_reset_11 : decode cX6_reset 11 = .ok (.iaload, 1) := by decide +kernel
theorem dX6_reset_12 : decode cX6_reset 12 = .ok (.if_icmp .ge 30, 3) := by decide +kernel
theorem dX6_reset_15 : decode cX6_reset 15 = .ok (.aload_n 0, 1) := by decide +kernel
theorem dX6_reset_16 : decode cX6_reset 16 = .ok (.iload_n 3, 1) := by decide +kernel
theorem dX6_reset_17 : decode cX6_reset 17 = .ok (.iconst 0, 1) := by decide +kernel
theorem dX6_reset_18 : decode cX6_reset 18 = .ok (.invokevirtual 163, 3) := by decide +kernel
theorem dX6_reset_21 : decode cX6_reset 21 = .ok (.iload_n 1, 1) := by decide +kernel
theorem dX6_reset_22 : decode cX6_reset 22 = .ok (.if_icmp .ne 14, 3) := by decide +kernel
theorem dX6_reset_25 : decode cX6_reset 25 = .ok (.aload_n 0, 1) := by decide +kernel
theorem dX6_reset_26 : decode cX6_reset 26 = .ok (.iload_n 3, 1) := by decide +kernel
theorem dX6_reset_27 : decode cX6_reset 27 = .ok (.invokevirtual 241, 3) := by decide +kernel
theorem dX6_reset_30 : decode cX6_reset 30 = .ok (.iinc 2 1, 3) := by decide +kernel
theorem dX6_reset_33 : decode cX6_reset 33 = .ok (.goto (-29), 3) := by decide +kernel
theorem dX6_reset_36 : decode cX6_reset 36 = .ok (.iinc 3 1, 3) := by decide +kernel
theorem dX6_reset_39 : decode cX6_reset 39 = .ok (.goto (-35), 3) := by decide +kernel
theorem dX6_reset_42 : decode cX6_reset 42 = .ok (.aload_n 0, 1) := by decide +kernel
theorem dX6_reset_43 : decode cX6_reset 43 = .ok (.getfield 16, 3) := by decide +kernel
theorem dX6_reset_46 : decode cX6_reset 46 = .ok (.iconst 5, 1) := by decide +kernel
theorem dX6_reset_47 : decode cX6_reset 47 = .ok (.iconst 4, 1) := by decide +kernel
theorem dX6_reset_48 : decode cX6_reset 48 = .ok (.iload_n 1, 1) := by decide +kernel
theorem dX6_reset_49 : decode cX6_reset 49 = .ok (.imul, 1) := by decide +kernel
theorem dX6_reset_50 : decode cX6_reset 50 = .ok (.iadd, 1) := by decide +kernel
theorem dX6_reset_51 : decode cX6_reset 51 = .ok (.iconst 3, 1) := by decide +kernel
theorem dX6_reset_52 : decode cX6_reset 52 = .ok (.iadd, 1) := by decide +kernel
theorem dX6_reset_53 : decode cX6_reset 53 = .ok (.aload_n 0, 1) := by decide +kernel
theorem dX6_reset_54 : decode cX6_reset 54 = .ok (.getfield 16, 3) := by decide +kernel
theorem dX6_reset_57 : decode cX6_reset 57 = .ok (.iconst 3, 1) := by decide +kernel
theorem dX6_reset_58 : decode cX6_reset 58 = .ok (.iaload, 1) := by decide +kernel
theorem dX6_reset_59 : decode cX6_reset 59 = .ok (.aload_n 0, 1) := by decide +kernel
theorem dX6_reset_60 : decode cX6_reset 60 = .ok (.iload_n 1, 1) := by decide +kernel
theorem dX6_reset_61 : decode cX6_reset 61 = .ok (.iconst 2, 1) := by decide +kernel
theorem dX6_reset_62 : decode cX6_reset 62 = .ok (.invokevirtual 195, 3) := by decide +kernel
theorem dX6_reset_65 : decode cX6_reset 65 = .ok (.iadd, 1) := by decide +kernel
theorem dX6_reset_66 : decode cX6_reset 66 = .ok (.iastore, 1) := by decide +kernel
theorem dX6_reset_67 : decode cX6_reset 67 = .ok (.iload_n 2, 1) := by decide +kernel
theorem dX6_reset_68 : decode cX6_reset 68 = .ok (.ireturn, 1) := by decide +kernel
theorem dX6_endDay_0 : decode cX6_endDay 0 = .ok (.iconst 0, 1) := by decide +kernel
theorem dX6_endDay_1 : decode cX6_endDay 1 = .ok (.istore_n 1, 1) := by decide +kernel
theorem dX6_endDay_2 : decode cX6_endDay 2 = .ok (.iconst 0, 1) := by decide +kernel
theorem dX6_endDay_3 : decode cX6_endDay 3 = .ok (.istore_n 2, 1) := by decide +kernel
theorem dX6_endDay_4 : decode cX6_endDay 4 = .ok (.iload_n 2, 1) := by decide +kernel
theorem dX6_endDay_5 : decode cX6_endDay 5 = .ok (.aload_n 0, 1) := by decide +kernel
theorem dX6_endDay_6 : decode cX6_endDay 6 = .ok (.getfield 16, 3) := by decide +kernel
theorem dX6_endDay_9 : decode cX6_endDay 9 = .ok (.iconst 4, 1) := by decide +kernel
theorem dX6_endDay_10 : decode cX6_endDay 10 = .ok (.iaload, 1) := by decide +kernel
theorem dX6_endDay_11 : decode cX6_endDay 11 = .ok (.if_icmp .ge 29, 3) := by decide +kernel
theorem dX6_endDay_14 : decode cX6_endDay 14 = .ok (.iload_n 1, 1) := by decide +kernel
theorem dX6_endDay_15 : decode cX6_endDay 15 = .ok (.aload_n 0, 1) := by decide +kernel
theorem dX6_endDay_16 : decode cX6_endDay 16 = .ok (.iload_n 2, 1) := by decide +kernel
theorem dX6_endDay_17 : decode cX6_endDay 17 = .ok (.invokevirtual 214, 3) := by decide +kernel
theorem dX6_endDay_20 : decode cX6_endDay 20 = .ok (.ifCond .eq 11, 3) := by decide +kernel
theorem dX6_endDay_23 : decode cX6_endDay 23 = .ok (.aload_n 0, 1) := by decide +kernel
theorem dX6_endDay_24 : decode cX6_endDay 24 = .ok (.iload_n 2, 1) := by decide +kernel
theorem dX6_endDay_25 : decode cX6_endDay 25 = .ok (.invokevirtual 285, 3) := by decide +kernel
theorem dX6_endDay_28 : decode cX6_endDay 28 = .ok (.goto 4, 3) := by decide +kernel
theorem dX6_endDay_31 : decode cX6_endDay 31 = .ok (.iconst 0, 1) := by decide +kernel
theorem dX6_endDay_32 : decode cX6_endDay 32 = .ok (.iadd, 1) := by decide +kernel
theorem dX6_endDay_33 : decode cX6_endDay 33 = .ok (.istore_n 1, 1) := by decide +kernel
theorem dX6_endDay_34 : decode cX6_endDay 34 = .ok (.iinc 2 1, 3) := by decide +kernel
theorem dX6_endDay_37 : decode cX6_endDay 37 = .ok (.goto (-33), 3) := by decide +kernel
theorem dX6_endDay_40 : decode cX6_endDay 40 = .ok (.iconst 0, 1) := by decide +kernel
theorem dX6_endDay_41 : decode cX6_endDay 41 = .ok (.istore_n 2, 1) := by decide +kernel
theorem dX6_endDay_42 : decode cX6_endDay 42 = .ok (.iload_n 2, 1) := by decide +kernel
theorem dX6_endDay_43 : decode cX6_endDay 43 = .ok (.aload_n 0, 1) := by decide +kernel
theorem dX6_endDay_44 : decode cX6_endDay 44 = .ok (.getfield 16, 3) := by decide +kernel
theorem dX6_endDay_47 : decode cX6_endDay 47 = .ok (.sipush 546, 3) := by decide +kernel
theorem dX6_endDay_50 : decode cX6_endDay 50 = .ok (.iaload, 1) := by decide +kernel
theorem dX6_endDay_51 : decode cX6_endDay 51 = .ok (.if_icmp .ge 39, 3) := by decide +kernel
theorem dX6_endDay_54 : decode cX6_endDay 54 = .ok (.aload_n 0, 1) := by decide +kernel
theorem dX6_endDay_55 : decode cX6_endDay 55 = .ok (.iload_n 2, 1) := by decide +kernel
theorem dX6_endDay_56 : decode cX6_endDay 56 = .ok (.iconst 3, 1) := by decide +kernel
theorem dX6_endDay_57 : decode cX6_endDay 57 = .ok (.invokevirtual 207, 3) := by decide +kernel
theorem dX6_endDay_60 : decode cX6_endDay 60 = .ok (.iconst (-1), 1) := by decide +kernel
theorem dX6_endDay_61 : decode cX6_endDay 61 = .ok (.if_icmp .eq 7, 3) := by decide +kernel
theorem dX6_endDay_64 : decode cX6_endDay 64 = .ok (.iconst 1, 1) := by decide +kernel
theorem dX6_endDay_65 : decode cX6_endDay 65 = .ok (.goto 4, 3) := by decide +kernel
theorem dX6_endDay_68 : decode cX6_endDay 68 = .ok (.iconst 0, 1) := by decide +kernel
theorem dX6_endDay_69 : decode cX6_endDay 69 = .ok (.istore_n 3, 1) := by decide +kernel
theorem dX6_endDay_70 : decode cX6_endDay 70 = .ok (.aload_n 0, 1) := by decide +kernel
theorem dX6_endDay_71 : decode cX6_endDay 71 = .ok (.iload_n 2, 1) := by decide +kernel
theorem dX6_endDay_72 : decode cX6_endDay 72 = .ok (.iconst 5, 1) := by decide +kernel
theorem dX6_endDay_73 : decode cX6_endDay 73 = .ok (.aload_n 0, 1) := by decide +kernel
theorem dX6_endDay_74 : decode cX6_endDay 74 = .ok (.iload_n 2, 1) := by decide +kernel
theorem dX6_endDay_75 : decode cX6_endDay 75 = .ok (.iconst 5, 1) := by decide +kernel
theorem dX6_endDay_76 : decode cX6_endDay 76 = .ok (.invokevirtual 207, 3) := by decide +kernel
theorem dX6_endDay_79 : decode cX6_endDay 79 = .ok (.iload_n 3, 1) := by decide +kernel
theorem dX6_endDay_80 : decode cX6_endDay 80 = .ok (.iadd, 1) := by decide +kernel
theorem dX6_endDay_81 : decode cX6_endDay 81 = .ok (.invokevirtual 250, 3) := by decide +kernel
theorem dX6_endDay_84 : decode cX6_endDay 84 = .ok (.iinc 2 1, 3) := by decide +kernel
theorem dX6_endDay_87 : decode cX6_endDay 87 = .ok (.goto (-45), 3) := by decide +kernel
theorem dX6_endDay_90 : decode cX6_endDay 90 = .ok (.aload_n 0, 1) := by decide +kernel
theorem dX6_endDay_91 : decode cX6_endDay 91 = .ok (.getfield 16, 3) := by decide +kernel
theorem dX6_endDay_94 : decode cX6_endDay 94 = .ok (.iconst 3, 1) := by decide +kernel
theorem dX6_endDay_95 : decode cX6_endDay 95 = .ok (.dup2, 1) := by decide +kernel
theorem dX6_endDay_96 : decode cX6_endDay 96 = .ok (.iaload, 1) := by decide +kernel
theorem dX6_endDay_97 : decode cX6_endDay 97 = .ok (.iconst 1, 1) := by decide +kernel
theorem dX6_endDay_98 : decode cX6_endDay 98 = .ok (.iadd, 1) := by decide +kernel
theorem dX6_endDay_99 : decode cX6_endDay 99 = .ok (.iastore, 1) := by decide +kernel
theorem dX6_endDay_100 : decode cX6_endDay 100 = .ok (.iload_n 1, 1) := by decide +kernel
theorem dX6_endDay_101 : decode cX6_endDay 101 = .ok (.ireturn, 1) := by decide +kernel
theorem dX6_endDays_0 : decode cX6_endDays 0 = .ok (.aload_n 0, 1) := by decide +kernel
theorem dX6_endDays_1 : decode cX6_endDays 1 = .ok (.iconst 0, 1) := by decide +kernel
theorem dX6_endDays_2 : decode cX6_endDays 2 = .ok (.putfield 51, 3) := by decide +kernel
theorem dX6_endDays_5 : decode cX6_endDays 5 = .ok (.aload_n 0, 1) := by decide +kernel
theorem dX6_endDays_6 : decode cX6_endDays 6 = .ok (.iload_n 1, 1) := by decide +kernel
theorem dX6_endDays_7 : decode cX6_endDays 7 = .ok (.i2l, 1) := by decide +kernel
theorem dX6_endDays_8 : decode cX6_endDays 8 = .ok (.lconst 1, 1) := by decide +kernel
theorem dX6_endDays_9 : decode cX6_endDays 9 = .ok (.ldc2_w 288, 3) := by decide +kernel
theorem dX6_endDays_12 : decode cX6_endDays 12 = .ok (.invokestatic 66, 3) := by decide +kernel
theorem dX6_endDays_15 : decode cX6_endDays 15 = .ok (.ifCond .eq 21, 3) := by decide +kernel
theorem dX6_endDays_18 : decode cX6_endDays 18 = .ok (.aload_n 0, 1) := by decide +kernel
theorem dX6_endDays_19 : decode cX6_endDays 19 = .ok (.getfield 16, 3) := by decide +kernel
theorem dX6_endDays_22 : decode cX6_endDays 22 = .ok (.iconst 3, 1) := by decide +kernel
theorem dX6_endDays_23 : decode cX6_endDays 23 = .ok (.iaload, 1) := by decide +kernel
theorem dX6_endDays_24 : decode cX6_endDays 24 = .ok (.iload_n 1, 1) := by decide +kernel
theorem dX6_endDays_25 : decode cX6_endDays 25 = .ok (.iadd, 1) := by decide +kernel
theorem dX6_endDays_26 : decode cX6_endDays 26 = .ok (.sipush 9999, 3) := by decide +kernel
theorem dX6_endDays_29 : decode cX6_endDays 29 = .ok (.if_icmp .gt 7, 3) := by decide +kernel
theorem dX6_endDays_32 : decode cX6_endDays 32 = .ok (.iconst 1, 1) := by decide +kernel
theorem dX6_endDays_33 : decode cX6_endDays 33 = .ok (.goto 4, 3) := by decide +kernel
theorem dX6_endDays_36 : decode cX6_endDays 36 = .ok (.iconst 0, 1) := by decide +kernel
theorem dX6_endDays_37 : decode cX6_endDays 37 = .ok (.iconst 1, 1) := by decide +kernel
theorem dX6_endDays_38 : decode cX6_endDays 38 = .ok (.invokevirtual 62, 3) := by decide +kernel
theorem dX6_endDays_41 : decode cX6_endDays 41 = .ok (.ifCond .eq 5, 3) := by decide +kernel
theorem dX6_endDays_44 : decode cX6_endDays 44 = .ok (.iconst 0, 1) := by decide +kernel
theorem dX6_endDays_45 : decode cX6_endDays 45 = .ok (.ireturn, 1) := by decide +kernel
theorem dX6_endDays_46 : decode cX6_endDays 46 = .ok (.aload_n 0, 1) := by decide +kernel
theorem dX6_endDays_47 : decode cX6_endDays 47 = .ok (.invokevirtual 229, 3) := by decide +kernel
theorem dX6_endDays_50 : decode cX6_endDays 50 = .ok (.iconst 0, 1) := by decide +kernel
theorem dX6_endDays_51 : decode cX6_endDays 51 = .ok (.istore_n 2, 1) := by decide +kernel
theorem dX6_endDays_52 : decode cX6_endDays 52 = .ok (.iconst 0, 1) := by decide +kernel
theorem dX6_endDays_53 : decode cX6_endDays 53 = .ok (.istore_n 3, 1) := by decide +kernel
theorem dX6_endDays_54 : decode cX6_endDays 54 = .ok (.iload_n 3, 1) := by decide +kernel
theorem dX6_endDays_55 : decode cX6_endDays 55 = .ok (.iload_n 1, 1) := by decide +kernel
theorem dX6_endDays_56 : decode cX6_endDays 56 = .ok (.if_icmp .ge 16, 3) := by decide +kernel
theorem dX6_endDays_59 : decode cX6_endDays 59 = .ok (.iload_n 2, 1) := by decide +kernel
theorem dX6_endDays_60 : decode cX6_endDays 60 = .ok (.aload_n 0, 1) := by decide +kernel
theorem dX6_endDays_61 : decode cX6_endDays 61 = .ok (.invokevirtual 290, 3) := by decide +kernel
theorem dX6_endDays_64 : decode cX6_endDays 64 = .ok (.iadd, 1) := by decide +kernel
theorem dX6_endDays_65 : decode cX6_endDays 65 = .ok (.istore_n 2, 1) := by decide +kernel
theorem dX6_endDays_66 : decode cX6_endDays 66 = .ok (.iinc 3 1, 3) := by decide +kernel
theorem dX6_endDays_69 : decode cX6_endDays 69 = .ok (.goto (-15), 3) := by decide +kernel
theorem dX6_endDays_72 : decode cX6_endDays 72 = .ok (.iload_n 2, 1) := by decide +kernel
theorem dX6_endDays_73 : decode cX6_endDays 73 = .ok (.ireturn, 1) := by decide +kernel
theorem dX6_count_0 : decode cX6_count 0 = .ok (.aload_n 0, 1) := by decide +kernel
theorem dX6_count_1 : decode cX6_count 1 = .ok (.iconst 0, 1) := by decide +kernel
theorem dX6_count_2 : decode cX6_count 2 = .ok (.putfield 51, 3) := by decide +kernel
theorem dX6_count_5 : decode cX6_count 5 = .ok (.iload_n 1, 1) := by decide +kernel
theorem dX6_count_6 : decode cX6_count 6 = .ok (.tableswitch 133 0 9 #[54, 61, 69, 78, 87, 96, 105, 112, 119, 126], 54) := by decide +kernel
theorem dX6_count_60 : decode cX6_count 60 = .ok (.aload_n 0, 1) := by decide +kernel
theorem dX6_count_61 : decode cX6_count 61 = .ok (.getfield 16, 3) := by decide +kernel
theorem dX6_count_64 : decode cX6_count 64 = .ok (.iconst 4, 1) := by decide +kernel
theorem dX6_count_65 : decode cX6_count 65 = .ok (.iaload, 1) := by decide +kernel
theorem dX6_count_66 : decode cX6_count 66 = .ok (.ireturn, 1) := by decide +kernel
theorem dX6_count_67 : decode cX6_count 67 = .ok (.aload_n 0, 1) := by decide +kernel
theorem dX6_count_68 : decode cX6_count 68 = .ok (.getfield 16, 3) := by decide +kernel
theorem dX6_count_71 : decode cX6_count 71 = .ok (.bipush 37, 2) := by decide +kernel
theorem dX6_count_73 : decode cX6_count 73 = .ok (.iaload, 1) := by decide +kernel
theorem dX6_count_74 : decode cX6_count 74 = .ok (.ireturn, 1) := by decide +kernel
theorem dX6_count_75 : decode cX6_count 75 = .ok (.aload_n 0, 1) := by decide +kernel
theorem dX6_count_76 : decode cX6_count 76 = .ok (.getfield 16, 3) := by decide +kernel
theorem dX6_count_79 : decode cX6_count 79 = .ok (.sipush 470, 3) := by decide +kernel
theorem dX6_count_82 : decode cX6_count 82 = .ok (.iaload, 1) := by decide +kernel
theorem dX6_count_83 : decode cX6_count 83 = .ok (.ireturn, 1) := by decide +kernel
theorem dX6_count_84 : decode cX6_count 84 = .ok (.aload_n 0, 1) := by decide +kernel
theorem dX6_count_85 : decode cX6_count 85 = .ok (.getfield 16, 3) := by decide +kernel
theorem dX6_count_88 : decode cX6_count 88 = .ok (.sipush 546, 3) := by decide +kernel
theorem dX6_count_91 : decode cX6_count 91 = .ok (.iaload, 1) := by decide +kernel
theorem dX6_count_92 : decode cX6_count 92 = .ok (.ireturn, 1) := by decide +kernel
theorem dX6_count_93 : decode cX6_count 93 = .ok (.aload_n 0, 1) := by decide +kernel
theorem dX6_count_94 : decode cX6_count 94 = .ok (.getfield 16, 3) := by decide +kernel
theorem dX6_count_97 : decode cX6_count 97 = .ok (.sipush 619, 3) := by decide +kernel
theorem dX6_count_100 : decode cX6_count 100 = .ok (.iaload, 1) := by decide +kernel
theorem dX6_count_101 : decode cX6_count 101 = .ok (.ireturn, 1) := by decide +kernel
theorem dX6_count_102 : decode cX6_count 102 = .ok (.aload_n 0, 1) := by decide +kernel
theorem dX6_count_103 : decode cX6_count 103 = .ok (.getfield 16, 3) := by decide +kernel
theorem dX6_count_106 : decode cX6_count 106 = .ok (.sipush 644, 3) := by decide +kernel
theorem dX6_count_109 : decode cX6_count 109 = .ok (.iaload, 1) := by decide +kernel
theorem dX6_count_110 : decode cX6_count 110 = .ok (.ireturn, 1) := by decide +kernel
theorem dX6_count_111 : decode cX6_count 111 = .ok (.aload_n 0, 1) := by decide +kernel
theorem dX6_count_112 : decode cX6_count 112 = .ok (.getfield 16, 3) := by decide +kernel
theorem dX6_count_115 : decode cX6_count 115 = .ok (.iconst 3, 1) := by decide +kernel
theorem dX6_count_116 : decode cX6_count 116 = .ok (.iaload, 1) := by decide +kernel
theorem dX6_count_117 : decode cX6_count 117 = .ok (.ireturn, 1) := by decide +kernel
theorem dX6_count_118 : decode cX6_count 118 = .ok (.aload_n 0, 1) := by decide +kernel
theorem dX6_count_119 : decode cX6_count 119 = .ok (.getfield 16, 3) := by decide +kernel
theorem dX6_count_122 : decode cX6_count 122 = .ok (.iconst 0, 1) := by decide +kernel
theorem dX6_count_123 : decode cX6_count 123 = .ok (.iaload, 1) := by decide +kernel
theorem dX6_count_124 : decode cX6_count 124 = .ok (.ireturn, 1) := by decide +kernel
theorem dX6_count_125 : decode cX6_count 125 = .ok (.aload_n 0, 1) := by decide +kernel
theorem dX6_count_126 : decode cX6_count 126 = .ok (.getfield 16, 3) := by decide +kernel
theorem dX6_count_129 : decode cX6_count 129 = .ok (.iconst 1, 1) := by decide +kernel
theorem dX6_count_130 : decode cX6_count 130 = .ok (.iaload, 1) := by decide +kernel
theorem dX6_count_131 : decode cX6_count 131 = .ok (.ireturn, 1) := by decide +kernel
theorem dX6_count_132 : decode cX6_count 132 = .ok (.aload_n 0, 1) := by decide +kernel
theorem dX6_count_133 : decode cX6_count 133 = .ok (.getfield 16, 3) := by decide +kernel
theorem dX6_count_136 : decode cX6_count 136 = .ok (.iconst 2, 1) := by decide +kernel
theorem dX6_count_137 : decode cX6_count 137 = .ok (.iaload, 1) := by decide +kernel
theorem dX6_count_138 : decode cX6_count 138 = .ok (.ireturn, 1) := by decide +kernel
theorem dX6_count_139 : decode cX6_count 139 = .ok (.aload_n 0, 1) := by decide +kernel
theorem dX6_count_140 : decode cX6_count 140 = .ok (.iconst 1, 1) := by decide +kernel
theorem dX6_count_141 : decode cX6_count 141 = .ok (.putfield 51, 3) := by decide +kernel
theorem dX6_count_144 : decode cX6_count 144 = .ok (.iconst 0, 1) := by decide +kernel
theorem dX6_count_145 : decode cX6_count 145 = .ok (.ireturn, 1) := by decide +kernel
theorem dX6_wall_0 : decode cX6_wall 0 = .ok (.aload_n 0, 1) := by decide +kernel
theorem dX6_wall_1 : decode cX6_wall 1 = .ok (.iconst 0, 1) := by decide +kernel
theorem dX6_wall_2 : decode cX6_wall 2 = .ok (.putfield 51, 3) := by decide +kernel
theorem dX6_wall_5 : decode cX6_wall 5 = .ok (.aload_n 0, 1) := by decide +kernel
theorem dX6_wall_6 : decode cX6_wall 6 = .ok (.aload_n 0, 1) := by decide +kernel
theorem dX6_wall_7 : decode cX6_wall 7 = .ok (.iload_n 1, 1) := by decide +kernel
theorem dX6_wall_8 : decode cX6_wall 8 = .ok (.invokevirtual 220, 3) := by decide +kernel
theorem dX6_wall_11 : decode cX6_wall 11 = .ok (.iconst 1, 1) := by decide +kernel
theorem dX6_wall_12 : decode cX6_wall 12 = .ok (.invokevirtual 62, 3) := by decide +kernel
theorem dX6_wall_15 : decode cX6_wall 15 = .ok (.ifCond .ne 20, 3) := by decide +kernel
theorem dX6_wall_18 : decode cX6_wall 18 = .ok (.aload_n 0, 1) := by decide +kernel
theorem dX6_wall_19 : decode cX6_wall 19 = .ok (.iload_n 2, 1) := by decide +kernel
theorem dX6_wall_20 : decode cX6_wall 20 = .ok (.i2l, 1) := by decide +kernel
theorem dX6_wall_21 : decode cX6_wall 21 = .ok (.lconst 0, 1) := by decide +kernel
theorem dX6_wall_22 : decode cX6_wall 22 = .ok (.ldc2_w 293, 3) := by decide +kernel
theorem dX6_wall_25 : decode cX6_wall 25 = .ok (.invokestatic 66, 3) := by decide +kernel
theorem dX6_wall_28 : decode cX6_wall 28 = .ok (.iconst 2, 1) := by decide +kernel
theorem dX6_wall_29 : decode cX6_wall 29 = .ok (.invokevirtual 62, 3) := by decide +kernel
theorem dX6_wall_32 : decode cX6_wall 32 = .ok (.ifCond .eq 5, 3) := by decide +kernel
theorem dX6_wall_35 : decode cX6_wall 35 = .ok (.iconst 0, 1) := by decide +kernel
theorem dX6_wall_36 : decode cX6_wall 36 = .ok (.ireturn, 1) := by decide +kernel
theorem dX6_wall_37 : decode cX6_wall 37 = .ok (.iload_n 2, 1) := by decide +kernel
theorem dX6_wall_38 : decode cX6_wall 38 = .ok (.iconst 3, 1) := by decide +kernel
theorem dX6_wall_39 : decode cX6_wall 39 = .ok (.if_icmp .gt 10, 3) := by decide +kernel
theorem dX6_wall_42 : decode cX6_wall 42 = .ok (.aload_n 0, 1) := by decide +kernel
theorem dX6_wall_43 : decode cX6_wall 43 = .ok (.iload_n 1, 1) := by decide +kernel
theorem dX6_wall_44 : decode cX6_wall 44 = .ok (.iload_n 2, 1) := by decide +kernel
theorem dX6_wall_45 : decode cX6_wall 45 = .ok (.invokevirtual 195, 3) := by decide +kernel
theorem dX6_wall_48 : decode cX6_wall 48 = .ok (.ireturn, 1) := by decide +kernel
theorem dX6_wall_49 : decode cX6_wall 49 = .ok (.iload_n 2, 1) := by decide +kernel
theorem dX6_wall_50 : decode cX6_wall 50 = .ok (.iconst 4, 1) := by decide +kernel
theorem dX6_wall_51 : decode cX6_wall 51 = .ok (.if_icmp .ne 11, 3) := by decide +kernel
theorem dX6_wall_54 : decode cX6_wall 54 = .ok (.aload_n 0, 1) := by decide +kernel
theorem dX6_wall_55 : decode cX6_wall 55 = .ok (.iload_n 1, 1) := by decide +kernel
theorem dX6_wall_56 : decode cX6_wall 56 = .ok (.invokevirtual 226, 3) := by decide +kernel
theorem dX6_wall_59 : decode cX6_wall 59 = .ok (.goto 16, 3) := by decide +kernel
theorem dX6_wall_62 : decode cX6_wall 62 = .ok (.aload_n 0, 1) := by decide +kernel
theorem dX6_wall_63 : decode cX6_wall 63 = .ok (.iload_n 1, 1) := by decide +kernel
theorem dX6_wall_64 : decode cX6_wall 64 = .ok (.invokevirtual 214, 3) := by decide +kernel
theorem dX6_wall_67 : decode cX6_wall 67 = .ok (.ifCond .eq 7, 3) := by decide +kernel
theorem dX6_wall_70 : decode cX6_wall 70 = .ok (.iconst 1, 1) := by decide +kernel
theorem dX6_wall_71 : decode cX6_wall 71 = .ok (.goto 4, 3) := by decide +kernel
theorem dX6_wall_74 : decode cX6_wall 74 = .ok (.iconst 0, 1) := by decide +kernel
theorem dX6_wall_75 : decode cX6_wall 75 = .ok (.ireturn, 1) := by decide +kernel
theorem dX6_votesOf_0 : decode cX6_votesOf 0 = .ok (.iconst 0, 1) := by decide +kernel
theorem dX6_votesOf_1 : decode cX6_votesOf 1 = .ok (.istore_n 2, 1) := by decide +kernel
theorem dX6_votesOf_2 : decode cX6_votesOf 2 = .ok (.iconst 0, 1) := by decide +kernel
theorem dX6_votesOf_3 : decode cX6_votesOf 3 = .ok (.istore_n 3, 1) := by decide +kernel
theorem dX6_votesOf_4 : decode cX6_votesOf 4 = .ok (.iload_n 3, 1) := by decide +kernel
theorem dX6_votesOf_5 : decode cX6_votesOf 5 = .ok (.aload_n 0, 1) := by decide +kernel
theorem dX6_votesOf_6 : decode cX6_votesOf 6 = .ok (.getfield 16, 3) := by decide +kernel
theorem dX6_votesOf_9 : decode cX6_votesOf 9 = .ok (.sipush 546, 3) := by decide +kernel
theorem dX6_votesOf_12 : decode cX6_votesOf 12 = .ok (.iaload, 1) := by decide +kernel
theorem dX6_votesOf_13 : decode cX6_votesOf 13 = .ok (.if_icmp .ge 30, 3) := by decide +kernel
theorem dX6_votesOf_16 : decode cX6_votesOf 16 = .ok (.iload_n 2, 1) := by decide +kernel
theorem dX6_votesOf_17 : decode cX6_votesOf 17 = .ok (.aload_n 0, 1) := by decide +kernel
theorem dX6_votesOf_18 : decode cX6_votesOf 18 = .ok (.iload_n 1, 1) := by decide +kernel
theorem dX6_votesOf_19 : decode cX6_votesOf 19 = .ok (.bipush 6, 2) := by decide +kernel
theorem dX6_votesOf_21 : decode cX6_votesOf 21 = .ok (.iload_n 3, 1) := by decide +kernel
theorem dX6_votesOf_22 : decode cX6_votesOf 22 = .ok (.iadd, 1) := by decide +kernel
theorem dX6_votesOf_23 : decode cX6_votesOf 23 = .ok (.invokevirtual 163, 3) := by decide +kernel
theorem dX6_votesOf_26 : decode cX6_votesOf 26 = .ok (.iconst (-1), 1) := by decide +kernel
theorem dX6_votesOf_27 : decode cX6_votesOf 27 = .ok (.if_icmp .eq 7, 3) := by decide +kernel
theorem dX6_votesOf_30 : decode cX6_votesOf 30 = .ok (.iconst 1, 1) := by decide +kernel
theorem dX6_votesOf_31 : decode cX6_votesOf 31 = .ok (.goto 4, 3) := by decide +kernel
theorem dX6_votesOf_34 : decode cX6_votesOf 34 = .ok (.iconst 0, 1) := by decide +kernel
theorem dX6_votesOf_35 : decode cX6_votesOf 35 = .ok (.iadd, 1) := by decide +kernel
theorem dX6_votesOf_36 : decode cX6_votesOf 36 = .ok (.istore_n 2, 1) := by decide +kernel
theorem dX6_votesOf_37 : decode cX6_votesOf 37 = .ok (.iinc 3 1, 3) := by decide +kernel
theorem dX6_votesOf_40 : decode cX6_votesOf 40 = .ok (.goto (-36), 3) := by decide +kernel
theorem dX6_votesOf_43 : decode cX6_votesOf 43 = .ok (.iload_n 2, 1) := by decide +kernel
theorem dX6_votesOf_44 : decode cX6_votesOf 44 = .ok (.ireturn, 1) := by decide +kernel
theorem dX6_route_0 : decode cX6_route 0 = .ok (.aload_n 0, 1) := by decide +kernel
theorem dX6_route_1 : decode cX6_route 1 = .ok (.iconst 0, 1) := by decide +kernel
theorem dX6_route_2 : decode cX6_route 2 = .ok (.putfield 51, 3) := by decide +kernel
theorem dX6_route_5 : decode cX6_route 5 = .ok (.aload_n 0, 1) := by decide +kernel
theorem dX6_route_6 : decode cX6_route 6 = .ok (.aload_n 0, 1) := by decide +kernel
theorem dX6_route_7 : decode cX6_route 7 = .ok (.iload_n 1, 1) := by decide +kernel
theorem dX6_route_8 : decode cX6_route 8 = .ok (.invokevirtual 238, 3) := by decide +kernel
theorem dX6_route_11 : decode cX6_route 11 = .ok (.iconst 1, 1) := by decide +kernel
theorem dX6_route_12 : decode cX6_route 12 = .ok (.invokevirtual 62, 3) := by decide +kernel
theorem dX6_route_15 : decode cX6_route 15 = .ok (.ifCond .ne 20, 3) := by decide +kernel
theorem dX6_route_18 : decode cX6_route 18 = .ok (.aload_n 0, 1) := by decide +kernel
theorem dX6_route_19 : decode cX6_route 19 = .ok (.iload_n 2, 1) := by decide +kernel
theorem dX6_route_20 : decode cX6_route 20 = .ok (.i2l, 1) := by decide +kernel
theorem dX6_route_21 : decode cX6_route 21 = .ok (.lconst 0, 1) := by decide +kernel
theorem dX6_route_22 : decode cX6_route 22 = .ok (.ldc2_w 295, 3) := by decide +kernel
theorem dX6_route_25 : decode cX6_route 25 = .ok (.invokestatic 66, 3) := by decide +kernel
theorem dX6_route_28 : decode cX6_route 28 = .ok (.iconst 2, 1) := by decide +kernel
theorem dX6_route_29 : decode cX6_route 29 = .ok (.invokevirtual 62, 3) := by decide +kernel
theorem dX6_route_32 : decode cX6_route 32 = .ok (.ifCond .eq 5, 3) := by decide +kernel
theorem dX6_route_35 : decode cX6_route 35 = .ok (.iconst 0, 1) := by decide +kernel
theorem dX6_route_36 : decode cX6_route 36 = .ok (.ireturn, 1) := by decide +kernel
theorem dX6_route_37 : decode cX6_route 37 = .ok (.iload_n 2, 1) := by decide +kernel
theorem dX6_route_38 : decode cX6_route 38 = .ok (.iconst 4, 1) := by decide +kernel
theorem dX6_route_39 : decode cX6_route 39 = .ok (.if_icmp .gt 10, 3) := by decide +kernel
theorem dX6_route_42 : decode cX6_route 42 = .ok (.aload_n 0, 1) := by decide +kernel
theorem dX6_route_43 : decode cX6_route 43 = .ok (.iload_n 1, 1) := by decide +kernel
theorem dX6_route_44 : decode cX6_route 44 = .ok (.iload_n 2, 1) := by decide +kernel
theorem dX6_route_45 : decode cX6_route 45 = .ok (.invokevirtual 163, 3) := by decide +kernel
theorem dX6_route_48 : decode cX6_route 48 = .ok (.ireturn, 1) := by decide +kernel
theorem dX6_route_49 : decode cX6_route 49 = .ok (.iload_n 2, 1) := by decide +kernel
theorem dX6_route_50 : decode cX6_route 50 = .ok (.iconst 5, 1) := by decide +kernel
theorem dX6_route_51 : decode cX6_route 51 = .ok (.if_icmp .ne 11, 3) := by decide +kernel
theorem dX6_route_54 : decode cX6_route 54 = .ok (.aload_n 0, 1) := by decide +kernel
theorem dX6_route_55 : decode cX6_route 55 = .ok (.iload_n 1, 1) := by decide +kernel
theorem dX6_route_56 : decode cX6_route 56 = .ok (.invokevirtual 297, 3) := by decide +kernel
theorem dX6_route_59 : decode cX6_route 59 = .ok (.goto 16, 3) := by decide +kernel
theorem dX6_route_62 : decode cX6_route 62 = .ok (.aload_n 0, 1) := by decide +kernel
theorem dX6_route_63 : decode cX6_route 63 = .ok (.iload_n 1, 1) := by decide +kernel
theorem dX6_route_64 : decode cX6_route 64 = .ok (.invokevirtual 217, 3) := by decide +kernel
theorem dX6_route_67 : decode cX6_route 67 = .ok (.ifCond .eq 7, 3) := by decide +kernel
theorem dX6_route_70 : decode cX6_route 70 = .ok (.iconst 1, 1) := by decide +kernel
theorem dX6_route_71 : decode cX6_route 71 = .ok (.goto 4, 3) := by decide +kernel
theorem dX6_route_74 : decode cX6_route 74 = .ok (.iconst 0, 1) := by decide +kernel
theorem dX6_route_75 : decode cX6_route 75 = .ok (.ireturn, 1) := by decide +kernel
theorem dX6_archived_0 : decode cX6_archived 0 = .ok (.aload_n 0, 1) := by decide +kernel
theorem dX6_archived_1 : decode cX6_archived 1 = .ok (.iconst 0, 1) := by decide +kernel
theorem dX6_archived_2 : decode cX6_archived 2 = .ok (.putfield 51, 3) := by decide +kernel
theorem dX6_archived_5 : decode cX6_archived 5 = .ok (.aload_n 0, 1) := by decide +kernel
theorem dX6_archived_6 : decode cX6_archived 6 = .ok (.iload_n 1, 1) := by decide +kernel
theorem dX6_archived_7 : decode cX6_archived 7 = .ok (.i2l, 1) := by decide +kernel
theorem dX6_archived_8 : decode cX6_archived 8 = .ok (.lconst 0, 1) := by decide +kernel
theorem dX6_archived_9 : decode cX6_archived 9 = .ok (.aload_n 0, 1) := by decide +kernel
theorem dX6_archived_10 : decode cX6_archived 10 = .ok (.getfield 16, 3) := by decide +kernel
theorem dX6_archived_13 : decode cX6_archived 13 = .ok (.sipush 644, 3) := by decide +kernel
theorem dX6_archived_16 : decode cX6_archived 16 = .ok (.iaload, 1) := by decide +kernel
theorem dX6_archived_17 : decode cX6_archived 17 = .ok (.iconst 1, 1) := by decide +kernel
theorem dX6_archived_18 : decode cX6_archived 18 = .ok (.isub, 1) := by decide +kernel
theorem dX6_archived_19 : decode cX6_archived 19 = .ok (.i2l, 1) := by decide +kernel
theorem dX6_archived_20 : decode cX6_archived 20 = .ok (.invokestatic 66, 3) := by decide +kernel
theorem dX6_archived_23 : decode cX6_archived 23 = .ok (.iconst 1, 1) := by decide +kernel
theorem dX6_archived_24 : decode cX6_archived 24 = .ok (.invokevirtual 62, 3) := by decide +kernel
theorem dX6_archived_27 : decode cX6_archived 27 = .ok (.ifCond .ne 20, 3) := by decide +kernel
theorem dX6_archived_30 : decode cX6_archived 30 = .ok (.aload_n 0, 1) := by decide +kernel
theorem dX6_archived_31 : decode cX6_archived 31 = .ok (.iload_n 2, 1) := by decide +kernel
theorem dX6_archived_32 : decode cX6_archived 32 = .ok (.i2l, 1) := by decide +kernel
theorem dX6_archived_33 : decode cX6_archived 33 = .ok (.lconst 0, 1) := by decide +kernel
theorem dX6_archived_34 : decode cX6_archived 34 = .ok (.ldc2_w 300, 3) := by decide +kernel
theorem dX6_archived_37 : decode cX6_archived 37 = .ok (.invokestatic 66, 3) := by decide +kernel
theorem dX6_archived_40 : decode cX6_archived 40 = .ok (.iconst 2, 1) := by decide +kernel
theorem dX6_archived_41 : decode cX6_archived 41 = .ok (.invokevirtual 62, 3) := by decide +kernel
theorem dX6_archived_44 : decode cX6_archived 44 = .ok (.ifCond .eq 5, 3) := by decide +kernel
theorem dX6_archived_47 : decode cX6_archived 47 = .ok (.iconst 0, 1) := by decide +kernel
theorem dX6_archived_48 : decode cX6_archived 48 = .ok (.ireturn, 1) := by decide +kernel
theorem dX6_archived_49 : decode cX6_archived 49 = .ok (.aload_n 0, 1) := by decide +kernel
theorem dX6_archived_50 : decode cX6_archived 50 = .ok (.getfield 16, 3) := by decide +kernel
theorem dX6_archived_53 : decode cX6_archived 53 = .ok (.sipush 645, 3) := by decide +kernel
theorem dX6_archived_56 : decode cX6_archived 56 = .ok (.iconst 4, 1) := by decide +kernel
theorem dX6_archived_57 : decode cX6_archived 57 = .ok (.iload_n 1, 1) := by decide +kernel
theorem dX6_archived_58 : decode cX6_archived 58 = .ok (.imul, 1) := by decide +kernel
theorem dX6_archived_59 : decode cX6_archived 59 = .ok (.iadd, 1) := by decide +kernel
theorem dX6_archived_60 : decode cX6_archived 60 = .ok (.iload_n 2, 1) := by decide +kernel
theorem dX6_archived_61 : decode cX6_archived 61 = .ok (.iadd, 1) := by decide +kernel
theorem dX6_archived_62 : decode cX6_archived 62 = .ok (.iaload, 1) := by decide +kernel
theorem dX6_archived_63 : decode cX6_archived 63 = .ok (.ireturn, 1) := by decide +kernel
theorem dX6_member_0 : decode cX6_member 0 = .ok (.aload_n 0, 1) := by decide +kernel
theorem dX6_member_1 : decode cX6_member 1 = .ok (.iconst 0, 1) := by decide +kernel
theorem dX6_member_2 : decode cX6_member 2 = .ok (.putfield 51, 3) := by decide +kernel
theorem dX6_member_5 : decode cX6_member 5 = .ok (.aload_n 0, 1) := by decide +kernel
theorem dX6_member_6 : decode cX6_member 6 = .ok (.aload_n 0, 1) := by decide +kernel
theorem dX6_member_7 : decode cX6_member 7 = .ok (.iload_n 1, 1) := by decide +kernel
theorem dX6_member_8 : decode cX6_member 8 = .ok (.invokevirtual 244, 3) := by decide +kernel
theorem dX6_member_11 : decode cX6_member 11 = .ok (.iconst 1, 1) := by decide +kernel
theorem dX6_member_12 : decode cX6_member 12 = .ok (.invokevirtual 62, 3) := by decide +kernel
theorem dX6_member_15 : decode cX6_member 15 = .ok (.ifCond .ne 20, 3) := by decide +kernel
theorem dX6_member_18 : decode cX6_member 18 = .ok (.aload_n 0, 1) := by decide +kernel
theorem dX6_member_19 : decode cX6_member 19 = .ok (.iload_n 2, 1) := by decide +kernel
theorem dX6_member_20 : decode cX6_member 20 = .ok (.i2l, 1) := by decide +kernel
theorem dX6_member_21 : decode cX6_member 21 = .ok (.lconst 0, 1) := by decide +kernel
theorem dX6_member_22 : decode cX6_member 22 = .ok (.ldc2_w 293, 3) := by decide +kernel
theorem dX6_member_25 : decode cX6_member 25 = .ok (.invokestatic 66, 3) := by decide +kernel
theorem dX6_member_28 : decode cX6_member 28 = .ok (.iconst 2, 1) := by decide +kernel
theorem dX6_member_29 : decode cX6_member 29 = .ok (.invokevirtual 62, 3) := by decide +kernel
theorem dX6_member_32 : decode cX6_member 32 = .ok (.ifCond .eq 5, 3) := by decide +kernel
theorem dX6_member_35 : decode cX6_member 35 = .ok (.iconst 0, 1) := by decide +kernel
theorem dX6_member_36 : decode cX6_member 36 = .ok (.ireturn, 1) := by decide +kernel
theorem dX6_member_37 : decode cX6_member 37 = .ok (.aload_n 0, 1) := by decide +kernel
theorem dX6_member_38 : decode cX6_member 38 = .ok (.iload_n 1, 1) := by decide +kernel
theorem dX6_member_39 : decode cX6_member 39 = .ok (.iload_n 2, 1) := by decide +kernel
theorem dX6_member_40 : decode cX6_member 40 = .ok (.invokevirtual 207, 3) := by decide +kernel
theorem dX6_member_43 : decode cX6_member 43 = .ok (.ireturn, 1) := by decide +kernel
theorem dX6_harness_0 : decode cX6_harness 0 = .ok (.aload_n 0, 1) := by decide +kernel
theorem dX6_harness_1 : decode cX6_harness 1 = .ok (.iconst 0, 1) := by decide +kernel
theorem dX6_harness_2 : decode cX6_harness 2 = .ok (.putfield 51, 3) := by decide +kernel
theorem dX6_harness_5 : decode cX6_harness 5 = .ok (.aload_n 0, 1) := by decide +kernel
theorem dX6_harness_6 : decode cX6_harness 6 = .ok (.aload_n 0, 1) := by decide +kernel
theorem dX6_harness_7 : decode cX6_harness 7 = .ok (.iload_n 1, 1) := by decide +kernel
theorem dX6_harness_8 : decode cX6_harness 8 = .ok (.invokevirtual 259, 3) := by decide +kernel
theorem dX6_harness_11 : decode cX6_harness 11 = .ok (.iconst 1, 1) := by decide +kernel
theorem dX6_harness_12 : decode cX6_harness 12 = .ok (.invokevirtual 62, 3) := by decide +kernel
theorem dX6_harness_15 : decode cX6_harness 15 = .ok (.ifCond .ne 20, 3) := by decide +kernel
theorem dX6_harness_18 : decode cX6_harness 18 = .ok (.aload_n 0, 1) := by decide +kernel
theorem dX6_harness_19 : decode cX6_harness 19 = .ok (.iload_n 2, 1) := by decide +kernel
theorem dX6_harness_20 : decode cX6_harness 20 = .ok (.i2l, 1) := by decide +kernel
theorem dX6_harness_21 : decode cX6_harness 21 = .ok (.lconst 0, 1) := by decide +kernel
theorem dX6_harness_22 : decode cX6_harness 22 = .ok (.ldc2_w 293, 3) := by decide +kernel
theorem dX6_harness_25 : decode cX6_harness 25 = .ok (.invokestatic 66, 3) := by decide +kernel
theorem dX6_harness_28 : decode cX6_harness 28 = .ok (.iconst 2, 1) := by decide +kernel
theorem dX6_harness_29 : decode cX6_harness 29 = .ok (.invokevirtual 62, 3) := by decide +kernel
theorem dX6_harness_32 : decode cX6_harness 32 = .ok (.ifCond .eq 5, 3) := by decide +kernel
theorem dX6_harness_35 : decode cX6_harness 35 = .ok (.iconst 0, 1) := by decide +kernel
theorem dX6_harness_36 : decode cX6_harness 36 = .ok (.ireturn, 1) := by decide +kernel
theorem dX6_harness_37 : decode cX6_harness 37 = .ok (.iload_n 2, 1) := by decide +kernel
theorem dX6_harness_38 : decode cX6_harness 38 = .ok (.tableswitch 78 3 5 #[26, 32, 58], 26) := by decide +kernel
theorem dX6_harness_64 : decode cX6_harness 64 = .ok (.aload_n 0, 1) := by decide +kernel
theorem dX6_harness_65 : decode cX6_harness 65 = .ok (.iload_n 1, 1) := by decide +kernel
theorem dX6_harness_66 : decode cX6_harness 66 = .ok (.invokevirtual 204, 3) := by decide +kernel
theorem dX6_harness_69 : decode cX6_harness 69 = .ok (.ireturn, 1) := by decide +kernel
theorem dX6_harness_70 : decode cX6_harness 70 = .ok (.aload_n 0, 1) := by decide +kernel
theorem dX6_harness_71 : decode cX6_harness 71 = .ok (.iload_n 1, 1) := by decide +kernel
theorem dX6_harness_72 : decode cX6_harness 72 = .ok (.invokevirtual 201, 3) := by decide +kernel
theorem dX6_harness_75 : decode cX6_harness 75 = .ok (.ifCond .eq 7, 3) := by decide +kernel
theorem dX6_harness_78 : decode cX6_harness 78 = .ok (.iconst 2, 1) := by decide +kernel
theorem dX6_harness_79 : decode cX6_harness 79 = .ok (.goto 16, 3) := by decide +kernel
theorem dX6_harness_82 : decode cX6_harness 82 = .ok (.aload_n 0, 1) := by decide +kernel
theorem dX6_harness_83 : decode cX6_harness 83 = .ok (.iload_n 1, 1) := by decide +kernel
theorem dX6_harness_84 : decode cX6_harness 84 = .ok (.invokevirtual 256, 3) := by decide +kernel
theorem dX6_harness_87 : decode cX6_harness 87 = .ok (.ifCond .eq 7, 3) := by decide +kernel
theorem dX6_harness_90 : decode cX6_harness 90 = .ok (.iconst 1, 1) := by decide +kernel
theorem dX6_harness_91 : decode cX6_harness 91 = .ok (.goto 4, 3) := by decide +kernel
theorem dX6_harness_94 : decode cX6_harness 94 = .ok (.iconst 0, 1) := by decide +kernel
theorem dX6_harness_95 : decode cX6_harness 95 = .ok (.ireturn, 1) := by decide +kernel
theorem dX6_harness_96 : decode cX6_harness 96 = .ok (.aload_n 0, 1) := by decide +kernel
theorem dX6_harness_97 : decode cX6_harness 97 = .ok (.iload_n 1, 1) := by decide +kernel
theorem dX6_harness_98 : decode cX6_harness 98 = .ok (.aload_n 0, 1) := by decide +kernel
theorem dX6_harness_99 : decode cX6_harness 99 = .ok (.getfield 16, 3) := by decide +kernel
theorem dX6_harness_102 : decode cX6_harness 102 = .ok (.iconst 3, 1) := by decide +kernel
theorem dX6_harness_103 : decode cX6_harness 103 = .ok (.iaload, 1) := by decide +kernel
theorem dX6_harness_104 : decode cX6_harness 104 = .ok (.invokevirtual 210, 3) := by decide +kernel
theorem dX6_harness_107 : decode cX6_harness 107 = .ok (.ifCond .eq 7, 3) := by decide +kernel
theorem dX6_harness_110 : decode cX6_harness 110 = .ok (.iconst 1, 1) := by decide +kernel
theorem dX6_harness_111 : decode cX6_harness 111 = .ok (.goto 4, 3) := by decide +kernel
theorem dX6_harness_114 : decode cX6_harness 114 = .ok (.iconst 0, 1) := by decide +kernel
theorem dX6_harness_115 : decode cX6_harness 115 = .ok (.ireturn, 1) := by decide +kernel
theorem dX6_harness_116 : decode cX6_harness 116 = .ok (.aload_n 0, 1) := by decide +kernel
theorem dX6_harness_117 : decode cX6_harness 117 = .ok (.iload_n 1, 1) := by decide +kernel
theorem dX6_harness_118 : decode cX6_harness 118 = .ok (.iload_n 2, 1) := by decide +kernel
theorem dX6_harness_119 : decode cX6_harness 119 = .ok (.invokevirtual 198, 3) := by decide +kernel
theorem dX6_harness_122 : decode cX6_harness 122 = .ok (.ireturn, 1) := by decide +kernel
theorem dX6_course_0 : decode cX6_course 0 = .ok (.aload_n 0, 1) := by decide +kernel
theorem dX6_course_1 : decode cX6_course 1 = .ok (.iconst 0, 1) := by decide +kernel
theorem dX6_course_2 : decode cX6_course 2 = .ok (.putfield 51, 3) := by decide +kernel
theorem dX6_course_5 : decode cX6_course 5 = .ok (.aload_n 0, 1) := by decide +kernel
theorem dX6_course_6 : decode cX6_course 6 = .ok (.aload_n 0, 1) := by decide +kernel
theorem dX6_course_7 : decode cX6_course 7 = .ok (.iload_n 1, 1) := by decide +kernel
theorem dX6_course_8 : decode cX6_course 8 = .ok (.invokevirtual 277, 3) := by decide +kernel
theorem dX6_course_11 : decode cX6_course 11 = .ok (.iconst 1, 1) := by decide +kernel
theorem dX6_course_12 : decode cX6_course 12 = .ok (.invokevirtual 62, 3) := by decide +kernel
theorem dX6_course_15 : decode cX6_course 15 = .ok (.ifCond .ne 20, 3) := by decide +kernel
theorem dX6_course_18 : decode cX6_course 18 = .ok (.aload_n 0, 1) := by decide +kernel
theorem dX6_course_19 : decode cX6_course 19 = .ok (.iload_n 2, 1) := by decide +kernel
theorem dX6_course_20 : decode cX6_course 20 = .ok (.i2l, 1) := by decide +kernel
theorem dX6_course_21 : decode cX6_course 21 = .ok (.lconst 0, 1) := by decide +kernel
theorem dX6_course_22 : decode cX6_course 22 = .ok (.ldc2_w 300, 3) := by decide +kernel
theorem dX6_course_25 : decode cX6_course 25 = .ok (.invokestatic 66, 3) := by decide +kernel
theorem dX6_course_28 : decode cX6_course 28 = .ok (.iconst 2, 1) := by decide +kernel
theorem dX6_course_29 : decode cX6_course 29 = .ok (.invokevirtual 62, 3) := by decide +kernel
theorem dX6_course_32 : decode cX6_course 32 = .ok (.ifCond .eq 5, 3) := by decide +kernel
theorem dX6_course_35 : decode cX6_course 35 = .ok (.iconst 0, 1) := by decide +kernel
theorem dX6_course_36 : decode cX6_course 36 = .ok (.ireturn, 1) := by decide +kernel
theorem dX6_course_37 : decode cX6_course 37 = .ok (.iload_n 2, 1) := by decide +kernel
theorem dX6_course_38 : decode cX6_course 38 = .ok (.iconst 3, 1) := by decide +kernel
theorem dX6_course_39 : decode cX6_course 39 = .ok (.if_icmp .ne 11, 3) := by decide +kernel
theorem dX6_course_42 : decode cX6_course 42 = .ok (.aload_n 0, 1) := by decide +kernel
theorem dX6_course_43 : decode cX6_course 43 = .ok (.iload_n 1, 1) := by decide +kernel
theorem dX6_course_44 : decode cX6_course 44 = .ok (.invokevirtual 271, 3) := by decide +kernel
theorem dX6_course_47 : decode cX6_course 47 = .ok (.goto 9, 3) := by decide +kernel
theorem dX6_course_50 : decode cX6_course 50 = .ok (.aload_n 0, 1) := by decide +kernel
theorem dX6_course_51 : decode cX6_course 51 = .ok (.iload_n 1, 1) := by decide +kernel
theorem dX6_course_52 : decode cX6_course 52 = .ok (.iload_n 2, 1) := by decide +kernel
theorem dX6_course_53 : decode cX6_course 53 = .ok (.invokevirtual 268, 3) := by decide +kernel
theorem dX6_course_56 : decode cX6_course 56 = .ok (.ireturn, 1) := by decide +kernel
theorem dX6_isInt_0 : decode cX6_isInt 0 = .ok (.lload_n 0, 1) := by decide +kernel
theorem dX6_isInt_1 : decode cX6_isInt 1 = .ok (.ldc2_w 304, 3) := by decide +kernel
theorem dX6_isInt_4 : decode cX6_isInt 4 = .ok (.ldc2_w 306, 3) := by decide +kernel
theorem dX6_isInt_7 : decode cX6_isInt 7 = .ok (.invokestatic 66, 3) := by decide +kernel
theorem dX6_isInt_10 : decode cX6_isInt 10 = .ok (.ireturn, 1) := by decide +kernel
theorem dX6_bill_0 : decode cX6_bill 0 = .ok (.aload_n 0, 1) := by decide +kernel
theorem dX6_bill_1 : decode cX6_bill 1 = .ok (.iconst 0, 1) := by decide +kernel
theorem dX6_bill_2 : decode cX6_bill 2 = .ok (.putfield 51, 3) := by decide +kernel
theorem dX6_bill_5 : decode cX6_bill 5 = .ok (.aload_n 0, 1) := by decide +kernel
theorem dX6_bill_6 : decode cX6_bill 6 = .ok (.aload_n 0, 1) := by decide +kernel
theorem dX6_bill_7 : decode cX6_bill 7 = .ok (.iload_n 1, 1) := by decide +kernel
theorem dX6_bill_8 : decode cX6_bill 8 = .ok (.invokevirtual 244, 3) := by decide +kernel
theorem dX6_bill_11 : decode cX6_bill 11 = .ok (.iconst 1, 1) := by decide +kernel
theorem dX6_bill_12 : decode cX6_bill 12 = .ok (.invokevirtual 62, 3) := by decide +kernel
theorem dX6_bill_15 : decode cX6_bill 15 = .ok (.ifCond .eq 5, 3) := by decide +kernel
theorem dX6_bill_18 : decode cX6_bill 18 = .ok (.iconst 0, 1) := by decide +kernel
theorem dX6_bill_19 : decode cX6_bill 19 = .ok (.ireturn, 1) := by decide +kernel
theorem dX6_bill_20 : decode cX6_bill 20 = .ok (.aload_n 0, 1) := by decide +kernel
theorem dX6_bill_21 : decode cX6_bill 21 = .ok (.iload_n 1, 1) := by decide +kernel
theorem dX6_bill_22 : decode cX6_bill 22 = .ok (.iconst 2, 1) := by decide +kernel
theorem dX6_bill_23 : decode cX6_bill 23 = .ok (.invokevirtual 207, 3) := by decide +kernel
theorem dX6_bill_26 : decode cX6_bill 26 = .ok (.i2l, 1) := by decide +kernel
theorem dX6_bill_27 : decode cX6_bill 27 = .ok (.iload_n 2, 1) := by decide +kernel
theorem dX6_bill_28 : decode cX6_bill 28 = .ok (.i2l, 1) := by decide +kernel
theorem dX6_bill_29 : decode cX6_bill 29 = .ok (.lmul, 1) := by decide +kernel
theorem dX6_bill_30 : decode cX6_bill 30 = .ok (.lstore 4, 2) := by decide +kernel
theorem dX6_bill_32 : decode cX6_bill 32 = .ok (.aload_n 0, 1) := by decide +kernel
theorem dX6_bill_33 : decode cX6_bill 33 = .ok (.iload_n 1, 1) := by decide +kernel
theorem dX6_bill_34 : decode cX6_bill 34 = .ok (.iconst 5, 1) := by decide +kernel
theorem dX6_bill_35 : decode cX6_bill 35 = .ok (.invokevirtual 207, 3) := by decide +kernel
theorem dX6_bill_38 : decode cX6_bill 38 = .ok (.i2l, 1) := by decide +kernel
theorem dX6_bill_39 : decode cX6_bill 39 = .ok (.iload_n 3, 1) := by decide +kernel
theorem dX6_bill_40 : decode cX6_bill 40 = .ok (.i2l, 1) := by decide +kernel
theorem dX6_bill_41 : decode cX6_bill 41 = .ok (.lmul, 1) := by decide +kernel
theorem dX6_bill_42 : decode cX6_bill 42 = .ok (.lstore 6, 2) := by decide +kernel
theorem dX6_bill_44 : decode cX6_bill 44 = .ok (.aload_n 0, 1) := by decide +kernel
theorem dX6_bill_45 : decode cX6_bill 45 = .ok (.lload 4, 2) := by decide +kernel
theorem dX6_bill_47 : decode cX6_bill 47 = .ok (.invokestatic 308, 3) := by decide +kernel
theorem dX6_bill_50 : decode cX6_bill 50 = .ok (.ifCond .eq 26, 3) := by decide +kernel
theorem dX6_bill_53 : decode cX6_bill 53 = .ok (.lload 6, 2) := by decide +kernel
theorem dX6_bill_55 : decode cX6_bill 55 = .ok (.invokestatic 308, 3) := by decide +kernel
theorem dX6_bill_58 : decode cX6_bill 58 = .ok (.ifCond .eq 18, 3) := by decide +kernel
theorem dX6_bill_61 : decode cX6_bill 61 = .ok (.lload 4, 2) := by decide +kernel
theorem dX6_bill_63 : decode cX6_bill 63 = .ok (.lload 6, 2) := by decide +kernel
theorem dX6_bill_65 : decode cX6_bill 65 = .ok (.ladd, 1) := by decide +kernel
theorem dX6_bill_66 : decode cX6_bill 66 = .ok (.invokestatic 308, 3) := by decide +kernel
theorem dX6_bill_69 : decode cX6_bill 69 = .ok (.ifCond .eq 7, 3) := by decide +kernel
theorem dX6_bill_72 : decode cX6_bill 72 = .ok (.iconst 1, 1) := by decide +kernel
theorem dX6_bill_73 : decode cX6_bill 73 = .ok (.goto 4, 3) := by decide +kernel
theorem dX6_bill_76 : decode cX6_bill 76 = .ok (.iconst 0, 1) := by decide +kernel
theorem dX6_bill_77 : decode cX6_bill 77 = .ok (.iconst 2, 1) := by decide +kernel
theorem dX6_bill_78 : decode cX6_bill 78 = .ok (.invokevirtual 62, 3) := by decide +kernel
theorem dX6_bill_81 : decode cX6_bill 81 = .ok (.ifCond .eq 7, 3) := by decide +kernel
theorem dX6_bill_84 : decode cX6_bill 84 = .ok (.iconst 0, 1) := by decide +kernel
theorem dX6_bill_85 : decode cX6_bill 85 = .ok (.goto 9, 3) := by decide +kernel
theorem dX6_bill_88 : decode cX6_bill 88 = .ok (.lload 4, 2) := by decide +kernel
theorem dX6_bill_90 : decode cX6_bill 90 = .ok (.lload 6, 2) := by decide +kernel
theorem dX6_bill_92 : decode cX6_bill 92 = .ok (.ladd, 1) := by decide +kernel
theorem dX6_bill_93 : decode cX6_bill 93 = .ok (.l2i, 1) := by decide +kernel
theorem dX6_bill_94 : decode cX6_bill 94 = .ok (.ireturn, 1) := by decide +kernel
theorem dX6_grade_0 : decode cX6_grade 0 = .ok (.aload_n 0, 1) := by decide +kernel
theorem dX6_grade_1 : decode cX6_grade 1 = .ok (.iconst 0, 1) := by decide +kernel
theorem dX6_grade_2 : decode cX6_grade 2 = .ok (.putfield 51, 3) := by decide +kernel
theorem dX6_grade_5 : decode cX6_grade 5 = .ok (.aload_n 0, 1) := by decide +kernel
theorem dX6_grade_6 : decode cX6_grade 6 = .ok (.aload_n 0, 1) := by decide +kernel
theorem dX6_grade_7 : decode cX6_grade 7 = .ok (.iload_n 1, 1) := by decide +kernel
theorem dX6_grade_8 : decode cX6_grade 8 = .ok (.invokevirtual 238, 3) := by decide +kernel
theorem dX6_grade_11 : decode cX6_grade 11 = .ok (.iconst 1, 1) := by decide +kernel
theorem dX6_grade_12 : decode cX6_grade 12 = .ok (.invokevirtual 62, 3) := by decide +kernel
theorem dX6_grade_15 : decode cX6_grade 15 = .ok (.ifCond .eq 7, 3) := by decide +kernel
theorem dX6_grade_18 : decode cX6_grade 18 = .ok (.iconst 0, 1) := by decide +kernel
theorem dX6_grade_19 : decode cX6_grade 19 = .ok (.goto 8, 3) := by decide +kernel
theorem dX6_grade_22 : decode cX6_grade 22 = .ok (.aload_n 0, 1) := by decide +kernel
theorem dX6_grade_23 : decode cX6_grade 23 = .ok (.iload_n 1, 1) := by decide +kernel
theorem dX6_grade_24 : decode cX6_grade 24 = .ok (.invokevirtual 232, 3) := by decide +kernel
theorem dX6_grade_27 : decode cX6_grade 27 = .ok (.ireturn, 1) := by decide +kernel
theorem dX6_common_0 : decode cX6_common 0 = .ok (.iload_n 0, 1) := by decide +kernel
theorem dX6_common_1 : decode cX6_common 1 = .ok (.istore_n 2, 1) := by decide +kernel
theorem dX6_common_2 : decode cX6_common 2 = .ok (.iload_n 1, 1) := by decide +kernel
theorem dX6_common_3 : decode cX6_common 3 = .ok (.istore_n 3, 1) := by decide +kernel
theorem dX6_common_4 : decode cX6_common 4 = .ok (.iload_n 3, 1) := by decide +kernel
theorem dX6_common_5 : decode cX6_common 5 = .ok (.ifCond .eq 16, 3) := by decide +kernel
theorem dX6_common_8 : decode cX6_common 8 = .ok (.iload_n 2, 1) := by decide +kernel
theorem dX6_common_9 : decode cX6_common 9 = .ok (.iload_n 3, 1) := by decide +kernel
theorem dX6_common_10 : decode cX6_common 10 = .ok (.irem, 1) := by decide +kernel
theorem dX6_common_11 : decode cX6_common 11 = .ok (.istore 4, 2) := by decide +kernel
theorem dX6_common_13 : decode cX6_common 13 = .ok (.iload_n 3, 1) := by decide +kernel
theorem dX6_common_14 : decode cX6_common 14 = .ok (.istore_n 2, 1) := by decide +kernel
theorem dX6_common_15 : decode cX6_common 15 = .ok (.iload 4, 2) := by decide +kernel
theorem dX6_common_17 : decode cX6_common 17 = .ok (.istore_n 3, 1) := by decide +kernel
theorem dX6_common_18 : decode cX6_common 18 = .ok (.goto (-14), 3) := by decide +kernel
theorem dX6_common_21 : decode cX6_common 21 = .ok (.iload_n 2, 1) := by decide +kernel
theorem dX6_common_22 : decode cX6_common 22 = .ok (.ireturn, 1) := by decide +kernel
theorem dX6_meanGrade_0 : decode cX6_meanGrade 0 = .ok (.aload_n 0, 1) := by decide +kernel
theorem dX6_meanGrade_1 : decode cX6_meanGrade 1 = .ok (.iconst 0, 1) := by decide +kernel
theorem dX6_meanGrade_2 : decode cX6_meanGrade 2 = .ok (.putfield 51, 3) := by decide +kernel
theorem dX6_meanGrade_5 : decode cX6_meanGrade 5 = .ok (.aload_n 0, 1) := by decide +kernel
theorem dX6_meanGrade_6 : decode cX6_meanGrade 6 = .ok (.aload_n 0, 1) := by decide +kernel
theorem dX6_meanGrade_7 : decode cX6_meanGrade 7 = .ok (.iload_n 1, 1) := by decide +kernel
theorem dX6_meanGrade_8 : decode cX6_meanGrade 8 = .ok (.invokevirtual 238, 3) := by decide +kernel
theorem dX6_meanGrade_11 : decode cX6_meanGrade 11 = .ok (.iconst 1, 1) := by decide +kernel
theorem dX6_meanGrade_12 : decode cX6_meanGrade 12 = .ok (.invokevirtual 62, 3) := by decide +kernel
theorem dX6_meanGrade_15 : decode cX6_meanGrade 15 = .ok (.ifCond .eq 5, 3) := by decide +kernel
theorem dX6_meanGrade_18 : decode cX6_meanGrade 18 = .ok (.iconst 0, 1) := by decide +kernel
theorem dX6_meanGrade_19 : decode cX6_meanGrade 19 = .ok (.ireturn, 1) := by decide +kernel
theorem dX6_meanGrade_20 : decode cX6_meanGrade 20 = .ok (.aload_n 0, 1) := by decide +kernel
theorem dX6_meanGrade_21 : decode cX6_meanGrade 21 = .ok (.iload_n 1, 1) := by decide +kernel
theorem dX6_meanGrade_22 : decode cX6_meanGrade 22 = .ok (.iconst 0, 1) := by decide +kernel
theorem dX6_meanGrade_23 : decode cX6_meanGrade 23 = .ok (.iconst 0, 1) := by decide +kernel
theorem dX6_meanGrade_24 : decode cX6_meanGrade 24 = .ok (.invokevirtual 192, 3) := by decide +kernel
theorem dX6_meanGrade_27 : decode cX6_meanGrade 27 = .ok (.aload_n 0, 1) := by decide +kernel
theorem dX6_meanGrade_28 : decode cX6_meanGrade 28 = .ok (.getfield 172, 3) := by decide +kernel
theorem dX6_meanGrade_31 : decode cX6_meanGrade 31 = .ok (.aload_n 0, 1) := by decide +kernel
theorem dX6_meanGrade_32 : decode cX6_meanGrade 32 = .ok (.getfield 175, 3) := by decide +kernel
theorem dX6_meanGrade_35 : decode cX6_meanGrade 35 = .ok (.invokestatic 312, 3) := by decide +kernel
theorem dX6_meanGrade_38 : decode cX6_meanGrade 38 = .ok (.istore_n 3, 1) := by decide +kernel
theorem dX6_meanGrade_39 : decode cX6_meanGrade 39 = .ok (.iload_n 2, 1) := by decide +kernel
theorem dX6_meanGrade_40 : decode cX6_meanGrade 40 = .ok (.ifCond .eq 10, 3) := by decide +kernel
theorem dX6_meanGrade_43 : decode cX6_meanGrade 43 = .ok (.aload_n 0, 1) := by decide +kernel
theorem dX6_meanGrade_44 : decode cX6_meanGrade 44 = .ok (.getfield 175, 3) := by decide +kernel
theorem dX6_meanGrade_47 : decode cX6_meanGrade 47 = .ok (.goto 7, 3) := by decide +kernel
theorem dX6_meanGrade_50 : decode cX6_meanGrade 50 = .ok (.aload_n 0, 1) := by decide +kernel
theorem dX6_meanGrade_51 : decode cX6_meanGrade 51 = .ok (.getfield 172, 3) := by decide +kernel
theorem dX6_meanGrade_54 : decode cX6_meanGrade 54 = .ok (.iload_n 3, 1) := by decide +kernel
theorem dX6_meanGrade_55 : decode cX6_meanGrade 55 = .ok (.idiv, 1) := by decide +kernel
theorem dX6_meanGrade_56 : decode cX6_meanGrade 56 = .ok (.ireturn, 1) := by decide +kernel
theorem dX6_voteOf_0 : decode cX6_voteOf 0 = .ok (.aload_n 0, 1) := by decide +kernel
theorem dX6_voteOf_1 : decode cX6_voteOf 1 = .ok (.iconst 0, 1) := by decide +kernel
theorem dX6_voteOf_2 : decode cX6_voteOf 2 = .ok (.putfield 51, 3) := by decide +kernel
theorem dX6_voteOf_5 : decode cX6_voteOf 5 = .ok (.aload_n 0, 1) := by decide +kernel
theorem dX6_voteOf_6 : decode cX6_voteOf 6 = .ok (.aload_n 0, 1) := by decide +kernel
theorem dX6_voteOf_7 : decode cX6_voteOf 7 = .ok (.iload_n 1, 1) := by decide +kernel
theorem dX6_voteOf_8 : decode cX6_voteOf 8 = .ok (.invokevirtual 244, 3) := by decide +kernel
theorem dX6_voteOf_11 : decode cX6_voteOf 11 = .ok (.ifCond .eq 15, 3) := by decide +kernel
theorem dX6_voteOf_14 : decode cX6_voteOf 14 = .ok (.aload_n 0, 1) := by decide +kernel
theorem dX6_voteOf_15 : decode cX6_voteOf 15 = .ok (.iload_n 2, 1) := by decide +kernel
theorem dX6_voteOf_16 : decode cX6_voteOf 16 = .ok (.invokevirtual 238, 3) := by decide +kernel
theorem dX6_voteOf_19 : decode cX6_voteOf 19 = .ok (.ifCond .eq 7, 3) := by decide +kernel
theorem dX6_voteOf_22 : decode cX6_voteOf 22 = .ok (.iconst 1, 1) := by decide +kernel
theorem dX6_voteOf_23 : decode cX6_voteOf 23 = .ok (.goto 4, 3) := by decide +kernel
theorem dX6_voteOf_26 : decode cX6_voteOf 26 = .ok (.iconst 0, 1) := by decide +kernel
theorem dX6_voteOf_27 : decode cX6_voteOf 27 = .ok (.iconst 1, 1) := by decide +kernel
theorem dX6_voteOf_28 : decode cX6_voteOf 28 = .ok (.invokevirtual 62, 3) := by decide +kernel
theorem dX6_voteOf_31 : decode cX6_voteOf 31 = .ok (.ifCond .eq 5, 3) := by decide +kernel
theorem dX6_voteOf_34 : decode cX6_voteOf 34 = .ok (.iconst 0, 1) := by decide +kernel
theorem dX6_voteOf_35 : decode cX6_voteOf 35 = .ok (.ireturn, 1) := by decide +kernel
theorem dX6_voteOf_36 : decode cX6_voteOf 36 = .ok (.aload_n 0, 1) := by decide +kernel
theorem dX6_voteOf_37 : decode cX6_voteOf 37 = .ok (.iload_n 2, 1) := by decide +kernel
theorem dX6_voteOf_38 : decode cX6_voteOf 38 = .ok (.bipush 6, 2) := by decide +kernel
theorem dX6_voteOf_40 : decode cX6_voteOf 40 = .ok (.iload_n 1, 1) := by decide +kernel
theorem dX6_voteOf_41 : decode cX6_voteOf 41 = .ok (.iadd, 1) := by decide +kernel
theorem dX6_voteOf_42 : decode cX6_voteOf 42 = .ok (.invokevirtual 163, 3) := by decide +kernel
theorem dX6_voteOf_45 : decode cX6_voteOf 45 = .ok (.istore_n 3, 1) := by decide +kernel
theorem dX6_voteOf_46 : decode cX6_voteOf 46 = .ok (.aload_n 0, 1) := by decide +kernel
theorem dX6_voteOf_47 : decode cX6_voteOf 47 = .ok (.iload_n 3, 1) := by decide +kernel
theorem dX6_voteOf_48 : decode cX6_voteOf 48 = .ok (.iconst (-1), 1) := by decide +kernel
theorem dX6_voteOf_49 : decode cX6_voteOf 49 = .ok (.if_icmp .eq 7, 3) := by decide +kernel
theorem dX6_voteOf_52 : decode cX6_voteOf 52 = .ok (.iconst 1, 1) := by decide +kernel
theorem dX6_voteOf_53 : decode cX6_voteOf 53 = .ok (.goto 4, 3) := by decide +kernel
theorem dX6_voteOf_56 : decode cX6_voteOf 56 = .ok (.iconst 0, 1) := by decide +kernel
theorem dX6_voteOf_57 : decode cX6_voteOf 57 = .ok (.iconst 2, 1) := by decide +kernel
theorem dX6_voteOf_58 : decode cX6_voteOf 58 = .ok (.invokevirtual 62, 3) := by decide +kernel
theorem dX6_voteOf_61 : decode cX6_voteOf 61 = .ok (.ifCond .eq 7, 3) := by decide +kernel
theorem dX6_voteOf_64 : decode cX6_voteOf 64 = .ok (.iconst 0, 1) := by decide +kernel
theorem dX6_voteOf_65 : decode cX6_voteOf 65 = .ok (.goto 4, 3) := by decide +kernel
theorem dX6_voteOf_68 : decode cX6_voteOf 68 = .ok (.iload_n 3, 1) := by decide +kernel
theorem dX6_voteOf_69 : decode cX6_voteOf 69 = .ok (.ireturn, 1) := by decide +kernel
theorem dX6_gradeWith_0 : decode cX6_gradeWith 0 = .ok (.aload_n 0, 1) := by decide +kernel
theorem dX6_gradeWith_1 : decode cX6_gradeWith 1 = .ok (.iconst 0, 1) := by decide +kernel
theorem dX6_gradeWith_2 : decode cX6_gradeWith 2 = .ok (.putfield 51, 3) := by decide +kernel
theorem dX6_gradeWith_5 : decode cX6_gradeWith 5 = .ok (.aload_n 0, 1) := by decide +kernel
theorem dX6_gradeWith_6 : decode cX6_gradeWith 6 = .ok (.aload_n 0, 1) := by decide +kernel
theorem dX6_gradeWith_7 : decode cX6_gradeWith 7 = .ok (.iload_n 1, 1) := by decide +kernel
theorem dX6_gradeWith_8 : decode cX6_gradeWith 8 = .ok (.invokevirtual 238, 3) := by decide +kernel
theorem dX6_gradeWith_11 : decode cX6_gradeWith 11 = .ok (.iconst 1, 1) := by decide +kernel
theorem dX6_gradeWith_12 : decode cX6_gradeWith 12 = .ok (.invokevirtual 62, 3) := by decide +kernel
theorem dX6_gradeWith_15 : decode cX6_gradeWith 15 = .ok (.ifCond .ne 35, 3) := by decide +kernel
theorem dX6_gradeWith_18 : decode cX6_gradeWith 18 = .ok (.aload_n 0, 1) := by decide +kernel
theorem dX6_gradeWith_19 : decode cX6_gradeWith 19 = .ok (.iload_n 2, 1) := by decide +kernel
theorem dX6_gradeWith_20 : decode cX6_gradeWith 20 = .ok (.invokestatic 223, 3) := by decide +kernel
theorem dX6_gradeWith_23 : decode cX6_gradeWith 23 = .ok (.ifCond .eq 19, 3) := by decide +kernel
theorem dX6_gradeWith_26 : decode cX6_gradeWith 26 = .ok (.iload_n 3, 1) := by decide +kernel
theorem dX6_gradeWith_27 : decode cX6_gradeWith 27 = .ok (.i2l, 1) := by decide +kernel
theorem dX6_gradeWith_28 : decode cX6_gradeWith 28 = .ok (.lconst 1, 1) := by decide +kernel
theorem dX6_gradeWith_29 : decode cX6_gradeWith 29 = .ok (.ldc2_w 315, 3) := by decide +kernel
theorem dX6_gradeWith_32 : decode cX6_gradeWith 32 = .ok (.invokestatic 66, 3) := by decide +kernel
theorem dX6_gradeWith_35 : decode cX6_gradeWith 35 = .ok (.ifCond .eq 7, 3) := by decide +kernel
theorem dX6_gradeWith_38 : decode cX6_gradeWith 38 = .ok (.iconst 1, 1) := by decide +kernel
theorem dX6_gradeWith_39 : decode cX6_gradeWith 39 = .ok (.goto 4, 3) := by decide +kernel
theorem dX6_gradeWith_42 : decode cX6_gradeWith 42 = .ok (.iconst 0, 1) := by decide +kernel
theorem dX6_gradeWith_43 : decode cX6_gradeWith 43 = .ok (.iconst 2, 1) := by decide +kernel
theorem dX6_gradeWith_44 : decode cX6_gradeWith 44 = .ok (.invokevirtual 62, 3) := by decide +kernel
theorem dX6_gradeWith_47 : decode cX6_gradeWith 47 = .ok (.ifCond .eq 5, 3) := by decide +kernel
theorem dX6_gradeWith_50 : decode cX6_gradeWith 50 = .ok (.iconst 0, 1) := by decide +kernel
theorem dX6_gradeWith_51 : decode cX6_gradeWith 51 = .ok (.ireturn, 1) := by decide +kernel
theorem dX6_gradeWith_52 : decode cX6_gradeWith 52 = .ok (.aload_n 0, 1) := by decide +kernel
theorem dX6_gradeWith_53 : decode cX6_gradeWith 53 = .ok (.iload_n 1, 1) := by decide +kernel
theorem dX6_gradeWith_54 : decode cX6_gradeWith 54 = .ok (.iload_n 2, 1) := by decide +kernel
theorem dX6_gradeWith_55 : decode cX6_gradeWith 55 = .ok (.iload_n 3, 1) := by decide +kernel
theorem dX6_gradeWith_56 : decode cX6_gradeWith 56 = .ok (.invokevirtual 189, 3) := by decide +kernel
theorem dX6_gradeWith_59 : decode cX6_gradeWith 59 = .ok (.ireturn, 1) := by decide +kernel
theorem dX6_votesTo_0 : decode cX6_votesTo 0 = .ok (.aload_n 0, 1) := by decide +kernel
theorem dX6_votesTo_1 : decode cX6_votesTo 1 = .ok (.iconst 0, 1) := by decide +kernel
theorem dX6_votesTo_2 : decode cX6_votesTo 2 = .ok (.putfield 51, 3) := by decide +kernel
theorem dX6_votesTo_5 : decode cX6_votesTo 5 = .ok (.aload_n 0, 1) := by decide +kernel
theorem dX6_votesTo_6 : decode cX6_votesTo 6 = .ok (.aload_n 0, 1) := by decide +kernel
theorem dX6_votesTo_7 : decode cX6_votesTo 7 = .ok (.iload_n 1, 1) := by decide +kernel
theorem dX6_votesTo_8 : decode cX6_votesTo 8 = .ok (.invokevirtual 238, 3) := by decide +kernel
theorem dX6_votesTo_11 : decode cX6_votesTo 11 = .ok (.iconst 1, 1) := by decide +kernel
theorem dX6_votesTo_12 : decode cX6_votesTo 12 = .ok (.invokevirtual 62, 3) := by decide +kernel
theorem dX6_votesTo_15 : decode cX6_votesTo 15 = .ok (.ifCond .ne 15, 3) := by decide +kernel
theorem dX6_votesTo_18 : decode cX6_votesTo 18 = .ok (.aload_n 0, 1) := by decide +kernel
theorem dX6_votesTo_19 : decode cX6_votesTo 19 = .ok (.iload_n 2, 1) := by decide +kernel
theorem dX6_votesTo_20 : decode cX6_votesTo 20 = .ok (.invokestatic 223, 3) := by decide +kernel
theorem dX6_votesTo_23 : decode cX6_votesTo 23 = .ok (.iconst 2, 1) := by decide +kernel
theorem dX6_votesTo_24 : decode cX6_votesTo 24 = .ok (.invokevirtual 62, 3) := by decide +kernel
theorem dX6_votesTo_27 : decode cX6_votesTo 27 = .ok (.ifCond .eq 5, 3) := by decide +kernel
theorem dX6_votesTo_30 : decode cX6_votesTo 30 = .ok (.iconst 0, 1) := by decide +kernel
theorem dX6_votesTo_31 : decode cX6_votesTo 31 = .ok (.ireturn, 1) := by decide +kernel
theorem dX6_votesTo_32 : decode cX6_votesTo 32 = .ok (.iconst 0, 1) := by decide +kernel
theorem dX6_votesTo_33 : decode cX6_votesTo 33 = .ok (.istore_n 3, 1) := by decide +kernel
theorem dX6_votesTo_34 : decode cX6_votesTo 34 = .ok (.iload_n 3, 1) := by decide +kernel
theorem dX6_votesTo_35 : decode cX6_votesTo 35 = .ok (.bipush 20, 2) := by decide +kernel
theorem dX6_votesTo_37 : decode cX6_votesTo 37 = .ok (.if_icmp .gt 20, 3) := by decide +kernel
theorem dX6_votesTo_40 : decode cX6_votesTo 40 = .ok (.aload_n 0, 1) := by decide +kernel
theorem dX6_votesTo_41 : decode cX6_votesTo 41 = .ok (.iload_n 1, 1) := by decide +kernel
theorem dX6_votesTo_42 : decode cX6_votesTo 42 = .ok (.iload_n 2, 1) := by decide +kernel
theorem dX6_votesTo_43 : decode cX6_votesTo 43 = .ok (.iload_n 3, 1) := by decide +kernel
theorem dX6_votesTo_44 : decode cX6_votesTo 44 = .ok (.invokevirtual 189, 3) := by decide +kernel
theorem dX6_votesTo_47 : decode cX6_votesTo 47 = .ok (.iload_n 2, 1) := by decide +kernel
theorem dX6_votesTo_48 : decode cX6_votesTo 48 = .ok (.if_icmp .eq 9, 3) := by decide +kernel
theorem dX6_votesTo_51 : decode cX6_votesTo 51 = .ok (.iinc 3 1, 3) := by decide +kernel
theorem dX6_votesTo_54 : decode cX6_votesTo 54 = .ok (.goto (-20), 3) := by decide +kernel
theorem dX6_votesTo_57 : decode cX6_votesTo 57 = .ok (.aload_n 0, 1) := by decide +kernel
theorem dX6_votesTo_58 : decode cX6_votesTo 58 = .ok (.iload_n 3, 1) := by decide +kernel
theorem dX6_votesTo_59 : decode cX6_votesTo 59 = .ok (.bipush 20, 2) := by decide +kernel
theorem dX6_votesTo_61 : decode cX6_votesTo 61 = .ok (.if_icmp .gt 7, 3) := by decide +kernel
theorem dX6_votesTo_64 : decode cX6_votesTo 64 = .ok (.iconst 1, 1) := by decide +kernel
theorem dX6_votesTo_65 : decode cX6_votesTo 65 = .ok (.goto 4, 3) := by decide +kernel
theorem dX6_votesTo_68 : decode cX6_votesTo 68 = .ok (.iconst 0, 1) := by decide +kernel
theorem dX6_votesTo_69 : decode cX6_votesTo 69 = .ok (.iconst 3, 1) := by decide +kernel
theorem dX6_votesTo_70 : decode cX6_votesTo 70 = .ok (.invokevirtual 62, 3) := by decide +kernel
theorem dX6_votesTo_73 : decode cX6_votesTo 73 = .ok (.ifCond .eq 7, 3) := by decide +kernel
theorem dX6_votesTo_76 : decode cX6_votesTo 76 = .ok (.iconst 0, 1) := by decide +kernel
theorem dX6_votesTo_77 : decode cX6_votesTo 77 = .ok (.goto 4, 3) := by decide +kernel
theorem dX6_votesTo_80 : decode cX6_votesTo 80 = .ok (.iload_n 3, 1) := by decide +kernel
theorem dX6_votesTo_81 : decode cX6_votesTo 81 = .ok (.ireturn, 1) := by decide +kernel
theorem dX6_spread_0 : decode cX6_spread 0 = .ok (.bipush 30, 2) := by decide +kernel
theorem dX6_spread_2 : decode cX6_spread 2 = .ok (.istore_n 2, 1) := by decide +kernel
theorem dX6_spread_3 : decode cX6_spread 3 = .ok (.iconst (-1), 1) := by decide +kernel
theorem dX6_spread_4 : decode cX6_spread 4 = .ok (.istore_n 3, 1) := by decide +kernel
theorem dX6_spread_5 : decode cX6_spread 5 = .ok (.iconst 0, 1) := by decide +kernel
theorem dX6_spread_6 : decode cX6_spread 6 = .ok (.istore 4, 2) := by decide +kernel
theorem dX6_spread_8 : decode cX6_spread 8 = .ok (.iload 4, 2) := by decide +kernel
theorem dX6_spread_10 : decode cX6_spread 10 = .ok (.aload_n 0, 1) := by decide +kernel
theorem dX6_spread_11 : decode cX6_spread 11 = .ok (.getfield 16, 3) := by decide +kernel
theorem dX6_spread_14 : decode cX6_spread 14 = .ok (.sipush 546, 3) := by decide +kernel
theorem dX6_spread_17 : decode cX6_spread 17 = .ok (.iaload, 1) := by decide +kernel
theorem dX6_spread_18 : decode cX6_spread 18 = .ok (.if_icmp .ge 41, 3) := by decide +kernel
theorem dX6_spread_21 : decode cX6_spread 21 = .ok (.aload_n 0, 1) := by decide +kernel
theorem dX6_spread_22 : decode cX6_spread 22 = .ok (.iload_n 1, 1) := by decide +kernel
theorem dX6_spread_23 : decode cX6_spread 23 = .ok (.bipush 6, 2) := by decide +kernel
theorem dX6_spread_25 : decode cX6_spread 25 = .ok (.iload 4, 2) := by decide +kernel
theorem dX6_spread_27 : decode cX6_spread 27 = .ok (.iadd, 1) := by decide +kernel
theorem dX6_spread_28 : decode cX6_spread 28 = .ok (.invokevirtual 163, 3) := by decide +kernel
theorem dX6_spread_31 : decode cX6_spread 31 = .ok (.istore 5, 2) := by decide +kernel
theorem dX6_spread_33 : decode cX6_spread 33 = .ok (.iload 5, 2) := by decide +kernel
theorem dX6_spread_35 : decode cX6_spread 35 = .ok (.iconst (-1), 1) := by decide +kernel
theorem dX6_spread_36 : decode cX6_spread 36 = .ok (.if_icmp .eq 17, 3) := by decide +kernel
theorem dX6_spread_39 : decode cX6_spread 39 = .ok (.iload_n 2, 1) := by decide +kernel
theorem dX6_spread_40 : decode cX6_spread 40 = .ok (.iload 5, 2) := by decide +kernel
theorem dX6_spread_42 : decode cX6_spread 42 = .ok (.invokestatic 93, 3) := by decide +kernel
theorem dX6_spread_45 : decode cX6_spread 45 = .ok (.istore_n 2, 1) := by decide +kernel
theorem dX6_spread_46 : decode cX6_spread 46 = .ok (.iload_n 3, 1) := by decide +kernel
theorem dX6_spread_47 : decode cX6_spread 47 = .ok (.iload 5, 2) := by decide +kernel
theorem dX6_spread_49 : decode cX6_spread 49 = .ok (.invokestatic 169, 3) := by decide +kernel
theorem dX6_spread_52 : decode cX6_spread 52 = .ok (.istore_n 3, 1) := by decide +kernel
theorem dX6_spread_53 : decode cX6_spread 53 = .ok (.iinc 4 1, 3) := by decide +kernel
theorem dX6_spread_56 : decode cX6_spread 56 = .ok (.goto (-48), 3) := by decide +kernel
theorem dX6_spread_59 : decode cX6_spread 59 = .ok (.aload_n 0, 1) := by decide +kernel
theorem dX6_spread_60 : decode cX6_spread 60 = .ok (.iload_n 1, 1) := by decide +kernel
theorem dX6_spread_61 : decode cX6_spread 61 = .ok (.invokevirtual 297, 3) := by decide +kernel
theorem dX6_spread_64 : decode cX6_spread 64 = .ok (.iconst 2, 1) := by decide +kernel
theorem dX6_spread_65 : decode cX6_spread 65 = .ok (.if_icmp .ge 7, 3) := by decide +kernel
theorem dX6_spread_68 : decode cX6_spread 68 = .ok (.iconst (-1), 1) := by decide +kernel
theorem dX6_spread_69 : decode cX6_spread 69 = .ok (.goto 6, 3) := by decide +kernel
theorem dX6_spread_72 : decode cX6_spread 72 = .ok (.iload_n 3, 1) := by decide +kernel
theorem dX6_spread_73 : decode cX6_spread 73 = .ok (.iload_n 2, 1) := by decide +kernel
theorem dX6_spread_74 : decode cX6_spread 74 = .ok (.isub, 1) := by decide +kernel
theorem dX6_spread_75 : decode cX6_spread 75 = .ok (.ireturn, 1) := by decide +kernel
theorem dX6_disputed_0 : decode cX6_disputed 0 = .ok (.aload_n 0, 1) := by decide +kernel
theorem dX6_disputed_1 : decode cX6_disputed 1 = .ok (.iconst 0, 1) := by decide +kernel
theorem dX6_disputed_2 : decode cX6_disputed 2 = .ok (.putfield 51, 3) := by decide +kernel
theorem dX6_disputed_5 : decode cX6_disputed 5 = .ok (.iconst (-1), 1) := by decide +kernel
theorem dX6_disputed_6 : decode cX6_disputed 6 = .ok (.istore_n 1, 1) := by decide +kernel
theorem dX6_disputed_7 : decode cX6_disputed 7 = .ok (.iconst (-1), 1) := by decide +kernel
theorem dX6_disputed_8 : decode cX6_disputed 8 = .ok (.istore_n 2, 1) := by decide +kernel
theorem dX6_disputed_9 : decode cX6_disputed 9 = .ok (.iconst 0, 1) := by decide +kernel
theorem dX6_disputed_10 : decode cX6_disputed 10 = .ok (.istore_n 3, 1) := by decide +kernel
theorem dX6_disputed_11 : decode cX6_disputed 11 = .ok (.iload_n 3, 1) := by decide +kernel
theorem dX6_disputed_12 : decode cX6_disputed 12 = .ok (.aload_n 0, 1) := by decide +kernel
theorem dX6_disputed_13 : decode cX6_disputed 13 = .ok (.getfield 16, 3) := by decide +kernel
theorem dX6_disputed_16 : decode cX6_disputed 16 = .ok (.bipush 37, 2) := by decide +kernel
theorem dX6_disputed_18 : decode cX6_disputed 18 = .ok (.iaload, 1) := by decide +kernel
theorem dX6_disputed_19 : decode cX6_disputed 19 = .ok (.if_icmp .ge 27, 3) := by decide +kernel
theorem dX6_disputed_22 : decode cX6_disputed 22 = .ok (.aload_n 0, 1) := by decide +kernel
theorem dX6_disputed_23 : decode cX6_disputed 23 = .ok (.iload_n 3, 1) := by decide +kernel
theorem dX6_disputed_24 : decode cX6_disputed 24 = .ok (.invokevirtual 317, 3) := by decide +kernel
theorem dX6_disputed_27 : decode cX6_disputed 27 = .ok (.istore 4, 2) := by decide +kernel
theorem dX6_disputed_29 : decode cX6_disputed 29 = .ok (.iload 4, 2) := by decide +kernel
theorem dX6_disputed_31 : decode cX6_disputed 31 = .ok (.iload_n 2, 1) := by decide +kernel
theorem dX6_disputed_32 : decode cX6_disputed 32 = .ok (.if_icmp .le 8, 3) := by decide +kernel
theorem dX6_disputed_35 : decode cX6_disputed 35 = .ok (.iload_n 3, 1) := by decide +kernel
theorem dX6_disputed_36 : decode cX6_disputed 36 = .ok (.istore_n 1, 1) := by decide +kernel
theorem dX6_disputed_37 : decode cX6_disputed 37 = .ok (.iload 4, 2) := by decide +kernel
theorem dX6_disputed_39 : decode cX6_disputed 39 = .ok (.istore_n 2, 1) := by decide +kernel
theorem dX6_disputed_40 : decode cX6_disputed 40 = .ok (.iinc 3 1, 3) := by decide +kernel
theorem dX6_disputed_43 : decode cX6_disputed 43 = .ok (.goto (-32), 3) := by decide +kernel
theorem dX6_disputed_46 : decode cX6_disputed 46 = .ok (.aload_n 0, 1) := by decide +kernel
theorem dX6_disputed_47 : decode cX6_disputed 47 = .ok (.iload_n 1, 1) := by decide +kernel
theorem dX6_disputed_48 : decode cX6_disputed 48 = .ok (.iconst (-1), 1) := by decide +kernel
theorem dX6_disputed_49 : decode cX6_disputed 49 = .ok (.if_icmp .eq 7, 3) := by decide +kernel
theorem dX6_disputed_52 : decode cX6_disputed 52 = .ok (.iconst 1, 1) := by decide +kernel
theorem dX6_disputed_53 : decode cX6_disputed 53 = .ok (.goto 4, 3) := by decide +kernel
theorem dX6_disputed_56 : decode cX6_disputed 56 = .ok (.iconst 0, 1) := by decide +kernel
theorem dX6_disputed_57 : decode cX6_disputed 57 = .ok (.iconst 1, 1) := by decide +kernel
theorem dX6_disputed_58 : decode cX6_disputed 58 = .ok (.invokevirtual 62, 3) := by decide +kernel
theorem dX6_disputed_61 : decode cX6_disputed 61 = .ok (.ifCond .eq 7, 3) := by decide +kernel
theorem dX6_disputed_64 : decode cX6_disputed 64 = .ok (.iconst 0, 1) := by decide +kernel
theorem dX6_disputed_65 : decode cX6_disputed 65 = .ok (.goto 4, 3) := by decide +kernel
theorem dX6_disputed_68 : decode cX6_disputed 68 = .ok (.iload_n 1, 1) := by decide +kernel
theorem dX6_disputed_69 : decode cX6_disputed 69 = .ok (.ireturn, 1) := by decide +kernel
theorem dX6_hardest_0 : decode cX6_hardest 0 = .ok (.aload_n 0, 1) := by decide +kernel
theorem dX6_hardest_1 : decode cX6_hardest 1 = .ok (.iconst 0, 1) := by decide +kernel
theorem dX6_hardest_2 : decode cX6_hardest 2 = .ok (.putfield 51, 3) := by decide +kernel
theorem dX6_hardest_5 : decode cX6_hardest 5 = .ok (.aload_n 0, 1) := by decide +kernel
theorem dX6_hardest_6 : decode cX6_hardest 6 = .ok (.aload_n 0, 1) := by decide +kernel
theorem dX6_hardest_7 : decode cX6_hardest 7 = .ok (.iload_n 1, 1) := by decide +kernel
theorem dX6_hardest_8 : decode cX6_hardest 8 = .ok (.invokevirtual 220, 3) := by decide +kernel
theorem dX6_hardest_11 : decode cX6_hardest 11 = .ok (.iconst 1, 1) := by decide +kernel
theorem dX6_hardest_12 : decode cX6_hardest 12 = .ok (.invokevirtual 62, 3) := by decide +kernel
theorem dX6_hardest_15 : decode cX6_hardest 15 = .ok (.ifCond .eq 5, 3) := by decide +kernel
theorem dX6_hardest_18 : decode cX6_hardest 18 = .ok (.iconst 0, 1) := by decide +kernel
theorem dX6_hardest_19 : decode cX6_hardest 19 = .ok (.ireturn, 1) := by decide +kernel
theorem dX6_hardest_20 : decode cX6_hardest 20 = .ok (.iconst (-1), 1) := by decide +kernel
theorem dX6_hardest_21 : decode cX6_hardest 21 = .ok (.istore_n 2, 1) := by decide +kernel
theorem dX6_hardest_22 : decode cX6_hardest 22 = .ok (.iconst (-1), 1) := by decide +kernel
theorem dX6_hardest_23 : decode cX6_hardest 23 = .ok (.istore_n 3, 1) := by decide +kernel
theorem dX6_hardest_24 : decode cX6_hardest 24 = .ok (.iconst 0, 1) := by decide +kernel
theorem dX6_hardest_25 : decode cX6_hardest 25 = .ok (.istore 4, 2) := by decide +kernel
theorem dX6_hardest_27 : decode cX6_hardest 27 = .ok (.iload 4, 2) := by decide +kernel
theorem dX6_hardest_29 : decode cX6_hardest 29 = .ok (.aload_n 0, 1) := by decide +kernel
theorem dX6_hardest_30 : decode cX6_hardest 30 = .ok (.getfield 16, 3) := by decide +kernel
theorem dX6_hardest_33 : decode cX6_hardest 33 = .ok (.bipush 37, 2) := by decide +kernel
theorem dX6_hardest_35 : decode cX6_hardest 35 = .ok (.iaload, 1) := by decide +kernel
theorem dX6_hardest_36 : decode cX6_hardest 36 = .ok (.if_icmp .ge 44, 3) := by decide +kernel
theorem dX6_hardest_39 : decode cX6_hardest 39 = .ok (.aload_n 0, 1) := by decide +kernel
theorem dX6_hardest_40 : decode cX6_hardest 40 = .ok (.iload 4, 2) := by decide +kernel
theorem dX6_hardest_42 : decode cX6_hardest 42 = .ok (.iconst 0, 1) := by decide +kernel
theorem dX6_hardest_43 : decode cX6_hardest 43 = .ok (.invokevirtual 163, 3) := by decide +kernel
theorem dX6_hardest_46 : decode cX6_hardest 46 = .ok (.iload_n 1, 1) := by decide +kernel
theorem dX6_hardest_47 : decode cX6_hardest 47 = .ok (.if_icmp .ne 12, 3) := by decide +kernel
theorem dX6_hardest_50 : decode cX6_hardest 50 = .ok (.aload_n 0, 1) := by decide +kernel
theorem dX6_hardest_51 : decode cX6_hardest 51 = .ok (.iload 4, 2) := by decide +kernel
theorem dX6_hardest_53 : decode cX6_hardest 53 = .ok (.invokevirtual 232, 3) := by decide +kernel
theorem dX6_hardest_56 : decode cX6_hardest 56 = .ok (.goto 4, 3) := by decide +kernel
theorem dX6_hardest_59 : decode cX6_hardest 59 = .ok (.iconst (-1), 1) := by decide +kernel
theorem dX6_hardest_60 : decode cX6_hardest 60 = .ok (.istore 5, 2) := by decide +kernel
theorem dX6_hardest_62 : decode cX6_hardest 62 = .ok (.iload 5, 2) := by decide +kernel
theorem dX6_hardest_64 : decode cX6_hardest 64 = .ok (.iload_n 3, 1) := by decide +kernel
theorem dX6_hardest_65 : decode cX6_hardest 65 = .ok (.if_icmp .le 9, 3) := by decide +kernel
theorem dX6_hardest_68 : decode cX6_hardest 68 = .ok (.iload 4, 2) := by decide +kernel
theorem dX6_hardest_70 : decode cX6_hardest 70 = .ok (.istore_n 2, 1) := by decide +kernel
theorem dX6_hardest_71 : decode cX6_hardest 71 = .ok (.iload 5, 2) := by decide +kernel
theorem dX6_hardest_73 : decode cX6_hardest 73 = .ok (.istore_n 3, 1) := by decide +kernel
theorem dX6_hardest_74 : decode cX6_hardest 74 = .ok (.iinc 4 1, 3) := by decide +kernel
theorem dX6_hardest_77 : decode cX6_hardest 77 = .ok (.goto (-50), 3) := by decide +kernel
theorem dX6_hardest_80 : decode cX6_hardest 80 = .ok (.aload_n 0, 1) := by decide +kernel
theorem dX6_hardest_81 : decode cX6_hardest 81 = .ok (.iload_n 2, 1) := by decide +kernel
theorem dX6_hardest_82 : decode cX6_hardest 82 = .ok (.iconst (-1), 1) := by decide +kernel
theorem dX6_hardest_83 : decode cX6_hardest 83 = .ok (.if_icmp .eq 7, 3) := by decide +kernel
theorem dX6_hardest_86 : decode cX6_hardest 86 = .ok (.iconst 1, 1) := by decide +kernel
theorem dX6_hardest_87 : decode cX6_hardest 87 = .ok (.goto 4, 3) := by decide +kernel
theorem dX6_hardest_90 : decode cX6_hardest 90 = .ok (.iconst 0, 1) := by decide +kernel
theorem dX6_hardest_91 : decode cX6_hardest 91 = .ok (.iconst 2, 1) := by decide +kernel
theorem dX6_hardest_92 : decode cX6_hardest 92 = .ok (.invokevirtual 62, 3) := by decide +kernel
theorem dX6_hardest_95 : decode cX6_hardest 95 = .ok (.ifCond .eq 7, 3) := by decide +kernel
theorem dX6_hardest_98 : decode cX6_hardest 98 = .ok (.iconst 0, 1) := by decide +kernel
theorem dX6_hardest_99 : decode cX6_hardest 99 = .ok (.goto 4, 3) := by decide +kernel
theorem dX6_hardest_102 : decode cX6_hardest 102 = .ok (.iload_n 2, 1) := by decide +kernel
theorem dX6_hardest_103 : decode cX6_hardest 103 = .ok (.ireturn, 1) := by decide +kernel
theorem dX6_climbsLeft_0 : decode cX6_climbsLeft 0 = .ok (.aload_n 0, 1) := by decide +kernel
theorem dX6_climbsLeft_1 : decode cX6_climbsLeft 1 = .ok (.iconst 0, 1) := by decide +kernel
theorem dX6_climbsLeft_2 : decode cX6_climbsLeft 2 = .ok (.putfield 51, 3) := by decide +kernel
theorem dX6_climbsLeft_5 : decode cX6_climbsLeft 5 = .ok (.aload_n 0, 1) := by decide +kernel
theorem dX6_climbsLeft_6 : decode cX6_climbsLeft 6 = .ok (.aload_n 0, 1) := by decide +kernel
theorem dX6_climbsLeft_7 : decode cX6_climbsLeft 7 = .ok (.iload_n 1, 1) := by decide +kernel
theorem dX6_climbsLeft_8 : decode cX6_climbsLeft 8 = .ok (.invokevirtual 238, 3) := by decide +kernel
theorem dX6_climbsLeft_11 : decode cX6_climbsLeft 11 = .ok (.iconst 1, 1) := by decide +kernel
theorem dX6_climbsLeft_12 : decode cX6_climbsLeft 12 = .ok (.invokevirtual 62, 3) := by decide +kernel
theorem dX6_climbsLeft_15 : decode cX6_climbsLeft 15 = .ok (.ifCond .eq 5, 3) := by decide +kernel
theorem dX6_climbsLeft_18 : decode cX6_climbsLeft 18 = .ok (.iconst 0, 1) := by decide +kernel
theorem dX6_climbsLeft_19 : decode cX6_climbsLeft 19 = .ok (.ireturn, 1) := by decide +kernel
theorem dX6_climbsLeft_20 : decode cX6_climbsLeft 20 = .ok (.iconst 1, 1) := by decide +kernel
theorem dX6_climbsLeft_21 : decode cX6_climbsLeft 21 = .ok (.aload_n 0, 1) := by decide +kernel
theorem dX6_climbsLeft_22 : decode cX6_climbsLeft 22 = .ok (.iload_n 1, 1) := by decide +kernel
theorem dX6_climbsLeft_23 : decode cX6_climbsLeft 23 = .ok (.invokevirtual 232, 3) := by decide +kernel
theorem dX6_climbsLeft_26 : decode cX6_climbsLeft 26 = .ok (.bipush 10, 2) := by decide +kernel
theorem dX6_climbsLeft_28 : decode cX6_climbsLeft 28 = .ok (.idiv, 1) := by decide +kernel
theorem dX6_climbsLeft_29 : decode cX6_climbsLeft 29 = .ok (.iadd, 1) := by decide +kernel
theorem dX6_climbsLeft_30 : decode cX6_climbsLeft 30 = .ok (.istore_n 2, 1) := by decide +kernel
theorem dX6_climbsLeft_31 : decode cX6_climbsLeft 31 = .ok (.aload_n 0, 1) := by decide +kernel
theorem dX6_climbsLeft_32 : decode cX6_climbsLeft 32 = .ok (.getfield 16, 3) := by decide +kernel
theorem dX6_climbsLeft_35 : decode cX6_climbsLeft 35 = .ok (.iconst 2, 1) := by decide +kernel
theorem dX6_climbsLeft_36 : decode cX6_climbsLeft 36 = .ok (.iaload, 1) := by decide +kernel
theorem dX6_climbsLeft_37 : decode cX6_climbsLeft 37 = .ok (.aload_n 0, 1) := by decide +kernel
theorem dX6_climbsLeft_38 : decode cX6_climbsLeft 38 = .ok (.iload_n 1, 1) := by decide +kernel
theorem dX6_climbsLeft_39 : decode cX6_climbsLeft 39 = .ok (.iconst 3, 1) := by decide +kernel
theorem dX6_climbsLeft_40 : decode cX6_climbsLeft 40 = .ok (.invokevirtual 163, 3) := by decide +kernel
theorem dX6_climbsLeft_43 : decode cX6_climbsLeft 43 = .ok (.isub, 1) := by decide +kernel
theorem dX6_climbsLeft_44 : decode cX6_climbsLeft 44 = .ok (.istore_n 3, 1) := by decide +kernel
theorem dX6_climbsLeft_45 : decode cX6_climbsLeft 45 = .ok (.iconst 0, 1) := by decide +kernel
theorem dX6_climbsLeft_46 : decode cX6_climbsLeft 46 = .ok (.istore 4, 2) := by decide +kernel
theorem dX6_climbsLeft_48 : decode cX6_climbsLeft 48 = .ok (.iload_n 3, 1) := by decide +kernel
theorem dX6_climbsLeft_49 : decode cX6_climbsLeft 49 = .ok (.ifCond .le 13, 3) := by decide +kernel
theorem dX6_climbsLeft_52 : decode cX6_climbsLeft 52 = .ok (.iload_n 3, 1) := by decide +kernel
theorem dX6_climbsLeft_53 : decode cX6_climbsLeft 53 = .ok (.iload_n 2, 1) := by decide +kernel
theorem dX6_climbsLeft_54 : decode cX6_climbsLeft 54 = .ok (.isub, 1) := by decide +kernel
theorem dX6_climbsLeft_55 : decode cX6_climbsLeft 55 = .ok (.istore_n 3, 1) := by decide +kernel
theorem dX6_climbsLeft_56 : decode cX6_climbsLeft 56 = .ok (.iinc 4 1, 3) := by decide +kernel
theorem dX6_climbsLeft_59 : decode cX6_climbsLeft 59 = .ok (.goto (-11), 3) := by decide +kernel
theorem dX6_climbsLeft_62 : decode cX6_climbsLeft 62 = .ok (.iload 4, 2) := by decide +kernel
theorem dX6_climbsLeft_64 : decode cX6_climbsLeft 64 = .ok (.ireturn, 1) := by decide +kernel
theorem dX6_averageGrade_0 : decode cX6_averageGrade 0 = .ok (.aload_n 0, 1) := by decide +kernel
theorem dX6_averageGrade_1 : decode cX6_averageGrade 1 = .ok (.iconst 0, 1) := by decide +kernel
theorem dX6_averageGrade_2 : decode cX6_averageGrade 2 = .ok (.putfield 51, 3) := by decide +kernel
theorem dX6_averageGrade_5 : decode cX6_averageGrade 5 = .ok (.aload_n 0, 1) := by decide +kernel
theorem dX6_averageGrade_6 : decode cX6_averageGrade 6 = .ok (.aload_n 0, 1) := by decide +kernel
theorem dX6_averageGrade_7 : decode cX6_averageGrade 7 = .ok (.getfield 16, 3) := by decide +kernel
theorem dX6_averageGrade_10 : decode cX6_averageGrade 10 = .ok (.bipush 37, 2) := by decide +kernel
theorem dX6_averageGrade_12 : decode cX6_averageGrade 12 = .ok (.iaload, 1) := by decide +kernel
theorem dX6_averageGrade_13 : decode cX6_averageGrade 13 = .ok (.ifCond .le 7, 3) := by decide +kernel
theorem dX6_averageGrade_16 : decode cX6_averageGrade 16 = .ok (.iconst 1, 1) := by decide +kernel
theorem dX6_averageGrade_17 : decode cX6_averageGrade 17 = .ok (.goto 4, 3) := by decide +kernel
theorem dX6_averageGrade_20 : decode cX6_averageGrade 20 = .ok (.iconst 0, 1) := by decide +kernel
theorem dX6_averageGrade_21 : decode cX6_averageGrade 21 = .ok (.iconst 1, 1) := by decide +kernel
theorem dX6_averageGrade_22 : decode cX6_averageGrade 22 = .ok (.invokevirtual 62, 3) := by decide +kernel
theorem dX6_averageGrade_25 : decode cX6_averageGrade 25 = .ok (.ifCond .eq 5, 3) := by decide +kernel
theorem dX6_averageGrade_28 : decode cX6_averageGrade 28 = .ok (.dconst 0, 1) := by decide +kernel
theorem dX6_averageGrade_29 : decode cX6_averageGrade 29 = .ok (.dreturn, 1) := by decide +kernel
theorem dX6_averageGrade_30 : decode cX6_averageGrade 30 = .ok (.iconst 0, 1) := by decide +kernel
theorem dX6_averageGrade_31 : decode cX6_averageGrade 31 = .ok (.istore_n 1, 1) := by decide +kernel
theorem dX6_averageGrade_32 : decode cX6_averageGrade 32 = .ok (.iconst 0, 1) := by decide +kernel
theorem dX6_averageGrade_33 : decode cX6_averageGrade 33 = .ok (.istore_n 2, 1) := by decide +kernel
theorem dX6_averageGrade_34 : decode cX6_averageGrade 34 = .ok (.iload_n 2, 1) := by decide +kernel
theorem dX6_averageGrade_35 : decode cX6_averageGrade 35 = .ok (.aload_n 0, 1) := by decide +kernel
theorem dX6_averageGrade_36 : decode cX6_averageGrade 36 = .ok (.getfield 16, 3) := by decide +kernel
theorem dX6_averageGrade_39 : decode cX6_averageGrade 39 = .ok (.bipush 37, 2) := by decide +kernel
theorem dX6_averageGrade_41 : decode cX6_averageGrade 41 = .ok (.iaload, 1) := by decide +kernel
theorem dX6_averageGrade_42 : decode cX6_averageGrade 42 = .ok (.if_icmp .ge 17, 3) := by decide +kernel
theorem dX6_averageGrade_45 : decode cX6_averageGrade 45 = .ok (.iload_n 1, 1) := by decide +kernel
theorem dX6_averageGrade_46 : decode cX6_averageGrade 46 = .ok (.aload_n 0, 1) := by decide +kernel
theorem dX6_averageGrade_47 : decode cX6_averageGrade 47 = .ok (.iload_n 2, 1) := by decide +kernel
theorem dX6_averageGrade_48 : decode cX6_averageGrade 48 = .ok (.invokevirtual 232, 3) := by decide +kernel
theorem dX6_averageGrade_51 : decode cX6_averageGrade 51 = .ok (.iadd, 1) := by decide +kernel
theorem dX6_averageGrade_52 : decode cX6_averageGrade 52 = .ok (.istore_n 1, 1) := by decide +kernel
theorem dX6_averageGrade_53 : decode cX6_averageGrade 53 = .ok (.iinc 2 1, 3) := by decide +kernel
theorem dX6_averageGrade_56 : decode cX6_averageGrade 56 = .ok (.goto (-22), 3) := by decide +kernel
theorem dX6_averageGrade_59 : decode cX6_averageGrade 59 = .ok (.iload_n 1, 1) := by decide +kernel
theorem dX6_averageGrade_60 : decode cX6_averageGrade 60 = .ok (.i2d, 1) := by decide +kernel
theorem dX6_averageGrade_61 : decode cX6_averageGrade 61 = .ok (.aload_n 0, 1) := by decide +kernel
theorem dX6_averageGrade_62 : decode cX6_averageGrade 62 = .ok (.getfield 16, 3) := by decide +kernel
theorem dX6_averageGrade_65 : decode cX6_averageGrade 65 = .ok (.bipush 37, 2) := by decide +kernel
theorem dX6_averageGrade_67 : decode cX6_averageGrade 67 = .ok (.iaload, 1) := by decide +kernel
theorem dX6_averageGrade_68 : decode cX6_averageGrade 68 = .ok (.i2d, 1) := by decide +kernel
theorem dX6_averageGrade_69 : decode cX6_averageGrade 69 = .ok (.ddiv, 1) := by decide +kernel
theorem dX6_averageGrade_70 : decode cX6_averageGrade 70 = .ok (.dreturn, 1) := by decide +kernel
theorem dX6_isClosedOn_0 : decode cX6_isClosedOn 0 = .ok (.iload_n 2, 1) := by decide +kernel
theorem dX6_isClosedOn_1 : decode cX6_isClosedOn 1 = .ok (.aload_n 0, 1) := by decide +kernel
theorem dX6_isClosedOn_2 : decode cX6_isClosedOn 2 = .ok (.iload_n 1, 1) := by decide +kernel
theorem dX6_isClosedOn_3 : decode cX6_isClosedOn 3 = .ok (.iconst 3, 1) := by decide +kernel
theorem dX6_isClosedOn_4 : decode cX6_isClosedOn 4 = .ok (.invokevirtual 195, 3) := by decide +kernel
theorem dX6_isClosedOn_7 : decode cX6_isClosedOn 7 = .ok (.isub, 1) := by decide +kernel
theorem dX6_isClosedOn_8 : decode cX6_isClosedOn 8 = .ok (.istore_n 3, 1) := by decide +kernel
theorem dX6_isClosedOn_9 : decode cX6_isClosedOn 9 = .ok (.iload_n 3, 1) := by decide +kernel
theorem dX6_isClosedOn_10 : decode cX6_isClosedOn 10 = .ok (.ifCond .lt 18, 3) := by decide +kernel
theorem dX6_isClosedOn_13 : decode cX6_isClosedOn 13 = .ok (.iload_n 3, 1) := by decide +kernel
theorem dX6_isClosedOn_14 : decode cX6_isClosedOn 14 = .ok (.aload_n 0, 1) := by decide +kernel
theorem dX6_isClosedOn_15 : decode cX6_isClosedOn 15 = .ok (.iload_n 1, 1) := by decide +kernel
theorem dX6_isClosedOn_16 : decode cX6_isClosedOn 16 = .ok (.iconst 2, 1) := by decide +kernel
theorem dX6_isClosedOn_17 : decode cX6_isClosedOn 17 = .ok (.invokevirtual 195, 3) := by decide +kernel
theorem dX6_isClosedOn_20 : decode cX6_isClosedOn 20 = .ok (.irem, 1) := by decide +kernel
theorem dX6_isClosedOn_21 : decode cX6_isClosedOn 21 = .ok (.ifCond .ne 7, 3) := by decide +kernel
theorem dX6_isClosedOn_24 : decode cX6_isClosedOn 24 = .ok (.iconst 1, 1) := by decide +kernel
theorem dX6_isClosedOn_25 : decode cX6_isClosedOn 25 = .ok (.goto 4, 3) := by decide +kernel
theorem dX6_isClosedOn_28 : decode cX6_isClosedOn 28 = .ok (.iconst 0, 1) := by decide +kernel
theorem dX6_isClosedOn_29 : decode cX6_isClosedOn 29 = .ok (.ireturn, 1) := by decide +kernel
theorem dX6_openOn_0 : decode cX6_openOn 0 = .ok (.iconst 0, 1) := by decide +kernel
theorem dX6_openOn_1 : decode cX6_openOn 1 = .ok (.istore_n 2, 1) := by decide +kernel
theorem dX6_openOn_2 : decode cX6_openOn 2 = .ok (.iconst 0, 1) := by decide +kernel
theorem dX6_openOn_3 : decode cX6_openOn 3 = .ok (.istore_n 3, 1) := by decide +kernel
theorem dX6_openOn_4 : decode cX6_openOn 4 = .ok (.iload_n 3, 1) := by decide +kernel
theorem dX6_openOn_5 : decode cX6_openOn 5 = .ok (.aload_n 0, 1) := by decide +kernel
theorem dX6_openOn_6 : decode cX6_openOn 6 = .ok (.getfield 16, 3) := by decide +kernel
theorem dX6_openOn_9 : decode cX6_openOn 9 = .ok (.iconst 4, 1) := by decide +kernel
theorem dX6_openOn_10 : decode cX6_openOn 10 = .ok (.iaload, 1) := by decide +kernel
theorem dX6_openOn_11 : decode cX6_openOn 11 = .ok (.if_icmp .ge 28, 3) := by decide +kernel
theorem dX6_openOn_14 : decode cX6_openOn 14 = .ok (.iload_n 2, 1) := by decide +kernel
theorem dX6_openOn_15 : decode cX6_openOn 15 = .ok (.aload_n 0, 1) := by decide +kernel
theorem dX6_openOn_16 : decode cX6_openOn 16 = .ok (.iload_n 3, 1) := by decide +kernel
theorem dX6_openOn_17 : decode cX6_openOn 17 = .ok (.iload_n 1, 1) := by decide +kernel
theorem dX6_openOn_18 : decode cX6_openOn 18 = .ok (.invokevirtual 320, 3) := by decide +kernel
theorem dX6_openOn_21 : decode cX6_openOn 21 = .ok (.ifCond .eq 7, 3) := by decide +kernel
theorem dX6_openOn_24 : decode cX6_openOn 24 = .ok (.iconst 0, 1) := by decide +kernel
theorem dX6_openOn_25 : decode cX6_openOn 25 = .ok (.goto 6, 3) := by decide +kernel
theorem dX6_openOn_28 : decode cX6_openOn 28 = .ok (.iconst 1, 1) := by decide +kernel
theorem dX6_openOn_29 : decode cX6_openOn 29 = .ok (.iload_n 3, 1) := by decide +kernel
theorem dX6_openOn_30 : decode cX6_openOn 30 = .ok (.ishl, 1) := by decide +kernel
theorem dX6_openOn_31 : decode cX6_openOn 31 = .ok (.ior, 1) := by decide +kernel
theorem dX6_openOn_32 : decode cX6_openOn 32 = .ok (.istore_n 2, 1) := by decide +kernel
theorem dX6_openOn_33 : decode cX6_openOn 33 = .ok (.iinc 3 1, 3) := by decide +kernel
theorem dX6_openOn_36 : decode cX6_openOn 36 = .ok (.goto (-32), 3) := by decide +kernel
theorem dX6_openOn_39 : decode cX6_openOn 39 = .ok (.iload_n 2, 1) := by decide +kernel
theorem dX6_openOn_40 : decode cX6_openOn 40 = .ok (.ireturn, 1) := by decide +kernel
theorem dX6_openWalls_0 : decode cX6_openWalls 0 = .ok (.aload_n 0, 1) := by decide +kernel
theorem dX6_openWalls_1 : decode cX6_openWalls 1 = .ok (.iconst 0, 1) := by decide +kernel
theorem dX6_openWalls_2 : decode cX6_openWalls 2 = .ok (.putfield 51, 3) := by decide +kernel
theorem dX6_openWalls_5 : decode cX6_openWalls 5 = .ok (.aload_n 0, 1) := by decide +kernel
theorem dX6_openWalls_6 : decode cX6_openWalls 6 = .ok (.iload_n 1, 1) := by decide +kernel
theorem dX6_openWalls_7 : decode cX6_openWalls 7 = .ok (.i2l, 1) := by decide +kernel
theorem dX6_openWalls_8 : decode cX6_openWalls 8 = .ok (.aload_n 0, 1) := by decide +kernel
theorem dX6_openWalls_9 : decode cX6_openWalls 9 = .ok (.getfield 16, 3) := by decide +kernel
theorem dX6_openWalls_12 : decode cX6_openWalls 12 = .ok (.iconst 3, 1) := by decide +kernel
theorem dX6_openWalls_13 : decode cX6_openWalls 13 = .ok (.iaload, 1) := by decide +kernel
theorem dX6_openWalls_14 : decode cX6_openWalls 14 = .ok (.i2l, 1) := by decide +kernel
theorem dX6_openWalls_15 : decode cX6_openWalls 15 = .ok (.ldc2_w 323, 3) := by decide +kernel
theorem dX6_openWalls_18 : decode cX6_openWalls 18 = .ok (.invokestatic 66, 3) := by decide +kernel
theorem dX6_openWalls_21 : decode cX6_openWalls 21 = .ok (.iconst 1, 1) := by decide +kernel
theorem dX6_openWalls_22 : decode cX6_openWalls 22 = .ok (.invokevirtual 62, 3) := by decide +kernel
theorem dX6_openWalls_25 : decode cX6_openWalls 25 = .ok (.ifCond .eq 7, 3) := by decide +kernel
theorem dX6_openWalls_28 : decode cX6_openWalls 28 = .ok (.iconst 0, 1) := by decide +kernel
theorem dX6_openWalls_29 : decode cX6_openWalls 29 = .ok (.goto 8, 3) := by decide +kernel
theorem dX6_openWalls_32 : decode cX6_openWalls 32 = .ok (.aload_n 0, 1) := by decide +kernel
theorem dX6_openWalls_33 : decode cX6_openWalls 33 = .ok (.iload_n 1, 1) := by decide +kernel
theorem dX6_openWalls_34 : decode cX6_openWalls 34 = .ok (.invokevirtual 325, 3) := by decide +kernel
theorem dX6_openWalls_37 : decode cX6_openWalls 37 = .ok (.ireturn, 1) := by decide +kernel
theorem dX6_worstDay_0 : decode cX6_worstDay 0 = .ok (.aload_n 0, 1) := by decide +kernel
theorem dX6_worstDay_1 : decode cX6_worstDay 1 = .ok (.iconst 0, 1) := by decide +kernel
theorem dX6_worstDay_2 : decode cX6_worstDay 2 = .ok (.putfield 51, 3) := by decide +kernel
theorem dX6_worstDay_5 : decode cX6_worstDay 5 = .ok (.aload_n 0, 1) := by decide +kernel
theorem dX6_worstDay_6 : decode cX6_worstDay 6 = .ok (.iload_n 1, 1) := by decide +kernel
theorem dX6_worstDay_7 : decode cX6_worstDay 7 = .ok (.i2l, 1) := by decide +kernel
theorem dX6_worstDay_8 : decode cX6_worstDay 8 = .ok (.lconst 1, 1) := by decide +kernel
theorem dX6_worstDay_9 : decode cX6_worstDay 9 = .ok (.ldc2_w 328, 3) := by decide +kernel
theorem dX6_worstDay_12 : decode cX6_worstDay 12 = .ok (.invokestatic 66, 3) := by decide +kernel
theorem dX6_worstDay_15 : decode cX6_worstDay 15 = .ok (.iconst 1, 1) := by decide +kernel
theorem dX6_worstDay_16 : decode cX6_worstDay 16 = .ok (.invokevirtual 62, 3) := by decide +kernel
theorem dX6_worstDay_19 : decode cX6_worstDay 19 = .ok (.ifCond .eq 5, 3) := by decide +kernel
theorem dX6_worstDay_22 : decode cX6_worstDay 22 = .ok (.iconst 0, 1) := by decide +kernel
theorem dX6_worstDay_23 : decode cX6_worstDay 23 = .ok (.ireturn, 1) := by decide +kernel
theorem dX6_worstDay_24 : decode cX6_worstDay 24 = .ok (.aload_n 0, 1) := by decide +kernel
theorem dX6_worstDay_25 : decode cX6_worstDay 25 = .ok (.getfield 16, 3) := by decide +kernel
theorem dX6_worstDay_28 : decode cX6_worstDay 28 = .ok (.iconst 3, 1) := by decide +kernel
theorem dX6_worstDay_29 : decode cX6_worstDay 29 = .ok (.iaload, 1) := by decide +kernel
theorem dX6_worstDay_30 : decode cX6_worstDay 30 = .ok (.istore_n 2, 1) := by decide +kernel
theorem dX6_worstDay_31 : decode cX6_worstDay 31 = .ok (.aload_n 0, 1) := by decide +kernel
theorem dX6_worstDay_32 : decode cX6_worstDay 32 = .ok (.getfield 16, 3) := by decide +kernel
theorem dX6_worstDay_35 : decode cX6_worstDay 35 = .ok (.iconst 3, 1) := by decide +kernel
theorem dX6_worstDay_36 : decode cX6_worstDay 36 = .ok (.iaload, 1) := by decide +kernel
theorem dX6_worstDay_37 : decode cX6_worstDay 37 = .ok (.iconst 1, 1) := by decide +kernel
theorem dX6_worstDay_38 : decode cX6_worstDay 38 = .ok (.iadd, 1) := by decide +kernel
theorem dX6_worstDay_39 : decode cX6_worstDay 39 = .ok (.istore_n 3, 1) := by decide +kernel
theorem dX6_worstDay_40 : decode cX6_worstDay 40 = .ok (.iload_n 3, 1) := by decide +kernel
theorem dX6_worstDay_41 : decode cX6_worstDay 41 = .ok (.aload_n 0, 1) := by decide +kernel
theorem dX6_worstDay_42 : decode cX6_worstDay 42 = .ok (.getfield 16, 3) := by decide +kernel
theorem dX6_worstDay_45 : decode cX6_worstDay 45 = .ok (.iconst 3, 1) := by decide +kernel
theorem dX6_worstDay_46 : decode cX6_worstDay 46 = .ok (.iaload, 1) := by decide +kernel
theorem dX6_worstDay_47 : decode cX6_worstDay 47 = .ok (.iload_n 1, 1) := by decide +kernel
theorem dX6_worstDay_48 : decode cX6_worstDay 48 = .ok (.iadd, 1) := by decide +kernel
theorem dX6_worstDay_49 : decode cX6_worstDay 49 = .ok (.if_icmp .ge 34, 3) := by decide +kernel
theorem dX6_worstDay_52 : decode cX6_worstDay 52 = .ok (.aload_n 0, 1) := by decide +kernel
theorem dX6_worstDay_53 : decode cX6_worstDay 53 = .ok (.iload_n 3, 1) := by decide +kernel
theorem dX6_worstDay_54 : decode cX6_worstDay 54 = .ok (.invokevirtual 325, 3) := by decide +kernel
theorem dX6_worstDay_57 : decode cX6_worstDay 57 = .ok (.invokestatic 274, 3) := by decide +kernel
theorem dX6_worstDay_60 : decode cX6_worstDay 60 = .ok (.aload_n 0, 1) := by decide +kernel
theorem dX6_worstDay_61 : decode cX6_worstDay 61 = .ok (.iload_n 2, 1) := by decide +kernel
theorem dX6_worstDay_62 : decode cX6_worstDay 62 = .ok (.invokevirtual 325, 3) := by decide +kernel
theorem dX6_worstDay_65 : decode cX6_worstDay 65 = .ok (.invokestatic 274, 3) := by decide +kernel
theorem dX6_worstDay_68 : decode cX6_worstDay 68 = .ok (.if_icmp .ge 7, 3) := by decide +kernel
theorem dX6_worstDay_71 : decode cX6_worstDay 71 = .ok (.iload_n 3, 1) := by decide +kernel
theorem dX6_worstDay_72 : decode cX6_worstDay 72 = .ok (.goto 4, 3) := by decide +kernel
theorem dX6_worstDay_75 : decode cX6_worstDay 75 = .ok (.iload_n 2, 1) := by decide +kernel
theorem dX6_worstDay_76 : decode cX6_worstDay 76 = .ok (.istore_n 2, 1) := by decide +kernel
theorem dX6_worstDay_77 : decode cX6_worstDay 77 = .ok (.iinc 3 1, 3) := by decide +kernel
theorem dX6_worstDay_80 : decode cX6_worstDay 80 = .ok (.goto (-40), 3) := by decide +kernel
theorem dX6_worstDay_83 : decode cX6_worstDay 83 = .ok (.iload_n 2, 1) := by decide +kernel
theorem dX6_worstDay_84 : decode cX6_worstDay 84 = .ok (.ireturn, 1) := by decide +kernel
theorem dX6_isAlone_0 : decode cX6_isAlone 0 = .ok (.iconst 1, 1) := by decide +kernel
theorem dX6_isAlone_1 : decode cX6_isAlone 1 = .ok (.istore_n 3, 1) := by decide +kernel
theorem dX6_isAlone_2 : decode cX6_isAlone 2 = .ok (.iconst 0, 1) := by decide +kernel
theorem dX6_isAlone_3 : decode cX6_isAlone 3 = .ok (.istore 4, 2) := by decide +kernel
theorem dX6_isAlone_5 : decode cX6_isAlone 5 = .ok (.iload 4, 2) := by decide +kernel
theorem dX6_isAlone_7 : decode cX6_isAlone 7 = .ok (.aload_n 0, 1) := by decide +kernel
theorem dX6_isAlone_8 : decode cX6_isAlone 8 = .ok (.getfield 16, 3) := by decide +kernel
theorem dX6_isAlone_11 : decode cX6_isAlone 11 = .ok (.iconst 4, 1) := by decide +kernel
theorem dX6_isAlone_12 : decode cX6_isAlone 12 = .ok (.iaload, 1) := by decide +kernel
theorem dX6_isAlone_13 : decode cX6_isAlone 13 = .ok (.if_icmp .ge 33, 3) := by decide +kernel
theorem dX6_isAlone_16 : decode cX6_isAlone 16 = .ok (.iload_n 3, 1) := by decide +kernel
theorem dX6_isAlone_17 : decode cX6_isAlone 17 = .ok (.iload 4, 2) := by decide +kernel
theorem dX6_isAlone_19 : decode cX6_isAlone 19 = .ok (.iload_n 1, 1) := by decide +kernel
theorem dX6_isAlone_20 : decode cX6_isAlone 20 = .ok (.if_icmp .eq 13, 3) := by decide +kernel
theorem dX6_isAlone_23 : decode cX6_isAlone 23 = .ok (.aload_n 0, 1) := by decide +kernel
theorem dX6_isAlone_24 : decode cX6_isAlone 24 = .ok (.iload 4, 2) := by decide +kernel
theorem dX6_isAlone_26 : decode cX6_isAlone 26 = .ok (.iload_n 2, 1) := by decide +kernel
theorem dX6_isAlone_27 : decode cX6_isAlone 27 = .ok (.invokevirtual 320, 3) := by decide +kernel
theorem dX6_isAlone_30 : decode cX6_isAlone 30 = .ok (.ifCond .ne 7, 3) := by decide +kernel
theorem dX6_isAlone_33 : decode cX6_isAlone 33 = .ok (.iconst 1, 1) := by decide +kernel
theorem dX6_isAlone_34 : decode cX6_isAlone 34 = .ok (.goto 4, 3) := by decide +kernel
theorem dX6_isAlone_37 : decode cX6_isAlone 37 = .ok (.iconst 0, 1) := by decide +kernel
theorem dX6_isAlone_38 : decode cX6_isAlone 38 = .ok (.iand, 1) := by decide +kernel
theorem dX6_isAlone_39 : decode cX6_isAlone 39 = .ok (.istore_n 3, 1) := by decide +kernel
theorem dX6_isAlone_40 : decode cX6_isAlone 40 = .ok (.iinc 4 1, 3) := by decide +kernel
theorem dX6_isAlone_43 : decode cX6_isAlone 43 = .ok (.goto (-38), 3) := by decide +kernel
theorem dX6_isAlone_46 : decode cX6_isAlone 46 = .ok (.iload_n 3, 1) := by decide +kernel
theorem dX6_isAlone_47 : decode cX6_isAlone 47 = .ok (.ireturn, 1) := by decide +kernel
theorem dX6_shiftFor_0 : decode cX6_shiftFor 0 = .ok (.aload_n 0, 1) := by decide +kernel
theorem dX6_shiftFor_1 : decode cX6_shiftFor 1 = .ok (.iconst 0, 1) := by decide +kernel
theorem dX6_shiftFor_2 : decode cX6_shiftFor 2 = .ok (.putfield 51, 3) := by decide +kernel
theorem dX6_shiftFor_5 : decode cX6_shiftFor 5 = .ok (.aload_n 0, 1) := by decide +kernel
theorem dX6_shiftFor_6 : decode cX6_shiftFor 6 = .ok (.aload_n 0, 1) := by decide +kernel
theorem dX6_shiftFor_7 : decode cX6_shiftFor 7 = .ok (.iload_n 1, 1) := by decide +kernel
theorem dX6_shiftFor_8 : decode cX6_shiftFor 8 = .ok (.invokevirtual 220, 3) := by decide +kernel
theorem dX6_shiftFor_11 : decode cX6_shiftFor 11 = .ok (.iconst 1, 1) := by decide +kernel
theorem dX6_shiftFor_12 : decode cX6_shiftFor 12 = .ok (.invokevirtual 62, 3) := by decide +kernel
theorem dX6_shiftFor_15 : decode cX6_shiftFor 15 = .ok (.ifCond .eq 5, 3) := by decide +kernel
theorem dX6_shiftFor_18 : decode cX6_shiftFor 18 = .ok (.iconst 0, 1) := by decide +kernel
theorem dX6_shiftFor_19 : decode cX6_shiftFor 19 = .ok (.ireturn, 1) := by decide +kernel
theorem dX6_shiftFor_20 : decode cX6_shiftFor 20 = .ok (.iconst 0, 1) := by decide +kernel
theorem dX6_shiftFor_21 : decode cX6_shiftFor 21 = .ok (.istore_n 2, 1) := by decide +kernel
theorem dX6_shiftFor_22 : decode cX6_shiftFor 22 = .ok (.iload_n 2, 1) := by decide +kernel
theorem dX6_shiftFor_23 : decode cX6_shiftFor 23 = .ok (.bipush 14, 2) := by decide +kernel
theorem dX6_shiftFor_25 : decode cX6_shiftFor 25 = .ok (.if_icmp .gt 25, 3) := by decide +kernel
theorem dX6_shiftFor_28 : decode cX6_shiftFor 28 = .ok (.aload_n 0, 1) := by decide +kernel
theorem dX6_shiftFor_29 : decode cX6_shiftFor 29 = .ok (.iload_n 1, 1) := by decide +kernel
theorem dX6_shiftFor_30 : decode cX6_shiftFor 30 = .ok (.aload_n 0, 1) := by decide +kernel
theorem dX6_shiftFor_31 : decode cX6_shiftFor 31 = .ok (.iload_n 1, 1) := by decide +kernel
theorem dX6_shiftFor_32 : decode cX6_shiftFor 32 = .ok (.iconst 3, 1) := by decide +kernel
theorem dX6_shiftFor_33 : decode cX6_shiftFor 33 = .ok (.invokevirtual 195, 3) := by decide +kernel
theorem dX6_shiftFor_36 : decode cX6_shiftFor 36 = .ok (.iload_n 2, 1) := by decide +kernel
theorem dX6_shiftFor_37 : decode cX6_shiftFor 37 = .ok (.iadd, 1) := by decide +kernel
theorem dX6_shiftFor_38 : decode cX6_shiftFor 38 = .ok (.invokevirtual 330, 3) := by decide +kernel
theorem dX6_shiftFor_41 : decode cX6_shiftFor 41 = .ok (.ifCond .ne 9, 3) := by decide +kernel
theorem dX6_shiftFor_44 : decode cX6_shiftFor 44 = .ok (.iinc 2 1, 3) := by decide +kernel
theorem dX6_shiftFor_47 : decode cX6_shiftFor 47 = .ok (.goto (-25), 3) := by decide +kernel
theorem dX6_shiftFor_50 : decode cX6_shiftFor 50 = .ok (.aload_n 0, 1) := by decide +kernel
theorem dX6_shiftFor_51 : decode cX6_shiftFor 51 = .ok (.iload_n 2, 1) := by decide +kernel
theorem dX6_shiftFor_52 : decode cX6_shiftFor 52 = .ok (.bipush 14, 2) := by decide +kernel
theorem dX6_shiftFor_54 : decode cX6_shiftFor 54 = .ok (.if_icmp .gt 7, 3) := by decide +kernel
theorem dX6_shiftFor_57 : decode cX6_shiftFor 57 = .ok (.iconst 1, 1) := by decide +kernel
theorem dX6_shiftFor_58 : decode cX6_shiftFor 58 = .ok (.goto 4, 3) := by decide +kernel
theorem dX6_shiftFor_61 : decode cX6_shiftFor 61 = .ok (.iconst 0, 1) := by decide +kernel
theorem dX6_shiftFor_62 : decode cX6_shiftFor 62 = .ok (.iconst 2, 1) := by decide +kernel
theorem dX6_shiftFor_63 : decode cX6_shiftFor 63 = .ok (.invokevirtual 62, 3) := by decide +kernel
theorem dX6_shiftFor_66 : decode cX6_shiftFor 66 = .ok (.ifCond .eq 7, 3) := by decide +kernel
theorem dX6_shiftFor_69 : decode cX6_shiftFor 69 = .ok (.iconst 0, 1) := by decide +kernel
theorem dX6_shiftFor_70 : decode cX6_shiftFor 70 = .ok (.goto 4, 3) := by decide +kernel
theorem dX6_shiftFor_73 : decode cX6_shiftFor 73 = .ok (.iload_n 2, 1) := by decide +kernel
theorem dX6_shiftFor_74 : decode cX6_shiftFor 74 = .ok (.ireturn, 1) := by decide +kernel
theorem dX6_lendable_0 : decode cX6_lendable 0 = .ok (.aload_n 0, 1) := by decide +kernel
theorem dX6_lendable_1 : decode cX6_lendable 1 = .ok (.iconst 0, 1) := by decide +kernel
theorem dX6_lendable_2 : decode cX6_lendable 2 = .ok (.putfield 51, 3) := by decide +kernel
theorem dX6_lendable_5 : decode cX6_lendable 5 = .ok (.aload_n 0, 1) := by decide +kernel
theorem dX6_lendable_6 : decode cX6_lendable 6 = .ok (.iload_n 1, 1) := by decide +kernel
theorem dX6_lendable_7 : decode cX6_lendable 7 = .ok (.i2l, 1) := by decide +kernel
theorem dX6_lendable_8 : decode cX6_lendable 8 = .ok (.lconst 0, 1) := by decide +kernel
theorem dX6_lendable_9 : decode cX6_lendable 9 = .ok (.ldc2_w 300, 3) := by decide +kernel
theorem dX6_lendable_12 : decode cX6_lendable 12 = .ok (.invokestatic 66, 3) := by decide +kernel
theorem dX6_lendable_15 : decode cX6_lendable 15 = .ok (.iconst 1, 1) := by decide +kernel
theorem dX6_lendable_16 : decode cX6_lendable 16 = .ok (.invokevirtual 62, 3) := by decide +kernel
theorem dX6_lendable_19 : decode cX6_lendable 19 = .ok (.ifCond .eq 5, 3) := by decide +kernel
theorem dX6_lendable_22 : decode cX6_lendable 22 = .ok (.iconst 0, 1) := by decide +kernel
theorem dX6_lendable_23 : decode cX6_lendable 23 = .ok (.ireturn, 1) := by decide +kernel
theorem dX6_lendable_24 : decode cX6_lendable 24 = .ok (.iconst 0, 1) := by decide +kernel
theorem dX6_lendable_25 : decode cX6_lendable 25 = .ok (.istore_n 2, 1) := by decide +kernel
theorem dX6_lendable_26 : decode cX6_lendable 26 = .ok (.iconst 0, 1) := by decide +kernel
theorem dX6_lendable_27 : decode cX6_lendable 27 = .ok (.istore_n 3, 1) := by decide +kernel
theorem dX6_lendable_28 : decode cX6_lendable 28 = .ok (.iload_n 3, 1) := by decide +kernel
theorem dX6_lendable_29 : decode cX6_lendable 29 = .ok (.aload_n 0, 1) := by decide +kernel
theorem dX6_lendable_30 : decode cX6_lendable 30 = .ok (.getfield 16, 3) := by decide +kernel
theorem dX6_lendable_33 : decode cX6_lendable 33 = .ok (.sipush 470, 3) := by decide +kernel
theorem dX6_lendable_36 : decode cX6_lendable 36 = .ok (.iaload, 1) := by decide +kernel
theorem dX6_lendable_37 : decode cX6_lendable 37 = .ok (.if_icmp .ge 63, 3) := by decide +kernel
theorem dX6_lendable_40 : decode cX6_lendable 40 = .ok (.aload_n 0, 1) := by decide +kernel
theorem dX6_lendable_41 : decode cX6_lendable 41 = .ok (.iload_n 3, 1) := by decide +kernel
theorem dX6_lendable_42 : decode cX6_lendable 42 = .ok (.iconst 0, 1) := by decide +kernel
theorem dX6_lendable_43 : decode cX6_lendable 43 = .ok (.invokevirtual 198, 3) := by decide +kernel
theorem dX6_lendable_46 : decode cX6_lendable 46 = .ok (.iload_n 1, 1) := by decide +kernel
theorem dX6_lendable_47 : decode cX6_lendable 47 = .ok (.if_icmp .ne 29, 3) := by decide +kernel
theorem dX6_lendable_50 : decode cX6_lendable 50 = .ok (.aload_n 0, 1) := by decide +kernel
theorem dX6_lendable_51 : decode cX6_lendable 51 = .ok (.iload_n 3, 1) := by decide +kernel
theorem dX6_lendable_52 : decode cX6_lendable 52 = .ok (.invokevirtual 256, 3) := by decide +kernel
theorem dX6_lendable_55 : decode cX6_lendable 55 = .ok (.ifCond .ne 21, 3) := by decide +kernel
theorem dX6_lendable_58 : decode cX6_lendable 58 = .ok (.aload_n 0, 1) := by decide +kernel
theorem dX6_lendable_59 : decode cX6_lendable 59 = .ok (.iload_n 3, 1) := by decide +kernel
theorem dX6_lendable_60 : decode cX6_lendable 60 = .ok (.aload_n 0, 1) := by decide +kernel
theorem dX6_lendable_61 : decode cX6_lendable 61 = .ok (.getfield 16, 3) := by decide +kernel
theorem dX6_lendable_64 : decode cX6_lendable 64 = .ok (.iconst 3, 1) := by decide +kernel
theorem dX6_lendable_65 : decode cX6_lendable 65 = .ok (.iaload, 1) := by decide +kernel
theorem dX6_lendable_66 : decode cX6_lendable 66 = .ok (.invokevirtual 210, 3) := by decide +kernel
theorem dX6_lendable_69 : decode cX6_lendable 69 = .ok (.ifCond .eq 7, 3) := by decide +kernel
theorem dX6_lendable_72 : decode cX6_lendable 72 = .ok (.iconst 1, 1) := by decide +kernel
theorem dX6_lendable_73 : decode cX6_lendable 73 = .ok (.goto 4, 3) := by decide +kernel
theorem dX6_lendable_76 : decode cX6_lendable 76 = .ok (.iconst 0, 1) := by decide +kernel
theorem dX6_lendable_77 : decode cX6_lendable 77 = .ok (.istore 4, 2) := by decide +kernel
theorem dX6_lendable_79 : decode cX6_lendable 79 = .ok (.iload_n 2, 1) := by decide +kernel
theorem dX6_lendable_80 : decode cX6_lendable 80 = .ok (.iload 4, 2) := by decide +kernel
theorem dX6_lendable_82 : decode cX6_lendable 82 = .ok (.ifCond .eq 9, 3) := by decide +kernel
theorem dX6_lendable_85 : decode cX6_lendable 85 = .ok (.iconst 1, 1) := by decide +kernel
theorem dX6_lendable_86 : decode cX6_lendable 86 = .ok (.iload_n 3, 1) := by decide +kernel
theorem dX6_lendable_87 : decode cX6_lendable 87 = .ok (.ishl, 1) := by decide +kernel
theorem dX6_lendable_88 : decode cX6_lendable 88 = .ok (.goto 4, 3) := by decide +kernel
theorem dX6_lendable_91 : decode cX6_lendable 91 = .ok (.iconst 0, 1) := by decide +kernel
theorem dX6_lendable_92 : decode cX6_lendable 92 = .ok (.ior, 1) := by decide +kernel
theorem dX6_lendable_93 : decode cX6_lendable 93 = .ok (.istore_n 2, 1) := by decide +kernel
theorem dX6_lendable_94 : decode cX6_lendable 94 = .ok (.iinc 3 1, 3) := by decide +kernel
theorem dX6_lendable_97 : decode cX6_lendable 97 = .ok (.goto (-69), 3) := by decide +kernel
theorem dX6_lendable_100 : decode cX6_lendable 100 = .ok (.iload_n 2, 1) := by decide +kernel
theorem dX6_lendable_101 : decode cX6_lendable 101 = .ok (.ireturn, 1) := by decide +kernel
theorem dX6_lapsing_0 : decode cX6_lapsing 0 = .ok (.aload_n 0, 1) := by decide +kernel
theorem dX6_lapsing_1 : decode cX6_lapsing 1 = .ok (.iconst 0, 1) := by decide +kernel
theorem dX6_lapsing_2 : decode cX6_lapsing 2 = .ok (.putfield 51, 3) := by decide +kernel
theorem dX6_lapsing_5 : decode cX6_lapsing 5 = .ok (.aload_n 0, 1) := by decide +kernel
theorem dX6_lapsing_6 : decode cX6_lapsing 6 = .ok (.iload_n 1, 1) := by decide +kernel
theorem dX6_lapsing_7 : decode cX6_lapsing 7 = .ok (.i2l, 1) := by decide +kernel
theorem dX6_lapsing_8 : decode cX6_lapsing 8 = .ok (.lconst 0, 1) := by decide +kernel
theorem dX6_lapsing_9 : decode cX6_lapsing 9 = .ok (.ldc2_w 328, 3) := by decide +kernel
theorem dX6_lapsing_12 : decode cX6_lapsing 12 = .ok (.invokestatic 66, 3) := by decide +kernel
theorem dX6_lapsing_15 : decode cX6_lapsing 15 = .ok (.iconst 1, 1) := by decide +kernel
theorem dX6_lapsing_16 : decode cX6_lapsing 16 = .ok (.invokevirtual 62, 3) := by decide +kernel
theorem dX6_lapsing_19 : decode cX6_lapsing 19 = .ok (.ifCond .eq 5, 3) := by decide +kernel
theorem dX6_lapsing_22 : decode cX6_lapsing 22 = .ok (.iconst 0, 1) := by decide +kernel
theorem dX6_lapsing_23 : decode cX6_lapsing 23 = .ok (.ireturn, 1) := by decide +kernel
theorem dX6_lapsing_24 : decode cX6_lapsing 24 = .ok (.iconst 0, 1) := by decide +kernel
theorem dX6_lapsing_25 : decode cX6_lapsing 25 = .ok (.istore_n 2, 1) := by decide +kernel
theorem dX6_lapsing_26 : decode cX6_lapsing 26 = .ok (.iconst 0, 1) := by decide +kernel
theorem dX6_lapsing_27 : decode cX6_lapsing 27 = .ok (.istore_n 3, 1) := by decide +kernel
theorem dX6_lapsing_28 : decode cX6_lapsing 28 = .ok (.iload_n 3, 1) := by decide +kernel
theorem dX6_lapsing_29 : decode cX6_lapsing 29 = .ok (.aload_n 0, 1) := by decide +kernel
theorem dX6_lapsing_30 : decode cX6_lapsing 30 = .ok (.getfield 16, 3) := by decide +kernel
theorem dX6_lapsing_33 : decode cX6_lapsing 33 = .ok (.sipush 470, 3) := by decide +kernel
theorem dX6_lapsing_36 : decode cX6_lapsing 36 = .ok (.iaload, 1) := by decide +kernel
theorem dX6_lapsing_37 : decode cX6_lapsing 37 = .ok (.if_icmp .ge 43, 3) := by decide +kernel
theorem dX6_lapsing_40 : decode cX6_lapsing 40 = .ok (.iload_n 2, 1) := by decide +kernel
theorem dX6_lapsing_41 : decode cX6_lapsing 41 = .ok (.aload_n 0, 1) := by decide +kernel
theorem dX6_lapsing_42 : decode cX6_lapsing 42 = .ok (.iload_n 3, 1) := by decide +kernel
theorem dX6_lapsing_43 : decode cX6_lapsing 43 = .ok (.invokevirtual 201, 3) := by decide +kernel
theorem dX6_lapsing_46 : decode cX6_lapsing 46 = .ok (.ifCond .ne 25, 3) := by decide +kernel
theorem dX6_lapsing_49 : decode cX6_lapsing 49 = .ok (.aload_n 0, 1) := by decide +kernel
theorem dX6_lapsing_50 : decode cX6_lapsing 50 = .ok (.iload_n 3, 1) := by decide +kernel
theorem dX6_lapsing_51 : decode cX6_lapsing 51 = .ok (.aload_n 0, 1) := by decide +kernel
theorem dX6_lapsing_52 : decode cX6_lapsing 52 = .ok (.getfield 16, 3) := by decide +kernel
theorem dX6_lapsing_55 : decode cX6_lapsing 55 = .ok (.iconst 3, 1) := by decide +kernel
theorem dX6_lapsing_56 : decode cX6_lapsing 56 = .ok (.iaload, 1) := by decide +kernel
theorem dX6_lapsing_57 : decode cX6_lapsing 57 = .ok (.iload_n 1, 1) := by decide +kernel
theorem dX6_lapsing_58 : decode cX6_lapsing 58 = .ok (.iadd, 1) := by decide +kernel
theorem dX6_lapsing_59 : decode cX6_lapsing 59 = .ok (.invokevirtual 210, 3) := by decide +kernel
theorem dX6_lapsing_62 : decode cX6_lapsing 62 = .ok (.ifCond .ne 9, 3) := by decide +kernel
theorem dX6_lapsing_65 : decode cX6_lapsing 65 = .ok (.iconst 1, 1) := by decide +kernel
theorem dX6_lapsing_66 : decode cX6_lapsing 66 = .ok (.iload_n 3, 1) := by decide +kernel
theorem dX6_lapsing_67 : decode cX6_lapsing 67 = .ok (.ishl, 1) := by decide +kernel
theorem dX6_lapsing_68 : decode cX6_lapsing 68 = .ok (.goto 4, 3) := by decide +kernel
theorem dX6_lapsing_71 : decode cX6_lapsing 71 = .ok (.iconst 0, 1) := by decide +kernel
theorem dX6_lapsing_72 : decode cX6_lapsing 72 = .ok (.ior, 1) := by decide +kernel
theorem dX6_lapsing_73 : decode cX6_lapsing 73 = .ok (.istore_n 2, 1) := by decide +kernel
theorem dX6_lapsing_74 : decode cX6_lapsing 74 = .ok (.iinc 3 1, 3) := by decide +kernel
theorem dX6_lapsing_77 : decode cX6_lapsing 77 = .ok (.goto (-49), 3) := by decide +kernel
theorem dX6_lapsing_80 : decode cX6_lapsing 80 = .ok (.iload_n 2, 1) := by decide +kernel
theorem dX6_lapsing_81 : decode cX6_lapsing 81 = .ok (.ireturn, 1) := by decide +kernel
theorem dX6_isOfUse_0 : decode cX6_isOfUse 0 = .ok (.aload_n 0, 1) := by decide +kernel
theorem dX6_isOfUse_1 : decode cX6_isOfUse 1 = .ok (.iload_n 1, 1) := by decide +kernel
theorem dX6_isOfUse_2 : decode cX6_isOfUse 2 = .ok (.iconst 0, 1) := by decide +kernel
theorem dX6_isOfUse_3 : decode cX6_isOfUse 3 = .ok (.invokevirtual 198, 3) := by decide +kernel
theorem dX6_isOfUse_6 : decode cX6_isOfUse 6 = .ok (.iload_n 2, 1) := by decide +kernel
theorem dX6_isOfUse_7 : decode cX6_isOfUse 7 = .ok (.if_icmp .ne 15, 3) := by decide +kernel
theorem dX6_isOfUse_10 : decode cX6_isOfUse 10 = .ok (.aload_n 0, 1) := by decide +kernel
theorem dX6_isOfUse_11 : decode cX6_isOfUse 11 = .ok (.iload_n 1, 1) := by decide +kernel
theorem dX6_isOfUse_12 : decode cX6_isOfUse 12 = .ok (.invokevirtual 201, 3) := by decide +kernel
theorem dX6_isOfUse_15 : decode cX6_isOfUse 15 = .ok (.ifCond .ne 7, 3) := by decide +kernel
theorem dX6_isOfUse_18 : decode cX6_isOfUse 18 = .ok (.iconst 1, 1) := by decide +kernel
theorem dX6_isOfUse_19 : decode cX6_isOfUse 19 = .ok (.goto 4, 3) := by decide +kernel
theorem dX6_isOfUse_22 : decode cX6_isOfUse 22 = .ok (.iconst 0, 1) := by decide +kernel
theorem dX6_isOfUse_23 : decode cX6_isOfUse 23 = .ok (.ireturn, 1) := by decide +kernel
theorem dX6_longest_0 : decode cX6_longest 0 = .ok (.iconst (-1), 1) := by decide +kernel
theorem dX6_longest_1 : decode cX6_longest 1 = .ok (.istore_n 2, 1) := by decide +kernel
theorem dX6_longest_2 : decode cX6_longest 2 = .ok (.iconst 0, 1) := by decide +kernel
theorem dX6_longest_3 : decode cX6_longest 3 = .ok (.istore_n 3, 1) := by decide +kernel
theorem dX6_longest_4 : decode cX6_longest 4 = .ok (.iload_n 3, 1) := by decide +kernel
theorem dX6_longest_5 : decode cX6_longest 5 = .ok (.aload_n 0, 1) := by decide +kernel
theorem dX6_longest_6 : decode cX6_longest 6 = .ok (.getfield 16, 3) := by decide +kernel
theorem dX6_longest_9 : decode cX6_longest 9 = .ok (.sipush 470, 3) := by decide +kernel
theorem dX6_longest_12 : decode cX6_longest 12 = .ok (.iaload, 1) := by decide +kernel
theorem dX6_longest_13 : decode cX6_longest 13 = .ok (.if_icmp .ge 40, 3) := by decide +kernel
theorem dX6_longest_16 : decode cX6_longest 16 = .ok (.aload_n 0, 1) := by decide +kernel
theorem dX6_longest_17 : decode cX6_longest 17 = .ok (.iload_n 3, 1) := by decide +kernel
theorem dX6_longest_18 : decode cX6_longest 18 = .ok (.iload_n 1, 1) := by decide +kernel
theorem dX6_longest_19 : decode cX6_longest 19 = .ok (.invokevirtual 333, 3) := by decide +kernel
theorem dX6_longest_22 : decode cX6_longest 22 = .ok (.ifCond .eq 25, 3) := by decide +kernel
theorem dX6_longest_25 : decode cX6_longest 25 = .ok (.iload_n 2, 1) := by decide +kernel
theorem dX6_longest_26 : decode cX6_longest 26 = .ok (.iconst (-1), 1) := by decide +kernel
theorem dX6_longest_27 : decode cX6_longest 27 = .ok (.if_icmp .eq 18, 3) := by decide +kernel
theorem dX6_longest_30 : decode cX6_longest 30 = .ok (.aload_n 0, 1) := by decide +kernel
theorem dX6_longest_31 : decode cX6_longest 31 = .ok (.iload_n 3, 1) := by decide +kernel
theorem dX6_longest_32 : decode cX6_longest 32 = .ok (.iconst 1, 1) := by decide +kernel
theorem dX6_longest_33 : decode cX6_longest 33 = .ok (.invokevirtual 198, 3) := by decide +kernel
theorem dX6_longest_36 : decode cX6_longest 36 = .ok (.aload_n 0, 1) := by decide +kernel
theorem dX6_longest_37 : decode cX6_longest 37 = .ok (.iload_n 2, 1) := by decide +kernel
theorem dX6_longest_38 : decode cX6_longest 38 = .ok (.iconst 1, 1) := by decide +kernel
theorem dX6_longest_39 : decode cX6_longest 39 = .ok (.invokevirtual 198, 3) := by decide +kernel
theorem dX6_longest_42 : decode cX6_longest 42 = .ok (.if_icmp .le 5, 3) := by decide +kernel
theorem dX6_longest_45 : decode cX6_longest 45 = .ok (.iload_n 3, 1) := by decide +kernel
theorem dX6_longest_46 : decode cX6_longest 46 = .ok (.istore_n 2, 1) := by decide +kernel
theorem dX6_longest_47 : decode cX6_longest 47 = .ok (.iinc 3 1, 3) := by decide +kernel
theorem dX6_longest_50 : decode cX6_longest 50 = .ok (.goto (-46), 3) := by decide +kernel
theorem dX6_longest_53 : decode cX6_longest 53 = .ok (.iload_n 2, 1) := by decide +kernel
theorem dX6_longest_54 : decode cX6_longest 54 = .ok (.ireturn, 1) := by decide +kernel
theorem dX6_isSome_0 : decode cX6_isSome 0 = .ok (.iconst 0, 1) := by decide +kernel
theorem dX6_isSome_1 : decode cX6_isSome 1 = .ok (.istore_n 3, 1) := by decide +kernel
theorem dX6_isSome_2 : decode cX6_isSome 2 = .ok (.iconst 0, 1) := by decide +kernel
theorem dX6_isSome_3 : decode cX6_isSome 3 = .ok (.istore 4, 2) := by decide +kernel
theorem dX6_isSome_5 : decode cX6_isSome 5 = .ok (.iload 4, 2) := by decide +kernel
theorem dX6_isSome_7 : decode cX6_isSome 7 = .ok (.aload_n 0, 1) := by decide +kernel
theorem dX6_isSome_8 : decode cX6_isSome 8 = .ok (.getfield 16, 3) := by decide +kernel
theorem dX6_isSome_11 : decode cX6_isSome 11 = .ok (.sipush 470, 3) := by decide +kernel
theorem dX6_isSome_14 : decode cX6_isSome 14 = .ok (.iaload, 1) := by decide +kernel
theorem dX6_isSome_15 : decode cX6_isSome 15 = .ok (.if_icmp .ge 38, 3) := by decide +kernel
theorem dX6_isSome_18 : decode cX6_isSome 18 = .ok (.iload_n 3, 1) := by decide +kernel
theorem dX6_isSome_19 : decode cX6_isSome 19 = .ok (.aload_n 0, 1) := by decide +kernel
theorem dX6_isSome_20 : decode cX6_isSome 20 = .ok (.iload 4, 2) := by decide +kernel
theorem dX6_isSome_22 : decode cX6_isSome 22 = .ok (.iload_n 1, 1) := by decide +kernel
theorem dX6_isSome_23 : decode cX6_isSome 23 = .ok (.invokevirtual 333, 3) := by decide +kernel
theorem dX6_isSome_26 : decode cX6_isSome 26 = .ok (.ifCond .eq 18, 3) := by decide +kernel
theorem dX6_isSome_29 : decode cX6_isSome 29 = .ok (.iload_n 2, 1) := by decide +kernel
theorem dX6_isSome_30 : decode cX6_isSome 30 = .ok (.aload_n 0, 1) := by decide +kernel
theorem dX6_isSome_31 : decode cX6_isSome 31 = .ok (.getfield 28, 3) := by decide +kernel
theorem dX6_isSome_34 : decode cX6_isSome 34 = .ok (.iload 4, 2) := by decide +kernel
theorem dX6_isSome_36 : decode cX6_isSome 36 = .ok (.iaload, 1) := by decide +kernel
theorem dX6_isSome_37 : decode cX6_isSome 37 = .ok (.if_icmp .ge 7, 3) := by decide +kernel
theorem dX6_isSome_40 : decode cX6_isSome 40 = .ok (.iconst 1, 1) := by decide +kernel
theorem dX6_isSome_41 : decode cX6_isSome 41 = .ok (.goto 4, 3) := by decide +kernel
theorem dX6_isSome_44 : decode cX6_isSome 44 = .ok (.iconst 0, 1) := by decide +kernel
theorem dX6_isSome_45 : decode cX6_isSome 45 = .ok (.ior, 1) := by decide +kernel
theorem dX6_isSome_46 : decode cX6_isSome 46 = .ok (.istore_n 3, 1) := by decide +kernel
theorem dX6_isSome_47 : decode cX6_isSome 47 = .ok (.iinc 4 1, 3) := by decide +kernel
theorem dX6_isSome_50 : decode cX6_isSome 50 = .ok (.goto (-45), 3) := by decide +kernel
theorem dX6_isSome_53 : decode cX6_isSome 53 = .ok (.iload_n 3, 1) := by decide +kernel
theorem dX6_isSome_54 : decode cX6_isSome 54 = .ok (.ireturn, 1) := by decide +kernel
theorem dX6_checksNeeded_0 : decode cX6_checksNeeded 0 = .ok (.aload_n 0, 1) := by decide +kernel
theorem dX6_checksNeeded_1 : decode cX6_checksNeeded 1 = .ok (.iconst 0, 1) := by decide +kernel
theorem dX6_checksNeeded_2 : decode cX6_checksNeeded 2 = .ok (.putfield 51, 3) := by decide +kernel
theorem dX6_checksNeeded_5 : decode cX6_checksNeeded 5 = .ok (.aload_n 0, 1) := by decide +kernel
theorem dX6_checksNeeded_6 : decode cX6_checksNeeded 6 = .ok (.iload_n 1, 1) := by decide +kernel
theorem dX6_checksNeeded_7 : decode cX6_checksNeeded 7 = .ok (.i2l, 1) := by decide +kernel
theorem dX6_checksNeeded_8 : decode cX6_checksNeeded 8 = .ok (.lconst 0, 1) := by decide +kernel
theorem dX6_checksNeeded_9 : decode cX6_checksNeeded 9 = .ok (.ldc2_w 300, 3) := by decide +kernel
theorem dX6_checksNeeded_12 : decode cX6_checksNeeded 12 = .ok (.invokestatic 66, 3) := by decide +kernel
theorem dX6_checksNeeded_15 : decode cX6_checksNeeded 15 = .ok (.ifCond .eq 19, 3) := by decide +kernel
theorem dX6_checksNeeded_18 : decode cX6_checksNeeded 18 = .ok (.iload_n 2, 1) := by decide +kernel
theorem dX6_checksNeeded_19 : decode cX6_checksNeeded 19 = .ok (.i2l, 1) := by decide +kernel
theorem dX6_checksNeeded_20 : decode cX6_checksNeeded 20 = .ok (.lconst 1, 1) := by decide +kernel
theorem dX6_checksNeeded_21 : decode cX6_checksNeeded 21 = .ok (.ldc2_w 328, 3) := by decide +kernel
theorem dX6_checksNeeded_24 : decode cX6_checksNeeded 24 = .ok (.invokestatic 66, 3) := by decide +kernel
theorem dX6_checksNeeded_27 : decode cX6_checksNeeded 27 = .ok (.ifCond .eq 7, 3) := by decide +kernel
theorem dX6_checksNeeded_30 : decode cX6_checksNeeded 30 = .ok (.iconst 1, 1) := by decide +kernel
theorem dX6_checksNeeded_31 : decode cX6_checksNeeded 31 = .ok (.goto 4, 3) := by decide +kernel
theorem dX6_checksNeeded_34 : decode cX6_checksNeeded 34 = .ok (.iconst 0, 1) := by decide +kernel
theorem dX6_checksNeeded_35 : decode cX6_checksNeeded 35 = .ok (.iconst 1, 1) := by decide +kernel
theorem dX6_checksNeeded_36 : decode cX6_checksNeeded 36 = .ok (.invokevirtual 62, 3) := by decide +kernel
theorem dX6_checksNeeded_39 : decode cX6_checksNeeded 39 = .ok (.ifCond .eq 5, 3) := by decide +kernel
theorem dX6_checksNeeded_42 : decode cX6_checksNeeded 42 = .ok (.iconst 0, 1) := by decide +kernel
theorem dX6_checksNeeded_43 : decode cX6_checksNeeded 43 = .ok (.ireturn, 1) := by decide +kernel
theorem dX6_checksNeeded_44 : decode cX6_checksNeeded 44 = .ok (.aload_n 0, 1) := by decide +kernel
theorem dX6_checksNeeded_45 : decode cX6_checksNeeded 45 = .ok (.iload_n 1, 1) := by decide +kernel
theorem dX6_checksNeeded_46 : decode cX6_checksNeeded 46 = .ok (.invokevirtual 336, 3) := by decide +kernel
theorem dX6_checksNeeded_49 : decode cX6_checksNeeded 49 = .ok (.istore_n 3, 1) := by decide +kernel
theorem dX6_checksNeeded_50 : decode cX6_checksNeeded 50 = .ok (.aload_n 0, 1) := by decide +kernel
theorem dX6_checksNeeded_51 : decode cX6_checksNeeded 51 = .ok (.iload_n 3, 1) := by decide +kernel
theorem dX6_checksNeeded_52 : decode cX6_checksNeeded 52 = .ok (.iconst (-1), 1) := by decide +kernel
theorem dX6_checksNeeded_53 : decode cX6_checksNeeded 53 = .ok (.if_icmp .eq 7, 3) := by decide +kernel
theorem dX6_checksNeeded_56 : decode cX6_checksNeeded 56 = .ok (.iconst 1, 1) := by decide +kernel
theorem dX6_checksNeeded_57 : decode cX6_checksNeeded 57 = .ok (.goto 4, 3) := by decide +kernel
theorem dX6_checksNeeded_60 : decode cX6_checksNeeded 60 = .ok (.iconst 0, 1) := by decide +kernel
theorem dX6_checksNeeded_61 : decode cX6_checksNeeded 61 = .ok (.iconst 2, 1) := by decide +kernel
theorem dX6_checksNeeded_62 : decode cX6_checksNeeded 62 = .ok (.invokevirtual 62, 3) := by decide +kernel
theorem dX6_checksNeeded_65 : decode cX6_checksNeeded 65 = .ok (.ifCond .eq 5, 3) := by decide +kernel
theorem dX6_checksNeeded_68 : decode cX6_checksNeeded 68 = .ok (.iconst 0, 1) := by decide +kernel
theorem dX6_checksNeeded_69 : decode cX6_checksNeeded 69 = .ok (.ireturn, 1) := by decide +kernel
theorem dX6_checksNeeded_70 : decode cX6_checksNeeded 70 = .ok (.iconst 0, 1) := by decide +kernel
theorem dX6_checksNeeded_71 : decode cX6_checksNeeded 71 = .ok (.istore 4, 2) := by decide +kernel
theorem dX6_checksNeeded_73 : decode cX6_checksNeeded 73 = .ok (.iload 4, 2) := by decide +kernel
theorem dX6_checksNeeded_75 : decode cX6_checksNeeded 75 = .ok (.aload_n 0, 1) := by decide +kernel
theorem dX6_checksNeeded_76 : decode cX6_checksNeeded 76 = .ok (.getfield 16, 3) := by decide +kernel
theorem dX6_checksNeeded_79 : decode cX6_checksNeeded 79 = .ok (.sipush 470, 3) := by decide +kernel
theorem dX6_checksNeeded_82 : decode cX6_checksNeeded 82 = .ok (.iaload, 1) := by decide +kernel
theorem dX6_checksNeeded_83 : decode cX6_checksNeeded 83 = .ok (.if_icmp .ge 22, 3) := by decide +kernel
theorem dX6_checksNeeded_86 : decode cX6_checksNeeded 86 = .ok (.aload_n 0, 1) := by decide +kernel
theorem dX6_checksNeeded_87 : decode cX6_checksNeeded 87 = .ok (.getfield 28, 3) := by decide +kernel
theorem dX6_checksNeeded_90 : decode cX6_checksNeeded 90 = .ok (.iload 4, 2) := by decide +kernel
theorem dX6_checksNeeded_92 : decode cX6_checksNeeded 92 = .ok (.aload_n 0, 1) := by decide +kernel
theorem dX6_checksNeeded_93 : decode cX6_checksNeeded 93 = .ok (.iload 4, 2) := by decide +kernel
theorem dX6_checksNeeded_95 : decode cX6_checksNeeded 95 = .ok (.invokevirtual 204, 3) := by decide +kernel
theorem dX6_checksNeeded_98 : decode cX6_checksNeeded 98 = .ok (.iastore, 1) := by decide +kernel
theorem dX6_checksNeeded_99 : decode cX6_checksNeeded 99 = .ok (.iinc 4 1, 3) := by decide +kernel
theorem dX6_checksNeeded_102 : decode cX6_checksNeeded 102 = .ok (.goto (-29), 3) := by decide +kernel
theorem dX6_checksNeeded_105 : decode cX6_checksNeeded 105 = .ok (.iconst 0, 1) := by decide +kernel
theorem dX6_checksNeeded_106 : decode cX6_checksNeeded 106 = .ok (.istore 4, 2) := by decide +kernel
theorem dX6_checksNeeded_108 : decode cX6_checksNeeded 108 = .ok (.aload_n 0, 1) := by decide +kernel
theorem dX6_checksNeeded_109 : decode cX6_checksNeeded 109 = .ok (.getfield 16, 3) := by decide +kernel
theorem dX6_checksNeeded_112 : decode cX6_checksNeeded 112 = .ok (.iconst 3, 1) := by decide +kernel
theorem dX6_checksNeeded_113 : decode cX6_checksNeeded 113 = .ok (.iaload, 1) := by decide +kernel
theorem dX6_checksNeeded_114 : decode cX6_checksNeeded 114 = .ok (.istore 5, 2) := by decide +kernel
theorem dX6_checksNeeded_116 : decode cX6_checksNeeded 116 = .ok (.iload 5, 2) := by decide +kernel
theorem dX6_checksNeeded_118 : decode cX6_checksNeeded 118 = .ok (.aload_n 0, 1) := by decide +kernel
theorem dX6_checksNeeded_119 : decode cX6_checksNeeded 119 = .ok (.getfield 16, 3) := by decide +kernel
theorem dX6_checksNeeded_122 : decode cX6_checksNeeded 122 = .ok (.iconst 3, 1) := by decide +kernel
theorem dX6_checksNeeded_123 : decode cX6_checksNeeded 123 = .ok (.iaload, 1) := by decide +kernel
theorem dX6_checksNeeded_124 : decode cX6_checksNeeded 124 = .ok (.iload_n 2, 1) := by decide +kernel
theorem dX6_checksNeeded_125 : decode cX6_checksNeeded 125 = .ok (.iadd, 1) := by decide +kernel
theorem dX6_checksNeeded_126 : decode cX6_checksNeeded 126 = .ok (.if_icmp .ge 37, 3) := by decide +kernel
theorem dX6_checksNeeded_129 : decode cX6_checksNeeded 129 = .ok (.aload_n 0, 1) := by decide +kernel
theorem dX6_checksNeeded_130 : decode cX6_checksNeeded 130 = .ok (.iload_n 1, 1) := by decide +kernel
theorem dX6_checksNeeded_131 : decode cX6_checksNeeded 131 = .ok (.iload 5, 2) := by decide +kernel
theorem dX6_checksNeeded_133 : decode cX6_checksNeeded 133 = .ok (.invokevirtual 339, 3) := by decide +kernel
theorem dX6_checksNeeded_136 : decode cX6_checksNeeded 136 = .ok (.ifCond .ne 21, 3) := by decide +kernel
theorem dX6_checksNeeded_139 : decode cX6_checksNeeded 139 = .ok (.aload_n 0, 1) := by decide +kernel
theorem dX6_checksNeeded_140 : decode cX6_checksNeeded 140 = .ok (.getfield 28, 3) := by decide +kernel
theorem dX6_checksNeeded_143 : decode cX6_checksNeeded 143 = .ok (.iload_n 3, 1) := by decide +kernel
theorem dX6_checksNeeded_144 : decode cX6_checksNeeded 144 = .ok (.iload 5, 2) := by decide +kernel
theorem dX6_checksNeeded_146 : decode cX6_checksNeeded 146 = .ok (.aload_n 0, 1) := by decide +kernel
theorem dX6_checksNeeded_147 : decode cX6_checksNeeded 147 = .ok (.iload_n 3, 1) := by decide +kernel
theorem dX6_checksNeeded_148 : decode cX6_checksNeeded 148 = .ok (.iconst 1, 1) := by decide +kernel
theorem dX6_checksNeeded_149 : decode cX6_checksNeeded 149 = .ok (.invokevirtual 198, 3) := by decide +kernel
theorem dX6_checksNeeded_152 : decode cX6_checksNeeded 152 = .ok (.iadd, 1) := by decide +kernel
theorem dX6_checksNeeded_153 : decode cX6_checksNeeded 153 = .ok (.iastore, 1) := by decide +kernel
theorem dX6_checksNeeded_154 : decode cX6_checksNeeded 154 = .ok (.iinc 4 1, 3) := by decide +kernel
theorem dX6_checksNeeded_157 : decode cX6_checksNeeded 157 = .ok (.iinc 5 1, 3) := by decide +kernel
theorem dX6_checksNeeded_160 : decode cX6_checksNeeded 160 = .ok (.goto (-44), 3) := by decide +kernel
theorem dX6_checksNeeded_163 : decode cX6_checksNeeded 163 = .ok (.iload 4, 2) := by decide +kernel
theorem dX6_checksNeeded_165 : decode cX6_checksNeeded 165 = .ok (.ireturn, 1) := by decide +kernel
theorem dX6_allowedRoutes_0 : decode cX6_allowedRoutes 0 = .ok (.aload_n 0, 1) := by decide +kernel
theorem dX6_allowedRoutes_1 : decode cX6_allowedRoutes 1 = .ok (.iconst 0, 1) := by decide +kernel
theorem dX6_allowedRoutes_2 : decode cX6_allowedRoutes 2 = .ok (.putfield 51, 3) := by decide +kernel
theorem dX6_allowedRoutes_5 : decode cX6_allowedRoutes 5 = .ok (.aload_n 0, 1) := by decide +kernel
theorem dX6_allowedRoutes_6 : decode cX6_allowedRoutes 6 = .ok (.aload_n 0, 1) := by decide +kernel
theorem dX6_allowedRoutes_7 : decode cX6_allowedRoutes 7 = .ok (.iload_n 1, 1) := by decide +kernel
theorem dX6_allowedRoutes_8 : decode cX6_allowedRoutes 8 = .ok (.invokevirtual 244, 3) := by decide +kernel
theorem dX6_allowedRoutes_11 : decode cX6_allowedRoutes 11 = .ok (.iconst 1, 1) := by decide +kernel
theorem dX6_allowedRoutes_12 : decode cX6_allowedRoutes 12 = .ok (.invokevirtual 62, 3) := by decide +kernel
theorem dX6_allowedRoutes_15 : decode cX6_allowedRoutes 15 = .ok (.ifCond .eq 5, 3) := by decide +kernel
theorem dX6_allowedRoutes_18 : decode cX6_allowedRoutes 18 = .ok (.iconst 0, 1) := by decide +kernel
theorem dX6_allowedRoutes_19 : decode cX6_allowedRoutes 19 = .ok (.ireturn, 1) := by decide +kernel
theorem dX6_allowedRoutes_20 : decode cX6_allowedRoutes 20 = .ok (.iconst 0, 1) := by decide +kernel
theorem dX6_allowedRoutes_21 : decode cX6_allowedRoutes 21 = .ok (.istore_n 2, 1) := by decide +kernel
theorem dX6_allowedRoutes_22 : decode cX6_allowedRoutes 22 = .ok (.iconst 0, 1) := by decide +kernel
theorem dX6_allowedRoutes_23 : decode cX6_allowedRoutes 23 = .ok (.istore_n 3, 1) := by decide +kernel
theorem dX6_allowedRoutes_24 : decode cX6_allowedRoutes 24 = .ok (.iload_n 3, 1) := by decide +kernel
theorem dX6_allowedRoutes_25 : decode cX6_allowedRoutes 25 = .ok (.aload_n 0, 1) := by decide +kernel
theorem dX6_allowedRoutes_26 : decode cX6_allowedRoutes 26 = .ok (.getfield 16, 3) := by decide +kernel
theorem dX6_allowedRoutes_29 : decode cX6_allowedRoutes 29 = .ok (.bipush 37, 2) := by decide +kernel
theorem dX6_allowedRoutes_31 : decode cX6_allowedRoutes 31 = .ok (.iaload, 1) := by decide +kernel
theorem dX6_allowedRoutes_32 : decode cX6_allowedRoutes 32 = .ok (.if_icmp .ge 28, 3) := by decide +kernel
theorem dX6_allowedRoutes_35 : decode cX6_allowedRoutes 35 = .ok (.iload_n 2, 1) := by decide +kernel
theorem dX6_allowedRoutes_36 : decode cX6_allowedRoutes 36 = .ok (.aload_n 0, 1) := by decide +kernel
theorem dX6_allowedRoutes_37 : decode cX6_allowedRoutes 37 = .ok (.iload_n 1, 1) := by decide +kernel
theorem dX6_allowedRoutes_38 : decode cX6_allowedRoutes 38 = .ok (.iload_n 3, 1) := by decide +kernel
theorem dX6_allowedRoutes_39 : decode cX6_allowedRoutes 39 = .ok (.invokevirtual 247, 3) := by decide +kernel
theorem dX6_allowedRoutes_42 : decode cX6_allowedRoutes 42 = .ok (.ifCond .eq 9, 3) := by decide +kernel
theorem dX6_allowedRoutes_45 : decode cX6_allowedRoutes 45 = .ok (.iconst 1, 1) := by decide +kernel
theorem dX6_allowedRoutes_46 : decode cX6_allowedRoutes 46 = .ok (.iload_n 3, 1) := by decide +kernel
theorem dX6_allowedRoutes_47 : decode cX6_allowedRoutes 47 = .ok (.ishl, 1) := by decide +kernel
theorem dX6_allowedRoutes_48 : decode cX6_allowedRoutes 48 = .ok (.goto 4, 3) := by decide +kernel
theorem dX6_allowedRoutes_51 : decode cX6_allowedRoutes 51 = .ok (.iconst 0, 1) := by decide +kernel
theorem dX6_allowedRoutes_52 : decode cX6_allowedRoutes 52 = .ok (.ior, 1) := by decide +kernel
theorem dX6_allowedRoutes_53 : decode cX6_allowedRoutes 53 = .ok (.istore_n 2, 1) := by decide +kernel
theorem dX6_allowedRoutes_54 : decode cX6_allowedRoutes 54 = .ok (.iinc 3 1, 3) := by decide +kernel
theorem dX6_allowedRoutes_57 : decode cX6_allowedRoutes 57 = .ok (.goto (-33), 3) := by decide +kernel
theorem dX6_allowedRoutes_60 : decode cX6_allowedRoutes 60 = .ok (.iload_n 2, 1) := by decide +kernel
theorem dX6_allowedRoutes_61 : decode cX6_allowedRoutes 61 = .ok (.ireturn, 1) := by decide +kernel
theorem dX6_needOf_0 : decode cX6_needOf 0 = .ok (.iconst (-1), 1) := by decide +kernel
theorem dX6_needOf_1 : decode cX6_needOf 1 = .ok (.istore_n 2, 1) := by decide +kernel
theorem dX6_needOf_2 : decode cX6_needOf 2 = .ok (.iconst 0, 1) := by decide +kernel
theorem dX6_needOf_3 : decode cX6_needOf 3 = .ok (.istore_n 3, 1) := by decide +kernel
theorem dX6_needOf_4 : decode cX6_needOf 4 = .ok (.iload_n 3, 1) := by decide +kernel
theorem dX6_needOf_5 : decode cX6_needOf 5 = .ok (.aload_n 0, 1) := by decide +kernel
theorem dX6_needOf_6 : decode cX6_needOf 6 = .ok (.getfield 16, 3) := by decide +kernel
theorem dX6_needOf_9 : decode cX6_needOf 9 = .ok (.sipush 619, 3) := by decide +kernel
theorem dX6_needOf_12 : decode cX6_needOf 12 = .ok (.iaload, 1) := by decide +kernel
theorem dX6_needOf_13 : decode cX6_needOf 13 = .ok (.if_icmp .ge 57, 3) := by decide +kernel
theorem dX6_needOf_16 : decode cX6_needOf 16 = .ok (.aload_n 0, 1) := by decide +kernel
theorem dX6_needOf_17 : decode cX6_needOf 17 = .ok (.iload_n 3, 1) := by decide +kernel
theorem dX6_needOf_18 : decode cX6_needOf 18 = .ok (.iconst 0, 1) := by decide +kernel
theorem dX6_needOf_19 : decode cX6_needOf 19 = .ok (.invokevirtual 268, 3) := by decide +kernel
theorem dX6_needOf_22 : decode cX6_needOf 22 = .ok (.iload_n 1, 1) := by decide +kernel
theorem dX6_needOf_23 : decode cX6_needOf 23 = .ok (.if_icmp .ne 22, 3) := by decide +kernel
theorem dX6_needOf_26 : decode cX6_needOf 26 = .ok (.iload_n 2, 1) := by decide +kernel
theorem dX6_needOf_27 : decode cX6_needOf 27 = .ok (.iconst (-1), 1) := by decide +kernel
theorem dX6_needOf_28 : decode cX6_needOf 28 = .ok (.if_icmp .eq 13, 3) := by decide +kernel
theorem dX6_needOf_31 : decode cX6_needOf 31 = .ok (.aload_n 0, 1) := by decide +kernel
theorem dX6_needOf_32 : decode cX6_needOf 32 = .ok (.iload_n 3, 1) := by decide +kernel
theorem dX6_needOf_33 : decode cX6_needOf 33 = .ok (.iconst 2, 1) := by decide +kernel
theorem dX6_needOf_34 : decode cX6_needOf 34 = .ok (.invokevirtual 268, 3) := by decide +kernel
theorem dX6_needOf_37 : decode cX6_needOf 37 = .ok (.iload_n 2, 1) := by decide +kernel
theorem dX6_needOf_38 : decode cX6_needOf 38 = .ok (.if_icmp .ge 7, 3) := by decide +kernel
theorem dX6_needOf_41 : decode cX6_needOf 41 = .ok (.iconst 1, 1) := by decide +kernel
theorem dX6_needOf_42 : decode cX6_needOf 42 = .ok (.goto 4, 3) := by decide +kernel
theorem dX6_needOf_45 : decode cX6_needOf 45 = .ok (.iconst 0, 1) := by decide +kernel
theorem dX6_needOf_46 : decode cX6_needOf 46 = .ok (.istore 4, 2) := by decide +kernel
theorem dX6_needOf_48 : decode cX6_needOf 48 = .ok (.iload 4, 2) := by decide +kernel
theorem dX6_needOf_50 : decode cX6_needOf 50 = .ok (.ifCond .eq 12, 3) := by decide +kernel
theorem dX6_needOf_53 : decode cX6_needOf 53 = .ok (.aload_n 0, 1) := by decide +kernel
theorem dX6_needOf_54 : decode cX6_needOf 54 = .ok (.iload_n 3, 1) := by decide +kernel
theorem dX6_needOf_55 : decode cX6_needOf 55 = .ok (.iconst 2, 1) := by decide +kernel
theorem dX6_needOf_56 : decode cX6_needOf 56 = .ok (.invokevirtual 268, 3) := by decide +kernel
theorem dX6_needOf_59 : decode cX6_needOf 59 = .ok (.goto 4, 3) := by decide +kernel
theorem dX6_needOf_62 : decode cX6_needOf 62 = .ok (.iload_n 2, 1) := by decide +kernel
theorem dX6_needOf_63 : decode cX6_needOf 63 = .ok (.istore_n 2, 1) := by decide +kernel
theorem dX6_needOf_64 : decode cX6_needOf 64 = .ok (.iinc 3 1, 3) := by decide +kernel
theorem dX6_needOf_67 : decode cX6_needOf 67 = .ok (.goto (-63), 3) := by decide +kernel
theorem dX6_needOf_70 : decode cX6_needOf 70 = .ok (.iload_n 2, 1) := by decide +kernel
theorem dX6_needOf_71 : decode cX6_needOf 71 = .ok (.ireturn, 1) := by decide +kernel
theorem dX6_ladder_0 : decode cX6_ladder 0 = .ok (.aload_n 0, 1) := by decide +kernel
theorem dX6_ladder_1 : decode cX6_ladder 1 = .ok (.iconst 0, 1) := by decide +kernel
theorem dX6_ladder_2 : decode cX6_ladder 2 = .ok (.putfield 51, 3) := by decide +kernel
theorem dX6_ladder_5 : decode cX6_ladder 5 = .ok (.aload_n 0, 1) := by decide +kernel
theorem dX6_ladder_6 : decode cX6_ladder 6 = .ok (.aload_n 0, 1) := by decide +kernel
theorem dX6_ladder_7 : decode cX6_ladder 7 = .ok (.iload_n 1, 1) := by decide +kernel
theorem dX6_ladder_8 : decode cX6_ladder 8 = .ok (.invokevirtual 244, 3) := by decide +kernel
theorem dX6_ladder_11 : decode cX6_ladder 11 = .ok (.iconst 1, 1) := by decide +kernel
theorem dX6_ladder_12 : decode cX6_ladder 12 = .ok (.invokevirtual 62, 3) := by decide +kernel
theorem dX6_ladder_15 : decode cX6_ladder 15 = .ok (.ifCond .ne 20, 3) := by decide +kernel
theorem dX6_ladder_18 : decode cX6_ladder 18 = .ok (.aload_n 0, 1) := by decide +kernel
theorem dX6_ladder_19 : decode cX6_ladder 19 = .ok (.iload_n 2, 1) := by decide +kernel
theorem dX6_ladder_20 : decode cX6_ladder 20 = .ok (.i2l, 1) := by decide +kernel
theorem dX6_ladder_21 : decode cX6_ladder 21 = .ok (.lconst 0, 1) := by decide +kernel
theorem dX6_ladder_22 : decode cX6_ladder 22 = .ok (.ldc2_w 293, 3) := by decide +kernel
theorem dX6_ladder_25 : decode cX6_ladder 25 = .ok (.invokestatic 66, 3) := by decide +kernel
theorem dX6_ladder_28 : decode cX6_ladder 28 = .ok (.iconst 2, 1) := by decide +kernel
theorem dX6_ladder_29 : decode cX6_ladder 29 = .ok (.invokevirtual 62, 3) := by decide +kernel
theorem dX6_ladder_32 : decode cX6_ladder 32 = .ok (.ifCond .eq 5, 3) := by decide +kernel
theorem dX6_ladder_35 : decode cX6_ladder 35 = .ok (.iconst 0, 1) := by decide +kernel
theorem dX6_ladder_36 : decode cX6_ladder 36 = .ok (.ireturn, 1) := by decide +kernel
theorem dX6_ladder_37 : decode cX6_ladder 37 = .ok (.iconst 0, 1) := by decide +kernel
theorem dX6_ladder_38 : decode cX6_ladder 38 = .ok (.istore_n 3, 1) := by decide +kernel
theorem dX6_ladder_39 : decode cX6_ladder 39 = .ok (.aload_n 0, 1) := by decide +kernel
theorem dX6_ladder_40 : decode cX6_ladder 40 = .ok (.iload_n 1, 1) := by decide +kernel
theorem dX6_ladder_41 : decode cX6_ladder 41 = .ok (.iconst 1, 1) := by decide +kernel
theorem dX6_ladder_42 : decode cX6_ladder 42 = .ok (.invokevirtual 207, 3) := by decide +kernel
theorem dX6_ladder_45 : decode cX6_ladder 45 = .ok (.iconst 1, 1) := by decide +kernel
theorem dX6_ladder_46 : decode cX6_ladder 46 = .ok (.iadd, 1) := by decide +kernel
theorem dX6_ladder_47 : decode cX6_ladder 47 = .ok (.istore 4, 2) := by decide +kernel
theorem dX6_ladder_49 : decode cX6_ladder 49 = .ok (.iload 4, 2) := by decide +kernel
theorem dX6_ladder_51 : decode cX6_ladder 51 = .ok (.iload_n 2, 1) := by decide +kernel
theorem dX6_ladder_52 : decode cX6_ladder 52 = .ok (.if_icmp .gt 52, 3) := by decide +kernel
theorem dX6_ladder_55 : decode cX6_ladder 55 = .ok (.aload_n 0, 1) := by decide +kernel
theorem dX6_ladder_56 : decode cX6_ladder 56 = .ok (.iload 4, 2) := by decide +kernel
theorem dX6_ladder_58 : decode cX6_ladder 58 = .ok (.invokevirtual 342, 3) := by decide +kernel
theorem dX6_ladder_61 : decode cX6_ladder 61 = .ok (.istore 5, 2) := by decide +kernel
theorem dX6_ladder_63 : decode cX6_ladder 63 = .ok (.aload_n 0, 1) := by decide +kernel
theorem dX6_ladder_64 : decode cX6_ladder 64 = .ok (.iload 5, 2) := by decide +kernel
theorem dX6_ladder_66 : decode cX6_ladder 66 = .ok (.iconst (-1), 1) := by decide +kernel
theorem dX6_ladder_67 : decode cX6_ladder 67 = .ok (.if_icmp .eq 7, 3) := by decide +kernel
theorem dX6_ladder_70 : decode cX6_ladder 70 = .ok (.iconst 1, 1) := by decide +kernel
theorem dX6_ladder_71 : decode cX6_ladder 71 = .ok (.goto 4, 3) := by decide +kernel
theorem dX6_ladder_74 : decode cX6_ladder 74 = .ok (.iconst 0, 1) := by decide +kernel
theorem dX6_ladder_75 : decode cX6_ladder 75 = .ok (.iconst 3, 1) := by decide +kernel
theorem dX6_ladder_76 : decode cX6_ladder 76 = .ok (.invokevirtual 62, 3) := by decide +kernel
theorem dX6_ladder_79 : decode cX6_ladder 79 = .ok (.ifCond .eq 5, 3) := by decide +kernel
theorem dX6_ladder_82 : decode cX6_ladder 82 = .ok (.iconst 0, 1) := by decide +kernel
theorem dX6_ladder_83 : decode cX6_ladder 83 = .ok (.ireturn, 1) := by decide +kernel
theorem dX6_ladder_84 : decode cX6_ladder 84 = .ok (.iload_n 3, 1) := by decide +kernel
theorem dX6_ladder_85 : decode cX6_ladder 85 = .ok (.iload 5, 2) := by decide +kernel
theorem dX6_ladder_87 : decode cX6_ladder 87 = .ok (.aload_n 0, 1) := by decide +kernel
theorem dX6_ladder_88 : decode cX6_ladder 88 = .ok (.iload_n 1, 1) := by decide +kernel
theorem dX6_ladder_89 : decode cX6_ladder 89 = .ok (.iconst 2, 1) := by decide +kernel
theorem dX6_ladder_90 : decode cX6_ladder 90 = .ok (.invokevirtual 207, 3) := by decide +kernel
theorem dX6_ladder_93 : decode cX6_ladder 93 = .ok (.isub, 1) := by decide +kernel
theorem dX6_ladder_94 : decode cX6_ladder 94 = .ok (.invokestatic 169, 3) := by decide +kernel
theorem dX6_ladder_97 : decode cX6_ladder 97 = .ok (.istore_n 3, 1) := by decide +kernel
theorem dX6_ladder_98 : decode cX6_ladder 98 = .ok (.iinc 4 1, 3) := by decide +kernel
theorem dX6_ladder_101 : decode cX6_ladder 101 = .ok (.goto (-52), 3) := by decide +kernel
theorem dX6_ladder_104 : decode cX6_ladder 104 = .ok (.iload_n 3, 1) := by decide +kernel
theorem dX6_ladder_105 : decode cX6_ladder 105 = .ok (.ireturn, 1) := by decide +kernel
