theorem dJ5_init_d00df_0 : decode cJ5_init_d00df 0 = .ok (.aload_n 0, 1) := by decide +kernel
theorem dJ5_init_d00df_1 : decode cJ5_init_d00df 1 = .ok (.invokespecial 3, 3) := by decide +kernel
theorem dJ5_init_d00df_4 : decode cJ5_init_d00df 4 = .ok (.getstatic 18, 3) := by decide +kernel
theorem dJ5_init_d00df_7 : decode cJ5_init_d00df 7 = .ok (.ifCond .eq 18, 3) := by decide +kernel
theorem dJ5_init_d00df_10 : decode cJ5_init_d00df 10 = .ok (.aload_n 0, 1) := by decide +kernel
theorem dJ5_init_d00df_11 : decode cJ5_init_d00df 11 = .ok (.iload_n 1, 1) := by decide +kernel
theorem dJ5_init_d00df_12 : decode cJ5_init_d00df 12 = .ok (.newarray .byte, 2) := by decide +kernel
theorem dJ5_init_d00df_14 : decode cJ5_init_d00df 14 = .ok (.putfield 15, 3) := by decide +kernel
theorem dJ5_init_d00df_17 : decode cJ5_init_d00df 17 = .ok (.aload_n 0, 1) := by decide +kernel
theorem dJ5_init_d00df_18 : decode cJ5_init_d00df 18 = .ok (.iconst 0, 1) := by decide +kernel
theorem dJ5_init_d00df_19 : decode cJ5_init_d00df 19 = .ok (.putfield 22, 3) := by decide +kernel
theorem dJ5_init_d00df_22 : decode cJ5_init_d00df 22 = .ok (.goto 16, 3) := by decide +kernel
theorem dJ5_init_d00df_25 : decode cJ5_init_d00df 25 = .ok (.aload_n 0, 1) := by decide +kernel
theorem dJ5_init_d00df_26 : decode cJ5_init_d00df 26 = .ok (.iload_n 1, 1) := by decide +kernel
theorem dJ5_init_d00df_27 : decode cJ5_init_d00df 27 = .ok (.invokestatic 26, 3) := by decide +kernel
theorem dJ5_init_d00df_30 : decode cJ5_init_d00df 30 = .ok (.putfield 15, 3) := by decide +kernel
theorem dJ5_init_d00df_33 : decode cJ5_init_d00df 33 = .ok (.aload_n 0, 1) := by decide +kernel
theorem dJ5_init_d00df_34 : decode cJ5_init_d00df 34 = .ok (.iconst 1, 1) := by decide +kernel
theorem dJ5_init_d00df_35 : decode cJ5_init_d00df 35 = .ok (.putfield 22, 3) := by decide +kernel
theorem dJ5_init_d00df_38 : decode cJ5_init_d00df 38 = .ok (.return_, 1) := by decide +kernel
theorem dJ5_init_a7421_0 : decode cJ5_init_a7421 0 = .ok (.aload_n 0, 1) := by decide +kernel
theorem dJ5_init_a7421_1 : decode cJ5_init_a7421 1 = .ok (.invokespecial 3, 3) := by decide +kernel
theorem dJ5_init_a7421_4 : decode cJ5_init_a7421 4 = .ok (.aload_n 1, 1) := by decide +kernel
theorem dJ5_init_a7421_5 : decode cJ5_init_a7421 5 = .ok (.invokevirtual 32, 3) := by decide +kernel
theorem dJ5_init_a7421_8 : decode cJ5_init_a7421 8 = .ok (.istore_n 2, 1) := by decide +kernel
theorem dJ5_init_a7421_9 : decode cJ5_init_a7421 9 = .ok (.iload_n 2, 1) := by decide +kernel
theorem dJ5_init_a7421_10 : decode cJ5_init_a7421 10 = .ok (.ldc 38, 2) := by decide +kernel
theorem dJ5_init_a7421_12 : decode cJ5_init_a7421 12 = .ok (.if_icmp .ge 10, 3) := by decide +kernel
theorem dJ5_init_a7421_15 : decode cJ5_init_a7421 15 = .ok (.iload_n 2, 1) := by decide +kernel
theorem dJ5_init_a7421_16 : decode cJ5_init_a7421 16 = .ok (.bipush 16, 2) := by decide +kernel
theorem dJ5_init_a7421_18 : decode cJ5_init_a7421 18 = .ok (.iadd, 1) := by decide +kernel
theorem dJ5_init_a7421_19 : decode cJ5_init_a7421 19 = .ok (.goto 5, 3) := by decide +kernel
theorem dJ5_init_a7421_22 : decode cJ5_init_a7421 22 = .ok (.ldc 39, 2) := by decide +kernel
theorem dJ5_init_a7421_24 : decode cJ5_init_a7421 24 = .ok (.istore_n 3, 1) := by decide +kernel
theorem dJ5_init_a7421_25 : decode cJ5_init_a7421 25 = .ok (.aload_n 1, 1) := by decide +kernel
theorem dJ5_init_a7421_26 : decode cJ5_init_a7421 26 = .ok (.invokevirtual 40, 3) := by decide +kernel
theorem dJ5_init_a7421_29 : decode cJ5_init_a7421 29 = .ok (.istore 4, 2) := by decide +kernel
theorem dJ5_init_a7421_31 : decode cJ5_init_a7421 31 = .ok (.aload_n 0, 1) := by decide +kernel
theorem dJ5_init_a7421_32 : decode cJ5_init_a7421 32 = .ok (.iload 4, 2) := by decide +kernel
theorem dJ5_init_a7421_34 : decode cJ5_init_a7421 34 = .ok (.putfield 22, 3) := by decide +kernel
theorem dJ5_init_a7421_37 : decode cJ5_init_a7421 37 = .ok (.aload_n 0, 1) := by decide +kernel
theorem dJ5_init_a7421_38 : decode cJ5_init_a7421 38 = .ok (.iload 4, 2) := by decide +kernel
theorem dJ5_init_a7421_40 : decode cJ5_init_a7421 40 = .ok (.ifCond .ne 9, 3) := by decide +kernel
theorem dJ5_init_a7421_43 : decode cJ5_init_a7421 43 = .ok (.iload_n 3, 1) := by decide +kernel
theorem dJ5_init_a7421_44 : decode cJ5_init_a7421 44 = .ok (.newarray .byte, 2) := by decide +kernel
theorem dJ5_init_a7421_46 : decode cJ5_init_a7421 46 = .ok (.goto 7, 3) := by decide +kernel
theorem dJ5_init_a7421_49 : decode cJ5_init_a7421 49 = .ok (.iload_n 3, 1) := by decide +kernel
theorem dJ5_init_a7421_50 : decode cJ5_init_a7421 50 = .ok (.invokestatic 26, 3) := by decide +kernel
theorem dJ5_init_a7421_53 : decode cJ5_init_a7421 53 = .ok (.putfield 15, 3) := by decide +kernel
theorem dJ5_init_a7421_56 : decode cJ5_init_a7421 56 = .ok (.aload_n 0, 1) := by decide +kernel
theorem dJ5_init_a7421_57 : decode cJ5_init_a7421 57 = .ok (.aload_n 1, 1) := by decide +kernel
theorem dJ5_init_a7421_58 : decode cJ5_init_a7421 58 = .ok (.invokevirtual 43, 3) := by decide +kernel
theorem dJ5_init_a7421_61 : decode cJ5_init_a7421 61 = .ok (.pop, 1) := by decide +kernel
theorem dJ5_init_a7421_62 : decode cJ5_init_a7421 62 = .ok (.return_, 1) := by decide +kernel
theorem dJ5_length_8abf5_0 : decode cJ5_length_8abf5 0 = .ok (.aload_n 0, 1) := by decide +kernel
theorem dJ5_length_8abf5_1 : decode cJ5_length_8abf5 1 = .ok (.getfield 79, 3) := by decide +kernel
theorem dJ5_length_8abf5_4 : decode cJ5_length_8abf5 4 = .ok (.ireturn, 1) := by decide +kernel
theorem dJ5_ensureCapacityInternal_d00df_0 : decode cJ5_ensureCapacityInternal_d00df 0 = .ok (.aload_n 0, 1) := by decide +kernel
theorem dJ5_ensureCapacityInternal_d00df_1 : decode cJ5_ensureCapacityInternal_d00df 1 = .ok (.getfield 15, 3) := by decide +kernel
theorem dJ5_ensureCapacityInternal_d00df_4 : decode cJ5_ensureCapacityInternal_d00df 4 = .ok (.arraylength, 1) := by decide +kernel
theorem dJ5_ensureCapacityInternal_d00df_5 : decode cJ5_ensureCapacityInternal_d00df 5 = .ok (.aload_n 0, 1) := by decide +kernel
theorem dJ5_ensureCapacityInternal_d00df_6 : decode cJ5_ensureCapacityInternal_d00df 6 = .ok (.getfield 22, 3) := by decide +kernel
theorem dJ5_ensureCapacityInternal_d00df_9 : decode cJ5_ensureCapacityInternal_d00df 9 = .ok (.ishr, 1) := by decide +kernel
theorem dJ5_ensureCapacityInternal_d00df_10 : decode cJ5_ensureCapacityInternal_d00df 10 = .ok (.istore_n 2, 1) := by decide +kernel
theorem dJ5_ensureCapacityInternal_d00df_11 : decode cJ5_ensureCapacityInternal_d00df 11 = .ok (.iload_n 1, 1) := by decide +kernel
theorem dJ5_ensureCapacityInternal_d00df_12 : decode cJ5_ensureCapacityInternal_d00df 12 = .ok (.iload_n 2, 1) := by decide +kernel
theorem dJ5_ensureCapacityInternal_d00df_13 : decode cJ5_ensureCapacityInternal_d00df 13 = .ok (.isub, 1) := by decide +kernel
theorem dJ5_ensureCapacityInternal_d00df_14 : decode cJ5_ensureCapacityInternal_d00df 14 = .ok (.ifCond .le 24, 3) := by decide +kernel
theorem dJ5_ensureCapacityInternal_d00df_17 : decode cJ5_ensureCapacityInternal_d00df 17 = .ok (.aload_n 0, 1) := by decide +kernel
theorem dJ5_ensureCapacityInternal_d00df_18 : decode cJ5_ensureCapacityInternal_d00df 18 = .ok (.aload_n 0, 1) := by decide +kernel
theorem dJ5_ensureCapacityInternal_d00df_19 : decode cJ5_ensureCapacityInternal_d00df 19 = .ok (.getfield 15, 3) := by decide +kernel
theorem dJ5_ensureCapacityInternal_d00df_22 : decode cJ5_ensureCapacityInternal_d00df 22 = .ok (.aload_n 0, 1) := by decide +kernel
theorem dJ5_ensureCapacityInternal_d00df_23 : decode cJ5_ensureCapacityInternal_d00df 23 = .ok (.iload_n 1, 1) := by decide +kernel
theorem dJ5_ensureCapacityInternal_d00df_24 : decode cJ5_ensureCapacityInternal_d00df 24 = .ok (.invokevirtual 104, 3) := by decide +kernel
theorem dJ5_ensureCapacityInternal_d00df_27 : decode cJ5_ensureCapacityInternal_d00df 27 = .ok (.aload_n 0, 1) := by decide +kernel
theorem dJ5_ensureCapacityInternal_d00df_28 : decode cJ5_ensureCapacityInternal_d00df 28 = .ok (.getfield 22, 3) := by decide +kernel
theorem dJ5_ensureCapacityInternal_d00df_31 : decode cJ5_ensureCapacityInternal_d00df 31 = .ok (.ishl, 1) := by decide +kernel
theorem dJ5_ensureCapacityInternal_d00df_32 : decode cJ5_ensureCapacityInternal_d00df 32 = .ok (.invokestatic 108, 3) := by decide +kernel
theorem dJ5_ensureCapacityInternal_d00df_35 : decode cJ5_ensureCapacityInternal_d00df 35 = .ok (.putfield 15, 3) := by decide +kernel
theorem dJ5_ensureCapacityInternal_d00df_38 : decode cJ5_ensureCapacityInternal_d00df 38 = .ok (.return_, 1) := by decide +kernel
theorem dJ5_newCapacity_0f7a4_0 : decode cJ5_newCapacity_0f7a4 0 = .ok (.aload_n 0, 1) := by decide +kernel
theorem dJ5_newCapacity_0f7a4_1 : decode cJ5_newCapacity_0f7a4 1 = .ok (.getfield 15, 3) := by decide +kernel
theorem dJ5_newCapacity_0f7a4_4 : decode cJ5_newCapacity_0f7a4 4 = .ok (.arraylength, 1) := by decide +kernel
theorem dJ5_newCapacity_0f7a4_5 : decode cJ5_newCapacity_0f7a4 5 = .ok (.istore_n 2, 1) := by decide +kernel
theorem dJ5_newCapacity_0f7a4_6 : decode cJ5_newCapacity_0f7a4 6 = .ok (.iload_n 1, 1) := by decide +kernel
theorem dJ5_newCapacity_0f7a4_7 : decode cJ5_newCapacity_0f7a4 7 = .ok (.aload_n 0, 1) := by decide +kernel
theorem dJ5_newCapacity_0f7a4_8 : decode cJ5_newCapacity_0f7a4 8 = .ok (.getfield 22, 3) := by decide +kernel
theorem dJ5_newCapacity_0f7a4_11 : decode cJ5_newCapacity_0f7a4 11 = .ok (.ishl, 1) := by decide +kernel
theorem dJ5_newCapacity_0f7a4_12 : decode cJ5_newCapacity_0f7a4 12 = .ok (.istore_n 3, 1) := by decide +kernel
theorem dJ5_newCapacity_0f7a4_13 : decode cJ5_newCapacity_0f7a4 13 = .ok (.iload_n 3, 1) := by decide +kernel
theorem dJ5_newCapacity_0f7a4_14 : decode cJ5_newCapacity_0f7a4 14 = .ok (.iload_n 2, 1) := by decide +kernel
theorem dJ5_newCapacity_0f7a4_15 : decode cJ5_newCapacity_0f7a4 15 = .ok (.isub, 1) := by decide +kernel
theorem dJ5_newCapacity_0f7a4_16 : decode cJ5_newCapacity_0f7a4 16 = .ok (.istore 4, 2) := by decide +kernel
theorem dJ5_newCapacity_0f7a4_18 : decode cJ5_newCapacity_0f7a4 18 = .ok (.iload_n 2, 1) := by decide +kernel
theorem dJ5_newCapacity_0f7a4_19 : decode cJ5_newCapacity_0f7a4 19 = .ok (.iload 4, 2) := by decide +kernel
theorem dJ5_newCapacity_0f7a4_21 : decode cJ5_newCapacity_0f7a4 21 = .ok (.iload_n 2, 1) := by decide +kernel
theorem dJ5_newCapacity_0f7a4_22 : decode cJ5_newCapacity_0f7a4 22 = .ok (.iconst 2, 1) := by decide +kernel
theorem dJ5_newCapacity_0f7a4_23 : decode cJ5_newCapacity_0f7a4 23 = .ok (.aload_n 0, 1) := by decide +kernel
theorem dJ5_newCapacity_0f7a4_24 : decode cJ5_newCapacity_0f7a4 24 = .ok (.getfield 22, 3) := by decide +kernel
theorem dJ5_newCapacity_0f7a4_27 : decode cJ5_newCapacity_0f7a4 27 = .ok (.ishl, 1) := by decide +kernel
theorem dJ5_newCapacity_0f7a4_28 : decode cJ5_newCapacity_0f7a4 28 = .ok (.iadd, 1) := by decide +kernel
theorem dJ5_newCapacity_0f7a4_29 : decode cJ5_newCapacity_0f7a4 29 = .ok (.invokestatic 114, 3) := by decide +kernel
theorem dJ5_newCapacity_0f7a4_32 : decode cJ5_newCapacity_0f7a4 32 = .ok (.istore 5, 2) := by decide +kernel
theorem dJ5_newCapacity_0f7a4_34 : decode cJ5_newCapacity_0f7a4 34 = .ok (.iload 5, 2) := by decide +kernel
theorem dJ5_newCapacity_0f7a4_36 : decode cJ5_newCapacity_0f7a4 36 = .ok (.ldc 39, 2) := by decide +kernel
theorem dJ5_newCapacity_0f7a4_38 : decode cJ5_newCapacity_0f7a4 38 = .ok (.if_icmp .ne 13, 3) := by decide +kernel
theorem dJ5_newCapacity_0f7a4_41 : decode cJ5_newCapacity_0f7a4 41 = .ok (.new 120, 3) := by decide +kernel
theorem dJ5_newCapacity_0f7a4_44 : decode cJ5_newCapacity_0f7a4 44 = .ok (.dup, 1) := by decide +kernel
theorem dJ5_newCapacity_0f7a4_45 : decode cJ5_newCapacity_0f7a4 45 = .ok (.ldc 122, 2) := by decide +kernel
theorem dJ5_newCapacity_0f7a4_47 : decode cJ5_newCapacity_0f7a4 47 = .ok (.invokespecial 124, 3) := by decide +kernel
theorem dJ5_newCapacity_0f7a4_50 : decode cJ5_newCapacity_0f7a4 50 = .ok (.athrow, 1) := by decide +kernel
theorem dJ5_newCapacity_0f7a4_51 : decode cJ5_newCapacity_0f7a4 51 = .ok (.iload 5, 2) := by decide +kernel
theorem dJ5_newCapacity_0f7a4_53 : decode cJ5_newCapacity_0f7a4 53 = .ok (.aload_n 0, 1) := by decide +kernel
theorem dJ5_newCapacity_0f7a4_54 : decode cJ5_newCapacity_0f7a4 54 = .ok (.getfield 22, 3) := by decide +kernel
theorem dJ5_newCapacity_0f7a4_57 : decode cJ5_newCapacity_0f7a4 57 = .ok (.ishr, 1) := by decide +kernel
theorem dJ5_newCapacity_0f7a4_58 : decode cJ5_newCapacity_0f7a4 58 = .ok (.ireturn, 1) := by decide +kernel
theorem dJ5_append_cf1ce_0 : decode cJ5_append_cf1ce 0 = .ok (.aload_n 1, 1) := by decide +kernel
theorem dJ5_append_cf1ce_1 : decode cJ5_append_cf1ce 1 = .ok (.ifnonnull 8, 3) := by decide +kernel
theorem dJ5_append_cf1ce_4 : decode cJ5_append_cf1ce 4 = .ok (.aload_n 0, 1) := by decide +kernel
theorem dJ5_append_cf1ce_5 : decode cJ5_append_cf1ce 5 = .ok (.invokevirtual 204, 3) := by decide +kernel
theorem dJ5_append_cf1ce_8 : decode cJ5_append_cf1ce 8 = .ok (.areturn, 1) := by decide +kernel
theorem dJ5_append_cf1ce_9 : decode cJ5_append_cf1ce 9 = .ok (.aload_n 1, 1) := by decide +kernel
theorem dJ5_append_cf1ce_10 : decode cJ5_append_cf1ce 10 = .ok (.invokevirtual 32, 3) := by decide +kernel
theorem dJ5_append_cf1ce_13 : decode cJ5_append_cf1ce 13 = .ok (.istore_n 2, 1) := by decide +kernel
theorem dJ5_append_cf1ce_14 : decode cJ5_append_cf1ce 14 = .ok (.aload_n 0, 1) := by decide +kernel
theorem dJ5_append_cf1ce_15 : decode cJ5_append_cf1ce 15 = .ok (.aload_n 0, 1) := by decide +kernel
theorem dJ5_append_cf1ce_16 : decode cJ5_append_cf1ce 16 = .ok (.getfield 79, 3) := by decide +kernel
theorem dJ5_append_cf1ce_19 : decode cJ5_append_cf1ce 19 = .ok (.iload_n 2, 1) := by decide +kernel
theorem dJ5_append_cf1ce_20 : decode cJ5_append_cf1ce 20 = .ok (.iadd, 1) := by decide +kernel
theorem dJ5_append_cf1ce_21 : decode cJ5_append_cf1ce 21 = .ok (.invokevirtual 100, 3) := by decide +kernel
theorem dJ5_append_cf1ce_24 : decode cJ5_append_cf1ce 24 = .ok (.aload_n 0, 1) := by decide +kernel
theorem dJ5_append_cf1ce_25 : decode cJ5_append_cf1ce 25 = .ok (.aload_n 0, 1) := by decide +kernel
theorem dJ5_append_cf1ce_26 : decode cJ5_append_cf1ce 26 = .ok (.getfield 79, 3) := by decide +kernel
theorem dJ5_append_cf1ce_29 : decode cJ5_append_cf1ce 29 = .ok (.aload_n 1, 1) := by decide +kernel
theorem dJ5_append_cf1ce_30 : decode cJ5_append_cf1ce 30 = .ok (.invokevirtual 208, 3) := by decide +kernel
theorem dJ5_append_cf1ce_33 : decode cJ5_append_cf1ce 33 = .ok (.aload_n 0, 1) := by decide +kernel
theorem dJ5_append_cf1ce_34 : decode cJ5_append_cf1ce 34 = .ok (.dup, 1) := by decide +kernel
theorem dJ5_append_cf1ce_35 : decode cJ5_append_cf1ce 35 = .ok (.getfield 79, 3) := by decide +kernel
theorem dJ5_append_cf1ce_38 : decode cJ5_append_cf1ce 38 = .ok (.iload_n 2, 1) := by decide +kernel
theorem dJ5_append_cf1ce_39 : decode cJ5_append_cf1ce 39 = .ok (.iadd, 1) := by decide +kernel
theorem dJ5_append_cf1ce_40 : decode cJ5_append_cf1ce 40 = .ok (.putfield 79, 3) := by decide +kernel
theorem dJ5_append_cf1ce_43 : decode cJ5_append_cf1ce 43 = .ok (.aload_n 0, 1) := by decide +kernel
theorem dJ5_append_cf1ce_44 : decode cJ5_append_cf1ce 44 = .ok (.areturn, 1) := by decide +kernel
theorem dJ5_append_3fe6f_0 : decode cJ5_append_3fe6f 0 = .ok (.aload_n 0, 1) := by decide +kernel
theorem dJ5_append_3fe6f_1 : decode cJ5_append_3fe6f 1 = .ok (.aload_n 0, 1) := by decide +kernel
theorem dJ5_append_3fe6f_2 : decode cJ5_append_3fe6f 2 = .ok (.getfield 79, 3) := by decide +kernel
theorem dJ5_append_3fe6f_5 : decode cJ5_append_3fe6f 5 = .ok (.iconst 1, 1) := by decide +kernel
theorem dJ5_append_3fe6f_6 : decode cJ5_append_3fe6f 6 = .ok (.iadd, 1) := by decide +kernel
theorem dJ5_append_3fe6f_7 : decode cJ5_append_3fe6f 7 = .ok (.invokevirtual 100, 3) := by decide +kernel
theorem dJ5_append_3fe6f_10 : decode cJ5_append_3fe6f 10 = .ok (.aload_n 0, 1) := by decide +kernel
theorem dJ5_append_3fe6f_11 : decode cJ5_append_3fe6f 11 = .ok (.invokevirtual 83, 3) := by decide +kernel
theorem dJ5_append_3fe6f_14 : decode cJ5_append_3fe6f 14 = .ok (.ifCond .eq 31, 3) := by decide +kernel
theorem dJ5_append_3fe6f_17 : decode cJ5_append_3fe6f 17 = .ok (.iload_n 1, 1) := by decide +kernel
theorem dJ5_append_3fe6f_18 : decode cJ5_append_3fe6f 18 = .ok (.invokestatic 191, 3) := by decide +kernel
theorem dJ5_append_3fe6f_21 : decode cJ5_append_3fe6f 21 = .ok (.ifCond .eq 24, 3) := by decide +kernel
theorem dJ5_append_3fe6f_24 : decode cJ5_append_3fe6f 24 = .ok (.aload_n 0, 1) := by decide +kernel
theorem dJ5_append_3fe6f_25 : decode cJ5_append_3fe6f 25 = .ok (.getfield 15, 3) := by decide +kernel
theorem dJ5_append_3fe6f_28 : decode cJ5_append_3fe6f 28 = .ok (.aload_n 0, 1) := by decide +kernel
theorem dJ5_append_3fe6f_29 : decode cJ5_append_3fe6f 29 = .ok (.dup, 1) := by decide +kernel
theorem dJ5_append_3fe6f_30 : decode cJ5_append_3fe6f 30 = .ok (.getfield 79, 3) := by decide +kernel
theorem dJ5_append_3fe6f_33 : decode cJ5_append_3fe6f 33 = .ok (.dup_x1, 1) := by decide +kernel
theorem dJ5_append_3fe6f_34 : decode cJ5_append_3fe6f 34 = .ok (.iconst 1, 1) := by decide +kernel
theorem dJ5_append_3fe6f_35 : decode cJ5_append_3fe6f 35 = .ok (.iadd, 1) := by decide +kernel
theorem dJ5_append_3fe6f_36 : decode cJ5_append_3fe6f 36 = .ok (.putfield 79, 3) := by decide +kernel
theorem dJ5_append_3fe6f_39 : decode cJ5_append_3fe6f 39 = .ok (.iload_n 1, 1) := by decide +kernel
theorem dJ5_append_3fe6f_40 : decode cJ5_append_3fe6f 40 = .ok (.i2b, 1) := by decide +kernel
theorem dJ5_append_3fe6f_41 : decode cJ5_append_3fe6f 41 = .ok (.bastore, 1) := by decide +kernel
theorem dJ5_append_3fe6f_42 : decode cJ5_append_3fe6f 42 = .ok (.goto 33, 3) := by decide +kernel
theorem dJ5_append_3fe6f_45 : decode cJ5_append_3fe6f 45 = .ok (.aload_n 0, 1) := by decide +kernel
theorem dJ5_append_3fe6f_46 : decode cJ5_append_3fe6f 46 = .ok (.invokevirtual 83, 3) := by decide +kernel
theorem dJ5_append_3fe6f_49 : decode cJ5_append_3fe6f 49 = .ok (.ifCond .eq 7, 3) := by decide +kernel
theorem dJ5_append_3fe6f_52 : decode cJ5_append_3fe6f 52 = .ok (.aload_n 0, 1) := by decide +kernel
theorem dJ5_append_3fe6f_53 : decode cJ5_append_3fe6f 53 = .ok (.invokevirtual 195, 3) := by decide +kernel
theorem dJ5_append_3fe6f_56 : decode cJ5_append_3fe6f 56 = .ok (.aload_n 0, 1) := by decide +kernel
theorem dJ5_append_3fe6f_57 : decode cJ5_append_3fe6f 57 = .ok (.getfield 15, 3) := by decide +kernel
theorem dJ5_append_3fe6f_60 : decode cJ5_append_3fe6f 60 = .ok (.aload_n 0, 1) := by decide +kernel
theorem dJ5_append_3fe6f_61 : decode cJ5_append_3fe6f 61 = .ok (.dup, 1) := by decide +kernel
theorem dJ5_append_3fe6f_62 : decode cJ5_append_3fe6f 62 = .ok (.getfield 79, 3) := by decide +kernel
theorem dJ5_append_3fe6f_65 : decode cJ5_append_3fe6f 65 = .ok (.dup_x1, 1) := by decide +kernel
theorem dJ5_append_3fe6f_66 : decode cJ5_append_3fe6f 66 = .ok (.iconst 1, 1) := by decide +kernel
theorem dJ5_append_3fe6f_67 : decode cJ5_append_3fe6f 67 = .ok (.iadd, 1) := by decide +kernel
theorem dJ5_append_3fe6f_68 : decode cJ5_append_3fe6f 68 = .ok (.putfield 79, 3) := by decide +kernel
theorem dJ5_append_3fe6f_71 : decode cJ5_append_3fe6f 71 = .ok (.iload_n 1, 1) := by decide +kernel
theorem dJ5_append_3fe6f_72 : decode cJ5_append_3fe6f 72 = .ok (.invokestatic 197, 3) := by decide +kernel
theorem dJ5_append_3fe6f_75 : decode cJ5_append_3fe6f 75 = .ok (.aload_n 0, 1) := by decide +kernel
theorem dJ5_append_3fe6f_76 : decode cJ5_append_3fe6f 76 = .ok (.areturn, 1) := by decide +kernel
theorem dJ5_append_c97b9_0 : decode cJ5_append_c97b9 0 = .ok (.aload_n 0, 1) := by decide +kernel
theorem dJ5_append_c97b9_1 : decode cJ5_append_c97b9 1 = .ok (.getfield 79, 3) := by decide +kernel
theorem dJ5_append_c97b9_4 : decode cJ5_append_c97b9 4 = .ok (.istore_n 2, 1) := by decide +kernel
theorem dJ5_append_c97b9_5 : decode cJ5_append_c97b9 5 = .ok (.iload_n 2, 1) := by decide +kernel
theorem dJ5_append_c97b9_6 : decode cJ5_append_c97b9 6 = .ok (.iload_n 1, 1) := by decide +kernel
theorem dJ5_append_c97b9_7 : decode cJ5_append_c97b9 7 = .ok (.invokestatic 245, 3) := by decide +kernel
theorem dJ5_append_c97b9_10 : decode cJ5_append_c97b9 10 = .ok (.iadd, 1) := by decide +kernel
theorem dJ5_append_c97b9_11 : decode cJ5_append_c97b9 11 = .ok (.istore_n 3, 1) := by decide +kernel
theorem dJ5_append_c97b9_12 : decode cJ5_append_c97b9 12 = .ok (.aload_n 0, 1) := by decide +kernel
theorem dJ5_append_c97b9_13 : decode cJ5_append_c97b9 13 = .ok (.iload_n 3, 1) := by decide +kernel
theorem dJ5_append_c97b9_14 : decode cJ5_append_c97b9 14 = .ok (.invokevirtual 100, 3) := by decide +kernel
theorem dJ5_append_c97b9_17 : decode cJ5_append_c97b9 17 = .ok (.aload_n 0, 1) := by decide +kernel
theorem dJ5_append_c97b9_18 : decode cJ5_append_c97b9 18 = .ok (.invokevirtual 83, 3) := by decide +kernel
theorem dJ5_append_c97b9_21 : decode cJ5_append_c97b9 21 = .ok (.ifCond .eq 16, 3) := by decide +kernel
theorem dJ5_append_c97b9_24 : decode cJ5_append_c97b9 24 = .ok (.iload_n 1, 1) := by decide +kernel
theorem dJ5_append_c97b9_25 : decode cJ5_append_c97b9 25 = .ok (.iload_n 3, 1) := by decide +kernel
theorem dJ5_append_c97b9_26 : decode cJ5_append_c97b9 26 = .ok (.aload_n 0, 1) := by decide +kernel
theorem dJ5_append_c97b9_27 : decode cJ5_append_c97b9 27 = .ok (.getfield 15, 3) := by decide +kernel
theorem dJ5_append_c97b9_30 : decode cJ5_append_c97b9 30 = .ok (.invokestatic 248, 3) := by decide +kernel
theorem dJ5_append_c97b9_33 : decode cJ5_append_c97b9 33 = .ok (.pop, 1) := by decide +kernel
theorem dJ5_append_c97b9_34 : decode cJ5_append_c97b9 34 = .ok (.goto 14, 3) := by decide +kernel
theorem dJ5_append_c97b9_37 : decode cJ5_append_c97b9 37 = .ok (.iload_n 1, 1) := by decide +kernel
theorem dJ5_append_c97b9_38 : decode cJ5_append_c97b9 38 = .ok (.iload_n 2, 1) := by decide +kernel
theorem dJ5_append_c97b9_39 : decode cJ5_append_c97b9 39 = .ok (.iload_n 3, 1) := by decide +kernel
theorem dJ5_append_c97b9_40 : decode cJ5_append_c97b9 40 = .ok (.aload_n 0, 1) := by decide +kernel
theorem dJ5_append_c97b9_41 : decode cJ5_append_c97b9 41 = .ok (.getfield 15, 3) := by decide +kernel
theorem dJ5_append_c97b9_44 : decode cJ5_append_c97b9 44 = .ok (.invokestatic 251, 3) := by decide +kernel
theorem dJ5_append_c97b9_47 : decode cJ5_append_c97b9 47 = .ok (.pop, 1) := by decide +kernel
theorem dJ5_append_c97b9_48 : decode cJ5_append_c97b9 48 = .ok (.aload_n 0, 1) := by decide +kernel
theorem dJ5_append_c97b9_49 : decode cJ5_append_c97b9 49 = .ok (.iload_n 3, 1) := by decide +kernel
theorem dJ5_append_c97b9_50 : decode cJ5_append_c97b9 50 = .ok (.putfield 79, 3) := by decide +kernel
theorem dJ5_append_c97b9_53 : decode cJ5_append_c97b9 53 = .ok (.aload_n 0, 1) := by decide +kernel
theorem dJ5_append_c97b9_54 : decode cJ5_append_c97b9 54 = .ok (.areturn, 1) := by decide +kernel
theorem dJ5_getValue_6d5f1_0 : decode cJ5_getValue_6d5f1 0 = .ok (.aload_n 0, 1) := by decide +kernel
theorem dJ5_getValue_6d5f1_1 : decode cJ5_getValue_6d5f1 1 = .ok (.getfield 15, 3) := by decide +kernel
theorem dJ5_getValue_6d5f1_4 : decode cJ5_getValue_6d5f1 4 = .ok (.areturn, 1) := by decide +kernel
theorem dJ5_isLatin1_aae02_0 : decode cJ5_isLatin1_aae02 0 = .ok (.getstatic 18, 3) := by decide +kernel
theorem dJ5_isLatin1_aae02_3 : decode cJ5_isLatin1_aae02 3 = .ok (.ifCond .eq 14, 3) := by decide +kernel
theorem dJ5_isLatin1_aae02_6 : decode cJ5_isLatin1_aae02 6 = .ok (.aload_n 0, 1) := by decide +kernel
theorem dJ5_isLatin1_aae02_7 : decode cJ5_isLatin1_aae02 7 = .ok (.getfield 22, 3) := by decide +kernel
theorem dJ5_isLatin1_aae02_10 : decode cJ5_isLatin1_aae02 10 = .ok (.ifCond .ne 7, 3) := by decide +kernel
theorem dJ5_isLatin1_aae02_13 : decode cJ5_isLatin1_aae02 13 = .ok (.iconst 1, 1) := by decide +kernel
theorem dJ5_isLatin1_aae02_14 : decode cJ5_isLatin1_aae02 14 = .ok (.goto 4, 3) := by decide +kernel
theorem dJ5_isLatin1_aae02_17 : decode cJ5_isLatin1_aae02 17 = .ok (.iconst 0, 1) := by decide +kernel
theorem dJ5_isLatin1_aae02_18 : decode cJ5_isLatin1_aae02 18 = .ok (.ireturn, 1) := by decide +kernel
theorem dJ5_inflateIfNeededFor_a7421_0 : decode cJ5_inflateIfNeededFor_a7421 0 = .ok (.getstatic 18, 3) := by decide +kernel
theorem dJ5_inflateIfNeededFor_a7421_3 : decode cJ5_inflateIfNeededFor_a7421 3 = .ok (.ifCond .eq 18, 3) := by decide +kernel
theorem dJ5_inflateIfNeededFor_a7421_6 : decode cJ5_inflateIfNeededFor_a7421 6 = .ok (.aload_n 0, 1) := by decide +kernel
theorem dJ5_inflateIfNeededFor_a7421_7 : decode cJ5_inflateIfNeededFor_a7421 7 = .ok (.getfield 22, 3) := by decide +kernel
theorem dJ5_inflateIfNeededFor_a7421_10 : decode cJ5_inflateIfNeededFor_a7421 10 = .ok (.aload_n 1, 1) := by decide +kernel
theorem dJ5_inflateIfNeededFor_a7421_11 : decode cJ5_inflateIfNeededFor_a7421 11 = .ok (.invokevirtual 40, 3) := by decide +kernel
theorem dJ5_inflateIfNeededFor_a7421_14 : decode cJ5_inflateIfNeededFor_a7421 14 = .ok (.if_icmp .eq 7, 3) := by decide +kernel
theorem dJ5_inflateIfNeededFor_a7421_17 : decode cJ5_inflateIfNeededFor_a7421 17 = .ok (.aload_n 0, 1) := by decide +kernel
theorem dJ5_inflateIfNeededFor_a7421_18 : decode cJ5_inflateIfNeededFor_a7421 18 = .ok (.invokevirtual 195, 3) := by decide +kernel
theorem dJ5_inflateIfNeededFor_a7421_21 : decode cJ5_inflateIfNeededFor_a7421 21 = .ok (.return_, 1) := by decide +kernel
theorem dJ5_putStringAt_47b60_0 : decode cJ5_putStringAt_47b60 0 = .ok (.aload_n 0, 1) := by decide +kernel
theorem dJ5_putStringAt_47b60_1 : decode cJ5_putStringAt_47b60 1 = .ok (.aload_n 2, 1) := by decide +kernel
theorem dJ5_putStringAt_47b60_2 : decode cJ5_putStringAt_47b60 2 = .ok (.invokevirtual 397, 3) := by decide +kernel
theorem dJ5_putStringAt_47b60_5 : decode cJ5_putStringAt_47b60 5 = .ok (.aload_n 2, 1) := by decide +kernel
theorem dJ5_putStringAt_47b60_6 : decode cJ5_putStringAt_47b60 6 = .ok (.aload_n 0, 1) := by decide +kernel
theorem dJ5_putStringAt_47b60_7 : decode cJ5_putStringAt_47b60 7 = .ok (.getfield 15, 3) := by decide +kernel
theorem dJ5_putStringAt_47b60_10 : decode cJ5_putStringAt_47b60 10 = .ok (.iload_n 1, 1) := by decide +kernel
theorem dJ5_putStringAt_47b60_11 : decode cJ5_putStringAt_47b60 11 = .ok (.aload_n 0, 1) := by decide +kernel
theorem dJ5_putStringAt_47b60_12 : decode cJ5_putStringAt_47b60 12 = .ok (.getfield 22, 3) := by decide +kernel
theorem dJ5_putStringAt_47b60_15 : decode cJ5_putStringAt_47b60 15 = .ok (.invokevirtual 399, 3) := by decide +kernel
theorem dJ5_putStringAt_47b60_18 : decode cJ5_putStringAt_47b60 18 = .ok (.return_, 1) := by decide +kernel
theorem dJ6_getChars_ba4f3_0 : decode cJ6_getChars_ba4f3 0 = .ok (.iload_n 1, 1) := by decide +kernel
theorem dJ6_getChars_ba4f3_1 : decode cJ6_getChars_ba4f3 1 = .ok (.istore 5, 2) := by decide +kernel
theorem dJ6_getChars_ba4f3_3 : decode cJ6_getChars_ba4f3 3 = .ok (.iload_n 0, 1) := by decide +kernel
theorem dJ6_getChars_ba4f3_4 : decode cJ6_getChars_ba4f3 4 = .ok (.ifCond .ge 7, 3) := by decide +kernel
theorem dJ6_getChars_ba4f3_7 : decode cJ6_getChars_ba4f3 7 = .ok (.iconst 1, 1) := by decide +kernel
theorem dJ6_getChars_ba4f3_8 : decode cJ6_getChars_ba4f3 8 = .ok (.goto 4, 3) := by decide +kernel
theorem dJ6_getChars_ba4f3_11 : decode cJ6_getChars_ba4f3 11 = .ok (.iconst 0, 1) := by decide +kernel
theorem dJ6_getChars_ba4f3_12 : decode cJ6_getChars_ba4f3 12 = .ok (.istore 6, 2) := by decide +kernel
theorem dJ6_getChars_ba4f3_14 : decode cJ6_getChars_ba4f3 14 = .ok (.iload 6, 2) := by decide +kernel
theorem dJ6_getChars_ba4f3_16 : decode cJ6_getChars_ba4f3 16 = .ok (.ifCond .ne 6, 3) := by decide +kernel
theorem dJ6_getChars_ba4f3_19 : decode cJ6_getChars_ba4f3 19 = .ok (.iload_n 0, 1) := by decide +kernel
theorem dJ6_getChars_ba4f3_20 : decode cJ6_getChars_ba4f3 20 = .ok (.ineg, 1) := by decide +kernel
theorem dJ6_getChars_ba4f3_21 : decode cJ6_getChars_ba4f3 21 = .ok (.istore_n 0, 1) := by decide +kernel
theorem dJ6_getChars_ba4f3_22 : decode cJ6_getChars_ba4f3 22 = .ok (.iload_n 0, 1) := by decide +kernel
theorem dJ6_getChars_ba4f3_23 : decode cJ6_getChars_ba4f3 23 = .ok (.bipush (-100), 2) := by decide +kernel
theorem dJ6_getChars_ba4f3_25 : decode cJ6_getChars_ba4f3 25 = .ok (.if_icmp .gt 47, 3) := by decide +kernel
theorem dJ6_getChars_ba4f3_28 : decode cJ6_getChars_ba4f3 28 = .ok (.iload_n 0, 1) := by decide +kernel
theorem dJ6_getChars_ba4f3_29 : decode cJ6_getChars_ba4f3 29 = .ok (.bipush 100, 2) := by decide +kernel
theorem dJ6_getChars_ba4f3_31 : decode cJ6_getChars_ba4f3 31 = .ok (.idiv, 1) := by decide +kernel
theorem dJ6_getChars_ba4f3_32 : decode cJ6_getChars_ba4f3 32 = .ok (.istore_n 3, 1) := by decide +kernel
theorem dJ6_getChars_ba4f3_33 : decode cJ6_getChars_ba4f3 33 = .ok (.iload_n 3, 1) := by decide +kernel
theorem dJ6_getChars_ba4f3_34 : decode cJ6_getChars_ba4f3 34 = .ok (.bipush 100, 2) := by decide +kernel
theorem dJ6_getChars_ba4f3_36 : decode cJ6_getChars_ba4f3 36 = .ok (.imul, 1) := by decide +kernel
theorem dJ6_getChars_ba4f3_37 : decode cJ6_getChars_ba4f3 37 = .ok (.iload_n 0, 1) := by decide +kernel
theorem dJ6_getChars_ba4f3_38 : decode cJ6_getChars_ba4f3 38 = .ok (.isub, 1) := by decide +kernel
theorem dJ6_getChars_ba4f3_39 : decode cJ6_getChars_ba4f3 39 = .ok (.istore 4, 2) := by decide +kernel
theorem dJ6_getChars_ba4f3_41 : decode cJ6_getChars_ba4f3 41 = .ok (.iload_n 3, 1) := by decide +kernel
theorem dJ6_getChars_ba4f3_42 : decode cJ6_getChars_ba4f3 42 = .ok (.istore_n 0, 1) := by decide +kernel
theorem dJ6_getChars_ba4f3_43 : decode cJ6_getChars_ba4f3 43 = .ok (.aload_n 2, 1) := by decide +kernel
theorem dJ6_getChars_ba4f3_44 : decode cJ6_getChars_ba4f3 44 = .ok (.iinc 5 (-1), 3) := by decide +kernel
theorem dJ6_getChars_ba4f3_47 : decode cJ6_getChars_ba4f3 47 = .ok (.iload 5, 2) := by decide +kernel
theorem dJ6_getChars_ba4f3_49 : decode cJ6_getChars_ba4f3 49 = .ok (.getstatic 83, 3) := by decide +kernel
theorem dJ6_getChars_ba4f3_52 : decode cJ6_getChars_ba4f3 52 = .ok (.iload 4, 2) := by decide +kernel
theorem dJ6_getChars_ba4f3_54 : decode cJ6_getChars_ba4f3 54 = .ok (.baload, 1) := by decide +kernel
theorem dJ6_getChars_ba4f3_55 : decode cJ6_getChars_ba4f3 55 = .ok (.bastore, 1) := by decide +kernel
theorem dJ6_getChars_ba4f3_56 : decode cJ6_getChars_ba4f3 56 = .ok (.aload_n 2, 1) := by decide +kernel
theorem dJ6_getChars_ba4f3_57 : decode cJ6_getChars_ba4f3 57 = .ok (.iinc 5 (-1), 3) := by decide +kernel
theorem dJ6_getChars_ba4f3_60 : decode cJ6_getChars_ba4f3 60 = .ok (.iload 5, 2) := by decide +kernel
theorem dJ6_getChars_ba4f3_62 : decode cJ6_getChars_ba4f3 62 = .ok (.getstatic 87, 3) := by decide +kernel
theorem dJ6_getChars_ba4f3_65 : decode cJ6_getChars_ba4f3 65 = .ok (.iload 4, 2) := by decide +kernel
theorem dJ6_getChars_ba4f3_67 : decode cJ6_getChars_ba4f3 67 = .ok (.baload, 1) := by decide +kernel
theorem dJ6_getChars_ba4f3_68 : decode cJ6_getChars_ba4f3 68 = .ok (.bastore, 1) := by decide +kernel
theorem dJ6_getChars_ba4f3_69 : decode cJ6_getChars_ba4f3 69 = .ok (.goto (-47), 3) := by decide +kernel
theorem dJ6_getChars_ba4f3_72 : decode cJ6_getChars_ba4f3 72 = .ok (.aload_n 2, 1) := by decide +kernel
theorem dJ6_getChars_ba4f3_73 : decode cJ6_getChars_ba4f3 73 = .ok (.iinc 5 (-1), 3) := by decide +kernel
theorem dJ6_getChars_ba4f3_76 : decode cJ6_getChars_ba4f3 76 = .ok (.iload 5, 2) := by decide +kernel
theorem dJ6_getChars_ba4f3_78 : decode cJ6_getChars_ba4f3 78 = .ok (.getstatic 83, 3) := by decide +kernel
theorem dJ6_getChars_ba4f3_81 : decode cJ6_getChars_ba4f3 81 = .ok (.iload_n 0, 1) := by decide +kernel
theorem dJ6_getChars_ba4f3_82 : decode cJ6_getChars_ba4f3 82 = .ok (.ineg, 1) := by decide +kernel
theorem dJ6_getChars_ba4f3_83 : decode cJ6_getChars_ba4f3 83 = .ok (.baload, 1) := by decide +kernel
theorem dJ6_getChars_ba4f3_84 : decode cJ6_getChars_ba4f3 84 = .ok (.bastore, 1) := by decide +kernel
theorem dJ6_getChars_ba4f3_85 : decode cJ6_getChars_ba4f3 85 = .ok (.iload_n 0, 1) := by decide +kernel
theorem dJ6_getChars_ba4f3_86 : decode cJ6_getChars_ba4f3 86 = .ok (.bipush (-9), 2) := by decide +kernel
theorem dJ6_getChars_ba4f3_88 : decode cJ6_getChars_ba4f3 88 = .ok (.if_icmp .ge 16, 3) := by decide +kernel
theorem dJ6_getChars_ba4f3_91 : decode cJ6_getChars_ba4f3 91 = .ok (.aload_n 2, 1) := by decide +kernel
theorem dJ6_getChars_ba4f3_92 : decode cJ6_getChars_ba4f3 92 = .ok (.iinc 5 (-1), 3) := by decide +kernel
theorem dJ6_getChars_ba4f3_95 : decode cJ6_getChars_ba4f3 95 = .ok (.iload 5, 2) := by decide +kernel
theorem dJ6_getChars_ba4f3_97 : decode cJ6_getChars_ba4f3 97 = .ok (.getstatic 87, 3) := by decide +kernel
theorem dJ6_getChars_ba4f3_100 : decode cJ6_getChars_ba4f3 100 = .ok (.iload_n 0, 1) := by decide +kernel
theorem dJ6_getChars_ba4f3_101 : decode cJ6_getChars_ba4f3 101 = .ok (.ineg, 1) := by decide +kernel
theorem dJ6_getChars_ba4f3_102 : decode cJ6_getChars_ba4f3 102 = .ok (.baload, 1) := by decide +kernel
theorem dJ6_getChars_ba4f3_103 : decode cJ6_getChars_ba4f3 103 = .ok (.bastore, 1) := by decide +kernel
theorem dJ6_getChars_ba4f3_104 : decode cJ6_getChars_ba4f3 104 = .ok (.iload 6, 2) := by decide +kernel
theorem dJ6_getChars_ba4f3_106 : decode cJ6_getChars_ba4f3 106 = .ok (.ifCond .eq 12, 3) := by decide +kernel
theorem dJ6_getChars_ba4f3_109 : decode cJ6_getChars_ba4f3 109 = .ok (.aload_n 2, 1) := by decide +kernel
theorem dJ6_getChars_ba4f3_110 : decode cJ6_getChars_ba4f3 110 = .ok (.iinc 5 (-1), 3) := by decide +kernel
theorem dJ6_getChars_ba4f3_113 : decode cJ6_getChars_ba4f3 113 = .ok (.iload 5, 2) := by decide +kernel
theorem dJ6_getChars_ba4f3_115 : decode cJ6_getChars_ba4f3 115 = .ok (.bipush 45, 2) := by decide +kernel
theorem dJ6_getChars_ba4f3_117 : decode cJ6_getChars_ba4f3 117 = .ok (.bastore, 1) := by decide +kernel
theorem dJ6_getChars_ba4f3_118 : decode cJ6_getChars_ba4f3 118 = .ok (.iload 5, 2) := by decide +kernel
theorem dJ6_getChars_ba4f3_120 : decode cJ6_getChars_ba4f3 120 = .ok (.ireturn, 1) := by decide +kernel
theorem dJ6_stringSize_0f7a4_0 : decode cJ6_stringSize_0f7a4 0 = .ok (.iconst 1, 1) := by decide +kernel
theorem dJ6_stringSize_0f7a4_1 : decode cJ6_stringSize_0f7a4 1 = .ok (.istore_n 1, 1) := by decide +kernel
theorem dJ6_stringSize_0f7a4_2 : decode cJ6_stringSize_0f7a4 2 = .ok (.iload_n 0, 1) := by decide +kernel
theorem dJ6_stringSize_0f7a4_3 : decode cJ6_stringSize_0f7a4 3 = .ok (.ifCond .lt 8, 3) := by decide +kernel
theorem dJ6_stringSize_0f7a4_6 : decode cJ6_stringSize_0f7a4 6 = .ok (.iconst 0, 1) := by decide +kernel
theorem dJ6_stringSize_0f7a4_7 : decode cJ6_stringSize_0f7a4 7 = .ok (.istore_n 1, 1) := by decide +kernel
theorem dJ6_stringSize_0f7a4_8 : decode cJ6_stringSize_0f7a4 8 = .ok (.iload_n 0, 1) := by decide +kernel
theorem dJ6_stringSize_0f7a4_9 : decode cJ6_stringSize_0f7a4 9 = .ok (.ineg, 1) := by decide +kernel
theorem dJ6_stringSize_0f7a4_10 : decode cJ6_stringSize_0f7a4 10 = .ok (.istore_n 0, 1) := by decide +kernel
theorem dJ6_stringSize_0f7a4_11 : decode cJ6_stringSize_0f7a4 11 = .ok (.bipush (-10), 2) := by decide +kernel
theorem dJ6_stringSize_0f7a4_13 : decode cJ6_stringSize_0f7a4 13 = .ok (.istore_n 2, 1) := by decide +kernel
theorem dJ6_stringSize_0f7a4_14 : decode cJ6_stringSize_0f7a4 14 = .ok (.iconst 1, 1) := by decide +kernel
theorem dJ6_stringSize_0f7a4_15 : decode cJ6_stringSize_0f7a4 15 = .ok (.istore_n 3, 1) := by decide +kernel
theorem dJ6_stringSize_0f7a4_16 : decode cJ6_stringSize_0f7a4 16 = .ok (.iload_n 3, 1) := by decide +kernel
theorem dJ6_stringSize_0f7a4_17 : decode cJ6_stringSize_0f7a4 17 = .ok (.bipush 10, 2) := by decide +kernel
theorem dJ6_stringSize_0f7a4_19 : decode cJ6_stringSize_0f7a4 19 = .ok (.if_icmp .ge 23, 3) := by decide +kernel
theorem dJ6_stringSize_0f7a4_22 : decode cJ6_stringSize_0f7a4 22 = .ok (.iload_n 0, 1) := by decide +kernel
theorem dJ6_stringSize_0f7a4_23 : decode cJ6_stringSize_0f7a4 23 = .ok (.iload_n 2, 1) := by decide +kernel
theorem dJ6_stringSize_0f7a4_24 : decode cJ6_stringSize_0f7a4 24 = .ok (.if_icmp .le 7, 3) := by decide +kernel
theorem dJ6_stringSize_0f7a4_27 : decode cJ6_stringSize_0f7a4 27 = .ok (.iload_n 3, 1) := by decide +kernel
theorem dJ6_stringSize_0f7a4_28 : decode cJ6_stringSize_0f7a4 28 = .ok (.iload_n 1, 1) := by decide +kernel
theorem dJ6_stringSize_0f7a4_29 : decode cJ6_stringSize_0f7a4 29 = .ok (.iadd, 1) := by decide +kernel
theorem dJ6_stringSize_0f7a4_30 : decode cJ6_stringSize_0f7a4 30 = .ok (.ireturn, 1) := by decide +kernel
theorem dJ6_stringSize_0f7a4_31 : decode cJ6_stringSize_0f7a4 31 = .ok (.bipush 10, 2) := by decide +kernel
theorem dJ6_stringSize_0f7a4_33 : decode cJ6_stringSize_0f7a4 33 = .ok (.iload_n 2, 1) := by decide +kernel
theorem dJ6_stringSize_0f7a4_34 : decode cJ6_stringSize_0f7a4 34 = .ok (.imul, 1) := by decide +kernel
theorem dJ6_stringSize_0f7a4_35 : decode cJ6_stringSize_0f7a4 35 = .ok (.istore_n 2, 1) := by decide +kernel
theorem dJ6_stringSize_0f7a4_36 : decode cJ6_stringSize_0f7a4 36 = .ok (.iinc 3 1, 3) := by decide +kernel
theorem dJ6_stringSize_0f7a4_39 : decode cJ6_stringSize_0f7a4 39 = .ok (.goto (-23), 3) := by decide +kernel
theorem dJ6_stringSize_0f7a4_42 : decode cJ6_stringSize_0f7a4 42 = .ok (.bipush 10, 2) := by decide +kernel
theorem dJ6_stringSize_0f7a4_44 : decode cJ6_stringSize_0f7a4 44 = .ok (.iload_n 1, 1) := by decide +kernel
theorem dJ6_stringSize_0f7a4_45 : decode cJ6_stringSize_0f7a4 45 = .ok (.iadd, 1) := by decide +kernel
theorem dJ6_stringSize_0f7a4_46 : decode cJ6_stringSize_0f7a4 46 = .ok (.ireturn, 1) := by decide +kernel
theorem dJ6_valueOf_2dffe_0 : decode cJ6_valueOf_2dffe 0 = .ok (.iload_n 0, 1) := by decide +kernel
theorem dJ6_valueOf_2dffe_1 : decode cJ6_valueOf_2dffe 1 = .ok (.bipush (-128), 2) := by decide +kernel
theorem dJ6_valueOf_2dffe_3 : decode cJ6_valueOf_2dffe 3 = .ok (.if_icmp .lt 20, 3) := by decide +kernel
theorem dJ6_valueOf_2dffe_6 : decode cJ6_valueOf_2dffe 6 = .ok (.iload_n 0, 1) := by decide +kernel
theorem dJ6_valueOf_2dffe_7 : decode cJ6_valueOf_2dffe 7 = .ok (.getstatic 191, 3) := by decide +kernel
theorem dJ6_valueOf_2dffe_10 : decode cJ6_valueOf_2dffe 10 = .ok (.if_icmp .gt 13, 3) := by decide +kernel
theorem dJ6_valueOf_2dffe_13 : decode cJ6_valueOf_2dffe 13 = .ok (.getstatic 195, 3) := by decide +kernel
theorem dJ6_valueOf_2dffe_16 : decode cJ6_valueOf_2dffe 16 = .ok (.iload_n 0, 1) := by decide +kernel
theorem dJ6_valueOf_2dffe_17 : decode cJ6_valueOf_2dffe 17 = .ok (.sipush 128, 3) := by decide +kernel
theorem dJ6_valueOf_2dffe_20 : decode cJ6_valueOf_2dffe 20 = .ok (.iadd, 1) := by decide +kernel
theorem dJ6_valueOf_2dffe_21 : decode cJ6_valueOf_2dffe 21 = .ok (.aaload, 1) := by decide +kernel
theorem dJ6_valueOf_2dffe_22 : decode cJ6_valueOf_2dffe 22 = .ok (.areturn, 1) := by decide +kernel
theorem dJ6_valueOf_2dffe_23 : decode cJ6_valueOf_2dffe 23 = .ok (.new 1, 3) := by decide +kernel
theorem dJ6_valueOf_2dffe_26 : decode cJ6_valueOf_2dffe 26 = .ok (.dup, 1) := by decide +kernel
theorem dJ6_valueOf_2dffe_27 : decode cJ6_valueOf_2dffe 27 = .ok (.iload_n 0, 1) := by decide +kernel
theorem dJ6_valueOf_2dffe_28 : decode cJ6_valueOf_2dffe 28 = .ok (.invokespecial 199, 3) := by decide +kernel
theorem dJ6_valueOf_2dffe_31 : decode cJ6_valueOf_2dffe 31 = .ok (.areturn, 1) := by decide +kernel
theorem dJ6_intValue_8abf5_0 : decode cJ6_intValue_8abf5 0 = .ok (.aload_n 0, 1) := by decide +kernel
theorem dJ6_intValue_8abf5_1 : decode cJ6_intValue_8abf5 1 = .ok (.getfield 205, 3) := by decide +kernel
theorem dJ6_intValue_8abf5_4 : decode cJ6_intValue_8abf5 4 = .ok (.ireturn, 1) := by decide +kernel
theorem dJ6_compareTo_e8194_0 : decode cJ6_compareTo_e8194 0 = .ok (.aload_n 0, 1) := by decide +kernel
theorem dJ6_compareTo_e8194_1 : decode cJ6_compareTo_e8194 1 = .ok (.getfield 205, 3) := by decide +kernel
theorem dJ6_compareTo_e8194_4 : decode cJ6_compareTo_e8194 4 = .ok (.aload_n 1, 1) := by decide +kernel
theorem dJ6_compareTo_e8194_5 : decode cJ6_compareTo_e8194 5 = .ok (.getfield 205, 3) := by decide +kernel
theorem dJ6_compareTo_e8194_8 : decode cJ6_compareTo_e8194 8 = .ok (.invokestatic 259, 3) := by decide +kernel
theorem dJ6_compareTo_e8194_11 : decode cJ6_compareTo_e8194 11 = .ok (.ireturn, 1) := by decide +kernel
theorem dJ6_compare_7cf53_0 : decode cJ6_compare_7cf53 0 = .ok (.iload_n 0, 1) := by decide +kernel
theorem dJ6_compare_7cf53_1 : decode cJ6_compare_7cf53 1 = .ok (.iload_n 1, 1) := by decide +kernel
theorem dJ6_compare_7cf53_2 : decode cJ6_compare_7cf53 2 = .ok (.if_icmp .ge 7, 3) := by decide +kernel
theorem dJ6_compare_7cf53_5 : decode cJ6_compare_7cf53 5 = .ok (.iconst (-1), 1) := by decide +kernel
theorem dJ6_compare_7cf53_6 : decode cJ6_compare_7cf53 6 = .ok (.goto 13, 3) := by decide +kernel
theorem dJ6_compare_7cf53_9 : decode cJ6_compare_7cf53 9 = .ok (.iload_n 0, 1) := by decide +kernel
theorem dJ6_compare_7cf53_10 : decode cJ6_compare_7cf53 10 = .ok (.iload_n 1, 1) := by decide +kernel
theorem dJ6_compare_7cf53_11 : decode cJ6_compare_7cf53 11 = .ok (.if_icmp .ne 7, 3) := by decide +kernel
theorem dJ6_compare_7cf53_14 : decode cJ6_compare_7cf53 14 = .ok (.iconst 0, 1) := by decide +kernel
theorem dJ6_compare_7cf53_15 : decode cJ6_compare_7cf53 15 = .ok (.goto 4, 3) := by decide +kernel
theorem dJ6_compare_7cf53_18 : decode cJ6_compare_7cf53 18 = .ok (.iconst 1, 1) := by decide +kernel
theorem dJ6_compare_7cf53_19 : decode cJ6_compare_7cf53 19 = .ok (.ireturn, 1) := by decide +kernel
theorem dJ6_bitCount_0f7a4_0 : decode cJ6_bitCount_0f7a4 0 = .ok (.iload_n 0, 1) := by decide +kernel
theorem dJ6_bitCount_0f7a4_1 : decode cJ6_bitCount_0f7a4 1 = .ok (.iload_n 0, 1) := by decide +kernel
theorem dJ6_bitCount_0f7a4_2 : decode cJ6_bitCount_0f7a4 2 = .ok (.iconst 1, 1) := by decide +kernel
theorem dJ6_bitCount_0f7a4_3 : decode cJ6_bitCount_0f7a4 3 = .ok (.iushr, 1) := by decide +kernel
theorem dJ6_bitCount_0f7a4_4 : decode cJ6_bitCount_0f7a4 4 = .ok (.ldc_w 265, 3) := by decide +kernel
theorem dJ6_bitCount_0f7a4_7 : decode cJ6_bitCount_0f7a4 7 = .ok (.iand, 1) := by decide +kernel
theorem dJ6_bitCount_0f7a4_8 : decode cJ6_bitCount_0f7a4 8 = .ok (.isub, 1) := by decide +kernel
theorem dJ6_bitCount_0f7a4_9 : decode cJ6_bitCount_0f7a4 9 = .ok (.istore_n 0, 1) := by decide +kernel
theorem dJ6_bitCount_0f7a4_10 : decode cJ6_bitCount_0f7a4 10 = .ok (.iload_n 0, 1) := by decide +kernel
theorem dJ6_bitCount_0f7a4_11 : decode cJ6_bitCount_0f7a4 11 = .ok (.ldc_w 266, 3) := by decide +kernel
theorem dJ6_bitCount_0f7a4_14 : decode cJ6_bitCount_0f7a4 14 = .ok (.iand, 1) := by decide +kernel
theorem dJ6_bitCount_0f7a4_15 : decode cJ6_bitCount_0f7a4 15 = .ok (.iload_n 0, 1) := by decide +kernel
theorem dJ6_bitCount_0f7a4_16 : decode cJ6_bitCount_0f7a4 16 = .ok (.iconst 2, 1) := by decide +kernel
theorem dJ6_bitCount_0f7a4_17 : decode cJ6_bitCount_0f7a4 17 = .ok (.iushr, 1) := by decide +kernel
theorem dJ6_bitCount_0f7a4_18 : decode cJ6_bitCount_0f7a4 18 = .ok (.ldc_w 266, 3) := by decide +kernel
theorem dJ6_bitCount_0f7a4_21 : decode cJ6_bitCount_0f7a4 21 = .ok (.iand, 1) := by decide +kernel
theorem dJ6_bitCount_0f7a4_22 : decode cJ6_bitCount_0f7a4 22 = .ok (.iadd, 1) := by decide +kernel
theorem dJ6_bitCount_0f7a4_23 : decode cJ6_bitCount_0f7a4 23 = .ok (.istore_n 0, 1) := by decide +kernel
theorem dJ6_bitCount_0f7a4_24 : decode cJ6_bitCount_0f7a4 24 = .ok (.iload_n 0, 1) := by decide +kernel
theorem dJ6_bitCount_0f7a4_25 : decode cJ6_bitCount_0f7a4 25 = .ok (.iload_n 0, 1) := by decide +kernel
theorem dJ6_bitCount_0f7a4_26 : decode cJ6_bitCount_0f7a4 26 = .ok (.iconst 4, 1) := by decide +kernel
theorem dJ6_bitCount_0f7a4_27 : decode cJ6_bitCount_0f7a4 27 = .ok (.iushr, 1) := by decide +kernel
theorem dJ6_bitCount_0f7a4_28 : decode cJ6_bitCount_0f7a4 28 = .ok (.iadd, 1) := by decide +kernel
theorem dJ6_bitCount_0f7a4_29 : decode cJ6_bitCount_0f7a4 29 = .ok (.ldc_w 267, 3) := by decide +kernel
theorem dJ6_bitCount_0f7a4_32 : decode cJ6_bitCount_0f7a4 32 = .ok (.iand, 1) := by decide +kernel
theorem dJ6_bitCount_0f7a4_33 : decode cJ6_bitCount_0f7a4 33 = .ok (.istore_n 0, 1) := by decide +kernel
theorem dJ6_bitCount_0f7a4_34 : decode cJ6_bitCount_0f7a4 34 = .ok (.iload_n 0, 1) := by decide +kernel
theorem dJ6_bitCount_0f7a4_35 : decode cJ6_bitCount_0f7a4 35 = .ok (.iload_n 0, 1) := by decide +kernel
theorem dJ6_bitCount_0f7a4_36 : decode cJ6_bitCount_0f7a4 36 = .ok (.bipush 8, 2) := by decide +kernel
theorem dJ6_bitCount_0f7a4_38 : decode cJ6_bitCount_0f7a4 38 = .ok (.iushr, 1) := by decide +kernel
theorem dJ6_bitCount_0f7a4_39 : decode cJ6_bitCount_0f7a4 39 = .ok (.iadd, 1) := by decide +kernel
theorem dJ6_bitCount_0f7a4_40 : decode cJ6_bitCount_0f7a4 40 = .ok (.istore_n 0, 1) := by decide +kernel
theorem dJ6_bitCount_0f7a4_41 : decode cJ6_bitCount_0f7a4 41 = .ok (.iload_n 0, 1) := by decide +kernel
theorem dJ6_bitCount_0f7a4_42 : decode cJ6_bitCount_0f7a4 42 = .ok (.iload_n 0, 1) := by decide +kernel
theorem dJ6_bitCount_0f7a4_43 : decode cJ6_bitCount_0f7a4 43 = .ok (.bipush 16, 2) := by decide +kernel
theorem dJ6_bitCount_0f7a4_45 : decode cJ6_bitCount_0f7a4 45 = .ok (.iushr, 1) := by decide +kernel
theorem dJ6_bitCount_0f7a4_46 : decode cJ6_bitCount_0f7a4 46 = .ok (.iadd, 1) := by decide +kernel
theorem dJ6_bitCount_0f7a4_47 : decode cJ6_bitCount_0f7a4 47 = .ok (.istore_n 0, 1) := by decide +kernel
theorem dJ6_bitCount_0f7a4_48 : decode cJ6_bitCount_0f7a4 48 = .ok (.iload_n 0, 1) := by decide +kernel
theorem dJ6_bitCount_0f7a4_49 : decode cJ6_bitCount_0f7a4 49 = .ok (.bipush 63, 2) := by decide +kernel
theorem dJ6_bitCount_0f7a4_51 : decode cJ6_bitCount_0f7a4 51 = .ok (.iand, 1) := by decide +kernel
theorem dJ6_bitCount_0f7a4_52 : decode cJ6_bitCount_0f7a4 52 = .ok (.ireturn, 1) := by decide +kernel
theorem dJ6_compareTo_e47da_0 : decode cJ6_compareTo_e47da 0 = .ok (.aload_n 0, 1) := by decide +kernel
theorem dJ6_compareTo_e47da_1 : decode cJ6_compareTo_e47da 1 = .ok (.aload_n 1, 1) := by decide +kernel
theorem dJ6_compareTo_e47da_2 : decode cJ6_compareTo_e47da 2 = .ok (.checkcast 1, 3) := by decide +kernel
theorem dJ6_compareTo_e47da_5 : decode cJ6_compareTo_e47da 5 = .ok (.invokevirtual 284, 3) := by decide +kernel
theorem dJ6_compareTo_e47da_8 : decode cJ6_compareTo_e47da 8 = .ok (.ireturn, 1) := by decide +kernel
theorem dJ9_max_7cf53_0 : decode cJ9_max_7cf53 0 = .ok (.iload_n 0, 1) := by decide +kernel
theorem dJ9_max_7cf53_1 : decode cJ9_max_7cf53 1 = .ok (.iload_n 1, 1) := by decide +kernel
theorem dJ9_max_7cf53_2 : decode cJ9_max_7cf53 2 = .ok (.if_icmp .lt 7, 3) := by decide +kernel
theorem dJ9_max_7cf53_5 : decode cJ9_max_7cf53 5 = .ok (.iload_n 0, 1) := by decide +kernel
theorem dJ9_max_7cf53_6 : decode cJ9_max_7cf53 6 = .ok (.goto 4, 3) := by decide +kernel
theorem dJ9_max_7cf53_9 : decode cJ9_max_7cf53 9 = .ok (.iload_n 1, 1) := by decide +kernel
theorem dJ9_max_7cf53_10 : decode cJ9_max_7cf53 10 = .ok (.ireturn, 1) := by decide +kernel
theorem dJ9_min_7cf53_0 : decode cJ9_min_7cf53 0 = .ok (.iload_n 0, 1) := by decide +kernel
theorem dJ9_min_7cf53_1 : decode cJ9_min_7cf53 1 = .ok (.iload_n 1, 1) := by decide +kernel
theorem dJ9_min_7cf53_2 : decode cJ9_min_7cf53 2 = .ok (.if_icmp .gt 7, 3) := by decide +kernel
theorem dJ9_min_7cf53_5 : decode cJ9_min_7cf53 5 = .ok (.iload_n 0, 1) := by decide +kernel
theorem dJ9_min_7cf53_6 : decode cJ9_min_7cf53 6 = .ok (.goto 4, 3) := by decide +kernel
theorem dJ9_min_7cf53_9 : decode cJ9_min_7cf53 9 = .ok (.iload_n 1, 1) := by decide +kernel
theorem dJ9_min_7cf53_10 : decode cJ9_min_7cf53 10 = .ok (.ireturn, 1) := by decide +kernel
theorem dJ0_init_81219_0 : decode cJ0_init_81219 0 = .ok (.aload_n 0, 1) := by decide +kernel
theorem dJ0_init_81219_1 : decode cJ0_init_81219 1 = .ok (.aload_n 1, 1) := by decide +kernel
theorem dJ0_init_81219_2 : decode cJ0_init_81219 2 = .ok (.aconst_null, 1) := by decide +kernel
theorem dJ0_init_81219_3 : decode cJ0_init_81219 3 = .ok (.invokespecial 489, 3) := by decide +kernel
theorem dJ0_init_81219_6 : decode cJ0_init_81219 6 = .ok (.return_, 1) := by decide +kernel
theorem dJ0_length_8abf5_0 : decode cJ0_length_8abf5 0 = .ok (.aload_n 0, 1) := by decide +kernel
theorem dJ0_length_8abf5_1 : decode cJ0_length_8abf5 1 = .ok (.getfield 9, 3) := by decide +kernel
theorem dJ0_length_8abf5_4 : decode cJ0_length_8abf5 4 = .ok (.arraylength, 1) := by decide +kernel
theorem dJ0_length_8abf5_5 : decode cJ0_length_8abf5 5 = .ok (.aload_n 0, 1) := by decide +kernel
theorem dJ0_length_8abf5_6 : decode cJ0_length_8abf5 6 = .ok (.invokevirtual 335, 3) := by decide +kernel
theorem dJ0_length_8abf5_9 : decode cJ0_length_8abf5 9 = .ok (.ishr, 1) := by decide +kernel
theorem dJ0_length_8abf5_10 : decode cJ0_length_8abf5 10 = .ok (.ireturn, 1) := by decide +kernel
theorem dJ0_charAt_5068e_0 : decode cJ0_charAt_5068e 0 = .ok (.aload_n 0, 1) := by decide +kernel
theorem dJ0_charAt_5068e_1 : decode cJ0_charAt_5068e 1 = .ok (.invokevirtual 492, 3) := by decide +kernel
theorem dJ0_charAt_5068e_4 : decode cJ0_charAt_5068e 4 = .ok (.ifCond .eq 12, 3) := by decide +kernel
theorem dJ0_charAt_5068e_7 : decode cJ0_charAt_5068e 7 = .ok (.aload_n 0, 1) := by decide +kernel
theorem dJ0_charAt_5068e_8 : decode cJ0_charAt_5068e 8 = .ok (.getfield 9, 3) := by decide +kernel
theorem dJ0_charAt_5068e_11 : decode cJ0_charAt_5068e 11 = .ok (.iload_n 1, 1) := by decide +kernel
theorem dJ0_charAt_5068e_12 : decode cJ0_charAt_5068e 12 = .ok (.invokestatic 495, 3) := by decide +kernel
theorem dJ0_charAt_5068e_15 : decode cJ0_charAt_5068e 15 = .ok (.ireturn, 1) := by decide +kernel
theorem dJ0_charAt_5068e_16 : decode cJ0_charAt_5068e 16 = .ok (.aload_n 0, 1) := by decide +kernel
theorem dJ0_charAt_5068e_17 : decode cJ0_charAt_5068e 17 = .ok (.getfield 9, 3) := by decide +kernel
theorem dJ0_charAt_5068e_20 : decode cJ0_charAt_5068e 20 = .ok (.iload_n 1, 1) := by decide +kernel
theorem dJ0_charAt_5068e_21 : decode cJ0_charAt_5068e 21 = .ok (.invokestatic 498, 3) := by decide +kernel
theorem dJ0_charAt_5068e_24 : decode cJ0_charAt_5068e 24 = .ok (.ireturn, 1) := by decide +kernel
theorem dJ0_getBytes_840e7_0 : decode cJ0_getBytes_840e7 0 = .ok (.aload_n 0, 1) := by decide +kernel
theorem dJ0_getBytes_840e7_1 : decode cJ0_getBytes_840e7 1 = .ok (.invokevirtual 335, 3) := by decide +kernel
theorem dJ0_getBytes_840e7_4 : decode cJ0_getBytes_840e7 4 = .ok (.iload_n 3, 1) := by decide +kernel
theorem dJ0_getBytes_840e7_5 : decode cJ0_getBytes_840e7 5 = .ok (.if_icmp .ne 23, 3) := by decide +kernel
theorem dJ0_getBytes_840e7_8 : decode cJ0_getBytes_840e7 8 = .ok (.aload_n 0, 1) := by decide +kernel
theorem dJ0_getBytes_840e7_9 : decode cJ0_getBytes_840e7 9 = .ok (.getfield 9, 3) := by decide +kernel
theorem dJ0_getBytes_840e7_12 : decode cJ0_getBytes_840e7 12 = .ok (.iconst 0, 1) := by decide +kernel
theorem dJ0_getBytes_840e7_13 : decode cJ0_getBytes_840e7 13 = .ok (.aload_n 1, 1) := by decide +kernel
theorem dJ0_getBytes_840e7_14 : decode cJ0_getBytes_840e7 14 = .ok (.iload_n 2, 1) := by decide +kernel
theorem dJ0_getBytes_840e7_15 : decode cJ0_getBytes_840e7 15 = .ok (.iload_n 3, 1) := by decide +kernel
theorem dJ0_getBytes_840e7_16 : decode cJ0_getBytes_840e7 16 = .ok (.ishl, 1) := by decide +kernel
theorem dJ0_getBytes_840e7_17 : decode cJ0_getBytes_840e7 17 = .ok (.aload_n 0, 1) := by decide +kernel
theorem dJ0_getBytes_840e7_18 : decode cJ0_getBytes_840e7 18 = .ok (.getfield 9, 3) := by decide +kernel
theorem dJ0_getBytes_840e7_21 : decode cJ0_getBytes_840e7 21 = .ok (.arraylength, 1) := by decide +kernel
theorem dJ0_getBytes_840e7_22 : decode cJ0_getBytes_840e7 22 = .ok (.invokestatic 212, 3) := by decide +kernel
theorem dJ0_getBytes_840e7_25 : decode cJ0_getBytes_840e7 25 = .ok (.goto 18, 3) := by decide +kernel
theorem dJ0_getBytes_840e7_28 : decode cJ0_getBytes_840e7 28 = .ok (.aload_n 0, 1) := by decide +kernel
theorem dJ0_getBytes_840e7_29 : decode cJ0_getBytes_840e7 29 = .ok (.getfield 9, 3) := by decide +kernel
theorem dJ0_getBytes_840e7_32 : decode cJ0_getBytes_840e7 32 = .ok (.iconst 0, 1) := by decide +kernel
theorem dJ0_getBytes_840e7_33 : decode cJ0_getBytes_840e7 33 = .ok (.aload_n 1, 1) := by decide +kernel
theorem dJ0_getBytes_840e7_34 : decode cJ0_getBytes_840e7 34 = .ok (.iload_n 2, 1) := by decide +kernel
theorem dJ0_getBytes_840e7_35 : decode cJ0_getBytes_840e7 35 = .ok (.aload_n 0, 1) := by decide +kernel
theorem dJ0_getBytes_840e7_36 : decode cJ0_getBytes_840e7 36 = .ok (.getfield 9, 3) := by decide +kernel
theorem dJ0_getBytes_840e7_39 : decode cJ0_getBytes_840e7 39 = .ok (.arraylength, 1) := by decide +kernel
theorem dJ0_getBytes_840e7_40 : decode cJ0_getBytes_840e7 40 = .ok (.invokestatic 106, 3) := by decide +kernel
theorem dJ0_getBytes_840e7_43 : decode cJ0_getBytes_840e7 43 = .ok (.return_, 1) := by decide +kernel
theorem dJ0_init_db425_0 : decode cJ0_init_db425 0 = .ok (.aload_n 0, 1) := by decide +kernel
theorem dJ0_init_db425_1 : decode cJ0_init_db425 1 = .ok (.invokespecial 1, 3) := by decide +kernel
theorem dJ0_init_db425_4 : decode cJ0_init_db425 4 = .ok (.aload_n 1, 1) := by decide +kernel
theorem dJ0_init_db425_5 : decode cJ0_init_db425 5 = .ok (.invokevirtual 552, 3) := by decide +kernel
theorem dJ0_init_db425_8 : decode cJ0_init_db425 8 = .ok (.astore_n 3, 1) := by decide +kernel
theorem dJ0_init_db425_9 : decode cJ0_init_db425 9 = .ok (.aload_n 1, 1) := by decide +kernel
theorem dJ0_init_db425_10 : decode cJ0_init_db425 10 = .ok (.invokevirtual 549, 3) := by decide +kernel
theorem dJ0_init_db425_13 : decode cJ0_init_db425 13 = .ok (.istore 4, 2) := by decide +kernel
theorem dJ0_init_db425_15 : decode cJ0_init_db425 15 = .ok (.aload_n 1, 1) := by decide +kernel
theorem dJ0_init_db425_16 : decode cJ0_init_db425 16 = .ok (.invokevirtual 1047, 3) := by decide +kernel
theorem dJ0_init_db425_19 : decode cJ0_init_db425 19 = .ok (.ifCond .eq 22, 3) := by decide +kernel
theorem dJ0_init_db425_22 : decode cJ0_init_db425 22 = .ok (.aload_n 0, 1) := by decide +kernel
theorem dJ0_init_db425_23 : decode cJ0_init_db425 23 = .ok (.iconst 0, 1) := by decide +kernel
theorem dJ0_init_db425_24 : decode cJ0_init_db425 24 = .ok (.putfield 15, 3) := by decide +kernel
theorem dJ0_init_db425_27 : decode cJ0_init_db425 27 = .ok (.aload_n 0, 1) := by decide +kernel
theorem dJ0_init_db425_28 : decode cJ0_init_db425 28 = .ok (.aload_n 3, 1) := by decide +kernel
theorem dJ0_init_db425_29 : decode cJ0_init_db425 29 = .ok (.iconst 0, 1) := by decide +kernel
theorem dJ0_init_db425_30 : decode cJ0_init_db425 30 = .ok (.iload 4, 2) := by decide +kernel
theorem dJ0_init_db425_32 : decode cJ0_init_db425 32 = .ok (.invokestatic 54, 3) := by decide +kernel
theorem dJ0_init_db425_35 : decode cJ0_init_db425 35 = .ok (.putfield 9, 3) := by decide +kernel
theorem dJ0_init_db425_38 : decode cJ0_init_db425 38 = .ok (.goto 59, 3) := by decide +kernel
theorem dJ0_init_db425_41 : decode cJ0_init_db425 41 = .ok (.getstatic 38, 3) := by decide +kernel
theorem dJ0_init_db425_44 : decode cJ0_init_db425 44 = .ok (.ifCond .eq 35, 3) := by decide +kernel
theorem dJ0_init_db425_47 : decode cJ0_init_db425 47 = .ok (.aload_n 1, 1) := by decide +kernel
theorem dJ0_init_db425_48 : decode cJ0_init_db425 48 = .ok (.getfield 1048, 3) := by decide +kernel
theorem dJ0_init_db425_51 : decode cJ0_init_db425 51 = .ok (.ifCond .eq 28, 3) := by decide +kernel
theorem dJ0_init_db425_54 : decode cJ0_init_db425 54 = .ok (.aload_n 0, 1) := by decide +kernel
theorem dJ0_init_db425_55 : decode cJ0_init_db425 55 = .ok (.aload_n 3, 1) := by decide +kernel
theorem dJ0_init_db425_56 : decode cJ0_init_db425 56 = .ok (.iconst 0, 1) := by decide +kernel
theorem dJ0_init_db425_57 : decode cJ0_init_db425 57 = .ok (.iload 4, 2) := by decide +kernel
theorem dJ0_init_db425_59 : decode cJ0_init_db425 59 = .ok (.invokestatic 1051, 3) := by decide +kernel
theorem dJ0_init_db425_62 : decode cJ0_init_db425 62 = .ok (.putfield 9, 3) := by decide +kernel
theorem dJ0_init_db425_65 : decode cJ0_init_db425 65 = .ok (.aload_n 0, 1) := by decide +kernel
theorem dJ0_init_db425_66 : decode cJ0_init_db425 66 = .ok (.aload_n 0, 1) := by decide +kernel
theorem dJ0_init_db425_67 : decode cJ0_init_db425 67 = .ok (.getfield 9, 3) := by decide +kernel
theorem dJ0_init_db425_70 : decode cJ0_init_db425 70 = .ok (.iload 4, 2) := by decide +kernel
theorem dJ0_init_db425_72 : decode cJ0_init_db425 72 = .ok (.invokestatic 47, 3) := by decide +kernel
theorem dJ0_init_db425_75 : decode cJ0_init_db425 75 = .ok (.putfield 15, 3) := by decide +kernel
theorem dJ0_init_db425_78 : decode cJ0_init_db425 78 = .ok (.return_, 1) := by decide +kernel
theorem dJ0_init_db425_79 : decode cJ0_init_db425 79 = .ok (.aload_n 0, 1) := by decide +kernel
theorem dJ0_init_db425_80 : decode cJ0_init_db425 80 = .ok (.iconst 1, 1) := by decide +kernel
theorem dJ0_init_db425_81 : decode cJ0_init_db425 81 = .ok (.putfield 15, 3) := by decide +kernel
theorem dJ0_init_db425_84 : decode cJ0_init_db425 84 = .ok (.aload_n 0, 1) := by decide +kernel
theorem dJ0_init_db425_85 : decode cJ0_init_db425 85 = .ok (.aload_n 3, 1) := by decide +kernel
theorem dJ0_init_db425_86 : decode cJ0_init_db425 86 = .ok (.iconst 0, 1) := by decide +kernel
theorem dJ0_init_db425_87 : decode cJ0_init_db425 87 = .ok (.iload 4, 2) := by decide +kernel
theorem dJ0_init_db425_89 : decode cJ0_init_db425 89 = .ok (.iconst 1, 1) := by decide +kernel
theorem dJ0_init_db425_90 : decode cJ0_init_db425 90 = .ok (.ishl, 1) := by decide +kernel
theorem dJ0_init_db425_91 : decode cJ0_init_db425 91 = .ok (.invokestatic 54, 3) := by decide +kernel
theorem dJ0_init_db425_94 : decode cJ0_init_db425 94 = .ok (.putfield 9, 3) := by decide +kernel
theorem dJ0_init_db425_97 : decode cJ0_init_db425 97 = .ok (.return_, 1) := by decide +kernel
theorem dJ0_coder_7d493_0 : decode cJ0_coder_7d493 0 = .ok (.getstatic 38, 3) := by decide +kernel
theorem dJ0_coder_7d493_3 : decode cJ0_coder_7d493 3 = .ok (.ifCond .eq 10, 3) := by decide +kernel
theorem dJ0_coder_7d493_6 : decode cJ0_coder_7d493 6 = .ok (.aload_n 0, 1) := by decide +kernel
theorem dJ0_coder_7d493_7 : decode cJ0_coder_7d493 7 = .ok (.getfield 15, 3) := by decide +kernel
theorem dJ0_coder_7d493_10 : decode cJ0_coder_7d493 10 = .ok (.goto 4, 3) := by decide +kernel
theorem dJ0_coder_7d493_13 : decode cJ0_coder_7d493 13 = .ok (.iconst 1, 1) := by decide +kernel
theorem dJ0_coder_7d493_14 : decode cJ0_coder_7d493 14 = .ok (.ireturn, 1) := by decide +kernel
theorem dJ0_isLatin1_aae02_0 : decode cJ0_isLatin1_aae02 0 = .ok (.getstatic 38, 3) := by decide +kernel
theorem dJ0_isLatin1_aae02_3 : decode cJ0_isLatin1_aae02 3 = .ok (.ifCond .eq 14, 3) := by decide +kernel
theorem dJ0_isLatin1_aae02_6 : decode cJ0_isLatin1_aae02 6 = .ok (.aload_n 0, 1) := by decide +kernel
theorem dJ0_isLatin1_aae02_7 : decode cJ0_isLatin1_aae02 7 = .ok (.getfield 15, 3) := by decide +kernel
theorem dJ0_isLatin1_aae02_10 : decode cJ0_isLatin1_aae02 10 = .ok (.ifCond .ne 7, 3) := by decide +kernel
theorem dJ0_isLatin1_aae02_13 : decode cJ0_isLatin1_aae02 13 = .ok (.iconst 1, 1) := by decide +kernel
theorem dJ0_isLatin1_aae02_14 : decode cJ0_isLatin1_aae02 14 = .ok (.goto 4, 3) := by decide +kernel
theorem dJ0_isLatin1_aae02_17 : decode cJ0_isLatin1_aae02 17 = .ok (.iconst 0, 1) := by decide +kernel
theorem dJ0_isLatin1_aae02_18 : decode cJ0_isLatin1_aae02 18 = .ok (.ireturn, 1) := by decide +kernel
theorem dJ0_checkIndex_df160_0 : decode cJ0_checkIndex_df160 0 = .ok (.iload_n 0, 1) := by decide +kernel
theorem dJ0_checkIndex_df160_1 : decode cJ0_checkIndex_df160 1 = .ok (.iload_n 1, 1) := by decide +kernel
theorem dJ0_checkIndex_df160_2 : decode cJ0_checkIndex_df160 2 = .ok (.getstatic 1053, 3) := by decide +kernel
theorem dJ0_checkIndex_df160_5 : decode cJ0_checkIndex_df160 5 = .ok (.invokestatic 1059, 3) := by decide +kernel
theorem dJ0_checkIndex_df160_8 : decode cJ0_checkIndex_df160 8 = .ok (.pop, 1) := by decide +kernel
theorem dJ0_checkIndex_df160_9 : decode cJ0_checkIndex_df160 9 = .ok (.return_, 1) := by decide +kernel
theorem dJ4_init_da8c8_0 : decode cJ4_init_da8c8 0 = .ok (.aload_n 0, 1) := by decide +kernel
theorem dJ4_init_da8c8_1 : decode cJ4_init_da8c8 1 = .ok (.bipush 16, 2) := by decide +kernel
theorem dJ4_init_da8c8_3 : decode cJ4_init_da8c8 3 = .ok (.invokespecial 1, 3) := by decide +kernel
theorem dJ4_init_da8c8_6 : decode cJ4_init_da8c8 6 = .ok (.return_, 1) := by decide +kernel
theorem dJ4_init_a7421_0 : decode cJ4_init_a7421 0 = .ok (.aload_n 0, 1) := by decide +kernel
theorem dJ4_init_a7421_1 : decode cJ4_init_a7421 1 = .ok (.aload_n 1, 1) := by decide +kernel
theorem dJ4_init_a7421_2 : decode cJ4_init_a7421 2 = .ok (.invokespecial 7, 3) := by decide +kernel
theorem dJ4_init_a7421_5 : decode cJ4_init_a7421 5 = .ok (.return_, 1) := by decide +kernel
theorem dJ4_append_15ec4_0 : decode cJ4_append_15ec4 0 = .ok (.aload_n 0, 1) := by decide +kernel
theorem dJ4_append_15ec4_1 : decode cJ4_append_15ec4 1 = .ok (.aload_n 1, 1) := by decide +kernel
theorem dJ4_append_15ec4_2 : decode cJ4_append_15ec4 2 = .ok (.invokespecial 29, 3) := by decide +kernel
theorem dJ4_append_15ec4_5 : decode cJ4_append_15ec4 5 = .ok (.pop, 1) := by decide +kernel
theorem dJ4_append_15ec4_6 : decode cJ4_append_15ec4 6 = .ok (.aload_n 0, 1) := by decide +kernel
theorem dJ4_append_15ec4_7 : decode cJ4_append_15ec4 7 = .ok (.areturn, 1) := by decide +kernel
theorem dJ4_append_cf468_0 : decode cJ4_append_cf468 0 = .ok (.aload_n 0, 1) := by decide +kernel
theorem dJ4_append_cf468_1 : decode cJ4_append_cf468 1 = .ok (.iload_n 1, 1) := by decide +kernel
theorem dJ4_append_cf468_2 : decode cJ4_append_cf468 2 = .ok (.invokespecial 50, 3) := by decide +kernel
theorem dJ4_append_cf468_5 : decode cJ4_append_cf468 5 = .ok (.pop, 1) := by decide +kernel
theorem dJ4_append_cf468_6 : decode cJ4_append_cf468 6 = .ok (.aload_n 0, 1) := by decide +kernel
theorem dJ4_append_cf468_7 : decode cJ4_append_cf468 7 = .ok (.areturn, 1) := by decide +kernel
theorem dJ4_append_bf812_0 : decode cJ4_append_bf812 0 = .ok (.aload_n 0, 1) := by decide +kernel
theorem dJ4_append_bf812_1 : decode cJ4_append_bf812 1 = .ok (.iload_n 1, 1) := by decide +kernel
theorem dJ4_append_bf812_2 : decode cJ4_append_bf812 2 = .ok (.invokespecial 53, 3) := by decide +kernel
theorem dJ4_append_bf812_5 : decode cJ4_append_bf812 5 = .ok (.pop, 1) := by decide +kernel
theorem dJ4_append_bf812_6 : decode cJ4_append_bf812 6 = .ok (.aload_n 0, 1) := by decide +kernel
theorem dJ4_append_bf812_7 : decode cJ4_append_bf812 7 = .ok (.areturn, 1) := by decide +kernel
theorem dJ4_toString_0e30d_0 : decode cJ4_toString_0e30d 0 = .ok (.new 18, 3) := by decide +kernel
theorem dJ4_toString_0e30d_3 : decode cJ4_toString_0e30d 3 = .ok (.dup, 1) := by decide +kernel
theorem dJ4_toString_0e30d_4 : decode cJ4_toString_0e30d 4 = .ok (.aload_n 0, 1) := by decide +kernel
theorem dJ4_toString_0e30d_5 : decode cJ4_toString_0e30d 5 = .ok (.invokespecial 137, 3) := by decide +kernel
theorem dJ4_toString_0e30d_8 : decode cJ4_toString_0e30d 8 = .ok (.areturn, 1) := by decide +kernel
theorem dJ4_append_cf1ce_0 : decode cJ4_append_cf1ce 0 = .ok (.aload_n 0, 1) := by decide +kernel
theorem dJ4_append_cf1ce_1 : decode cJ4_append_cf1ce 1 = .ok (.aload_n 1, 1) := by decide +kernel
theorem dJ4_append_cf1ce_2 : decode cJ4_append_cf1ce 2 = .ok (.invokevirtual 23, 3) := by decide +kernel
theorem dJ4_append_cf1ce_5 : decode cJ4_append_cf1ce 5 = .ok (.areturn, 1) := by decide +kernel
theorem dJ4_length_8abf5_0 : decode cJ4_length_8abf5 0 = .ok (.aload_n 0, 1) := by decide +kernel
theorem dJ4_length_8abf5_1 : decode cJ4_length_8abf5 1 = .ok (.invokespecial 343, 3) := by decide +kernel
theorem dJ4_length_8abf5_4 : decode cJ4_length_8abf5 4 = .ok (.ireturn, 1) := by decide +kernel
theorem dJ1_charAt_3b067_0 : decode cJ1_charAt_3b067 0 = .ok (.iload_n 1, 1) := by decide +kernel
theorem dJ1_charAt_3b067_1 : decode cJ1_charAt_3b067 1 = .ok (.aload_n 0, 1) := by decide +kernel
theorem dJ1_charAt_3b067_2 : decode cJ1_charAt_3b067 2 = .ok (.arraylength, 1) := by decide +kernel
theorem dJ1_charAt_3b067_3 : decode cJ1_charAt_3b067 3 = .ok (.invokestatic 9, 3) := by decide +kernel
theorem dJ1_charAt_3b067_6 : decode cJ1_charAt_3b067 6 = .ok (.aload_n 0, 1) := by decide +kernel
theorem dJ1_charAt_3b067_7 : decode cJ1_charAt_3b067 7 = .ok (.iload_n 1, 1) := by decide +kernel
theorem dJ1_charAt_3b067_8 : decode cJ1_charAt_3b067 8 = .ok (.baload, 1) := by decide +kernel
theorem dJ1_charAt_3b067_9 : decode cJ1_charAt_3b067 9 = .ok (.sipush 255, 3) := by decide +kernel
theorem dJ1_charAt_3b067_12 : decode cJ1_charAt_3b067 12 = .ok (.iand, 1) := by decide +kernel
theorem dJ1_charAt_3b067_13 : decode cJ1_charAt_3b067 13 = .ok (.i2c, 1) := by decide +kernel
theorem dJ1_charAt_3b067_14 : decode cJ1_charAt_3b067 14 = .ok (.ireturn, 1) := by decide +kernel
theorem dJ1_canEncode_fc78d_0 : decode cJ1_canEncode_fc78d 0 = .ok (.iload_n 0, 1) := by decide +kernel
theorem dJ1_canEncode_fc78d_1 : decode cJ1_canEncode_fc78d 1 = .ok (.sipush 255, 3) := by decide +kernel
theorem dJ1_canEncode_fc78d_4 : decode cJ1_canEncode_fc78d 4 = .ok (.if_icmp .gt 7, 3) := by decide +kernel
theorem dJ1_canEncode_fc78d_7 : decode cJ1_canEncode_fc78d 7 = .ok (.iconst 1, 1) := by decide +kernel
theorem dJ1_canEncode_fc78d_8 : decode cJ1_canEncode_fc78d 8 = .ok (.goto 4, 3) := by decide +kernel
theorem dJ1_canEncode_fc78d_11 : decode cJ1_canEncode_fc78d 11 = .ok (.iconst 0, 1) := by decide +kernel
theorem dJ1_canEncode_fc78d_12 : decode cJ1_canEncode_fc78d 12 = .ok (.ireturn, 1) := by decide +kernel
theorem dJxa1e45_init_da8c8_0 : decode cJxa1e45_init_da8c8 0 = .ok (.aload_n 0, 1) := by decide +kernel
theorem dJxa1e45_init_da8c8_1 : decode cJxa1e45_init_da8c8 1 = .ok (.invokespecial 1, 3) := by decide +kernel
theorem dJxa1e45_init_da8c8_4 : decode cJxa1e45_init_da8c8 4 = .ok (.return_, 1) := by decide +kernel
theorem dJxc12de_init_da8c8_0 : decode cJxc12de_init_da8c8 0 = .ok (.aload_n 0, 1) := by decide +kernel
theorem dJxc12de_init_da8c8_1 : decode cJxc12de_init_da8c8 1 = .ok (.invokespecial 1, 3) := by decide +kernel
theorem dJxc12de_init_da8c8_4 : decode cJxc12de_init_da8c8 4 = .ok (.aload_n 0, 1) := by decide +kernel
theorem dJxc12de_init_da8c8_5 : decode cJxc12de_init_da8c8 5 = .ok (.iconst 0, 1) := by decide +kernel
theorem dJxc12de_init_da8c8_6 : decode cJxc12de_init_da8c8 6 = .ok (.putfield 7, 3) := by decide +kernel
theorem dJxc12de_init_da8c8_9 : decode cJxc12de_init_da8c8 9 = .ok (.return_, 1) := by decide +kernel
theorem dX9_init_0 : decode cX9_init 0 = .ok (.aload_n 0, 1) := by decide +kernel
theorem dX9_init_1 : decode cX9_init 1 = .ok (.invokespecial 1, 3) := by decide +kernel
theorem dX9_init_4 : decode cX9_init 4 = .ok (.return_, 1) := by decide +kernel
theorem dX10_init_0 : decode cX10_init 0 = .ok (.aload_n 0, 1) := by decide +kernel
theorem dX10_init_1 : decode cX10_init 1 = .ok (.invokespecial 1, 3) := by decide +kernel
theorem dX10_init_4 : decode cX10_init 4 = .ok (.return_, 1) := by decide +kernel
theorem dJx35411_init_45d68_0 : decode cJx35411_init_45d68 0 = .ok (.aload_n 0, 1) := by decide +kernel
theorem dJx35411_init_45d68_1 : decode cJx35411_init_45d68 1 = .ok (.aload_n 1, 1) := by decide +kernel
theorem dJx35411_init_45d68_2 : decode cJx35411_init_45d68 2 = .ok (.putfield 1, 3) := by decide +kernel
theorem dJx35411_init_45d68_5 : decode cJx35411_init_45d68 5 = .ok (.aload_n 0, 1) := by decide +kernel
theorem dJx35411_init_45d68_6 : decode cJx35411_init_45d68 6 = .ok (.invokespecial 7, 3) := by decide +kernel
theorem dJx35411_init_45d68_9 : decode cJx35411_init_45d68 9 = .ok (.aload_n 0, 1) := by decide +kernel
theorem dJx35411_init_45d68_10 : decode cJx35411_init_45d68 10 = .ok (.iconst (-1), 1) := by decide +kernel
theorem dJx35411_init_45d68_11 : decode cJx35411_init_45d68 11 = .ok (.putfield 13, 3) := by decide +kernel
theorem dJx35411_init_45d68_14 : decode cJx35411_init_45d68 14 = .ok (.aload_n 0, 1) := by decide +kernel
theorem dJx35411_init_45d68_15 : decode cJx35411_init_45d68 15 = .ok (.aload_n 0, 1) := by decide +kernel
theorem dJx35411_init_45d68_16 : decode cJx35411_init_45d68 16 = .ok (.getfield 1, 3) := by decide +kernel
theorem dJx35411_init_45d68_19 : decode cJx35411_init_45d68 19 = .ok (.getfield 17, 3) := by decide +kernel
theorem dJx35411_init_45d68_22 : decode cJx35411_init_45d68 22 = .ok (.putfield 22, 3) := by decide +kernel
theorem dJx35411_init_45d68_25 : decode cJx35411_init_45d68 25 = .ok (.return_, 1) := by decide +kernel
theorem dJx35411_hasNext_aae02_0 : decode cJx35411_hasNext_aae02 0 = .ok (.aload_n 0, 1) := by decide +kernel
theorem dJx35411_hasNext_aae02_1 : decode cJx35411_hasNext_aae02 1 = .ok (.getfield 25, 3) := by decide +kernel
theorem dJx35411_hasNext_aae02_4 : decode cJx35411_hasNext_aae02 4 = .ok (.aload_n 0, 1) := by decide +kernel
theorem dJx35411_hasNext_aae02_5 : decode cJx35411_hasNext_aae02 5 = .ok (.getfield 1, 3) := by decide +kernel
theorem dJx35411_hasNext_aae02_8 : decode cJx35411_hasNext_aae02 8 = .ok (.getfield 28, 3) := by decide +kernel
theorem dJx35411_hasNext_aae02_11 : decode cJx35411_hasNext_aae02 11 = .ok (.if_icmp .eq 7, 3) := by decide +kernel
theorem dJx35411_hasNext_aae02_14 : decode cJx35411_hasNext_aae02 14 = .ok (.iconst 1, 1) := by decide +kernel
theorem dJx35411_hasNext_aae02_15 : decode cJx35411_hasNext_aae02 15 = .ok (.goto 4, 3) := by decide +kernel
theorem dJx35411_hasNext_aae02_18 : decode cJx35411_hasNext_aae02 18 = .ok (.iconst 0, 1) := by decide +kernel
theorem dJx35411_hasNext_aae02_19 : decode cJx35411_hasNext_aae02 19 = .ok (.ireturn, 1) := by decide +kernel
theorem dJx35411_next_0502b_0 : decode cJx35411_next_0502b 0 = .ok (.aload_n 0, 1) := by decide +kernel
theorem dJx35411_next_0502b_1 : decode cJx35411_next_0502b 1 = .ok (.invokevirtual 31, 3) := by decide +kernel
theorem dJx35411_next_0502b_4 : decode cJx35411_next_0502b 4 = .ok (.aload_n 0, 1) := by decide +kernel
theorem dJx35411_next_0502b_5 : decode cJx35411_next_0502b 5 = .ok (.getfield 25, 3) := by decide +kernel
theorem dJx35411_next_0502b_8 : decode cJx35411_next_0502b 8 = .ok (.istore_n 1, 1) := by decide +kernel
theorem dJx35411_next_0502b_9 : decode cJx35411_next_0502b 9 = .ok (.iload_n 1, 1) := by decide +kernel
theorem dJx35411_next_0502b_10 : decode cJx35411_next_0502b 10 = .ok (.aload_n 0, 1) := by decide +kernel
theorem dJx35411_next_0502b_11 : decode cJx35411_next_0502b 11 = .ok (.getfield 1, 3) := by decide +kernel
theorem dJx35411_next_0502b_14 : decode cJx35411_next_0502b 14 = .ok (.getfield 28, 3) := by decide +kernel
theorem dJx35411_next_0502b_17 : decode cJx35411_next_0502b 17 = .ok (.if_icmp .lt 11, 3) := by decide +kernel
theorem dJx35411_next_0502b_20 : decode cJx35411_next_0502b 20 = .ok (.new 34, 3) := by decide +kernel
theorem dJx35411_next_0502b_23 : decode cJx35411_next_0502b 23 = .ok (.dup, 1) := by decide +kernel
theorem dJx35411_next_0502b_24 : decode cJx35411_next_0502b 24 = .ok (.invokespecial 36, 3) := by decide +kernel
theorem dJx35411_next_0502b_27 : decode cJx35411_next_0502b 27 = .ok (.athrow, 1) := by decide +kernel
theorem dJx35411_next_0502b_28 : decode cJx35411_next_0502b 28 = .ok (.aload_n 0, 1) := by decide +kernel
theorem dJx35411_next_0502b_29 : decode cJx35411_next_0502b 29 = .ok (.getfield 1, 3) := by decide +kernel
theorem dJx35411_next_0502b_32 : decode cJx35411_next_0502b 32 = .ok (.getfield 37, 3) := by decide +kernel
theorem dJx35411_next_0502b_35 : decode cJx35411_next_0502b 35 = .ok (.astore_n 2, 1) := by decide +kernel
theorem dJx35411_next_0502b_36 : decode cJx35411_next_0502b 36 = .ok (.iload_n 1, 1) := by decide +kernel
theorem dJx35411_next_0502b_37 : decode cJx35411_next_0502b 37 = .ok (.aload_n 2, 1) := by decide +kernel
theorem dJx35411_next_0502b_38 : decode cJx35411_next_0502b 38 = .ok (.arraylength, 1) := by decide +kernel
theorem dJx35411_next_0502b_39 : decode cJx35411_next_0502b 39 = .ok (.if_icmp .lt 11, 3) := by decide +kernel
theorem dJx35411_next_0502b_42 : decode cJx35411_next_0502b 42 = .ok (.new 41, 3) := by decide +kernel
theorem dJx35411_next_0502b_45 : decode cJx35411_next_0502b 45 = .ok (.dup, 1) := by decide +kernel
theorem dJx35411_next_0502b_46 : decode cJx35411_next_0502b 46 = .ok (.invokespecial 43, 3) := by decide +kernel
theorem dJx35411_next_0502b_49 : decode cJx35411_next_0502b 49 = .ok (.athrow, 1) := by decide +kernel
theorem dJx35411_next_0502b_50 : decode cJx35411_next_0502b 50 = .ok (.aload_n 0, 1) := by decide +kernel
theorem dJx35411_next_0502b_51 : decode cJx35411_next_0502b 51 = .ok (.iload_n 1, 1) := by decide +kernel
theorem dJx35411_next_0502b_52 : decode cJx35411_next_0502b 52 = .ok (.iconst 1, 1) := by decide +kernel
theorem dJx35411_next_0502b_53 : decode cJx35411_next_0502b 53 = .ok (.iadd, 1) := by decide +kernel
theorem dJx35411_next_0502b_54 : decode cJx35411_next_0502b 54 = .ok (.putfield 25, 3) := by decide +kernel
theorem dJx35411_next_0502b_57 : decode cJx35411_next_0502b 57 = .ok (.aload_n 2, 1) := by decide +kernel
theorem dJx35411_next_0502b_58 : decode cJx35411_next_0502b 58 = .ok (.aload_n 0, 1) := by decide +kernel
theorem dJx35411_next_0502b_59 : decode cJx35411_next_0502b 59 = .ok (.iload_n 1, 1) := by decide +kernel
theorem dJx35411_next_0502b_60 : decode cJx35411_next_0502b 60 = .ok (.dup_x1, 1) := by decide +kernel
theorem dJx35411_next_0502b_61 : decode cJx35411_next_0502b 61 = .ok (.putfield 13, 3) := by decide +kernel
theorem dJx35411_next_0502b_64 : decode cJx35411_next_0502b 64 = .ok (.aaload, 1) := by decide +kernel
theorem dJx35411_next_0502b_65 : decode cJx35411_next_0502b 65 = .ok (.areturn, 1) := by decide +kernel
theorem dJx35411_checkForComodification_da8c8_0 : decode cJx35411_checkForComodification_da8c8 0 = .ok (.aload_n 0, 1) := by decide +kernel
theorem dJx35411_checkForComodification_da8c8_1 : decode cJx35411_checkForComodification_da8c8 1 = .ok (.getfield 1, 3) := by decide +kernel
theorem dJx35411_checkForComodification_da8c8_4 : decode cJx35411_checkForComodification_da8c8 4 = .ok (.getfield 17, 3) := by decide +kernel
theorem dJx35411_checkForComodification_da8c8_7 : decode cJx35411_checkForComodification_da8c8 7 = .ok (.aload_n 0, 1) := by decide +kernel
theorem dJx35411_checkForComodification_da8c8_8 : decode cJx35411_checkForComodification_da8c8 8 = .ok (.getfield 22, 3) := by decide +kernel
theorem dJx35411_checkForComodification_da8c8_11 : decode cJx35411_checkForComodification_da8c8 11 = .ok (.if_icmp .eq 11, 3) := by decide +kernel
theorem dJx35411_checkForComodification_da8c8_14 : decode cJx35411_checkForComodification_da8c8 14 = .ok (.new 41, 3) := by decide +kernel
theorem dJx35411_checkForComodification_da8c8_17 : decode cJx35411_checkForComodification_da8c8 17 = .ok (.dup, 1) := by decide +kernel
theorem dJx35411_checkForComodification_da8c8_18 : decode cJx35411_checkForComodification_da8c8 18 = .ok (.invokespecial 43, 3) := by decide +kernel
theorem dJx35411_checkForComodification_da8c8_21 : decode cJx35411_checkForComodification_da8c8 21 = .ok (.athrow, 1) := by decide +kernel
theorem dJx35411_checkForComodification_da8c8_22 : decode cJx35411_checkForComodification_da8c8 22 = .ok (.return_, 1) := by decide +kernel
theorem dJx4a65c_init_da8c8_0 : decode cJx4a65c_init_da8c8 0 = .ok (.aload_n 0, 1) := by decide +kernel
theorem dJx4a65c_init_da8c8_1 : decode cJx4a65c_init_da8c8 1 = .ok (.invokespecial 1, 3) := by decide +kernel
theorem dJx4a65c_init_da8c8_4 : decode cJx4a65c_init_da8c8 4 = .ok (.aload_n 0, 1) := by decide +kernel
theorem dJx4a65c_init_da8c8_5 : decode cJx4a65c_init_da8c8 5 = .ok (.getstatic 39, 3) := by decide +kernel
theorem dJx4a65c_init_da8c8_8 : decode cJx4a65c_init_da8c8 8 = .ok (.putfield 9, 3) := by decide +kernel
theorem dJx4a65c_init_da8c8_11 : decode cJx4a65c_init_da8c8 11 = .ok (.return_, 1) := by decide +kernel
theorem dJx4a65c_grow_92f84_0 : decode cJx4a65c_grow_92f84 0 = .ok (.aload_n 0, 1) := by decide +kernel
theorem dJx4a65c_grow_92f84_1 : decode cJx4a65c_grow_92f84 1 = .ok (.getfield 9, 3) := by decide +kernel
theorem dJx4a65c_grow_92f84_4 : decode cJx4a65c_grow_92f84 4 = .ok (.arraylength, 1) := by decide +kernel
theorem dJx4a65c_grow_92f84_5 : decode cJx4a65c_grow_92f84 5 = .ok (.istore_n 2, 1) := by decide +kernel
theorem dJx4a65c_grow_92f84_6 : decode cJx4a65c_grow_92f84 6 = .ok (.iload_n 2, 1) := by decide +kernel
theorem dJx4a65c_grow_92f84_7 : decode cJx4a65c_grow_92f84 7 = .ok (.ifCond .gt 13, 3) := by decide +kernel
theorem dJx4a65c_grow_92f84_10 : decode cJx4a65c_grow_92f84 10 = .ok (.aload_n 0, 1) := by decide +kernel
theorem dJx4a65c_grow_92f84_11 : decode cJx4a65c_grow_92f84 11 = .ok (.getfield 9, 3) := by decide +kernel
theorem dJx4a65c_grow_92f84_14 : decode cJx4a65c_grow_92f84 14 = .ok (.getstatic 39, 3) := by decide +kernel
theorem dJx4a65c_grow_92f84_17 : decode cJx4a65c_grow_92f84 17 = .ok (.if_acmp .eq 28, 3) := by decide +kernel
theorem dJx4a65c_grow_92f84_20 : decode cJx4a65c_grow_92f84 20 = .ok (.iload_n 2, 1) := by decide +kernel
theorem dJx4a65c_grow_92f84_21 : decode cJx4a65c_grow_92f84 21 = .ok (.iload_n 1, 1) := by decide +kernel
theorem dJx4a65c_grow_92f84_22 : decode cJx4a65c_grow_92f84 22 = .ok (.iload_n 2, 1) := by decide +kernel
theorem dJx4a65c_grow_92f84_23 : decode cJx4a65c_grow_92f84 23 = .ok (.isub, 1) := by decide +kernel
theorem dJx4a65c_grow_92f84_24 : decode cJx4a65c_grow_92f84 24 = .ok (.iload_n 2, 1) := by decide +kernel
theorem dJx4a65c_grow_92f84_25 : decode cJx4a65c_grow_92f84 25 = .ok (.iconst 1, 1) := by decide +kernel
theorem dJx4a65c_grow_92f84_26 : decode cJx4a65c_grow_92f84 26 = .ok (.ishr, 1) := by decide +kernel
theorem dJx4a65c_grow_92f84_27 : decode cJx4a65c_grow_92f84 27 = .ok (.invokestatic 73, 3) := by decide +kernel
theorem dJx4a65c_grow_92f84_30 : decode cJx4a65c_grow_92f84 30 = .ok (.istore_n 3, 1) := by decide +kernel
theorem dJx4a65c_grow_92f84_31 : decode cJx4a65c_grow_92f84 31 = .ok (.aload_n 0, 1) := by decide +kernel
theorem dJx4a65c_grow_92f84_32 : decode cJx4a65c_grow_92f84 32 = .ok (.aload_n 0, 1) := by decide +kernel
theorem dJx4a65c_grow_92f84_33 : decode cJx4a65c_grow_92f84 33 = .ok (.getfield 9, 3) := by decide +kernel
theorem dJx4a65c_grow_92f84_36 : decode cJx4a65c_grow_92f84 36 = .ok (.iload_n 3, 1) := by decide +kernel
theorem dJx4a65c_grow_92f84_37 : decode cJx4a65c_grow_92f84 37 = .ok (.invokestatic 66, 3) := by decide +kernel
theorem dJx4a65c_grow_92f84_40 : decode cJx4a65c_grow_92f84 40 = .ok (.dup_x1, 1) := by decide +kernel
theorem dJx4a65c_grow_92f84_41 : decode cJx4a65c_grow_92f84 41 = .ok (.putfield 9, 3) := by decide +kernel
theorem dJx4a65c_grow_92f84_44 : decode cJx4a65c_grow_92f84 44 = .ok (.areturn, 1) := by decide +kernel
theorem dJx4a65c_grow_92f84_45 : decode cJx4a65c_grow_92f84 45 = .ok (.aload_n 0, 1) := by decide +kernel
theorem dJx4a65c_grow_92f84_46 : decode cJx4a65c_grow_92f84 46 = .ok (.bipush 10, 2) := by decide +kernel
theorem dJx4a65c_grow_92f84_48 : decode cJx4a65c_grow_92f84 48 = .ok (.iload_n 1, 1) := by decide +kernel
theorem dJx4a65c_grow_92f84_49 : decode cJx4a65c_grow_92f84 49 = .ok (.invokestatic 79, 3) := by decide +kernel
theorem dJx4a65c_grow_92f84_52 : decode cJx4a65c_grow_92f84 52 = .ok (.anewarray 7, 3) := by decide +kernel
theorem dJx4a65c_grow_92f84_55 : decode cJx4a65c_grow_92f84 55 = .ok (.dup_x1, 1) := by decide +kernel
theorem dJx4a65c_grow_92f84_56 : decode cJx4a65c_grow_92f84 56 = .ok (.putfield 9, 3) := by decide +kernel
theorem dJx4a65c_grow_92f84_59 : decode cJx4a65c_grow_92f84 59 = .ok (.areturn, 1) := by decide +kernel
theorem dJx4a65c_grow_d5877_0 : decode cJx4a65c_grow_d5877 0 = .ok (.aload_n 0, 1) := by decide +kernel
theorem dJx4a65c_grow_d5877_1 : decode cJx4a65c_grow_d5877 1 = .ok (.aload_n 0, 1) := by decide +kernel
theorem dJx4a65c_grow_d5877_2 : decode cJx4a65c_grow_d5877 2 = .ok (.getfield 48, 3) := by decide +kernel
theorem dJx4a65c_grow_d5877_5 : decode cJx4a65c_grow_d5877 5 = .ok (.iconst 1, 1) := by decide +kernel
theorem dJx4a65c_grow_d5877_6 : decode cJx4a65c_grow_d5877 6 = .ok (.iadd, 1) := by decide +kernel
theorem dJx4a65c_grow_d5877_7 : decode cJx4a65c_grow_d5877 7 = .ok (.invokevirtual 69, 3) := by decide +kernel
theorem dJx4a65c_grow_d5877_10 : decode cJx4a65c_grow_d5877 10 = .ok (.areturn, 1) := by decide +kernel
theorem dJx4a65c_size_8abf5_0 : decode cJx4a65c_size_8abf5 0 = .ok (.aload_n 0, 1) := by decide +kernel
theorem dJx4a65c_size_8abf5_1 : decode cJx4a65c_size_8abf5 1 = .ok (.getfield 48, 3) := by decide +kernel
theorem dJx4a65c_size_8abf5_4 : decode cJx4a65c_size_8abf5 4 = .ok (.ireturn, 1) := by decide +kernel
theorem dJx4a65c_isEmpty_aae02_0 : decode cJx4a65c_isEmpty_aae02 0 = .ok (.aload_n 0, 1) := by decide +kernel
theorem dJx4a65c_isEmpty_aae02_1 : decode cJx4a65c_isEmpty_aae02 1 = .ok (.getfield 48, 3) := by decide +kernel
theorem dJx4a65c_isEmpty_aae02_4 : decode cJx4a65c_isEmpty_aae02 4 = .ok (.ifCond .ne 7, 3) := by decide +kernel
theorem dJx4a65c_isEmpty_aae02_7 : decode cJx4a65c_isEmpty_aae02 7 = .ok (.iconst 1, 1) := by decide +kernel
theorem dJx4a65c_isEmpty_aae02_8 : decode cJx4a65c_isEmpty_aae02 8 = .ok (.goto 4, 3) := by decide +kernel
theorem dJx4a65c_isEmpty_aae02_11 : decode cJx4a65c_isEmpty_aae02 11 = .ok (.iconst 0, 1) := by decide +kernel
theorem dJx4a65c_isEmpty_aae02_12 : decode cJx4a65c_isEmpty_aae02 12 = .ok (.ireturn, 1) := by decide +kernel
theorem dJx4a65c_elementData_915e3_0 : decode cJx4a65c_elementData_915e3 0 = .ok (.aload_n 0, 1) := by decide +kernel
theorem dJx4a65c_elementData_915e3_1 : decode cJx4a65c_elementData_915e3 1 = .ok (.getfield 9, 3) := by decide +kernel
theorem dJx4a65c_elementData_915e3_4 : decode cJx4a65c_elementData_915e3 4 = .ok (.iload_n 1, 1) := by decide +kernel
theorem dJx4a65c_elementData_915e3_5 : decode cJx4a65c_elementData_915e3 5 = .ok (.aaload, 1) := by decide +kernel
theorem dJx4a65c_elementData_915e3_6 : decode cJx4a65c_elementData_915e3 6 = .ok (.areturn, 1) := by decide +kernel
theorem dJx4a65c_get_915e3_0 : decode cJx4a65c_get_915e3 0 = .ok (.iload_n 1, 1) := by decide +kernel
theorem dJx4a65c_get_915e3_1 : decode cJx4a65c_get_915e3 1 = .ok (.aload_n 0, 1) := by decide +kernel
theorem dJx4a65c_get_915e3_2 : decode cJx4a65c_get_915e3 2 = .ok (.getfield 48, 3) := by decide +kernel
theorem dJx4a65c_get_915e3_5 : decode cJx4a65c_get_915e3 5 = .ok (.invokestatic 118, 3) := by decide +kernel
theorem dJx4a65c_get_915e3_8 : decode cJx4a65c_get_915e3 8 = .ok (.pop, 1) := by decide +kernel
theorem dJx4a65c_get_915e3_9 : decode cJx4a65c_get_915e3 9 = .ok (.aload_n 0, 1) := by decide +kernel
theorem dJx4a65c_get_915e3_10 : decode cJx4a65c_get_915e3 10 = .ok (.iload_n 1, 1) := by decide +kernel
theorem dJx4a65c_get_915e3_11 : decode cJx4a65c_get_915e3 11 = .ok (.invokevirtual 123, 3) := by decide +kernel
theorem dJx4a65c_get_915e3_14 : decode cJx4a65c_get_915e3 14 = .ok (.areturn, 1) := by decide +kernel
theorem dJx4a65c_add_72be8_0 : decode cJx4a65c_add_72be8 0 = .ok (.iload_n 3, 1) := by decide +kernel
theorem dJx4a65c_add_72be8_1 : decode cJx4a65c_add_72be8 1 = .ok (.aload_n 2, 1) := by decide +kernel
theorem dJx4a65c_add_72be8_2 : decode cJx4a65c_add_72be8 2 = .ok (.arraylength, 1) := by decide +kernel
theorem dJx4a65c_add_72be8_3 : decode cJx4a65c_add_72be8 3 = .ok (.if_icmp .ne 8, 3) := by decide +kernel
theorem dJx4a65c_add_72be8_6 : decode cJx4a65c_add_72be8 6 = .ok (.aload_n 0, 1) := by decide +kernel
theorem dJx4a65c_add_72be8_7 : decode cJx4a65c_add_72be8 7 = .ok (.invokevirtual 129, 3) := by decide +kernel
theorem dJx4a65c_add_72be8_10 : decode cJx4a65c_add_72be8 10 = .ok (.astore_n 2, 1) := by decide +kernel
theorem dJx4a65c_add_72be8_11 : decode cJx4a65c_add_72be8 11 = .ok (.aload_n 2, 1) := by decide +kernel
theorem dJx4a65c_add_72be8_12 : decode cJx4a65c_add_72be8 12 = .ok (.iload_n 3, 1) := by decide +kernel
theorem dJx4a65c_add_72be8_13 : decode cJx4a65c_add_72be8 13 = .ok (.aload_n 1, 1) := by decide +kernel
theorem dJx4a65c_add_72be8_14 : decode cJx4a65c_add_72be8 14 = .ok (.aastore, 1) := by decide +kernel
theorem dJx4a65c_add_72be8_15 : decode cJx4a65c_add_72be8 15 = .ok (.aload_n 0, 1) := by decide +kernel
theorem dJx4a65c_add_72be8_16 : decode cJx4a65c_add_72be8 16 = .ok (.iload_n 3, 1) := by decide +kernel
theorem dJx4a65c_add_72be8_17 : decode cJx4a65c_add_72be8 17 = .ok (.iconst 1, 1) := by decide +kernel
theorem dJx4a65c_add_72be8_18 : decode cJx4a65c_add_72be8 18 = .ok (.iadd, 1) := by decide +kernel
theorem dJx4a65c_add_72be8_19 : decode cJx4a65c_add_72be8 19 = .ok (.putfield 48, 3) := by decide +kernel
theorem dJx4a65c_add_72be8_22 : decode cJx4a65c_add_72be8 22 = .ok (.return_, 1) := by decide +kernel
theorem dJx4a65c_add_9ea2d_0 : decode cJx4a65c_add_9ea2d 0 = .ok (.aload_n 0, 1) := by decide +kernel
theorem dJx4a65c_add_9ea2d_1 : decode cJx4a65c_add_9ea2d 1 = .ok (.dup, 1) := by decide +kernel
theorem dJx4a65c_add_9ea2d_2 : decode cJx4a65c_add_9ea2d 2 = .ok (.getfield 63, 3) := by decide +kernel
theorem dJx4a65c_add_9ea2d_5 : decode cJx4a65c_add_9ea2d 5 = .ok (.iconst 1, 1) := by decide +kernel
theorem dJx4a65c_add_9ea2d_6 : decode cJx4a65c_add_9ea2d 6 = .ok (.iadd, 1) := by decide +kernel
theorem dJx4a65c_add_9ea2d_7 : decode cJx4a65c_add_9ea2d 7 = .ok (.putfield 63, 3) := by decide +kernel
theorem dJx4a65c_add_9ea2d_10 : decode cJx4a65c_add_9ea2d 10 = .ok (.aload_n 0, 1) := by decide +kernel
theorem dJx4a65c_add_9ea2d_11 : decode cJx4a65c_add_9ea2d 11 = .ok (.aload_n 1, 1) := by decide +kernel
theorem dJx4a65c_add_9ea2d_12 : decode cJx4a65c_add_9ea2d 12 = .ok (.aload_n 0, 1) := by decide +kernel
theorem dJx4a65c_add_9ea2d_13 : decode cJx4a65c_add_9ea2d 13 = .ok (.getfield 9, 3) := by decide +kernel
theorem dJx4a65c_add_9ea2d_16 : decode cJx4a65c_add_9ea2d 16 = .ok (.aload_n 0, 1) := by decide +kernel
theorem dJx4a65c_add_9ea2d_17 : decode cJx4a65c_add_9ea2d 17 = .ok (.getfield 48, 3) := by decide +kernel
theorem dJx4a65c_add_9ea2d_20 : decode cJx4a65c_add_9ea2d 20 = .ok (.invokevirtual 131, 3) := by decide +kernel
theorem dJx4a65c_add_9ea2d_23 : decode cJx4a65c_add_9ea2d 23 = .ok (.iconst 1, 1) := by decide +kernel
theorem dJx4a65c_add_9ea2d_24 : decode cJx4a65c_add_9ea2d 24 = .ok (.ireturn, 1) := by decide +kernel
theorem dJx4a65c_remove_915e3_0 : decode cJx4a65c_remove_915e3 0 = .ok (.iload_n 1, 1) := by decide +kernel
theorem dJx4a65c_remove_915e3_1 : decode cJx4a65c_remove_915e3 1 = .ok (.aload_n 0, 1) := by decide +kernel
theorem dJx4a65c_remove_915e3_2 : decode cJx4a65c_remove_915e3 2 = .ok (.getfield 48, 3) := by decide +kernel
theorem dJx4a65c_remove_915e3_5 : decode cJx4a65c_remove_915e3 5 = .ok (.invokestatic 118, 3) := by decide +kernel
theorem dJx4a65c_remove_915e3_8 : decode cJx4a65c_remove_915e3 8 = .ok (.pop, 1) := by decide +kernel
theorem dJx4a65c_remove_915e3_9 : decode cJx4a65c_remove_915e3 9 = .ok (.aload_n 0, 1) := by decide +kernel
theorem dJx4a65c_remove_915e3_10 : decode cJx4a65c_remove_915e3 10 = .ok (.getfield 9, 3) := by decide +kernel
theorem dJx4a65c_remove_915e3_13 : decode cJx4a65c_remove_915e3 13 = .ok (.astore_n 2, 1) := by decide +kernel
theorem dJx4a65c_remove_915e3_14 : decode cJx4a65c_remove_915e3 14 = .ok (.aload_n 2, 1) := by decide +kernel
theorem dJx4a65c_remove_915e3_15 : decode cJx4a65c_remove_915e3 15 = .ok (.iload_n 1, 1) := by decide +kernel
theorem dJx4a65c_remove_915e3_16 : decode cJx4a65c_remove_915e3 16 = .ok (.aaload, 1) := by decide +kernel
theorem dJx4a65c_remove_915e3_17 : decode cJx4a65c_remove_915e3 17 = .ok (.astore_n 3, 1) := by decide +kernel
theorem dJx4a65c_remove_915e3_18 : decode cJx4a65c_remove_915e3 18 = .ok (.aload_n 0, 1) := by decide +kernel
theorem dJx4a65c_remove_915e3_19 : decode cJx4a65c_remove_915e3 19 = .ok (.aload_n 2, 1) := by decide +kernel
theorem dJx4a65c_remove_915e3_20 : decode cJx4a65c_remove_915e3 20 = .ok (.iload_n 1, 1) := by decide +kernel
theorem dJx4a65c_remove_915e3_21 : decode cJx4a65c_remove_915e3 21 = .ok (.invokevirtual 144, 3) := by decide +kernel
theorem dJx4a65c_remove_915e3_24 : decode cJx4a65c_remove_915e3 24 = .ok (.aload_n 3, 1) := by decide +kernel
theorem dJx4a65c_remove_915e3_25 : decode cJx4a65c_remove_915e3 25 = .ok (.areturn, 1) := by decide +kernel
theorem dJx4a65c_fastRemove_b59b0_0 : decode cJx4a65c_fastRemove_b59b0 0 = .ok (.aload_n 0, 1) := by decide +kernel
theorem dJx4a65c_fastRemove_b59b0_1 : decode cJx4a65c_fastRemove_b59b0 1 = .ok (.dup, 1) := by decide +kernel
theorem dJx4a65c_fastRemove_b59b0_2 : decode cJx4a65c_fastRemove_b59b0 2 = .ok (.getfield 63, 3) := by decide +kernel
theorem dJx4a65c_fastRemove_b59b0_5 : decode cJx4a65c_fastRemove_b59b0 5 = .ok (.iconst 1, 1) := by decide +kernel
theorem dJx4a65c_fastRemove_b59b0_6 : decode cJx4a65c_fastRemove_b59b0 6 = .ok (.iadd, 1) := by decide +kernel
theorem dJx4a65c_fastRemove_b59b0_7 : decode cJx4a65c_fastRemove_b59b0 7 = .ok (.putfield 63, 3) := by decide +kernel
theorem dJx4a65c_fastRemove_b59b0_10 : decode cJx4a65c_fastRemove_b59b0 10 = .ok (.aload_n 0, 1) := by decide +kernel
theorem dJx4a65c_fastRemove_b59b0_11 : decode cJx4a65c_fastRemove_b59b0 11 = .ok (.getfield 48, 3) := by decide +kernel
theorem dJx4a65c_fastRemove_b59b0_14 : decode cJx4a65c_fastRemove_b59b0 14 = .ok (.iconst 1, 1) := by decide +kernel
theorem dJx4a65c_fastRemove_b59b0_15 : decode cJx4a65c_fastRemove_b59b0 15 = .ok (.isub, 1) := by decide +kernel
theorem dJx4a65c_fastRemove_b59b0_16 : decode cJx4a65c_fastRemove_b59b0 16 = .ok (.dup, 1) := by decide +kernel
theorem dJx4a65c_fastRemove_b59b0_17 : decode cJx4a65c_fastRemove_b59b0 17 = .ok (.istore_n 3, 1) := by decide +kernel
theorem dJx4a65c_fastRemove_b59b0_18 : decode cJx4a65c_fastRemove_b59b0 18 = .ok (.iload_n 2, 1) := by decide +kernel
theorem dJx4a65c_fastRemove_b59b0_19 : decode cJx4a65c_fastRemove_b59b0 19 = .ok (.if_icmp .le 15, 3) := by decide +kernel
theorem dJx4a65c_fastRemove_b59b0_22 : decode cJx4a65c_fastRemove_b59b0 22 = .ok (.aload_n 1, 1) := by decide +kernel
theorem dJx4a65c_fastRemove_b59b0_23 : decode cJx4a65c_fastRemove_b59b0 23 = .ok (.iload_n 2, 1) := by decide +kernel
theorem dJx4a65c_fastRemove_b59b0_24 : decode cJx4a65c_fastRemove_b59b0 24 = .ok (.iconst 1, 1) := by decide +kernel
theorem dJx4a65c_fastRemove_b59b0_25 : decode cJx4a65c_fastRemove_b59b0 25 = .ok (.iadd, 1) := by decide +kernel
theorem dJx4a65c_fastRemove_b59b0_26 : decode cJx4a65c_fastRemove_b59b0 26 = .ok (.aload_n 1, 1) := by decide +kernel
theorem dJx4a65c_fastRemove_b59b0_27 : decode cJx4a65c_fastRemove_b59b0 27 = .ok (.iload_n 2, 1) := by decide +kernel
theorem dJx4a65c_fastRemove_b59b0_28 : decode cJx4a65c_fastRemove_b59b0 28 = .ok (.iload_n 3, 1) := by decide +kernel
theorem dJx4a65c_fastRemove_b59b0_29 : decode cJx4a65c_fastRemove_b59b0 29 = .ok (.iload_n 2, 1) := by decide +kernel
theorem dJx4a65c_fastRemove_b59b0_30 : decode cJx4a65c_fastRemove_b59b0 30 = .ok (.isub, 1) := by decide +kernel
theorem dJx4a65c_fastRemove_b59b0_31 : decode cJx4a65c_fastRemove_b59b0 31 = .ok (.invokestatic 112, 3) := by decide +kernel
theorem dJx4a65c_fastRemove_b59b0_34 : decode cJx4a65c_fastRemove_b59b0 34 = .ok (.aload_n 1, 1) := by decide +kernel
theorem dJx4a65c_fastRemove_b59b0_35 : decode cJx4a65c_fastRemove_b59b0 35 = .ok (.aload_n 0, 1) := by decide +kernel
theorem dJx4a65c_fastRemove_b59b0_36 : decode cJx4a65c_fastRemove_b59b0 36 = .ok (.iload_n 3, 1) := by decide +kernel
theorem dJx4a65c_fastRemove_b59b0_37 : decode cJx4a65c_fastRemove_b59b0 37 = .ok (.dup_x1, 1) := by decide +kernel
theorem dJx4a65c_fastRemove_b59b0_38 : decode cJx4a65c_fastRemove_b59b0 38 = .ok (.putfield 48, 3) := by decide +kernel
theorem dJx4a65c_fastRemove_b59b0_41 : decode cJx4a65c_fastRemove_b59b0 41 = .ok (.aconst_null, 1) := by decide +kernel
theorem dJx4a65c_fastRemove_b59b0_42 : decode cJx4a65c_fastRemove_b59b0 42 = .ok (.aastore, 1) := by decide +kernel
theorem dJx4a65c_fastRemove_b59b0_43 : decode cJx4a65c_fastRemove_b59b0 43 = .ok (.return_, 1) := by decide +kernel
theorem dJx4a65c_clear_da8c8_0 : decode cJx4a65c_clear_da8c8 0 = .ok (.aload_n 0, 1) := by decide +kernel
theorem dJx4a65c_clear_da8c8_1 : decode cJx4a65c_clear_da8c8 1 = .ok (.dup, 1) := by decide +kernel
theorem dJx4a65c_clear_da8c8_2 : decode cJx4a65c_clear_da8c8 2 = .ok (.getfield 63, 3) := by decide +kernel
theorem dJx4a65c_clear_da8c8_5 : decode cJx4a65c_clear_da8c8 5 = .ok (.iconst 1, 1) := by decide +kernel
theorem dJx4a65c_clear_da8c8_6 : decode cJx4a65c_clear_da8c8 6 = .ok (.iadd, 1) := by decide +kernel
theorem dJx4a65c_clear_da8c8_7 : decode cJx4a65c_clear_da8c8 7 = .ok (.putfield 63, 3) := by decide +kernel
theorem dJx4a65c_clear_da8c8_10 : decode cJx4a65c_clear_da8c8 10 = .ok (.aload_n 0, 1) := by decide +kernel
theorem dJx4a65c_clear_da8c8_11 : decode cJx4a65c_clear_da8c8 11 = .ok (.getfield 9, 3) := by decide +kernel
theorem dJx4a65c_clear_da8c8_14 : decode cJx4a65c_clear_da8c8 14 = .ok (.astore_n 1, 1) := by decide +kernel
theorem dJx4a65c_clear_da8c8_15 : decode cJx4a65c_clear_da8c8 15 = .ok (.aload_n 0, 1) := by decide +kernel
theorem dJx4a65c_clear_da8c8_16 : decode cJx4a65c_clear_da8c8 16 = .ok (.getfield 48, 3) := by decide +kernel
theorem dJx4a65c_clear_da8c8_19 : decode cJx4a65c_clear_da8c8 19 = .ok (.istore_n 2, 1) := by decide +kernel
theorem dJx4a65c_clear_da8c8_20 : decode cJx4a65c_clear_da8c8 20 = .ok (.aload_n 0, 1) := by decide +kernel
theorem dJx4a65c_clear_da8c8_21 : decode cJx4a65c_clear_da8c8 21 = .ok (.iconst 0, 1) := by decide +kernel
theorem dJx4a65c_clear_da8c8_22 : decode cJx4a65c_clear_da8c8 22 = .ok (.dup_x1, 1) := by decide +kernel
theorem dJx4a65c_clear_da8c8_23 : decode cJx4a65c_clear_da8c8 23 = .ok (.putfield 48, 3) := by decide +kernel
theorem dJx4a65c_clear_da8c8_26 : decode cJx4a65c_clear_da8c8 26 = .ok (.istore_n 3, 1) := by decide +kernel
theorem dJx4a65c_clear_da8c8_27 : decode cJx4a65c_clear_da8c8 27 = .ok (.iload_n 3, 1) := by decide +kernel
theorem dJx4a65c_clear_da8c8_28 : decode cJx4a65c_clear_da8c8 28 = .ok (.iload_n 2, 1) := by decide +kernel
theorem dJx4a65c_clear_da8c8_29 : decode cJx4a65c_clear_da8c8 29 = .ok (.if_icmp .ge 13, 3) := by decide +kernel
theorem dJx4a65c_clear_da8c8_32 : decode cJx4a65c_clear_da8c8 32 = .ok (.aload_n 1, 1) := by decide +kernel
theorem dJx4a65c_clear_da8c8_33 : decode cJx4a65c_clear_da8c8 33 = .ok (.iload_n 3, 1) := by decide +kernel
theorem dJx4a65c_clear_da8c8_34 : decode cJx4a65c_clear_da8c8 34 = .ok (.aconst_null, 1) := by decide +kernel
theorem dJx4a65c_clear_da8c8_35 : decode cJx4a65c_clear_da8c8 35 = .ok (.aastore, 1) := by decide +kernel
theorem dJx4a65c_clear_da8c8_36 : decode cJx4a65c_clear_da8c8 36 = .ok (.iinc 3 1, 3) := by decide +kernel
theorem dJx4a65c_clear_da8c8_39 : decode cJx4a65c_clear_da8c8 39 = .ok (.goto (-12), 3) := by decide +kernel
theorem dJx4a65c_clear_da8c8_42 : decode cJx4a65c_clear_da8c8 42 = .ok (.return_, 1) := by decide +kernel
theorem dJx4a65c_iterator_32c93_0 : decode cJx4a65c_iterator_32c93 0 = .ok (.new 267, 3) := by decide +kernel
theorem dJx4a65c_iterator_32c93_3 : decode cJx4a65c_iterator_32c93 3 = .ok (.dup, 1) := by decide +kernel
theorem dJx4a65c_iterator_32c93_4 : decode cJx4a65c_iterator_32c93 4 = .ok (.aload_n 0, 1) := by decide +kernel
theorem dJx4a65c_iterator_32c93_5 : decode cJx4a65c_iterator_32c93 5 = .ok (.invokespecial 269, 3) := by decide +kernel
theorem dJx4a65c_iterator_32c93_8 : decode cJx4a65c_iterator_32c93 8 = .ok (.areturn, 1) := by decide +kernel
theorem dJ7_sort_2022b_0 : decode cJ7_sort_2022b 0 = .ok (.aload_n 0, 1) := by decide +kernel
theorem dJ7_sort_2022b_1 : decode cJ7_sort_2022b 1 = .ok (.iconst 0, 1) := by decide +kernel
theorem dJ7_sort_2022b_2 : decode cJ7_sort_2022b 2 = .ok (.iconst 0, 1) := by decide +kernel
theorem dJ7_sort_2022b_3 : decode cJ7_sort_2022b 3 = .ok (.aload_n 0, 1) := by decide +kernel
theorem dJ7_sort_2022b_4 : decode cJ7_sort_2022b 4 = .ok (.arraylength, 1) := by decide +kernel
theorem dJ7_sort_2022b_5 : decode cJ7_sort_2022b 5 = .ok (.invokestatic 7, 3) := by decide +kernel
theorem dJ7_sort_2022b_8 : decode cJ7_sort_2022b 8 = .ok (.return_, 1) := by decide +kernel
theorem dJ7_copyOf_1904c_0 : decode cJ7_copyOf_1904c 0 = .ok (.aload_n 0, 1) := by decide +kernel
theorem dJ7_copyOf_1904c_1 : decode cJ7_copyOf_1904c 1 = .ok (.iload_n 1, 1) := by decide +kernel
theorem dJ7_copyOf_1904c_2 : decode cJ7_copyOf_1904c 2 = .ok (.aload_n 0, 1) := by decide +kernel
theorem dJ7_copyOf_1904c_3 : decode cJ7_copyOf_1904c 3 = .ok (.invokevirtual 86, 3) := by decide +kernel
theorem dJ7_copyOf_1904c_6 : decode cJ7_copyOf_1904c 6 = .ok (.invokestatic 300, 3) := by decide +kernel
theorem dJ7_copyOf_1904c_9 : decode cJ7_copyOf_1904c 9 = .ok (.areturn, 1) := by decide +kernel
theorem dJ7_copyOf_6403c_0 : decode cJ7_copyOf_6403c 0 = .ok (.aload_n 2, 1) := by decide +kernel
theorem dJ7_copyOf_6403c_1 : decode cJ7_copyOf_6403c 1 = .ok (.ldc 110, 2) := by decide +kernel
theorem dJ7_copyOf_6403c_3 : decode cJ7_copyOf_6403c 3 = .ok (.if_acmp .ne 10, 3) := by decide +kernel
theorem dJ7_copyOf_6403c_6 : decode cJ7_copyOf_6403c 6 = .ok (.iload_n 1, 1) := by decide +kernel
theorem dJ7_copyOf_6403c_7 : decode cJ7_copyOf_6403c 7 = .ok (.anewarray 2, 3) := by decide +kernel
theorem dJ7_copyOf_6403c_10 : decode cJ7_copyOf_6403c 10 = .ok (.goto 14, 3) := by decide +kernel
theorem dJ7_copyOf_6403c_13 : decode cJ7_copyOf_6403c 13 = .ok (.aload_n 2, 1) := by decide +kernel
theorem dJ7_copyOf_6403c_14 : decode cJ7_copyOf_6403c 14 = .ok (.invokevirtual 90, 3) := by decide +kernel
theorem dJ7_copyOf_6403c_17 : decode cJ7_copyOf_6403c 17 = .ok (.iload_n 1, 1) := by decide +kernel
theorem dJ7_copyOf_6403c_18 : decode cJ7_copyOf_6403c 18 = .ok (.invokestatic 95, 3) := by decide +kernel
theorem dJ7_copyOf_6403c_21 : decode cJ7_copyOf_6403c 21 = .ok (.checkcast 110, 3) := by decide +kernel
theorem dJ7_copyOf_6403c_24 : decode cJ7_copyOf_6403c 24 = .ok (.astore_n 3, 1) := by decide +kernel
theorem dJ7_copyOf_6403c_25 : decode cJ7_copyOf_6403c 25 = .ok (.aload_n 0, 1) := by decide +kernel
theorem dJ7_copyOf_6403c_26 : decode cJ7_copyOf_6403c 26 = .ok (.iconst 0, 1) := by decide +kernel
theorem dJ7_copyOf_6403c_27 : decode cJ7_copyOf_6403c 27 = .ok (.aload_n 3, 1) := by decide +kernel
theorem dJ7_copyOf_6403c_28 : decode cJ7_copyOf_6403c 28 = .ok (.iconst 0, 1) := by decide +kernel
theorem dJ7_copyOf_6403c_29 : decode cJ7_copyOf_6403c 29 = .ok (.aload_n 0, 1) := by decide +kernel
theorem dJ7_copyOf_6403c_30 : decode cJ7_copyOf_6403c 30 = .ok (.arraylength, 1) := by decide +kernel
theorem dJ7_copyOf_6403c_31 : decode cJ7_copyOf_6403c 31 = .ok (.iload_n 1, 1) := by decide +kernel
theorem dJ7_copyOf_6403c_32 : decode cJ7_copyOf_6403c 32 = .ok (.invokestatic 304, 3) := by decide +kernel
theorem dJ7_copyOf_6403c_35 : decode cJ7_copyOf_6403c 35 = .ok (.invokestatic 150, 3) := by decide +kernel
theorem dJ7_copyOf_6403c_38 : decode cJ7_copyOf_6403c 38 = .ok (.aload_n 3, 1) := by decide +kernel
theorem dJ7_copyOf_6403c_39 : decode cJ7_copyOf_6403c 39 = .ok (.areturn, 1) := by decide +kernel
theorem dJ7_copyOf_9075b_0 : decode cJ7_copyOf_9075b 0 = .ok (.iload_n 1, 1) := by decide +kernel
theorem dJ7_copyOf_9075b_1 : decode cJ7_copyOf_9075b 1 = .ok (.aload_n 0, 1) := by decide +kernel
theorem dJ7_copyOf_9075b_2 : decode cJ7_copyOf_9075b 2 = .ok (.arraylength, 1) := by decide +kernel
theorem dJ7_copyOf_9075b_3 : decode cJ7_copyOf_9075b 3 = .ok (.if_icmp .ne 11, 3) := by decide +kernel
theorem dJ7_copyOf_9075b_6 : decode cJ7_copyOf_9075b 6 = .ok (.aload_n 0, 1) := by decide +kernel
theorem dJ7_copyOf_9075b_7 : decode cJ7_copyOf_9075b 7 = .ok (.invokevirtual 310, 3) := by decide +kernel
theorem dJ7_copyOf_9075b_10 : decode cJ7_copyOf_9075b 10 = .ok (.checkcast 311, 3) := by decide +kernel
theorem dJ7_copyOf_9075b_13 : decode cJ7_copyOf_9075b 13 = .ok (.areturn, 1) := by decide +kernel
theorem dJ7_copyOf_9075b_14 : decode cJ7_copyOf_9075b 14 = .ok (.iload_n 1, 1) := by decide +kernel
theorem dJ7_copyOf_9075b_15 : decode cJ7_copyOf_9075b 15 = .ok (.newarray .byte, 2) := by decide +kernel
theorem dJ7_copyOf_9075b_17 : decode cJ7_copyOf_9075b 17 = .ok (.astore_n 2, 1) := by decide +kernel
theorem dJ7_copyOf_9075b_18 : decode cJ7_copyOf_9075b 18 = .ok (.aload_n 0, 1) := by decide +kernel
theorem dJ7_copyOf_9075b_19 : decode cJ7_copyOf_9075b 19 = .ok (.iconst 0, 1) := by decide +kernel
theorem dJ7_copyOf_9075b_20 : decode cJ7_copyOf_9075b 20 = .ok (.aload_n 2, 1) := by decide +kernel
theorem dJ7_copyOf_9075b_21 : decode cJ7_copyOf_9075b 21 = .ok (.iconst 0, 1) := by decide +kernel
theorem dJ7_copyOf_9075b_22 : decode cJ7_copyOf_9075b 22 = .ok (.aload_n 0, 1) := by decide +kernel
theorem dJ7_copyOf_9075b_23 : decode cJ7_copyOf_9075b 23 = .ok (.arraylength, 1) := by decide +kernel
theorem dJ7_copyOf_9075b_24 : decode cJ7_copyOf_9075b 24 = .ok (.iload_n 1, 1) := by decide +kernel
theorem dJ7_copyOf_9075b_25 : decode cJ7_copyOf_9075b 25 = .ok (.invokestatic 304, 3) := by decide +kernel
theorem dJ7_copyOf_9075b_28 : decode cJ7_copyOf_9075b 28 = .ok (.invokestatic 150, 3) := by decide +kernel
theorem dJ7_copyOf_9075b_31 : decode cJ7_copyOf_9075b 31 = .ok (.aload_n 2, 1) := by decide +kernel
theorem dJ7_copyOf_9075b_32 : decode cJ7_copyOf_9075b 32 = .ok (.areturn, 1) := by decide +kernel
theorem dJ7_checkLength_df160_0 : decode cJ7_checkLength_df160 0 = .ok (.iload_n 1, 1) := by decide +kernel
theorem dJ7_checkLength_df160_1 : decode cJ7_checkLength_df160 1 = .ok (.iload_n 0, 1) := by decide +kernel
theorem dJ7_checkLength_df160_2 : decode cJ7_checkLength_df160 2 = .ok (.if_icmp .ge 35, 3) := by decide +kernel
theorem dJ7_checkLength_df160_5 : decode cJ7_checkLength_df160 5 = .ok (.new 43, 3) := by decide +kernel
theorem dJ7_checkLength_df160_8 : decode cJ7_checkLength_df160 8 = .ok (.dup, 1) := by decide +kernel
theorem dJ7_checkLength_df160_9 : decode cJ7_checkLength_df160 9 = .ok (.new 45, 3) := by decide +kernel
theorem dJ7_checkLength_df160_12 : decode cJ7_checkLength_df160 12 = .ok (.dup, 1) := by decide +kernel
theorem dJ7_checkLength_df160_13 : decode cJ7_checkLength_df160 13 = .ok (.invokespecial 47, 3) := by decide +kernel
theorem dJ7_checkLength_df160_16 : decode cJ7_checkLength_df160 16 = .ok (.iload_n 0, 1) := by decide +kernel
theorem dJ7_checkLength_df160_17 : decode cJ7_checkLength_df160 17 = .ok (.invokevirtual 54, 3) := by decide +kernel
theorem dJ7_checkLength_df160_20 : decode cJ7_checkLength_df160 20 = .ok (.ldc_w 337, 3) := by decide +kernel
theorem dJ7_checkLength_df160_23 : decode cJ7_checkLength_df160 23 = .ok (.invokevirtual 50, 3) := by decide +kernel
theorem dJ7_checkLength_df160_26 : decode cJ7_checkLength_df160 26 = .ok (.iload_n 1, 1) := by decide +kernel
theorem dJ7_checkLength_df160_27 : decode cJ7_checkLength_df160 27 = .ok (.invokevirtual 54, 3) := by decide +kernel
theorem dJ7_checkLength_df160_30 : decode cJ7_checkLength_df160 30 = .ok (.invokevirtual 61, 3) := by decide +kernel
theorem dJ7_checkLength_df160_33 : decode cJ7_checkLength_df160 33 = .ok (.invokespecial 65, 3) := by decide +kernel
theorem dJ7_checkLength_df160_36 : decode cJ7_checkLength_df160 36 = .ok (.athrow, 1) := by decide +kernel
theorem dJ7_checkLength_df160_37 : decode cJ7_checkLength_df160 37 = .ok (.return_, 1) := by decide +kernel
theorem dJ7_copyOfRange_39247_0 : decode cJ7_copyOfRange_39247 0 = .ok (.iload_n 1, 1) := by decide +kernel
theorem dJ7_copyOfRange_39247_1 : decode cJ7_copyOfRange_39247 1 = .ok (.ifCond .ne 9, 3) := by decide +kernel
theorem dJ7_copyOfRange_39247_4 : decode cJ7_copyOfRange_39247 4 = .ok (.iload_n 2, 1) := by decide +kernel
theorem dJ7_copyOfRange_39247_5 : decode cJ7_copyOfRange_39247 5 = .ok (.aload_n 0, 1) := by decide +kernel
theorem dJ7_copyOfRange_39247_6 : decode cJ7_copyOfRange_39247 6 = .ok (.arraylength, 1) := by decide +kernel
theorem dJ7_copyOfRange_39247_7 : decode cJ7_copyOfRange_39247 7 = .ok (.if_icmp .eq 10, 3) := by decide +kernel
theorem dJ7_copyOfRange_39247_10 : decode cJ7_copyOfRange_39247 10 = .ok (.aload_n 0, 1) := by decide +kernel
theorem dJ7_copyOfRange_39247_11 : decode cJ7_copyOfRange_39247 11 = .ok (.iload_n 1, 1) := by decide +kernel
theorem dJ7_copyOfRange_39247_12 : decode cJ7_copyOfRange_39247 12 = .ok (.iload_n 2, 1) := by decide +kernel
theorem dJ7_copyOfRange_39247_13 : decode cJ7_copyOfRange_39247 13 = .ok (.invokestatic 339, 3) := by decide +kernel
theorem dJ7_copyOfRange_39247_16 : decode cJ7_copyOfRange_39247 16 = .ok (.areturn, 1) := by decide +kernel
theorem dJ7_copyOfRange_39247_17 : decode cJ7_copyOfRange_39247 17 = .ok (.aload_n 0, 1) := by decide +kernel
theorem dJ7_copyOfRange_39247_18 : decode cJ7_copyOfRange_39247 18 = .ok (.invokevirtual 310, 3) := by decide +kernel
theorem dJ7_copyOfRange_39247_21 : decode cJ7_copyOfRange_39247 21 = .ok (.checkcast 311, 3) := by decide +kernel
theorem dJ7_copyOfRange_39247_24 : decode cJ7_copyOfRange_39247 24 = .ok (.areturn, 1) := by decide +kernel
theorem dJ7_copyOfRangeByte_39247_0 : decode cJ7_copyOfRangeByte_39247 0 = .ok (.iload_n 1, 1) := by decide +kernel
theorem dJ7_copyOfRangeByte_39247_1 : decode cJ7_copyOfRangeByte_39247 1 = .ok (.iload_n 2, 1) := by decide +kernel
theorem dJ7_copyOfRangeByte_39247_2 : decode cJ7_copyOfRangeByte_39247 2 = .ok (.invokestatic 343, 3) := by decide +kernel
theorem dJ7_copyOfRangeByte_39247_5 : decode cJ7_copyOfRangeByte_39247 5 = .ok (.iload_n 2, 1) := by decide +kernel
theorem dJ7_copyOfRangeByte_39247_6 : decode cJ7_copyOfRangeByte_39247 6 = .ok (.iload_n 1, 1) := by decide +kernel
theorem dJ7_copyOfRangeByte_39247_7 : decode cJ7_copyOfRangeByte_39247 7 = .ok (.isub, 1) := by decide +kernel
theorem dJ7_copyOfRangeByte_39247_8 : decode cJ7_copyOfRangeByte_39247 8 = .ok (.istore_n 3, 1) := by decide +kernel
theorem dJ7_copyOfRangeByte_39247_9 : decode cJ7_copyOfRangeByte_39247 9 = .ok (.iload_n 3, 1) := by decide +kernel
theorem dJ7_copyOfRangeByte_39247_10 : decode cJ7_copyOfRangeByte_39247 10 = .ok (.newarray .byte, 2) := by decide +kernel
theorem dJ7_copyOfRangeByte_39247_12 : decode cJ7_copyOfRangeByte_39247 12 = .ok (.astore 4, 2) := by decide +kernel
theorem dJ7_copyOfRangeByte_39247_14 : decode cJ7_copyOfRangeByte_39247 14 = .ok (.aload_n 0, 1) := by decide +kernel
theorem dJ7_copyOfRangeByte_39247_15 : decode cJ7_copyOfRangeByte_39247 15 = .ok (.iload_n 1, 1) := by decide +kernel
theorem dJ7_copyOfRangeByte_39247_16 : decode cJ7_copyOfRangeByte_39247 16 = .ok (.aload 4, 2) := by decide +kernel
theorem dJ7_copyOfRangeByte_39247_18 : decode cJ7_copyOfRangeByte_39247 18 = .ok (.iconst 0, 1) := by decide +kernel
theorem dJ7_copyOfRangeByte_39247_19 : decode cJ7_copyOfRangeByte_39247 19 = .ok (.aload_n 0, 1) := by decide +kernel
theorem dJ7_copyOfRangeByte_39247_20 : decode cJ7_copyOfRangeByte_39247 20 = .ok (.arraylength, 1) := by decide +kernel
theorem dJ7_copyOfRangeByte_39247_21 : decode cJ7_copyOfRangeByte_39247 21 = .ok (.iload_n 1, 1) := by decide +kernel
theorem dJ7_copyOfRangeByte_39247_22 : decode cJ7_copyOfRangeByte_39247 22 = .ok (.isub, 1) := by decide +kernel
theorem dJ7_copyOfRangeByte_39247_23 : decode cJ7_copyOfRangeByte_39247 23 = .ok (.iload_n 3, 1) := by decide +kernel
theorem dJ7_copyOfRangeByte_39247_24 : decode cJ7_copyOfRangeByte_39247 24 = .ok (.invokestatic 304, 3) := by decide +kernel
theorem dJ7_copyOfRangeByte_39247_27 : decode cJ7_copyOfRangeByte_39247 27 = .ok (.invokestatic 150, 3) := by decide +kernel
theorem dJ7_copyOfRangeByte_39247_30 : decode cJ7_copyOfRangeByte_39247 30 = .ok (.aload 4, 2) := by decide +kernel
theorem dJ7_copyOfRangeByte_39247_32 : decode cJ7_copyOfRangeByte_39247 32 = .ok (.areturn, 1) := by decide +kernel
theorem dX11_sort_0 : decode cX11_sort 0 = .ok (.iload_n 3, 1) := by decide +kernel
theorem dX11_sort_1 : decode cX11_sort 1 = .ok (.iload_n 2, 1) := by decide +kernel
theorem dX11_sort_2 : decode cX11_sort 2 = .ok (.isub, 1) := by decide +kernel
theorem dX11_sort_3 : decode cX11_sort 3 = .ok (.istore 4, 2) := by decide +kernel
theorem dX11_sort_5 : decode cX11_sort 5 = .ok (.iload_n 1, 1) := by decide +kernel
theorem dX11_sort_6 : decode cX11_sort 6 = .ok (.iconst 1, 1) := by decide +kernel
theorem dX11_sort_7 : decode cX11_sort 7 = .ok (.if_icmp .le 61, 3) := by decide +kernel
theorem dX11_sort_10 : decode cX11_sort 10 = .ok (.iload 4, 2) := by decide +kernel
theorem dX11_sort_12 : decode cX11_sort 12 = .ok (.sipush 4096, 3) := by decide +kernel
theorem dX11_sort_15 : decode cX11_sort 15 = .ok (.if_icmp .le 53, 3) := by decide +kernel
theorem dX11_sort_18 : decode cX11_sort 18 = .ok (.iload_n 1, 1) := by decide +kernel
theorem dX11_sort_19 : decode cX11_sort 19 = .ok (.iload 4, 2) := by decide +kernel
theorem dX11_sort_21 : decode cX11_sort 21 = .ok (.bipush 12, 2) := by decide +kernel
theorem dX11_sort_23 : decode cX11_sort 23 = .ok (.ishr, 1) := by decide +kernel
theorem dX11_sort_24 : decode cX11_sort 24 = .ok (.invokestatic 13, 3) := by decide +kernel
theorem dX11_sort_27 : decode cX11_sort 27 = .ok (.istore 5, 2) := by decide +kernel
theorem dX11_sort_29 : decode cX11_sort 29 = .ok (.iload 5, 2) := by decide +kernel
theorem dX11_sort_31 : decode cX11_sort 31 = .ok (.ifCond .ne 7, 3) := by decide +kernel
theorem dX11_sort_34 : decode cX11_sort 34 = .ok (.aconst_null, 1) := by decide +kernel
theorem dX11_sort_35 : decode cX11_sort 35 = .ok (.goto 7, 3) := by decide +kernel
theorem dX11_sort_38 : decode cX11_sort 38 = .ok (.iload 4, 2) := by decide +kernel
theorem dX11_sort_40 : decode cX11_sort 40 = .ok (.newarray .int, 2) := by decide +kernel
theorem dX11_sort_42 : decode cX11_sort 42 = .ok (.astore 6, 2) := by decide +kernel
theorem dX11_sort_44 : decode cX11_sort 44 = .ok (.new 17, 3) := by decide +kernel
theorem dX11_sort_47 : decode cX11_sort 47 = .ok (.dup, 1) := by decide +kernel
theorem dX11_sort_48 : decode cX11_sort 48 = .ok (.aconst_null, 1) := by decide +kernel
theorem dX11_sort_49 : decode cX11_sort 49 = .ok (.aload_n 0, 1) := by decide +kernel
theorem dX11_sort_50 : decode cX11_sort 50 = .ok (.aload 6, 2) := by decide +kernel
theorem dX11_sort_52 : decode cX11_sort 52 = .ok (.iload_n 2, 1) := by decide +kernel
theorem dX11_sort_53 : decode cX11_sort 53 = .ok (.iload 4, 2) := by decide +kernel
theorem dX11_sort_55 : decode cX11_sort 55 = .ok (.iload_n 2, 1) := by decide +kernel
theorem dX11_sort_56 : decode cX11_sort 56 = .ok (.iload 5, 2) := by decide +kernel
theorem dX11_sort_58 : decode cX11_sort 58 = .ok (.invokespecial 19, 3) := by decide +kernel
theorem dX11_sort_61 : decode cX11_sort 61 = .ok (.invokevirtual 22, 3) := by decide +kernel
theorem dX11_sort_64 : decode cX11_sort 64 = .ok (.pop, 1) := by decide +kernel
theorem dX11_sort_65 : decode cX11_sort 65 = .ok (.goto 11, 3) := by decide +kernel
theorem dX11_sort_68 : decode cX11_sort 68 = .ok (.aconst_null, 1) := by decide +kernel
theorem dX11_sort_69 : decode cX11_sort 69 = .ok (.aload_n 0, 1) := by decide +kernel
theorem dX11_sort_70 : decode cX11_sort 70 = .ok (.iconst 0, 1) := by decide +kernel
theorem dX11_sort_71 : decode cX11_sort 71 = .ok (.iload_n 2, 1) := by decide +kernel
theorem dX11_sort_72 : decode cX11_sort 72 = .ok (.iload_n 3, 1) := by decide +kernel
theorem dX11_sort_73 : decode cX11_sort 73 = .ok (.invokestatic 26, 3) := by decide +kernel
theorem dX11_sort_76 : decode cX11_sort 76 = .ok (.return_, 1) := by decide +kernel
theorem dX11_sort__0 : decode cX11_sort_ 0 = .ok (.iload 4, 2) := by decide +kernel
theorem dX11_sort__2 : decode cX11_sort_ 2 = .ok (.iconst 1, 1) := by decide +kernel
theorem dX11_sort__3 : decode cX11_sort_ 3 = .ok (.isub, 1) := by decide +kernel
theorem dX11_sort__4 : decode cX11_sort_ 4 = .ok (.istore 5, 2) := by decide +kernel
theorem dX11_sort__6 : decode cX11_sort_ 6 = .ok (.iload 4, 2) := by decide +kernel
theorem dX11_sort__8 : decode cX11_sort_ 8 = .ok (.iload_n 3, 1) := by decide +kernel
theorem dX11_sort__9 : decode cX11_sort_ 9 = .ok (.isub, 1) := by decide +kernel
theorem dX11_sort__10 : decode cX11_sort_ 10 = .ok (.istore 6, 2) := by decide +kernel
theorem dX11_sort__12 : decode cX11_sort_ 12 = .ok (.iload 6, 2) := by decide +kernel
theorem dX11_sort__14 : decode cX11_sort_ 14 = .ok (.bipush 65, 2) := by decide +kernel
theorem dX11_sort__16 : decode cX11_sort_ 16 = .ok (.iload_n 2, 1) := by decide +kernel
theorem dX11_sort__17 : decode cX11_sort_ 17 = .ok (.iadd, 1) := by decide +kernel
theorem dX11_sort__18 : decode cX11_sort_ 18 = .ok (.if_icmp .ge 28, 3) := by decide +kernel
theorem dX11_sort__21 : decode cX11_sort_ 21 = .ok (.iload_n 2, 1) := by decide +kernel
theorem dX11_sort__22 : decode cX11_sort_ 22 = .ok (.iconst 1, 1) := by decide +kernel
theorem dX11_sort__23 : decode cX11_sort_ 23 = .ok (.iand, 1) := by decide +kernel
theorem dX11_sort__24 : decode cX11_sort_ 24 = .ok (.ifCond .le 22, 3) := by decide +kernel
theorem dX11_sort__27 : decode cX11_sort_ 27 = .ok (.aload_n 1, 1) := by decide +kernel
theorem dX11_sort__28 : decode cX11_sort_ 28 = .ok (.iload_n 3, 1) := by decide +kernel
theorem dX11_sort__29 : decode cX11_sort_ 29 = .ok (.iload 4, 2) := by decide +kernel
theorem dX11_sort__31 : decode cX11_sort_ 31 = .ok (.iconst 3, 1) := by decide +kernel
theorem dX11_sort__32 : decode cX11_sort_ 32 = .ok (.iload 6, 2) := by decide +kernel
theorem dX11_sort__34 : decode cX11_sort_ 34 = .ok (.iconst 5, 1) := by decide +kernel
theorem dX11_sort__35 : decode cX11_sort_ 35 = .ok (.ishr, 1) := by decide +kernel
theorem dX11_sort__36 : decode cX11_sort_ 36 = .ok (.iconst 3, 1) := by decide +kernel
theorem dX11_sort__37 : decode cX11_sort_ 37 = .ok (.ishl, 1) := by decide +kernel
theorem dX11_sort__38 : decode cX11_sort_ 38 = .ok (.imul, 1) := by decide +kernel
theorem dX11_sort__39 : decode cX11_sort_ 39 = .ok (.isub, 1) := by decide +kernel
theorem dX11_sort__40 : decode cX11_sort_ 40 = .ok (.iload 4, 2) := by decide +kernel
theorem dX11_sort__42 : decode cX11_sort_ 42 = .ok (.invokestatic 30, 3) := by decide +kernel
theorem dX11_sort__45 : decode cX11_sort_ 45 = .ok (.return_, 1) := by decide +kernel
theorem dX11_sort__46 : decode cX11_sort_ 46 = .ok (.iload 6, 2) := by decide +kernel
theorem dX11_sort__48 : decode cX11_sort_ 48 = .ok (.bipush 44, 2) := by decide +kernel
theorem dX11_sort__50 : decode cX11_sort_ 50 = .ok (.if_icmp .ge 11, 3) := by decide +kernel
theorem dX11_sort__53 : decode cX11_sort_ 53 = .ok (.aload_n 1, 1) := by decide +kernel
theorem dX11_sort__54 : decode cX11_sort_ 54 = .ok (.iload_n 3, 1) := by decide +kernel
theorem dX11_sort__55 : decode cX11_sort_ 55 = .ok (.iload 4, 2) := by decide +kernel
theorem dX11_sort__57 : decode cX11_sort_ 57 = .ok (.invokestatic 34, 3) := by decide +kernel
theorem dX11_sort__60 : decode cX11_sort_ 60 = .ok (.return_, 1) := by decide +kernel
theorem dX11_sort__61 : decode cX11_sort_ 61 = .ok (.iload_n 2, 1) := by decide +kernel
theorem dX11_sort__62 : decode cX11_sort_ 62 = .ok (.ifCond .eq 17, 3) := by decide +kernel
theorem dX11_sort__65 : decode cX11_sort_ 65 = .ok (.iload 6, 2) := by decide +kernel
theorem dX11_sort__67 : decode cX11_sort_ 67 = .ok (.sipush 4096, 3) := by decide +kernel
theorem dX11_sort__70 : decode cX11_sort_ 70 = .ok (.if_icmp .le 21, 3) := by decide +kernel
theorem dX11_sort__73 : decode cX11_sort_ 73 = .ok (.iload_n 2, 1) := by decide +kernel
theorem dX11_sort__74 : decode cX11_sort_ 74 = .ok (.iconst 1, 1) := by decide +kernel
theorem dX11_sort__75 : decode cX11_sort_ 75 = .ok (.iand, 1) := by decide +kernel
theorem dX11_sort__76 : decode cX11_sort_ 76 = .ok (.ifCond .le 15, 3) := by decide +kernel
theorem dX11_sort__79 : decode cX11_sort_ 79 = .ok (.aload_n 0, 1) := by decide +kernel
theorem dX11_sort__80 : decode cX11_sort_ 80 = .ok (.aload_n 1, 1) := by decide +kernel
theorem dX11_sort__81 : decode cX11_sort_ 81 = .ok (.iload_n 3, 1) := by decide +kernel
theorem dX11_sort__82 : decode cX11_sort_ 82 = .ok (.iload 6, 2) := by decide +kernel
theorem dX11_sort__84 : decode cX11_sort_ 84 = .ok (.invokestatic 38, 3) := by decide +kernel
theorem dX11_sort__87 : decode cX11_sort_ 87 = .ok (.ifCond .eq 4, 3) := by decide +kernel
theorem dX11_sort__90 : decode cX11_sort_ 90 = .ok (.return_, 1) := by decide +kernel
theorem dX11_sort__91 : decode cX11_sort_ 91 = .ok (.iinc 2 6, 3) := by decide +kernel
theorem dX11_sort__94 : decode cX11_sort_ 94 = .ok (.iload_n 2, 1) := by decide +kernel
theorem dX11_sort__95 : decode cX11_sort_ 95 = .ok (.sipush 384, 3) := by decide +kernel
theorem dX11_sort__98 : decode cX11_sort_ 98 = .ok (.if_icmp .le 11, 3) := by decide +kernel
theorem dX11_sort__101 : decode cX11_sort_ 101 = .ok (.aload_n 1, 1) := by decide +kernel
theorem dX11_sort__102 : decode cX11_sort_ 102 = .ok (.iload_n 3, 1) := by decide +kernel
theorem dX11_sort__103 : decode cX11_sort_ 103 = .ok (.iload 4, 2) := by decide +kernel
theorem dX11_sort__105 : decode cX11_sort_ 105 = .ok (.invokestatic 42, 3) := by decide +kernel
theorem dX11_sort__108 : decode cX11_sort_ 108 = .ok (.return_, 1) := by decide +kernel
theorem dX11_sort__109 : decode cX11_sort_ 109 = .ok (.iload 6, 2) := by decide +kernel
theorem dX11_sort__111 : decode cX11_sort_ 111 = .ok (.iconst 3, 1) := by decide +kernel
theorem dX11_sort__112 : decode cX11_sort_ 112 = .ok (.ishr, 1) := by decide +kernel
theorem dX11_sort__113 : decode cX11_sort_ 113 = .ok (.iconst 3, 1) := by decide +kernel
theorem dX11_sort__114 : decode cX11_sort_ 114 = .ok (.imul, 1) := by decide +kernel
theorem dX11_sort__115 : decode cX11_sort_ 115 = .ok (.iconst 3, 1) := by decide +kernel
theorem dX11_sort__116 : decode cX11_sort_ 116 = .ok (.iadd, 1) := by decide +kernel
theorem dX11_sort__117 : decode cX11_sort_ 117 = .ok (.istore 7, 2) := by decide +kernel
theorem dX11_sort__119 : decode cX11_sort_ 119 = .ok (.iload_n 3, 1) := by decide +kernel
theorem dX11_sort__120 : decode cX11_sort_ 120 = .ok (.iload 7, 2) := by decide +kernel
theorem dX11_sort__122 : decode cX11_sort_ 122 = .ok (.iadd, 1) := by decide +kernel
theorem dX11_sort__123 : decode cX11_sort_ 123 = .ok (.istore 8, 2) := by decide +kernel
theorem dX11_sort__125 : decode cX11_sort_ 125 = .ok (.iload 5, 2) := by decide +kernel
theorem dX11_sort__127 : decode cX11_sort_ 127 = .ok (.iload 7, 2) := by decide +kernel
theorem dX11_sort__129 : decode cX11_sort_ 129 = .ok (.isub, 1) := by decide +kernel
theorem dX11_sort__130 : decode cX11_sort_ 130 = .ok (.istore 9, 2) := by decide +kernel
theorem dX11_sort__132 : decode cX11_sort_ 132 = .ok (.iload 8, 2) := by decide +kernel
theorem dX11_sort__134 : decode cX11_sort_ 134 = .ok (.iload 9, 2) := by decide +kernel
theorem dX11_sort__136 : decode cX11_sort_ 136 = .ok (.iadd, 1) := by decide +kernel
theorem dX11_sort__137 : decode cX11_sort_ 137 = .ok (.iconst 1, 1) := by decide +kernel
theorem dX11_sort__138 : decode cX11_sort_ 138 = .ok (.iushr, 1) := by decide +kernel
theorem dX11_sort__139 : decode cX11_sort_ 139 = .ok (.istore 10, 2) := by decide +kernel
theorem dX11_sort__141 : decode cX11_sort_ 141 = .ok (.iload 8, 2) := by decide +kernel
theorem dX11_sort__143 : decode cX11_sort_ 143 = .ok (.iload 10, 2) := by decide +kernel
theorem dX11_sort__145 : decode cX11_sort_ 145 = .ok (.iadd, 1) := by decide +kernel
theorem dX11_sort__146 : decode cX11_sort_ 146 = .ok (.iconst 1, 1) := by decide +kernel
theorem dX11_sort__147 : decode cX11_sort_ 147 = .ok (.iushr, 1) := by decide +kernel
theorem dX11_sort__148 : decode cX11_sort_ 148 = .ok (.istore 11, 2) := by decide +kernel
theorem dX11_sort__150 : decode cX11_sort_ 150 = .ok (.iload 10, 2) := by decide +kernel
theorem dX11_sort__152 : decode cX11_sort_ 152 = .ok (.iload 9, 2) := by decide +kernel
theorem dX11_sort__154 : decode cX11_sort_ 154 = .ok (.iadd, 1) := by decide +kernel
theorem dX11_sort__155 : decode cX11_sort_ 155 = .ok (.iconst 1, 1) := by decide +kernel
theorem dX11_sort__156 : decode cX11_sort_ 156 = .ok (.iushr, 1) := by decide +kernel
theorem dX11_sort__157 : decode cX11_sort_ 157 = .ok (.istore 12, 2) := by decide +kernel
theorem dX11_sort__159 : decode cX11_sort_ 159 = .ok (.aload_n 1, 1) := by decide +kernel
theorem dX11_sort__160 : decode cX11_sort_ 160 = .ok (.iload 10, 2) := by decide +kernel
theorem dX11_sort__162 : decode cX11_sort_ 162 = .ok (.iaload, 1) := by decide +kernel
theorem dX11_sort__163 : decode cX11_sort_ 163 = .ok (.istore 13, 2) := by decide +kernel
theorem dX11_sort__165 : decode cX11_sort_ 165 = .ok (.aload_n 1, 1) := by decide +kernel
theorem dX11_sort__166 : decode cX11_sort_ 166 = .ok (.iload 9, 2) := by decide +kernel
theorem dX11_sort__168 : decode cX11_sort_ 168 = .ok (.iaload, 1) := by decide +kernel
theorem dX11_sort__169 : decode cX11_sort_ 169 = .ok (.aload_n 1, 1) := by decide +kernel
theorem dX11_sort__170 : decode cX11_sort_ 170 = .ok (.iload 11, 2) := by decide +kernel
theorem dX11_sort__172 : decode cX11_sort_ 172 = .ok (.iaload, 1) := by decide +kernel
theorem dX11_sort__173 : decode cX11_sort_ 173 = .ok (.if_icmp .ge 23, 3) := by decide +kernel
theorem dX11_sort__176 : decode cX11_sort_ 176 = .ok (.aload_n 1, 1) := by decide +kernel
theorem dX11_sort__177 : decode cX11_sort_ 177 = .ok (.iload 9, 2) := by decide +kernel
theorem dX11_sort__179 : decode cX11_sort_ 179 = .ok (.iaload, 1) := by decide +kernel
theorem dX11_sort__180 : decode cX11_sort_ 180 = .ok (.istore 14, 2) := by decide +kernel
theorem dX11_sort__182 : decode cX11_sort_ 182 = .ok (.aload_n 1, 1) := by decide +kernel
theorem dX11_sort__183 : decode cX11_sort_ 183 = .ok (.iload 9, 2) := by decide +kernel
theorem dX11_sort__185 : decode cX11_sort_ 185 = .ok (.aload_n 1, 1) := by decide +kernel
theorem dX11_sort__186 : decode cX11_sort_ 186 = .ok (.iload 11, 2) := by decide +kernel
theorem dX11_sort__188 : decode cX11_sort_ 188 = .ok (.iaload, 1) := by decide +kernel
theorem dX11_sort__189 : decode cX11_sort_ 189 = .ok (.iastore, 1) := by decide +kernel
theorem dX11_sort__190 : decode cX11_sort_ 190 = .ok (.aload_n 1, 1) := by decide +kernel
theorem dX11_sort__191 : decode cX11_sort_ 191 = .ok (.iload 11, 2) := by decide +kernel
theorem dX11_sort__193 : decode cX11_sort_ 193 = .ok (.iload 14, 2) := by decide +kernel
theorem dX11_sort__195 : decode cX11_sort_ 195 = .ok (.iastore, 1) := by decide +kernel
theorem dX11_sort__196 : decode cX11_sort_ 196 = .ok (.aload_n 1, 1) := by decide +kernel
theorem dX11_sort__197 : decode cX11_sort_ 197 = .ok (.iload 12, 2) := by decide +kernel
theorem dX11_sort__199 : decode cX11_sort_ 199 = .ok (.iaload, 1) := by decide +kernel
theorem dX11_sort__200 : decode cX11_sort_ 200 = .ok (.aload_n 1, 1) := by decide +kernel
theorem dX11_sort__201 : decode cX11_sort_ 201 = .ok (.iload 8, 2) := by decide +kernel
theorem dX11_sort__203 : decode cX11_sort_ 203 = .ok (.iaload, 1) := by decide +kernel
theorem dX11_sort__204 : decode cX11_sort_ 204 = .ok (.if_icmp .ge 23, 3) := by decide +kernel
theorem dX11_sort__207 : decode cX11_sort_ 207 = .ok (.aload_n 1, 1) := by decide +kernel
theorem dX11_sort__208 : decode cX11_sort_ 208 = .ok (.iload 12, 2) := by decide +kernel
theorem dX11_sort__210 : decode cX11_sort_ 210 = .ok (.iaload, 1) := by decide +kernel
theorem dX11_sort__211 : decode cX11_sort_ 211 = .ok (.istore 14, 2) := by decide +kernel
theorem dX11_sort__213 : decode cX11_sort_ 213 = .ok (.aload_n 1, 1) := by decide +kernel
theorem dX11_sort__214 : decode cX11_sort_ 214 = .ok (.iload 12, 2) := by decide +kernel
theorem dX11_sort__216 : decode cX11_sort_ 216 = .ok (.aload_n 1, 1) := by decide +kernel
theorem dX11_sort__217 : decode cX11_sort_ 217 = .ok (.iload 8, 2) := by decide +kernel
theorem dX11_sort__219 : decode cX11_sort_ 219 = .ok (.iaload, 1) := by decide +kernel
theorem dX11_sort__220 : decode cX11_sort_ 220 = .ok (.iastore, 1) := by decide +kernel
theorem dX11_sort__221 : decode cX11_sort_ 221 = .ok (.aload_n 1, 1) := by decide +kernel
theorem dX11_sort__222 : decode cX11_sort_ 222 = .ok (.iload 8, 2) := by decide +kernel
theorem dX11_sort__224 : decode cX11_sort_ 224 = .ok (.iload 14, 2) := by decide +kernel
theorem dX11_sort__226 : decode cX11_sort_ 226 = .ok (.iastore, 1) := by decide +kernel
theorem dX11_sort__227 : decode cX11_sort_ 227 = .ok (.aload_n 1, 1) := by decide +kernel
theorem dX11_sort__228 : decode cX11_sort_ 228 = .ok (.iload 9, 2) := by decide +kernel
theorem dX11_sort__230 : decode cX11_sort_ 230 = .ok (.iaload, 1) := by decide +kernel
theorem dX11_sort__231 : decode cX11_sort_ 231 = .ok (.aload_n 1, 1) := by decide +kernel
theorem dX11_sort__232 : decode cX11_sort_ 232 = .ok (.iload 12, 2) := by decide +kernel
theorem dX11_sort__234 : decode cX11_sort_ 234 = .ok (.iaload, 1) := by decide +kernel
theorem dX11_sort__235 : decode cX11_sort_ 235 = .ok (.if_icmp .ge 23, 3) := by decide +kernel
theorem dX11_sort__238 : decode cX11_sort_ 238 = .ok (.aload_n 1, 1) := by decide +kernel
theorem dX11_sort__239 : decode cX11_sort_ 239 = .ok (.iload 9, 2) := by decide +kernel
theorem dX11_sort__241 : decode cX11_sort_ 241 = .ok (.iaload, 1) := by decide +kernel
theorem dX11_sort__242 : decode cX11_sort_ 242 = .ok (.istore 14, 2) := by decide +kernel
theorem dX11_sort__244 : decode cX11_sort_ 244 = .ok (.aload_n 1, 1) := by decide +kernel
theorem dX11_sort__245 : decode cX11_sort_ 245 = .ok (.iload 9, 2) := by decide +kernel
theorem dX11_sort__247 : decode cX11_sort_ 247 = .ok (.aload_n 1, 1) := by decide +kernel
theorem dX11_sort__248 : decode cX11_sort_ 248 = .ok (.iload 12, 2) := by decide +kernel
theorem dX11_sort__250 : decode cX11_sort_ 250 = .ok (.iaload, 1) := by decide +kernel
theorem dX11_sort__251 : decode cX11_sort_ 251 = .ok (.iastore, 1) := by decide +kernel
theorem dX11_sort__252 : decode cX11_sort_ 252 = .ok (.aload_n 1, 1) := by decide +kernel
theorem dX11_sort__253 : decode cX11_sort_ 253 = .ok (.iload 12, 2) := by decide +kernel
theorem dX11_sort__255 : decode cX11_sort_ 255 = .ok (.iload 14, 2) := by decide +kernel
theorem dX11_sort__257 : decode cX11_sort_ 257 = .ok (.iastore, 1) := by decide +kernel
theorem dX11_sort__258 : decode cX11_sort_ 258 = .ok (.aload_n 1, 1) := by decide +kernel
theorem dX11_sort__259 : decode cX11_sort_ 259 = .ok (.iload 11, 2) := by decide +kernel
theorem dX11_sort__261 : decode cX11_sort_ 261 = .ok (.iaload, 1) := by decide +kernel
theorem dX11_sort__262 : decode cX11_sort_ 262 = .ok (.aload_n 1, 1) := by decide +kernel
theorem dX11_sort__263 : decode cX11_sort_ 263 = .ok (.iload 8, 2) := by decide +kernel
theorem dX11_sort__265 : decode cX11_sort_ 265 = .ok (.iaload, 1) := by decide +kernel
theorem dX11_sort__266 : decode cX11_sort_ 266 = .ok (.if_icmp .ge 23, 3) := by decide +kernel
theorem dX11_sort__269 : decode cX11_sort_ 269 = .ok (.aload_n 1, 1) := by decide +kernel
theorem dX11_sort__270 : decode cX11_sort_ 270 = .ok (.iload 11, 2) := by decide +kernel
theorem dX11_sort__272 : decode cX11_sort_ 272 = .ok (.iaload, 1) := by decide +kernel
theorem dX11_sort__273 : decode cX11_sort_ 273 = .ok (.istore 14, 2) := by decide +kernel
theorem dX11_sort__275 : decode cX11_sort_ 275 = .ok (.aload_n 1, 1) := by decide +kernel
theorem dX11_sort__276 : decode cX11_sort_ 276 = .ok (.iload 11, 2) := by decide +kernel
theorem dX11_sort__278 : decode cX11_sort_ 278 = .ok (.aload_n 1, 1) := by decide +kernel
theorem dX11_sort__279 : decode cX11_sort_ 279 = .ok (.iload 8, 2) := by decide +kernel
theorem dX11_sort__281 : decode cX11_sort_ 281 = .ok (.iaload, 1) := by decide +kernel
theorem dX11_sort__282 : decode cX11_sort_ 282 = .ok (.iastore, 1) := by decide +kernel
theorem dX11_sort__283 : decode cX11_sort_ 283 = .ok (.aload_n 1, 1) := by decide +kernel
theorem dX11_sort__284 : decode cX11_sort_ 284 = .ok (.iload 8, 2) := by decide +kernel
theorem dX11_sort__286 : decode cX11_sort_ 286 = .ok (.iload 14, 2) := by decide +kernel
theorem dX11_sort__288 : decode cX11_sort_ 288 = .ok (.iastore, 1) := by decide +kernel
theorem dX11_sort__289 : decode cX11_sort_ 289 = .ok (.aload_n 1, 1) := by decide +kernel
theorem dX11_sort__290 : decode cX11_sort_ 290 = .ok (.iload 12, 2) := by decide +kernel
theorem dX11_sort__292 : decode cX11_sort_ 292 = .ok (.iaload, 1) := by decide +kernel
theorem dX11_sort__293 : decode cX11_sort_ 293 = .ok (.aload_n 1, 1) := by decide +kernel
theorem dX11_sort__294 : decode cX11_sort_ 294 = .ok (.iload 11, 2) := by decide +kernel
theorem dX11_sort__296 : decode cX11_sort_ 296 = .ok (.iaload, 1) := by decide +kernel
theorem dX11_sort__297 : decode cX11_sort_ 297 = .ok (.if_icmp .ge 23, 3) := by decide +kernel
theorem dX11_sort__300 : decode cX11_sort_ 300 = .ok (.aload_n 1, 1) := by decide +kernel
theorem dX11_sort__301 : decode cX11_sort_ 301 = .ok (.iload 12, 2) := by decide +kernel
theorem dX11_sort__303 : decode cX11_sort_ 303 = .ok (.iaload, 1) := by decide +kernel
theorem dX11_sort__304 : decode cX11_sort_ 304 = .ok (.istore 14, 2) := by decide +kernel
theorem dX11_sort__306 : decode cX11_sort_ 306 = .ok (.aload_n 1, 1) := by decide +kernel
theorem dX11_sort__307 : decode cX11_sort_ 307 = .ok (.iload 12, 2) := by decide +kernel
theorem dX11_sort__309 : decode cX11_sort_ 309 = .ok (.aload_n 1, 1) := by decide +kernel
theorem dX11_sort__310 : decode cX11_sort_ 310 = .ok (.iload 11, 2) := by decide +kernel
theorem dX11_sort__312 : decode cX11_sort_ 312 = .ok (.iaload, 1) := by decide +kernel
theorem dX11_sort__313 : decode cX11_sort_ 313 = .ok (.iastore, 1) := by decide +kernel
theorem dX11_sort__314 : decode cX11_sort_ 314 = .ok (.aload_n 1, 1) := by decide +kernel
theorem dX11_sort__315 : decode cX11_sort_ 315 = .ok (.iload 11, 2) := by decide +kernel
theorem dX11_sort__317 : decode cX11_sort_ 317 = .ok (.iload 14, 2) := by decide +kernel
theorem dX11_sort__319 : decode cX11_sort_ 319 = .ok (.iastore, 1) := by decide +kernel
theorem dX11_sort__320 : decode cX11_sort_ 320 = .ok (.iload 13, 2) := by decide +kernel
theorem dX11_sort__322 : decode cX11_sort_ 322 = .ok (.aload_n 1, 1) := by decide +kernel
theorem dX11_sort__323 : decode cX11_sort_ 323 = .ok (.iload 11, 2) := by decide +kernel
theorem dX11_sort__325 : decode cX11_sort_ 325 = .ok (.iaload, 1) := by decide +kernel
theorem dX11_sort__326 : decode cX11_sort_ 326 = .ok (.if_icmp .ge 54, 3) := by decide +kernel
theorem dX11_sort__329 : decode cX11_sort_ 329 = .ok (.iload 13, 2) := by decide +kernel
theorem dX11_sort__331 : decode cX11_sort_ 331 = .ok (.aload_n 1, 1) := by decide +kernel
theorem dX11_sort__332 : decode cX11_sort_ 332 = .ok (.iload 8, 2) := by decide +kernel
theorem dX11_sort__334 : decode cX11_sort_ 334 = .ok (.iaload, 1) := by decide +kernel
theorem dX11_sort__335 : decode cX11_sort_ 335 = .ok (.if_icmp .ge 28, 3) := by decide +kernel
theorem dX11_sort__338 : decode cX11_sort_ 338 = .ok (.aload_n 1, 1) := by decide +kernel
theorem dX11_sort__339 : decode cX11_sort_ 339 = .ok (.iload 10, 2) := by decide +kernel
theorem dX11_sort__341 : decode cX11_sort_ 341 = .ok (.aload_n 1, 1) := by decide +kernel
theorem dX11_sort__342 : decode cX11_sort_ 342 = .ok (.iload 11, 2) := by decide +kernel
theorem dX11_sort__344 : decode cX11_sort_ 344 = .ok (.iaload, 1) := by decide +kernel
theorem dX11_sort__345 : decode cX11_sort_ 345 = .ok (.iastore, 1) := by decide +kernel
theorem dX11_sort__346 : decode cX11_sort_ 346 = .ok (.aload_n 1, 1) := by decide +kernel
theorem dX11_sort__347 : decode cX11_sort_ 347 = .ok (.iload 11, 2) := by decide +kernel
theorem dX11_sort__349 : decode cX11_sort_ 349 = .ok (.aload_n 1, 1) := by decide +kernel
theorem dX11_sort__350 : decode cX11_sort_ 350 = .ok (.iload 8, 2) := by decide +kernel
theorem dX11_sort__352 : decode cX11_sort_ 352 = .ok (.iaload, 1) := by decide +kernel
theorem dX11_sort__353 : decode cX11_sort_ 353 = .ok (.iastore, 1) := by decide +kernel
theorem dX11_sort__354 : decode cX11_sort_ 354 = .ok (.aload_n 1, 1) := by decide +kernel
theorem dX11_sort__355 : decode cX11_sort_ 355 = .ok (.iload 8, 2) := by decide +kernel
theorem dX11_sort__357 : decode cX11_sort_ 357 = .ok (.iload 13, 2) := by decide +kernel
theorem dX11_sort__359 : decode cX11_sort_ 359 = .ok (.iastore, 1) := by decide +kernel
theorem dX11_sort__360 : decode cX11_sort_ 360 = .ok (.goto 77, 3) := by decide +kernel
theorem dX11_sort__363 : decode cX11_sort_ 363 = .ok (.aload_n 1, 1) := by decide +kernel
theorem dX11_sort__364 : decode cX11_sort_ 364 = .ok (.iload 10, 2) := by decide +kernel
theorem dX11_sort__366 : decode cX11_sort_ 366 = .ok (.aload_n 1, 1) := by decide +kernel
theorem dX11_sort__367 : decode cX11_sort_ 367 = .ok (.iload 11, 2) := by decide +kernel
theorem dX11_sort__369 : decode cX11_sort_ 369 = .ok (.iaload, 1) := by decide +kernel
theorem dX11_sort__370 : decode cX11_sort_ 370 = .ok (.iastore, 1) := by decide +kernel
theorem dX11_sort__371 : decode cX11_sort_ 371 = .ok (.aload_n 1, 1) := by decide +kernel
theorem dX11_sort__372 : decode cX11_sort_ 372 = .ok (.iload 11, 2) := by decide +kernel
theorem dX11_sort__374 : decode cX11_sort_ 374 = .ok (.iload 13, 2) := by decide +kernel
theorem dX11_sort__376 : decode cX11_sort_ 376 = .ok (.iastore, 1) := by decide +kernel
theorem dX11_sort__377 : decode cX11_sort_ 377 = .ok (.goto 60, 3) := by decide +kernel
theorem dX11_sort__380 : decode cX11_sort_ 380 = .ok (.iload 13, 2) := by decide +kernel
theorem dX11_sort__382 : decode cX11_sort_ 382 = .ok (.aload_n 1, 1) := by decide +kernel
theorem dX11_sort__383 : decode cX11_sort_ 383 = .ok (.iload 12, 2) := by decide +kernel
theorem dX11_sort__385 : decode cX11_sort_ 385 = .ok (.iaload, 1) := by decide +kernel
theorem dX11_sort__386 : decode cX11_sort_ 386 = .ok (.if_icmp .le 51, 3) := by decide +kernel
theorem dX11_sort__389 : decode cX11_sort_ 389 = .ok (.iload 13, 2) := by decide +kernel
theorem dX11_sort__391 : decode cX11_sort_ 391 = .ok (.aload_n 1, 1) := by decide +kernel
theorem dX11_sort__392 : decode cX11_sort_ 392 = .ok (.iload 9, 2) := by decide +kernel
theorem dX11_sort__394 : decode cX11_sort_ 394 = .ok (.iaload, 1) := by decide +kernel
theorem dX11_sort__395 : decode cX11_sort_ 395 = .ok (.if_icmp .le 28, 3) := by decide +kernel
theorem dX11_sort__398 : decode cX11_sort_ 398 = .ok (.aload_n 1, 1) := by decide +kernel
theorem dX11_sort__399 : decode cX11_sort_ 399 = .ok (.iload 10, 2) := by decide +kernel
theorem dX11_sort__401 : decode cX11_sort_ 401 = .ok (.aload_n 1, 1) := by decide +kernel
theorem dX11_sort__402 : decode cX11_sort_ 402 = .ok (.iload 12, 2) := by decide +kernel
theorem dX11_sort__404 : decode cX11_sort_ 404 = .ok (.iaload, 1) := by decide +kernel
theorem dX11_sort__405 : decode cX11_sort_ 405 = .ok (.iastore, 1) := by decide +kernel
theorem dX11_sort__406 : decode cX11_sort_ 406 = .ok (.aload_n 1, 1) := by decide +kernel
theorem dX11_sort__407 : decode cX11_sort_ 407 = .ok (.iload 12, 2) := by decide +kernel
theorem dX11_sort__409 : decode cX11_sort_ 409 = .ok (.aload_n 1, 1) := by decide +kernel
theorem dX11_sort__410 : decode cX11_sort_ 410 = .ok (.iload 9, 2) := by decide +kernel
theorem dX11_sort__412 : decode cX11_sort_ 412 = .ok (.iaload, 1) := by decide +kernel
theorem dX11_sort__413 : decode cX11_sort_ 413 = .ok (.iastore, 1) := by decide +kernel
theorem dX11_sort__414 : decode cX11_sort_ 414 = .ok (.aload_n 1, 1) := by decide +kernel
theorem dX11_sort__415 : decode cX11_sort_ 415 = .ok (.iload 9, 2) := by decide +kernel
theorem dX11_sort__417 : decode cX11_sort_ 417 = .ok (.iload 13, 2) := by decide +kernel
theorem dX11_sort__419 : decode cX11_sort_ 419 = .ok (.iastore, 1) := by decide +kernel
theorem dX11_sort__420 : decode cX11_sort_ 420 = .ok (.goto 17, 3) := by decide +kernel
theorem dX11_sort__423 : decode cX11_sort_ 423 = .ok (.aload_n 1, 1) := by decide +kernel
theorem dX11_sort__424 : decode cX11_sort_ 424 = .ok (.iload 10, 2) := by decide +kernel
theorem dX11_sort__426 : decode cX11_sort_ 426 = .ok (.aload_n 1, 1) := by decide +kernel
theorem dX11_sort__427 : decode cX11_sort_ 427 = .ok (.iload 12, 2) := by decide +kernel
theorem dX11_sort__429 : decode cX11_sort_ 429 = .ok (.iaload, 1) := by decide +kernel
theorem dX11_sort__430 : decode cX11_sort_ 430 = .ok (.iastore, 1) := by decide +kernel
theorem dX11_sort__431 : decode cX11_sort_ 431 = .ok (.aload_n 1, 1) := by decide +kernel
theorem dX11_sort__432 : decode cX11_sort_ 432 = .ok (.iload 12, 2) := by decide +kernel
theorem dX11_sort__434 : decode cX11_sort_ 434 = .ok (.iload 13, 2) := by decide +kernel
theorem dX11_sort__436 : decode cX11_sort_ 436 = .ok (.iastore, 1) := by decide +kernel
theorem dX11_sort__437 : decode cX11_sort_ 437 = .ok (.iload_n 3, 1) := by decide +kernel
theorem dX11_sort__438 : decode cX11_sort_ 438 = .ok (.istore 14, 2) := by decide +kernel
theorem dX11_sort__440 : decode cX11_sort_ 440 = .ok (.iload 5, 2) := by decide +kernel
theorem dX11_sort__442 : decode cX11_sort_ 442 = .ok (.istore 15, 2) := by decide +kernel
theorem dX11_sort__444 : decode cX11_sort_ 444 = .ok (.aload_n 1, 1) := by decide +kernel
theorem dX11_sort__445 : decode cX11_sort_ 445 = .ok (.iload 8, 2) := by decide +kernel
theorem dX11_sort__447 : decode cX11_sort_ 447 = .ok (.iaload, 1) := by decide +kernel
theorem dX11_sort__448 : decode cX11_sort_ 448 = .ok (.aload_n 1, 1) := by decide +kernel
theorem dX11_sort__449 : decode cX11_sort_ 449 = .ok (.iload 11, 2) := by decide +kernel
theorem dX11_sort__451 : decode cX11_sort_ 451 = .ok (.iaload, 1) := by decide +kernel
theorem dX11_sort__452 : decode cX11_sort_ 452 = .ok (.if_icmp .ge 324, 3) := by decide +kernel
theorem dX11_sort__455 : decode cX11_sort_ 455 = .ok (.aload_n 1, 1) := by decide +kernel
theorem dX11_sort__456 : decode cX11_sort_ 456 = .ok (.iload 11, 2) := by decide +kernel
theorem dX11_sort__458 : decode cX11_sort_ 458 = .ok (.iaload, 1) := by decide +kernel
theorem dX11_sort__459 : decode cX11_sort_ 459 = .ok (.aload_n 1, 1) := by decide +kernel
theorem dX11_sort__460 : decode cX11_sort_ 460 = .ok (.iload 10, 2) := by decide +kernel
theorem dX11_sort__462 : decode cX11_sort_ 462 = .ok (.iaload, 1) := by decide +kernel
theorem dX11_sort__463 : decode cX11_sort_ 463 = .ok (.if_icmp .ge 313, 3) := by decide +kernel
theorem dX11_sort__466 : decode cX11_sort_ 466 = .ok (.aload_n 1, 1) := by decide +kernel
theorem dX11_sort__467 : decode cX11_sort_ 467 = .ok (.iload 10, 2) := by decide +kernel
theorem dX11_sort__469 : decode cX11_sort_ 469 = .ok (.iaload, 1) := by decide +kernel
theorem dX11_sort__470 : decode cX11_sort_ 470 = .ok (.aload_n 1, 1) := by decide +kernel
theorem dX11_sort__471 : decode cX11_sort_ 471 = .ok (.iload 12, 2) := by decide +kernel
theorem dX11_sort__473 : decode cX11_sort_ 473 = .ok (.iaload, 1) := by decide +kernel
theorem dX11_sort__474 : decode cX11_sort_ 474 = .ok (.if_icmp .ge 302, 3) := by decide +kernel
theorem dX11_sort__477 : decode cX11_sort_ 477 = .ok (.aload_n 1, 1) := by decide +kernel
theorem dX11_sort__478 : decode cX11_sort_ 478 = .ok (.iload 12, 2) := by decide +kernel
theorem dX11_sort__480 : decode cX11_sort_ 480 = .ok (.iaload, 1) := by decide +kernel
theorem dX11_sort__481 : decode cX11_sort_ 481 = .ok (.aload_n 1, 1) := by decide +kernel
theorem dX11_sort__482 : decode cX11_sort_ 482 = .ok (.iload 9, 2) := by decide +kernel
theorem dX11_sort__484 : decode cX11_sort_ 484 = .ok (.iaload, 1) := by decide +kernel
theorem dX11_sort__485 : decode cX11_sort_ 485 = .ok (.if_icmp .ge 291, 3) := by decide +kernel
theorem dX11_sort__488 : decode cX11_sort_ 488 = .ok (.aload_n 1, 1) := by decide +kernel
theorem dX11_sort__489 : decode cX11_sort_ 489 = .ok (.iload 8, 2) := by decide +kernel
theorem dX11_sort__491 : decode cX11_sort_ 491 = .ok (.iaload, 1) := by decide +kernel
theorem dX11_sort__492 : decode cX11_sort_ 492 = .ok (.istore 16, 2) := by decide +kernel
theorem dX11_sort__494 : decode cX11_sort_ 494 = .ok (.aload_n 1, 1) := by decide +kernel
theorem dX11_sort__495 : decode cX11_sort_ 495 = .ok (.iload 9, 2) := by decide +kernel
theorem dX11_sort__497 : decode cX11_sort_ 497 = .ok (.iaload, 1) := by decide +kernel
theorem dX11_sort__498 : decode cX11_sort_ 498 = .ok (.istore 17, 2) := by decide +kernel
theorem dX11_sort__500 : decode cX11_sort_ 500 = .ok (.aload_n 1, 1) := by decide +kernel
theorem dX11_sort__501 : decode cX11_sort_ 501 = .ok (.iload 8, 2) := by decide +kernel
theorem dX11_sort__503 : decode cX11_sort_ 503 = .ok (.aload_n 1, 1) := by decide +kernel
theorem dX11_sort__504 : decode cX11_sort_ 504 = .ok (.iload 14, 2) := by decide +kernel
theorem dX11_sort__506 : decode cX11_sort_ 506 = .ok (.iaload, 1) := by decide +kernel
theorem dX11_sort__507 : decode cX11_sort_ 507 = .ok (.iastore, 1) := by decide +kernel
theorem dX11_sort__508 : decode cX11_sort_ 508 = .ok (.aload_n 1, 1) := by decide +kernel
theorem dX11_sort__509 : decode cX11_sort_ 509 = .ok (.iload 9, 2) := by decide +kernel
theorem dX11_sort__511 : decode cX11_sort_ 511 = .ok (.aload_n 1, 1) := by decide +kernel
theorem dX11_sort__512 : decode cX11_sort_ 512 = .ok (.iload 15, 2) := by decide +kernel
theorem dX11_sort__514 : decode cX11_sort_ 514 = .ok (.iaload, 1) := by decide +kernel
theorem dX11_sort__515 : decode cX11_sort_ 515 = .ok (.iastore, 1) := by decide +kernel
theorem dX11_sort__516 : decode cX11_sort_ 516 = .ok (.aload_n 1, 1) := by decide +kernel
theorem dX11_sort__517 : decode cX11_sort_ 517 = .ok (.iinc 14 1, 3) := by decide +kernel
theorem dX11_sort__520 : decode cX11_sort_ 520 = .ok (.iload 14, 2) := by decide +kernel
theorem dX11_sort__522 : decode cX11_sort_ 522 = .ok (.iaload, 1) := by decide +kernel
theorem dX11_sort__523 : decode cX11_sort_ 523 = .ok (.iload 16, 2) := by decide +kernel
theorem dX11_sort__525 : decode cX11_sort_ 525 = .ok (.if_icmp .ge 6, 3) := by decide +kernel
theorem dX11_sort__528 : decode cX11_sort_ 528 = .ok (.goto (-12), 3) := by decide +kernel
theorem dX11_sort__531 : decode cX11_sort_ 531 = .ok (.aload_n 1, 1) := by decide +kernel
theorem dX11_sort__532 : decode cX11_sort_ 532 = .ok (.iinc 15 (-1), 3) := by decide +kernel
theorem dX11_sort__535 : decode cX11_sort_ 535 = .ok (.iload 15, 2) := by decide +kernel
theorem dX11_sort__537 : decode cX11_sort_ 537 = .ok (.iaload, 1) := by decide +kernel
theorem dX11_sort__538 : decode cX11_sort_ 538 = .ok (.iload 17, 2) := by decide +kernel
theorem dX11_sort__540 : decode cX11_sort_ 540 = .ok (.if_icmp .le 6, 3) := by decide +kernel
theorem dX11_sort__543 : decode cX11_sort_ 543 = .ok (.goto (-12), 3) := by decide +kernel
theorem dX11_sort__546 : decode cX11_sort_ 546 = .ok (.iinc 14 (-1), 3) := by decide +kernel
theorem dX11_sort__549 : decode cX11_sort_ 549 = .ok (.iload 14, 2) := by decide +kernel
theorem dX11_sort__551 : decode cX11_sort_ 551 = .ok (.istore 18, 2) := by decide +kernel
theorem dX11_sort__553 : decode cX11_sort_ 553 = .ok (.iinc 15 1, 3) := by decide +kernel
theorem dX11_sort__556 : decode cX11_sort_ 556 = .ok (.iload 15, 2) := by decide +kernel
theorem dX11_sort__558 : decode cX11_sort_ 558 = .ok (.istore 19, 2) := by decide +kernel
theorem dX11_sort__560 : decode cX11_sort_ 560 = .ok (.iinc 19 (-1), 3) := by decide +kernel
theorem dX11_sort__563 : decode cX11_sort_ 563 = .ok (.iload 19, 2) := by decide +kernel
theorem dX11_sort__565 : decode cX11_sort_ 565 = .ok (.iload 14, 2) := by decide +kernel
theorem dX11_sort__567 : decode cX11_sort_ 567 = .ok (.if_icmp .le 110, 3) := by decide +kernel
theorem dX11_sort__570 : decode cX11_sort_ 570 = .ok (.aload_n 1, 1) := by decide +kernel
theorem dX11_sort__571 : decode cX11_sort_ 571 = .ok (.iload 19, 2) := by decide +kernel
theorem dX11_sort__573 : decode cX11_sort_ 573 = .ok (.iaload, 1) := by decide +kernel
theorem dX11_sort__574 : decode cX11_sort_ 574 = .ok (.istore 20, 2) := by decide +kernel
theorem dX11_sort__576 : decode cX11_sort_ 576 = .ok (.iload 20, 2) := by decide +kernel
theorem dX11_sort__578 : decode cX11_sort_ 578 = .ok (.iload 16, 2) := by decide +kernel
theorem dX11_sort__580 : decode cX11_sort_ 580 = .ok (.if_icmp .ge 70, 3) := by decide +kernel
theorem dX11_sort__583 : decode cX11_sort_ 583 = .ok (.iload 14, 2) := by decide +kernel
theorem dX11_sort__585 : decode cX11_sort_ 585 = .ok (.iload 19, 2) := by decide +kernel
theorem dX11_sort__587 : decode cX11_sort_ 587 = .ok (.if_icmp .ge 87, 3) := by decide +kernel
theorem dX11_sort__590 : decode cX11_sort_ 590 = .ok (.aload_n 1, 1) := by decide +kernel
theorem dX11_sort__591 : decode cX11_sort_ 591 = .ok (.iinc 14 1, 3) := by decide +kernel
theorem dX11_sort__594 : decode cX11_sort_ 594 = .ok (.iload 14, 2) := by decide +kernel
theorem dX11_sort__596 : decode cX11_sort_ 596 = .ok (.iaload, 1) := by decide +kernel
theorem dX11_sort__597 : decode cX11_sort_ 597 = .ok (.iload 16, 2) := by decide +kernel
theorem dX11_sort__599 : decode cX11_sort_ 599 = .ok (.if_icmp .lt (-16), 3) := by decide +kernel
theorem dX11_sort__602 : decode cX11_sort_ 602 = .ok (.aload_n 1, 1) := by decide +kernel
theorem dX11_sort__603 : decode cX11_sort_ 603 = .ok (.iload 14, 2) := by decide +kernel
theorem dX11_sort__605 : decode cX11_sort_ 605 = .ok (.iaload, 1) := by decide +kernel
theorem dX11_sort__606 : decode cX11_sort_ 606 = .ok (.iload 17, 2) := by decide +kernel
theorem dX11_sort__608 : decode cX11_sort_ 608 = .ok (.if_icmp .le 25, 3) := by decide +kernel
theorem dX11_sort__611 : decode cX11_sort_ 611 = .ok (.aload_n 1, 1) := by decide +kernel
theorem dX11_sort__612 : decode cX11_sort_ 612 = .ok (.iload 19, 2) := by decide +kernel
theorem dX11_sort__614 : decode cX11_sort_ 614 = .ok (.aload_n 1, 1) := by decide +kernel
theorem dX11_sort__615 : decode cX11_sort_ 615 = .ok (.iinc 15 (-1), 3) := by decide +kernel
theorem dX11_sort__618 : decode cX11_sort_ 618 = .ok (.iload 15, 2) := by decide +kernel
theorem dX11_sort__620 : decode cX11_sort_ 620 = .ok (.iaload, 1) := by decide +kernel
theorem dX11_sort__621 : decode cX11_sort_ 621 = .ok (.iastore, 1) := by decide +kernel
theorem dX11_sort__622 : decode cX11_sort_ 622 = .ok (.aload_n 1, 1) := by decide +kernel
theorem dX11_sort__623 : decode cX11_sort_ 623 = .ok (.iload 15, 2) := by decide +kernel
theorem dX11_sort__625 : decode cX11_sort_ 625 = .ok (.aload_n 1, 1) := by decide +kernel
theorem dX11_sort__626 : decode cX11_sort_ 626 = .ok (.iload 14, 2) := by decide +kernel
theorem dX11_sort__628 : decode cX11_sort_ 628 = .ok (.iaload, 1) := by decide +kernel
theorem dX11_sort__629 : decode cX11_sort_ 629 = .ok (.iastore, 1) := by decide +kernel
theorem dX11_sort__630 : decode cX11_sort_ 630 = .ok (.goto 11, 3) := by decide +kernel
theorem dX11_sort__633 : decode cX11_sort_ 633 = .ok (.aload_n 1, 1) := by decide +kernel
theorem dX11_sort__634 : decode cX11_sort_ 634 = .ok (.iload 19, 2) := by decide +kernel
theorem dX11_sort__636 : decode cX11_sort_ 636 = .ok (.aload_n 1, 1) := by decide +kernel
theorem dX11_sort__637 : decode cX11_sort_ 637 = .ok (.iload 14, 2) := by decide +kernel
theorem dX11_sort__639 : decode cX11_sort_ 639 = .ok (.iaload, 1) := by decide +kernel
theorem dX11_sort__640 : decode cX11_sort_ 640 = .ok (.iastore, 1) := by decide +kernel
theorem dX11_sort__641 : decode cX11_sort_ 641 = .ok (.aload_n 1, 1) := by decide +kernel
theorem dX11_sort__642 : decode cX11_sort_ 642 = .ok (.iload 14, 2) := by decide +kernel
theorem dX11_sort__644 : decode cX11_sort_ 644 = .ok (.iload 20, 2) := by decide +kernel
theorem dX11_sort__646 : decode cX11_sort_ 646 = .ok (.iastore, 1) := by decide +kernel
theorem dX11_sort__647 : decode cX11_sort_ 647 = .ok (.goto 27, 3) := by decide +kernel
theorem dX11_sort__650 : decode cX11_sort_ 650 = .ok (.iload 20, 2) := by decide +kernel
theorem dX11_sort__652 : decode cX11_sort_ 652 = .ok (.iload 17, 2) := by decide +kernel
theorem dX11_sort__654 : decode cX11_sort_ 654 = .ok (.if_icmp .le 20, 3) := by decide +kernel
theorem dX11_sort__657 : decode cX11_sort_ 657 = .ok (.aload_n 1, 1) := by decide +kernel
theorem dX11_sort__658 : decode cX11_sort_ 658 = .ok (.iload 19, 2) := by decide +kernel
theorem dX11_sort__660 : decode cX11_sort_ 660 = .ok (.aload_n 1, 1) := by decide +kernel
theorem dX11_sort__661 : decode cX11_sort_ 661 = .ok (.iinc 15 (-1), 3) := by decide +kernel
theorem dX11_sort__664 : decode cX11_sort_ 664 = .ok (.iload 15, 2) := by decide +kernel
theorem dX11_sort__666 : decode cX11_sort_ 666 = .ok (.iaload, 1) := by decide +kernel
theorem dX11_sort__667 : decode cX11_sort_ 667 = .ok (.iastore, 1) := by decide +kernel
theorem dX11_sort__668 : decode cX11_sort_ 668 = .ok (.aload_n 1, 1) := by decide +kernel
theorem dX11_sort__669 : decode cX11_sort_ 669 = .ok (.iload 15, 2) := by decide +kernel
theorem dX11_sort__671 : decode cX11_sort_ 671 = .ok (.iload 20, 2) := by decide +kernel
theorem dX11_sort__673 : decode cX11_sort_ 673 = .ok (.iastore, 1) := by decide +kernel
theorem dX11_sort__674 : decode cX11_sort_ 674 = .ok (.goto (-114), 3) := by decide +kernel
theorem dX11_sort__677 : decode cX11_sort_ 677 = .ok (.aload_n 1, 1) := by decide +kernel
theorem dX11_sort__678 : decode cX11_sort_ 678 = .ok (.iload_n 3, 1) := by decide +kernel
theorem dX11_sort__679 : decode cX11_sort_ 679 = .ok (.aload_n 1, 1) := by decide +kernel
theorem dX11_sort__680 : decode cX11_sort_ 680 = .ok (.iload 14, 2) := by decide +kernel
theorem dX11_sort__682 : decode cX11_sort_ 682 = .ok (.iaload, 1) := by decide +kernel
theorem dX11_sort__683 : decode cX11_sort_ 683 = .ok (.iastore, 1) := by decide +kernel
theorem dX11_sort__684 : decode cX11_sort_ 684 = .ok (.aload_n 1, 1) := by decide +kernel
theorem dX11_sort__685 : decode cX11_sort_ 685 = .ok (.iload 14, 2) := by decide +kernel
theorem dX11_sort__687 : decode cX11_sort_ 687 = .ok (.iload 16, 2) := by decide +kernel
theorem dX11_sort__689 : decode cX11_sort_ 689 = .ok (.iastore, 1) := by decide +kernel
theorem dX11_sort__690 : decode cX11_sort_ 690 = .ok (.aload_n 1, 1) := by decide +kernel
theorem dX11_sort__691 : decode cX11_sort_ 691 = .ok (.iload 5, 2) := by decide +kernel
theorem dX11_sort__693 : decode cX11_sort_ 693 = .ok (.aload_n 1, 1) := by decide +kernel
theorem dX11_sort__694 : decode cX11_sort_ 694 = .ok (.iload 15, 2) := by decide +kernel
theorem dX11_sort__696 : decode cX11_sort_ 696 = .ok (.iaload, 1) := by decide +kernel
theorem dX11_sort__697 : decode cX11_sort_ 697 = .ok (.iastore, 1) := by decide +kernel
theorem dX11_sort__698 : decode cX11_sort_ 698 = .ok (.aload_n 1, 1) := by decide +kernel
theorem dX11_sort__699 : decode cX11_sort_ 699 = .ok (.iload 15, 2) := by decide +kernel
theorem dX11_sort__701 : decode cX11_sort_ 701 = .ok (.iload 17, 2) := by decide +kernel
theorem dX11_sort__703 : decode cX11_sort_ 703 = .ok (.iastore, 1) := by decide +kernel
theorem dX11_sort__704 : decode cX11_sort_ 704 = .ok (.iload 6, 2) := by decide +kernel
theorem dX11_sort__706 : decode cX11_sort_ 706 = .ok (.sipush 4096, 3) := by decide +kernel
theorem dX11_sort__709 : decode cX11_sort_ 709 = .ok (.if_icmp .le 36, 3) := by decide +kernel
theorem dX11_sort__712 : decode cX11_sort_ 712 = .ok (.aload_n 0, 1) := by decide +kernel
theorem dX11_sort__713 : decode cX11_sort_ 713 = .ok (.ifnull 32, 3) := by decide +kernel
theorem dX11_sort__716 : decode cX11_sort_ 716 = .ok (.aload_n 0, 1) := by decide +kernel
theorem dX11_sort__717 : decode cX11_sort_ 717 = .ok (.iload_n 2, 1) := by decide +kernel
theorem dX11_sort__718 : decode cX11_sort_ 718 = .ok (.iconst 1, 1) := by decide +kernel
theorem dX11_sort__719 : decode cX11_sort_ 719 = .ok (.ior, 1) := by decide +kernel
theorem dX11_sort__720 : decode cX11_sort_ 720 = .ok (.iload 14, 2) := by decide +kernel
theorem dX11_sort__722 : decode cX11_sort_ 722 = .ok (.iconst 1, 1) := by decide +kernel
theorem dX11_sort__723 : decode cX11_sort_ 723 = .ok (.iadd, 1) := by decide +kernel
theorem dX11_sort__724 : decode cX11_sort_ 724 = .ok (.iload 15, 2) := by decide +kernel
theorem dX11_sort__726 : decode cX11_sort_ 726 = .ok (.invokevirtual 45, 3) := by decide +kernel
theorem dX11_sort__729 : decode cX11_sort_ 729 = .ok (.aload_n 0, 1) := by decide +kernel
theorem dX11_sort__730 : decode cX11_sort_ 730 = .ok (.iload_n 2, 1) := by decide +kernel
theorem dX11_sort__731 : decode cX11_sort_ 731 = .ok (.iconst 1, 1) := by decide +kernel
theorem dX11_sort__732 : decode cX11_sort_ 732 = .ok (.ior, 1) := by decide +kernel
theorem dX11_sort__733 : decode cX11_sort_ 733 = .ok (.iload 15, 2) := by decide +kernel
theorem dX11_sort__735 : decode cX11_sort_ 735 = .ok (.iconst 1, 1) := by decide +kernel
theorem dX11_sort__736 : decode cX11_sort_ 736 = .ok (.iadd, 1) := by decide +kernel
theorem dX11_sort__737 : decode cX11_sort_ 737 = .ok (.iload 4, 2) := by decide +kernel
theorem dX11_sort__739 : decode cX11_sort_ 739 = .ok (.invokevirtual 45, 3) := by decide +kernel
theorem dX11_sort__742 : decode cX11_sort_ 742 = .ok (.goto 31, 3) := by decide +kernel
theorem dX11_sort__745 : decode cX11_sort_ 745 = .ok (.aload_n 0, 1) := by decide +kernel
theorem dX11_sort__746 : decode cX11_sort_ 746 = .ok (.aload_n 1, 1) := by decide +kernel
theorem dX11_sort__747 : decode cX11_sort_ 747 = .ok (.iload_n 2, 1) := by decide +kernel
theorem dX11_sort__748 : decode cX11_sort_ 748 = .ok (.iconst 1, 1) := by decide +kernel
theorem dX11_sort__749 : decode cX11_sort_ 749 = .ok (.ior, 1) := by decide +kernel
theorem dX11_sort__750 : decode cX11_sort_ 750 = .ok (.iload 14, 2) := by decide +kernel
theorem dX11_sort__752 : decode cX11_sort_ 752 = .ok (.iconst 1, 1) := by decide +kernel
theorem dX11_sort__753 : decode cX11_sort_ 753 = .ok (.iadd, 1) := by decide +kernel
theorem dX11_sort__754 : decode cX11_sort_ 754 = .ok (.iload 15, 2) := by decide +kernel
theorem dX11_sort__756 : decode cX11_sort_ 756 = .ok (.invokestatic 26, 3) := by decide +kernel
theorem dX11_sort__759 : decode cX11_sort_ 759 = .ok (.aload_n 0, 1) := by decide +kernel
theorem dX11_sort__760 : decode cX11_sort_ 760 = .ok (.aload_n 1, 1) := by decide +kernel
theorem dX11_sort__761 : decode cX11_sort_ 761 = .ok (.iload_n 2, 1) := by decide +kernel
theorem dX11_sort__762 : decode cX11_sort_ 762 = .ok (.iconst 1, 1) := by decide +kernel
theorem dX11_sort__763 : decode cX11_sort_ 763 = .ok (.ior, 1) := by decide +kernel
theorem dX11_sort__764 : decode cX11_sort_ 764 = .ok (.iload 15, 2) := by decide +kernel
theorem dX11_sort__766 : decode cX11_sort_ 766 = .ok (.iconst 1, 1) := by decide +kernel
theorem dX11_sort__767 : decode cX11_sort_ 767 = .ok (.iadd, 1) := by decide +kernel
theorem dX11_sort__768 : decode cX11_sort_ 768 = .ok (.iload 4, 2) := by decide +kernel
theorem dX11_sort__770 : decode cX11_sort_ 770 = .ok (.invokestatic 26, 3) := by decide +kernel
theorem dX11_sort__773 : decode cX11_sort_ 773 = .ok (.goto 167, 3) := by decide +kernel
theorem dX11_sort__776 : decode cX11_sort_ 776 = .ok (.aload_n 1, 1) := by decide +kernel
theorem dX11_sort__777 : decode cX11_sort_ 777 = .ok (.iload 10, 2) := by decide +kernel
theorem dX11_sort__779 : decode cX11_sort_ 779 = .ok (.iaload, 1) := by decide +kernel
theorem dX11_sort__780 : decode cX11_sort_ 780 = .ok (.istore 16, 2) := by decide +kernel
theorem dX11_sort__782 : decode cX11_sort_ 782 = .ok (.aload_n 1, 1) := by decide +kernel
theorem dX11_sort__783 : decode cX11_sort_ 783 = .ok (.iload 10, 2) := by decide +kernel
theorem dX11_sort__785 : decode cX11_sort_ 785 = .ok (.aload_n 1, 1) := by decide +kernel
theorem dX11_sort__786 : decode cX11_sort_ 786 = .ok (.iload 14, 2) := by decide +kernel
theorem dX11_sort__788 : decode cX11_sort_ 788 = .ok (.iaload, 1) := by decide +kernel
theorem dX11_sort__789 : decode cX11_sort_ 789 = .ok (.iastore, 1) := by decide +kernel
theorem dX11_sort__790 : decode cX11_sort_ 790 = .ok (.iinc 15 1, 3) := by decide +kernel
theorem dX11_sort__793 : decode cX11_sort_ 793 = .ok (.iload 15, 2) := by decide +kernel
theorem dX11_sort__795 : decode cX11_sort_ 795 = .ok (.istore 17, 2) := by decide +kernel
theorem dX11_sort__797 : decode cX11_sort_ 797 = .ok (.iinc 17 (-1), 3) := by decide +kernel
theorem dX11_sort__800 : decode cX11_sort_ 800 = .ok (.iload 17, 2) := by decide +kernel
theorem dX11_sort__802 : decode cX11_sort_ 802 = .ok (.iload 14, 2) := by decide +kernel
theorem dX11_sort__804 : decode cX11_sort_ 804 = .ok (.if_icmp .le 85, 3) := by decide +kernel
theorem dX11_sort__807 : decode cX11_sort_ 807 = .ok (.aload_n 1, 1) := by decide +kernel
theorem dX11_sort__808 : decode cX11_sort_ 808 = .ok (.iload 17, 2) := by decide +kernel
theorem dX11_sort__810 : decode cX11_sort_ 810 = .ok (.iaload, 1) := by decide +kernel
theorem dX11_sort__811 : decode cX11_sort_ 811 = .ok (.istore 18, 2) := by decide +kernel
theorem dX11_sort__813 : decode cX11_sort_ 813 = .ok (.iload 18, 2) := by decide +kernel
theorem dX11_sort__815 : decode cX11_sort_ 815 = .ok (.iload 16, 2) := by decide +kernel
theorem dX11_sort__817 : decode cX11_sort_ 817 = .ok (.if_icmp .eq 69, 3) := by decide +kernel
theorem dX11_sort__820 : decode cX11_sort_ 820 = .ok (.aload_n 1, 1) := by decide +kernel
theorem dX11_sort__821 : decode cX11_sort_ 821 = .ok (.iload 17, 2) := by decide +kernel
theorem dX11_sort__823 : decode cX11_sort_ 823 = .ok (.iload 16, 2) := by decide +kernel
theorem dX11_sort__825 : decode cX11_sort_ 825 = .ok (.iastore, 1) := by decide +kernel
theorem dX11_sort__826 : decode cX11_sort_ 826 = .ok (.iload 18, 2) := by decide +kernel
theorem dX11_sort__828 : decode cX11_sort_ 828 = .ok (.iload 16, 2) := by decide +kernel
theorem dX11_sort__830 : decode cX11_sort_ 830 = .ok (.if_icmp .ge 47, 3) := by decide +kernel
theorem dX11_sort__833 : decode cX11_sort_ 833 = .ok (.aload_n 1, 1) := by decide +kernel
theorem dX11_sort__834 : decode cX11_sort_ 834 = .ok (.iinc 14 1, 3) := by decide +kernel
theorem dX11_sort__837 : decode cX11_sort_ 837 = .ok (.iload 14, 2) := by decide +kernel
theorem dX11_sort__839 : decode cX11_sort_ 839 = .ok (.iaload, 1) := by decide +kernel
theorem dX11_sort__840 : decode cX11_sort_ 840 = .ok (.iload 16, 2) := by decide +kernel
theorem dX11_sort__842 : decode cX11_sort_ 842 = .ok (.if_icmp .ge 6, 3) := by decide +kernel
theorem dX11_sort__845 : decode cX11_sort_ 845 = .ok (.goto (-12), 3) := by decide +kernel
theorem dX11_sort__848 : decode cX11_sort_ 848 = .ok (.aload_n 1, 1) := by decide +kernel
theorem dX11_sort__849 : decode cX11_sort_ 849 = .ok (.iload 14, 2) := by decide +kernel
theorem dX11_sort__851 : decode cX11_sort_ 851 = .ok (.iaload, 1) := by decide +kernel
theorem dX11_sort__852 : decode cX11_sort_ 852 = .ok (.iload 16, 2) := by decide +kernel
theorem dX11_sort__854 : decode cX11_sort_ 854 = .ok (.if_icmp .le 14, 3) := by decide +kernel
theorem dX11_sort__857 : decode cX11_sort_ 857 = .ok (.aload_n 1, 1) := by decide +kernel
theorem dX11_sort__858 : decode cX11_sort_ 858 = .ok (.iinc 15 (-1), 3) := by decide +kernel
theorem dX11_sort__861 : decode cX11_sort_ 861 = .ok (.iload 15, 2) := by decide +kernel
theorem dX11_sort__863 : decode cX11_sort_ 863 = .ok (.aload_n 1, 1) := by decide +kernel
theorem dX11_sort__864 : decode cX11_sort_ 864 = .ok (.iload 14, 2) := by decide +kernel
theorem dX11_sort__866 : decode cX11_sort_ 866 = .ok (.iaload, 1) := by decide +kernel
theorem dX11_sort__867 : decode cX11_sort_ 867 = .ok (.iastore, 1) := by decide +kernel
theorem dX11_sort__868 : decode cX11_sort_ 868 = .ok (.aload_n 1, 1) := by decide +kernel
theorem dX11_sort__869 : decode cX11_sort_ 869 = .ok (.iload 14, 2) := by decide +kernel
theorem dX11_sort__871 : decode cX11_sort_ 871 = .ok (.iload 18, 2) := by decide +kernel
theorem dX11_sort__873 : decode cX11_sort_ 873 = .ok (.iastore, 1) := by decide +kernel
theorem dX11_sort__874 : decode cX11_sort_ 874 = .ok (.goto 12, 3) := by decide +kernel
theorem dX11_sort__877 : decode cX11_sort_ 877 = .ok (.aload_n 1, 1) := by decide +kernel
theorem dX11_sort__878 : decode cX11_sort_ 878 = .ok (.iinc 15 (-1), 3) := by decide +kernel
theorem dX11_sort__881 : decode cX11_sort_ 881 = .ok (.iload 15, 2) := by decide +kernel
theorem dX11_sort__883 : decode cX11_sort_ 883 = .ok (.iload 18, 2) := by decide +kernel
theorem dX11_sort__885 : decode cX11_sort_ 885 = .ok (.iastore, 1) := by decide +kernel
theorem dX11_sort__886 : decode cX11_sort_ 886 = .ok (.goto (-89), 3) := by decide +kernel
theorem dX11_sort__889 : decode cX11_sort_ 889 = .ok (.aload_n 1, 1) := by decide +kernel
theorem dX11_sort__890 : decode cX11_sort_ 890 = .ok (.iload_n 3, 1) := by decide +kernel
theorem dX11_sort__891 : decode cX11_sort_ 891 = .ok (.aload_n 1, 1) := by decide +kernel
theorem dX11_sort__892 : decode cX11_sort_ 892 = .ok (.iload 14, 2) := by decide +kernel
theorem dX11_sort__894 : decode cX11_sort_ 894 = .ok (.iaload, 1) := by decide +kernel
theorem dX11_sort__895 : decode cX11_sort_ 895 = .ok (.iastore, 1) := by decide +kernel
theorem dX11_sort__896 : decode cX11_sort_ 896 = .ok (.aload_n 1, 1) := by decide +kernel
theorem dX11_sort__897 : decode cX11_sort_ 897 = .ok (.iload 14, 2) := by decide +kernel
theorem dX11_sort__899 : decode cX11_sort_ 899 = .ok (.iload 16, 2) := by decide +kernel
theorem dX11_sort__901 : decode cX11_sort_ 901 = .ok (.iastore, 1) := by decide +kernel
theorem dX11_sort__902 : decode cX11_sort_ 902 = .ok (.iload 6, 2) := by decide +kernel
theorem dX11_sort__904 : decode cX11_sort_ 904 = .ok (.sipush 4096, 3) := by decide +kernel
theorem dX11_sort__907 : decode cX11_sort_ 907 = .ok (.if_icmp .le 21, 3) := by decide +kernel
theorem dX11_sort__910 : decode cX11_sort_ 910 = .ok (.aload_n 0, 1) := by decide +kernel
theorem dX11_sort__911 : decode cX11_sort_ 911 = .ok (.ifnull 17, 3) := by decide +kernel
theorem dX11_sort__914 : decode cX11_sort_ 914 = .ok (.aload_n 0, 1) := by decide +kernel
theorem dX11_sort__915 : decode cX11_sort_ 915 = .ok (.iload_n 2, 1) := by decide +kernel
theorem dX11_sort__916 : decode cX11_sort_ 916 = .ok (.iconst 1, 1) := by decide +kernel
theorem dX11_sort__917 : decode cX11_sort_ 917 = .ok (.ior, 1) := by decide +kernel
theorem dX11_sort__918 : decode cX11_sort_ 918 = .ok (.iload 15, 2) := by decide +kernel
theorem dX11_sort__920 : decode cX11_sort_ 920 = .ok (.iload 4, 2) := by decide +kernel
theorem dX11_sort__922 : decode cX11_sort_ 922 = .ok (.invokevirtual 45, 3) := by decide +kernel
theorem dX11_sort__925 : decode cX11_sort_ 925 = .ok (.goto 15, 3) := by decide +kernel
theorem dX11_sort__928 : decode cX11_sort_ 928 = .ok (.aload_n 0, 1) := by decide +kernel
theorem dX11_sort__929 : decode cX11_sort_ 929 = .ok (.aload_n 1, 1) := by decide +kernel
theorem dX11_sort__930 : decode cX11_sort_ 930 = .ok (.iload_n 2, 1) := by decide +kernel
theorem dX11_sort__931 : decode cX11_sort_ 931 = .ok (.iconst 1, 1) := by decide +kernel
theorem dX11_sort__932 : decode cX11_sort_ 932 = .ok (.ior, 1) := by decide +kernel
theorem dX11_sort__933 : decode cX11_sort_ 933 = .ok (.iload 15, 2) := by decide +kernel
theorem dX11_sort__935 : decode cX11_sort_ 935 = .ok (.iload 4, 2) := by decide +kernel
theorem dX11_sort__937 : decode cX11_sort_ 937 = .ok (.invokestatic 26, 3) := by decide +kernel
theorem dX11_sort__940 : decode cX11_sort_ 940 = .ok (.iload 14, 2) := by decide +kernel
theorem dX11_sort__942 : decode cX11_sort_ 942 = .ok (.istore 4, 2) := by decide +kernel
theorem dX11_sort__944 : decode cX11_sort_ 944 = .ok (.goto (-944), 3) := by decide +kernel
theorem dX11_insertionSort_0 : decode cX11_insertionSort 0 = .ok (.iload_n 1, 1) := by decide +kernel
theorem dX11_insertionSort_1 : decode cX11_insertionSort 1 = .ok (.istore 4, 2) := by decide +kernel
theorem dX11_insertionSort_3 : decode cX11_insertionSort 3 = .ok (.iinc 4 1, 3) := by decide +kernel
theorem dX11_insertionSort_6 : decode cX11_insertionSort 6 = .ok (.iload 4, 2) := by decide +kernel
theorem dX11_insertionSort_8 : decode cX11_insertionSort 8 = .ok (.iload_n 2, 1) := by decide +kernel
theorem dX11_insertionSort_9 : decode cX11_insertionSort 9 = .ok (.if_icmp .ge 58, 3) := by decide +kernel
theorem dX11_insertionSort_12 : decode cX11_insertionSort 12 = .ok (.aload_n 0, 1) := by decide +kernel
theorem dX11_insertionSort_13 : decode cX11_insertionSort 13 = .ok (.iload 4, 2) := by decide +kernel
theorem dX11_insertionSort_15 : decode cX11_insertionSort 15 = .ok (.dup, 1) := by decide +kernel
theorem dX11_insertionSort_16 : decode cX11_insertionSort 16 = .ok (.istore_n 3, 1) := by decide +kernel
theorem dX11_insertionSort_17 : decode cX11_insertionSort 17 = .ok (.iaload, 1) := by decide +kernel
theorem dX11_insertionSort_18 : decode cX11_insertionSort 18 = .ok (.istore 5, 2) := by decide +kernel
theorem dX11_insertionSort_20 : decode cX11_insertionSort 20 = .ok (.iload 5, 2) := by decide +kernel
theorem dX11_insertionSort_22 : decode cX11_insertionSort 22 = .ok (.aload_n 0, 1) := by decide +kernel
theorem dX11_insertionSort_23 : decode cX11_insertionSort 23 = .ok (.iload_n 3, 1) := by decide +kernel
theorem dX11_insertionSort_24 : decode cX11_insertionSort 24 = .ok (.iconst 1, 1) := by decide +kernel
theorem dX11_insertionSort_25 : decode cX11_insertionSort 25 = .ok (.isub, 1) := by decide +kernel
theorem dX11_insertionSort_26 : decode cX11_insertionSort 26 = .ok (.iaload, 1) := by decide +kernel
theorem dX11_insertionSort_27 : decode cX11_insertionSort 27 = .ok (.if_icmp .ge 37, 3) := by decide +kernel
theorem dX11_insertionSort_30 : decode cX11_insertionSort 30 = .ok (.iinc 3 (-1), 3) := by decide +kernel
theorem dX11_insertionSort_33 : decode cX11_insertionSort 33 = .ok (.iload_n 3, 1) := by decide +kernel
theorem dX11_insertionSort_34 : decode cX11_insertionSort 34 = .ok (.iload_n 1, 1) := by decide +kernel
theorem dX11_insertionSort_35 : decode cX11_insertionSort 35 = .ok (.if_icmp .lt 22, 3) := by decide +kernel
theorem dX11_insertionSort_38 : decode cX11_insertionSort 38 = .ok (.iload 5, 2) := by decide +kernel
theorem dX11_insertionSort_40 : decode cX11_insertionSort 40 = .ok (.aload_n 0, 1) := by decide +kernel
theorem dX11_insertionSort_41 : decode cX11_insertionSort 41 = .ok (.iload_n 3, 1) := by decide +kernel
theorem dX11_insertionSort_42 : decode cX11_insertionSort 42 = .ok (.iaload, 1) := by decide +kernel
theorem dX11_insertionSort_43 : decode cX11_insertionSort 43 = .ok (.if_icmp .ge 14, 3) := by decide +kernel
theorem dX11_insertionSort_46 : decode cX11_insertionSort 46 = .ok (.aload_n 0, 1) := by decide +kernel
theorem dX11_insertionSort_47 : decode cX11_insertionSort 47 = .ok (.iload_n 3, 1) := by decide +kernel
theorem dX11_insertionSort_48 : decode cX11_insertionSort 48 = .ok (.iconst 1, 1) := by decide +kernel
theorem dX11_insertionSort_49 : decode cX11_insertionSort 49 = .ok (.iadd, 1) := by decide +kernel
theorem dX11_insertionSort_50 : decode cX11_insertionSort 50 = .ok (.aload_n 0, 1) := by decide +kernel
theorem dX11_insertionSort_51 : decode cX11_insertionSort 51 = .ok (.iload_n 3, 1) := by decide +kernel
theorem dX11_insertionSort_52 : decode cX11_insertionSort 52 = .ok (.iaload, 1) := by decide +kernel
theorem dX11_insertionSort_53 : decode cX11_insertionSort 53 = .ok (.iastore, 1) := by decide +kernel
theorem dX11_insertionSort_54 : decode cX11_insertionSort 54 = .ok (.goto (-24), 3) := by decide +kernel
theorem dX11_insertionSort_57 : decode cX11_insertionSort 57 = .ok (.aload_n 0, 1) := by decide +kernel
theorem dX11_insertionSort_58 : decode cX11_insertionSort 58 = .ok (.iload_n 3, 1) := by decide +kernel
theorem dX11_insertionSort_59 : decode cX11_insertionSort 59 = .ok (.iconst 1, 1) := by decide +kernel
theorem dX11_insertionSort_60 : decode cX11_insertionSort 60 = .ok (.iadd, 1) := by decide +kernel
theorem dX11_insertionSort_61 : decode cX11_insertionSort 61 = .ok (.iload 5, 2) := by decide +kernel
theorem dX11_insertionSort_63 : decode cX11_insertionSort 63 = .ok (.iastore, 1) := by decide +kernel
theorem dX11_insertionSort_64 : decode cX11_insertionSort 64 = .ok (.goto (-61), 3) := by decide +kernel
theorem dX11_insertionSort_67 : decode cX11_insertionSort 67 = .ok (.return_, 1) := by decide +kernel
theorem dJ15_requireNonNull_262c5_0 : decode cJ15_requireNonNull_262c5 0 = .ok (.aload_n 0, 1) := by decide +kernel
theorem dJ15_requireNonNull_262c5_1 : decode cJ15_requireNonNull_262c5 1 = .ok (.ifnonnull 11, 3) := by decide +kernel
theorem dJ15_requireNonNull_262c5_4 : decode cJ15_requireNonNull_262c5 4 = .ok (.new 84, 3) := by decide +kernel
theorem dJ15_requireNonNull_262c5_7 : decode cJ15_requireNonNull_262c5 7 = .ok (.dup, 1) := by decide +kernel
theorem dJ15_requireNonNull_262c5_8 : decode cJ15_requireNonNull_262c5 8 = .ok (.invokespecial 86, 3) := by decide +kernel
theorem dJ15_requireNonNull_262c5_11 : decode cJ15_requireNonNull_262c5 11 = .ok (.athrow, 1) := by decide +kernel
theorem dJ15_requireNonNull_262c5_12 : decode cJ15_requireNonNull_262c5 12 = .ok (.aload_n 0, 1) := by decide +kernel
theorem dJ15_requireNonNull_262c5_13 : decode cJ15_requireNonNull_262c5 13 = .ok (.areturn, 1) := by decide +kernel
theorem dJ15_checkIndex_7cf53_0 : decode cJ15_checkIndex_7cf53 0 = .ok (.iload_n 0, 1) := by decide +kernel
theorem dJ15_checkIndex_7cf53_1 : decode cJ15_checkIndex_7cf53 1 = .ok (.iload_n 1, 1) := by decide +kernel
theorem dJ15_checkIndex_7cf53_2 : decode cJ15_checkIndex_7cf53 2 = .ok (.aconst_null, 1) := by decide +kernel
theorem dJ15_checkIndex_7cf53_3 : decode cJ15_checkIndex_7cf53 3 = .ok (.invokestatic 105, 3) := by decide +kernel
theorem dJ15_checkIndex_7cf53_6 : decode cJ15_checkIndex_7cf53 6 = .ok (.ireturn, 1) := by decide +kernel
theorem dX12_init_0 : decode cX12_init 0 = .ok (.aload_n 0, 1) := by decide +kernel
theorem dX12_init_1 : decode cX12_init 1 = .ok (.invokespecial 3, 3) := by decide +kernel
theorem dX12_init_4 : decode cX12_init 4 = .ok (.aload_n 0, 1) := by decide +kernel
theorem dX12_init_5 : decode cX12_init 5 = .ok (.iconst 1, 1) := by decide +kernel
theorem dX12_init_6 : decode cX12_init 6 = .ok (.putfield 9, 3) := by decide +kernel
theorem dX12_init_9 : decode cX12_init 9 = .ok (.aload_n 0, 1) := by decide +kernel
theorem dX12_init_10 : decode cX12_init 10 = .ok (.aload_n 1, 1) := by decide +kernel
theorem dX12_init_11 : decode cX12_init 11 = .ok (.putfield 15, 3) := by decide +kernel
theorem dX12_init_14 : decode cX12_init 14 = .ok (.aload_n 0, 1) := by decide +kernel
theorem dX12_init_15 : decode cX12_init 15 = .ok (.aload_n 2, 1) := by decide +kernel
theorem dX12_init_16 : decode cX12_init 16 = .ok (.putfield 19, 3) := by decide +kernel
theorem dX12_init_19 : decode cX12_init 19 = .ok (.aload_n 0, 1) := by decide +kernel
theorem dX12_init_20 : decode cX12_init 20 = .ok (.aload_n 3, 1) := by decide +kernel
theorem dX12_init_21 : decode cX12_init 21 = .ok (.putfield 22, 3) := by decide +kernel
theorem dX12_init_24 : decode cX12_init 24 = .ok (.return_, 1) := by decide +kernel
theorem dX12_getKey_0 : decode cX12_getKey 0 = .ok (.aload_n 0, 1) := by decide +kernel
theorem dX12_getKey_1 : decode cX12_getKey 1 = .ok (.getfield 15, 3) := by decide +kernel
theorem dX12_getKey_4 : decode cX12_getKey 4 = .ok (.areturn, 1) := by decide +kernel
theorem dX12_getValue_0 : decode cX12_getValue 0 = .ok (.aload_n 0, 1) := by decide +kernel
theorem dX12_getValue_1 : decode cX12_getValue 1 = .ok (.getfield 19, 3) := by decide +kernel
theorem dX12_getValue_4 : decode cX12_getValue 4 = .ok (.areturn, 1) := by decide +kernel
theorem dX13_init_0 : decode cX13_init 0 = .ok (.aload_n 0, 1) := by decide +kernel
theorem dX13_init_1 : decode cX13_init 1 = .ok (.aload_n 1, 1) := by decide +kernel
theorem dX13_init_2 : decode cX13_init 2 = .ok (.aload_n 2, 1) := by decide +kernel
theorem dX13_init_3 : decode cX13_init 3 = .ok (.invokespecial 1, 3) := by decide +kernel
theorem dX13_init_6 : decode cX13_init 6 = .ok (.return_, 1) := by decide +kernel
theorem dX13_next_0 : decode cX13_next 0 = .ok (.aload_n 0, 1) := by decide +kernel
theorem dX13_next_1 : decode cX13_next 1 = .ok (.invokevirtual 7, 3) := by decide +kernel
theorem dX13_next_4 : decode cX13_next 4 = .ok (.areturn, 1) := by decide +kernel
theorem dX13_next__0 : decode cX13_next_ 0 = .ok (.aload_n 0, 1) := by decide +kernel
theorem dX13_next__1 : decode cX13_next_ 1 = .ok (.invokevirtual 13, 3) := by decide +kernel
theorem dX13_next__4 : decode cX13_next_ 4 = .ok (.areturn, 1) := by decide +kernel
theorem dX14_init_0 : decode cX14_init 0 = .ok (.aload_n 0, 1) := by decide +kernel
theorem dX14_init_1 : decode cX14_init 1 = .ok (.aload_n 1, 1) := by decide +kernel
theorem dX14_init_2 : decode cX14_init 2 = .ok (.putfield 1, 3) := by decide +kernel
theorem dX14_init_5 : decode cX14_init 5 = .ok (.aload_n 0, 1) := by decide +kernel
theorem dX14_init_6 : decode cX14_init 6 = .ok (.invokespecial 7, 3) := by decide +kernel
theorem dX14_init_9 : decode cX14_init 9 = .ok (.return_, 1) := by decide +kernel
theorem dX14_iterator_0 : decode cX14_iterator 0 = .ok (.new 13, 3) := by decide +kernel
theorem dX14_iterator_3 : decode cX14_iterator 3 = .ok (.dup, 1) := by decide +kernel
theorem dX14_iterator_4 : decode cX14_iterator 4 = .ok (.aload_n 0, 1) := by decide +kernel
theorem dX14_iterator_5 : decode cX14_iterator 5 = .ok (.getfield 1, 3) := by decide +kernel
theorem dX14_iterator_8 : decode cX14_iterator 8 = .ok (.aload_n 0, 1) := by decide +kernel
theorem dX14_iterator_9 : decode cX14_iterator 9 = .ok (.getfield 1, 3) := by decide +kernel
theorem dX14_iterator_12 : decode cX14_iterator 12 = .ok (.invokevirtual 15, 3) := by decide +kernel
theorem dX14_iterator_15 : decode cX14_iterator 15 = .ok (.invokespecial 21, 3) := by decide +kernel
theorem dX14_iterator_18 : decode cX14_iterator 18 = .ok (.areturn, 1) := by decide +kernel
theorem dX15_init_0 : decode cX15_init 0 = .ok (.aload_n 0, 1) := by decide +kernel
theorem dX15_init_1 : decode cX15_init 1 = .ok (.aload_n 1, 1) := by decide +kernel
theorem dX15_init_2 : decode cX15_init 2 = .ok (.putfield 1, 3) := by decide +kernel
theorem dX15_init_5 : decode cX15_init 5 = .ok (.aload_n 0, 1) := by decide +kernel
theorem dX15_init_6 : decode cX15_init 6 = .ok (.invokespecial 7, 3) := by decide +kernel
theorem dX15_init_9 : decode cX15_init 9 = .ok (.aload_n 0, 1) := by decide +kernel
theorem dX15_init_10 : decode cX15_init 10 = .ok (.aload_n 1, 1) := by decide +kernel
theorem dX15_init_11 : decode cX15_init 11 = .ok (.getfield 13, 3) := by decide +kernel
theorem dX15_init_14 : decode cX15_init 14 = .ok (.putfield 19, 3) := by decide +kernel
theorem dX15_init_17 : decode cX15_init 17 = .ok (.aload_n 0, 1) := by decide +kernel
theorem dX15_init_18 : decode cX15_init 18 = .ok (.aconst_null, 1) := by decide +kernel
theorem dX15_init_19 : decode cX15_init 19 = .ok (.putfield 22, 3) := by decide +kernel
theorem dX15_init_22 : decode cX15_init 22 = .ok (.aload_n 0, 1) := by decide +kernel
theorem dX15_init_23 : decode cX15_init 23 = .ok (.aload_n 2, 1) := by decide +kernel
theorem dX15_init_24 : decode cX15_init 24 = .ok (.putfield 26, 3) := by decide +kernel
theorem dX15_init_27 : decode cX15_init 27 = .ok (.return_, 1) := by decide +kernel
theorem dX15_hasNext_0 : decode cX15_hasNext 0 = .ok (.aload_n 0, 1) := by decide +kernel
theorem dX15_hasNext_1 : decode cX15_hasNext 1 = .ok (.getfield 26, 3) := by decide +kernel
theorem dX15_hasNext_4 : decode cX15_hasNext 4 = .ok (.ifnull 7, 3) := by decide +kernel
theorem dX15_hasNext_7 : decode cX15_hasNext 7 = .ok (.iconst 1, 1) := by decide +kernel
theorem dX15_hasNext_8 : decode cX15_hasNext 8 = .ok (.goto 4, 3) := by decide +kernel
theorem dX15_hasNext_11 : decode cX15_hasNext 11 = .ok (.iconst 0, 1) := by decide +kernel
theorem dX15_hasNext_12 : decode cX15_hasNext 12 = .ok (.ireturn, 1) := by decide +kernel
theorem dX15_nextEntry_0 : decode cX15_nextEntry 0 = .ok (.aload_n 0, 1) := by decide +kernel
theorem dX15_nextEntry_1 : decode cX15_nextEntry 1 = .ok (.getfield 26, 3) := by decide +kernel
theorem dX15_nextEntry_4 : decode cX15_nextEntry 4 = .ok (.astore_n 1, 1) := by decide +kernel
theorem dX15_nextEntry_5 : decode cX15_nextEntry 5 = .ok (.aload_n 1, 1) := by decide +kernel
theorem dX15_nextEntry_6 : decode cX15_nextEntry 6 = .ok (.ifnonnull 11, 3) := by decide +kernel
theorem dX15_nextEntry_9 : decode cX15_nextEntry 9 = .ok (.new 29, 3) := by decide +kernel
theorem dX15_nextEntry_12 : decode cX15_nextEntry 12 = .ok (.dup, 1) := by decide +kernel
theorem dX15_nextEntry_13 : decode cX15_nextEntry 13 = .ok (.invokespecial 31, 3) := by decide +kernel
theorem dX15_nextEntry_16 : decode cX15_nextEntry 16 = .ok (.athrow, 1) := by decide +kernel
theorem dX15_nextEntry_17 : decode cX15_nextEntry 17 = .ok (.aload_n 0, 1) := by decide +kernel
theorem dX15_nextEntry_18 : decode cX15_nextEntry 18 = .ok (.getfield 1, 3) := by decide +kernel
theorem dX15_nextEntry_21 : decode cX15_nextEntry 21 = .ok (.getfield 13, 3) := by decide +kernel
theorem dX15_nextEntry_24 : decode cX15_nextEntry 24 = .ok (.aload_n 0, 1) := by decide +kernel
theorem dX15_nextEntry_25 : decode cX15_nextEntry 25 = .ok (.getfield 19, 3) := by decide +kernel
theorem dX15_nextEntry_28 : decode cX15_nextEntry 28 = .ok (.if_icmp .eq 11, 3) := by decide +kernel
theorem dX15_nextEntry_31 : decode cX15_nextEntry 31 = .ok (.new 32, 3) := by decide +kernel
theorem dX15_nextEntry_34 : decode cX15_nextEntry 34 = .ok (.dup, 1) := by decide +kernel
theorem dX15_nextEntry_35 : decode cX15_nextEntry 35 = .ok (.invokespecial 34, 3) := by decide +kernel
theorem dX15_nextEntry_38 : decode cX15_nextEntry 38 = .ok (.athrow, 1) := by decide +kernel
theorem dX15_nextEntry_39 : decode cX15_nextEntry 39 = .ok (.aload_n 0, 1) := by decide +kernel
theorem dX15_nextEntry_40 : decode cX15_nextEntry 40 = .ok (.aload_n 1, 1) := by decide +kernel
theorem dX15_nextEntry_41 : decode cX15_nextEntry 41 = .ok (.invokestatic 35, 3) := by decide +kernel
theorem dX15_nextEntry_44 : decode cX15_nextEntry 44 = .ok (.putfield 26, 3) := by decide +kernel
theorem dX15_nextEntry_47 : decode cX15_nextEntry 47 = .ok (.aload_n 0, 1) := by decide +kernel
theorem dX15_nextEntry_48 : decode cX15_nextEntry 48 = .ok (.aload_n 1, 1) := by decide +kernel
theorem dX15_nextEntry_49 : decode cX15_nextEntry 49 = .ok (.putfield 22, 3) := by decide +kernel
theorem dX15_nextEntry_52 : decode cX15_nextEntry 52 = .ok (.aload_n 1, 1) := by decide +kernel
theorem dX15_nextEntry_53 : decode cX15_nextEntry 53 = .ok (.areturn, 1) := by decide +kernel
theorem dX16_init_0 : decode cX16_init 0 = .ok (.aload_n 0, 1) := by decide +kernel
theorem dX16_init_1 : decode cX16_init 1 = .ok (.aload_n 1, 1) := by decide +kernel
theorem dX16_init_2 : decode cX16_init 2 = .ok (.aload_n 2, 1) := by decide +kernel
theorem dX16_init_3 : decode cX16_init 3 = .ok (.invokespecial 1, 3) := by decide +kernel
theorem dX16_init_6 : decode cX16_init 6 = .ok (.return_, 1) := by decide +kernel
theorem dX16_next_0 : decode cX16_next 0 = .ok (.aload_n 0, 1) := by decide +kernel
theorem dX16_next_1 : decode cX16_next 1 = .ok (.invokevirtual 7, 3) := by decide +kernel
theorem dX16_next_4 : decode cX16_next 4 = .ok (.getfield 13, 3) := by decide +kernel
theorem dX16_next_7 : decode cX16_next 7 = .ok (.areturn, 1) := by decide +kernel
theorem dX17_init_0 : decode cX17_init 0 = .ok (.aload_n 0, 1) := by decide +kernel
theorem dX17_init_1 : decode cX17_init 1 = .ok (.aload_n 1, 1) := by decide +kernel
theorem dX17_init_2 : decode cX17_init 2 = .ok (.putfield 1, 3) := by decide +kernel
theorem dX17_init_5 : decode cX17_init 5 = .ok (.aload_n 0, 1) := by decide +kernel
theorem dX17_init_6 : decode cX17_init 6 = .ok (.invokespecial 7, 3) := by decide +kernel
theorem dX17_init_9 : decode cX17_init 9 = .ok (.return_, 1) := by decide +kernel
theorem dX17_iterator_0 : decode cX17_iterator 0 = .ok (.new 13, 3) := by decide +kernel
theorem dX17_iterator_3 : decode cX17_iterator 3 = .ok (.dup, 1) := by decide +kernel
theorem dX17_iterator_4 : decode cX17_iterator 4 = .ok (.aload_n 0, 1) := by decide +kernel
theorem dX17_iterator_5 : decode cX17_iterator 5 = .ok (.getfield 1, 3) := by decide +kernel
theorem dX17_iterator_8 : decode cX17_iterator 8 = .ok (.aload_n 0, 1) := by decide +kernel
theorem dX17_iterator_9 : decode cX17_iterator 9 = .ok (.getfield 1, 3) := by decide +kernel
theorem dX17_iterator_12 : decode cX17_iterator 12 = .ok (.invokevirtual 15, 3) := by decide +kernel
theorem dX17_iterator_15 : decode cX17_iterator 15 = .ok (.invokespecial 21, 3) := by decide +kernel
theorem dX17_iterator_18 : decode cX17_iterator 18 = .ok (.areturn, 1) := by decide +kernel
theorem dX18_init_0 : decode cX18_init 0 = .ok (.aload_n 0, 1) := by decide +kernel
theorem dX18_init_1 : decode cX18_init 1 = .ok (.invokespecial 1, 3) := by decide +kernel
theorem dX18_init_4 : decode cX18_init 4 = .ok (.aload_n 0, 1) := by decide +kernel
theorem dX18_init_5 : decode cX18_init 5 = .ok (.iconst 0, 1) := by decide +kernel
theorem dX18_init_6 : decode cX18_init 6 = .ok (.putfield 7, 3) := by decide +kernel
theorem dX18_init_9 : decode cX18_init 9 = .ok (.aload_n 0, 1) := by decide +kernel
theorem dX18_init_10 : decode cX18_init 10 = .ok (.iconst 0, 1) := by decide +kernel
theorem dX18_init_11 : decode cX18_init 11 = .ok (.putfield 13, 3) := by decide +kernel
theorem dX18_init_14 : decode cX18_init 14 = .ok (.aload_n 0, 1) := by decide +kernel
theorem dX18_init_15 : decode cX18_init 15 = .ok (.aconst_null, 1) := by decide +kernel
theorem dX18_init_16 : decode cX18_init 16 = .ok (.putfield 16, 3) := by decide +kernel
theorem dX18_init_19 : decode cX18_init 19 = .ok (.return_, 1) := by decide +kernel
theorem dX18_size_0 : decode cX18_size 0 = .ok (.aload_n 0, 1) := by decide +kernel
theorem dX18_size_1 : decode cX18_size 1 = .ok (.getfield 7, 3) := by decide +kernel
theorem dX18_size_4 : decode cX18_size 4 = .ok (.ireturn, 1) := by decide +kernel
theorem dX18_put_0 : decode cX18_put 0 = .ok (.aload_n 0, 1) := by decide +kernel
theorem dX18_put_1 : decode cX18_put 1 = .ok (.aload_n 1, 1) := by decide +kernel
theorem dX18_put_2 : decode cX18_put 2 = .ok (.aload_n 2, 1) := by decide +kernel
theorem dX18_put_3 : decode cX18_put 3 = .ok (.iconst 1, 1) := by decide +kernel
theorem dX18_put_4 : decode cX18_put 4 = .ok (.invokevirtual 127, 3) := by decide +kernel
theorem dX18_put_7 : decode cX18_put 7 = .ok (.areturn, 1) := by decide +kernel
theorem dX18_addEntry_0 : decode cX18_addEntry 0 = .ok (.new 59, 3) := by decide +kernel
theorem dX18_addEntry_3 : decode cX18_addEntry 3 = .ok (.dup, 1) := by decide +kernel
theorem dX18_addEntry_4 : decode cX18_addEntry 4 = .ok (.aload_n 1, 1) := by decide +kernel
theorem dX18_addEntry_5 : decode cX18_addEntry 5 = .ok (.aload_n 2, 1) := by decide +kernel
theorem dX18_addEntry_6 : decode cX18_addEntry 6 = .ok (.aload_n 3, 1) := by decide +kernel
theorem dX18_addEntry_7 : decode cX18_addEntry 7 = .ok (.invokespecial 167, 3) := by decide +kernel
theorem dX18_addEntry_10 : decode cX18_addEntry 10 = .ok (.astore 5, 2) := by decide +kernel
theorem dX18_addEntry_12 : decode cX18_addEntry 12 = .ok (.iload 4, 2) := by decide +kernel
theorem dX18_addEntry_14 : decode cX18_addEntry 14 = .ok (.ifCond .eq 12, 3) := by decide +kernel
theorem dX18_addEntry_17 : decode cX18_addEntry 17 = .ok (.aload_n 3, 1) := by decide +kernel
theorem dX18_addEntry_18 : decode cX18_addEntry 18 = .ok (.aload 5, 2) := by decide +kernel
theorem dX18_addEntry_20 : decode cX18_addEntry 20 = .ok (.putfield 111, 3) := by decide +kernel
theorem dX18_addEntry_23 : decode cX18_addEntry 23 = .ok (.goto 9, 3) := by decide +kernel
theorem dX18_addEntry_26 : decode cX18_addEntry 26 = .ok (.aload_n 3, 1) := by decide +kernel
theorem dX18_addEntry_27 : decode cX18_addEntry 27 = .ok (.aload 5, 2) := by decide +kernel
theorem dX18_addEntry_29 : decode cX18_addEntry 29 = .ok (.putfield 114, 3) := by decide +kernel
theorem dX18_addEntry_32 : decode cX18_addEntry 32 = .ok (.aload_n 0, 1) := by decide +kernel
theorem dX18_addEntry_33 : decode cX18_addEntry 33 = .ok (.aload 5, 2) := by decide +kernel
theorem dX18_addEntry_35 : decode cX18_addEntry 35 = .ok (.invokevirtual 170, 3) := by decide +kernel
theorem dX18_addEntry_38 : decode cX18_addEntry 38 = .ok (.aload_n 0, 1) := by decide +kernel
theorem dX18_addEntry_39 : decode cX18_addEntry 39 = .ok (.dup, 1) := by decide +kernel
theorem dX18_addEntry_40 : decode cX18_addEntry 40 = .ok (.getfield 7, 3) := by decide +kernel
theorem dX18_addEntry_43 : decode cX18_addEntry 43 = .ok (.iconst 1, 1) := by decide +kernel
theorem dX18_addEntry_44 : decode cX18_addEntry 44 = .ok (.iadd, 1) := by decide +kernel
theorem dX18_addEntry_45 : decode cX18_addEntry 45 = .ok (.putfield 7, 3) := by decide +kernel
theorem dX18_addEntry_48 : decode cX18_addEntry 48 = .ok (.aload_n 0, 1) := by decide +kernel
theorem dX18_addEntry_49 : decode cX18_addEntry 49 = .ok (.dup, 1) := by decide +kernel
theorem dX18_addEntry_50 : decode cX18_addEntry 50 = .ok (.getfield 13, 3) := by decide +kernel
theorem dX18_addEntry_53 : decode cX18_addEntry 53 = .ok (.iconst 1, 1) := by decide +kernel
theorem dX18_addEntry_54 : decode cX18_addEntry 54 = .ok (.iadd, 1) := by decide +kernel
theorem dX18_addEntry_55 : decode cX18_addEntry 55 = .ok (.putfield 13, 3) := by decide +kernel
theorem dX18_addEntry_58 : decode cX18_addEntry 58 = .ok (.return_, 1) := by decide +kernel
theorem dX18_addEntryToEmptyMap_0 : decode cX18_addEntryToEmptyMap 0 = .ok (.aload_n 0, 1) := by decide +kernel
theorem dX18_addEntryToEmptyMap_1 : decode cX18_addEntryToEmptyMap 1 = .ok (.aload_n 1, 1) := by decide +kernel
theorem dX18_addEntryToEmptyMap_2 : decode cX18_addEntryToEmptyMap 2 = .ok (.aload_n 1, 1) := by decide +kernel
theorem dX18_addEntryToEmptyMap_3 : decode cX18_addEntryToEmptyMap 3 = .ok (.invokevirtual 123, 3) := by decide +kernel
theorem dX18_addEntryToEmptyMap_6 : decode cX18_addEntryToEmptyMap 6 = .ok (.pop, 1) := by decide +kernel
theorem dX18_addEntryToEmptyMap_7 : decode cX18_addEntryToEmptyMap 7 = .ok (.aload_n 0, 1) := by decide +kernel
theorem dX18_addEntryToEmptyMap_8 : decode cX18_addEntryToEmptyMap 8 = .ok (.new 59, 3) := by decide +kernel
theorem dX18_addEntryToEmptyMap_11 : decode cX18_addEntryToEmptyMap 11 = .ok (.dup, 1) := by decide +kernel
theorem dX18_addEntryToEmptyMap_12 : decode cX18_addEntryToEmptyMap 12 = .ok (.aload_n 1, 1) := by decide +kernel
theorem dX18_addEntryToEmptyMap_13 : decode cX18_addEntryToEmptyMap 13 = .ok (.aload_n 2, 1) := by decide +kernel
theorem dX18_addEntryToEmptyMap_14 : decode cX18_addEntryToEmptyMap 14 = .ok (.aconst_null, 1) := by decide +kernel
theorem dX18_addEntryToEmptyMap_15 : decode cX18_addEntryToEmptyMap 15 = .ok (.invokespecial 167, 3) := by decide +kernel
theorem dX18_addEntryToEmptyMap_18 : decode cX18_addEntryToEmptyMap 18 = .ok (.putfield 101, 3) := by decide +kernel
theorem dX18_addEntryToEmptyMap_21 : decode cX18_addEntryToEmptyMap 21 = .ok (.aload_n 0, 1) := by decide +kernel
theorem dX18_addEntryToEmptyMap_22 : decode cX18_addEntryToEmptyMap 22 = .ok (.iconst 1, 1) := by decide +kernel
theorem dX18_addEntryToEmptyMap_23 : decode cX18_addEntryToEmptyMap 23 = .ok (.putfield 7, 3) := by decide +kernel
theorem dX18_addEntryToEmptyMap_26 : decode cX18_addEntryToEmptyMap 26 = .ok (.aload_n 0, 1) := by decide +kernel
theorem dX18_addEntryToEmptyMap_27 : decode cX18_addEntryToEmptyMap 27 = .ok (.dup, 1) := by decide +kernel
theorem dX18_addEntryToEmptyMap_28 : decode cX18_addEntryToEmptyMap 28 = .ok (.getfield 13, 3) := by decide +kernel
theorem dX18_addEntryToEmptyMap_31 : decode cX18_addEntryToEmptyMap 31 = .ok (.iconst 1, 1) := by decide +kernel
theorem dX18_addEntryToEmptyMap_32 : decode cX18_addEntryToEmptyMap 32 = .ok (.iadd, 1) := by decide +kernel
theorem dX18_addEntryToEmptyMap_33 : decode cX18_addEntryToEmptyMap 33 = .ok (.putfield 13, 3) := by decide +kernel
theorem dX18_addEntryToEmptyMap_36 : decode cX18_addEntryToEmptyMap 36 = .ok (.return_, 1) := by decide +kernel
theorem dX18_put__0 : decode cX18_put_ 0 = .ok (.aload_n 0, 1) := by decide +kernel
theorem dX18_put__1 : decode cX18_put_ 1 = .ok (.getfield 101, 3) := by decide +kernel
theorem dX18_put__4 : decode cX18_put_ 4 = .ok (.astore 4, 2) := by decide +kernel
theorem dX18_put__6 : decode cX18_put_ 6 = .ok (.aload 4, 2) := by decide +kernel
theorem dX18_put__8 : decode cX18_put_ 8 = .ok (.ifnonnull 11, 3) := by decide +kernel
theorem dX18_put__11 : decode cX18_put_ 11 = .ok (.aload_n 0, 1) := by decide +kernel
theorem dX18_put__12 : decode cX18_put_ 12 = .ok (.aload_n 1, 1) := by decide +kernel
theorem dX18_put__13 : decode cX18_put_ 13 = .ok (.aload_n 2, 1) := by decide +kernel
theorem dX18_put__14 : decode cX18_put_ 14 = .ok (.invokevirtual 135, 3) := by decide +kernel
theorem dX18_put__17 : decode cX18_put_ 17 = .ok (.aconst_null, 1) := by decide +kernel
theorem dX18_put__18 : decode cX18_put_ 18 = .ok (.areturn, 1) := by decide +kernel
theorem dX18_put__19 : decode cX18_put_ 19 = .ok (.aload_n 0, 1) := by decide +kernel
theorem dX18_put__20 : decode cX18_put_ 20 = .ok (.getfield 16, 3) := by decide +kernel
theorem dX18_put__23 : decode cX18_put_ 23 = .ok (.astore 7, 2) := by decide +kernel
theorem dX18_put__25 : decode cX18_put_ 25 = .ok (.aload 7, 2) := by decide +kernel
theorem dX18_put__27 : decode cX18_put_ 27 = .ok (.ifnull 85, 3) := by decide +kernel
theorem dX18_put__30 : decode cX18_put_ 30 = .ok (.aload 4, 2) := by decide +kernel
theorem dX18_put__32 : decode cX18_put_ 32 = .ok (.astore 6, 2) := by decide +kernel
theorem dX18_put__34 : decode cX18_put_ 34 = .ok (.aload 7, 2) := by decide +kernel
theorem dX18_put__36 : decode cX18_put_ 36 = .ok (.aload_n 1, 1) := by decide +kernel
theorem dX18_put__37 : decode cX18_put_ 37 = .ok (.aload 4, 2) := by decide +kernel
theorem dX18_put__39 : decode cX18_put_ 39 = .ok (.getfield 105, 3) := by decide +kernel
theorem dX18_put__42 : decode cX18_put_ 42 = .ok (.invokeinterface 117 3, 5) := by decide +kernel
theorem dX18_put__47 : decode cX18_put_ 47 = .ok (.istore 5, 2) := by decide +kernel
theorem dX18_put__49 : decode cX18_put_ 49 = .ok (.iload 5, 2) := by decide +kernel
theorem dX18_put__51 : decode cX18_put_ 51 = .ok (.ifCond .ge 13, 3) := by decide +kernel
theorem dX18_put__54 : decode cX18_put_ 54 = .ok (.aload 4, 2) := by decide +kernel
theorem dX18_put__56 : decode cX18_put_ 56 = .ok (.getfield 111, 3) := by decide +kernel
theorem dX18_put__59 : decode cX18_put_ 59 = .ok (.astore 4, 2) := by decide +kernel
theorem dX18_put__61 : decode cX18_put_ 61 = .ok (.goto 43, 3) := by decide +kernel
theorem dX18_put__64 : decode cX18_put_ 64 = .ok (.iload 5, 2) := by decide +kernel
theorem dX18_put__66 : decode cX18_put_ 66 = .ok (.ifCond .le 13, 3) := by decide +kernel
theorem dX18_put__69 : decode cX18_put_ 69 = .ok (.aload 4, 2) := by decide +kernel
theorem dX18_put__71 : decode cX18_put_ 71 = .ok (.getfield 114, 3) := by decide +kernel
theorem dX18_put__74 : decode cX18_put_ 74 = .ok (.astore 4, 2) := by decide +kernel
theorem dX18_put__76 : decode cX18_put_ 76 = .ok (.goto 28, 3) := by decide +kernel
theorem dX18_put__79 : decode cX18_put_ 79 = .ok (.aload 4, 2) := by decide +kernel
theorem dX18_put__81 : decode cX18_put_ 81 = .ok (.getfield 58, 3) := by decide +kernel
theorem dX18_put__84 : decode cX18_put_ 84 = .ok (.astore 8, 2) := by decide +kernel
theorem dX18_put__86 : decode cX18_put_ 86 = .ok (.iload_n 3, 1) := by decide +kernel
theorem dX18_put__87 : decode cX18_put_ 87 = .ok (.ifCond .ne 8, 3) := by decide +kernel
theorem dX18_put__90 : decode cX18_put_ 90 = .ok (.aload 8, 2) := by decide +kernel
theorem dX18_put__92 : decode cX18_put_ 92 = .ok (.ifnonnull 9, 3) := by decide +kernel
theorem dX18_put__95 : decode cX18_put_ 95 = .ok (.aload 4, 2) := by decide +kernel
theorem dX18_put__97 : decode cX18_put_ 97 = .ok (.aload_n 2, 1) := by decide +kernel
theorem dX18_put__98 : decode cX18_put_ 98 = .ok (.putfield 58, 3) := by decide +kernel
theorem dX18_put__101 : decode cX18_put_ 101 = .ok (.aload 8, 2) := by decide +kernel
theorem dX18_put__103 : decode cX18_put_ 103 = .ok (.areturn, 1) := by decide +kernel
theorem dX18_put__104 : decode cX18_put_ 104 = .ok (.aload 4, 2) := by decide +kernel
theorem dX18_put__106 : decode cX18_put_ 106 = .ok (.ifnonnull (-76), 3) := by decide +kernel
theorem dX18_put__109 : decode cX18_put_ 109 = .ok (.goto 92, 3) := by decide +kernel
theorem dX18_put__112 : decode cX18_put_ 112 = .ok (.aload_n 1, 1) := by decide +kernel
theorem dX18_put__113 : decode cX18_put_ 113 = .ok (.invokestatic 95, 3) := by decide +kernel
theorem dX18_put__116 : decode cX18_put_ 116 = .ok (.pop, 1) := by decide +kernel
theorem dX18_put__117 : decode cX18_put_ 117 = .ok (.aload_n 1, 1) := by decide +kernel
theorem dX18_put__118 : decode cX18_put_ 118 = .ok (.checkcast 99, 3) := by decide +kernel
theorem dX18_put__121 : decode cX18_put_ 121 = .ok (.astore 8, 2) := by decide +kernel
theorem dX18_put__123 : decode cX18_put_ 123 = .ok (.aload 4, 2) := by decide +kernel
theorem dX18_put__125 : decode cX18_put_ 125 = .ok (.astore 6, 2) := by decide +kernel
theorem dX18_put__127 : decode cX18_put_ 127 = .ok (.aload 8, 2) := by decide +kernel
theorem dX18_put__129 : decode cX18_put_ 129 = .ok (.aload 4, 2) := by decide +kernel
theorem dX18_put__131 : decode cX18_put_ 131 = .ok (.getfield 105, 3) := by decide +kernel
theorem dX18_put__134 : decode cX18_put_ 134 = .ok (.invokeinterface 107 2, 5) := by decide +kernel
theorem dX18_put__139 : decode cX18_put_ 139 = .ok (.istore 5, 2) := by decide +kernel
theorem dX18_put__141 : decode cX18_put_ 141 = .ok (.iload 5, 2) := by decide +kernel
theorem dX18_put__143 : decode cX18_put_ 143 = .ok (.ifCond .ge 13, 3) := by decide +kernel
theorem dX18_put__146 : decode cX18_put_ 146 = .ok (.aload 4, 2) := by decide +kernel
theorem dX18_put__148 : decode cX18_put_ 148 = .ok (.getfield 111, 3) := by decide +kernel
theorem dX18_put__151 : decode cX18_put_ 151 = .ok (.astore 4, 2) := by decide +kernel
theorem dX18_put__153 : decode cX18_put_ 153 = .ok (.goto 43, 3) := by decide +kernel
theorem dX18_put__156 : decode cX18_put_ 156 = .ok (.iload 5, 2) := by decide +kernel
theorem dX18_put__158 : decode cX18_put_ 158 = .ok (.ifCond .le 13, 3) := by decide +kernel
theorem dX18_put__161 : decode cX18_put_ 161 = .ok (.aload 4, 2) := by decide +kernel
theorem dX18_put__163 : decode cX18_put_ 163 = .ok (.getfield 114, 3) := by decide +kernel
theorem dX18_put__166 : decode cX18_put_ 166 = .ok (.astore 4, 2) := by decide +kernel
theorem dX18_put__168 : decode cX18_put_ 168 = .ok (.goto 28, 3) := by decide +kernel
theorem dX18_put__171 : decode cX18_put_ 171 = .ok (.aload 4, 2) := by decide +kernel
theorem dX18_put__173 : decode cX18_put_ 173 = .ok (.getfield 58, 3) := by decide +kernel
theorem dX18_put__176 : decode cX18_put_ 176 = .ok (.astore 9, 2) := by decide +kernel
theorem dX18_put__178 : decode cX18_put_ 178 = .ok (.iload_n 3, 1) := by decide +kernel
theorem dX18_put__179 : decode cX18_put_ 179 = .ok (.ifCond .ne 8, 3) := by decide +kernel
theorem dX18_put__182 : decode cX18_put_ 182 = .ok (.aload 9, 2) := by decide +kernel
theorem dX18_put__184 : decode cX18_put_ 184 = .ok (.ifnonnull 9, 3) := by decide +kernel
theorem dX18_put__187 : decode cX18_put_ 187 = .ok (.aload 4, 2) := by decide +kernel
theorem dX18_put__189 : decode cX18_put_ 189 = .ok (.aload_n 2, 1) := by decide +kernel
theorem dX18_put__190 : decode cX18_put_ 190 = .ok (.putfield 58, 3) := by decide +kernel
theorem dX18_put__193 : decode cX18_put_ 193 = .ok (.aload 9, 2) := by decide +kernel
theorem dX18_put__195 : decode cX18_put_ 195 = .ok (.areturn, 1) := by decide +kernel
theorem dX18_put__196 : decode cX18_put_ 196 = .ok (.aload 4, 2) := by decide +kernel
theorem dX18_put__198 : decode cX18_put_ 198 = .ok (.ifnonnull (-75), 3) := by decide +kernel
theorem dX18_put__201 : decode cX18_put_ 201 = .ok (.aload_n 0, 1) := by decide +kernel
theorem dX18_put__202 : decode cX18_put_ 202 = .ok (.aload_n 1, 1) := by decide +kernel
theorem dX18_put__203 : decode cX18_put_ 203 = .ok (.aload_n 2, 1) := by decide +kernel
theorem dX18_put__204 : decode cX18_put_ 204 = .ok (.aload 6, 2) := by decide +kernel
theorem dX18_put__206 : decode cX18_put_ 206 = .ok (.iload 5, 2) := by decide +kernel
theorem dX18_put__208 : decode cX18_put_ 208 = .ok (.ifCond .ge 7, 3) := by decide +kernel
theorem dX18_put__211 : decode cX18_put_ 211 = .ok (.iconst 1, 1) := by decide +kernel
theorem dX18_put__212 : decode cX18_put_ 212 = .ok (.goto 4, 3) := by decide +kernel
theorem dX18_put__215 : decode cX18_put_ 215 = .ok (.iconst 0, 1) := by decide +kernel
theorem dX18_put__216 : decode cX18_put_ 216 = .ok (.invokevirtual 139, 3) := by decide +kernel
theorem dX18_put__219 : decode cX18_put_ 219 = .ok (.aconst_null, 1) := by decide +kernel
theorem dX18_put__220 : decode cX18_put_ 220 = .ok (.areturn, 1) := by decide +kernel
theorem dX18_values_0 : decode cX18_values 0 = .ok (.aload_n 0, 1) := by decide +kernel
theorem dX18_values_1 : decode cX18_values 1 = .ok (.getfield 233, 3) := by decide +kernel
theorem dX18_values_4 : decode cX18_values 4 = .ok (.astore_n 1, 1) := by decide +kernel
theorem dX18_values_5 : decode cX18_values 5 = .ok (.aload_n 1, 1) := by decide +kernel
theorem dX18_values_6 : decode cX18_values 6 = .ok (.ifnonnull 17, 3) := by decide +kernel
theorem dX18_values_9 : decode cX18_values 9 = .ok (.new 237, 3) := by decide +kernel
theorem dX18_values_12 : decode cX18_values 12 = .ok (.dup, 1) := by decide +kernel
theorem dX18_values_13 : decode cX18_values 13 = .ok (.aload_n 0, 1) := by decide +kernel
theorem dX18_values_14 : decode cX18_values 14 = .ok (.invokespecial 239, 3) := by decide +kernel
theorem dX18_values_17 : decode cX18_values 17 = .ok (.astore_n 1, 1) := by decide +kernel
theorem dX18_values_18 : decode cX18_values 18 = .ok (.aload_n 0, 1) := by decide +kernel
theorem dX18_values_19 : decode cX18_values 19 = .ok (.aload_n 1, 1) := by decide +kernel
theorem dX18_values_20 : decode cX18_values 20 = .ok (.putfield 233, 3) := by decide +kernel
theorem dX18_values_23 : decode cX18_values 23 = .ok (.aload_n 1, 1) := by decide +kernel
theorem dX18_values_24 : decode cX18_values 24 = .ok (.areturn, 1) := by decide +kernel
theorem dX18_entrySet_0 : decode cX18_entrySet 0 = .ok (.aload_n 0, 1) := by decide +kernel
theorem dX18_entrySet_1 : decode cX18_entrySet 1 = .ok (.getfield 188, 3) := by decide +kernel
theorem dX18_entrySet_4 : decode cX18_entrySet 4 = .ok (.astore_n 1, 1) := by decide +kernel
theorem dX18_entrySet_5 : decode cX18_entrySet 5 = .ok (.aload_n 1, 1) := by decide +kernel
theorem dX18_entrySet_6 : decode cX18_entrySet 6 = .ok (.ifnull 7, 3) := by decide +kernel
theorem dX18_entrySet_9 : decode cX18_entrySet 9 = .ok (.aload_n 1, 1) := by decide +kernel
theorem dX18_entrySet_10 : decode cX18_entrySet 10 = .ok (.goto 16, 3) := by decide +kernel
theorem dX18_entrySet_13 : decode cX18_entrySet 13 = .ok (.aload_n 0, 1) := by decide +kernel
theorem dX18_entrySet_14 : decode cX18_entrySet 14 = .ok (.new 242, 3) := by decide +kernel
theorem dX18_entrySet_17 : decode cX18_entrySet 17 = .ok (.dup, 1) := by decide +kernel
theorem dX18_entrySet_18 : decode cX18_entrySet 18 = .ok (.aload_n 0, 1) := by decide +kernel
theorem dX18_entrySet_19 : decode cX18_entrySet 19 = .ok (.invokespecial 244, 3) := by decide +kernel
theorem dX18_entrySet_22 : decode cX18_entrySet 22 = .ok (.dup_x1, 1) := by decide +kernel
theorem dX18_entrySet_23 : decode cX18_entrySet 23 = .ok (.putfield 188, 3) := by decide +kernel
theorem dX18_entrySet_26 : decode cX18_entrySet 26 = .ok (.areturn, 1) := by decide +kernel
theorem dX18_compare_0 : decode cX18_compare 0 = .ok (.aload_n 0, 1) := by decide +kernel
theorem dX18_compare_1 : decode cX18_compare 1 = .ok (.getfield 16, 3) := by decide +kernel
theorem dX18_compare_4 : decode cX18_compare 4 = .ok (.ifnonnull 16, 3) := by decide +kernel
theorem dX18_compare_7 : decode cX18_compare 7 = .ok (.aload_n 1, 1) := by decide +kernel
theorem dX18_compare_8 : decode cX18_compare 8 = .ok (.checkcast 99, 3) := by decide +kernel
theorem dX18_compare_11 : decode cX18_compare 11 = .ok (.aload_n 2, 1) := by decide +kernel
theorem dX18_compare_12 : decode cX18_compare 12 = .ok (.invokeinterface 107 2, 5) := by decide +kernel
theorem dX18_compare_17 : decode cX18_compare 17 = .ok (.goto 14, 3) := by decide +kernel
theorem dX18_compare_20 : decode cX18_compare 20 = .ok (.aload_n 0, 1) := by decide +kernel
theorem dX18_compare_21 : decode cX18_compare 21 = .ok (.getfield 16, 3) := by decide +kernel
theorem dX18_compare_24 : decode cX18_compare 24 = .ok (.aload_n 1, 1) := by decide +kernel
theorem dX18_compare_25 : decode cX18_compare 25 = .ok (.aload_n 2, 1) := by decide +kernel
theorem dX18_compare_26 : decode cX18_compare 26 = .ok (.invokeinterface 117 3, 5) := by decide +kernel
theorem dX18_compare_31 : decode cX18_compare 31 = .ok (.ireturn, 1) := by decide +kernel
theorem dX18_getFirstEntry_0 : decode cX18_getFirstEntry 0 = .ok (.aload_n 0, 1) := by decide +kernel
theorem dX18_getFirstEntry_1 : decode cX18_getFirstEntry 1 = .ok (.getfield 101, 3) := by decide +kernel
theorem dX18_getFirstEntry_4 : decode cX18_getFirstEntry 4 = .ok (.astore_n 1, 1) := by decide +kernel
theorem dX18_getFirstEntry_5 : decode cX18_getFirstEntry 5 = .ok (.aload_n 1, 1) := by decide +kernel
theorem dX18_getFirstEntry_6 : decode cX18_getFirstEntry 6 = .ok (.ifnull 18, 3) := by decide +kernel
theorem dX18_getFirstEntry_9 : decode cX18_getFirstEntry 9 = .ok (.aload_n 1, 1) := by decide +kernel
theorem dX18_getFirstEntry_10 : decode cX18_getFirstEntry 10 = .ok (.getfield 111, 3) := by decide +kernel
theorem dX18_getFirstEntry_13 : decode cX18_getFirstEntry 13 = .ok (.ifnull 11, 3) := by decide +kernel
theorem dX18_getFirstEntry_16 : decode cX18_getFirstEntry 16 = .ok (.aload_n 1, 1) := by decide +kernel
theorem dX18_getFirstEntry_17 : decode cX18_getFirstEntry 17 = .ok (.getfield 111, 3) := by decide +kernel
theorem dX18_getFirstEntry_20 : decode cX18_getFirstEntry 20 = .ok (.astore_n 1, 1) := by decide +kernel
theorem dX18_getFirstEntry_21 : decode cX18_getFirstEntry 21 = .ok (.goto (-12), 3) := by decide +kernel
theorem dX18_getFirstEntry_24 : decode cX18_getFirstEntry 24 = .ok (.aload_n 1, 1) := by decide +kernel
theorem dX18_getFirstEntry_25 : decode cX18_getFirstEntry 25 = .ok (.areturn, 1) := by decide +kernel
theorem dX18_successor_0 : decode cX18_successor 0 = .ok (.aload_n 0, 1) := by decide +kernel
theorem dX18_successor_1 : decode cX18_successor 1 = .ok (.ifnonnull 5, 3) := by decide +kernel
theorem dX18_successor_4 : decode cX18_successor 4 = .ok (.aconst_null, 1) := by decide +kernel
theorem dX18_successor_5 : decode cX18_successor 5 = .ok (.areturn, 1) := by decide +kernel
theorem dX18_successor_6 : decode cX18_successor 6 = .ok (.aload_n 0, 1) := by decide +kernel
theorem dX18_successor_7 : decode cX18_successor 7 = .ok (.getfield 114, 3) := by decide +kernel
theorem dX18_successor_10 : decode cX18_successor 10 = .ok (.ifnull 25, 3) := by decide +kernel
theorem dX18_successor_13 : decode cX18_successor 13 = .ok (.aload_n 0, 1) := by decide +kernel
theorem dX18_successor_14 : decode cX18_successor 14 = .ok (.getfield 114, 3) := by decide +kernel
theorem dX18_successor_17 : decode cX18_successor 17 = .ok (.astore_n 1, 1) := by decide +kernel
theorem dX18_successor_18 : decode cX18_successor 18 = .ok (.aload_n 1, 1) := by decide +kernel
theorem dX18_successor_19 : decode cX18_successor 19 = .ok (.getfield 111, 3) := by decide +kernel
theorem dX18_successor_22 : decode cX18_successor 22 = .ok (.ifnull 11, 3) := by decide +kernel
theorem dX18_successor_25 : decode cX18_successor 25 = .ok (.aload_n 1, 1) := by decide +kernel
theorem dX18_successor_26 : decode cX18_successor 26 = .ok (.getfield 111, 3) := by decide +kernel
theorem dX18_successor_29 : decode cX18_successor 29 = .ok (.astore_n 1, 1) := by decide +kernel
theorem dX18_successor_30 : decode cX18_successor 30 = .ok (.goto (-12), 3) := by decide +kernel
theorem dX18_successor_33 : decode cX18_successor 33 = .ok (.aload_n 1, 1) := by decide +kernel
theorem dX18_successor_34 : decode cX18_successor 34 = .ok (.areturn, 1) := by decide +kernel
theorem dX18_successor_35 : decode cX18_successor 35 = .ok (.aload_n 0, 1) := by decide +kernel
theorem dX18_successor_36 : decode cX18_successor 36 = .ok (.getfield 124, 3) := by decide +kernel
theorem dX18_successor_39 : decode cX18_successor 39 = .ok (.astore_n 1, 1) := by decide +kernel
theorem dX18_successor_40 : decode cX18_successor 40 = .ok (.aload_n 0, 1) := by decide +kernel
theorem dX18_successor_41 : decode cX18_successor 41 = .ok (.astore_n 2, 1) := by decide +kernel
theorem dX18_successor_42 : decode cX18_successor 42 = .ok (.aload_n 1, 1) := by decide +kernel
theorem dX18_successor_43 : decode cX18_successor 43 = .ok (.ifnull 21, 3) := by decide +kernel
theorem dX18_successor_46 : decode cX18_successor 46 = .ok (.aload_n 2, 1) := by decide +kernel
theorem dX18_successor_47 : decode cX18_successor 47 = .ok (.aload_n 1, 1) := by decide +kernel
theorem dX18_successor_48 : decode cX18_successor 48 = .ok (.getfield 114, 3) := by decide +kernel
theorem dX18_successor_51 : decode cX18_successor 51 = .ok (.if_acmp .ne 13, 3) := by decide +kernel
theorem dX18_successor_54 : decode cX18_successor 54 = .ok (.aload_n 1, 1) := by decide +kernel
theorem dX18_successor_55 : decode cX18_successor 55 = .ok (.astore_n 2, 1) := by decide +kernel
theorem dX18_successor_56 : decode cX18_successor 56 = .ok (.aload_n 1, 1) := by decide +kernel
theorem dX18_successor_57 : decode cX18_successor 57 = .ok (.getfield 124, 3) := by decide +kernel
theorem dX18_successor_60 : decode cX18_successor 60 = .ok (.astore_n 1, 1) := by decide +kernel
theorem dX18_successor_61 : decode cX18_successor 61 = .ok (.goto (-19), 3) := by decide +kernel
theorem dX18_successor_64 : decode cX18_successor 64 = .ok (.aload_n 1, 1) := by decide +kernel
theorem dX18_successor_65 : decode cX18_successor 65 = .ok (.areturn, 1) := by decide +kernel
theorem dX18_colorOf_0 : decode cX18_colorOf 0 = .ok (.aload_n 0, 1) := by decide +kernel
theorem dX18_colorOf_1 : decode cX18_colorOf 1 = .ok (.ifnonnull 7, 3) := by decide +kernel
theorem dX18_colorOf_4 : decode cX18_colorOf 4 = .ok (.iconst 1, 1) := by decide +kernel
theorem dX18_colorOf_5 : decode cX18_colorOf 5 = .ok (.goto 7, 3) := by decide +kernel
theorem dX18_colorOf_8 : decode cX18_colorOf 8 = .ok (.aload_n 0, 1) := by decide +kernel
theorem dX18_colorOf_9 : decode cX18_colorOf 9 = .ok (.getfield 290, 3) := by decide +kernel
theorem dX18_colorOf_12 : decode cX18_colorOf 12 = .ok (.ireturn, 1) := by decide +kernel
theorem dX18_parentOf_0 : decode cX18_parentOf 0 = .ok (.aload_n 0, 1) := by decide +kernel
theorem dX18_parentOf_1 : decode cX18_parentOf 1 = .ok (.ifnonnull 7, 3) := by decide +kernel
theorem dX18_parentOf_4 : decode cX18_parentOf 4 = .ok (.aconst_null, 1) := by decide +kernel
theorem dX18_parentOf_5 : decode cX18_parentOf 5 = .ok (.goto 7, 3) := by decide +kernel
theorem dX18_parentOf_8 : decode cX18_parentOf 8 = .ok (.aload_n 0, 1) := by decide +kernel
theorem dX18_parentOf_9 : decode cX18_parentOf 9 = .ok (.getfield 124, 3) := by decide +kernel
theorem dX18_parentOf_12 : decode cX18_parentOf 12 = .ok (.areturn, 1) := by decide +kernel
theorem dX18_setColor_0 : decode cX18_setColor 0 = .ok (.aload_n 0, 1) := by decide +kernel
theorem dX18_setColor_1 : decode cX18_setColor 1 = .ok (.ifnull 8, 3) := by decide +kernel
theorem dX18_setColor_4 : decode cX18_setColor 4 = .ok (.aload_n 0, 1) := by decide +kernel
theorem dX18_setColor_5 : decode cX18_setColor 5 = .ok (.iload_n 1, 1) := by decide +kernel
theorem dX18_setColor_6 : decode cX18_setColor 6 = .ok (.putfield 290, 3) := by decide +kernel
theorem dX18_setColor_9 : decode cX18_setColor 9 = .ok (.return_, 1) := by decide +kernel
theorem dX18_leftOf_0 : decode cX18_leftOf 0 = .ok (.aload_n 0, 1) := by decide +kernel
theorem dX18_leftOf_1 : decode cX18_leftOf 1 = .ok (.ifnonnull 7, 3) := by decide +kernel
theorem dX18_leftOf_4 : decode cX18_leftOf 4 = .ok (.aconst_null, 1) := by decide +kernel
theorem dX18_leftOf_5 : decode cX18_leftOf 5 = .ok (.goto 7, 3) := by decide +kernel
theorem dX18_leftOf_8 : decode cX18_leftOf 8 = .ok (.aload_n 0, 1) := by decide +kernel
theorem dX18_leftOf_9 : decode cX18_leftOf 9 = .ok (.getfield 111, 3) := by decide +kernel
theorem dX18_leftOf_12 : decode cX18_leftOf 12 = .ok (.areturn, 1) := by decide +kernel
theorem dX18_rightOf_0 : decode cX18_rightOf 0 = .ok (.aload_n 0, 1) := by decide +kernel
theorem dX18_rightOf_1 : decode cX18_rightOf 1 = .ok (.ifnonnull 7, 3) := by decide +kernel
theorem dX18_rightOf_4 : decode cX18_rightOf 4 = .ok (.aconst_null, 1) := by decide +kernel
theorem dX18_rightOf_5 : decode cX18_rightOf 5 = .ok (.goto 7, 3) := by decide +kernel
theorem dX18_rightOf_8 : decode cX18_rightOf 8 = .ok (.aload_n 0, 1) := by decide +kernel
theorem dX18_rightOf_9 : decode cX18_rightOf 9 = .ok (.getfield 114, 3) := by decide +kernel
theorem dX18_rightOf_12 : decode cX18_rightOf 12 = .ok (.areturn, 1) := by decide +kernel
theorem dX18_rotateLeft_0 : decode cX18_rotateLeft 0 = .ok (.aload_n 1, 1) := by decide +kernel
theorem dX18_rotateLeft_1 : decode cX18_rotateLeft 1 = .ok (.ifnull 94, 3) := by decide +kernel
theorem dX18_rotateLeft_4 : decode cX18_rotateLeft 4 = .ok (.aload_n 1, 1) := by decide +kernel
theorem dX18_rotateLeft_5 : decode cX18_rotateLeft 5 = .ok (.getfield 114, 3) := by decide +kernel
theorem dX18_rotateLeft_8 : decode cX18_rotateLeft 8 = .ok (.astore_n 2, 1) := by decide +kernel
theorem dX18_rotateLeft_9 : decode cX18_rotateLeft 9 = .ok (.aload_n 1, 1) := by decide +kernel
theorem dX18_rotateLeft_10 : decode cX18_rotateLeft 10 = .ok (.aload_n 2, 1) := by decide +kernel
theorem dX18_rotateLeft_11 : decode cX18_rotateLeft 11 = .ok (.getfield 111, 3) := by decide +kernel
theorem dX18_rotateLeft_14 : decode cX18_rotateLeft 14 = .ok (.putfield 114, 3) := by decide +kernel
theorem dX18_rotateLeft_17 : decode cX18_rotateLeft 17 = .ok (.aload_n 2, 1) := by decide +kernel
theorem dX18_rotateLeft_18 : decode cX18_rotateLeft 18 = .ok (.getfield 111, 3) := by decide +kernel
theorem dX18_rotateLeft_21 : decode cX18_rotateLeft 21 = .ok (.ifnull 11, 3) := by decide +kernel
theorem dX18_rotateLeft_24 : decode cX18_rotateLeft 24 = .ok (.aload_n 2, 1) := by decide +kernel
theorem dX18_rotateLeft_25 : decode cX18_rotateLeft 25 = .ok (.getfield 111, 3) := by decide +kernel
theorem dX18_rotateLeft_28 : decode cX18_rotateLeft 28 = .ok (.aload_n 1, 1) := by decide +kernel
theorem dX18_rotateLeft_29 : decode cX18_rotateLeft 29 = .ok (.putfield 124, 3) := by decide +kernel
theorem dX18_rotateLeft_32 : decode cX18_rotateLeft 32 = .ok (.aload_n 2, 1) := by decide +kernel
theorem dX18_rotateLeft_33 : decode cX18_rotateLeft 33 = .ok (.aload_n 1, 1) := by decide +kernel
theorem dX18_rotateLeft_34 : decode cX18_rotateLeft 34 = .ok (.getfield 124, 3) := by decide +kernel
theorem dX18_rotateLeft_37 : decode cX18_rotateLeft 37 = .ok (.putfield 124, 3) := by decide +kernel
theorem dX18_rotateLeft_40 : decode cX18_rotateLeft 40 = .ok (.aload_n 1, 1) := by decide +kernel
theorem dX18_rotateLeft_41 : decode cX18_rotateLeft 41 = .ok (.getfield 124, 3) := by decide +kernel
theorem dX18_rotateLeft_44 : decode cX18_rotateLeft 44 = .ok (.ifnonnull 11, 3) := by decide +kernel
theorem dX18_rotateLeft_47 : decode cX18_rotateLeft 47 = .ok (.aload_n 0, 1) := by decide +kernel
theorem dX18_rotateLeft_48 : decode cX18_rotateLeft 48 = .ok (.aload_n 2, 1) := by decide +kernel
theorem dX18_rotateLeft_49 : decode cX18_rotateLeft 49 = .ok (.putfield 101, 3) := by decide +kernel
theorem dX18_rotateLeft_52 : decode cX18_rotateLeft 52 = .ok (.goto 33, 3) := by decide +kernel
theorem dX18_rotateLeft_55 : decode cX18_rotateLeft 55 = .ok (.aload_n 1, 1) := by decide +kernel
theorem dX18_rotateLeft_56 : decode cX18_rotateLeft 56 = .ok (.getfield 124, 3) := by decide +kernel
theorem dX18_rotateLeft_59 : decode cX18_rotateLeft 59 = .ok (.getfield 111, 3) := by decide +kernel
theorem dX18_rotateLeft_62 : decode cX18_rotateLeft 62 = .ok (.aload_n 1, 1) := by decide +kernel
theorem dX18_rotateLeft_63 : decode cX18_rotateLeft 63 = .ok (.if_acmp .ne 14, 3) := by decide +kernel
theorem dX18_rotateLeft_66 : decode cX18_rotateLeft 66 = .ok (.aload_n 1, 1) := by decide +kernel
theorem dX18_rotateLeft_67 : decode cX18_rotateLeft 67 = .ok (.getfield 124, 3) := by decide +kernel
theorem dX18_rotateLeft_70 : decode cX18_rotateLeft 70 = .ok (.aload_n 2, 1) := by decide +kernel
theorem dX18_rotateLeft_71 : decode cX18_rotateLeft 71 = .ok (.putfield 111, 3) := by decide +kernel
theorem dX18_rotateLeft_74 : decode cX18_rotateLeft 74 = .ok (.goto 11, 3) := by decide +kernel
theorem dX18_rotateLeft_77 : decode cX18_rotateLeft 77 = .ok (.aload_n 1, 1) := by decide +kernel
theorem dX18_rotateLeft_78 : decode cX18_rotateLeft 78 = .ok (.getfield 124, 3) := by decide +kernel
theorem dX18_rotateLeft_81 : decode cX18_rotateLeft 81 = .ok (.aload_n 2, 1) := by decide +kernel
theorem dX18_rotateLeft_82 : decode cX18_rotateLeft 82 = .ok (.putfield 114, 3) := by decide +kernel
theorem dX18_rotateLeft_85 : decode cX18_rotateLeft 85 = .ok (.aload_n 2, 1) := by decide +kernel
theorem dX18_rotateLeft_86 : decode cX18_rotateLeft 86 = .ok (.aload_n 1, 1) := by decide +kernel
theorem dX18_rotateLeft_87 : decode cX18_rotateLeft 87 = .ok (.putfield 111, 3) := by decide +kernel
theorem dX18_rotateLeft_90 : decode cX18_rotateLeft 90 = .ok (.aload_n 1, 1) := by decide +kernel
theorem dX18_rotateLeft_91 : decode cX18_rotateLeft 91 = .ok (.aload_n 2, 1) := by decide +kernel
theorem dX18_rotateLeft_92 : decode cX18_rotateLeft 92 = .ok (.putfield 124, 3) := by decide +kernel
theorem dX18_rotateLeft_95 : decode cX18_rotateLeft 95 = .ok (.return_, 1) := by decide +kernel
theorem dX18_rotateRight_0 : decode cX18_rotateRight 0 = .ok (.aload_n 1, 1) := by decide +kernel
theorem dX18_rotateRight_1 : decode cX18_rotateRight 1 = .ok (.ifnull 94, 3) := by decide +kernel
theorem dX18_rotateRight_4 : decode cX18_rotateRight 4 = .ok (.aload_n 1, 1) := by decide +kernel
theorem dX18_rotateRight_5 : decode cX18_rotateRight 5 = .ok (.getfield 111, 3) := by decide +kernel
theorem dX18_rotateRight_8 : decode cX18_rotateRight 8 = .ok (.astore_n 2, 1) := by decide +kernel
theorem dX18_rotateRight_9 : decode cX18_rotateRight 9 = .ok (.aload_n 1, 1) := by decide +kernel
theorem dX18_rotateRight_10 : decode cX18_rotateRight 10 = .ok (.aload_n 2, 1) := by decide +kernel
theorem dX18_rotateRight_11 : decode cX18_rotateRight 11 = .ok (.getfield 114, 3) := by decide +kernel
theorem dX18_rotateRight_14 : decode cX18_rotateRight 14 = .ok (.putfield 111, 3) := by decide +kernel
theorem dX18_rotateRight_17 : decode cX18_rotateRight 17 = .ok (.aload_n 2, 1) := by decide +kernel
theorem dX18_rotateRight_18 : decode cX18_rotateRight 18 = .ok (.getfield 114, 3) := by decide +kernel
theorem dX18_rotateRight_21 : decode cX18_rotateRight 21 = .ok (.ifnull 11, 3) := by decide +kernel
theorem dX18_rotateRight_24 : decode cX18_rotateRight 24 = .ok (.aload_n 2, 1) := by decide +kernel
theorem dX18_rotateRight_25 : decode cX18_rotateRight 25 = .ok (.getfield 114, 3) := by decide +kernel
theorem dX18_rotateRight_28 : decode cX18_rotateRight 28 = .ok (.aload_n 1, 1) := by decide +kernel
theorem dX18_rotateRight_29 : decode cX18_rotateRight 29 = .ok (.putfield 124, 3) := by decide +kernel
theorem dX18_rotateRight_32 : decode cX18_rotateRight 32 = .ok (.aload_n 2, 1) := by decide +kernel
theorem dX18_rotateRight_33 : decode cX18_rotateRight 33 = .ok (.aload_n 1, 1) := by decide +kernel
theorem dX18_rotateRight_34 : decode cX18_rotateRight 34 = .ok (.getfield 124, 3) := by decide +kernel
theorem dX18_rotateRight_37 : decode cX18_rotateRight 37 = .ok (.putfield 124, 3) := by decide +kernel
theorem dX18_rotateRight_40 : decode cX18_rotateRight 40 = .ok (.aload_n 1, 1) := by decide +kernel
theorem dX18_rotateRight_41 : decode cX18_rotateRight 41 = .ok (.getfield 124, 3) := by decide +kernel
theorem dX18_rotateRight_44 : decode cX18_rotateRight 44 = .ok (.ifnonnull 11, 3) := by decide +kernel
theorem dX18_rotateRight_47 : decode cX18_rotateRight 47 = .ok (.aload_n 0, 1) := by decide +kernel
theorem dX18_rotateRight_48 : decode cX18_rotateRight 48 = .ok (.aload_n 2, 1) := by decide +kernel
theorem dX18_rotateRight_49 : decode cX18_rotateRight 49 = .ok (.putfield 101, 3) := by decide +kernel
theorem dX18_rotateRight_52 : decode cX18_rotateRight 52 = .ok (.goto 33, 3) := by decide +kernel
theorem dX18_rotateRight_55 : decode cX18_rotateRight 55 = .ok (.aload_n 1, 1) := by decide +kernel
theorem dX18_rotateRight_56 : decode cX18_rotateRight 56 = .ok (.getfield 124, 3) := by decide +kernel
theorem dX18_rotateRight_59 : decode cX18_rotateRight 59 = .ok (.getfield 114, 3) := by decide +kernel
theorem dX18_rotateRight_62 : decode cX18_rotateRight 62 = .ok (.aload_n 1, 1) := by decide +kernel
theorem dX18_rotateRight_63 : decode cX18_rotateRight 63 = .ok (.if_acmp .ne 14, 3) := by decide +kernel
theorem dX18_rotateRight_66 : decode cX18_rotateRight 66 = .ok (.aload_n 1, 1) := by decide +kernel
theorem dX18_rotateRight_67 : decode cX18_rotateRight 67 = .ok (.getfield 124, 3) := by decide +kernel
theorem dX18_rotateRight_70 : decode cX18_rotateRight 70 = .ok (.aload_n 2, 1) := by decide +kernel
theorem dX18_rotateRight_71 : decode cX18_rotateRight 71 = .ok (.putfield 114, 3) := by decide +kernel
theorem dX18_rotateRight_74 : decode cX18_rotateRight 74 = .ok (.goto 11, 3) := by decide +kernel
theorem dX18_rotateRight_77 : decode cX18_rotateRight 77 = .ok (.aload_n 1, 1) := by decide +kernel
theorem dX18_rotateRight_78 : decode cX18_rotateRight 78 = .ok (.getfield 124, 3) := by decide +kernel
theorem dX18_rotateRight_81 : decode cX18_rotateRight 81 = .ok (.aload_n 2, 1) := by decide +kernel
theorem dX18_rotateRight_82 : decode cX18_rotateRight 82 = .ok (.putfield 111, 3) := by decide +kernel
theorem dX18_rotateRight_85 : decode cX18_rotateRight 85 = .ok (.aload_n 2, 1) := by decide +kernel
theorem dX18_rotateRight_86 : decode cX18_rotateRight 86 = .ok (.aload_n 1, 1) := by decide +kernel
theorem dX18_rotateRight_87 : decode cX18_rotateRight 87 = .ok (.putfield 114, 3) := by decide +kernel
theorem dX18_rotateRight_90 : decode cX18_rotateRight 90 = .ok (.aload_n 1, 1) := by decide +kernel
theorem dX18_rotateRight_91 : decode cX18_rotateRight 91 = .ok (.aload_n 2, 1) := by decide +kernel
theorem dX18_rotateRight_92 : decode cX18_rotateRight 92 = .ok (.putfield 124, 3) := by decide +kernel
theorem dX18_rotateRight_95 : decode cX18_rotateRight 95 = .ok (.return_, 1) := by decide +kernel
theorem dX18_fixAfterInsertion_0 : decode cX18_fixAfterInsertion 0 = .ok (.aload_n 1, 1) := by decide +kernel
theorem dX18_fixAfterInsertion_1 : decode cX18_fixAfterInsertion 1 = .ok (.iconst 0, 1) := by decide +kernel
theorem dX18_fixAfterInsertion_2 : decode cX18_fixAfterInsertion 2 = .ok (.putfield 290, 3) := by decide +kernel
theorem dX18_fixAfterInsertion_5 : decode cX18_fixAfterInsertion 5 = .ok (.aload_n 1, 1) := by decide +kernel
theorem dX18_fixAfterInsertion_6 : decode cX18_fixAfterInsertion 6 = .ok (.ifnull 252, 3) := by decide +kernel
theorem dX18_fixAfterInsertion_9 : decode cX18_fixAfterInsertion 9 = .ok (.aload_n 1, 1) := by decide +kernel
theorem dX18_fixAfterInsertion_10 : decode cX18_fixAfterInsertion 10 = .ok (.aload_n 0, 1) := by decide +kernel
theorem dX18_fixAfterInsertion_11 : decode cX18_fixAfterInsertion 11 = .ok (.getfield 101, 3) := by decide +kernel
theorem dX18_fixAfterInsertion_14 : decode cX18_fixAfterInsertion 14 = .ok (.if_acmp .eq 244, 3) := by decide +kernel
theorem dX18_fixAfterInsertion_17 : decode cX18_fixAfterInsertion 17 = .ok (.aload_n 1, 1) := by decide +kernel
theorem dX18_fixAfterInsertion_18 : decode cX18_fixAfterInsertion 18 = .ok (.getfield 124, 3) := by decide +kernel
theorem dX18_fixAfterInsertion_21 : decode cX18_fixAfterInsertion 21 = .ok (.getfield 290, 3) := by decide +kernel
theorem dX18_fixAfterInsertion_24 : decode cX18_fixAfterInsertion 24 = .ok (.ifCond .ne 234, 3) := by decide +kernel
theorem dX18_fixAfterInsertion_27 : decode cX18_fixAfterInsertion 27 = .ok (.aload_n 1, 1) := by decide +kernel
theorem dX18_fixAfterInsertion_28 : decode cX18_fixAfterInsertion 28 = .ok (.invokestatic 294, 3) := by decide +kernel
theorem dX18_fixAfterInsertion_31 : decode cX18_fixAfterInsertion 31 = .ok (.aload_n 1, 1) := by decide +kernel
theorem dX18_fixAfterInsertion_32 : decode cX18_fixAfterInsertion 32 = .ok (.invokestatic 294, 3) := by decide +kernel
theorem dX18_fixAfterInsertion_35 : decode cX18_fixAfterInsertion 35 = .ok (.invokestatic 294, 3) := by decide +kernel
theorem dX18_fixAfterInsertion_38 : decode cX18_fixAfterInsertion 38 = .ok (.invokestatic 297, 3) := by decide +kernel
theorem dX18_fixAfterInsertion_41 : decode cX18_fixAfterInsertion 41 = .ok (.if_acmp .ne 110, 3) := by decide +kernel
theorem dX18_fixAfterInsertion_44 : decode cX18_fixAfterInsertion 44 = .ok (.aload_n 1, 1) := by decide +kernel
theorem dX18_fixAfterInsertion_45 : decode cX18_fixAfterInsertion 45 = .ok (.invokestatic 294, 3) := by decide +kernel
theorem dX18_fixAfterInsertion_48 : decode cX18_fixAfterInsertion 48 = .ok (.invokestatic 294, 3) := by decide +kernel
theorem dX18_fixAfterInsertion_51 : decode cX18_fixAfterInsertion 51 = .ok (.invokestatic 300, 3) := by decide +kernel
theorem dX18_fixAfterInsertion_54 : decode cX18_fixAfterInsertion 54 = .ok (.astore_n 2, 1) := by decide +kernel
theorem dX18_fixAfterInsertion_55 : decode cX18_fixAfterInsertion 55 = .ok (.aload_n 2, 1) := by decide +kernel
theorem dX18_fixAfterInsertion_56 : decode cX18_fixAfterInsertion 56 = .ok (.invokestatic 303, 3) := by decide +kernel
theorem dX18_fixAfterInsertion_59 : decode cX18_fixAfterInsertion 59 = .ok (.ifCond .ne 38, 3) := by decide +kernel
theorem dX18_fixAfterInsertion_62 : decode cX18_fixAfterInsertion 62 = .ok (.aload_n 1, 1) := by decide +kernel
theorem dX18_fixAfterInsertion_63 : decode cX18_fixAfterInsertion 63 = .ok (.invokestatic 294, 3) := by decide +kernel
theorem dX18_fixAfterInsertion_66 : decode cX18_fixAfterInsertion 66 = .ok (.iconst 1, 1) := by decide +kernel
theorem dX18_fixAfterInsertion_67 : decode cX18_fixAfterInsertion 67 = .ok (.invokestatic 307, 3) := by decide +kernel
theorem dX18_fixAfterInsertion_70 : decode cX18_fixAfterInsertion 70 = .ok (.aload_n 2, 1) := by decide +kernel
theorem dX18_fixAfterInsertion_71 : decode cX18_fixAfterInsertion 71 = .ok (.iconst 1, 1) := by decide +kernel
theorem dX18_fixAfterInsertion_72 : decode cX18_fixAfterInsertion 72 = .ok (.invokestatic 307, 3) := by decide +kernel
theorem dX18_fixAfterInsertion_75 : decode cX18_fixAfterInsertion 75 = .ok (.aload_n 1, 1) := by decide +kernel
theorem dX18_fixAfterInsertion_76 : decode cX18_fixAfterInsertion 76 = .ok (.invokestatic 294, 3) := by decide +kernel
theorem dX18_fixAfterInsertion_79 : decode cX18_fixAfterInsertion 79 = .ok (.invokestatic 294, 3) := by decide +kernel
theorem dX18_fixAfterInsertion_82 : decode cX18_fixAfterInsertion 82 = .ok (.iconst 0, 1) := by decide +kernel
theorem dX18_fixAfterInsertion_83 : decode cX18_fixAfterInsertion 83 = .ok (.invokestatic 307, 3) := by decide +kernel
theorem dX18_fixAfterInsertion_86 : decode cX18_fixAfterInsertion 86 = .ok (.aload_n 1, 1) := by decide +kernel
theorem dX18_fixAfterInsertion_87 : decode cX18_fixAfterInsertion 87 = .ok (.invokestatic 294, 3) := by decide +kernel
theorem dX18_fixAfterInsertion_90 : decode cX18_fixAfterInsertion 90 = .ok (.invokestatic 294, 3) := by decide +kernel
theorem dX18_fixAfterInsertion_93 : decode cX18_fixAfterInsertion 93 = .ok (.astore_n 1, 1) := by decide +kernel
theorem dX18_fixAfterInsertion_94 : decode cX18_fixAfterInsertion 94 = .ok (.goto 54, 3) := by decide +kernel
theorem dX18_fixAfterInsertion_97 : decode cX18_fixAfterInsertion 97 = .ok (.aload_n 1, 1) := by decide +kernel
theorem dX18_fixAfterInsertion_98 : decode cX18_fixAfterInsertion 98 = .ok (.aload_n 1, 1) := by decide +kernel
theorem dX18_fixAfterInsertion_99 : decode cX18_fixAfterInsertion 99 = .ok (.invokestatic 294, 3) := by decide +kernel
theorem dX18_fixAfterInsertion_102 : decode cX18_fixAfterInsertion 102 = .ok (.invokestatic 300, 3) := by decide +kernel
theorem dX18_fixAfterInsertion_105 : decode cX18_fixAfterInsertion 105 = .ok (.if_acmp .ne 13, 3) := by decide +kernel
theorem dX18_fixAfterInsertion_108 : decode cX18_fixAfterInsertion 108 = .ok (.aload_n 1, 1) := by decide +kernel
theorem dX18_fixAfterInsertion_109 : decode cX18_fixAfterInsertion 109 = .ok (.invokestatic 294, 3) := by decide +kernel
theorem dX18_fixAfterInsertion_112 : decode cX18_fixAfterInsertion 112 = .ok (.astore_n 1, 1) := by decide +kernel
theorem dX18_fixAfterInsertion_113 : decode cX18_fixAfterInsertion 113 = .ok (.aload_n 0, 1) := by decide +kernel
theorem dX18_fixAfterInsertion_114 : decode cX18_fixAfterInsertion 114 = .ok (.aload_n 1, 1) := by decide +kernel
theorem dX18_fixAfterInsertion_115 : decode cX18_fixAfterInsertion 115 = .ok (.invokevirtual 311, 3) := by decide +kernel
theorem dX18_fixAfterInsertion_118 : decode cX18_fixAfterInsertion 118 = .ok (.aload_n 1, 1) := by decide +kernel
theorem dX18_fixAfterInsertion_119 : decode cX18_fixAfterInsertion 119 = .ok (.invokestatic 294, 3) := by decide +kernel
theorem dX18_fixAfterInsertion_122 : decode cX18_fixAfterInsertion 122 = .ok (.iconst 1, 1) := by decide +kernel
theorem dX18_fixAfterInsertion_123 : decode cX18_fixAfterInsertion 123 = .ok (.invokestatic 307, 3) := by decide +kernel
theorem dX18_fixAfterInsertion_126 : decode cX18_fixAfterInsertion 126 = .ok (.aload_n 1, 1) := by decide +kernel
theorem dX18_fixAfterInsertion_127 : decode cX18_fixAfterInsertion 127 = .ok (.invokestatic 294, 3) := by decide +kernel
theorem dX18_fixAfterInsertion_130 : decode cX18_fixAfterInsertion 130 = .ok (.invokestatic 294, 3) := by decide +kernel
theorem dX18_fixAfterInsertion_133 : decode cX18_fixAfterInsertion 133 = .ok (.iconst 0, 1) := by decide +kernel
theorem dX18_fixAfterInsertion_134 : decode cX18_fixAfterInsertion 134 = .ok (.invokestatic 307, 3) := by decide +kernel
theorem dX18_fixAfterInsertion_137 : decode cX18_fixAfterInsertion 137 = .ok (.aload_n 0, 1) := by decide +kernel
theorem dX18_fixAfterInsertion_138 : decode cX18_fixAfterInsertion 138 = .ok (.aload_n 1, 1) := by decide +kernel
theorem dX18_fixAfterInsertion_139 : decode cX18_fixAfterInsertion 139 = .ok (.invokestatic 294, 3) := by decide +kernel
theorem dX18_fixAfterInsertion_142 : decode cX18_fixAfterInsertion 142 = .ok (.invokestatic 294, 3) := by decide +kernel
theorem dX18_fixAfterInsertion_145 : decode cX18_fixAfterInsertion 145 = .ok (.invokevirtual 314, 3) := by decide +kernel
theorem dX18_fixAfterInsertion_148 : decode cX18_fixAfterInsertion 148 = .ok (.goto (-143), 3) := by decide +kernel
theorem dX18_fixAfterInsertion_151 : decode cX18_fixAfterInsertion 151 = .ok (.aload_n 1, 1) := by decide +kernel
theorem dX18_fixAfterInsertion_152 : decode cX18_fixAfterInsertion 152 = .ok (.invokestatic 294, 3) := by decide +kernel
theorem dX18_fixAfterInsertion_155 : decode cX18_fixAfterInsertion 155 = .ok (.invokestatic 294, 3) := by decide +kernel
theorem dX18_fixAfterInsertion_158 : decode cX18_fixAfterInsertion 158 = .ok (.invokestatic 297, 3) := by decide +kernel
theorem dX18_fixAfterInsertion_161 : decode cX18_fixAfterInsertion 161 = .ok (.astore_n 2, 1) := by decide +kernel
theorem dX18_fixAfterInsertion_162 : decode cX18_fixAfterInsertion 162 = .ok (.aload_n 2, 1) := by decide +kernel
theorem dX18_fixAfterInsertion_163 : decode cX18_fixAfterInsertion 163 = .ok (.invokestatic 303, 3) := by decide +kernel
theorem dX18_fixAfterInsertion_166 : decode cX18_fixAfterInsertion 166 = .ok (.ifCond .ne 38, 3) := by decide +kernel
theorem dX18_fixAfterInsertion_169 : decode cX18_fixAfterInsertion 169 = .ok (.aload_n 1, 1) := by decide +kernel
theorem dX18_fixAfterInsertion_170 : decode cX18_fixAfterInsertion 170 = .ok (.invokestatic 294, 3) := by decide +kernel
theorem dX18_fixAfterInsertion_173 : decode cX18_fixAfterInsertion 173 = .ok (.iconst 1, 1) := by decide +kernel
theorem dX18_fixAfterInsertion_174 : decode cX18_fixAfterInsertion 174 = .ok (.invokestatic 307, 3) := by decide +kernel
theorem dX18_fixAfterInsertion_177 : decode cX18_fixAfterInsertion 177 = .ok (.aload_n 2, 1) := by decide +kernel
theorem dX18_fixAfterInsertion_178 : decode cX18_fixAfterInsertion 178 = .ok (.iconst 1, 1) := by decide +kernel
theorem dX18_fixAfterInsertion_179 : decode cX18_fixAfterInsertion 179 = .ok (.invokestatic 307, 3) := by decide +kernel
theorem dX18_fixAfterInsertion_182 : decode cX18_fixAfterInsertion 182 = .ok (.aload_n 1, 1) := by decide +kernel
theorem dX18_fixAfterInsertion_183 : decode cX18_fixAfterInsertion 183 = .ok (.invokestatic 294, 3) := by decide +kernel
theorem dX18_fixAfterInsertion_186 : decode cX18_fixAfterInsertion 186 = .ok (.invokestatic 294, 3) := by decide +kernel
theorem dX18_fixAfterInsertion_189 : decode cX18_fixAfterInsertion 189 = .ok (.iconst 0, 1) := by decide +kernel
theorem dX18_fixAfterInsertion_190 : decode cX18_fixAfterInsertion 190 = .ok (.invokestatic 307, 3) := by decide +kernel
theorem dX18_fixAfterInsertion_193 : decode cX18_fixAfterInsertion 193 = .ok (.aload_n 1, 1) := by decide +kernel
theorem dX18_fixAfterInsertion_194 : decode cX18_fixAfterInsertion 194 = .ok (.invokestatic 294, 3) := by decide +kernel
theorem dX18_fixAfterInsertion_197 : decode cX18_fixAfterInsertion 197 = .ok (.invokestatic 294, 3) := by decide +kernel
theorem dX18_fixAfterInsertion_200 : decode cX18_fixAfterInsertion 200 = .ok (.astore_n 1, 1) := by decide +kernel
theorem dX18_fixAfterInsertion_201 : decode cX18_fixAfterInsertion 201 = .ok (.goto 54, 3) := by decide +kernel
theorem dX18_fixAfterInsertion_204 : decode cX18_fixAfterInsertion 204 = .ok (.aload_n 1, 1) := by decide +kernel
theorem dX18_fixAfterInsertion_205 : decode cX18_fixAfterInsertion 205 = .ok (.aload_n 1, 1) := by decide +kernel
theorem dX18_fixAfterInsertion_206 : decode cX18_fixAfterInsertion 206 = .ok (.invokestatic 294, 3) := by decide +kernel
theorem dX18_fixAfterInsertion_209 : decode cX18_fixAfterInsertion 209 = .ok (.invokestatic 297, 3) := by decide +kernel
theorem dX18_fixAfterInsertion_212 : decode cX18_fixAfterInsertion 212 = .ok (.if_acmp .ne 13, 3) := by decide +kernel
theorem dX18_fixAfterInsertion_215 : decode cX18_fixAfterInsertion 215 = .ok (.aload_n 1, 1) := by decide +kernel
theorem dX18_fixAfterInsertion_216 : decode cX18_fixAfterInsertion 216 = .ok (.invokestatic 294, 3) := by decide +kernel
theorem dX18_fixAfterInsertion_219 : decode cX18_fixAfterInsertion 219 = .ok (.astore_n 1, 1) := by decide +kernel
theorem dX18_fixAfterInsertion_220 : decode cX18_fixAfterInsertion 220 = .ok (.aload_n 0, 1) := by decide +kernel
theorem dX18_fixAfterInsertion_221 : decode cX18_fixAfterInsertion 221 = .ok (.aload_n 1, 1) := by decide +kernel
theorem dX18_fixAfterInsertion_222 : decode cX18_fixAfterInsertion 222 = .ok (.invokevirtual 314, 3) := by decide +kernel
theorem dX18_fixAfterInsertion_225 : decode cX18_fixAfterInsertion 225 = .ok (.aload_n 1, 1) := by decide +kernel
theorem dX18_fixAfterInsertion_226 : decode cX18_fixAfterInsertion 226 = .ok (.invokestatic 294, 3) := by decide +kernel
theorem dX18_fixAfterInsertion_229 : decode cX18_fixAfterInsertion 229 = .ok (.iconst 1, 1) := by decide +kernel
theorem dX18_fixAfterInsertion_230 : decode cX18_fixAfterInsertion 230 = .ok (.invokestatic 307, 3) := by decide +kernel
theorem dX18_fixAfterInsertion_233 : decode cX18_fixAfterInsertion 233 = .ok (.aload_n 1, 1) := by decide +kernel
theorem dX18_fixAfterInsertion_234 : decode cX18_fixAfterInsertion 234 = .ok (.invokestatic 294, 3) := by decide +kernel
theorem dX18_fixAfterInsertion_237 : decode cX18_fixAfterInsertion 237 = .ok (.invokestatic 294, 3) := by decide +kernel
theorem dX18_fixAfterInsertion_240 : decode cX18_fixAfterInsertion 240 = .ok (.iconst 0, 1) := by decide +kernel
theorem dX18_fixAfterInsertion_241 : decode cX18_fixAfterInsertion 241 = .ok (.invokestatic 307, 3) := by decide +kernel
theorem dX18_fixAfterInsertion_244 : decode cX18_fixAfterInsertion 244 = .ok (.aload_n 0, 1) := by decide +kernel
theorem dX18_fixAfterInsertion_245 : decode cX18_fixAfterInsertion 245 = .ok (.aload_n 1, 1) := by decide +kernel
theorem dX18_fixAfterInsertion_246 : decode cX18_fixAfterInsertion 246 = .ok (.invokestatic 294, 3) := by decide +kernel
theorem dX18_fixAfterInsertion_249 : decode cX18_fixAfterInsertion 249 = .ok (.invokestatic 294, 3) := by decide +kernel
theorem dX18_fixAfterInsertion_252 : decode cX18_fixAfterInsertion 252 = .ok (.invokevirtual 311, 3) := by decide +kernel
theorem dX18_fixAfterInsertion_255 : decode cX18_fixAfterInsertion 255 = .ok (.goto (-250), 3) := by decide +kernel
theorem dX18_fixAfterInsertion_258 : decode cX18_fixAfterInsertion 258 = .ok (.aload_n 0, 1) := by decide +kernel
theorem dX18_fixAfterInsertion_259 : decode cX18_fixAfterInsertion 259 = .ok (.getfield 101, 3) := by decide +kernel
theorem dX18_fixAfterInsertion_262 : decode cX18_fixAfterInsertion 262 = .ok (.iconst 1, 1) := by decide +kernel
theorem dX18_fixAfterInsertion_263 : decode cX18_fixAfterInsertion 263 = .ok (.putfield 290, 3) := by decide +kernel
theorem dX18_fixAfterInsertion_266 : decode cX18_fixAfterInsertion 266 = .ok (.return_, 1) := by decide +kernel
theorem dJ8_newLength_cabcc_0 : decode cJ8_newLength_cabcc 0 = .ok (.iload_n 0, 1) := by decide +kernel
theorem dJ8_newLength_cabcc_1 : decode cJ8_newLength_cabcc 1 = .ok (.iload_n 1, 1) := by decide +kernel
theorem dJ8_newLength_cabcc_2 : decode cJ8_newLength_cabcc 2 = .ok (.iload_n 2, 1) := by decide +kernel
theorem dJ8_newLength_cabcc_3 : decode cJ8_newLength_cabcc 3 = .ok (.invokestatic 194, 3) := by decide +kernel
theorem dJ8_newLength_cabcc_6 : decode cJ8_newLength_cabcc 6 = .ok (.iadd, 1) := by decide +kernel
theorem dJ8_newLength_cabcc_7 : decode cJ8_newLength_cabcc 7 = .ok (.istore_n 3, 1) := by decide +kernel
theorem dJ8_newLength_cabcc_8 : decode cJ8_newLength_cabcc 8 = .ok (.iconst 0, 1) := by decide +kernel
theorem dJ8_newLength_cabcc_9 : decode cJ8_newLength_cabcc 9 = .ok (.iload_n 3, 1) := by decide +kernel
theorem dJ8_newLength_cabcc_10 : decode cJ8_newLength_cabcc 10 = .ok (.if_icmp .ge 11, 3) := by decide +kernel
theorem dJ8_newLength_cabcc_13 : decode cJ8_newLength_cabcc 13 = .ok (.iload_n 3, 1) := by decide +kernel
theorem dJ8_newLength_cabcc_14 : decode cJ8_newLength_cabcc 14 = .ok (.ldc 200, 2) := by decide +kernel
theorem dJ8_newLength_cabcc_16 : decode cJ8_newLength_cabcc 16 = .ok (.if_icmp .gt 5, 3) := by decide +kernel
theorem dJ8_newLength_cabcc_19 : decode cJ8_newLength_cabcc 19 = .ok (.iload_n 3, 1) := by decide +kernel
theorem dJ8_newLength_cabcc_20 : decode cJ8_newLength_cabcc 20 = .ok (.ireturn, 1) := by decide +kernel
theorem dJ8_newLength_cabcc_21 : decode cJ8_newLength_cabcc 21 = .ok (.iload_n 0, 1) := by decide +kernel
theorem dJ8_newLength_cabcc_22 : decode cJ8_newLength_cabcc 22 = .ok (.iload_n 1, 1) := by decide +kernel
theorem dJ8_newLength_cabcc_23 : decode cJ8_newLength_cabcc 23 = .ok (.invokestatic 201, 3) := by decide +kernel
theorem dJ8_newLength_cabcc_26 : decode cJ8_newLength_cabcc 26 = .ok (.ireturn, 1) := by decide +kernel
theorem dJ3_checkIndex_8e157_0 : decode cJ3_checkIndex_8e157 0 = .ok (.iload_n 0, 1) := by decide +kernel
theorem dJ3_checkIndex_8e157_1 : decode cJ3_checkIndex_8e157 1 = .ok (.ifCond .lt 8, 3) := by decide +kernel
theorem dJ3_checkIndex_8e157_4 : decode cJ3_checkIndex_8e157 4 = .ok (.iload_n 0, 1) := by decide +kernel
theorem dJ3_checkIndex_8e157_5 : decode cJ3_checkIndex_8e157 5 = .ok (.iload_n 1, 1) := by decide +kernel
theorem dJ3_checkIndex_8e157_6 : decode cJ3_checkIndex_8e157 6 = .ok (.if_icmp .lt 10, 3) := by decide +kernel
theorem dJ3_checkIndex_8e157_9 : decode cJ3_checkIndex_8e157 9 = .ok (.aload_n 2, 1) := by decide +kernel
theorem dJ3_checkIndex_8e157_10 : decode cJ3_checkIndex_8e157 10 = .ok (.iload_n 0, 1) := by decide +kernel
theorem dJ3_checkIndex_8e157_11 : decode cJ3_checkIndex_8e157 11 = .ok (.iload_n 1, 1) := by decide +kernel
theorem dJ3_checkIndex_8e157_12 : decode cJ3_checkIndex_8e157 12 = .ok (.invokestatic 95, 3) := by decide +kernel
theorem dJ3_checkIndex_8e157_15 : decode cJ3_checkIndex_8e157 15 = .ok (.athrow, 1) := by decide +kernel
theorem dJ3_checkIndex_8e157_16 : decode cJ3_checkIndex_8e157 16 = .ok (.iload_n 0, 1) := by decide +kernel
theorem dJ3_checkIndex_8e157_17 : decode cJ3_checkIndex_8e157 17 = .ok (.ireturn, 1) := by decide +kernel
