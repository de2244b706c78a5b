theorem dL_cell_0 : decode cL_cell 0 = .ok (.iload_n 1, 1) := by decide +kernel
theorem dL_cell_1 : decode cL_cell 1 = .ok (.aload_n 0, 1) := by decide +kernel
theorem dL_cell_2 : decode cL_cell 2 = .ok (.arraylength, 1) := by decide +kernel
theorem dL_cell_3 : decode cL_cell 3 = .ok (.if_icmp .ge 9, 3) := by decide +kernel
theorem dL_cell_6 : decode cL_cell 6 = .ok (.aload_n 0, 1) := by decide +kernel
theorem dL_cell_7 : decode cL_cell 7 = .ok (.iload_n 1, 1) := by decide +kernel
theorem dL_cell_8 : decode cL_cell 8 = .ok (.iaload, 1) := by decide +kernel
theorem dL_cell_9 : decode cL_cell 9 = .ok (.goto 4, 3) := by decide +kernel
theorem dL_cell_12 : decode cL_cell 12 = .ok (.iconst 0, 1) := by decide +kernel
theorem dL_cell_13 : decode cL_cell 13 = .ok (.ireturn, 1) := by decide +kernel
theorem dL_pick_0 : decode cL_pick 0 = .ok (.aload_n 0, 1) := by decide +kernel
theorem dL_pick_1 : decode cL_pick 1 = .ok (.iload_n 1, 1) := by decide +kernel
theorem dL_pick_2 : decode cL_pick 2 = .ok (.invokestatic 7, 3) := by decide +kernel
theorem dL_pick_5 : decode cL_pick 5 = .ok (.ldc 13, 2) := by decide +kernel
theorem dL_pick_7 : decode cL_pick 7 = .ok (.iand, 1) := by decide +kernel
theorem dL_pick_8 : decode cL_pick 8 = .ok (.iload_n 2, 1) := by decide +kernel
theorem dL_pick_9 : decode cL_pick 9 = .ok (.irem, 1) := by decide +kernel
theorem dL_pick_10 : decode cL_pick 10 = .ok (.ireturn, 1) := by decide +kernel
theorem dL_append_0 : decode cL_append 0 = .ok (.aload_n 0, 1) := by decide +kernel
theorem dL_append_1 : decode cL_append 1 = .ok (.iload_n 1, 1) := by decide +kernel
theorem dL_append_2 : decode cL_append 2 = .ok (.iconst 0, 1) := by decide +kernel
theorem dL_append_3 : decode cL_append 3 = .ok (.iconst 0, 1) := by decide +kernel
theorem dL_append_4 : decode cL_append 4 = .ok (.iconst 0, 1) := by decide +kernel
theorem dL_append_5 : decode cL_append 5 = .ok (.iconst 0, 1) := by decide +kernel
theorem dL_append_6 : decode cL_append 6 = .ok (.invokevirtual 14, 3) := by decide +kernel
theorem dL_append_9 : decode cL_append 9 = .ok (.ireturn, 1) := by decide +kernel
theorem dL_append_10 : decode cL_append 10 = .ok (.astore_n 2, 1) := by decide +kernel
theorem dL_append_11 : decode cL_append 11 = .ok (.ldc 22, 2) := by decide +kernel
theorem dL_append_13 : decode cL_append 13 = .ok (.ireturn, 1) := by decide +kernel
theorem dL_load_0 : decode cL_load 0 = .ok (.aload_n 0, 1) := by decide +kernel
theorem dL_load_1 : decode cL_load 1 = .ok (.invokevirtual 23, 3) := by decide +kernel
theorem dL_load_4 : decode cL_load 4 = .ok (.ireturn, 1) := by decide +kernel
theorem dL_load_5 : decode cL_load 5 = .ok (.astore_n 1, 1) := by decide +kernel
theorem dL_load_6 : decode cL_load 6 = .ok (.ldc 29, 2) := by decide +kernel
theorem dL_load_8 : decode cL_load 8 = .ok (.ireturn, 1) := by decide +kernel
theorem dL_type_0 : decode cL_type 0 = .ok (.aload_n 0, 1) := by decide +kernel
theorem dL_type_1 : decode cL_type 1 = .ok (.iconst 0, 1) := by decide +kernel
theorem dL_type_2 : decode cL_type 2 = .ok (.invokevirtual 30, 3) := by decide +kernel
theorem dL_type_5 : decode cL_type 5 = .ok (.pop, 1) := by decide +kernel
theorem dL_type_6 : decode cL_type 6 = .ok (.iconst 0, 1) := by decide +kernel
theorem dL_type_7 : decode cL_type 7 = .ok (.istore_n 2, 1) := by decide +kernel
theorem dL_type_8 : decode cL_type 8 = .ok (.iconst 0, 1) := by decide +kernel
theorem dL_type_9 : decode cL_type 9 = .ok (.istore_n 3, 1) := by decide +kernel
theorem dL_type_10 : decode cL_type 10 = .ok (.iload_n 3, 1) := by decide +kernel
theorem dL_type_11 : decode cL_type 11 = .ok (.aload_n 1, 1) := by decide +kernel
theorem dL_type_12 : decode cL_type 12 = .ok (.invokevirtual 34, 3) := by decide +kernel
theorem dL_type_15 : decode cL_type 15 = .ok (.if_icmp .ge 65, 3) := by decide +kernel
theorem dL_type_18 : decode cL_type 18 = .ok (.iconst 0, 1) := by decide +kernel
theorem dL_type_19 : decode cL_type 19 = .ok (.istore 4, 2) := by decide +kernel
theorem dL_type_21 : decode cL_type 21 = .ok (.iconst 0, 1) := by decide +kernel
theorem dL_type_22 : decode cL_type 22 = .ok (.istore 5, 2) := by decide +kernel
theorem dL_type_24 : decode cL_type 24 = .ok (.iload 5, 2) := by decide +kernel
theorem dL_type_26 : decode cL_type 26 = .ok (.iconst 4, 1) := by decide +kernel
theorem dL_type_27 : decode cL_type 27 = .ok (.if_icmp .ge 40, 3) := by decide +kernel
theorem dL_type_30 : decode cL_type 30 = .ok (.iload 4, 2) := by decide +kernel
theorem dL_type_32 : decode cL_type 32 = .ok (.bipush 8, 2) := by decide +kernel
theorem dL_type_34 : decode cL_type 34 = .ok (.ishl, 1) := by decide +kernel
theorem dL_type_35 : decode cL_type 35 = .ok (.iload_n 3, 1) := by decide +kernel
theorem dL_type_36 : decode cL_type 36 = .ok (.iload 5, 2) := by decide +kernel
theorem dL_type_38 : decode cL_type 38 = .ok (.iadd, 1) := by decide +kernel
theorem dL_type_39 : decode cL_type 39 = .ok (.aload_n 1, 1) := by decide +kernel
theorem dL_type_40 : decode cL_type 40 = .ok (.invokevirtual 34, 3) := by decide +kernel
theorem dL_type_43 : decode cL_type 43 = .ok (.if_icmp .ge 14, 3) := by decide +kernel
theorem dL_type_46 : decode cL_type 46 = .ok (.aload_n 1, 1) := by decide +kernel
theorem dL_type_47 : decode cL_type 47 = .ok (.iload_n 3, 1) := by decide +kernel
theorem dL_type_48 : decode cL_type 48 = .ok (.iload 5, 2) := by decide +kernel
theorem dL_type_50 : decode cL_type 50 = .ok (.iadd, 1) := by decide +kernel
theorem dL_type_51 : decode cL_type 51 = .ok (.invokevirtual 39, 3) := by decide +kernel
theorem dL_type_54 : decode cL_type 54 = .ok (.goto 4, 3) := by decide +kernel
theorem dL_type_57 : decode cL_type 57 = .ok (.iconst 0, 1) := by decide +kernel
theorem dL_type_58 : decode cL_type 58 = .ok (.ior, 1) := by decide +kernel
theorem dL_type_59 : decode cL_type 59 = .ok (.istore 4, 2) := by decide +kernel
theorem dL_type_61 : decode cL_type 61 = .ok (.iinc 5 1, 3) := by decide +kernel
theorem dL_type_64 : decode cL_type 64 = .ok (.goto (-40), 3) := by decide +kernel
theorem dL_type_67 : decode cL_type 67 = .ok (.aload_n 0, 1) := by decide +kernel
theorem dL_type_68 : decode cL_type 68 = .ok (.iload 4, 2) := by decide +kernel
theorem dL_type_70 : decode cL_type 70 = .ok (.invokestatic 43, 3) := by decide +kernel
theorem dL_type_73 : decode cL_type 73 = .ok (.istore_n 2, 1) := by decide +kernel
theorem dL_type_74 : decode cL_type 74 = .ok (.iinc 3 4, 3) := by decide +kernel
theorem dL_type_77 : decode cL_type 77 = .ok (.goto (-67), 3) := by decide +kernel
theorem dL_type_80 : decode cL_type 80 = .ok (.iload_n 2, 1) := by decide +kernel
theorem dL_type_81 : decode cL_type 81 = .ok (.aload_n 1, 1) := by decide +kernel
theorem dL_type_82 : decode cL_type 82 = .ok (.invokevirtual 34, 3) := by decide +kernel
theorem dL_type_85 : decode cL_type 85 = .ok (.if_icmp .ne 7, 3) := by decide +kernel
theorem dL_type_88 : decode cL_type 88 = .ok (.iconst 1, 1) := by decide +kernel
theorem dL_type_89 : decode cL_type 89 = .ok (.goto 4, 3) := by decide +kernel
theorem dL_type_92 : decode cL_type 92 = .ok (.iconst 0, 1) := by decide +kernel
theorem dL_type_93 : decode cL_type 93 = .ok (.ireturn, 1) := by decide +kernel
theorem dL_setRoute_0 : decode cL_setRoute 0 = .ok (.aload_n 0, 1) := by decide +kernel
theorem dL_setRoute_1 : decode cL_setRoute 1 = .ok (.iload_n 1, 1) := by decide +kernel
theorem dL_setRoute_2 : decode cL_setRoute 2 = .ok (.iload_n 2, 1) := by decide +kernel
theorem dL_setRoute_3 : decode cL_setRoute 3 = .ok (.invokevirtual 46, 3) := by decide +kernel
theorem dL_setRoute_6 : decode cL_setRoute 6 = .ok (.ireturn, 1) := by decide +kernel
theorem dL_setRoute_7 : decode cL_setRoute 7 = .ok (.astore_n 3, 1) := by decide +kernel
theorem dL_setRoute_8 : decode cL_setRoute 8 = .ok (.ldc 52, 2) := by decide +kernel
theorem dL_setRoute_10 : decode cL_setRoute 10 = .ok (.ireturn, 1) := by decide +kernel
theorem dL_setRoute_11 : decode cL_setRoute 11 = .ok (.astore_n 3, 1) := by decide +kernel
theorem dL_setRoute_12 : decode cL_setRoute 12 = .ok (.ldc 29, 2) := by decide +kernel
theorem dL_setRoute_14 : decode cL_setRoute 14 = .ok (.ireturn, 1) := by decide +kernel
theorem dL_setRoute_15 : decode cL_setRoute 15 = .ok (.astore_n 3, 1) := by decide +kernel
theorem dL_setRoute_16 : decode cL_setRoute 16 = .ok (.ldc 22, 2) := by decide +kernel
theorem dL_setRoute_18 : decode cL_setRoute 18 = .ok (.ireturn, 1) := by decide +kernel
theorem dL_climb_0 : decode cL_climb 0 = .ok (.aload_n 0, 1) := by decide +kernel
theorem dL_climb_1 : decode cL_climb 1 = .ok (.iload_n 1, 1) := by decide +kernel
theorem dL_climb_2 : decode cL_climb 2 = .ok (.iload_n 2, 1) := by decide +kernel
theorem dL_climb_3 : decode cL_climb 3 = .ok (.invokevirtual 53, 3) := by decide +kernel
theorem dL_climb_6 : decode cL_climb 6 = .ok (.ireturn, 1) := by decide +kernel
theorem dL_climb_7 : decode cL_climb 7 = .ok (.astore_n 3, 1) := by decide +kernel
theorem dL_climb_8 : decode cL_climb 8 = .ok (.ldc 52, 2) := by decide +kernel
theorem dL_climb_10 : decode cL_climb 10 = .ok (.ireturn, 1) := by decide +kernel
theorem dL_climb_11 : decode cL_climb 11 = .ok (.astore_n 3, 1) := by decide +kernel
theorem dL_climb_12 : decode cL_climb 12 = .ok (.ldc 22, 2) := by decide +kernel
theorem dL_climb_14 : decode cL_climb 14 = .ok (.ireturn, 1) := by decide +kernel
theorem dL_vote_0 : decode cL_vote 0 = .ok (.aload_n 0, 1) := by decide +kernel
theorem dL_vote_1 : decode cL_vote 1 = .ok (.iload_n 1, 1) := by decide +kernel
theorem dL_vote_2 : decode cL_vote 2 = .ok (.iload_n 2, 1) := by decide +kernel
theorem dL_vote_3 : decode cL_vote 3 = .ok (.iload_n 3, 1) := by decide +kernel
theorem dL_vote_4 : decode cL_vote 4 = .ok (.invokevirtual 56, 3) := by decide +kernel
theorem dL_vote_7 : decode cL_vote 7 = .ok (.ireturn, 1) := by decide +kernel
theorem dL_vote_8 : decode cL_vote 8 = .ok (.astore 4, 2) := by decide +kernel
theorem dL_vote_10 : decode cL_vote 10 = .ok (.ldc 52, 2) := by decide +kernel
theorem dL_vote_12 : decode cL_vote 12 = .ok (.ireturn, 1) := by decide +kernel
theorem dL_vote_13 : decode cL_vote 13 = .ok (.astore 4, 2) := by decide +kernel
theorem dL_vote_15 : decode cL_vote 15 = .ok (.ldc 29, 2) := by decide +kernel
theorem dL_vote_17 : decode cL_vote 17 = .ok (.ireturn, 1) := by decide +kernel
theorem dL_vote_18 : decode cL_vote 18 = .ok (.astore 4, 2) := by decide +kernel
theorem dL_vote_20 : decode cL_vote 20 = .ok (.ldc 22, 2) := by decide +kernel
theorem dL_vote_22 : decode cL_vote 22 = .ok (.ireturn, 1) := by decide +kernel
theorem dL_lend_0 : decode cL_lend 0 = .ok (.aload_n 0, 1) := by decide +kernel
theorem dL_lend_1 : decode cL_lend 1 = .ok (.iload_n 1, 1) := by decide +kernel
theorem dL_lend_2 : decode cL_lend 2 = .ok (.iload_n 2, 1) := by decide +kernel
theorem dL_lend_3 : decode cL_lend 3 = .ok (.invokevirtual 60, 3) := by decide +kernel
theorem dL_lend_6 : decode cL_lend 6 = .ok (.ireturn, 1) := by decide +kernel
theorem dL_lend_7 : decode cL_lend 7 = .ok (.astore_n 3, 1) := by decide +kernel
theorem dL_lend_8 : decode cL_lend 8 = .ok (.ldc 52, 2) := by decide +kernel
theorem dL_lend_10 : decode cL_lend 10 = .ok (.ireturn, 1) := by decide +kernel
theorem dL_lend_11 : decode cL_lend 11 = .ok (.astore_n 3, 1) := by decide +kernel
theorem dL_lend_12 : decode cL_lend 12 = .ok (.ldc 22, 2) := by decide +kernel
theorem dL_lend_14 : decode cL_lend 14 = .ok (.ireturn, 1) := by decide +kernel
theorem dL_endDays_0 : decode cL_endDays 0 = .ok (.aload_n 0, 1) := by decide +kernel
theorem dL_endDays_1 : decode cL_endDays 1 = .ok (.iload_n 1, 1) := by decide +kernel
theorem dL_endDays_2 : decode cL_endDays 2 = .ok (.invokevirtual 63, 3) := by decide +kernel
theorem dL_endDays_5 : decode cL_endDays 5 = .ok (.ireturn, 1) := by decide +kernel
theorem dL_endDays_6 : decode cL_endDays 6 = .ok (.astore_n 2, 1) := by decide +kernel
theorem dL_endDays_7 : decode cL_endDays 7 = .ok (.ldc 29, 2) := by decide +kernel
theorem dL_endDays_9 : decode cL_endDays 9 = .ok (.ireturn, 1) := by decide +kernel
theorem dL_removeRoute_0 : decode cL_removeRoute 0 = .ok (.aload_n 0, 1) := by decide +kernel
theorem dL_removeRoute_1 : decode cL_removeRoute 1 = .ok (.iload_n 1, 1) := by decide +kernel
theorem dL_removeRoute_2 : decode cL_removeRoute 2 = .ok (.invokevirtual 66, 3) := by decide +kernel
theorem dL_removeRoute_5 : decode cL_removeRoute 5 = .ok (.ireturn, 1) := by decide +kernel
theorem dL_removeRoute_6 : decode cL_removeRoute 6 = .ok (.astore_n 2, 1) := by decide +kernel
theorem dL_removeRoute_7 : decode cL_removeRoute 7 = .ok (.ldc 52, 2) := by decide +kernel
theorem dL_removeRoute_9 : decode cL_removeRoute 9 = .ok (.ireturn, 1) := by decide +kernel
theorem dL_giveBack_0 : decode cL_giveBack 0 = .ok (.aload_n 0, 1) := by decide +kernel
theorem dL_giveBack_1 : decode cL_giveBack 1 = .ok (.iload_n 1, 1) := by decide +kernel
theorem dL_giveBack_2 : decode cL_giveBack 2 = .ok (.invokevirtual 69, 3) := by decide +kernel
theorem dL_giveBack_5 : decode cL_giveBack 5 = .ok (.ireturn, 1) := by decide +kernel
theorem dL_giveBack_6 : decode cL_giveBack 6 = .ok (.astore_n 2, 1) := by decide +kernel
theorem dL_giveBack_7 : decode cL_giveBack 7 = .ok (.ldc 52, 2) := by decide +kernel
theorem dL_giveBack_9 : decode cL_giveBack 9 = .ok (.ireturn, 1) := by decide +kernel
theorem dL_giveBack_10 : decode cL_giveBack 10 = .ok (.astore_n 2, 1) := by decide +kernel
theorem dL_giveBack_11 : decode cL_giveBack 11 = .ok (.ldc 22, 2) := by decide +kernel
theorem dL_giveBack_13 : decode cL_giveBack 13 = .ok (.ireturn, 1) := by decide +kernel
theorem dL_check_0 : decode cL_check 0 = .ok (.aload_n 0, 1) := by decide +kernel
theorem dL_check_1 : decode cL_check 1 = .ok (.iload_n 1, 1) := by decide +kernel
theorem dL_check_2 : decode cL_check 2 = .ok (.iload_n 2, 1) := by decide +kernel
theorem dL_check_3 : decode cL_check 3 = .ok (.invokevirtual 72, 3) := by decide +kernel
theorem dL_check_6 : decode cL_check 6 = .ok (.ireturn, 1) := by decide +kernel
theorem dL_check_7 : decode cL_check 7 = .ok (.astore_n 3, 1) := by decide +kernel
theorem dL_check_8 : decode cL_check 8 = .ok (.ldc 52, 2) := by decide +kernel
theorem dL_check_10 : decode cL_check 10 = .ok (.ireturn, 1) := by decide +kernel
theorem dL_check_11 : decode cL_check 11 = .ok (.astore_n 3, 1) := by decide +kernel
theorem dL_check_12 : decode cL_check 12 = .ok (.ldc 22, 2) := by decide +kernel
theorem dL_check_14 : decode cL_check 14 = .ok (.ireturn, 1) := by decide +kernel
theorem dL_enroll_0 : decode cL_enroll 0 = .ok (.aload_n 0, 1) := by decide +kernel
theorem dL_enroll_1 : decode cL_enroll 1 = .ok (.iload_n 1, 1) := by decide +kernel
theorem dL_enroll_2 : decode cL_enroll 2 = .ok (.iload_n 2, 1) := by decide +kernel
theorem dL_enroll_3 : decode cL_enroll 3 = .ok (.invokevirtual 76, 3) := by decide +kernel
theorem dL_enroll_6 : decode cL_enroll 6 = .ok (.ireturn, 1) := by decide +kernel
theorem dL_enroll_7 : decode cL_enroll 7 = .ok (.astore_n 3, 1) := by decide +kernel
theorem dL_enroll_8 : decode cL_enroll 8 = .ok (.ldc 52, 2) := by decide +kernel
theorem dL_enroll_10 : decode cL_enroll 10 = .ok (.ireturn, 1) := by decide +kernel
theorem dL_enroll_11 : decode cL_enroll 11 = .ok (.astore_n 3, 1) := by decide +kernel
theorem dL_enroll_12 : decode cL_enroll 12 = .ok (.ldc 22, 2) := by decide +kernel
theorem dL_enroll_14 : decode cL_enroll 14 = .ok (.ireturn, 1) := by decide +kernel
theorem dL_leaveCourse_0 : decode cL_leaveCourse 0 = .ok (.aload_n 0, 1) := by decide +kernel
theorem dL_leaveCourse_1 : decode cL_leaveCourse 1 = .ok (.iload_n 1, 1) := by decide +kernel
theorem dL_leaveCourse_2 : decode cL_leaveCourse 2 = .ok (.invokevirtual 79, 3) := by decide +kernel
theorem dL_leaveCourse_5 : decode cL_leaveCourse 5 = .ok (.ireturn, 1) := by decide +kernel
theorem dL_leaveCourse_6 : decode cL_leaveCourse 6 = .ok (.astore_n 2, 1) := by decide +kernel
theorem dL_leaveCourse_7 : decode cL_leaveCourse 7 = .ok (.ldc 52, 2) := by decide +kernel
theorem dL_leaveCourse_9 : decode cL_leaveCourse 9 = .ok (.ireturn, 1) := by decide +kernel
theorem dL_leaveCourse_10 : decode cL_leaveCourse 10 = .ok (.astore_n 2, 1) := by decide +kernel
theorem dL_leaveCourse_11 : decode cL_leaveCourse 11 = .ok (.ldc 22, 2) := by decide +kernel
theorem dL_leaveCourse_13 : decode cL_leaveCourse 13 = .ok (.ireturn, 1) := by decide +kernel
theorem dL_finish_0 : decode cL_finish 0 = .ok (.aload_n 0, 1) := by decide +kernel
theorem dL_finish_1 : decode cL_finish 1 = .ok (.iload_n 1, 1) := by decide +kernel
theorem dL_finish_2 : decode cL_finish 2 = .ok (.iload_n 2, 1) := by decide +kernel
theorem dL_finish_3 : decode cL_finish 3 = .ok (.invokevirtual 82, 3) := by decide +kernel
theorem dL_finish_6 : decode cL_finish 6 = .ok (.ireturn, 1) := by decide +kernel
theorem dL_finish_7 : decode cL_finish 7 = .ok (.astore_n 3, 1) := by decide +kernel
theorem dL_finish_8 : decode cL_finish 8 = .ok (.ldc 52, 2) := by decide +kernel
theorem dL_finish_10 : decode cL_finish 10 = .ok (.ireturn, 1) := by decide +kernel
theorem dL_postpone_0 : decode cL_postpone 0 = .ok (.aload_n 0, 1) := by decide +kernel
theorem dL_postpone_1 : decode cL_postpone 1 = .ok (.iload_n 1, 1) := by decide +kernel
theorem dL_postpone_2 : decode cL_postpone 2 = .ok (.iload_n 2, 1) := by decide +kernel
theorem dL_postpone_3 : decode cL_postpone 3 = .ok (.invokevirtual 85, 3) := by decide +kernel
theorem dL_postpone_6 : decode cL_postpone 6 = .ok (.ireturn, 1) := by decide +kernel
theorem dL_postpone_7 : decode cL_postpone 7 = .ok (.astore_n 3, 1) := by decide +kernel
theorem dL_postpone_8 : decode cL_postpone 8 = .ok (.ldc 52, 2) := by decide +kernel
theorem dL_postpone_10 : decode cL_postpone 10 = .ok (.ireturn, 1) := by decide +kernel
theorem dL_postpone_11 : decode cL_postpone 11 = .ok (.astore_n 3, 1) := by decide +kernel
theorem dL_postpone_12 : decode cL_postpone 12 = .ok (.ldc 29, 2) := by decide +kernel
theorem dL_postpone_14 : decode cL_postpone 14 = .ok (.ireturn, 1) := by decide +kernel
theorem dL_undo_0 : decode cL_undo 0 = .ok (.aload_n 0, 1) := by decide +kernel
theorem dL_undo_1 : decode cL_undo 1 = .ok (.invokevirtual 88, 3) := by decide +kernel
theorem dL_undo_4 : decode cL_undo 4 = .ok (.ireturn, 1) := by decide +kernel
theorem dL_undo_5 : decode cL_undo 5 = .ok (.astore_n 1, 1) := by decide +kernel
theorem dL_undo_6 : decode cL_undo 6 = .ok (.ldc 22, 2) := by decide +kernel
theorem dL_undo_8 : decode cL_undo 8 = .ok (.ireturn, 1) := by decide +kernel
theorem dL_restore_0 : decode cL_restore 0 = .ok (.aload_n 0, 1) := by decide +kernel
theorem dL_restore_1 : decode cL_restore 1 = .ok (.invokevirtual 91, 3) := by decide +kernel
theorem dL_restore_4 : decode cL_restore 4 = .ok (.ireturn, 1) := by decide +kernel
theorem dL_restore_5 : decode cL_restore 5 = .ok (.astore_n 1, 1) := by decide +kernel
theorem dL_restore_6 : decode cL_restore 6 = .ok (.ldc 22, 2) := by decide +kernel
theorem dL_restore_8 : decode cL_restore 8 = .ok (.ireturn, 1) := by decide +kernel
theorem dL_isError_0 : decode cL_isError 0 = .ok (.iload_n 0, 1) := by decide +kernel
theorem dL_isError_1 : decode cL_isError 1 = .ok (.ldc 52, 2) := by decide +kernel
theorem dL_isError_3 : decode cL_isError 3 = .ok (.if_icmp .gt 13, 3) := by decide +kernel
theorem dL_isError_6 : decode cL_isError 6 = .ok (.iload_n 0, 1) := by decide +kernel
theorem dL_isError_7 : decode cL_isError 7 = .ok (.ldc 94, 2) := by decide +kernel
theorem dL_isError_9 : decode cL_isError 9 = .ok (.if_icmp .lt 7, 3) := by decide +kernel
theorem dL_isError_12 : decode cL_isError 12 = .ok (.iconst 1, 1) := by decide +kernel
theorem dL_isError_13 : decode cL_isError 13 = .ok (.goto 4, 3) := by decide +kernel
theorem dL_isError_16 : decode cL_isError 16 = .ok (.iconst 0, 1) := by decide +kernel
theorem dL_isError_17 : decode cL_isError 17 = .ok (.ireturn, 1) := by decide +kernel
theorem dL_one_0 : decode cL_one 0 = .ok (.iload_n 0, 1) := by decide +kernel
theorem dL_one_1 : decode cL_one 1 = .ok (.bipush 29, 2) := by decide +kernel
theorem dL_one_3 : decode cL_one 3 = .ok (.irem, 1) := by decide +kernel
theorem dL_one_4 : decode cL_one 4 = .ok (.ifCond .eq 7, 3) := by decide +kernel
theorem dL_one_7 : decode cL_one 7 = .ok (.iload_n 1, 1) := by decide +kernel
theorem dL_one_8 : decode cL_one 8 = .ok (.ifCond .ne 7, 3) := by decide +kernel
theorem dL_one_11 : decode cL_one 11 = .ok (.iload_n 1, 1) := by decide +kernel
theorem dL_one_12 : decode cL_one 12 = .ok (.goto 6, 3) := by decide +kernel
theorem dL_one_15 : decode cL_one 15 = .ok (.iload_n 0, 1) := by decide +kernel
theorem dL_one_16 : decode cL_one 16 = .ok (.iload_n 1, 1) := by decide +kernel
theorem dL_one_17 : decode cL_one 17 = .ok (.irem, 1) := by decide +kernel
theorem dL_one_18 : decode cL_one 18 = .ok (.ireturn, 1) := by decide +kernel
theorem dL_some_0 : decode cL_some 0 = .ok (.iload_n 0, 1) := by decide +kernel
theorem dL_some_1 : decode cL_some 1 = .ok (.bipush 31, 2) := by decide +kernel
theorem dL_some_3 : decode cL_some 3 = .ok (.irem, 1) := by decide +kernel
theorem dL_some_4 : decode cL_some 4 = .ok (.ifCond .ne 9, 3) := by decide +kernel
theorem dL_some_7 : decode cL_some 7 = .ok (.iload_n 2, 1) := by decide +kernel
theorem dL_some_8 : decode cL_some 8 = .ok (.iconst 1, 1) := by decide +kernel
theorem dL_some_9 : decode cL_some 9 = .ok (.iadd, 1) := by decide +kernel
theorem dL_some_10 : decode cL_some 10 = .ok (.goto 25, 3) := by decide +kernel
theorem dL_some_13 : decode cL_some 13 = .ok (.iload_n 0, 1) := by decide +kernel
theorem dL_some_14 : decode cL_some 14 = .ok (.bipush 37, 2) := by decide +kernel
theorem dL_some_16 : decode cL_some 16 = .ok (.irem, 1) := by decide +kernel
theorem dL_some_17 : decode cL_some 17 = .ok (.ifCond .ne 9, 3) := by decide +kernel
theorem dL_some_20 : decode cL_some 20 = .ok (.iload_n 1, 1) := by decide +kernel
theorem dL_some_21 : decode cL_some 21 = .ok (.iconst 1, 1) := by decide +kernel
theorem dL_some_22 : decode cL_some 22 = .ok (.isub, 1) := by decide +kernel
theorem dL_some_23 : decode cL_some 23 = .ok (.goto 12, 3) := by decide +kernel
theorem dL_some_26 : decode cL_some 26 = .ok (.iload_n 1, 1) := by decide +kernel
theorem dL_some_27 : decode cL_some 27 = .ok (.iload_n 0, 1) := by decide +kernel
theorem dL_some_28 : decode cL_some 28 = .ok (.iload_n 2, 1) := by decide +kernel
theorem dL_some_29 : decode cL_some 29 = .ok (.iload_n 1, 1) := by decide +kernel
theorem dL_some_30 : decode cL_some 30 = .ok (.isub, 1) := by decide +kernel
theorem dL_some_31 : decode cL_some 31 = .ok (.iconst 1, 1) := by decide +kernel
theorem dL_some_32 : decode cL_some 32 = .ok (.iadd, 1) := by decide +kernel
theorem dL_some_33 : decode cL_some 33 = .ok (.irem, 1) := by decide +kernel
theorem dL_some_34 : decode cL_some 34 = .ok (.iadd, 1) := by decide +kernel
theorem dL_some_35 : decode cL_some 35 = .ok (.ireturn, 1) := by decide +kernel
theorem dL_is_0 : decode cL_is 0 = .ok (.iload_n 0, 1) := by decide +kernel
theorem dL_is_1 : decode cL_is 1 = .ok (.iload_n 1, 1) := by decide +kernel
theorem dL_is_2 : decode cL_is 2 = .ok (.if_icmp .lt 12, 3) := by decide +kernel
theorem dL_is_5 : decode cL_is 5 = .ok (.iload_n 0, 1) := by decide +kernel
theorem dL_is_6 : decode cL_is 6 = .ok (.iload_n 2, 1) := by decide +kernel
theorem dL_is_7 : decode cL_is 7 = .ok (.if_icmp .gt 7, 3) := by decide +kernel
theorem dL_is_10 : decode cL_is 10 = .ok (.iconst 1, 1) := by decide +kernel
theorem dL_is_11 : decode cL_is 11 = .ok (.goto 4, 3) := by decide +kernel
theorem dL_is_14 : decode cL_is 14 = .ok (.iconst 0, 1) := by decide +kernel
theorem dL_is_15 : decode cL_is 15 = .ok (.ireturn, 1) := by decide +kernel
theorem dL_act_0 : decode cL_act 0 = .ok (.iload_n 2, 1) := by decide +kernel
theorem dL_act_1 : decode cL_act 1 = .ok (.bipush 64, 2) := by decide +kernel
theorem dL_act_3 : decode cL_act 3 = .ok (.idiv, 1) := by decide +kernel
theorem dL_act_4 : decode cL_act 4 = .ok (.istore_n 3, 1) := by decide +kernel
theorem dL_act_5 : decode cL_act 5 = .ok (.iload_n 2, 1) := by decide +kernel
theorem dL_act_6 : decode cL_act 6 = .ok (.aload_n 0, 1) := by decide +kernel
theorem dL_act_7 : decode cL_act 7 = .ok (.getfield 95, 3) := by decide +kernel
theorem dL_act_10 : decode cL_act 10 = .ok (.invokevirtual 101, 3) := by decide +kernel
theorem dL_act_13 : decode cL_act 13 = .ok (.invokestatic 106, 3) := by decide +kernel
theorem dL_act_16 : decode cL_act 16 = .ok (.istore 4, 2) := by decide +kernel
theorem dL_act_18 : decode cL_act 18 = .ok (.iload_n 3, 1) := by decide +kernel
theorem dL_act_19 : decode cL_act 19 = .ok (.aload_n 0, 1) := by decide +kernel
theorem dL_act_20 : decode cL_act 20 = .ok (.getfield 109, 3) := by decide +kernel
theorem dL_act_23 : decode cL_act 23 = .ok (.invokevirtual 101, 3) := by decide +kernel
theorem dL_act_26 : decode cL_act 26 = .ok (.invokestatic 106, 3) := by decide +kernel
theorem dL_act_29 : decode cL_act 29 = .ok (.istore 5, 2) := by decide +kernel
theorem dL_act_31 : decode cL_act 31 = .ok (.iload_n 3, 1) := by decide +kernel
theorem dL_act_32 : decode cL_act 32 = .ok (.aload_n 0, 1) := by decide +kernel
theorem dL_act_33 : decode cL_act 33 = .ok (.getfield 112, 3) := by decide +kernel
theorem dL_act_36 : decode cL_act 36 = .ok (.invokevirtual 101, 3) := by decide +kernel
theorem dL_act_39 : decode cL_act 39 = .ok (.invokestatic 106, 3) := by decide +kernel
theorem dL_act_42 : decode cL_act 42 = .ok (.istore 6, 2) := by decide +kernel
theorem dL_act_44 : decode cL_act 44 = .ok (.iload_n 3, 1) := by decide +kernel
theorem dL_act_45 : decode cL_act 45 = .ok (.aload_n 0, 1) := by decide +kernel
theorem dL_act_46 : decode cL_act 46 = .ok (.getfield 115, 3) := by decide +kernel
theorem dL_act_49 : decode cL_act 49 = .ok (.invokevirtual 101, 3) := by decide +kernel
theorem dL_act_52 : decode cL_act 52 = .ok (.invokestatic 106, 3) := by decide +kernel
theorem dL_act_55 : decode cL_act 55 = .ok (.istore 7, 2) := by decide +kernel
theorem dL_act_57 : decode cL_act 57 = .ok (.iload_n 2, 1) := by decide +kernel
theorem dL_act_58 : decode cL_act 58 = .ok (.aload_n 0, 1) := by decide +kernel
theorem dL_act_59 : decode cL_act 59 = .ok (.getfield 118, 3) := by decide +kernel
theorem dL_act_62 : decode cL_act 62 = .ok (.invokevirtual 101, 3) := by decide +kernel
theorem dL_act_65 : decode cL_act 65 = .ok (.invokestatic 106, 3) := by decide +kernel
theorem dL_act_68 : decode cL_act 68 = .ok (.istore 8, 2) := by decide +kernel
theorem dL_act_70 : decode cL_act 70 = .ok (.iload 4, 2) := by decide +kernel
theorem dL_act_72 : decode cL_act 72 = .ok (.aload_n 0, 1) := by decide +kernel
theorem dL_act_73 : decode cL_act 73 = .ok (.getfield 95, 3) := by decide +kernel
theorem dL_act_76 : decode cL_act 76 = .ok (.invokevirtual 101, 3) := by decide +kernel
theorem dL_act_79 : decode cL_act 79 = .ok (.if_icmp .ge 7, 3) := by decide +kernel
theorem dL_act_82 : decode cL_act 82 = .ok (.iconst 1, 1) := by decide +kernel
theorem dL_act_83 : decode cL_act 83 = .ok (.goto 4, 3) := by decide +kernel
theorem dL_act_86 : decode cL_act 86 = .ok (.iconst 0, 1) := by decide +kernel
theorem dL_act_87 : decode cL_act 87 = .ok (.istore 9, 2) := by decide +kernel
theorem dL_act_89 : decode cL_act 89 = .ok (.iload 5, 2) := by decide +kernel
theorem dL_act_91 : decode cL_act 91 = .ok (.aload_n 0, 1) := by decide +kernel
theorem dL_act_92 : decode cL_act 92 = .ok (.getfield 109, 3) := by decide +kernel
theorem dL_act_95 : decode cL_act 95 = .ok (.invokevirtual 101, 3) := by decide +kernel
theorem dL_act_98 : decode cL_act 98 = .ok (.if_icmp .ge 7, 3) := by decide +kernel
theorem dL_act_101 : decode cL_act 101 = .ok (.iconst 1, 1) := by decide +kernel
theorem dL_act_102 : decode cL_act 102 = .ok (.goto 4, 3) := by decide +kernel
theorem dL_act_105 : decode cL_act 105 = .ok (.iconst 0, 1) := by decide +kernel
theorem dL_act_106 : decode cL_act 106 = .ok (.istore 10, 2) := by decide +kernel
theorem dL_act_108 : decode cL_act 108 = .ok (.iload_n 1, 1) := by decide +kernel
theorem dL_act_109 : decode cL_act 109 = .ok (.tableswitch 1053 0 20 #[99, 99, 99, 99, 204, 239, 239, 239, 239, 350, 350, 445, 445, 445, 553, 604, 703, 703, 818, 869, 981], 99) := by decide +kernel
theorem dL_act_208 : decode cL_act 208 = .ok (.iload_n 3, 1) := by decide +kernel
theorem dL_act_209 : decode cL_act 209 = .ok (.iconst 0, 1) := by decide +kernel
theorem dL_act_210 : decode cL_act 210 = .ok (.bipush 29, 2) := by decide +kernel
theorem dL_act_212 : decode cL_act 212 = .ok (.invokestatic 121, 3) := by decide +kernel
theorem dL_act_215 : decode cL_act 215 = .ok (.istore 11, 2) := by decide +kernel
theorem dL_act_217 : decode cL_act 217 = .ok (.iload 8, 2) := by decide +kernel
theorem dL_act_219 : decode cL_act 219 = .ok (.aload_n 0, 1) := by decide +kernel
theorem dL_act_220 : decode cL_act 220 = .ok (.getfield 118, 3) := by decide +kernel
theorem dL_act_223 : decode cL_act 223 = .ok (.invokevirtual 101, 3) := by decide +kernel
theorem dL_act_226 : decode cL_act 226 = .ok (.if_icmp .ne 6, 3) := by decide +kernel
theorem dL_act_229 : decode cL_act 229 = .ok (.ldc 52, 2) := by decide +kernel
theorem dL_act_231 : decode cL_act 231 = .ok (.ireturn, 1) := by decide +kernel
theorem dL_act_232 : decode cL_act 232 = .ok (.iload 11, 2) := by decide +kernel
theorem dL_act_234 : decode cL_act 234 = .ok (.iconst 0, 1) := by decide +kernel
theorem dL_act_235 : decode cL_act 235 = .ok (.bipush 29, 2) := by decide +kernel
theorem dL_act_237 : decode cL_act 237 = .ok (.invokestatic 124, 3) := by decide +kernel
theorem dL_act_240 : decode cL_act 240 = .ok (.ifCond .ne 6, 3) := by decide +kernel
theorem dL_act_243 : decode cL_act 243 = .ok (.ldc 29, 2) := by decide +kernel
theorem dL_act_245 : decode cL_act 245 = .ok (.ireturn, 1) := by decide +kernel
theorem dL_act_246 : decode cL_act 246 = .ok (.aload_n 0, 1) := by decide +kernel
theorem dL_act_247 : decode cL_act 247 = .ok (.iload 8, 2) := by decide +kernel
theorem dL_act_249 : decode cL_act 249 = .ok (.invokevirtual 128, 3) := by decide +kernel
theorem dL_act_252 : decode cL_act 252 = .ok (.ifCond .ne 25, 3) := by decide +kernel
theorem dL_act_255 : decode cL_act 255 = .ok (.aload_n 0, 1) := by decide +kernel
theorem dL_act_256 : decode cL_act 256 = .ok (.iload 8, 2) := by decide +kernel
theorem dL_act_258 : decode cL_act 258 = .ok (.invokevirtual 132, 3) := by decide +kernel
theorem dL_act_261 : decode cL_act 261 = .ok (.iconst 5, 1) := by decide +kernel
theorem dL_act_262 : decode cL_act 262 = .ok (.if_icmp .eq 15, 3) := by decide +kernel
theorem dL_act_265 : decode cL_act 265 = .ok (.aload_n 0, 1) := by decide +kernel
theorem dL_act_266 : decode cL_act 266 = .ok (.getfield 109, 3) := by decide +kernel
theorem dL_act_269 : decode cL_act 269 = .ok (.invokevirtual 101, 3) := by decide +kernel
theorem dL_act_272 : decode cL_act 272 = .ok (.bipush 24, 2) := by decide +kernel
theorem dL_act_274 : decode cL_act 274 = .ok (.if_icmp .ne 6, 3) := by decide +kernel
theorem dL_act_277 : decode cL_act 277 = .ok (.ldc 22, 2) := by decide +kernel
theorem dL_act_279 : decode cL_act 279 = .ok (.ireturn, 1) := by decide +kernel
theorem dL_act_280 : decode cL_act 280 = .ok (.aload_n 0, 1) := by decide +kernel
theorem dL_act_281 : decode cL_act 281 = .ok (.getfield 109, 3) := by decide +kernel
theorem dL_act_284 : decode cL_act 284 = .ok (.new 135, 3) := by decide +kernel
theorem dL_act_287 : decode cL_act 287 = .ok (.dup, 1) := by decide +kernel
theorem dL_act_288 : decode cL_act 288 = .ok (.iload 8, 2) := by decide +kernel
theorem dL_act_290 : decode cL_act 290 = .ok (.iload 11, 2) := by decide +kernel
theorem dL_act_292 : decode cL_act 292 = .ok (.aload_n 0, 1) := by decide +kernel
theorem dL_act_293 : decode cL_act 293 = .ok (.getfield 137, 3) := by decide +kernel
theorem dL_act_296 : decode cL_act 296 = .ok (.invokespecial 141, 3) := by decide +kernel
theorem dL_act_299 : decode cL_act 299 = .ok (.invokevirtual 144, 3) := by decide +kernel
theorem dL_act_302 : decode cL_act 302 = .ok (.pop, 1) := by decide +kernel
theorem dL_act_303 : decode cL_act 303 = .ok (.aload_n 0, 1) := by decide +kernel
theorem dL_act_304 : decode cL_act 304 = .ok (.getfield 109, 3) := by decide +kernel
theorem dL_act_307 : decode cL_act 307 = .ok (.invokevirtual 101, 3) := by decide +kernel
theorem dL_act_310 : decode cL_act 310 = .ok (.iconst 1, 1) := by decide +kernel
theorem dL_act_311 : decode cL_act 311 = .ok (.isub, 1) := by decide +kernel
theorem dL_act_312 : decode cL_act 312 = .ok (.ireturn, 1) := by decide +kernel
theorem dL_act_313 : decode cL_act 313 = .ok (.iload 10, 2) := by decide +kernel
theorem dL_act_315 : decode cL_act 315 = .ok (.ifCond .ne 6, 3) := by decide +kernel
theorem dL_act_318 : decode cL_act 318 = .ok (.ldc 52, 2) := by decide +kernel
theorem dL_act_320 : decode cL_act 320 = .ok (.ireturn, 1) := by decide +kernel
theorem dL_act_321 : decode cL_act 321 = .ok (.aload_n 0, 1) := by decide +kernel
theorem dL_act_322 : decode cL_act 322 = .ok (.aload_n 0, 1) := by decide +kernel
theorem dL_act_323 : decode cL_act 323 = .ok (.getfield 109, 3) := by decide +kernel
theorem dL_act_326 : decode cL_act 326 = .ok (.iload 5, 2) := by decide +kernel
theorem dL_act_328 : decode cL_act 328 = .ok (.invokevirtual 148, 3) := by decide +kernel
theorem dL_act_331 : decode cL_act 331 = .ok (.checkcast 135, 3) := by decide +kernel
theorem dL_act_334 : decode cL_act 334 = .ok (.invokevirtual 152, 3) := by decide +kernel
theorem dL_act_337 : decode cL_act 337 = .ok (.istore 11, 2) := by decide +kernel
theorem dL_act_339 : decode cL_act 339 = .ok (.aload_n 0, 1) := by decide +kernel
theorem dL_act_340 : decode cL_act 340 = .ok (.iload 5, 2) := by decide +kernel
theorem dL_act_342 : decode cL_act 342 = .ok (.invokevirtual 156, 3) := by decide +kernel
theorem dL_act_345 : decode cL_act 345 = .ok (.iload 11, 2) := by decide +kernel
theorem dL_act_347 : decode cL_act 347 = .ok (.ireturn, 1) := by decide +kernel
theorem dL_act_348 : decode cL_act 348 = .ok (.iload 9, 2) := by decide +kernel
theorem dL_act_350 : decode cL_act 350 = .ok (.ifCond .eq 8, 3) := by decide +kernel
theorem dL_act_353 : decode cL_act 353 = .ok (.iload 10, 2) := by decide +kernel
theorem dL_act_355 : decode cL_act 355 = .ok (.ifCond .ne 6, 3) := by decide +kernel
theorem dL_act_358 : decode cL_act 358 = .ok (.ldc 52, 2) := by decide +kernel
theorem dL_act_360 : decode cL_act 360 = .ok (.ireturn, 1) := by decide +kernel
theorem dL_act_361 : decode cL_act 361 = .ok (.aload_n 0, 1) := by decide +kernel
theorem dL_act_362 : decode cL_act 362 = .ok (.iload 4, 2) := by decide +kernel
theorem dL_act_364 : decode cL_act 364 = .ok (.iload 5, 2) := by decide +kernel
theorem dL_act_366 : decode cL_act 366 = .ok (.invokevirtual 160, 3) := by decide +kernel
theorem dL_act_369 : decode cL_act 369 = .ok (.ifCond .ne 6, 3) := by decide +kernel
theorem dL_act_372 : decode cL_act 372 = .ok (.ldc 22, 2) := by decide +kernel
theorem dL_act_374 : decode cL_act 374 = .ok (.ireturn, 1) := by decide +kernel
theorem dL_act_375 : decode cL_act 375 = .ok (.aload_n 0, 1) := by decide +kernel
theorem dL_act_376 : decode cL_act 376 = .ok (.getfield 109, 3) := by decide +kernel
theorem dL_act_379 : decode cL_act 379 = .ok (.iload 5, 2) := by decide +kernel
theorem dL_act_381 : decode cL_act 381 = .ok (.invokevirtual 148, 3) := by decide +kernel
theorem dL_act_384 : decode cL_act 384 = .ok (.checkcast 135, 3) := by decide +kernel
theorem dL_act_387 : decode cL_act 387 = .ok (.astore 11, 2) := by decide +kernel
theorem dL_act_389 : decode cL_act 389 = .ok (.aload 11, 2) := by decide +kernel
theorem dL_act_391 : decode cL_act 391 = .ok (.dup, 1) := by decide +kernel
theorem dL_act_392 : decode cL_act 392 = .ok (.getfield 164, 3) := by decide +kernel
theorem dL_act_395 : decode cL_act 395 = .ok (.iconst 1, 1) := by decide +kernel
theorem dL_act_396 : decode cL_act 396 = .ok (.aload_n 0, 1) := by decide +kernel
theorem dL_act_397 : decode cL_act 397 = .ok (.aload 11, 2) := by decide +kernel
theorem dL_act_399 : decode cL_act 399 = .ok (.invokevirtual 152, 3) := by decide +kernel
theorem dL_act_402 : decode cL_act 402 = .ok (.bipush 10, 2) := by decide +kernel
theorem dL_act_404 : decode cL_act 404 = .ok (.idiv, 1) := by decide +kernel
theorem dL_act_405 : decode cL_act 405 = .ok (.iadd, 1) := by decide +kernel
theorem dL_act_406 : decode cL_act 406 = .ok (.iadd, 1) := by decide +kernel
theorem dL_act_407 : decode cL_act 407 = .ok (.putfield 164, 3) := by decide +kernel
theorem dL_act_410 : decode cL_act 410 = .ok (.aload 11, 2) := by decide +kernel
theorem dL_act_412 : decode cL_act 412 = .ok (.dup, 1) := by decide +kernel
theorem dL_act_413 : decode cL_act 413 = .ok (.getfield 167, 3) := by decide +kernel
theorem dL_act_416 : decode cL_act 416 = .ok (.iconst 1, 1) := by decide +kernel
theorem dL_act_417 : decode cL_act 417 = .ok (.iadd, 1) := by decide +kernel
theorem dL_act_418 : decode cL_act 418 = .ok (.putfield 167, 3) := by decide +kernel
theorem dL_act_421 : decode cL_act 421 = .ok (.aload 11, 2) := by decide +kernel
theorem dL_act_423 : decode cL_act 423 = .ok (.dup, 1) := by decide +kernel
theorem dL_act_424 : decode cL_act 424 = .ok (.getfield 170, 3) := by decide +kernel
theorem dL_act_427 : decode cL_act 427 = .ok (.iconst 1, 1) := by decide +kernel
theorem dL_act_428 : decode cL_act 428 = .ok (.iload 4, 2) := by decide +kernel
theorem dL_act_430 : decode cL_act 430 = .ok (.ishl, 1) := by decide +kernel
theorem dL_act_431 : decode cL_act 431 = .ok (.ior, 1) := by decide +kernel
theorem dL_act_432 : decode cL_act 432 = .ok (.putfield 170, 3) := by decide +kernel
theorem dL_act_435 : decode cL_act 435 = .ok (.aload_n 0, 1) := by decide +kernel
theorem dL_act_436 : decode cL_act 436 = .ok (.getfield 95, 3) := by decide +kernel
theorem dL_act_439 : decode cL_act 439 = .ok (.iload 4, 2) := by decide +kernel
theorem dL_act_441 : decode cL_act 441 = .ok (.invokevirtual 148, 3) := by decide +kernel
theorem dL_act_444 : decode cL_act 444 = .ok (.checkcast 173, 3) := by decide +kernel
theorem dL_act_447 : decode cL_act 447 = .ok (.iconst 2, 1) := by decide +kernel
theorem dL_act_448 : decode cL_act 448 = .ok (.dup2, 1) := by decide +kernel
theorem dL_act_449 : decode cL_act 449 = .ok (.iaload, 1) := by decide +kernel
theorem dL_act_450 : decode cL_act 450 = .ok (.iconst 1, 1) := by decide +kernel
theorem dL_act_451 : decode cL_act 451 = .ok (.iadd, 1) := by decide +kernel
theorem dL_act_452 : decode cL_act 452 = .ok (.iastore, 1) := by decide +kernel
theorem dL_act_453 : decode cL_act 453 = .ok (.aload 11, 2) := by decide +kernel
theorem dL_act_455 : decode cL_act 455 = .ok (.getfield 164, 3) := by decide +kernel
theorem dL_act_458 : decode cL_act 458 = .ok (.ireturn, 1) := by decide +kernel
theorem dL_act_459 : decode cL_act 459 = .ok (.iload_n 3, 1) := by decide +kernel
theorem dL_act_460 : decode cL_act 460 = .ok (.bipush 7, 2) := by decide +kernel
theorem dL_act_462 : decode cL_act 462 = .ok (.idiv, 1) := by decide +kernel
theorem dL_act_463 : decode cL_act 463 = .ok (.iconst 0, 1) := by decide +kernel
theorem dL_act_464 : decode cL_act 464 = .ok (.bipush 29, 2) := by decide +kernel
theorem dL_act_466 : decode cL_act 466 = .ok (.invokestatic 121, 3) := by decide +kernel
theorem dL_act_469 : decode cL_act 469 = .ok (.istore 11, 2) := by decide +kernel
theorem dL_act_471 : decode cL_act 471 = .ok (.iload 9, 2) := by decide +kernel
theorem dL_act_473 : decode cL_act 473 = .ok (.ifCond .eq 8, 3) := by decide +kernel
theorem dL_act_476 : decode cL_act 476 = .ok (.iload 10, 2) := by decide +kernel
theorem dL_act_478 : decode cL_act 478 = .ok (.ifCond .ne 6, 3) := by decide +kernel
theorem dL_act_481 : decode cL_act 481 = .ok (.ldc 52, 2) := by decide +kernel
theorem dL_act_483 : decode cL_act 483 = .ok (.ireturn, 1) := by decide +kernel
theorem dL_act_484 : decode cL_act 484 = .ok (.iload 11, 2) := by decide +kernel
theorem dL_act_486 : decode cL_act 486 = .ok (.iconst 0, 1) := by decide +kernel
theorem dL_act_487 : decode cL_act 487 = .ok (.bipush 29, 2) := by decide +kernel
theorem dL_act_489 : decode cL_act 489 = .ok (.invokestatic 124, 3) := by decide +kernel
theorem dL_act_492 : decode cL_act 492 = .ok (.ifCond .ne 6, 3) := by decide +kernel
theorem dL_act_495 : decode cL_act 495 = .ok (.ldc 29, 2) := by decide +kernel
theorem dL_act_497 : decode cL_act 497 = .ok (.ireturn, 1) := by decide +kernel
theorem dL_act_498 : decode cL_act 498 = .ok (.aload_n 0, 1) := by decide +kernel
theorem dL_act_499 : decode cL_act 499 = .ok (.getfield 109, 3) := by decide +kernel
theorem dL_act_502 : decode cL_act 502 = .ok (.iload 5, 2) := by decide +kernel
theorem dL_act_504 : decode cL_act 504 = .ok (.invokevirtual 148, 3) := by decide +kernel
theorem dL_act_507 : decode cL_act 507 = .ok (.checkcast 135, 3) := by decide +kernel
theorem dL_act_510 : decode cL_act 510 = .ok (.astore 12, 2) := by decide +kernel
theorem dL_act_512 : decode cL_act 512 = .ok (.aload 12, 2) := by decide +kernel
theorem dL_act_514 : decode cL_act 514 = .ok (.getfield 170, 3) := by decide +kernel
theorem dL_act_517 : decode cL_act 517 = .ok (.iload 4, 2) := by decide +kernel
theorem dL_act_519 : decode cL_act 519 = .ok (.ishr, 1) := by decide +kernel
theorem dL_act_520 : decode cL_act 520 = .ok (.iconst 1, 1) := by decide +kernel
theorem dL_act_521 : decode cL_act 521 = .ok (.iand, 1) := by decide +kernel
theorem dL_act_522 : decode cL_act 522 = .ok (.ifCond .ne 6, 3) := by decide +kernel
theorem dL_act_525 : decode cL_act 525 = .ok (.ldc 22, 2) := by decide +kernel
theorem dL_act_527 : decode cL_act 527 = .ok (.ireturn, 1) := by decide +kernel
theorem dL_act_528 : decode cL_act 528 = .ok (.aload 12, 2) := by decide +kernel
theorem dL_act_530 : decode cL_act 530 = .ok (.getfield 175, 3) := by decide +kernel
theorem dL_act_533 : decode cL_act 533 = .ok (.iload 4, 2) := by decide +kernel
theorem dL_act_535 : decode cL_act 535 = .ok (.invokestatic 179, 3) := by decide +kernel
theorem dL_act_538 : decode cL_act 538 = .ok (.iload 11, 2) := by decide +kernel
theorem dL_act_540 : decode cL_act 540 = .ok (.invokestatic 179, 3) := by decide +kernel
theorem dL_act_543 : decode cL_act 543 = .ok (.invokevirtual 185, 3) := by decide +kernel
theorem dL_act_546 : decode cL_act 546 = .ok (.pop, 1) := by decide +kernel
theorem dL_act_547 : decode cL_act 547 = .ok (.aload_n 0, 1) := by decide +kernel
theorem dL_act_548 : decode cL_act 548 = .ok (.aload 12, 2) := by decide +kernel
theorem dL_act_550 : decode cL_act 550 = .ok (.invokevirtual 152, 3) := by decide +kernel
theorem dL_act_553 : decode cL_act 553 = .ok (.ireturn, 1) := by decide +kernel
theorem dL_act_554 : decode cL_act 554 = .ok (.iload 9, 2) := by decide +kernel
theorem dL_act_556 : decode cL_act 556 = .ok (.ifCond .eq 15, 3) := by decide +kernel
theorem dL_act_559 : decode cL_act 559 = .ok (.iload 6, 2) := by decide +kernel
theorem dL_act_561 : decode cL_act 561 = .ok (.aload_n 0, 1) := by decide +kernel
theorem dL_act_562 : decode cL_act 562 = .ok (.getfield 112, 3) := by decide +kernel
theorem dL_act_565 : decode cL_act 565 = .ok (.invokevirtual 101, 3) := by decide +kernel
theorem dL_act_568 : decode cL_act 568 = .ok (.if_icmp .ne 6, 3) := by decide +kernel
theorem dL_act_571 : decode cL_act 571 = .ok (.ldc 52, 2) := by decide +kernel
theorem dL_act_573 : decode cL_act 573 = .ok (.ireturn, 1) := by decide +kernel
theorem dL_act_574 : decode cL_act 574 = .ok (.aload_n 0, 1) := by decide +kernel
theorem dL_act_575 : decode cL_act 575 = .ok (.getfield 95, 3) := by decide +kernel
theorem dL_act_578 : decode cL_act 578 = .ok (.iload 4, 2) := by decide +kernel
theorem dL_act_580 : decode cL_act 580 = .ok (.invokevirtual 148, 3) := by decide +kernel
theorem dL_act_583 : decode cL_act 583 = .ok (.checkcast 173, 3) := by decide +kernel
theorem dL_act_586 : decode cL_act 586 = .ok (.astore 11, 2) := by decide +kernel
theorem dL_act_588 : decode cL_act 588 = .ok (.aload_n 0, 1) := by decide +kernel
theorem dL_act_589 : decode cL_act 589 = .ok (.getfield 112, 3) := by decide +kernel
theorem dL_act_592 : decode cL_act 592 = .ok (.iload 6, 2) := by decide +kernel
theorem dL_act_594 : decode cL_act 594 = .ok (.invokevirtual 148, 3) := by decide +kernel
theorem dL_act_597 : decode cL_act 597 = .ok (.checkcast 173, 3) := by decide +kernel
theorem dL_act_600 : decode cL_act 600 = .ok (.astore 12, 2) := by decide +kernel
theorem dL_act_602 : decode cL_act 602 = .ok (.aload 11, 2) := by decide +kernel
theorem dL_act_604 : decode cL_act 604 = .ok (.iconst 3, 1) := by decide +kernel
theorem dL_act_605 : decode cL_act 605 = .ok (.iaload, 1) := by decide +kernel
theorem dL_act_606 : decode cL_act 606 = .ok (.iconst (-1), 1) := by decide +kernel
theorem dL_act_607 : decode cL_act 607 = .ok (.if_icmp .ne 36, 3) := by decide +kernel
theorem dL_act_610 : decode cL_act 610 = .ok (.aload 11, 2) := by decide +kernel
theorem dL_act_612 : decode cL_act 612 = .ok (.iconst 0, 1) := by decide +kernel
theorem dL_act_613 : decode cL_act 613 = .ok (.iaload, 1) := by decide +kernel
theorem dL_act_614 : decode cL_act 614 = .ok (.aload 12, 2) := by decide +kernel
theorem dL_act_616 : decode cL_act 616 = .ok (.iconst 0, 1) := by decide +kernel
theorem dL_act_617 : decode cL_act 617 = .ok (.iaload, 1) := by decide +kernel
theorem dL_act_618 : decode cL_act 618 = .ok (.if_icmp .ne 25, 3) := by decide +kernel
theorem dL_act_621 : decode cL_act 621 = .ok (.aload_n 0, 1) := by decide +kernel
theorem dL_act_622 : decode cL_act 622 = .ok (.iload 6, 2) := by decide +kernel
theorem dL_act_624 : decode cL_act 624 = .ok (.invokevirtual 191, 3) := by decide +kernel
theorem dL_act_627 : decode cL_act 627 = .ok (.ifCond .ne 16, 3) := by decide +kernel
theorem dL_act_630 : decode cL_act 630 = .ok (.aload_n 0, 1) := by decide +kernel
theorem dL_act_631 : decode cL_act 631 = .ok (.iload 6, 2) := by decide +kernel
theorem dL_act_633 : decode cL_act 633 = .ok (.aload_n 0, 1) := by decide +kernel
theorem dL_act_634 : decode cL_act 634 = .ok (.getfield 137, 3) := by decide +kernel
theorem dL_act_637 : decode cL_act 637 = .ok (.invokevirtual 194, 3) := by decide +kernel
theorem dL_act_640 : decode cL_act 640 = .ok (.ifCond .ne 6, 3) := by decide +kernel
theorem dL_act_643 : decode cL_act 643 = .ok (.ldc 22, 2) := by decide +kernel
theorem dL_act_645 : decode cL_act 645 = .ok (.ireturn, 1) := by decide +kernel
theorem dL_act_646 : decode cL_act 646 = .ok (.aload 11, 2) := by decide +kernel
theorem dL_act_648 : decode cL_act 648 = .ok (.iconst 3, 1) := by decide +kernel
theorem dL_act_649 : decode cL_act 649 = .ok (.iload 6, 2) := by decide +kernel
theorem dL_act_651 : decode cL_act 651 = .ok (.iastore, 1) := by decide +kernel
theorem dL_act_652 : decode cL_act 652 = .ok (.aload 12, 2) := by decide +kernel
theorem dL_act_654 : decode cL_act 654 = .ok (.iconst 1, 1) := by decide +kernel
theorem dL_act_655 : decode cL_act 655 = .ok (.iaload, 1) := by decide +kernel
theorem dL_act_656 : decode cL_act 656 = .ok (.aload 12, 2) := by decide +kernel
theorem dL_act_658 : decode cL_act 658 = .ok (.iconst 2, 1) := by decide +kernel
theorem dL_act_659 : decode cL_act 659 = .ok (.iaload, 1) := by decide +kernel
theorem dL_act_660 : decode cL_act 660 = .ok (.iadd, 1) := by decide +kernel
theorem dL_act_661 : decode cL_act 661 = .ok (.ireturn, 1) := by decide +kernel
theorem dL_act_662 : decode cL_act 662 = .ok (.iload 9, 2) := by decide +kernel
theorem dL_act_664 : decode cL_act 664 = .ok (.ifCond .ne 6, 3) := by decide +kernel
theorem dL_act_667 : decode cL_act 667 = .ok (.ldc 52, 2) := by decide +kernel
theorem dL_act_669 : decode cL_act 669 = .ok (.ireturn, 1) := by decide +kernel
theorem dL_act_670 : decode cL_act 670 = .ok (.aload_n 0, 1) := by decide +kernel
theorem dL_act_671 : decode cL_act 671 = .ok (.getfield 95, 3) := by decide +kernel
theorem dL_act_674 : decode cL_act 674 = .ok (.iload 4, 2) := by decide +kernel
theorem dL_act_676 : decode cL_act 676 = .ok (.invokevirtual 148, 3) := by decide +kernel
theorem dL_act_679 : decode cL_act 679 = .ok (.checkcast 173, 3) := by decide +kernel
theorem dL_act_682 : decode cL_act 682 = .ok (.iconst 3, 1) := by decide +kernel
theorem dL_act_683 : decode cL_act 683 = .ok (.iaload, 1) := by decide +kernel
theorem dL_act_684 : decode cL_act 684 = .ok (.istore 11, 2) := by decide +kernel
theorem dL_act_686 : decode cL_act 686 = .ok (.iload 11, 2) := by decide +kernel
theorem dL_act_688 : decode cL_act 688 = .ok (.iconst (-1), 1) := by decide +kernel
theorem dL_act_689 : decode cL_act 689 = .ok (.if_icmp .ne 6, 3) := by decide +kernel
theorem dL_act_692 : decode cL_act 692 = .ok (.ldc 22, 2) := by decide +kernel
theorem dL_act_694 : decode cL_act 694 = .ok (.ireturn, 1) := by decide +kernel
theorem dL_act_695 : decode cL_act 695 = .ok (.aload_n 0, 1) := by decide +kernel
theorem dL_act_696 : decode cL_act 696 = .ok (.getfield 95, 3) := by decide +kernel
theorem dL_act_699 : decode cL_act 699 = .ok (.iload 4, 2) := by decide +kernel
theorem dL_act_701 : decode cL_act 701 = .ok (.invokevirtual 148, 3) := by decide +kernel
theorem dL_act_704 : decode cL_act 704 = .ok (.checkcast 173, 3) := by decide +kernel
theorem dL_act_707 : decode cL_act 707 = .ok (.iconst 3, 1) := by decide +kernel
theorem dL_act_708 : decode cL_act 708 = .ok (.iconst (-1), 1) := by decide +kernel
theorem dL_act_709 : decode cL_act 709 = .ok (.iastore, 1) := by decide +kernel
theorem dL_act_710 : decode cL_act 710 = .ok (.iload 11, 2) := by decide +kernel
theorem dL_act_712 : decode cL_act 712 = .ok (.ireturn, 1) := by decide +kernel
theorem dL_act_713 : decode cL_act 713 = .ok (.iload_n 2, 1) := by decide +kernel
theorem dL_act_714 : decode cL_act 714 = .ok (.iconst 5, 1) := by decide +kernel
theorem dL_act_715 : decode cL_act 715 = .ok (.irem, 1) := by decide +kernel
theorem dL_act_716 : decode cL_act 716 = .ok (.ifCond .le 7, 3) := by decide +kernel
theorem dL_act_719 : decode cL_act 719 = .ok (.iconst 1, 1) := by decide +kernel
theorem dL_act_720 : decode cL_act 720 = .ok (.goto 4, 3) := by decide +kernel
theorem dL_act_723 : decode cL_act 723 = .ok (.iconst 0, 1) := by decide +kernel
theorem dL_act_724 : decode cL_act 724 = .ok (.istore 11, 2) := by decide +kernel
theorem dL_act_726 : decode cL_act 726 = .ok (.iload 6, 2) := by decide +kernel
theorem dL_act_728 : decode cL_act 728 = .ok (.aload_n 0, 1) := by decide +kernel
theorem dL_act_729 : decode cL_act 729 = .ok (.getfield 112, 3) := by decide +kernel
theorem dL_act_732 : decode cL_act 732 = .ok (.invokevirtual 101, 3) := by decide +kernel
theorem dL_act_735 : decode cL_act 735 = .ok (.if_icmp .ne 6, 3) := by decide +kernel
theorem dL_act_738 : decode cL_act 738 = .ok (.ldc 52, 2) := by decide +kernel
theorem dL_act_740 : decode cL_act 740 = .ok (.ireturn, 1) := by decide +kernel
theorem dL_act_741 : decode cL_act 741 = .ok (.aload_n 0, 1) := by decide +kernel
theorem dL_act_742 : decode cL_act 742 = .ok (.getfield 112, 3) := by decide +kernel
theorem dL_act_745 : decode cL_act 745 = .ok (.iload 6, 2) := by decide +kernel
theorem dL_act_747 : decode cL_act 747 = .ok (.invokevirtual 148, 3) := by decide +kernel
theorem dL_act_750 : decode cL_act 750 = .ok (.checkcast 173, 3) := by decide +kernel
theorem dL_act_753 : decode cL_act 753 = .ok (.astore 12, 2) := by decide +kernel
theorem dL_act_755 : decode cL_act 755 = .ok (.aload_n 0, 1) := by decide +kernel
theorem dL_act_756 : decode cL_act 756 = .ok (.iload 6, 2) := by decide +kernel
theorem dL_act_758 : decode cL_act 758 = .ok (.invokevirtual 191, 3) := by decide +kernel
theorem dL_act_761 : decode cL_act 761 = .ok (.ifCond .ne 11, 3) := by decide +kernel
theorem dL_act_764 : decode cL_act 764 = .ok (.aload 12, 2) := by decide +kernel
theorem dL_act_766 : decode cL_act 766 = .ok (.iconst 3, 1) := by decide +kernel
theorem dL_act_767 : decode cL_act 767 = .ok (.iaload, 1) := by decide +kernel
theorem dL_act_768 : decode cL_act 768 = .ok (.iconst 1, 1) := by decide +kernel
theorem dL_act_769 : decode cL_act 769 = .ok (.if_icmp .ne 6, 3) := by decide +kernel
theorem dL_act_772 : decode cL_act 772 = .ok (.ldc 22, 2) := by decide +kernel
theorem dL_act_774 : decode cL_act 774 = .ok (.ireturn, 1) := by decide +kernel
theorem dL_act_775 : decode cL_act 775 = .ok (.aload 12, 2) := by decide +kernel
theorem dL_act_777 : decode cL_act 777 = .ok (.iconst 2, 1) := by decide +kernel
theorem dL_act_778 : decode cL_act 778 = .ok (.aload_n 0, 1) := by decide +kernel
theorem dL_act_779 : decode cL_act 779 = .ok (.getfield 137, 3) := by decide +kernel
theorem dL_act_782 : decode cL_act 782 = .ok (.iastore, 1) := by decide +kernel
theorem dL_act_783 : decode cL_act 783 = .ok (.iload 11, 2) := by decide +kernel
theorem dL_act_785 : decode cL_act 785 = .ok (.ifCond .ne 8, 3) := by decide +kernel
theorem dL_act_788 : decode cL_act 788 = .ok (.aload 12, 2) := by decide +kernel
theorem dL_act_790 : decode cL_act 790 = .ok (.iconst 3, 1) := by decide +kernel
theorem dL_act_791 : decode cL_act 791 = .ok (.iconst 1, 1) := by decide +kernel
theorem dL_act_792 : decode cL_act 792 = .ok (.iastore, 1) := by decide +kernel
theorem dL_act_793 : decode cL_act 793 = .ok (.iload 11, 2) := by decide +kernel
theorem dL_act_795 : decode cL_act 795 = .ok (.ifCond .eq 15, 3) := by decide +kernel
theorem dL_act_798 : decode cL_act 798 = .ok (.aload 12, 2) := by decide +kernel
theorem dL_act_800 : decode cL_act 800 = .ok (.iconst 1, 1) := by decide +kernel
theorem dL_act_801 : decode cL_act 801 = .ok (.iaload, 1) := by decide +kernel
theorem dL_act_802 : decode cL_act 802 = .ok (.aload 12, 2) := by decide +kernel
theorem dL_act_804 : decode cL_act 804 = .ok (.iconst 2, 1) := by decide +kernel
theorem dL_act_805 : decode cL_act 805 = .ok (.iaload, 1) := by decide +kernel
theorem dL_act_806 : decode cL_act 806 = .ok (.iadd, 1) := by decide +kernel
theorem dL_act_807 : decode cL_act 807 = .ok (.goto 4, 3) := by decide +kernel
theorem dL_act_810 : decode cL_act 810 = .ok (.iconst (-1), 1) := by decide +kernel
theorem dL_act_811 : decode cL_act 811 = .ok (.ireturn, 1) := by decide +kernel
theorem dL_act_812 : decode cL_act 812 = .ok (.iload 9, 2) := by decide +kernel
theorem dL_act_814 : decode cL_act 814 = .ok (.ifCond .eq 15, 3) := by decide +kernel
theorem dL_act_817 : decode cL_act 817 = .ok (.iload 7, 2) := by decide +kernel
theorem dL_act_819 : decode cL_act 819 = .ok (.aload_n 0, 1) := by decide +kernel
theorem dL_act_820 : decode cL_act 820 = .ok (.getfield 115, 3) := by decide +kernel
theorem dL_act_823 : decode cL_act 823 = .ok (.invokevirtual 101, 3) := by decide +kernel
theorem dL_act_826 : decode cL_act 826 = .ok (.if_icmp .ne 6, 3) := by decide +kernel
theorem dL_act_829 : decode cL_act 829 = .ok (.ldc 52, 2) := by decide +kernel
theorem dL_act_831 : decode cL_act 831 = .ok (.ireturn, 1) := by decide +kernel
theorem dL_act_832 : decode cL_act 832 = .ok (.aload_n 0, 1) := by decide +kernel
theorem dL_act_833 : decode cL_act 833 = .ok (.getfield 95, 3) := by decide +kernel
theorem dL_act_836 : decode cL_act 836 = .ok (.iload 4, 2) := by decide +kernel
theorem dL_act_838 : decode cL_act 838 = .ok (.invokevirtual 148, 3) := by decide +kernel
theorem dL_act_841 : decode cL_act 841 = .ok (.checkcast 173, 3) := by decide +kernel
theorem dL_act_844 : decode cL_act 844 = .ok (.astore 11, 2) := by decide +kernel
theorem dL_act_846 : decode cL_act 846 = .ok (.aload_n 0, 1) := by decide +kernel
theorem dL_act_847 : decode cL_act 847 = .ok (.getfield 115, 3) := by decide +kernel
theorem dL_act_850 : decode cL_act 850 = .ok (.iload 7, 2) := by decide +kernel
theorem dL_act_852 : decode cL_act 852 = .ok (.invokevirtual 148, 3) := by decide +kernel
theorem dL_act_855 : decode cL_act 855 = .ok (.checkcast 173, 3) := by decide +kernel
theorem dL_act_858 : decode cL_act 858 = .ok (.astore 12, 2) := by decide +kernel
theorem dL_act_860 : decode cL_act 860 = .ok (.aload 11, 2) := by decide +kernel
theorem dL_act_862 : decode cL_act 862 = .ok (.iconst 4, 1) := by decide +kernel
theorem dL_act_863 : decode cL_act 863 = .ok (.iaload, 1) := by decide +kernel
theorem dL_act_864 : decode cL_act 864 = .ok (.iconst (-1), 1) := by decide +kernel
theorem dL_act_865 : decode cL_act 865 = .ok (.if_icmp .ne 43, 3) := by decide +kernel
theorem dL_act_868 : decode cL_act 868 = .ok (.aload 11, 2) := by decide +kernel
theorem dL_act_870 : decode cL_act 870 = .ok (.iconst 1, 1) := by decide +kernel
theorem dL_act_871 : decode cL_act 871 = .ok (.iaload, 1) := by decide +kernel
theorem dL_act_872 : decode cL_act 872 = .ok (.aload 12, 2) := by decide +kernel
theorem dL_act_874 : decode cL_act 874 = .ok (.iconst 0, 1) := by decide +kernel
theorem dL_act_875 : decode cL_act 875 = .ok (.iaload, 1) := by decide +kernel
theorem dL_act_876 : decode cL_act 876 = .ok (.iconst 1, 1) := by decide +kernel
theorem dL_act_877 : decode cL_act 877 = .ok (.isub, 1) := by decide +kernel
theorem dL_act_878 : decode cL_act 878 = .ok (.if_icmp .ne 30, 3) := by decide +kernel
theorem dL_act_881 : decode cL_act 881 = .ok (.aload 11, 2) := by decide +kernel
theorem dL_act_883 : decode cL_act 883 = .ok (.iconst 2, 1) := by decide +kernel
theorem dL_act_884 : decode cL_act 884 = .ok (.iaload, 1) := by decide +kernel
theorem dL_act_885 : decode cL_act 885 = .ok (.aload 12, 2) := by decide +kernel
theorem dL_act_887 : decode cL_act 887 = .ok (.iconst 2, 1) := by decide +kernel
theorem dL_act_888 : decode cL_act 888 = .ok (.iaload, 1) := by decide +kernel
theorem dL_act_889 : decode cL_act 889 = .ok (.if_icmp .lt 19, 3) := by decide +kernel
theorem dL_act_892 : decode cL_act 892 = .ok (.aload_n 0, 1) := by decide +kernel
theorem dL_act_893 : decode cL_act 893 = .ok (.iload 7, 2) := by decide +kernel
theorem dL_act_895 : decode cL_act 895 = .ok (.invokevirtual 197, 3) := by decide +kernel
theorem dL_act_898 : decode cL_act 898 = .ok (.invokestatic 200, 3) := by decide +kernel
theorem dL_act_901 : decode cL_act 901 = .ok (.aload 12, 2) := by decide +kernel
theorem dL_act_903 : decode cL_act 903 = .ok (.iconst 1, 1) := by decide +kernel
theorem dL_act_904 : decode cL_act 904 = .ok (.iaload, 1) := by decide +kernel
theorem dL_act_905 : decode cL_act 905 = .ok (.if_icmp .lt 6, 3) := by decide +kernel
theorem dL_act_908 : decode cL_act 908 = .ok (.ldc 22, 2) := by decide +kernel
theorem dL_act_910 : decode cL_act 910 = .ok (.ireturn, 1) := by decide +kernel
theorem dL_act_911 : decode cL_act 911 = .ok (.aload 11, 2) := by decide +kernel
theorem dL_act_913 : decode cL_act 913 = .ok (.iconst 4, 1) := by decide +kernel
theorem dL_act_914 : decode cL_act 914 = .ok (.iload 7, 2) := by decide +kernel
theorem dL_act_916 : decode cL_act 916 = .ok (.iastore, 1) := by decide +kernel
theorem dL_act_917 : decode cL_act 917 = .ok (.aload_n 0, 1) := by decide +kernel
theorem dL_act_918 : decode cL_act 918 = .ok (.iload 7, 2) := by decide +kernel
theorem dL_act_920 : decode cL_act 920 = .ok (.invokevirtual 197, 3) := by decide +kernel
theorem dL_act_923 : decode cL_act 923 = .ok (.invokestatic 200, 3) := by decide +kernel
theorem dL_act_926 : decode cL_act 926 = .ok (.ireturn, 1) := by decide +kernel
theorem dL_act_927 : decode cL_act 927 = .ok (.iload 9, 2) := by decide +kernel
theorem dL_act_929 : decode cL_act 929 = .ok (.ifCond .ne 6, 3) := by decide +kernel
theorem dL_act_932 : decode cL_act 932 = .ok (.ldc 52, 2) := by decide +kernel
theorem dL_act_934 : decode cL_act 934 = .ok (.ireturn, 1) := by decide +kernel
theorem dL_act_935 : decode cL_act 935 = .ok (.aload_n 0, 1) := by decide +kernel
theorem dL_act_936 : decode cL_act 936 = .ok (.getfield 95, 3) := by decide +kernel
theorem dL_act_939 : decode cL_act 939 = .ok (.iload 4, 2) := by decide +kernel
theorem dL_act_941 : decode cL_act 941 = .ok (.invokevirtual 148, 3) := by decide +kernel
theorem dL_act_944 : decode cL_act 944 = .ok (.checkcast 173, 3) := by decide +kernel
theorem dL_act_947 : decode cL_act 947 = .ok (.iconst 4, 1) := by decide +kernel
theorem dL_act_948 : decode cL_act 948 = .ok (.iaload, 1) := by decide +kernel
theorem dL_act_949 : decode cL_act 949 = .ok (.istore 11, 2) := by decide +kernel
theorem dL_act_951 : decode cL_act 951 = .ok (.iload 11, 2) := by decide +kernel
theorem dL_act_953 : decode cL_act 953 = .ok (.iconst (-1), 1) := by decide +kernel
theorem dL_act_954 : decode cL_act 954 = .ok (.if_icmp .ne 6, 3) := by decide +kernel
theorem dL_act_957 : decode cL_act 957 = .ok (.ldc 22, 2) := by decide +kernel
theorem dL_act_959 : decode cL_act 959 = .ok (.ireturn, 1) := by decide +kernel
theorem dL_act_960 : decode cL_act 960 = .ok (.aload_n 0, 1) := by decide +kernel
theorem dL_act_961 : decode cL_act 961 = .ok (.getfield 95, 3) := by decide +kernel
theorem dL_act_964 : decode cL_act 964 = .ok (.iload 4, 2) := by decide +kernel
theorem dL_act_966 : decode cL_act 966 = .ok (.invokevirtual 148, 3) := by decide +kernel
theorem dL_act_969 : decode cL_act 969 = .ok (.checkcast 173, 3) := by decide +kernel
theorem dL_act_972 : decode cL_act 972 = .ok (.iconst 4, 1) := by decide +kernel
theorem dL_act_973 : decode cL_act 973 = .ok (.iconst (-1), 1) := by decide +kernel
theorem dL_act_974 : decode cL_act 974 = .ok (.iastore, 1) := by decide +kernel
theorem dL_act_975 : decode cL_act 975 = .ok (.iload 11, 2) := by decide +kernel
theorem dL_act_977 : decode cL_act 977 = .ok (.ireturn, 1) := by decide +kernel
theorem dL_act_978 : decode cL_act 978 = .ok (.iload 7, 2) := by decide +kernel
theorem dL_act_980 : decode cL_act 980 = .ok (.aload_n 0, 1) := by decide +kernel
theorem dL_act_981 : decode cL_act 981 = .ok (.getfield 115, 3) := by decide +kernel
theorem dL_act_984 : decode cL_act 984 = .ok (.invokevirtual 101, 3) := by decide +kernel
theorem dL_act_987 : decode cL_act 987 = .ok (.if_icmp .ne 6, 3) := by decide +kernel
theorem dL_act_990 : decode cL_act 990 = .ok (.ldc 52, 2) := by decide +kernel
theorem dL_act_992 : decode cL_act 992 = .ok (.ireturn, 1) := by decide +kernel
theorem dL_act_993 : decode cL_act 993 = .ok (.aload_n 0, 1) := by decide +kernel
theorem dL_act_994 : decode cL_act 994 = .ok (.iload 7, 2) := by decide +kernel
theorem dL_act_996 : decode cL_act 996 = .ok (.invokevirtual 197, 3) := by decide +kernel
theorem dL_act_999 : decode cL_act 999 = .ok (.istore 11, 2) := by decide +kernel
theorem dL_act_1001 : decode cL_act 1001 = .ok (.iconst 0, 1) := by decide +kernel
theorem dL_act_1002 : decode cL_act 1002 = .ok (.istore 12, 2) := by decide +kernel
theorem dL_act_1004 : decode cL_act 1004 = .ok (.iload 12, 2) := by decide +kernel
theorem dL_act_1006 : decode cL_act 1006 = .ok (.aload_n 0, 1) := by decide +kernel
theorem dL_act_1007 : decode cL_act 1007 = .ok (.getfield 95, 3) := by decide +kernel
theorem dL_act_1010 : decode cL_act 1010 = .ok (.invokevirtual 101, 3) := by decide +kernel
theorem dL_act_1013 : decode cL_act 1013 = .ok (.if_icmp .ge 69, 3) := by decide +kernel
theorem dL_act_1016 : decode cL_act 1016 = .ok (.aload_n 0, 1) := by decide +kernel
theorem dL_act_1017 : decode cL_act 1017 = .ok (.getfield 95, 3) := by decide +kernel
theorem dL_act_1020 : decode cL_act 1020 = .ok (.iload 12, 2) := by decide +kernel
theorem dL_act_1022 : decode cL_act 1022 = .ok (.invokevirtual 148, 3) := by decide +kernel
theorem dL_act_1025 : decode cL_act 1025 = .ok (.checkcast 173, 3) := by decide +kernel
theorem dL_act_1028 : decode cL_act 1028 = .ok (.astore 13, 2) := by decide +kernel
theorem dL_act_1030 : decode cL_act 1030 = .ok (.iload 11, 2) := by decide +kernel
theorem dL_act_1032 : decode cL_act 1032 = .ok (.iload 12, 2) := by decide +kernel
theorem dL_act_1034 : decode cL_act 1034 = .ok (.ishr, 1) := by decide +kernel
theorem dL_act_1035 : decode cL_act 1035 = .ok (.iconst 1, 1) := by decide +kernel
theorem dL_act_1036 : decode cL_act 1036 = .ok (.iand, 1) := by decide +kernel
theorem dL_act_1037 : decode cL_act 1037 = .ok (.ifCond .ne 6, 3) := by decide +kernel
theorem dL_act_1040 : decode cL_act 1040 = .ok (.goto 36, 3) := by decide +kernel
theorem dL_act_1043 : decode cL_act 1043 = .ok (.aload 13, 2) := by decide +kernel
theorem dL_act_1045 : decode cL_act 1045 = .ok (.iconst 4, 1) := by decide +kernel
theorem dL_act_1046 : decode cL_act 1046 = .ok (.iconst (-1), 1) := by decide +kernel
theorem dL_act_1047 : decode cL_act 1047 = .ok (.iastore, 1) := by decide +kernel
theorem dL_act_1048 : decode cL_act 1048 = .ok (.iload_n 2, 1) := by decide +kernel
theorem dL_act_1049 : decode cL_act 1049 = .ok (.iload 12, 2) := by decide +kernel
theorem dL_act_1051 : decode cL_act 1051 = .ok (.ishr, 1) := by decide +kernel
theorem dL_act_1052 : decode cL_act 1052 = .ok (.iconst 1, 1) := by decide +kernel
theorem dL_act_1053 : decode cL_act 1053 = .ok (.iand, 1) := by decide +kernel
theorem dL_act_1054 : decode cL_act 1054 = .ok (.iconst 1, 1) := by decide +kernel
theorem dL_act_1055 : decode cL_act 1055 = .ok (.if_icmp .ne 21, 3) := by decide +kernel
theorem dL_act_1058 : decode cL_act 1058 = .ok (.aload 13, 2) := by decide +kernel
theorem dL_act_1060 : decode cL_act 1060 = .ok (.iconst 1, 1) := by decide +kernel
theorem dL_act_1061 : decode cL_act 1061 = .ok (.aload_n 0, 1) := by decide +kernel
theorem dL_act_1062 : decode cL_act 1062 = .ok (.getfield 115, 3) := by decide +kernel
theorem dL_act_1065 : decode cL_act 1065 = .ok (.iload 7, 2) := by decide +kernel
theorem dL_act_1067 : decode cL_act 1067 = .ok (.invokevirtual 148, 3) := by decide +kernel
theorem dL_act_1070 : decode cL_act 1070 = .ok (.checkcast 173, 3) := by decide +kernel
theorem dL_act_1073 : decode cL_act 1073 = .ok (.iconst 0, 1) := by decide +kernel
theorem dL_act_1074 : decode cL_act 1074 = .ok (.iaload, 1) := by decide +kernel
theorem dL_act_1075 : decode cL_act 1075 = .ok (.iastore, 1) := by decide +kernel
theorem dL_act_1076 : decode cL_act 1076 = .ok (.iinc 12 1, 3) := by decide +kernel
theorem dL_act_1079 : decode cL_act 1079 = .ok (.goto (-75), 3) := by decide +kernel
theorem dL_act_1082 : decode cL_act 1082 = .ok (.iload 11, 2) := by decide +kernel
theorem dL_act_1084 : decode cL_act 1084 = .ok (.iload_n 2, 1) := by decide +kernel
theorem dL_act_1085 : decode cL_act 1085 = .ok (.iand, 1) := by decide +kernel
theorem dL_act_1086 : decode cL_act 1086 = .ok (.invokestatic 200, 3) := by decide +kernel
theorem dL_act_1089 : decode cL_act 1089 = .ok (.ireturn, 1) := by decide +kernel
theorem dL_act_1090 : decode cL_act 1090 = .ok (.iload_n 3, 1) := by decide +kernel
theorem dL_act_1091 : decode cL_act 1091 = .ok (.iconst 1, 1) := by decide +kernel
theorem dL_act_1092 : decode cL_act 1092 = .ok (.bipush 14, 2) := by decide +kernel
theorem dL_act_1094 : decode cL_act 1094 = .ok (.invokestatic 121, 3) := by decide +kernel
theorem dL_act_1097 : decode cL_act 1097 = .ok (.istore 11, 2) := by decide +kernel
theorem dL_act_1099 : decode cL_act 1099 = .ok (.iload 8, 2) := by decide +kernel
theorem dL_act_1101 : decode cL_act 1101 = .ok (.aload_n 0, 1) := by decide +kernel
theorem dL_act_1102 : decode cL_act 1102 = .ok (.getfield 118, 3) := by decide +kernel
theorem dL_act_1105 : decode cL_act 1105 = .ok (.invokevirtual 101, 3) := by decide +kernel
theorem dL_act_1108 : decode cL_act 1108 = .ok (.if_icmp .ne 6, 3) := by decide +kernel
theorem dL_act_1111 : decode cL_act 1111 = .ok (.ldc 52, 2) := by decide +kernel
theorem dL_act_1113 : decode cL_act 1113 = .ok (.ireturn, 1) := by decide +kernel
theorem dL_act_1114 : decode cL_act 1114 = .ok (.iload 11, 2) := by decide +kernel
theorem dL_act_1116 : decode cL_act 1116 = .ok (.iconst 1, 1) := by decide +kernel
theorem dL_act_1117 : decode cL_act 1117 = .ok (.bipush 14, 2) := by decide +kernel
theorem dL_act_1119 : decode cL_act 1119 = .ok (.invokestatic 124, 3) := by decide +kernel
theorem dL_act_1122 : decode cL_act 1122 = .ok (.ifCond .ne 6, 3) := by decide +kernel
theorem dL_act_1125 : decode cL_act 1125 = .ok (.ldc 29, 2) := by decide +kernel
theorem dL_act_1127 : decode cL_act 1127 = .ok (.ireturn, 1) := by decide +kernel
theorem dL_act_1128 : decode cL_act 1128 = .ok (.aload_n 0, 1) := by decide +kernel
theorem dL_act_1129 : decode cL_act 1129 = .ok (.getfield 118, 3) := by decide +kernel
theorem dL_act_1132 : decode cL_act 1132 = .ok (.iload 8, 2) := by decide +kernel
theorem dL_act_1134 : decode cL_act 1134 = .ok (.invokevirtual 148, 3) := by decide +kernel
theorem dL_act_1137 : decode cL_act 1137 = .ok (.checkcast 173, 3) := by decide +kernel
theorem dL_act_1140 : decode cL_act 1140 = .ok (.iconst 3, 1) := by decide +kernel
theorem dL_act_1141 : decode cL_act 1141 = .ok (.dup2, 1) := by decide +kernel
theorem dL_act_1142 : decode cL_act 1142 = .ok (.iaload, 1) := by decide +kernel
theorem dL_act_1143 : decode cL_act 1143 = .ok (.iload 11, 2) := by decide +kernel
theorem dL_act_1145 : decode cL_act 1145 = .ok (.iadd, 1) := by decide +kernel
theorem dL_act_1146 : decode cL_act 1146 = .ok (.iastore, 1) := by decide +kernel
theorem dL_act_1147 : decode cL_act 1147 = .ok (.aload_n 0, 1) := by decide +kernel
theorem dL_act_1148 : decode cL_act 1148 = .ok (.getfield 118, 3) := by decide +kernel
theorem dL_act_1151 : decode cL_act 1151 = .ok (.iload 8, 2) := by decide +kernel
theorem dL_act_1153 : decode cL_act 1153 = .ok (.invokevirtual 148, 3) := by decide +kernel
theorem dL_act_1156 : decode cL_act 1156 = .ok (.checkcast 173, 3) := by decide +kernel
theorem dL_act_1159 : decode cL_act 1159 = .ok (.iconst 3, 1) := by decide +kernel
theorem dL_act_1160 : decode cL_act 1160 = .ok (.iaload, 1) := by decide +kernel
theorem dL_act_1161 : decode cL_act 1161 = .ok (.ireturn, 1) := by decide +kernel
theorem dL_act_1162 : decode cL_act 1162 = .ok (.iload_n 3, 1) := by decide +kernel
theorem dL_act_1163 : decode cL_act 1163 = .ok (.iconst 1, 1) := by decide +kernel
theorem dL_act_1164 : decode cL_act 1164 = .ok (.iload_n 2, 1) := by decide +kernel
theorem dL_act_1165 : decode cL_act 1165 = .ok (.iconst 4, 1) := by decide +kernel
theorem dL_act_1166 : decode cL_act 1166 = .ok (.irem, 1) := by decide +kernel
theorem dL_act_1167 : decode cL_act 1167 = .ok (.ifCond .ne 8, 3) := by decide +kernel
theorem dL_act_1170 : decode cL_act 1170 = .ok (.bipush 60, 2) := by decide +kernel
theorem dL_act_1172 : decode cL_act 1172 = .ok (.goto 4, 3) := by decide +kernel
theorem dL_act_1175 : decode cL_act 1175 = .ok (.iconst 5, 1) := by decide +kernel
theorem dL_act_1176 : decode cL_act 1176 = .ok (.invokestatic 121, 3) := by decide +kernel
theorem dL_act_1179 : decode cL_act 1179 = .ok (.istore 11, 2) := by decide +kernel
theorem dL_act_1181 : decode cL_act 1181 = .ok (.iload 11, 2) := by decide +kernel
theorem dL_act_1183 : decode cL_act 1183 = .ok (.iconst 1, 1) := by decide +kernel
theorem dL_act_1184 : decode cL_act 1184 = .ok (.if_icmp .lt 10, 3) := by decide +kernel
theorem dL_act_1187 : decode cL_act 1187 = .ok (.iload 11, 2) := by decide +kernel
theorem dL_act_1189 : decode cL_act 1189 = .ok (.bipush 60, 2) := by decide +kernel
theorem dL_act_1191 : decode cL_act 1191 = .ok (.if_icmp .le 8, 3) := by decide +kernel
theorem dL_act_1194 : decode cL_act 1194 = .ok (.ldc 29, 2) := by decide +kernel
theorem dL_act_1196 : decode cL_act 1196 = .ok (.goto 9, 3) := by decide +kernel
theorem dL_act_1199 : decode cL_act 1199 = .ok (.aload_n 0, 1) := by decide +kernel
theorem dL_act_1200 : decode cL_act 1200 = .ok (.iload 11, 2) := by decide +kernel
theorem dL_act_1202 : decode cL_act 1202 = .ok (.invokevirtual 203, 3) := by decide +kernel
theorem dL_act_1205 : decode cL_act 1205 = .ok (.ireturn, 1) := by decide +kernel
theorem dL_call_0 : decode cL_call 0 = .ok (.iload_n 3, 1) := by decide +kernel
theorem dL_call_1 : decode cL_call 1 = .ok (.bipush 64, 2) := by decide +kernel
theorem dL_call_3 : decode cL_call 3 = .ok (.idiv, 1) := by decide +kernel
theorem dL_call_4 : decode cL_call 4 = .ok (.istore 4, 2) := by decide +kernel
theorem dL_call_6 : decode cL_call 6 = .ok (.iload_n 3, 1) := by decide +kernel
theorem dL_call_7 : decode cL_call 7 = .ok (.aload_n 1, 1) := by decide +kernel
theorem dL_call_8 : decode cL_call 8 = .ok (.getfield 95, 3) := by decide +kernel
theorem dL_call_11 : decode cL_call 11 = .ok (.invokevirtual 101, 3) := by decide +kernel
theorem dL_call_14 : decode cL_call 14 = .ok (.invokestatic 106, 3) := by decide +kernel
theorem dL_call_17 : decode cL_call 17 = .ok (.istore 5, 2) := by decide +kernel
theorem dL_call_19 : decode cL_call 19 = .ok (.iload 4, 2) := by decide +kernel
theorem dL_call_21 : decode cL_call 21 = .ok (.aload_n 1, 1) := by decide +kernel
theorem dL_call_22 : decode cL_call 22 = .ok (.getfield 109, 3) := by decide +kernel
theorem dL_call_25 : decode cL_call 25 = .ok (.invokevirtual 101, 3) := by decide +kernel
theorem dL_call_28 : decode cL_call 28 = .ok (.invokestatic 106, 3) := by decide +kernel
theorem dL_call_31 : decode cL_call 31 = .ok (.istore 6, 2) := by decide +kernel
theorem dL_call_33 : decode cL_call 33 = .ok (.iload 4, 2) := by decide +kernel
theorem dL_call_35 : decode cL_call 35 = .ok (.aload_n 1, 1) := by decide +kernel
theorem dL_call_36 : decode cL_call 36 = .ok (.getfield 112, 3) := by decide +kernel
theorem dL_call_39 : decode cL_call 39 = .ok (.invokevirtual 101, 3) := by decide +kernel
theorem dL_call_42 : decode cL_call 42 = .ok (.invokestatic 106, 3) := by decide +kernel
theorem dL_call_45 : decode cL_call 45 = .ok (.istore 7, 2) := by decide +kernel
theorem dL_call_47 : decode cL_call 47 = .ok (.iload 4, 2) := by decide +kernel
theorem dL_call_49 : decode cL_call 49 = .ok (.aload_n 1, 1) := by decide +kernel
theorem dL_call_50 : decode cL_call 50 = .ok (.getfield 115, 3) := by decide +kernel
theorem dL_call_53 : decode cL_call 53 = .ok (.invokevirtual 101, 3) := by decide +kernel
theorem dL_call_56 : decode cL_call 56 = .ok (.invokestatic 106, 3) := by decide +kernel
theorem dL_call_59 : decode cL_call 59 = .ok (.istore 8, 2) := by decide +kernel
theorem dL_call_61 : decode cL_call 61 = .ok (.iload_n 3, 1) := by decide +kernel
theorem dL_call_62 : decode cL_call 62 = .ok (.aload_n 1, 1) := by decide +kernel
theorem dL_call_63 : decode cL_call 63 = .ok (.getfield 118, 3) := by decide +kernel
theorem dL_call_66 : decode cL_call 66 = .ok (.invokevirtual 101, 3) := by decide +kernel
theorem dL_call_69 : decode cL_call 69 = .ok (.invokestatic 106, 3) := by decide +kernel
theorem dL_call_72 : decode cL_call 72 = .ok (.istore 9, 2) := by decide +kernel
theorem dL_call_74 : decode cL_call 74 = .ok (.iload_n 2, 1) := by decide +kernel
theorem dL_call_75 : decode cL_call 75 = .ok (.tableswitch 221 0 20 #[97, 97, 97, 97, 112, 119, 119, 119, 119, 128, 128, 148, 148, 148, 157, 164, 182, 182, 191, 198, 206], 97) := by decide +kernel
theorem dL_call_172 : decode cL_call 172 = .ok (.aload_n 0, 1) := by decide +kernel
theorem dL_call_173 : decode cL_call 173 = .ok (.iload 9, 2) := by decide +kernel
theorem dL_call_175 : decode cL_call 175 = .ok (.iload 4, 2) := by decide +kernel
theorem dL_call_177 : decode cL_call 177 = .ok (.iconst 0, 1) := by decide +kernel
theorem dL_call_178 : decode cL_call 178 = .ok (.bipush 29, 2) := by decide +kernel
theorem dL_call_180 : decode cL_call 180 = .ok (.invokestatic 121, 3) := by decide +kernel
theorem dL_call_183 : decode cL_call 183 = .ok (.invokestatic 206, 3) := by decide +kernel
theorem dL_call_186 : decode cL_call 186 = .ok (.ireturn, 1) := by decide +kernel
theorem dL_call_187 : decode cL_call 187 = .ok (.aload_n 0, 1) := by decide +kernel
theorem dL_call_188 : decode cL_call 188 = .ok (.iload 6, 2) := by decide +kernel
theorem dL_call_190 : decode cL_call 190 = .ok (.invokestatic 209, 3) := by decide +kernel
theorem dL_call_193 : decode cL_call 193 = .ok (.ireturn, 1) := by decide +kernel
theorem dL_call_194 : decode cL_call 194 = .ok (.aload_n 0, 1) := by decide +kernel
theorem dL_call_195 : decode cL_call 195 = .ok (.iload 5, 2) := by decide +kernel
theorem dL_call_197 : decode cL_call 197 = .ok (.iload 6, 2) := by decide +kernel
theorem dL_call_199 : decode cL_call 199 = .ok (.invokestatic 211, 3) := by decide +kernel
theorem dL_call_202 : decode cL_call 202 = .ok (.ireturn, 1) := by decide +kernel
theorem dL_call_203 : decode cL_call 203 = .ok (.aload_n 0, 1) := by decide +kernel
theorem dL_call_204 : decode cL_call 204 = .ok (.iload 5, 2) := by decide +kernel
theorem dL_call_206 : decode cL_call 206 = .ok (.iload 6, 2) := by decide +kernel
theorem dL_call_208 : decode cL_call 208 = .ok (.iload 4, 2) := by decide +kernel
theorem dL_call_210 : decode cL_call 210 = .ok (.bipush 7, 2) := by decide +kernel
theorem dL_call_212 : decode cL_call 212 = .ok (.idiv, 1) := by decide +kernel
theorem dL_call_213 : decode cL_call 213 = .ok (.iconst 0, 1) := by decide +kernel
theorem dL_call_214 : decode cL_call 214 = .ok (.bipush 29, 2) := by decide +kernel
theorem dL_call_216 : decode cL_call 216 = .ok (.invokestatic 121, 3) := by decide +kernel
theorem dL_call_219 : decode cL_call 219 = .ok (.invokestatic 213, 3) := by decide +kernel
theorem dL_call_222 : decode cL_call 222 = .ok (.ireturn, 1) := by decide +kernel
theorem dL_call_223 : decode cL_call 223 = .ok (.aload_n 0, 1) := by decide +kernel
theorem dL_call_224 : decode cL_call 224 = .ok (.iload 5, 2) := by decide +kernel
theorem dL_call_226 : decode cL_call 226 = .ok (.iload 7, 2) := by decide +kernel
theorem dL_call_228 : decode cL_call 228 = .ok (.invokestatic 216, 3) := by decide +kernel
theorem dL_call_231 : decode cL_call 231 = .ok (.ireturn, 1) := by decide +kernel
theorem dL_call_232 : decode cL_call 232 = .ok (.aload_n 0, 1) := by decide +kernel
theorem dL_call_233 : decode cL_call 233 = .ok (.iload 5, 2) := by decide +kernel
theorem dL_call_235 : decode cL_call 235 = .ok (.invokestatic 218, 3) := by decide +kernel
theorem dL_call_238 : decode cL_call 238 = .ok (.ireturn, 1) := by decide +kernel
theorem dL_call_239 : decode cL_call 239 = .ok (.aload_n 0, 1) := by decide +kernel
theorem dL_call_240 : decode cL_call 240 = .ok (.iload 7, 2) := by decide +kernel
theorem dL_call_242 : decode cL_call 242 = .ok (.iload_n 3, 1) := by decide +kernel
theorem dL_call_243 : decode cL_call 243 = .ok (.iconst 5, 1) := by decide +kernel
theorem dL_call_244 : decode cL_call 244 = .ok (.irem, 1) := by decide +kernel
theorem dL_call_245 : decode cL_call 245 = .ok (.ifCond .le 7, 3) := by decide +kernel
theorem dL_call_248 : decode cL_call 248 = .ok (.iconst 1, 1) := by decide +kernel
theorem dL_call_249 : decode cL_call 249 = .ok (.goto 4, 3) := by decide +kernel
theorem dL_call_252 : decode cL_call 252 = .ok (.iconst 0, 1) := by decide +kernel
theorem dL_call_253 : decode cL_call 253 = .ok (.invokestatic 220, 3) := by decide +kernel
theorem dL_call_256 : decode cL_call 256 = .ok (.ireturn, 1) := by decide +kernel
theorem dL_call_257 : decode cL_call 257 = .ok (.aload_n 0, 1) := by decide +kernel
theorem dL_call_258 : decode cL_call 258 = .ok (.iload 5, 2) := by decide +kernel
theorem dL_call_260 : decode cL_call 260 = .ok (.iload 8, 2) := by decide +kernel
theorem dL_call_262 : decode cL_call 262 = .ok (.invokestatic 223, 3) := by decide +kernel
theorem dL_call_265 : decode cL_call 265 = .ok (.ireturn, 1) := by decide +kernel
theorem dL_call_266 : decode cL_call 266 = .ok (.aload_n 0, 1) := by decide +kernel
theorem dL_call_267 : decode cL_call 267 = .ok (.iload 5, 2) := by decide +kernel
theorem dL_call_269 : decode cL_call 269 = .ok (.invokestatic 225, 3) := by decide +kernel
theorem dL_call_272 : decode cL_call 272 = .ok (.ireturn, 1) := by decide +kernel
theorem dL_call_273 : decode cL_call 273 = .ok (.aload_n 0, 1) := by decide +kernel
theorem dL_call_274 : decode cL_call 274 = .ok (.iload 8, 2) := by decide +kernel
theorem dL_call_276 : decode cL_call 276 = .ok (.iload_n 3, 1) := by decide +kernel
theorem dL_call_277 : decode cL_call 277 = .ok (.invokestatic 227, 3) := by decide +kernel
theorem dL_call_280 : decode cL_call 280 = .ok (.ireturn, 1) := by decide +kernel
theorem dL_call_281 : decode cL_call 281 = .ok (.aload_n 0, 1) := by decide +kernel
theorem dL_call_282 : decode cL_call 282 = .ok (.iload 9, 2) := by decide +kernel
theorem dL_call_284 : decode cL_call 284 = .ok (.iload 4, 2) := by decide +kernel
theorem dL_call_286 : decode cL_call 286 = .ok (.iconst 1, 1) := by decide +kernel
theorem dL_call_287 : decode cL_call 287 = .ok (.bipush 14, 2) := by decide +kernel
theorem dL_call_289 : decode cL_call 289 = .ok (.invokestatic 121, 3) := by decide +kernel
theorem dL_call_292 : decode cL_call 292 = .ok (.invokestatic 229, 3) := by decide +kernel
theorem dL_call_295 : decode cL_call 295 = .ok (.ireturn, 1) := by decide +kernel
theorem dL_call_296 : decode cL_call 296 = .ok (.aload_n 0, 1) := by decide +kernel
theorem dL_call_297 : decode cL_call 297 = .ok (.iload 4, 2) := by decide +kernel
theorem dL_call_299 : decode cL_call 299 = .ok (.iconst 1, 1) := by decide +kernel
theorem dL_call_300 : decode cL_call 300 = .ok (.iload_n 3, 1) := by decide +kernel
theorem dL_call_301 : decode cL_call 301 = .ok (.iconst 4, 1) := by decide +kernel
theorem dL_call_302 : decode cL_call 302 = .ok (.irem, 1) := by decide +kernel
theorem dL_call_303 : decode cL_call 303 = .ok (.ifCond .ne 8, 3) := by decide +kernel
theorem dL_call_306 : decode cL_call 306 = .ok (.bipush 60, 2) := by decide +kernel
theorem dL_call_308 : decode cL_call 308 = .ok (.goto 4, 3) := by decide +kernel
theorem dL_call_311 : decode cL_call 311 = .ok (.iconst 5, 1) := by decide +kernel
theorem dL_call_312 : decode cL_call 312 = .ok (.invokestatic 121, 3) := by decide +kernel
theorem dL_call_315 : decode cL_call 315 = .ok (.invokestatic 231, 3) := by decide +kernel
theorem dL_call_318 : decode cL_call 318 = .ok (.ireturn, 1) := by decide +kernel
theorem dL_law_0 : decode cL_law 0 = .ok (.new 15, 3) := by decide +kernel
theorem dL_law_3 : decode cL_law 3 = .ok (.dup, 1) := by decide +kernel
theorem dL_law_4 : decode cL_law 4 = .ok (.invokespecial 233, 3) := by decide +kernel
theorem dL_law_7 : decode cL_law 7 = .ok (.astore_n 1, 1) := by decide +kernel
theorem dL_law_8 : decode cL_law 8 = .ok (.aload_n 1, 1) := by decide +kernel
theorem dL_law_9 : decode cL_law 9 = .ok (.invokestatic 234, 3) := by decide +kernel
theorem dL_law_12 : decode cL_law 12 = .ok (.ldc 22, 2) := by decide +kernel
theorem dL_law_14 : decode cL_law 14 = .ok (.if_icmp .ne 42, 3) := by decide +kernel
theorem dL_law_17 : decode cL_law 17 = .ok (.aload_n 1, 1) := by decide +kernel
theorem dL_law_18 : decode cL_law 18 = .ok (.invokestatic 237, 3) := by decide +kernel
theorem dL_law_21 : decode cL_law 21 = .ok (.ldc 22, 2) := by decide +kernel
theorem dL_law_23 : decode cL_law 23 = .ok (.if_icmp .ne 33, 3) := by decide +kernel
theorem dL_law_26 : decode cL_law 26 = .ok (.aload_n 1, 1) := by decide +kernel
theorem dL_law_27 : decode cL_law 27 = .ok (.invokestatic 239, 3) := by decide +kernel
theorem dL_law_30 : decode cL_law 30 = .ok (.ldc 29, 2) := by decide +kernel
theorem dL_law_32 : decode cL_law 32 = .ok (.if_icmp .ne 24, 3) := by decide +kernel
theorem dL_law_35 : decode cL_law 35 = .ok (.aload_n 1, 1) := by decide +kernel
theorem dL_law_36 : decode cL_law 36 = .ok (.iconst 0, 1) := by decide +kernel
theorem dL_law_37 : decode cL_law 37 = .ok (.iconst 0, 1) := by decide +kernel
theorem dL_law_38 : decode cL_law 38 = .ok (.invokestatic 211, 3) := by decide +kernel
theorem dL_law_41 : decode cL_law 41 = .ok (.ldc 52, 2) := by decide +kernel
theorem dL_law_43 : decode cL_law 43 = .ok (.if_icmp .ne 13, 3) := by decide +kernel
theorem dL_law_46 : decode cL_law 46 = .ok (.invokestatic 241, 3) := by decide +kernel
theorem dL_law_49 : decode cL_law 49 = .ok (.aload_n 1, 1) := by decide +kernel
theorem dL_law_50 : decode cL_law 50 = .ok (.invokevirtual 245, 3) := by decide +kernel
theorem dL_law_53 : decode cL_law 53 = .ok (.ifCond .ne 5, 3) := by decide +kernel
theorem dL_law_56 : decode cL_law 56 = .ok (.iconst 0, 1) := by decide +kernel
theorem dL_law_57 : decode cL_law 57 = .ok (.ireturn, 1) := by decide +kernel
theorem dL_law_58 : decode cL_law 58 = .ok (.aload_n 0, 1) := by decide +kernel
theorem dL_law_59 : decode cL_law 59 = .ok (.invokestatic 249, 3) := by decide +kernel
theorem dL_law_62 : decode cL_law 62 = .ok (.astore_n 2, 1) := by decide +kernel
theorem dL_law_63 : decode cL_law 63 = .ok (.aload_n 1, 1) := by decide +kernel
theorem dL_law_64 : decode cL_law 64 = .ok (.aload_n 2, 1) := by decide +kernel
theorem dL_law_65 : decode cL_law 65 = .ok (.invokevirtual 253, 3) := by decide +kernel
theorem dL_law_68 : decode cL_law 68 = .ok (.invokestatic 257, 3) := by decide +kernel
theorem dL_law_71 : decode cL_law 71 = .ok (.ifCond .eq 33, 3) := by decide +kernel
theorem dL_law_74 : decode cL_law 74 = .ok (.aload_n 1, 1) := by decide +kernel
theorem dL_law_75 : decode cL_law 75 = .ok (.invokevirtual 261, 3) := by decide +kernel
theorem dL_law_78 : decode cL_law 78 = .ok (.iconst (-1), 1) := by decide +kernel
theorem dL_law_79 : decode cL_law 79 = .ok (.if_icmp .ne 25, 3) := by decide +kernel
theorem dL_law_82 : decode cL_law 82 = .ok (.aload_n 1, 1) := by decide +kernel
theorem dL_law_83 : decode cL_law 83 = .ok (.invokestatic 239, 3) := by decide +kernel
theorem dL_law_86 : decode cL_law 86 = .ok (.aload_n 2, 1) := by decide +kernel
theorem dL_law_87 : decode cL_law 87 = .ok (.getfield 118, 3) := by decide +kernel
theorem dL_law_90 : decode cL_law 90 = .ok (.invokevirtual 101, 3) := by decide +kernel
theorem dL_law_93 : decode cL_law 93 = .ok (.if_icmp .ne 11, 3) := by decide +kernel
theorem dL_law_96 : decode cL_law 96 = .ok (.aload_n 2, 1) := by decide +kernel
theorem dL_law_97 : decode cL_law 97 = .ok (.aload_n 1, 1) := by decide +kernel
theorem dL_law_98 : decode cL_law 98 = .ok (.invokevirtual 245, 3) := by decide +kernel
theorem dL_law_101 : decode cL_law 101 = .ok (.ifCond .ne 5, 3) := by decide +kernel
theorem dL_law_104 : decode cL_law 104 = .ok (.iconst 0, 1) := by decide +kernel
theorem dL_law_105 : decode cL_law 105 = .ok (.ireturn, 1) := by decide +kernel
theorem dL_law_106 : decode cL_law 106 = .ok (.new 102, 3) := by decide +kernel
theorem dL_law_109 : decode cL_law 109 = .ok (.dup, 1) := by decide +kernel
theorem dL_law_110 : decode cL_law 110 = .ok (.invokespecial 264, 3) := by decide +kernel
theorem dL_law_113 : decode cL_law 113 = .ok (.astore_n 3, 1) := by decide +kernel
theorem dL_law_114 : decode cL_law 114 = .ok (.aconst_null, 1) := by decide +kernel
theorem dL_law_115 : decode cL_law 115 = .ok (.astore 4, 2) := by decide +kernel
theorem dL_law_117 : decode cL_law 117 = .ok (.iconst 0, 1) := by decide +kernel
theorem dL_law_118 : decode cL_law 118 = .ok (.istore 5, 2) := by decide +kernel
theorem dL_law_120 : decode cL_law 120 = .ok (.iload 5, 2) := by decide +kernel
theorem dL_law_122 : decode cL_law 122 = .ok (.bipush 70, 2) := by decide +kernel
theorem dL_law_124 : decode cL_law 124 = .ok (.if_icmp .ge 297, 3) := by decide +kernel
theorem dL_law_127 : decode cL_law 127 = .ok (.aload_n 0, 1) := by decide +kernel
theorem dL_law_128 : decode cL_law 128 = .ok (.iconst 3, 1) := by decide +kernel
theorem dL_law_129 : decode cL_law 129 = .ok (.iload 5, 2) := by decide +kernel
theorem dL_law_131 : decode cL_law 131 = .ok (.bipush 40, 2) := by decide +kernel
theorem dL_law_133 : decode cL_law 133 = .ok (.irem, 1) := by decide +kernel
theorem dL_law_134 : decode cL_law 134 = .ok (.iadd, 1) := by decide +kernel
theorem dL_law_135 : decode cL_law 135 = .ok (.ldc_w 265, 3) := by decide +kernel
theorem dL_law_138 : decode cL_law 138 = .ok (.invokestatic 266, 3) := by decide +kernel
theorem dL_law_141 : decode cL_law 141 = .ok (.sipush 983, 3) := by decide +kernel
theorem dL_law_144 : decode cL_law 144 = .ok (.iload 5, 2) := by decide +kernel
theorem dL_law_146 : decode cL_law 146 = .ok (.imul, 1) := by decide +kernel
theorem dL_law_147 : decode cL_law 147 = .ok (.iadd, 1) := by decide +kernel
theorem dL_law_148 : decode cL_law 148 = .ok (.istore 6, 2) := by decide +kernel
theorem dL_law_150 : decode cL_law 150 = .ok (.iload 6, 2) := by decide +kernel
theorem dL_law_152 : decode cL_law 152 = .ok (.bipush 13, 2) := by decide +kernel
theorem dL_law_154 : decode cL_law 154 = .ok (.irem, 1) := by decide +kernel
theorem dL_law_155 : decode cL_law 155 = .ok (.ifCond .ne 148, 3) := by decide +kernel
theorem dL_law_158 : decode cL_law 158 = .ok (.iload 6, 2) := by decide +kernel
theorem dL_law_160 : decode cL_law 160 = .ok (.bipush 13, 2) := by decide +kernel
theorem dL_law_162 : decode cL_law 162 = .ok (.idiv, 1) := by decide +kernel
theorem dL_law_163 : decode cL_law 163 = .ok (.iconst 4, 1) := by decide +kernel
theorem dL_law_164 : decode cL_law 164 = .ok (.irem, 1) := by decide +kernel
theorem dL_law_165 : decode cL_law 165 = .ok (.iconst 2, 1) := by decide +kernel
theorem dL_law_166 : decode cL_law 166 = .ok (.if_icmp .ge 54, 3) := by decide +kernel
theorem dL_law_169 : decode cL_law 169 = .ok (.aload_n 1, 1) := by decide +kernel
theorem dL_law_170 : decode cL_law 170 = .ok (.invokestatic 234, 3) := by decide +kernel
theorem dL_law_173 : decode cL_law 173 = .ok (.aload_n 3, 1) := by decide +kernel
theorem dL_law_174 : decode cL_law 174 = .ok (.invokevirtual 270, 3) := by decide +kernel
theorem dL_law_177 : decode cL_law 177 = .ok (.ifCond .eq 8, 3) := by decide +kernel
theorem dL_law_180 : decode cL_law 180 = .ok (.ldc 22, 2) := by decide +kernel
theorem dL_law_182 : decode cL_law 182 = .ok (.goto 9, 3) := by decide +kernel
theorem dL_law_185 : decode cL_law 185 = .ok (.aload_n 3, 1) := by decide +kernel
theorem dL_law_186 : decode cL_law 186 = .ok (.invokevirtual 101, 3) := by decide +kernel
theorem dL_law_189 : decode cL_law 189 = .ok (.iconst 1, 1) := by decide +kernel
theorem dL_law_190 : decode cL_law 190 = .ok (.isub, 1) := by decide +kernel
theorem dL_law_191 : decode cL_law 191 = .ok (.if_icmp .eq 5, 3) := by decide +kernel
theorem dL_law_194 : decode cL_law 194 = .ok (.iconst 0, 1) := by decide +kernel
theorem dL_law_195 : decode cL_law 195 = .ok (.ireturn, 1) := by decide +kernel
theorem dL_law_196 : decode cL_law 196 = .ok (.aload_n 3, 1) := by decide +kernel
theorem dL_law_197 : decode cL_law 197 = .ok (.invokevirtual 270, 3) := by decide +kernel
theorem dL_law_200 : decode cL_law 200 = .ok (.ifCond .ne 194, 3) := by decide +kernel
theorem dL_law_203 : decode cL_law 203 = .ok (.aload_n 3, 1) := by decide +kernel
theorem dL_law_204 : decode cL_law 204 = .ok (.aload_n 3, 1) := by decide +kernel
theorem dL_law_205 : decode cL_law 205 = .ok (.invokevirtual 101, 3) := by decide +kernel
theorem dL_law_208 : decode cL_law 208 = .ok (.iconst 1, 1) := by decide +kernel
theorem dL_law_209 : decode cL_law 209 = .ok (.isub, 1) := by decide +kernel
theorem dL_law_210 : decode cL_law 210 = .ok (.invokevirtual 274, 3) := by decide +kernel
theorem dL_law_213 : decode cL_law 213 = .ok (.checkcast 96, 3) := by decide +kernel
theorem dL_law_216 : decode cL_law 216 = .ok (.astore_n 2, 1) := by decide +kernel
theorem dL_law_217 : decode cL_law 217 = .ok (.goto 177, 3) := by decide +kernel
theorem dL_law_220 : decode cL_law 220 = .ok (.iload 6, 2) := by decide +kernel
theorem dL_law_222 : decode cL_law 222 = .ok (.bipush 13, 2) := by decide +kernel
theorem dL_law_224 : decode cL_law 224 = .ok (.idiv, 1) := by decide +kernel
theorem dL_law_225 : decode cL_law 225 = .ok (.iconst 4, 1) := by decide +kernel
theorem dL_law_226 : decode cL_law 226 = .ok (.irem, 1) := by decide +kernel
theorem dL_law_227 : decode cL_law 227 = .ok (.iconst 2, 1) := by decide +kernel
theorem dL_law_228 : decode cL_law 228 = .ok (.if_icmp .ne 29, 3) := by decide +kernel
theorem dL_law_231 : decode cL_law 231 = .ok (.aload_n 1, 1) := by decide +kernel
theorem dL_law_232 : decode cL_law 232 = .ok (.invokevirtual 277, 3) := by decide +kernel
theorem dL_law_235 : decode cL_law 235 = .ok (.aload_n 2, 1) := by decide +kernel
theorem dL_law_236 : decode cL_law 236 = .ok (.getfield 137, 3) := by decide +kernel
theorem dL_law_239 : decode cL_law 239 = .ok (.if_icmp .eq 5, 3) := by decide +kernel
theorem dL_law_242 : decode cL_law 242 = .ok (.iconst 0, 1) := by decide +kernel
theorem dL_law_243 : decode cL_law 243 = .ok (.ireturn, 1) := by decide +kernel
theorem dL_law_244 : decode cL_law 244 = .ok (.new 96, 3) := by decide +kernel
theorem dL_law_247 : decode cL_law 247 = .ok (.dup, 1) := by decide +kernel
theorem dL_law_248 : decode cL_law 248 = .ok (.aload_n 2, 1) := by decide +kernel
theorem dL_law_249 : decode cL_law 249 = .ok (.invokespecial 280, 3) := by decide +kernel
theorem dL_law_252 : decode cL_law 252 = .ok (.astore 4, 2) := by decide +kernel
theorem dL_law_254 : decode cL_law 254 = .ok (.goto 140, 3) := by decide +kernel
theorem dL_law_257 : decode cL_law 257 = .ok (.aload_n 1, 1) := by decide +kernel
theorem dL_law_258 : decode cL_law 258 = .ok (.invokestatic 237, 3) := by decide +kernel
theorem dL_law_261 : decode cL_law 261 = .ok (.aload 4, 2) := by decide +kernel
theorem dL_law_263 : decode cL_law 263 = .ok (.ifnonnull 8, 3) := by decide +kernel
theorem dL_law_266 : decode cL_law 266 = .ok (.ldc 22, 2) := by decide +kernel
theorem dL_law_268 : decode cL_law 268 = .ok (.goto 8, 3) := by decide +kernel
theorem dL_law_271 : decode cL_law 271 = .ok (.aload 4, 2) := by decide +kernel
theorem dL_law_273 : decode cL_law 273 = .ok (.getfield 137, 3) := by decide +kernel
theorem dL_law_276 : decode cL_law 276 = .ok (.if_icmp .eq 5, 3) := by decide +kernel
theorem dL_law_279 : decode cL_law 279 = .ok (.iconst 0, 1) := by decide +kernel
theorem dL_law_280 : decode cL_law 280 = .ok (.ireturn, 1) := by decide +kernel
theorem dL_law_281 : decode cL_law 281 = .ok (.aload 4, 2) := by decide +kernel
theorem dL_law_283 : decode cL_law 283 = .ok (.ifnull 111, 3) := by decide +kernel
theorem dL_law_286 : decode cL_law 286 = .ok (.new 96, 3) := by decide +kernel
theorem dL_law_289 : decode cL_law 289 = .ok (.dup, 1) := by decide +kernel
theorem dL_law_290 : decode cL_law 290 = .ok (.aload 4, 2) := by decide +kernel
theorem dL_law_292 : decode cL_law 292 = .ok (.invokespecial 280, 3) := by decide +kernel
theorem dL_law_295 : decode cL_law 295 = .ok (.astore_n 2, 1) := by decide +kernel
theorem dL_law_296 : decode cL_law 296 = .ok (.aload_n 3, 1) := by decide +kernel
theorem dL_law_297 : decode cL_law 297 = .ok (.invokevirtual 283, 3) := by decide +kernel
theorem dL_law_300 : decode cL_law 300 = .ok (.goto 94, 3) := by decide +kernel
theorem dL_law_303 : decode cL_law 303 = .ok (.new 96, 3) := by decide +kernel
theorem dL_law_306 : decode cL_law 306 = .ok (.dup, 1) := by decide +kernel
theorem dL_law_307 : decode cL_law 307 = .ok (.aload_n 2, 1) := by decide +kernel
theorem dL_law_308 : decode cL_law 308 = .ok (.invokespecial 280, 3) := by decide +kernel
theorem dL_law_311 : decode cL_law 311 = .ok (.astore 7, 2) := by decide +kernel
theorem dL_law_313 : decode cL_law 313 = .ok (.iload 6, 2) := by decide +kernel
theorem dL_law_315 : decode cL_law 315 = .ok (.bipush 13, 2) := by decide +kernel
theorem dL_law_317 : decode cL_law 317 = .ok (.idiv, 1) := by decide +kernel
theorem dL_law_318 : decode cL_law 318 = .ok (.bipush 23, 2) := by decide +kernel
theorem dL_law_320 : decode cL_law 320 = .ok (.irem, 1) := by decide +kernel
theorem dL_law_321 : decode cL_law 321 = .ok (.istore 8, 2) := by decide +kernel
theorem dL_law_323 : decode cL_law 323 = .ok (.aload_n 2, 1) := by decide +kernel
theorem dL_law_324 : decode cL_law 324 = .ok (.iload 8, 2) := by decide +kernel
theorem dL_law_326 : decode cL_law 326 = .ok (.iload 6, 2) := by decide +kernel
theorem dL_law_328 : decode cL_law 328 = .ok (.sipush 299, 3) := by decide +kernel
theorem dL_law_331 : decode cL_law 331 = .ok (.idiv, 1) := by decide +kernel
theorem dL_law_332 : decode cL_law 332 = .ok (.invokestatic 286, 3) := by decide +kernel
theorem dL_law_335 : decode cL_law 335 = .ok (.istore 9, 2) := by decide +kernel
theorem dL_law_337 : decode cL_law 337 = .ok (.aload_n 1, 1) := by decide +kernel
theorem dL_law_338 : decode cL_law 338 = .ok (.aload 7, 2) := by decide +kernel
theorem dL_law_340 : decode cL_law 340 = .ok (.iload 8, 2) := by decide +kernel
theorem dL_law_342 : decode cL_law 342 = .ok (.iload 6, 2) := by decide +kernel
theorem dL_law_344 : decode cL_law 344 = .ok (.sipush 299, 3) := by decide +kernel
theorem dL_law_347 : decode cL_law 347 = .ok (.idiv, 1) := by decide +kernel
theorem dL_law_348 : decode cL_law 348 = .ok (.invokestatic 290, 3) := by decide +kernel
theorem dL_law_351 : decode cL_law 351 = .ok (.iload 9, 2) := by decide +kernel
theorem dL_law_353 : decode cL_law 353 = .ok (.if_icmp .eq 5, 3) := by decide +kernel
theorem dL_law_356 : decode cL_law 356 = .ok (.iconst 0, 1) := by decide +kernel
theorem dL_law_357 : decode cL_law 357 = .ok (.ireturn, 1) := by decide +kernel
theorem dL_law_358 : decode cL_law 358 = .ok (.iload 9, 2) := by decide +kernel
theorem dL_law_360 : decode cL_law 360 = .ok (.invokestatic 294, 3) := by decide +kernel
theorem dL_law_363 : decode cL_law 363 = .ok (.ifCond .eq 9, 3) := by decide +kernel
theorem dL_law_366 : decode cL_law 366 = .ok (.aload 7, 2) := by decide +kernel
theorem dL_law_368 : decode cL_law 368 = .ok (.astore_n 2, 1) := by decide +kernel
theorem dL_law_369 : decode cL_law 369 = .ok (.goto 25, 3) := by decide +kernel
theorem dL_law_372 : decode cL_law 372 = .ok (.aload_n 3, 1) := by decide +kernel
theorem dL_law_373 : decode cL_law 373 = .ok (.invokevirtual 101, 3) := by decide +kernel
theorem dL_law_376 : decode cL_law 376 = .ok (.bipush 8, 2) := by decide +kernel
theorem dL_law_378 : decode cL_law 378 = .ok (.if_icmp .ne 9, 3) := by decide +kernel
theorem dL_law_381 : decode cL_law 381 = .ok (.aload_n 3, 1) := by decide +kernel
theorem dL_law_382 : decode cL_law 382 = .ok (.iconst 0, 1) := by decide +kernel
theorem dL_law_383 : decode cL_law 383 = .ok (.invokevirtual 274, 3) := by decide +kernel
theorem dL_law_386 : decode cL_law 386 = .ok (.pop, 1) := by decide +kernel
theorem dL_law_387 : decode cL_law 387 = .ok (.aload_n 3, 1) := by decide +kernel
theorem dL_law_388 : decode cL_law 388 = .ok (.aload 7, 2) := by decide +kernel
theorem dL_law_390 : decode cL_law 390 = .ok (.invokevirtual 144, 3) := by decide +kernel
theorem dL_law_393 : decode cL_law 393 = .ok (.pop, 1) := by decide +kernel
theorem dL_law_394 : decode cL_law 394 = .ok (.aload_n 2, 1) := by decide +kernel
theorem dL_law_395 : decode cL_law 395 = .ok (.aload_n 1, 1) := by decide +kernel
theorem dL_law_396 : decode cL_law 396 = .ok (.invokevirtual 245, 3) := by decide +kernel
theorem dL_law_399 : decode cL_law 399 = .ok (.ifCond .eq 14, 3) := by decide +kernel
theorem dL_law_402 : decode cL_law 402 = .ok (.aload_n 1, 1) := by decide +kernel
theorem dL_law_403 : decode cL_law 403 = .ok (.invokevirtual 297, 3) := by decide +kernel
theorem dL_law_406 : decode cL_law 406 = .ok (.aload_n 3, 1) := by decide +kernel
theorem dL_law_407 : decode cL_law 407 = .ok (.invokevirtual 101, 3) := by decide +kernel
theorem dL_law_410 : decode cL_law 410 = .ok (.if_icmp .eq 5, 3) := by decide +kernel
theorem dL_law_413 : decode cL_law 413 = .ok (.iconst 0, 1) := by decide +kernel
theorem dL_law_414 : decode cL_law 414 = .ok (.ireturn, 1) := by decide +kernel
theorem dL_law_415 : decode cL_law 415 = .ok (.iinc 5 1, 3) := by decide +kernel
theorem dL_law_418 : decode cL_law 418 = .ok (.goto (-298), 3) := by decide +kernel
theorem dL_law_421 : decode cL_law 421 = .ok (.aload_n 1, 1) := by decide +kernel
theorem dL_law_422 : decode cL_law 422 = .ok (.invokestatic 300, 3) := by decide +kernel
theorem dL_law_425 : decode cL_law 425 = .ok (.ifCond .eq 15, 3) := by decide +kernel
theorem dL_law_428 : decode cL_law 428 = .ok (.aload_n 2, 1) := by decide +kernel
theorem dL_law_429 : decode cL_law 429 = .ok (.aload_n 1, 1) := by decide +kernel
theorem dL_law_430 : decode cL_law 430 = .ok (.invokevirtual 245, 3) := by decide +kernel
theorem dL_law_433 : decode cL_law 433 = .ok (.ifCond .eq 7, 3) := by decide +kernel
theorem dL_law_436 : decode cL_law 436 = .ok (.iconst 1, 1) := by decide +kernel
theorem dL_law_437 : decode cL_law 437 = .ok (.goto 4, 3) := by decide +kernel
theorem dL_law_440 : decode cL_law 440 = .ok (.iconst 0, 1) := by decide +kernel
theorem dL_law_441 : decode cL_law 441 = .ok (.ireturn, 1) := by decide +kernel
theorem dL_isWrong_0 : decode cL_isWrong 0 = .ok (.aload_n 0, 1) := by decide +kernel
theorem dL_isWrong_1 : decode cL_isWrong 1 = .ok (.aload_n 1, 1) := by decide +kernel
theorem dL_isWrong_2 : decode cL_isWrong 2 = .ok (.invokestatic 257, 3) := by decide +kernel
theorem dL_isWrong_5 : decode cL_isWrong 5 = .ok (.ifCond .eq 24, 3) := by decide +kernel
theorem dL_isWrong_8 : decode cL_isWrong 8 = .ok (.aload_n 0, 1) := by decide +kernel
theorem dL_isWrong_9 : decode cL_isWrong 9 = .ok (.invokevirtual 261, 3) := by decide +kernel
theorem dL_isWrong_12 : decode cL_isWrong 12 = .ok (.iload_n 2, 1) := by decide +kernel
theorem dL_isWrong_13 : decode cL_isWrong 13 = .ok (.if_icmp .ne 16, 3) := by decide +kernel
theorem dL_isWrong_16 : decode cL_isWrong 16 = .ok (.aload_n 0, 1) := by decide +kernel
theorem dL_isWrong_17 : decode cL_isWrong 17 = .ok (.invokestatic 239, 3) := by decide +kernel
theorem dL_isWrong_20 : decode cL_isWrong 20 = .ok (.ldc 29, 2) := by decide +kernel
theorem dL_isWrong_22 : decode cL_isWrong 22 = .ok (.if_icmp .ne 7, 3) := by decide +kernel
theorem dL_isWrong_25 : decode cL_isWrong 25 = .ok (.iconst 1, 1) := by decide +kernel
theorem dL_isWrong_26 : decode cL_isWrong 26 = .ok (.goto 4, 3) := by decide +kernel
theorem dL_isWrong_29 : decode cL_isWrong 29 = .ok (.iconst 0, 1) := by decide +kernel
theorem dL_isWrong_30 : decode cL_isWrong 30 = .ok (.ireturn, 1) := by decide +kernel
theorem dL_texts_0 : decode cL_texts 0 = .ok (.aload_n 0, 1) := by decide +kernel
theorem dL_texts_1 : decode cL_texts 1 = .ok (.ldc_w 303, 3) := by decide +kernel
theorem dL_texts_4 : decode cL_texts 4 = .ok (.iconst 0, 1) := by decide +kernel
theorem dL_texts_5 : decode cL_texts 5 = .ok (.invokestatic 305, 3) := by decide +kernel
theorem dL_texts_8 : decode cL_texts 8 = .ok (.ifCond .eq 55, 3) := by decide +kernel
theorem dL_texts_11 : decode cL_texts 11 = .ok (.aload_n 0, 1) := by decide +kernel
theorem dL_texts_12 : decode cL_texts 12 = .ok (.ldc_w 309, 3) := by decide +kernel
theorem dL_texts_15 : decode cL_texts 15 = .ok (.bipush 6, 2) := by decide +kernel
theorem dL_texts_17 : decode cL_texts 17 = .ok (.invokestatic 305, 3) := by decide +kernel
theorem dL_texts_20 : decode cL_texts 20 = .ok (.ifCond .eq 43, 3) := by decide +kernel
theorem dL_texts_23 : decode cL_texts 23 = .ok (.aload_n 0, 1) := by decide +kernel
theorem dL_texts_24 : decode cL_texts 24 = .ok (.ldc_w 311, 3) := by decide +kernel
theorem dL_texts_27 : decode cL_texts 27 = .ok (.bipush 8, 2) := by decide +kernel
theorem dL_texts_29 : decode cL_texts 29 = .ok (.invokestatic 305, 3) := by decide +kernel
theorem dL_texts_32 : decode cL_texts 32 = .ok (.ifCond .eq 31, 3) := by decide +kernel
theorem dL_texts_35 : decode cL_texts 35 = .ok (.aload_n 0, 1) := by decide +kernel
theorem dL_texts_36 : decode cL_texts 36 = .ok (.ldc_w 313, 3) := by decide +kernel
theorem dL_texts_39 : decode cL_texts 39 = .ok (.bipush 10, 2) := by decide +kernel
theorem dL_texts_41 : decode cL_texts 41 = .ok (.invokestatic 305, 3) := by decide +kernel
theorem dL_texts_44 : decode cL_texts 44 = .ok (.ifCond .eq 19, 3) := by decide +kernel
theorem dL_texts_47 : decode cL_texts 47 = .ok (.aload_n 0, 1) := by decide +kernel
theorem dL_texts_48 : decode cL_texts 48 = .ok (.ldc_w 315, 3) := by decide +kernel
theorem dL_texts_51 : decode cL_texts 51 = .ok (.bipush 12, 2) := by decide +kernel
theorem dL_texts_53 : decode cL_texts 53 = .ok (.invokestatic 305, 3) := by decide +kernel
theorem dL_texts_56 : decode cL_texts 56 = .ok (.ifCond .eq 7, 3) := by decide +kernel
theorem dL_texts_59 : decode cL_texts 59 = .ok (.iconst 1, 1) := by decide +kernel
theorem dL_texts_60 : decode cL_texts 60 = .ok (.goto 4, 3) := by decide +kernel
theorem dL_texts_63 : decode cL_texts 63 = .ok (.iconst 0, 1) := by decide +kernel
theorem dL_texts_64 : decode cL_texts 64 = .ok (.istore_n 1, 1) := by decide +kernel
theorem dL_texts_65 : decode cL_texts 65 = .ok (.iload_n 1, 1) := by decide +kernel
theorem dL_texts_66 : decode cL_texts 66 = .ok (.ifCond .eq 66, 3) := by decide +kernel
theorem dL_texts_69 : decode cL_texts 69 = .ok (.aload_n 0, 1) := by decide +kernel
theorem dL_texts_70 : decode cL_texts 70 = .ok (.ldc_w 317, 3) := by decide +kernel
theorem dL_texts_73 : decode cL_texts 73 = .ok (.iconst 5, 1) := by decide +kernel
theorem dL_texts_74 : decode cL_texts 74 = .ok (.invokestatic 305, 3) := by decide +kernel
theorem dL_texts_77 : decode cL_texts 77 = .ok (.ifCond .eq 55, 3) := by decide +kernel
theorem dL_texts_80 : decode cL_texts 80 = .ok (.aload_n 0, 1) := by decide +kernel
theorem dL_texts_81 : decode cL_texts 81 = .ok (.ldc_w 319, 3) := by decide +kernel
theorem dL_texts_84 : decode cL_texts 84 = .ok (.bipush 7, 2) := by decide +kernel
theorem dL_texts_86 : decode cL_texts 86 = .ok (.invokestatic 305, 3) := by decide +kernel
theorem dL_texts_89 : decode cL_texts 89 = .ok (.ifCond .eq 43, 3) := by decide +kernel
theorem dL_texts_92 : decode cL_texts 92 = .ok (.aload_n 0, 1) := by decide +kernel
theorem dL_texts_93 : decode cL_texts 93 = .ok (.ldc_w 321, 3) := by decide +kernel
theorem dL_texts_96 : decode cL_texts 96 = .ok (.bipush 9, 2) := by decide +kernel
theorem dL_texts_98 : decode cL_texts 98 = .ok (.invokestatic 305, 3) := by decide +kernel
theorem dL_texts_101 : decode cL_texts 101 = .ok (.ifCond .eq 31, 3) := by decide +kernel
theorem dL_texts_104 : decode cL_texts 104 = .ok (.aload_n 0, 1) := by decide +kernel
theorem dL_texts_105 : decode cL_texts 105 = .ok (.ldc_w 323, 3) := by decide +kernel
theorem dL_texts_108 : decode cL_texts 108 = .ok (.bipush 8, 2) := by decide +kernel
theorem dL_texts_110 : decode cL_texts 110 = .ok (.invokestatic 305, 3) := by decide +kernel
theorem dL_texts_113 : decode cL_texts 113 = .ok (.ifCond .eq 19, 3) := by decide +kernel
theorem dL_texts_116 : decode cL_texts 116 = .ok (.aload_n 0, 1) := by decide +kernel
theorem dL_texts_117 : decode cL_texts 117 = .ok (.ldc_w 325, 3) := by decide +kernel
theorem dL_texts_120 : decode cL_texts 120 = .ok (.bipush 10, 2) := by decide +kernel
theorem dL_texts_122 : decode cL_texts 122 = .ok (.invokestatic 305, 3) := by decide +kernel
theorem dL_texts_125 : decode cL_texts 125 = .ok (.ifCond .eq 7, 3) := by decide +kernel
theorem dL_texts_128 : decode cL_texts 128 = .ok (.iconst 1, 1) := by decide +kernel
theorem dL_texts_129 : decode cL_texts 129 = .ok (.goto 4, 3) := by decide +kernel
theorem dL_texts_132 : decode cL_texts 132 = .ok (.iconst 0, 1) := by decide +kernel
theorem dL_texts_133 : decode cL_texts 133 = .ok (.istore_n 1, 1) := by decide +kernel
theorem dL_texts_134 : decode cL_texts 134 = .ok (.iload_n 1, 1) := by decide +kernel
theorem dL_texts_135 : decode cL_texts 135 = .ok (.ifCond .eq 67, 3) := by decide +kernel
theorem dL_texts_138 : decode cL_texts 138 = .ok (.aload_n 0, 1) := by decide +kernel
theorem dL_texts_139 : decode cL_texts 139 = .ok (.ldc_w 327, 3) := by decide +kernel
theorem dL_texts_142 : decode cL_texts 142 = .ok (.bipush 9, 2) := by decide +kernel
theorem dL_texts_144 : decode cL_texts 144 = .ok (.invokestatic 305, 3) := by decide +kernel
theorem dL_texts_147 : decode cL_texts 147 = .ok (.ifCond .eq 55, 3) := by decide +kernel
theorem dL_texts_150 : decode cL_texts 150 = .ok (.aload_n 0, 1) := by decide +kernel
theorem dL_texts_151 : decode cL_texts 151 = .ok (.ldc_w 329, 3) := by decide +kernel
theorem dL_texts_154 : decode cL_texts 154 = .ok (.bipush 7, 2) := by decide +kernel
theorem dL_texts_156 : decode cL_texts 156 = .ok (.invokestatic 305, 3) := by decide +kernel
theorem dL_texts_159 : decode cL_texts 159 = .ok (.ifCond .eq 43, 3) := by decide +kernel
theorem dL_texts_162 : decode cL_texts 162 = .ok (.aload_n 0, 1) := by decide +kernel
theorem dL_texts_163 : decode cL_texts 163 = .ok (.ldc_w 331, 3) := by decide +kernel
theorem dL_texts_166 : decode cL_texts 166 = .ok (.bipush 9, 2) := by decide +kernel
theorem dL_texts_168 : decode cL_texts 168 = .ok (.invokestatic 305, 3) := by decide +kernel
theorem dL_texts_171 : decode cL_texts 171 = .ok (.ifCond .eq 31, 3) := by decide +kernel
theorem dL_texts_174 : decode cL_texts 174 = .ok (.aload_n 0, 1) := by decide +kernel
theorem dL_texts_175 : decode cL_texts 175 = .ok (.ldc_w 333, 3) := by decide +kernel
theorem dL_texts_178 : decode cL_texts 178 = .ok (.bipush 11, 2) := by decide +kernel
theorem dL_texts_180 : decode cL_texts 180 = .ok (.invokestatic 305, 3) := by decide +kernel
theorem dL_texts_183 : decode cL_texts 183 = .ok (.ifCond .eq 19, 3) := by decide +kernel
theorem dL_texts_186 : decode cL_texts 186 = .ok (.aload_n 0, 1) := by decide +kernel
theorem dL_texts_187 : decode cL_texts 187 = .ok (.ldc_w 335, 3) := by decide +kernel
theorem dL_texts_190 : decode cL_texts 190 = .ok (.bipush 13, 2) := by decide +kernel
theorem dL_texts_192 : decode cL_texts 192 = .ok (.invokestatic 305, 3) := by decide +kernel
theorem dL_texts_195 : decode cL_texts 195 = .ok (.ifCond .eq 7, 3) := by decide +kernel
theorem dL_texts_198 : decode cL_texts 198 = .ok (.iconst 1, 1) := by decide +kernel
theorem dL_texts_199 : decode cL_texts 199 = .ok (.goto 4, 3) := by decide +kernel
theorem dL_texts_202 : decode cL_texts 202 = .ok (.iconst 0, 1) := by decide +kernel
theorem dL_texts_203 : decode cL_texts 203 = .ok (.istore_n 1, 1) := by decide +kernel
theorem dL_texts_204 : decode cL_texts 204 = .ok (.iload_n 1, 1) := by decide +kernel
theorem dL_texts_205 : decode cL_texts 205 = .ok (.ifCond .eq 53, 3) := by decide +kernel
theorem dL_texts_208 : decode cL_texts 208 = .ok (.aload_n 0, 1) := by decide +kernel
theorem dL_texts_209 : decode cL_texts 209 = .ok (.ldc_w 337, 3) := by decide +kernel
theorem dL_texts_212 : decode cL_texts 212 = .ok (.iconst 5, 1) := by decide +kernel
theorem dL_texts_213 : decode cL_texts 213 = .ok (.invokestatic 305, 3) := by decide +kernel
theorem dL_texts_216 : decode cL_texts 216 = .ok (.ifCond .eq 42, 3) := by decide +kernel
theorem dL_texts_219 : decode cL_texts 219 = .ok (.aload_n 0, 1) := by decide +kernel
theorem dL_texts_220 : decode cL_texts 220 = .ok (.ldc_w 339, 3) := by decide +kernel
theorem dL_texts_223 : decode cL_texts 223 = .ok (.iconst 0, 1) := by decide +kernel
theorem dL_texts_224 : decode cL_texts 224 = .ok (.invokestatic 305, 3) := by decide +kernel
theorem dL_texts_227 : decode cL_texts 227 = .ok (.ifCond .eq 31, 3) := by decide +kernel
theorem dL_texts_230 : decode cL_texts 230 = .ok (.aload_n 0, 1) := by decide +kernel
theorem dL_texts_231 : decode cL_texts 231 = .ok (.ldc_w 341, 3) := by decide +kernel
theorem dL_texts_234 : decode cL_texts 234 = .ok (.bipush 8, 2) := by decide +kernel
theorem dL_texts_236 : decode cL_texts 236 = .ok (.invokestatic 305, 3) := by decide +kernel
theorem dL_texts_239 : decode cL_texts 239 = .ok (.ifCond .eq 19, 3) := by decide +kernel
theorem dL_texts_242 : decode cL_texts 242 = .ok (.aload_n 0, 1) := by decide +kernel
theorem dL_texts_243 : decode cL_texts 243 = .ok (.ldc_w 343, 3) := by decide +kernel
theorem dL_texts_246 : decode cL_texts 246 = .ok (.bipush 11, 2) := by decide +kernel
theorem dL_texts_248 : decode cL_texts 248 = .ok (.invokestatic 305, 3) := by decide +kernel
theorem dL_texts_251 : decode cL_texts 251 = .ok (.ifCond .eq 7, 3) := by decide +kernel
theorem dL_texts_254 : decode cL_texts 254 = .ok (.iconst 1, 1) := by decide +kernel
theorem dL_texts_255 : decode cL_texts 255 = .ok (.goto 4, 3) := by decide +kernel
theorem dL_texts_258 : decode cL_texts 258 = .ok (.iconst 0, 1) := by decide +kernel
theorem dL_texts_259 : decode cL_texts 259 = .ok (.ireturn, 1) := by decide +kernel
