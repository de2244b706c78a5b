theorem dL_append_0 : decode cL_append 0 = .ok (.aload 6, 2) := by decide +kernel
theorem dL_append_2 : decode cL_append 2 = .ok (.iconst 0, 1) := by decide +kernel
theorem dL_append_3 : decode cL_append 3 = .ok (.aload_n 0, 1) := by decide +kernel
theorem dL_append_4 : decode cL_append 4 = .ok (.iload_n 1, 1) := by decide +kernel
theorem dL_append_5 : decode cL_append 5 = .ok (.iload_n 2, 1) := by decide +kernel
theorem dL_append_6 : decode cL_append 6 = .ok (.iload_n 3, 1) := by decide +kernel
theorem dL_append_7 : decode cL_append 7 = .ok (.iload 4, 2) := by decide +kernel
theorem dL_append_9 : decode cL_append 9 = .ok (.iload 5, 2) := by decide +kernel
theorem dL_append_11 : decode cL_append 11 = .ok (.invokevirtual 7, 3) := by decide +kernel
theorem dL_append_14 : decode cL_append 14 = .ok (.i2l, 1) := by decide +kernel
theorem dL_append_15 : decode cL_append 15 = .ok (.lastore, 1) := by decide +kernel
theorem dL_append_16 : decode cL_append 16 = .ok (.goto 7, 3) := by decide +kernel
theorem dL_append_19 : decode cL_append 19 = .ok (.astore 7, 2) := by decide +kernel
theorem dL_append_21 : decode cL_append 21 = .ok (.iconst 1, 1) := by decide +kernel
theorem dL_append_22 : decode cL_append 22 = .ok (.ireturn, 1) := by decide +kernel
theorem dL_append_23 : decode cL_append 23 = .ok (.iconst 0, 1) := by decide +kernel
theorem dL_append_24 : decode cL_append 24 = .ok (.ireturn, 1) := by decide +kernel
theorem dL_truncate_0 : decode cL_truncate 0 = .ok (.aload_n 2, 1) := by decide +kernel
theorem dL_truncate_1 : decode cL_truncate 1 = .ok (.iconst 0, 1) := by decide +kernel
theorem dL_truncate_2 : decode cL_truncate 2 = .ok (.aload_n 0, 1) := by decide +kernel
theorem dL_truncate_3 : decode cL_truncate 3 = .ok (.iload_n 1, 1) := by decide +kernel
theorem dL_truncate_4 : decode cL_truncate 4 = .ok (.invokevirtual 15, 3) := by decide +kernel
theorem dL_truncate_7 : decode cL_truncate 7 = .ok (.i2l, 1) := by decide +kernel
theorem dL_truncate_8 : decode cL_truncate 8 = .ok (.lastore, 1) := by decide +kernel
theorem dL_truncate_9 : decode cL_truncate 9 = .ok (.goto 6, 3) := by decide +kernel
theorem dL_truncate_12 : decode cL_truncate 12 = .ok (.astore_n 3, 1) := by decide +kernel
theorem dL_truncate_13 : decode cL_truncate 13 = .ok (.iconst 1, 1) := by decide +kernel
theorem dL_truncate_14 : decode cL_truncate 14 = .ok (.ireturn, 1) := by decide +kernel
theorem dL_truncate_15 : decode cL_truncate 15 = .ok (.iconst 0, 1) := by decide +kernel
theorem dL_truncate_16 : decode cL_truncate 16 = .ok (.ireturn, 1) := by decide +kernel
theorem dL_load_0 : decode cL_load 0 = .ok (.aload_n 1, 1) := by decide +kernel
theorem dL_load_1 : decode cL_load 1 = .ok (.iconst 0, 1) := by decide +kernel
theorem dL_load_2 : decode cL_load 2 = .ok (.aload_n 0, 1) := by decide +kernel
theorem dL_load_3 : decode cL_load 3 = .ok (.invokevirtual 21, 3) := by decide +kernel
theorem dL_load_6 : decode cL_load 6 = .ok (.i2l, 1) := by decide +kernel
theorem dL_load_7 : decode cL_load 7 = .ok (.lastore, 1) := by decide +kernel
theorem dL_load_8 : decode cL_load 8 = .ok (.goto 6, 3) := by decide +kernel
theorem dL_load_11 : decode cL_load 11 = .ok (.astore_n 2, 1) := by decide +kernel
theorem dL_load_12 : decode cL_load 12 = .ok (.iconst 1, 1) := by decide +kernel
theorem dL_load_13 : decode cL_load 13 = .ok (.ireturn, 1) := by decide +kernel
theorem dL_load_14 : decode cL_load 14 = .ok (.iconst 0, 1) := by decide +kernel
theorem dL_load_15 : decode cL_load 15 = .ok (.ireturn, 1) := by decide +kernel
theorem dL_setRoute_0 : decode cL_setRoute 0 = .ok (.aload_n 3, 1) := by decide +kernel
theorem dL_setRoute_1 : decode cL_setRoute 1 = .ok (.iconst 0, 1) := by decide +kernel
theorem dL_setRoute_2 : decode cL_setRoute 2 = .ok (.aload_n 0, 1) := by decide +kernel
theorem dL_setRoute_3 : decode cL_setRoute 3 = .ok (.iload_n 1, 1) := by decide +kernel
theorem dL_setRoute_4 : decode cL_setRoute 4 = .ok (.iload_n 2, 1) := by decide +kernel
theorem dL_setRoute_5 : decode cL_setRoute 5 = .ok (.invokevirtual 25, 3) := by decide +kernel
theorem dL_setRoute_8 : decode cL_setRoute 8 = .ok (.i2l, 1) := by decide +kernel
theorem dL_setRoute_9 : decode cL_setRoute 9 = .ok (.lastore, 1) := by decide +kernel
theorem dL_setRoute_10 : decode cL_setRoute 10 = .ok (.goto 15, 3) := by decide +kernel
theorem dL_setRoute_13 : decode cL_setRoute 13 = .ok (.astore 4, 2) := by decide +kernel
theorem dL_setRoute_15 : decode cL_setRoute 15 = .ok (.iconst 1, 1) := by decide +kernel
theorem dL_setRoute_16 : decode cL_setRoute 16 = .ok (.ireturn, 1) := by decide +kernel
theorem dL_setRoute_17 : decode cL_setRoute 17 = .ok (.astore 4, 2) := by decide +kernel
theorem dL_setRoute_19 : decode cL_setRoute 19 = .ok (.iconst 2, 1) := by decide +kernel
theorem dL_setRoute_20 : decode cL_setRoute 20 = .ok (.ireturn, 1) := by decide +kernel
theorem dL_setRoute_21 : decode cL_setRoute 21 = .ok (.astore 4, 2) := by decide +kernel
theorem dL_setRoute_23 : decode cL_setRoute 23 = .ok (.iconst 3, 1) := by decide +kernel
theorem dL_setRoute_24 : decode cL_setRoute 24 = .ok (.ireturn, 1) := by decide +kernel
theorem dL_setRoute_25 : decode cL_setRoute 25 = .ok (.iconst 0, 1) := by decide +kernel
theorem dL_setRoute_26 : decode cL_setRoute 26 = .ok (.ireturn, 1) := by decide +kernel
theorem dL_removeRoute_0 : decode cL_removeRoute 0 = .ok (.aload_n 2, 1) := by decide +kernel
theorem dL_removeRoute_1 : decode cL_removeRoute 1 = .ok (.iconst 0, 1) := by decide +kernel
theorem dL_removeRoute_2 : decode cL_removeRoute 2 = .ok (.aload_n 0, 1) := by decide +kernel
theorem dL_removeRoute_3 : decode cL_removeRoute 3 = .ok (.iload_n 1, 1) := by decide +kernel
theorem dL_removeRoute_4 : decode cL_removeRoute 4 = .ok (.invokevirtual 31, 3) := by decide +kernel
theorem dL_removeRoute_7 : decode cL_removeRoute 7 = .ok (.i2l, 1) := by decide +kernel
theorem dL_removeRoute_8 : decode cL_removeRoute 8 = .ok (.lastore, 1) := by decide +kernel
theorem dL_removeRoute_9 : decode cL_removeRoute 9 = .ok (.goto 6, 3) := by decide +kernel
theorem dL_removeRoute_12 : decode cL_removeRoute 12 = .ok (.astore_n 3, 1) := by decide +kernel
theorem dL_removeRoute_13 : decode cL_removeRoute 13 = .ok (.iconst 1, 1) := by decide +kernel
theorem dL_removeRoute_14 : decode cL_removeRoute 14 = .ok (.ireturn, 1) := by decide +kernel
theorem dL_removeRoute_15 : decode cL_removeRoute 15 = .ok (.iconst 0, 1) := by decide +kernel
theorem dL_removeRoute_16 : decode cL_removeRoute 16 = .ok (.ireturn, 1) := by decide +kernel
theorem dL_climb_0 : decode cL_climb 0 = .ok (.aload_n 3, 1) := by decide +kernel
theorem dL_climb_1 : decode cL_climb 1 = .ok (.iconst 0, 1) := by decide +kernel
theorem dL_climb_2 : decode cL_climb 2 = .ok (.aload_n 0, 1) := by decide +kernel
theorem dL_climb_3 : decode cL_climb 3 = .ok (.iload_n 1, 1) := by decide +kernel
theorem dL_climb_4 : decode cL_climb 4 = .ok (.iload_n 2, 1) := by decide +kernel
theorem dL_climb_5 : decode cL_climb 5 = .ok (.invokevirtual 34, 3) := by decide +kernel
theorem dL_climb_8 : decode cL_climb 8 = .ok (.i2l, 1) := by decide +kernel
theorem dL_climb_9 : decode cL_climb 9 = .ok (.lastore, 1) := by decide +kernel
theorem dL_climb_10 : decode cL_climb 10 = .ok (.goto 11, 3) := by decide +kernel
theorem dL_climb_13 : decode cL_climb 13 = .ok (.astore 4, 2) := by decide +kernel
theorem dL_climb_15 : decode cL_climb 15 = .ok (.iconst 1, 1) := by decide +kernel
theorem dL_climb_16 : decode cL_climb 16 = .ok (.ireturn, 1) := by decide +kernel
theorem dL_climb_17 : decode cL_climb 17 = .ok (.astore 4, 2) := by decide +kernel
theorem dL_climb_19 : decode cL_climb 19 = .ok (.iconst 2, 1) := by decide +kernel
theorem dL_climb_20 : decode cL_climb 20 = .ok (.ireturn, 1) := by decide +kernel
theorem dL_climb_21 : decode cL_climb 21 = .ok (.iconst 0, 1) := by decide +kernel
theorem dL_climb_22 : decode cL_climb 22 = .ok (.ireturn, 1) := by decide +kernel
theorem dL_vote_0 : decode cL_vote 0 = .ok (.aload 4, 2) := by decide +kernel
theorem dL_vote_2 : decode cL_vote 2 = .ok (.iconst 0, 1) := by decide +kernel
theorem dL_vote_3 : decode cL_vote 3 = .ok (.aload_n 0, 1) := by decide +kernel
theorem dL_vote_4 : decode cL_vote 4 = .ok (.iload_n 1, 1) := by decide +kernel
theorem dL_vote_5 : decode cL_vote 5 = .ok (.iload_n 2, 1) := by decide +kernel
theorem dL_vote_6 : decode cL_vote 6 = .ok (.iload_n 3, 1) := by decide +kernel
theorem dL_vote_7 : decode cL_vote 7 = .ok (.invokevirtual 37, 3) := by decide +kernel
theorem dL_vote_10 : decode cL_vote 10 = .ok (.i2l, 1) := by decide +kernel
theorem dL_vote_11 : decode cL_vote 11 = .ok (.lastore, 1) := by decide +kernel
theorem dL_vote_12 : decode cL_vote 12 = .ok (.goto 15, 3) := by decide +kernel
theorem dL_vote_15 : decode cL_vote 15 = .ok (.astore 5, 2) := by decide +kernel
theorem dL_vote_17 : decode cL_vote 17 = .ok (.iconst 1, 1) := by decide +kernel
theorem dL_vote_18 : decode cL_vote 18 = .ok (.ireturn, 1) := by decide +kernel
theorem dL_vote_19 : decode cL_vote 19 = .ok (.astore 5, 2) := by decide +kernel
theorem dL_vote_21 : decode cL_vote 21 = .ok (.iconst 2, 1) := by decide +kernel
theorem dL_vote_22 : decode cL_vote 22 = .ok (.ireturn, 1) := by decide +kernel
theorem dL_vote_23 : decode cL_vote 23 = .ok (.astore 5, 2) := by decide +kernel
theorem dL_vote_25 : decode cL_vote 25 = .ok (.iconst 3, 1) := by decide +kernel
theorem dL_vote_26 : decode cL_vote 26 = .ok (.ireturn, 1) := by decide +kernel
theorem dL_vote_27 : decode cL_vote 27 = .ok (.iconst 0, 1) := by decide +kernel
theorem dL_vote_28 : decode cL_vote 28 = .ok (.ireturn, 1) := by decide +kernel
theorem dL_lend_0 : decode cL_lend 0 = .ok (.aload_n 3, 1) := by decide +kernel
theorem dL_lend_1 : decode cL_lend 1 = .ok (.iconst 0, 1) := by decide +kernel
theorem dL_lend_2 : decode cL_lend 2 = .ok (.aload_n 0, 1) := by decide +kernel
theorem dL_lend_3 : decode cL_lend 3 = .ok (.iload_n 1, 1) := by decide +kernel
theorem dL_lend_4 : decode cL_lend 4 = .ok (.iload_n 2, 1) := by decide +kernel
theorem dL_lend_5 : decode cL_lend 5 = .ok (.invokevirtual 41, 3) := by decide +kernel
theorem dL_lend_8 : decode cL_lend 8 = .ok (.i2l, 1) := by decide +kernel
theorem dL_lend_9 : decode cL_lend 9 = .ok (.lastore, 1) := by decide +kernel
theorem dL_lend_10 : decode cL_lend 10 = .ok (.goto 11, 3) := by decide +kernel
theorem dL_lend_13 : decode cL_lend 13 = .ok (.astore 4, 2) := by decide +kernel
theorem dL_lend_15 : decode cL_lend 15 = .ok (.iconst 1, 1) := by decide +kernel
theorem dL_lend_16 : decode cL_lend 16 = .ok (.ireturn, 1) := by decide +kernel
theorem dL_lend_17 : decode cL_lend 17 = .ok (.astore 4, 2) := by decide +kernel
theorem dL_lend_19 : decode cL_lend 19 = .ok (.iconst 2, 1) := by decide +kernel
theorem dL_lend_20 : decode cL_lend 20 = .ok (.ireturn, 1) := by decide +kernel
theorem dL_lend_21 : decode cL_lend 21 = .ok (.iconst 0, 1) := by decide +kernel
theorem dL_lend_22 : decode cL_lend 22 = .ok (.ireturn, 1) := by decide +kernel
theorem dL_giveBack_0 : decode cL_giveBack 0 = .ok (.aload_n 2, 1) := by decide +kernel
theorem dL_giveBack_1 : decode cL_giveBack 1 = .ok (.iconst 0, 1) := by decide +kernel
theorem dL_giveBack_2 : decode cL_giveBack 2 = .ok (.aload_n 0, 1) := by decide +kernel
theorem dL_giveBack_3 : decode cL_giveBack 3 = .ok (.iload_n 1, 1) := by decide +kernel
theorem dL_giveBack_4 : decode cL_giveBack 4 = .ok (.invokevirtual 44, 3) := by decide +kernel
theorem dL_giveBack_7 : decode cL_giveBack 7 = .ok (.i2l, 1) := by decide +kernel
theorem dL_giveBack_8 : decode cL_giveBack 8 = .ok (.lastore, 1) := by decide +kernel
theorem dL_giveBack_9 : decode cL_giveBack 9 = .ok (.goto 9, 3) := by decide +kernel
theorem dL_giveBack_12 : decode cL_giveBack 12 = .ok (.astore_n 3, 1) := by decide +kernel
theorem dL_giveBack_13 : decode cL_giveBack 13 = .ok (.iconst 1, 1) := by decide +kernel
theorem dL_giveBack_14 : decode cL_giveBack 14 = .ok (.ireturn, 1) := by decide +kernel
theorem dL_giveBack_15 : decode cL_giveBack 15 = .ok (.astore_n 3, 1) := by decide +kernel
theorem dL_giveBack_16 : decode cL_giveBack 16 = .ok (.iconst 2, 1) := by decide +kernel
theorem dL_giveBack_17 : decode cL_giveBack 17 = .ok (.ireturn, 1) := by decide +kernel
theorem dL_giveBack_18 : decode cL_giveBack 18 = .ok (.iconst 0, 1) := by decide +kernel
theorem dL_giveBack_19 : decode cL_giveBack 19 = .ok (.ireturn, 1) := by decide +kernel
theorem dL_check_0 : decode cL_check 0 = .ok (.aload_n 3, 1) := by decide +kernel
theorem dL_check_1 : decode cL_check 1 = .ok (.iconst 0, 1) := by decide +kernel
theorem dL_check_2 : decode cL_check 2 = .ok (.aload_n 0, 1) := by decide +kernel
theorem dL_check_3 : decode cL_check 3 = .ok (.iload_n 1, 1) := by decide +kernel
theorem dL_check_4 : decode cL_check 4 = .ok (.iload_n 2, 1) := by decide +kernel
theorem dL_check_5 : decode cL_check 5 = .ok (.invokevirtual 47, 3) := by decide +kernel
theorem dL_check_8 : decode cL_check 8 = .ok (.i2l, 1) := by decide +kernel
theorem dL_check_9 : decode cL_check 9 = .ok (.lastore, 1) := by decide +kernel
theorem dL_check_10 : decode cL_check 10 = .ok (.goto 11, 3) := by decide +kernel
theorem dL_check_13 : decode cL_check 13 = .ok (.astore 4, 2) := by decide +kernel
theorem dL_check_15 : decode cL_check 15 = .ok (.iconst 1, 1) := by decide +kernel
theorem dL_check_16 : decode cL_check 16 = .ok (.ireturn, 1) := by decide +kernel
theorem dL_check_17 : decode cL_check 17 = .ok (.astore 4, 2) := by decide +kernel
theorem dL_check_19 : decode cL_check 19 = .ok (.iconst 2, 1) := by decide +kernel
theorem dL_check_20 : decode cL_check 20 = .ok (.ireturn, 1) := by decide +kernel
theorem dL_check_21 : decode cL_check 21 = .ok (.iconst 0, 1) := by decide +kernel
theorem dL_check_22 : decode cL_check 22 = .ok (.ireturn, 1) := by decide +kernel
theorem dL_enroll_0 : decode cL_enroll 0 = .ok (.aload_n 3, 1) := by decide +kernel
theorem dL_enroll_1 : decode cL_enroll 1 = .ok (.iconst 0, 1) := by decide +kernel
theorem dL_enroll_2 : decode cL_enroll 2 = .ok (.aload_n 0, 1) := by decide +kernel
theorem dL_enroll_3 : decode cL_enroll 3 = .ok (.iload_n 1, 1) := by decide +kernel
theorem dL_enroll_4 : decode cL_enroll 4 = .ok (.iload_n 2, 1) := by decide +kernel
theorem dL_enroll_5 : decode cL_enroll 5 = .ok (.invokevirtual 51, 3) := by decide +kernel
theorem dL_enroll_8 : decode cL_enroll 8 = .ok (.i2l, 1) := by decide +kernel
theorem dL_enroll_9 : decode cL_enroll 9 = .ok (.lastore, 1) := by decide +kernel
theorem dL_enroll_10 : decode cL_enroll 10 = .ok (.goto 11, 3) := by decide +kernel
theorem dL_enroll_13 : decode cL_enroll 13 = .ok (.astore 4, 2) := by decide +kernel
theorem dL_enroll_15 : decode cL_enroll 15 = .ok (.iconst 1, 1) := by decide +kernel
theorem dL_enroll_16 : decode cL_enroll 16 = .ok (.ireturn, 1) := by decide +kernel
theorem dL_enroll_17 : decode cL_enroll 17 = .ok (.astore 4, 2) := by decide +kernel
theorem dL_enroll_19 : decode cL_enroll 19 = .ok (.iconst 2, 1) := by decide +kernel
theorem dL_enroll_20 : decode cL_enroll 20 = .ok (.ireturn, 1) := by decide +kernel
theorem dL_enroll_21 : decode cL_enroll 21 = .ok (.iconst 0, 1) := by decide +kernel
theorem dL_enroll_22 : decode cL_enroll 22 = .ok (.ireturn, 1) := by decide +kernel
theorem dL_leaveCourse_0 : decode cL_leaveCourse 0 = .ok (.aload_n 2, 1) := by decide +kernel
theorem dL_leaveCourse_1 : decode cL_leaveCourse 1 = .ok (.iconst 0, 1) := by decide +kernel
theorem dL_leaveCourse_2 : decode cL_leaveCourse 2 = .ok (.aload_n 0, 1) := by decide +kernel
theorem dL_leaveCourse_3 : decode cL_leaveCourse 3 = .ok (.iload_n 1, 1) := by decide +kernel
theorem dL_leaveCourse_4 : decode cL_leaveCourse 4 = .ok (.invokevirtual 54, 3) := by decide +kernel
theorem dL_leaveCourse_7 : decode cL_leaveCourse 7 = .ok (.i2l, 1) := by decide +kernel
theorem dL_leaveCourse_8 : decode cL_leaveCourse 8 = .ok (.lastore, 1) := by decide +kernel
theorem dL_leaveCourse_9 : decode cL_leaveCourse 9 = .ok (.goto 9, 3) := by decide +kernel
theorem dL_leaveCourse_12 : decode cL_leaveCourse 12 = .ok (.astore_n 3, 1) := by decide +kernel
theorem dL_leaveCourse_13 : decode cL_leaveCourse 13 = .ok (.iconst 1, 1) := by decide +kernel
theorem dL_leaveCourse_14 : decode cL_leaveCourse 14 = .ok (.ireturn, 1) := by decide +kernel
theorem dL_leaveCourse_15 : decode cL_leaveCourse 15 = .ok (.astore_n 3, 1) := by decide +kernel
theorem dL_leaveCourse_16 : decode cL_leaveCourse 16 = .ok (.iconst 2, 1) := by decide +kernel
theorem dL_leaveCourse_17 : decode cL_leaveCourse 17 = .ok (.ireturn, 1) := by decide +kernel
theorem dL_leaveCourse_18 : decode cL_leaveCourse 18 = .ok (.iconst 0, 1) := by decide +kernel
theorem dL_leaveCourse_19 : decode cL_leaveCourse 19 = .ok (.ireturn, 1) := by decide +kernel
theorem dL_finish_0 : decode cL_finish 0 = .ok (.aload_n 3, 1) := by decide +kernel
theorem dL_finish_1 : decode cL_finish 1 = .ok (.iconst 0, 1) := by decide +kernel
theorem dL_finish_2 : decode cL_finish 2 = .ok (.aload_n 0, 1) := by decide +kernel
theorem dL_finish_3 : decode cL_finish 3 = .ok (.iload_n 1, 1) := by decide +kernel
theorem dL_finish_4 : decode cL_finish 4 = .ok (.iload_n 2, 1) := by decide +kernel
theorem dL_finish_5 : decode cL_finish 5 = .ok (.invokevirtual 57, 3) := by decide +kernel
theorem dL_finish_8 : decode cL_finish 8 = .ok (.i2l, 1) := by decide +kernel
theorem dL_finish_9 : decode cL_finish 9 = .ok (.lastore, 1) := by decide +kernel
theorem dL_finish_10 : decode cL_finish 10 = .ok (.goto 7, 3) := by decide +kernel
theorem dL_finish_13 : decode cL_finish 13 = .ok (.astore 4, 2) := by decide +kernel
theorem dL_finish_15 : decode cL_finish 15 = .ok (.iconst 1, 1) := by decide +kernel
theorem dL_finish_16 : decode cL_finish 16 = .ok (.ireturn, 1) := by decide +kernel
theorem dL_finish_17 : decode cL_finish 17 = .ok (.iconst 0, 1) := by decide +kernel
theorem dL_finish_18 : decode cL_finish 18 = .ok (.ireturn, 1) := by decide +kernel
theorem dL_postpone_0 : decode cL_postpone 0 = .ok (.aload_n 3, 1) := by decide +kernel
theorem dL_postpone_1 : decode cL_postpone 1 = .ok (.iconst 0, 1) := by decide +kernel
theorem dL_postpone_2 : decode cL_postpone 2 = .ok (.aload_n 0, 1) := by decide +kernel
theorem dL_postpone_3 : decode cL_postpone 3 = .ok (.iload_n 1, 1) := by decide +kernel
theorem dL_postpone_4 : decode cL_postpone 4 = .ok (.iload_n 2, 1) := by decide +kernel
theorem dL_postpone_5 : decode cL_postpone 5 = .ok (.invokevirtual 60, 3) := by decide +kernel
theorem dL_postpone_8 : decode cL_postpone 8 = .ok (.i2l, 1) := by decide +kernel
theorem dL_postpone_9 : decode cL_postpone 9 = .ok (.lastore, 1) := by decide +kernel
theorem dL_postpone_10 : decode cL_postpone 10 = .ok (.goto 11, 3) := by decide +kernel
theorem dL_postpone_13 : decode cL_postpone 13 = .ok (.astore 4, 2) := by decide +kernel
theorem dL_postpone_15 : decode cL_postpone 15 = .ok (.iconst 1, 1) := by decide +kernel
theorem dL_postpone_16 : decode cL_postpone 16 = .ok (.ireturn, 1) := by decide +kernel
theorem dL_postpone_17 : decode cL_postpone 17 = .ok (.astore 4, 2) := by decide +kernel
theorem dL_postpone_19 : decode cL_postpone 19 = .ok (.iconst 2, 1) := by decide +kernel
theorem dL_postpone_20 : decode cL_postpone 20 = .ok (.ireturn, 1) := by decide +kernel
theorem dL_postpone_21 : decode cL_postpone 21 = .ok (.iconst 0, 1) := by decide +kernel
theorem dL_postpone_22 : decode cL_postpone 22 = .ok (.ireturn, 1) := by decide +kernel
theorem dL_endDays_0 : decode cL_endDays 0 = .ok (.aload_n 2, 1) := by decide +kernel
theorem dL_endDays_1 : decode cL_endDays 1 = .ok (.iconst 0, 1) := by decide +kernel
theorem dL_endDays_2 : decode cL_endDays 2 = .ok (.aload_n 0, 1) := by decide +kernel
theorem dL_endDays_3 : decode cL_endDays 3 = .ok (.iload_n 1, 1) := by decide +kernel
theorem dL_endDays_4 : decode cL_endDays 4 = .ok (.invokevirtual 63, 3) := by decide +kernel
theorem dL_endDays_7 : decode cL_endDays 7 = .ok (.i2l, 1) := by decide +kernel
theorem dL_endDays_8 : decode cL_endDays 8 = .ok (.lastore, 1) := by decide +kernel
theorem dL_endDays_9 : decode cL_endDays 9 = .ok (.goto 6, 3) := by decide +kernel
theorem dL_endDays_12 : decode cL_endDays 12 = .ok (.astore_n 3, 1) := by decide +kernel
theorem dL_endDays_13 : decode cL_endDays 13 = .ok (.iconst 1, 1) := by decide +kernel
theorem dL_endDays_14 : decode cL_endDays 14 = .ok (.ireturn, 1) := by decide +kernel
theorem dL_endDays_15 : decode cL_endDays 15 = .ok (.iconst 0, 1) := by decide +kernel
theorem dL_endDays_16 : decode cL_endDays 16 = .ok (.ireturn, 1) := by decide +kernel
theorem dL_undo_0 : decode cL_undo 0 = .ok (.aload_n 1, 1) := by decide +kernel
theorem dL_undo_1 : decode cL_undo 1 = .ok (.iconst 0, 1) := by decide +kernel
theorem dL_undo_2 : decode cL_undo 2 = .ok (.aload_n 0, 1) := by decide +kernel
theorem dL_undo_3 : decode cL_undo 3 = .ok (.invokevirtual 66, 3) := by decide +kernel
theorem dL_undo_6 : decode cL_undo 6 = .ok (.i2l, 1) := by decide +kernel
theorem dL_undo_7 : decode cL_undo 7 = .ok (.lastore, 1) := by decide +kernel
theorem dL_undo_8 : decode cL_undo 8 = .ok (.goto 6, 3) := by decide +kernel
theorem dL_undo_11 : decode cL_undo 11 = .ok (.astore_n 2, 1) := by decide +kernel
theorem dL_undo_12 : decode cL_undo 12 = .ok (.iconst 1, 1) := by decide +kernel
theorem dL_undo_13 : decode cL_undo 13 = .ok (.ireturn, 1) := by decide +kernel
theorem dL_undo_14 : decode cL_undo 14 = .ok (.iconst 0, 1) := by decide +kernel
theorem dL_undo_15 : decode cL_undo 15 = .ok (.ireturn, 1) := by decide +kernel
theorem dL_restore_0 : decode cL_restore 0 = .ok (.aload_n 1, 1) := by decide +kernel
theorem dL_restore_1 : decode cL_restore 1 = .ok (.iconst 0, 1) := by decide +kernel
theorem dL_restore_2 : decode cL_restore 2 = .ok (.aload_n 0, 1) := by decide +kernel
theorem dL_restore_3 : decode cL_restore 3 = .ok (.invokevirtual 69, 3) := by decide +kernel
theorem dL_restore_6 : decode cL_restore 6 = .ok (.i2l, 1) := by decide +kernel
theorem dL_restore_7 : decode cL_restore 7 = .ok (.lastore, 1) := by decide +kernel
theorem dL_restore_8 : decode cL_restore 8 = .ok (.goto 6, 3) := by decide +kernel
theorem dL_restore_11 : decode cL_restore 11 = .ok (.astore_n 2, 1) := by decide +kernel
theorem dL_restore_12 : decode cL_restore 12 = .ok (.iconst 1, 1) := by decide +kernel
theorem dL_restore_13 : decode cL_restore 13 = .ok (.ireturn, 1) := by decide +kernel
theorem dL_restore_14 : decode cL_restore 14 = .ok (.iconst 0, 1) := by decide +kernel
theorem dL_restore_15 : decode cL_restore 15 = .ok (.ireturn, 1) := by decide +kernel
theorem dL_count_0 : decode cL_count 0 = .ok (.aload_n 2, 1) := by decide +kernel
theorem dL_count_1 : decode cL_count 1 = .ok (.iconst 0, 1) := by decide +kernel
theorem dL_count_2 : decode cL_count 2 = .ok (.aload_n 0, 1) := by decide +kernel
theorem dL_count_3 : decode cL_count 3 = .ok (.iload_n 1, 1) := by decide +kernel
theorem dL_count_4 : decode cL_count 4 = .ok (.invokevirtual 72, 3) := by decide +kernel
theorem dL_count_7 : decode cL_count 7 = .ok (.i2l, 1) := by decide +kernel
theorem dL_count_8 : decode cL_count 8 = .ok (.lastore, 1) := by decide +kernel
theorem dL_count_9 : decode cL_count 9 = .ok (.goto 6, 3) := by decide +kernel
theorem dL_count_12 : decode cL_count 12 = .ok (.astore_n 3, 1) := by decide +kernel
theorem dL_count_13 : decode cL_count 13 = .ok (.iconst 1, 1) := by decide +kernel
theorem dL_count_14 : decode cL_count 14 = .ok (.ireturn, 1) := by decide +kernel
theorem dL_count_15 : decode cL_count 15 = .ok (.iconst 0, 1) := by decide +kernel
theorem dL_count_16 : decode cL_count 16 = .ok (.ireturn, 1) := by decide +kernel
theorem dL_wall_0 : decode cL_wall 0 = .ok (.aload_n 3, 1) := by decide +kernel
theorem dL_wall_1 : decode cL_wall 1 = .ok (.iconst 0, 1) := by decide +kernel
theorem dL_wall_2 : decode cL_wall 2 = .ok (.aload_n 0, 1) := by decide +kernel
theorem dL_wall_3 : decode cL_wall 3 = .ok (.iload_n 1, 1) := by decide +kernel
theorem dL_wall_4 : decode cL_wall 4 = .ok (.iload_n 2, 1) := by decide +kernel
theorem dL_wall_5 : decode cL_wall 5 = .ok (.invokevirtual 75, 3) := by decide +kernel
theorem dL_wall_8 : decode cL_wall 8 = .ok (.i2l, 1) := by decide +kernel
theorem dL_wall_9 : decode cL_wall 9 = .ok (.lastore, 1) := by decide +kernel
theorem dL_wall_10 : decode cL_wall 10 = .ok (.goto 11, 3) := by decide +kernel
theorem dL_wall_13 : decode cL_wall 13 = .ok (.astore 4, 2) := by decide +kernel
theorem dL_wall_15 : decode cL_wall 15 = .ok (.iconst 1, 1) := by decide +kernel
theorem dL_wall_16 : decode cL_wall 16 = .ok (.ireturn, 1) := by decide +kernel
theorem dL_wall_17 : decode cL_wall 17 = .ok (.astore 4, 2) := by decide +kernel
theorem dL_wall_19 : decode cL_wall 19 = .ok (.iconst 2, 1) := by decide +kernel
theorem dL_wall_20 : decode cL_wall 20 = .ok (.ireturn, 1) := by decide +kernel
theorem dL_wall_21 : decode cL_wall 21 = .ok (.iconst 0, 1) := by decide +kernel
theorem dL_wall_22 : decode cL_wall 22 = .ok (.ireturn, 1) := by decide +kernel
theorem dL_route_0 : decode cL_route 0 = .ok (.aload_n 3, 1) := by decide +kernel
theorem dL_route_1 : decode cL_route 1 = .ok (.iconst 0, 1) := by decide +kernel
theorem dL_route_2 : decode cL_route 2 = .ok (.aload_n 0, 1) := by decide +kernel
theorem dL_route_3 : decode cL_route 3 = .ok (.iload_n 1, 1) := by decide +kernel
theorem dL_route_4 : decode cL_route 4 = .ok (.iload_n 2, 1) := by decide +kernel
theorem dL_route_5 : decode cL_route 5 = .ok (.invokevirtual 78, 3) := by decide +kernel
theorem dL_route_8 : decode cL_route 8 = .ok (.i2l, 1) := by decide +kernel
theorem dL_route_9 : decode cL_route 9 = .ok (.lastore, 1) := by decide +kernel
theorem dL_route_10 : decode cL_route 10 = .ok (.goto 11, 3) := by decide +kernel
theorem dL_route_13 : decode cL_route 13 = .ok (.astore 4, 2) := by decide +kernel
theorem dL_route_15 : decode cL_route 15 = .ok (.iconst 1, 1) := by decide +kernel
theorem dL_route_16 : decode cL_route 16 = .ok (.ireturn, 1) := by decide +kernel
theorem dL_route_17 : decode cL_route 17 = .ok (.astore 4, 2) := by decide +kernel
theorem dL_route_19 : decode cL_route 19 = .ok (.iconst 2, 1) := by decide +kernel
theorem dL_route_20 : decode cL_route 20 = .ok (.ireturn, 1) := by decide +kernel
theorem dL_route_21 : decode cL_route 21 = .ok (.iconst 0, 1) := by decide +kernel
theorem dL_route_22 : decode cL_route 22 = .ok (.ireturn, 1) := by decide +kernel
theorem dL_archived_0 : decode cL_archived 0 = .ok (.aload_n 3, 1) := by decide +kernel
theorem dL_archived_1 : decode cL_archived 1 = .ok (.iconst 0, 1) := by decide +kernel
theorem dL_archived_2 : decode cL_archived 2 = .ok (.aload_n 0, 1) := by decide +kernel
theorem dL_archived_3 : decode cL_archived 3 = .ok (.iload_n 1, 1) := by decide +kernel
theorem dL_archived_4 : decode cL_archived 4 = .ok (.iload_n 2, 1) := by decide +kernel
theorem dL_archived_5 : decode cL_archived 5 = .ok (.invokevirtual 81, 3) := by decide +kernel
theorem dL_archived_8 : decode cL_archived 8 = .ok (.i2l, 1) := by decide +kernel
theorem dL_archived_9 : decode cL_archived 9 = .ok (.lastore, 1) := by decide +kernel
theorem dL_archived_10 : decode cL_archived 10 = .ok (.goto 11, 3) := by decide +kernel
theorem dL_archived_13 : decode cL_archived 13 = .ok (.astore 4, 2) := by decide +kernel
theorem dL_archived_15 : decode cL_archived 15 = .ok (.iconst 1, 1) := by decide +kernel
theorem dL_archived_16 : decode cL_archived 16 = .ok (.ireturn, 1) := by decide +kernel
theorem dL_archived_17 : decode cL_archived 17 = .ok (.astore 4, 2) := by decide +kernel
theorem dL_archived_19 : decode cL_archived 19 = .ok (.iconst 2, 1) := by decide +kernel
theorem dL_archived_20 : decode cL_archived 20 = .ok (.ireturn, 1) := by decide +kernel
theorem dL_archived_21 : decode cL_archived 21 = .ok (.iconst 0, 1) := by decide +kernel
theorem dL_archived_22 : decode cL_archived 22 = .ok (.ireturn, 1) := by decide +kernel
theorem dL_member_0 : decode cL_member 0 = .ok (.aload_n 3, 1) := by decide +kernel
theorem dL_member_1 : decode cL_member 1 = .ok (.iconst 0, 1) := by decide +kernel
theorem dL_member_2 : decode cL_member 2 = .ok (.aload_n 0, 1) := by decide +kernel
theorem dL_member_3 : decode cL_member 3 = .ok (.iload_n 1, 1) := by decide +kernel
theorem dL_member_4 : decode cL_member 4 = .ok (.iload_n 2, 1) := by decide +kernel
theorem dL_member_5 : decode cL_member 5 = .ok (.invokevirtual 84, 3) := by decide +kernel
theorem dL_member_8 : decode cL_member 8 = .ok (.i2l, 1) := by decide +kernel
theorem dL_member_9 : decode cL_member 9 = .ok (.lastore, 1) := by decide +kernel
theorem dL_member_10 : decode cL_member 10 = .ok (.goto 11, 3) := by decide +kernel
theorem dL_member_13 : decode cL_member 13 = .ok (.astore 4, 2) := by decide +kernel
theorem dL_member_15 : decode cL_member 15 = .ok (.iconst 1, 1) := by decide +kernel
theorem dL_member_16 : decode cL_member 16 = .ok (.ireturn, 1) := by decide +kernel
theorem dL_member_17 : decode cL_member 17 = .ok (.astore 4, 2) := by decide +kernel
theorem dL_member_19 : decode cL_member 19 = .ok (.iconst 2, 1) := by decide +kernel
theorem dL_member_20 : decode cL_member 20 = .ok (.ireturn, 1) := by decide +kernel
theorem dL_member_21 : decode cL_member 21 = .ok (.iconst 0, 1) := by decide +kernel
theorem dL_member_22 : decode cL_member 22 = .ok (.ireturn, 1) := by decide +kernel
theorem dL_harness_0 : decode cL_harness 0 = .ok (.aload_n 3, 1) := by decide +kernel
theorem dL_harness_1 : decode cL_harness 1 = .ok (.iconst 0, 1) := by decide +kernel
theorem dL_harness_2 : decode cL_harness 2 = .ok (.aload_n 0, 1) := by decide +kernel
theorem dL_harness_3 : decode cL_harness 3 = .ok (.iload_n 1, 1) := by decide +kernel
theorem dL_harness_4 : decode cL_harness 4 = .ok (.iload_n 2, 1) := by decide +kernel
theorem dL_harness_5 : decode cL_harness 5 = .ok (.invokevirtual 87, 3) := by decide +kernel
theorem dL_harness_8 : decode cL_harness 8 = .ok (.i2l, 1) := by decide +kernel
theorem dL_harness_9 : decode cL_harness 9 = .ok (.lastore, 1) := by decide +kernel
theorem dL_harness_10 : decode cL_harness 10 = .ok (.goto 11, 3) := by decide +kernel
theorem dL_harness_13 : decode cL_harness 13 = .ok (.astore 4, 2) := by decide +kernel
theorem dL_harness_15 : decode cL_harness 15 = .ok (.iconst 1, 1) := by decide +kernel
theorem dL_harness_16 : decode cL_harness 16 = .ok (.ireturn, 1) := by decide +kernel
theorem dL_harness_17 : decode cL_harness 17 = .ok (.astore 4, 2) := by decide +kernel
theorem dL_harness_19 : decode cL_harness 19 = .ok (.iconst 2, 1) := by decide +kernel
theorem dL_harness_20 : decode cL_harness 20 = .ok (.ireturn, 1) := by decide +kernel
theorem dL_harness_21 : decode cL_harness 21 = .ok (.iconst 0, 1) := by decide +kernel
theorem dL_harness_22 : decode cL_harness 22 = .ok (.ireturn, 1) := by decide +kernel
theorem dL_course_0 : decode cL_course 0 = .ok (.aload_n 3, 1) := by decide +kernel
theorem dL_course_1 : decode cL_course 1 = .ok (.iconst 0, 1) := by decide +kernel
theorem dL_course_2 : decode cL_course 2 = .ok (.aload_n 0, 1) := by decide +kernel
theorem dL_course_3 : decode cL_course 3 = .ok (.iload_n 1, 1) := by decide +kernel
theorem dL_course_4 : decode cL_course 4 = .ok (.iload_n 2, 1) := by decide +kernel
theorem dL_course_5 : decode cL_course 5 = .ok (.invokevirtual 90, 3) := by decide +kernel
theorem dL_course_8 : decode cL_course 8 = .ok (.i2l, 1) := by decide +kernel
theorem dL_course_9 : decode cL_course 9 = .ok (.lastore, 1) := by decide +kernel
theorem dL_course_10 : decode cL_course 10 = .ok (.goto 11, 3) := by decide +kernel
theorem dL_course_13 : decode cL_course 13 = .ok (.astore 4, 2) := by decide +kernel
theorem dL_course_15 : decode cL_course 15 = .ok (.iconst 1, 1) := by decide +kernel
theorem dL_course_16 : decode cL_course 16 = .ok (.ireturn, 1) := by decide +kernel
theorem dL_course_17 : decode cL_course 17 = .ok (.astore 4, 2) := by decide +kernel
theorem dL_course_19 : decode cL_course 19 = .ok (.iconst 2, 1) := by decide +kernel
theorem dL_course_20 : decode cL_course 20 = .ok (.ireturn, 1) := by decide +kernel
theorem dL_course_21 : decode cL_course 21 = .ok (.iconst 0, 1) := by decide +kernel
theorem dL_course_22 : decode cL_course 22 = .ok (.ireturn, 1) := by decide +kernel
theorem dL_bill_0 : decode cL_bill 0 = .ok (.aload 4, 2) := by decide +kernel
theorem dL_bill_2 : decode cL_bill 2 = .ok (.iconst 0, 1) := by decide +kernel
theorem dL_bill_3 : decode cL_bill 3 = .ok (.aload_n 0, 1) := by decide +kernel
theorem dL_bill_4 : decode cL_bill 4 = .ok (.iload_n 1, 1) := by decide +kernel
theorem dL_bill_5 : decode cL_bill 5 = .ok (.iload_n 2, 1) := by decide +kernel
theorem dL_bill_6 : decode cL_bill 6 = .ok (.iload_n 3, 1) := by decide +kernel
theorem dL_bill_7 : decode cL_bill 7 = .ok (.invokevirtual 93, 3) := by decide +kernel
theorem dL_bill_10 : decode cL_bill 10 = .ok (.i2l, 1) := by decide +kernel
theorem dL_bill_11 : decode cL_bill 11 = .ok (.lastore, 1) := by decide +kernel
theorem dL_bill_12 : decode cL_bill 12 = .ok (.goto 11, 3) := by decide +kernel
theorem dL_bill_15 : decode cL_bill 15 = .ok (.astore 5, 2) := by decide +kernel
theorem dL_bill_17 : decode cL_bill 17 = .ok (.iconst 1, 1) := by decide +kernel
theorem dL_bill_18 : decode cL_bill 18 = .ok (.ireturn, 1) := by decide +kernel
theorem dL_bill_19 : decode cL_bill 19 = .ok (.astore 5, 2) := by decide +kernel
theorem dL_bill_21 : decode cL_bill 21 = .ok (.iconst 2, 1) := by decide +kernel
theorem dL_bill_22 : decode cL_bill 22 = .ok (.ireturn, 1) := by decide +kernel
theorem dL_bill_23 : decode cL_bill 23 = .ok (.iconst 0, 1) := by decide +kernel
theorem dL_bill_24 : decode cL_bill 24 = .ok (.ireturn, 1) := by decide +kernel
theorem dL_grade_0 : decode cL_grade 0 = .ok (.aload_n 2, 1) := by decide +kernel
theorem dL_grade_1 : decode cL_grade 1 = .ok (.iconst 0, 1) := by decide +kernel
theorem dL_grade_2 : decode cL_grade 2 = .ok (.aload_n 0, 1) := by decide +kernel
theorem dL_grade_3 : decode cL_grade 3 = .ok (.iload_n 1, 1) := by decide +kernel
theorem dL_grade_4 : decode cL_grade 4 = .ok (.invokevirtual 98, 3) := by decide +kernel
theorem dL_grade_7 : decode cL_grade 7 = .ok (.i2l, 1) := by decide +kernel
theorem dL_grade_8 : decode cL_grade 8 = .ok (.lastore, 1) := by decide +kernel
theorem dL_grade_9 : decode cL_grade 9 = .ok (.goto 6, 3) := by decide +kernel
theorem dL_grade_12 : decode cL_grade 12 = .ok (.astore_n 3, 1) := by decide +kernel
theorem dL_grade_13 : decode cL_grade 13 = .ok (.iconst 1, 1) := by decide +kernel
theorem dL_grade_14 : decode cL_grade 14 = .ok (.ireturn, 1) := by decide +kernel
theorem dL_grade_15 : decode cL_grade 15 = .ok (.iconst 0, 1) := by decide +kernel
theorem dL_grade_16 : decode cL_grade 16 = .ok (.ireturn, 1) := by decide +kernel
theorem dL_meanGrade_0 : decode cL_meanGrade 0 = .ok (.aload_n 3, 1) := by decide +kernel
theorem dL_meanGrade_1 : decode cL_meanGrade 1 = .ok (.iconst 0, 1) := by decide +kernel
theorem dL_meanGrade_2 : decode cL_meanGrade 2 = .ok (.aload_n 0, 1) := by decide +kernel
theorem dL_meanGrade_3 : decode cL_meanGrade 3 = .ok (.iload_n 1, 1) := by decide +kernel
theorem dL_meanGrade_4 : decode cL_meanGrade 4 = .ok (.iload_n 2, 1) := by decide +kernel
theorem dL_meanGrade_5 : decode cL_meanGrade 5 = .ok (.invokevirtual 101, 3) := by decide +kernel
theorem dL_meanGrade_8 : decode cL_meanGrade 8 = .ok (.i2l, 1) := by decide +kernel
theorem dL_meanGrade_9 : decode cL_meanGrade 9 = .ok (.lastore, 1) := by decide +kernel
theorem dL_meanGrade_10 : decode cL_meanGrade 10 = .ok (.goto 7, 3) := by decide +kernel
theorem dL_meanGrade_13 : decode cL_meanGrade 13 = .ok (.astore 4, 2) := by decide +kernel
theorem dL_meanGrade_15 : decode cL_meanGrade 15 = .ok (.iconst 1, 1) := by decide +kernel
theorem dL_meanGrade_16 : decode cL_meanGrade 16 = .ok (.ireturn, 1) := by decide +kernel
theorem dL_meanGrade_17 : decode cL_meanGrade 17 = .ok (.iconst 0, 1) := by decide +kernel
theorem dL_meanGrade_18 : decode cL_meanGrade 18 = .ok (.ireturn, 1) := by decide +kernel
theorem dL_voteOf_0 : decode cL_voteOf 0 = .ok (.aload_n 3, 1) := by decide +kernel
theorem dL_voteOf_1 : decode cL_voteOf 1 = .ok (.iconst 0, 1) := by decide +kernel
theorem dL_voteOf_2 : decode cL_voteOf 2 = .ok (.aload_n 0, 1) := by decide +kernel
theorem dL_voteOf_3 : decode cL_voteOf 3 = .ok (.iload_n 1, 1) := by decide +kernel
theorem dL_voteOf_4 : decode cL_voteOf 4 = .ok (.iload_n 2, 1) := by decide +kernel
theorem dL_voteOf_5 : decode cL_voteOf 5 = .ok (.invokevirtual 104, 3) := by decide +kernel
theorem dL_voteOf_8 : decode cL_voteOf 8 = .ok (.i2l, 1) := by decide +kernel
theorem dL_voteOf_9 : decode cL_voteOf 9 = .ok (.lastore, 1) := by decide +kernel
theorem dL_voteOf_10 : decode cL_voteOf 10 = .ok (.goto 11, 3) := by decide +kernel
theorem dL_voteOf_13 : decode cL_voteOf 13 = .ok (.astore 4, 2) := by decide +kernel
theorem dL_voteOf_15 : decode cL_voteOf 15 = .ok (.iconst 1, 1) := by decide +kernel
theorem dL_voteOf_16 : decode cL_voteOf 16 = .ok (.ireturn, 1) := by decide +kernel
theorem dL_voteOf_17 : decode cL_voteOf 17 = .ok (.astore 4, 2) := by decide +kernel
theorem dL_voteOf_19 : decode cL_voteOf 19 = .ok (.iconst 2, 1) := by decide +kernel
theorem dL_voteOf_20 : decode cL_voteOf 20 = .ok (.ireturn, 1) := by decide +kernel
theorem dL_voteOf_21 : decode cL_voteOf 21 = .ok (.iconst 0, 1) := by decide +kernel
theorem dL_voteOf_22 : decode cL_voteOf 22 = .ok (.ireturn, 1) := by decide +kernel
theorem dL_gradeWith_0 : decode cL_gradeWith 0 = .ok (.aload 4, 2) := by decide +kernel
theorem dL_gradeWith_2 : decode cL_gradeWith 2 = .ok (.iconst 0, 1) := by decide +kernel
theorem dL_gradeWith_3 : decode cL_gradeWith 3 = .ok (.aload_n 0, 1) := by decide +kernel
theorem dL_gradeWith_4 : decode cL_gradeWith 4 = .ok (.iload_n 1, 1) := by decide +kernel
theorem dL_gradeWith_5 : decode cL_gradeWith 5 = .ok (.iload_n 2, 1) := by decide +kernel
theorem dL_gradeWith_6 : decode cL_gradeWith 6 = .ok (.iload_n 3, 1) := by decide +kernel
theorem dL_gradeWith_7 : decode cL_gradeWith 7 = .ok (.invokevirtual 109, 3) := by decide +kernel
theorem dL_gradeWith_10 : decode cL_gradeWith 10 = .ok (.i2l, 1) := by decide +kernel
theorem dL_gradeWith_11 : decode cL_gradeWith 11 = .ok (.lastore, 1) := by decide +kernel
theorem dL_gradeWith_12 : decode cL_gradeWith 12 = .ok (.goto 11, 3) := by decide +kernel
theorem dL_gradeWith_15 : decode cL_gradeWith 15 = .ok (.astore 5, 2) := by decide +kernel
theorem dL_gradeWith_17 : decode cL_gradeWith 17 = .ok (.iconst 1, 1) := by decide +kernel
theorem dL_gradeWith_18 : decode cL_gradeWith 18 = .ok (.ireturn, 1) := by decide +kernel
theorem dL_gradeWith_19 : decode cL_gradeWith 19 = .ok (.astore 5, 2) := by decide +kernel
theorem dL_gradeWith_21 : decode cL_gradeWith 21 = .ok (.iconst 2, 1) := by decide +kernel
theorem dL_gradeWith_22 : decode cL_gradeWith 22 = .ok (.ireturn, 1) := by decide +kernel
theorem dL_gradeWith_23 : decode cL_gradeWith 23 = .ok (.iconst 0, 1) := by decide +kernel
theorem dL_gradeWith_24 : decode cL_gradeWith 24 = .ok (.ireturn, 1) := by decide +kernel
theorem dL_votesTo_0 : decode cL_votesTo 0 = .ok (.aload_n 3, 1) := by decide +kernel
theorem dL_votesTo_1 : decode cL_votesTo 1 = .ok (.iconst 0, 1) := by decide +kernel
theorem dL_votesTo_2 : decode cL_votesTo 2 = .ok (.aload_n 0, 1) := by decide +kernel
theorem dL_votesTo_3 : decode cL_votesTo 3 = .ok (.iload_n 1, 1) := by decide +kernel
theorem dL_votesTo_4 : decode cL_votesTo 4 = .ok (.iload_n 2, 1) := by decide +kernel
theorem dL_votesTo_5 : decode cL_votesTo 5 = .ok (.invokevirtual 112, 3) := by decide +kernel
theorem dL_votesTo_8 : decode cL_votesTo 8 = .ok (.i2l, 1) := by decide +kernel
theorem dL_votesTo_9 : decode cL_votesTo 9 = .ok (.lastore, 1) := by decide +kernel
theorem dL_votesTo_10 : decode cL_votesTo 10 = .ok (.goto 15, 3) := by decide +kernel
theorem dL_votesTo_13 : decode cL_votesTo 13 = .ok (.astore 4, 2) := by decide +kernel
theorem dL_votesTo_15 : decode cL_votesTo 15 = .ok (.iconst 1, 1) := by decide +kernel
theorem dL_votesTo_16 : decode cL_votesTo 16 = .ok (.ireturn, 1) := by decide +kernel
theorem dL_votesTo_17 : decode cL_votesTo 17 = .ok (.astore 4, 2) := by decide +kernel
theorem dL_votesTo_19 : decode cL_votesTo 19 = .ok (.iconst 2, 1) := by decide +kernel
theorem dL_votesTo_20 : decode cL_votesTo 20 = .ok (.ireturn, 1) := by decide +kernel
theorem dL_votesTo_21 : decode cL_votesTo 21 = .ok (.astore 4, 2) := by decide +kernel
theorem dL_votesTo_23 : decode cL_votesTo 23 = .ok (.iconst 3, 1) := by decide +kernel
theorem dL_votesTo_24 : decode cL_votesTo 24 = .ok (.ireturn, 1) := by decide +kernel
theorem dL_votesTo_25 : decode cL_votesTo 25 = .ok (.iconst 0, 1) := by decide +kernel
theorem dL_votesTo_26 : decode cL_votesTo 26 = .ok (.ireturn, 1) := by decide +kernel
theorem dL_disputed_0 : decode cL_disputed 0 = .ok (.aload_n 1, 1) := by decide +kernel
theorem dL_disputed_1 : decode cL_disputed 1 = .ok (.iconst 0, 1) := by decide +kernel
theorem dL_disputed_2 : decode cL_disputed 2 = .ok (.aload_n 0, 1) := by decide +kernel
theorem dL_disputed_3 : decode cL_disputed 3 = .ok (.invokevirtual 115, 3) := by decide +kernel
theorem dL_disputed_6 : decode cL_disputed 6 = .ok (.i2l, 1) := by decide +kernel
theorem dL_disputed_7 : decode cL_disputed 7 = .ok (.lastore, 1) := by decide +kernel
theorem dL_disputed_8 : decode cL_disputed 8 = .ok (.goto 6, 3) := by decide +kernel
theorem dL_disputed_11 : decode cL_disputed 11 = .ok (.astore_n 2, 1) := by decide +kernel
theorem dL_disputed_12 : decode cL_disputed 12 = .ok (.iconst 1, 1) := by decide +kernel
theorem dL_disputed_13 : decode cL_disputed 13 = .ok (.ireturn, 1) := by decide +kernel
theorem dL_disputed_14 : decode cL_disputed 14 = .ok (.iconst 0, 1) := by decide +kernel
theorem dL_disputed_15 : decode cL_disputed 15 = .ok (.ireturn, 1) := by decide +kernel
theorem dL_hardest_0 : decode cL_hardest 0 = .ok (.aload_n 2, 1) := by decide +kernel
theorem dL_hardest_1 : decode cL_hardest 1 = .ok (.iconst 0, 1) := by decide +kernel
theorem dL_hardest_2 : decode cL_hardest 2 = .ok (.aload_n 0, 1) := by decide +kernel
theorem dL_hardest_3 : decode cL_hardest 3 = .ok (.iload_n 1, 1) := by decide +kernel
theorem dL_hardest_4 : decode cL_hardest 4 = .ok (.invokevirtual 118, 3) := by decide +kernel
theorem dL_hardest_7 : decode cL_hardest 7 = .ok (.i2l, 1) := by decide +kernel
theorem dL_hardest_8 : decode cL_hardest 8 = .ok (.lastore, 1) := by decide +kernel
theorem dL_hardest_9 : decode cL_hardest 9 = .ok (.goto 9, 3) := by decide +kernel
theorem dL_hardest_12 : decode cL_hardest 12 = .ok (.astore_n 3, 1) := by decide +kernel
theorem dL_hardest_13 : decode cL_hardest 13 = .ok (.iconst 1, 1) := by decide +kernel
theorem dL_hardest_14 : decode cL_hardest 14 = .ok (.ireturn, 1) := by decide +kernel
theorem dL_hardest_15 : decode cL_hardest 15 = .ok (.astore_n 3, 1) := by decide +kernel
theorem dL_hardest_16 : decode cL_hardest 16 = .ok (.iconst 2, 1) := by decide +kernel
theorem dL_hardest_17 : decode cL_hardest 17 = .ok (.ireturn, 1) := by decide +kernel
theorem dL_hardest_18 : decode cL_hardest 18 = .ok (.iconst 0, 1) := by decide +kernel
theorem dL_hardest_19 : decode cL_hardest 19 = .ok (.ireturn, 1) := by decide +kernel
theorem dL_climbsLeft_0 : decode cL_climbsLeft 0 = .ok (.aload_n 2, 1) := by decide +kernel
theorem dL_climbsLeft_1 : decode cL_climbsLeft 1 = .ok (.iconst 0, 1) := by decide +kernel
theorem dL_climbsLeft_2 : decode cL_climbsLeft 2 = .ok (.aload_n 0, 1) := by decide +kernel
theorem dL_climbsLeft_3 : decode cL_climbsLeft 3 = .ok (.iload_n 1, 1) := by decide +kernel
theorem dL_climbsLeft_4 : decode cL_climbsLeft 4 = .ok (.invokevirtual 121, 3) := by decide +kernel
theorem dL_climbsLeft_7 : decode cL_climbsLeft 7 = .ok (.i2l, 1) := by decide +kernel
theorem dL_climbsLeft_8 : decode cL_climbsLeft 8 = .ok (.lastore, 1) := by decide +kernel
theorem dL_climbsLeft_9 : decode cL_climbsLeft 9 = .ok (.goto 6, 3) := by decide +kernel
theorem dL_climbsLeft_12 : decode cL_climbsLeft 12 = .ok (.astore_n 3, 1) := by decide +kernel
theorem dL_climbsLeft_13 : decode cL_climbsLeft 13 = .ok (.iconst 1, 1) := by decide +kernel
theorem dL_climbsLeft_14 : decode cL_climbsLeft 14 = .ok (.ireturn, 1) := by decide +kernel
theorem dL_climbsLeft_15 : decode cL_climbsLeft 15 = .ok (.iconst 0, 1) := by decide +kernel
theorem dL_climbsLeft_16 : decode cL_climbsLeft 16 = .ok (.ireturn, 1) := by decide +kernel
theorem dL_averageGrade_0 : decode cL_averageGrade 0 = .ok (.aload_n 1, 1) := by decide +kernel
theorem dL_averageGrade_1 : decode cL_averageGrade 1 = .ok (.iconst 0, 1) := by decide +kernel
theorem dL_averageGrade_2 : decode cL_averageGrade 2 = .ok (.aload_n 0, 1) := by decide +kernel
theorem dL_averageGrade_3 : decode cL_averageGrade 3 = .ok (.invokevirtual 124, 3) := by decide +kernel
theorem dL_averageGrade_6 : decode cL_averageGrade 6 = .ok (.dastore, 1) := by decide +kernel
theorem dL_averageGrade_7 : decode cL_averageGrade 7 = .ok (.goto 6, 3) := by decide +kernel
theorem dL_averageGrade_10 : decode cL_averageGrade 10 = .ok (.astore_n 2, 1) := by decide +kernel
theorem dL_averageGrade_11 : decode cL_averageGrade 11 = .ok (.iconst 1, 1) := by decide +kernel
theorem dL_averageGrade_12 : decode cL_averageGrade 12 = .ok (.ireturn, 1) := by decide +kernel
theorem dL_averageGrade_13 : decode cL_averageGrade 13 = .ok (.iconst 0, 1) := by decide +kernel
theorem dL_averageGrade_14 : decode cL_averageGrade 14 = .ok (.ireturn, 1) := by decide +kernel
theorem dL_openWalls_0 : decode cL_openWalls 0 = .ok (.aload_n 2, 1) := by decide +kernel
theorem dL_openWalls_1 : decode cL_openWalls 1 = .ok (.iconst 0, 1) := by decide +kernel
theorem dL_openWalls_2 : decode cL_openWalls 2 = .ok (.aload_n 0, 1) := by decide +kernel
theorem dL_openWalls_3 : decode cL_openWalls 3 = .ok (.iload_n 1, 1) := by decide +kernel
theorem dL_openWalls_4 : decode cL_openWalls 4 = .ok (.invokevirtual 128, 3) := by decide +kernel
theorem dL_openWalls_7 : decode cL_openWalls 7 = .ok (.i2l, 1) := by decide +kernel
theorem dL_openWalls_8 : decode cL_openWalls 8 = .ok (.lastore, 1) := by decide +kernel
theorem dL_openWalls_9 : decode cL_openWalls 9 = .ok (.goto 6, 3) := by decide +kernel
theorem dL_openWalls_12 : decode cL_openWalls 12 = .ok (.astore_n 3, 1) := by decide +kernel
theorem dL_openWalls_13 : decode cL_openWalls 13 = .ok (.iconst 1, 1) := by decide +kernel
theorem dL_openWalls_14 : decode cL_openWalls 14 = .ok (.ireturn, 1) := by decide +kernel
theorem dL_openWalls_15 : decode cL_openWalls 15 = .ok (.iconst 0, 1) := by decide +kernel
theorem dL_openWalls_16 : decode cL_openWalls 16 = .ok (.ireturn, 1) := by decide +kernel
theorem dL_worstDay_0 : decode cL_worstDay 0 = .ok (.aload_n 2, 1) := by decide +kernel
theorem dL_worstDay_1 : decode cL_worstDay 1 = .ok (.iconst 0, 1) := by decide +kernel
theorem dL_worstDay_2 : decode cL_worstDay 2 = .ok (.aload_n 0, 1) := by decide +kernel
theorem dL_worstDay_3 : decode cL_worstDay 3 = .ok (.iload_n 1, 1) := by decide +kernel
theorem dL_worstDay_4 : decode cL_worstDay 4 = .ok (.invokevirtual 131, 3) := by decide +kernel
theorem dL_worstDay_7 : decode cL_worstDay 7 = .ok (.i2l, 1) := by decide +kernel
theorem dL_worstDay_8 : decode cL_worstDay 8 = .ok (.lastore, 1) := by decide +kernel
theorem dL_worstDay_9 : decode cL_worstDay 9 = .ok (.goto 6, 3) := by decide +kernel
theorem dL_worstDay_12 : decode cL_worstDay 12 = .ok (.astore_n 3, 1) := by decide +kernel
theorem dL_worstDay_13 : decode cL_worstDay 13 = .ok (.iconst 1, 1) := by decide +kernel
theorem dL_worstDay_14 : decode cL_worstDay 14 = .ok (.ireturn, 1) := by decide +kernel
theorem dL_worstDay_15 : decode cL_worstDay 15 = .ok (.iconst 0, 1) := by decide +kernel
theorem dL_worstDay_16 : decode cL_worstDay 16 = .ok (.ireturn, 1) := by decide +kernel
theorem dL_shiftFor_0 : decode cL_shiftFor 0 = .ok (.aload_n 2, 1) := by decide +kernel
theorem dL_shiftFor_1 : decode cL_shiftFor 1 = .ok (.iconst 0, 1) := by decide +kernel
theorem dL_shiftFor_2 : decode cL_shiftFor 2 = .ok (.aload_n 0, 1) := by decide +kernel
theorem dL_shiftFor_3 : decode cL_shiftFor 3 = .ok (.iload_n 1, 1) := by decide +kernel
theorem dL_shiftFor_4 : decode cL_shiftFor 4 = .ok (.invokevirtual 134, 3) := by decide +kernel
theorem dL_shiftFor_7 : decode cL_shiftFor 7 = .ok (.i2l, 1) := by decide +kernel
theorem dL_shiftFor_8 : decode cL_shiftFor 8 = .ok (.lastore, 1) := by decide +kernel
theorem dL_shiftFor_9 : decode cL_shiftFor 9 = .ok (.goto 9, 3) := by decide +kernel
theorem dL_shiftFor_12 : decode cL_shiftFor 12 = .ok (.astore_n 3, 1) := by decide +kernel
theorem dL_shiftFor_13 : decode cL_shiftFor 13 = .ok (.iconst 1, 1) := by decide +kernel
theorem dL_shiftFor_14 : decode cL_shiftFor 14 = .ok (.ireturn, 1) := by decide +kernel
theorem dL_shiftFor_15 : decode cL_shiftFor 15 = .ok (.astore_n 3, 1) := by decide +kernel
theorem dL_shiftFor_16 : decode cL_shiftFor 16 = .ok (.iconst 2, 1) := by decide +kernel
theorem dL_shiftFor_17 : decode cL_shiftFor 17 = .ok (.ireturn, 1) := by decide +kernel
theorem dL_shiftFor_18 : decode cL_shiftFor 18 = .ok (.iconst 0, 1) := by decide +kernel
theorem dL_shiftFor_19 : decode cL_shiftFor 19 = .ok (.ireturn, 1) := by decide +kernel
theorem dL_lendable_0 : decode cL_lendable 0 = .ok (.aload_n 2, 1) := by decide +kernel
theorem dL_lendable_1 : decode cL_lendable 1 = .ok (.iconst 0, 1) := by decide +kernel
theorem dL_lendable_2 : decode cL_lendable 2 = .ok (.aload_n 0, 1) := by decide +kernel
theorem dL_lendable_3 : decode cL_lendable 3 = .ok (.iload_n 1, 1) := by decide +kernel
theorem dL_lendable_4 : decode cL_lendable 4 = .ok (.invokevirtual 137, 3) := by decide +kernel
theorem dL_lendable_7 : decode cL_lendable 7 = .ok (.i2l, 1) := by decide +kernel
theorem dL_lendable_8 : decode cL_lendable 8 = .ok (.lastore, 1) := by decide +kernel
theorem dL_lendable_9 : decode cL_lendable 9 = .ok (.goto 6, 3) := by decide +kernel
theorem dL_lendable_12 : decode cL_lendable 12 = .ok (.astore_n 3, 1) := by decide +kernel
theorem dL_lendable_13 : decode cL_lendable 13 = .ok (.iconst 1, 1) := by decide +kernel
theorem dL_lendable_14 : decode cL_lendable 14 = .ok (.ireturn, 1) := by decide +kernel
theorem dL_lendable_15 : decode cL_lendable 15 = .ok (.iconst 0, 1) := by decide +kernel
theorem dL_lendable_16 : decode cL_lendable 16 = .ok (.ireturn, 1) := by decide +kernel
theorem dL_lapsing_0 : decode cL_lapsing 0 = .ok (.aload_n 2, 1) := by decide +kernel
theorem dL_lapsing_1 : decode cL_lapsing 1 = .ok (.iconst 0, 1) := by decide +kernel
theorem dL_lapsing_2 : decode cL_lapsing 2 = .ok (.aload_n 0, 1) := by decide +kernel
theorem dL_lapsing_3 : decode cL_lapsing 3 = .ok (.iload_n 1, 1) := by decide +kernel
theorem dL_lapsing_4 : decode cL_lapsing 4 = .ok (.invokevirtual 140, 3) := by decide +kernel
theorem dL_lapsing_7 : decode cL_lapsing 7 = .ok (.i2l, 1) := by decide +kernel
theorem dL_lapsing_8 : decode cL_lapsing 8 = .ok (.lastore, 1) := by decide +kernel
theorem dL_lapsing_9 : decode cL_lapsing 9 = .ok (.goto 6, 3) := by decide +kernel
theorem dL_lapsing_12 : decode cL_lapsing 12 = .ok (.astore_n 3, 1) := by decide +kernel
theorem dL_lapsing_13 : decode cL_lapsing 13 = .ok (.iconst 1, 1) := by decide +kernel
theorem dL_lapsing_14 : decode cL_lapsing 14 = .ok (.ireturn, 1) := by decide +kernel
theorem dL_lapsing_15 : decode cL_lapsing 15 = .ok (.iconst 0, 1) := by decide +kernel
theorem dL_lapsing_16 : decode cL_lapsing 16 = .ok (.ireturn, 1) := by decide +kernel
theorem dL_checksNeeded_0 : decode cL_checksNeeded 0 = .ok (.aload_n 3, 1) := by decide +kernel
theorem dL_checksNeeded_1 : decode cL_checksNeeded 1 = .ok (.iconst 0, 1) := by decide +kernel
theorem dL_checksNeeded_2 : decode cL_checksNeeded 2 = .ok (.aload_n 0, 1) := by decide +kernel
theorem dL_checksNeeded_3 : decode cL_checksNeeded 3 = .ok (.iload_n 1, 1) := by decide +kernel
theorem dL_checksNeeded_4 : decode cL_checksNeeded 4 = .ok (.iload_n 2, 1) := by decide +kernel
theorem dL_checksNeeded_5 : decode cL_checksNeeded 5 = .ok (.invokevirtual 143, 3) := by decide +kernel
theorem dL_checksNeeded_8 : decode cL_checksNeeded 8 = .ok (.i2l, 1) := by decide +kernel
theorem dL_checksNeeded_9 : decode cL_checksNeeded 9 = .ok (.lastore, 1) := by decide +kernel
theorem dL_checksNeeded_10 : decode cL_checksNeeded 10 = .ok (.goto 11, 3) := by decide +kernel
theorem dL_checksNeeded_13 : decode cL_checksNeeded 13 = .ok (.astore 4, 2) := by decide +kernel
theorem dL_checksNeeded_15 : decode cL_checksNeeded 15 = .ok (.iconst 1, 1) := by decide +kernel
theorem dL_checksNeeded_16 : decode cL_checksNeeded 16 = .ok (.ireturn, 1) := by decide +kernel
theorem dL_checksNeeded_17 : decode cL_checksNeeded 17 = .ok (.astore 4, 2) := by decide +kernel
theorem dL_checksNeeded_19 : decode cL_checksNeeded 19 = .ok (.iconst 2, 1) := by decide +kernel
theorem dL_checksNeeded_20 : decode cL_checksNeeded 20 = .ok (.ireturn, 1) := by decide +kernel
theorem dL_checksNeeded_21 : decode cL_checksNeeded 21 = .ok (.iconst 0, 1) := by decide +kernel
theorem dL_checksNeeded_22 : decode cL_checksNeeded 22 = .ok (.ireturn, 1) := by decide +kernel
theorem dL_allowedRoutes_0 : decode cL_allowedRoutes 0 = .ok (.aload_n 2, 1) := by decide +kernel
theorem dL_allowedRoutes_1 : decode cL_allowedRoutes 1 = .ok (.iconst 0, 1) := by decide +kernel
theorem dL_allowedRoutes_2 : decode cL_allowedRoutes 2 = .ok (.aload_n 0, 1) := by decide +kernel
theorem dL_allowedRoutes_3 : decode cL_allowedRoutes 3 = .ok (.iload_n 1, 1) := by decide +kernel
theorem dL_allowedRoutes_4 : decode cL_allowedRoutes 4 = .ok (.invokevirtual 146, 3) := by decide +kernel
theorem dL_allowedRoutes_7 : decode cL_allowedRoutes 7 = .ok (.i2l, 1) := by decide +kernel
theorem dL_allowedRoutes_8 : decode cL_allowedRoutes 8 = .ok (.lastore, 1) := by decide +kernel
theorem dL_allowedRoutes_9 : decode cL_allowedRoutes 9 = .ok (.goto 6, 3) := by decide +kernel
theorem dL_allowedRoutes_12 : decode cL_allowedRoutes 12 = .ok (.astore_n 3, 1) := by decide +kernel
theorem dL_allowedRoutes_13 : decode cL_allowedRoutes 13 = .ok (.iconst 1, 1) := by decide +kernel
theorem dL_allowedRoutes_14 : decode cL_allowedRoutes 14 = .ok (.ireturn, 1) := by decide +kernel
theorem dL_allowedRoutes_15 : decode cL_allowedRoutes 15 = .ok (.iconst 0, 1) := by decide +kernel
theorem dL_allowedRoutes_16 : decode cL_allowedRoutes 16 = .ok (.ireturn, 1) := by decide +kernel
theorem dL_ladder_0 : decode cL_ladder 0 = .ok (.aload_n 3, 1) := by decide +kernel
theorem dL_ladder_1 : decode cL_ladder 1 = .ok (.iconst 0, 1) := by decide +kernel
theorem dL_ladder_2 : decode cL_ladder 2 = .ok (.aload_n 0, 1) := by decide +kernel
theorem dL_ladder_3 : decode cL_ladder 3 = .ok (.iload_n 1, 1) := by decide +kernel
theorem dL_ladder_4 : decode cL_ladder 4 = .ok (.iload_n 2, 1) := by decide +kernel
theorem dL_ladder_5 : decode cL_ladder 5 = .ok (.invokevirtual 149, 3) := by decide +kernel
theorem dL_ladder_8 : decode cL_ladder 8 = .ok (.i2l, 1) := by decide +kernel
theorem dL_ladder_9 : decode cL_ladder 9 = .ok (.lastore, 1) := by decide +kernel
theorem dL_ladder_10 : decode cL_ladder 10 = .ok (.goto 15, 3) := by decide +kernel
theorem dL_ladder_13 : decode cL_ladder 13 = .ok (.astore 4, 2) := by decide +kernel
theorem dL_ladder_15 : decode cL_ladder 15 = .ok (.iconst 1, 1) := by decide +kernel
theorem dL_ladder_16 : decode cL_ladder 16 = .ok (.ireturn, 1) := by decide +kernel
theorem dL_ladder_17 : decode cL_ladder 17 = .ok (.astore 4, 2) := by decide +kernel
theorem dL_ladder_19 : decode cL_ladder 19 = .ok (.iconst 2, 1) := by decide +kernel
theorem dL_ladder_20 : decode cL_ladder 20 = .ok (.ireturn, 1) := by decide +kernel
theorem dL_ladder_21 : decode cL_ladder 21 = .ok (.astore 4, 2) := by decide +kernel
theorem dL_ladder_23 : decode cL_ladder 23 = .ok (.iconst 3, 1) := by decide +kernel
theorem dL_ladder_24 : decode cL_ladder 24 = .ok (.ireturn, 1) := by decide +kernel
theorem dL_ladder_25 : decode cL_ladder 25 = .ok (.iconst 0, 1) := by decide +kernel
theorem dL_ladder_26 : decode cL_ladder 26 = .ok (.ireturn, 1) := by decide +kernel
theorem dL_law_0 : decode cL_law 0 = .ok (.new 8, 3) := by decide +kernel
theorem dL_law_3 : decode cL_law 3 = .ok (.dup, 1) := by decide +kernel
theorem dL_law_4 : decode cL_law 4 = .ok (.invokespecial 152, 3) := by decide +kernel
theorem dL_law_7 : decode cL_law 7 = .ok (.astore_n 1, 1) := by decide +kernel
theorem dL_law_8 : decode cL_law 8 = .ok (.new 153, 3) := by decide +kernel
theorem dL_law_11 : decode cL_law 11 = .ok (.dup, 1) := by decide +kernel
theorem dL_law_12 : decode cL_law 12 = .ok (.invokespecial 155, 3) := by decide +kernel
theorem dL_law_15 : decode cL_law 15 = .ok (.astore_n 2, 1) := by decide +kernel
theorem dL_law_16 : decode cL_law 16 = .ok (.iconst 1, 1) := by decide +kernel
theorem dL_law_17 : decode cL_law 17 = .ok (.newarray .long, 2) := by decide +kernel
theorem dL_law_19 : decode cL_law 19 = .ok (.astore_n 3, 1) := by decide +kernel
theorem dL_law_20 : decode cL_law 20 = .ok (.iconst 1, 1) := by decide +kernel
theorem dL_law_21 : decode cL_law 21 = .ok (.newarray .double, 2) := by decide +kernel
theorem dL_law_23 : decode cL_law 23 = .ok (.astore 4, 2) := by decide +kernel
theorem dL_law_25 : decode cL_law 25 = .ok (.iconst 0, 1) := by decide +kernel
theorem dL_law_26 : decode cL_law 26 = .ok (.istore 5, 2) := by decide +kernel
theorem dL_law_28 : decode cL_law 28 = .ok (.iload 5, 2) := by decide +kernel
theorem dL_law_30 : decode cL_law 30 = .ok (.aload_n 0, 1) := by decide +kernel
theorem dL_law_31 : decode cL_law 31 = .ok (.arraylength, 1) := by decide +kernel
theorem dL_law_32 : decode cL_law 32 = .ok (.bipush 6, 2) := by decide +kernel
theorem dL_law_34 : decode cL_law 34 = .ok (.isub, 1) := by decide +kernel
theorem dL_law_35 : decode cL_law 35 = .ok (.if_icmp .gt 2931, 3) := by decide +kernel
theorem dL_law_38 : decode cL_law 38 = .ok (.aload_n 0, 1) := by decide +kernel
theorem dL_law_39 : decode cL_law 39 = .ok (.iload 5, 2) := by decide +kernel
theorem dL_law_41 : decode cL_law 41 = .ok (.iaload, 1) := by decide +kernel
theorem dL_law_42 : decode cL_law 42 = .ok (.bipush 63, 2) := by decide +kernel
theorem dL_law_44 : decode cL_law 44 = .ok (.iand, 1) := by decide +kernel
theorem dL_law_45 : decode cL_law 45 = .ok (.tableswitch 2915 0 44 #[195, 299, 355, 368, 412, 480, 536, 604, 684, 752, 808, 892, 960, 1016, 1084, 1152, 1208, 1252, 1265, 1278, 1322, 1378, 1446, 1514, 1582, 1650, 1718, 1786, 1866, 1922, 2006, 2074, 2154, 2222, 2266, 2322, 2378, 2443, 2499, 2555, 2611, 2667, 2723, 2791, 2847], 195) := by decide +kernel
theorem dL_law_240 : decode cL_law 240 = .ok (.aload_n 1, 1) := by decide +kernel
theorem dL_law_241 : decode cL_law 241 = .ok (.aload_n 0, 1) := by decide +kernel
theorem dL_law_242 : decode cL_law 242 = .ok (.iload 5, 2) := by decide +kernel
theorem dL_law_244 : decode cL_law 244 = .ok (.iconst 1, 1) := by decide +kernel
theorem dL_law_245 : decode cL_law 245 = .ok (.iadd, 1) := by decide +kernel
theorem dL_law_246 : decode cL_law 246 = .ok (.iaload, 1) := by decide +kernel
theorem dL_law_247 : decode cL_law 247 = .ok (.aload_n 0, 1) := by decide +kernel
theorem dL_law_248 : decode cL_law 248 = .ok (.iload 5, 2) := by decide +kernel
theorem dL_law_250 : decode cL_law 250 = .ok (.iconst 2, 1) := by decide +kernel
theorem dL_law_251 : decode cL_law 251 = .ok (.iadd, 1) := by decide +kernel
theorem dL_law_252 : decode cL_law 252 = .ok (.iaload, 1) := by decide +kernel
theorem dL_law_253 : decode cL_law 253 = .ok (.aload_n 0, 1) := by decide +kernel
theorem dL_law_254 : decode cL_law 254 = .ok (.iload 5, 2) := by decide +kernel
theorem dL_law_256 : decode cL_law 256 = .ok (.iconst 3, 1) := by decide +kernel
theorem dL_law_257 : decode cL_law 257 = .ok (.iadd, 1) := by decide +kernel
theorem dL_law_258 : decode cL_law 258 = .ok (.iaload, 1) := by decide +kernel
theorem dL_law_259 : decode cL_law 259 = .ok (.aload_n 0, 1) := by decide +kernel
theorem dL_law_260 : decode cL_law 260 = .ok (.iload 5, 2) := by decide +kernel
theorem dL_law_262 : decode cL_law 262 = .ok (.iconst 4, 1) := by decide +kernel
theorem dL_law_263 : decode cL_law 263 = .ok (.iadd, 1) := by decide +kernel
theorem dL_law_264 : decode cL_law 264 = .ok (.iaload, 1) := by decide +kernel
theorem dL_law_265 : decode cL_law 265 = .ok (.aload_n 0, 1) := by decide +kernel
theorem dL_law_266 : decode cL_law 266 = .ok (.iload 5, 2) := by decide +kernel
theorem dL_law_268 : decode cL_law 268 = .ok (.iconst 5, 1) := by decide +kernel
theorem dL_law_269 : decode cL_law 269 = .ok (.iadd, 1) := by decide +kernel
theorem dL_law_270 : decode cL_law 270 = .ok (.iaload, 1) := by decide +kernel
theorem dL_law_271 : decode cL_law 271 = .ok (.aload_n 3, 1) := by decide +kernel
theorem dL_law_272 : decode cL_law 272 = .ok (.invokestatic 156, 3) := by decide +kernel
theorem dL_law_275 : decode cL_law 275 = .ok (.istore 6, 2) := by decide +kernel
theorem dL_law_277 : decode cL_law 277 = .ok (.aload_n 2, 1) := by decide +kernel
theorem dL_law_278 : decode cL_law 278 = .ok (.aload_n 0, 1) := by decide +kernel
theorem dL_law_279 : decode cL_law 279 = .ok (.iload 5, 2) := by decide +kernel
theorem dL_law_281 : decode cL_law 281 = .ok (.iconst 1, 1) := by decide +kernel
theorem dL_law_282 : decode cL_law 282 = .ok (.iadd, 1) := by decide +kernel
theorem dL_law_283 : decode cL_law 283 = .ok (.iaload, 1) := by decide +kernel
theorem dL_law_284 : decode cL_law 284 = .ok (.aload_n 0, 1) := by decide +kernel
theorem dL_law_285 : decode cL_law 285 = .ok (.iload 5, 2) := by decide +kernel
theorem dL_law_287 : decode cL_law 287 = .ok (.iconst 2, 1) := by decide +kernel
theorem dL_law_288 : decode cL_law 288 = .ok (.iadd, 1) := by decide +kernel
theorem dL_law_289 : decode cL_law 289 = .ok (.iaload, 1) := by decide +kernel
theorem dL_law_290 : decode cL_law 290 = .ok (.aload_n 0, 1) := by decide +kernel
theorem dL_law_291 : decode cL_law 291 = .ok (.iload 5, 2) := by decide +kernel
theorem dL_law_293 : decode cL_law 293 = .ok (.iconst 3, 1) := by decide +kernel
theorem dL_law_294 : decode cL_law 294 = .ok (.iadd, 1) := by decide +kernel
theorem dL_law_295 : decode cL_law 295 = .ok (.iaload, 1) := by decide +kernel
theorem dL_law_296 : decode cL_law 296 = .ok (.aload_n 0, 1) := by decide +kernel
theorem dL_law_297 : decode cL_law 297 = .ok (.iload 5, 2) := by decide +kernel
theorem dL_law_299 : decode cL_law 299 = .ok (.iconst 4, 1) := by decide +kernel
theorem dL_law_300 : decode cL_law 300 = .ok (.iadd, 1) := by decide +kernel
theorem dL_law_301 : decode cL_law 301 = .ok (.iaload, 1) := by decide +kernel
theorem dL_law_302 : decode cL_law 302 = .ok (.aload_n 0, 1) := by decide +kernel
theorem dL_law_303 : decode cL_law 303 = .ok (.iload 5, 2) := by decide +kernel
theorem dL_law_305 : decode cL_law 305 = .ok (.iconst 5, 1) := by decide +kernel
theorem dL_law_306 : decode cL_law 306 = .ok (.iadd, 1) := by decide +kernel
theorem dL_law_307 : decode cL_law 307 = .ok (.iaload, 1) := by decide +kernel
theorem dL_law_308 : decode cL_law 308 = .ok (.invokevirtual 161, 3) := by decide +kernel
theorem dL_law_311 : decode cL_law 311 = .ok (.istore 7, 2) := by decide +kernel
theorem dL_law_313 : decode cL_law 313 = .ok (.aload_n 2, 1) := by decide +kernel
theorem dL_law_314 : decode cL_law 314 = .ok (.invokevirtual 162, 3) := by decide +kernel
theorem dL_law_317 : decode cL_law 317 = .ok (.iload 6, 2) := by decide +kernel
theorem dL_law_319 : decode cL_law 319 = .ok (.if_icmp .eq 5, 3) := by decide +kernel
theorem dL_law_322 : decode cL_law 322 = .ok (.iconst 0, 1) := by decide +kernel
theorem dL_law_323 : decode cL_law 323 = .ok (.ireturn, 1) := by decide +kernel
theorem dL_law_324 : decode cL_law 324 = .ok (.iload 6, 2) := by decide +kernel
theorem dL_law_326 : decode cL_law 326 = .ok (.ifCond .ne 15, 3) := by decide +kernel
theorem dL_law_329 : decode cL_law 329 = .ok (.aload_n 3, 1) := by decide +kernel
theorem dL_law_330 : decode cL_law 330 = .ok (.iconst 0, 1) := by decide +kernel
theorem dL_law_331 : decode cL_law 331 = .ok (.laload, 1) := by decide +kernel
theorem dL_law_332 : decode cL_law 332 = .ok (.iload 7, 2) := by decide +kernel
theorem dL_law_334 : decode cL_law 334 = .ok (.i2l, 1) := by decide +kernel
theorem dL_law_335 : decode cL_law 335 = .ok (.lcmp, 1) := by decide +kernel
theorem dL_law_336 : decode cL_law 336 = .ok (.ifCond .eq 5, 3) := by decide +kernel
theorem dL_law_339 : decode cL_law 339 = .ok (.iconst 0, 1) := by decide +kernel
theorem dL_law_340 : decode cL_law 340 = .ok (.ireturn, 1) := by decide +kernel
theorem dL_law_341 : decode cL_law 341 = .ok (.goto 2619, 3) := by decide +kernel
theorem dL_law_344 : decode cL_law 344 = .ok (.aload_n 1, 1) := by decide +kernel
theorem dL_law_345 : decode cL_law 345 = .ok (.aload_n 0, 1) := by decide +kernel
theorem dL_law_346 : decode cL_law 346 = .ok (.iload 5, 2) := by decide +kernel
theorem dL_law_348 : decode cL_law 348 = .ok (.iconst 1, 1) := by decide +kernel
theorem dL_law_349 : decode cL_law 349 = .ok (.iadd, 1) := by decide +kernel
theorem dL_law_350 : decode cL_law 350 = .ok (.iaload, 1) := by decide +kernel
theorem dL_law_351 : decode cL_law 351 = .ok (.aload_n 3, 1) := by decide +kernel
theorem dL_law_352 : decode cL_law 352 = .ok (.invokestatic 165, 3) := by decide +kernel
theorem dL_law_355 : decode cL_law 355 = .ok (.istore 6, 2) := by decide +kernel
theorem dL_law_357 : decode cL_law 357 = .ok (.aload_n 2, 1) := by decide +kernel
theorem dL_law_358 : decode cL_law 358 = .ok (.aload_n 0, 1) := by decide +kernel
theorem dL_law_359 : decode cL_law 359 = .ok (.iload 5, 2) := by decide +kernel
theorem dL_law_361 : decode cL_law 361 = .ok (.iconst 1, 1) := by decide +kernel
theorem dL_law_362 : decode cL_law 362 = .ok (.iadd, 1) := by decide +kernel
theorem dL_law_363 : decode cL_law 363 = .ok (.iaload, 1) := by decide +kernel
theorem dL_law_364 : decode cL_law 364 = .ok (.invokevirtual 168, 3) := by decide +kernel
theorem dL_law_367 : decode cL_law 367 = .ok (.istore 7, 2) := by decide +kernel
theorem dL_law_369 : decode cL_law 369 = .ok (.aload_n 2, 1) := by decide +kernel
theorem dL_law_370 : decode cL_law 370 = .ok (.invokevirtual 162, 3) := by decide +kernel
theorem dL_law_373 : decode cL_law 373 = .ok (.iload 6, 2) := by decide +kernel
theorem dL_law_375 : decode cL_law 375 = .ok (.if_icmp .eq 5, 3) := by decide +kernel
theorem dL_law_378 : decode cL_law 378 = .ok (.iconst 0, 1) := by decide +kernel
theorem dL_law_379 : decode cL_law 379 = .ok (.ireturn, 1) := by decide +kernel
theorem dL_law_380 : decode cL_law 380 = .ok (.iload 6, 2) := by decide +kernel
theorem dL_law_382 : decode cL_law 382 = .ok (.ifCond .ne 15, 3) := by decide +kernel
theorem dL_law_385 : decode cL_law 385 = .ok (.aload_n 3, 1) := by decide +kernel
theorem dL_law_386 : decode cL_law 386 = .ok (.iconst 0, 1) := by decide +kernel
theorem dL_law_387 : decode cL_law 387 = .ok (.laload, 1) := by decide +kernel
theorem dL_law_388 : decode cL_law 388 = .ok (.iload 7, 2) := by decide +kernel
theorem dL_law_390 : decode cL_law 390 = .ok (.i2l, 1) := by decide +kernel
theorem dL_law_391 : decode cL_law 391 = .ok (.lcmp, 1) := by decide +kernel
theorem dL_law_392 : decode cL_law 392 = .ok (.ifCond .eq 5, 3) := by decide +kernel
theorem dL_law_395 : decode cL_law 395 = .ok (.iconst 0, 1) := by decide +kernel
theorem dL_law_396 : decode cL_law 396 = .ok (.ireturn, 1) := by decide +kernel
theorem dL_law_397 : decode cL_law 397 = .ok (.goto 2563, 3) := by decide +kernel
theorem dL_law_400 : decode cL_law 400 = .ok (.aload_n 1, 1) := by decide +kernel
theorem dL_law_401 : decode cL_law 401 = .ok (.invokevirtual 169, 3) := by decide +kernel
theorem dL_law_404 : decode cL_law 404 = .ok (.aload_n 2, 1) := by decide +kernel
theorem dL_law_405 : decode cL_law 405 = .ok (.invokevirtual 172, 3) := by decide +kernel
theorem dL_law_408 : decode cL_law 408 = .ok (.if_icmp .eq 2552, 3) := by decide +kernel
theorem dL_law_411 : decode cL_law 411 = .ok (.iconst 0, 1) := by decide +kernel
theorem dL_law_412 : decode cL_law 412 = .ok (.ireturn, 1) := by decide +kernel
theorem dL_law_413 : decode cL_law 413 = .ok (.aload_n 1, 1) := by decide +kernel
theorem dL_law_414 : decode cL_law 414 = .ok (.aload_n 3, 1) := by decide +kernel
theorem dL_law_415 : decode cL_law 415 = .ok (.invokestatic 173, 3) := by decide +kernel
theorem dL_law_418 : decode cL_law 418 = .ok (.istore 6, 2) := by decide +kernel
theorem dL_law_420 : decode cL_law 420 = .ok (.aload_n 2, 1) := by decide +kernel
theorem dL_law_421 : decode cL_law 421 = .ok (.invokevirtual 176, 3) := by decide +kernel
theorem dL_law_424 : decode cL_law 424 = .ok (.istore 7, 2) := by decide +kernel
theorem dL_law_426 : decode cL_law 426 = .ok (.aload_n 2, 1) := by decide +kernel
theorem dL_law_427 : decode cL_law 427 = .ok (.invokevirtual 162, 3) := by decide +kernel
theorem dL_law_430 : decode cL_law 430 = .ok (.iload 6, 2) := by decide +kernel
theorem dL_law_432 : decode cL_law 432 = .ok (.if_icmp .eq 5, 3) := by decide +kernel
theorem dL_law_435 : decode cL_law 435 = .ok (.iconst 0, 1) := by decide +kernel
theorem dL_law_436 : decode cL_law 436 = .ok (.ireturn, 1) := by decide +kernel
theorem dL_law_437 : decode cL_law 437 = .ok (.iload 6, 2) := by decide +kernel
theorem dL_law_439 : decode cL_law 439 = .ok (.ifCond .ne 15, 3) := by decide +kernel
theorem dL_law_442 : decode cL_law 442 = .ok (.aload_n 3, 1) := by decide +kernel
theorem dL_law_443 : decode cL_law 443 = .ok (.iconst 0, 1) := by decide +kernel
theorem dL_law_444 : decode cL_law 444 = .ok (.laload, 1) := by decide +kernel
theorem dL_law_445 : decode cL_law 445 = .ok (.iload 7, 2) := by decide +kernel
theorem dL_law_447 : decode cL_law 447 = .ok (.i2l, 1) := by decide +kernel
theorem dL_law_448 : decode cL_law 448 = .ok (.lcmp, 1) := by decide +kernel
theorem dL_law_449 : decode cL_law 449 = .ok (.ifCond .eq 5, 3) := by decide +kernel
theorem dL_law_452 : decode cL_law 452 = .ok (.iconst 0, 1) := by decide +kernel
theorem dL_law_453 : decode cL_law 453 = .ok (.ireturn, 1) := by decide +kernel
theorem dL_law_454 : decode cL_law 454 = .ok (.goto 2506, 3) := by decide +kernel
theorem dL_law_457 : decode cL_law 457 = .ok (.aload_n 1, 1) := by decide +kernel
theorem dL_law_458 : decode cL_law 458 = .ok (.aload_n 0, 1) := by decide +kernel
theorem dL_law_459 : decode cL_law 459 = .ok (.iload 5, 2) := by decide +kernel
theorem dL_law_461 : decode cL_law 461 = .ok (.iconst 1, 1) := by decide +kernel
theorem dL_law_462 : decode cL_law 462 = .ok (.iadd, 1) := by decide +kernel
theorem dL_law_463 : decode cL_law 463 = .ok (.iaload, 1) := by decide +kernel
theorem dL_law_464 : decode cL_law 464 = .ok (.aload_n 0, 1) := by decide +kernel
theorem dL_law_465 : decode cL_law 465 = .ok (.iload 5, 2) := by decide +kernel
theorem dL_law_467 : decode cL_law 467 = .ok (.iconst 2, 1) := by decide +kernel
theorem dL_law_468 : decode cL_law 468 = .ok (.iadd, 1) := by decide +kernel
theorem dL_law_469 : decode cL_law 469 = .ok (.iaload, 1) := by decide +kernel
theorem dL_law_470 : decode cL_law 470 = .ok (.aload_n 3, 1) := by decide +kernel
theorem dL_law_471 : decode cL_law 471 = .ok (.invokestatic 177, 3) := by decide +kernel
theorem dL_law_474 : decode cL_law 474 = .ok (.istore 6, 2) := by decide +kernel
theorem dL_law_476 : decode cL_law 476 = .ok (.aload_n 2, 1) := by decide +kernel
theorem dL_law_477 : decode cL_law 477 = .ok (.aload_n 0, 1) := by decide +kernel
theorem dL_law_478 : decode cL_law 478 = .ok (.iload 5, 2) := by decide +kernel
theorem dL_law_480 : decode cL_law 480 = .ok (.iconst 1, 1) := by decide +kernel
theorem dL_law_481 : decode cL_law 481 = .ok (.iadd, 1) := by decide +kernel
theorem dL_law_482 : decode cL_law 482 = .ok (.iaload, 1) := by decide +kernel
theorem dL_law_483 : decode cL_law 483 = .ok (.aload_n 0, 1) := by decide +kernel
theorem dL_law_484 : decode cL_law 484 = .ok (.iload 5, 2) := by decide +kernel
theorem dL_law_486 : decode cL_law 486 = .ok (.iconst 2, 1) := by decide +kernel
theorem dL_law_487 : decode cL_law 487 = .ok (.iadd, 1) := by decide +kernel
theorem dL_law_488 : decode cL_law 488 = .ok (.iaload, 1) := by decide +kernel
theorem dL_law_489 : decode cL_law 489 = .ok (.invokevirtual 180, 3) := by decide +kernel
theorem dL_law_492 : decode cL_law 492 = .ok (.istore 7, 2) := by decide +kernel
theorem dL_law_494 : decode cL_law 494 = .ok (.aload_n 2, 1) := by decide +kernel
theorem dL_law_495 : decode cL_law 495 = .ok (.invokevirtual 162, 3) := by decide +kernel
theorem dL_law_498 : decode cL_law 498 = .ok (.iload 6, 2) := by decide +kernel
theorem dL_law_500 : decode cL_law 500 = .ok (.if_icmp .eq 5, 3) := by decide +kernel
theorem dL_law_503 : decode cL_law 503 = .ok (.iconst 0, 1) := by decide +kernel
theorem dL_law_504 : decode cL_law 504 = .ok (.ireturn, 1) := by decide +kernel
theorem dL_law_505 : decode cL_law 505 = .ok (.iload 6, 2) := by decide +kernel
theorem dL_law_507 : decode cL_law 507 = .ok (.ifCond .ne 15, 3) := by decide +kernel
theorem dL_law_510 : decode cL_law 510 = .ok (.aload_n 3, 1) := by decide +kernel
theorem dL_law_511 : decode cL_law 511 = .ok (.iconst 0, 1) := by decide +kernel
theorem dL_law_512 : decode cL_law 512 = .ok (.laload, 1) := by decide +kernel
theorem dL_law_513 : decode cL_law 513 = .ok (.iload 7, 2) := by decide +kernel
theorem dL_law_515 : decode cL_law 515 = .ok (.i2l, 1) := by decide +kernel
theorem dL_law_516 : decode cL_law 516 = .ok (.lcmp, 1) := by decide +kernel
theorem dL_law_517 : decode cL_law 517 = .ok (.ifCond .eq 5, 3) := by decide +kernel
theorem dL_law_520 : decode cL_law 520 = .ok (.iconst 0, 1) := by decide +kernel
theorem dL_law_521 : decode cL_law 521 = .ok (.ireturn, 1) := by decide +kernel
theorem dL_law_522 : decode cL_law 522 = .ok (.goto 2438, 3) := by decide +kernel
theorem dL_law_525 : decode cL_law 525 = .ok (.aload_n 1, 1) := by decide +kernel
theorem dL_law_526 : decode cL_law 526 = .ok (.aload_n 0, 1) := by decide +kernel
theorem dL_law_527 : decode cL_law 527 = .ok (.iload 5, 2) := by decide +kernel
theorem dL_law_529 : decode cL_law 529 = .ok (.iconst 1, 1) := by decide +kernel
theorem dL_law_530 : decode cL_law 530 = .ok (.iadd, 1) := by decide +kernel
theorem dL_law_531 : decode cL_law 531 = .ok (.iaload, 1) := by decide +kernel
theorem dL_law_532 : decode cL_law 532 = .ok (.aload_n 3, 1) := by decide +kernel
theorem dL_law_533 : decode cL_law 533 = .ok (.invokestatic 181, 3) := by decide +kernel
theorem dL_law_536 : decode cL_law 536 = .ok (.istore 6, 2) := by decide +kernel
theorem dL_law_538 : decode cL_law 538 = .ok (.aload_n 2, 1) := by decide +kernel
theorem dL_law_539 : decode cL_law 539 = .ok (.aload_n 0, 1) := by decide +kernel
theorem dL_law_540 : decode cL_law 540 = .ok (.iload 5, 2) := by decide +kernel
theorem dL_law_542 : decode cL_law 542 = .ok (.iconst 1, 1) := by decide +kernel
theorem dL_law_543 : decode cL_law 543 = .ok (.iadd, 1) := by decide +kernel
theorem dL_law_544 : decode cL_law 544 = .ok (.iaload, 1) := by decide +kernel
theorem dL_law_545 : decode cL_law 545 = .ok (.invokevirtual 183, 3) := by decide +kernel
theorem dL_law_548 : decode cL_law 548 = .ok (.istore 7, 2) := by decide +kernel
theorem dL_law_550 : decode cL_law 550 = .ok (.aload_n 2, 1) := by decide +kernel
theorem dL_law_551 : decode cL_law 551 = .ok (.invokevirtual 162, 3) := by decide +kernel
theorem dL_law_554 : decode cL_law 554 = .ok (.iload 6, 2) := by decide +kernel
theorem dL_law_556 : decode cL_law 556 = .ok (.if_icmp .eq 5, 3) := by decide +kernel
theorem dL_law_559 : decode cL_law 559 = .ok (.iconst 0, 1) := by decide +kernel
theorem dL_law_560 : decode cL_law 560 = .ok (.ireturn, 1) := by decide +kernel
theorem dL_law_561 : decode cL_law 561 = .ok (.iload 6, 2) := by decide +kernel
theorem dL_law_563 : decode cL_law 563 = .ok (.ifCond .ne 15, 3) := by decide +kernel
theorem dL_law_566 : decode cL_law 566 = .ok (.aload_n 3, 1) := by decide +kernel
theorem dL_law_567 : decode cL_law 567 = .ok (.iconst 0, 1) := by decide +kernel
theorem dL_law_568 : decode cL_law 568 = .ok (.laload, 1) := by decide +kernel
theorem dL_law_569 : decode cL_law 569 = .ok (.iload 7, 2) := by decide +kernel
theorem dL_law_571 : decode cL_law 571 = .ok (.i2l, 1) := by decide +kernel
theorem dL_law_572 : decode cL_law 572 = .ok (.lcmp, 1) := by decide +kernel
theorem dL_law_573 : decode cL_law 573 = .ok (.ifCond .eq 5, 3) := by decide +kernel
theorem dL_law_576 : decode cL_law 576 = .ok (.iconst 0, 1) := by decide +kernel
theorem dL_law_577 : decode cL_law 577 = .ok (.ireturn, 1) := by decide +kernel
theorem dL_law_578 : decode cL_law 578 = .ok (.goto 2382, 3) := by decide +kernel
theorem dL_law_581 : decode cL_law 581 = .ok (.aload_n 1, 1) := by decide +kernel
theorem dL_law_582 : decode cL_law 582 = .ok (.aload_n 0, 1) := by decide +kernel
theorem dL_law_583 : decode cL_law 583 = .ok (.iload 5, 2) := by decide +kernel
theorem dL_law_585 : decode cL_law 585 = .ok (.iconst 1, 1) := by decide +kernel
theorem dL_law_586 : decode cL_law 586 = .ok (.iadd, 1) := by decide +kernel
theorem dL_law_587 : decode cL_law 587 = .ok (.iaload, 1) := by decide +kernel
theorem dL_law_588 : decode cL_law 588 = .ok (.aload_n 0, 1) := by decide +kernel
theorem dL_law_589 : decode cL_law 589 = .ok (.iload 5, 2) := by decide +kernel
theorem dL_law_591 : decode cL_law 591 = .ok (.iconst 2, 1) := by decide +kernel
theorem dL_law_592 : decode cL_law 592 = .ok (.iadd, 1) := by decide +kernel
theorem dL_law_593 : decode cL_law 593 = .ok (.iaload, 1) := by decide +kernel
theorem dL_law_594 : decode cL_law 594 = .ok (.aload_n 3, 1) := by decide +kernel
theorem dL_law_595 : decode cL_law 595 = .ok (.invokestatic 184, 3) := by decide +kernel
theorem dL_law_598 : decode cL_law 598 = .ok (.istore 6, 2) := by decide +kernel
theorem dL_law_600 : decode cL_law 600 = .ok (.aload_n 2, 1) := by decide +kernel
theorem dL_law_601 : decode cL_law 601 = .ok (.aload_n 0, 1) := by decide +kernel
theorem dL_law_602 : decode cL_law 602 = .ok (.iload 5, 2) := by decide +kernel
theorem dL_law_604 : decode cL_law 604 = .ok (.iconst 1, 1) := by decide +kernel
theorem dL_law_605 : decode cL_law 605 = .ok (.iadd, 1) := by decide +kernel
theorem dL_law_606 : decode cL_law 606 = .ok (.iaload, 1) := by decide +kernel
theorem dL_law_607 : decode cL_law 607 = .ok (.aload_n 0, 1) := by decide +kernel
theorem dL_law_608 : decode cL_law 608 = .ok (.iload 5, 2) := by decide +kernel
theorem dL_law_610 : decode cL_law 610 = .ok (.iconst 2, 1) := by decide +kernel
theorem dL_law_611 : decode cL_law 611 = .ok (.iadd, 1) := by decide +kernel
theorem dL_law_612 : decode cL_law 612 = .ok (.iaload, 1) := by decide +kernel
theorem dL_law_613 : decode cL_law 613 = .ok (.invokevirtual 186, 3) := by decide +kernel
theorem dL_law_616 : decode cL_law 616 = .ok (.istore 7, 2) := by decide +kernel
theorem dL_law_618 : decode cL_law 618 = .ok (.aload_n 2, 1) := by decide +kernel
theorem dL_law_619 : decode cL_law 619 = .ok (.invokevirtual 162, 3) := by decide +kernel
theorem dL_law_622 : decode cL_law 622 = .ok (.iload 6, 2) := by decide +kernel
theorem dL_law_624 : decode cL_law 624 = .ok (.if_icmp .eq 5, 3) := by decide +kernel
theorem dL_law_627 : decode cL_law 627 = .ok (.iconst 0, 1) := by decide +kernel
theorem dL_law_628 : decode cL_law 628 = .ok (.ireturn, 1) := by decide +kernel
theorem dL_law_629 : decode cL_law 629 = .ok (.iload 6, 2) := by decide +kernel
theorem dL_law_631 : decode cL_law 631 = .ok (.ifCond .ne 15, 3) := by decide +kernel
theorem dL_law_634 : decode cL_law 634 = .ok (.aload_n 3, 1) := by decide +kernel
theorem dL_law_635 : decode cL_law 635 = .ok (.iconst 0, 1) := by decide +kernel
theorem dL_law_636 : decode cL_law 636 = .ok (.laload, 1) := by decide +kernel
theorem dL_law_637 : decode cL_law 637 = .ok (.iload 7, 2) := by decide +kernel
theorem dL_law_639 : decode cL_law 639 = .ok (.i2l, 1) := by decide +kernel
theorem dL_law_640 : decode cL_law 640 = .ok (.lcmp, 1) := by decide +kernel
theorem dL_law_641 : decode cL_law 641 = .ok (.ifCond .eq 5, 3) := by decide +kernel
theorem dL_law_644 : decode cL_law 644 = .ok (.iconst 0, 1) := by decide +kernel
theorem dL_law_645 : decode cL_law 645 = .ok (.ireturn, 1) := by decide +kernel
theorem dL_law_646 : decode cL_law 646 = .ok (.goto 2314, 3) := by decide +kernel
theorem dL_law_649 : decode cL_law 649 = .ok (.aload_n 1, 1) := by decide +kernel
theorem dL_law_650 : decode cL_law 650 = .ok (.aload_n 0, 1) := by decide +kernel
theorem dL_law_651 : decode cL_law 651 = .ok (.iload 5, 2) := by decide +kernel
theorem dL_law_653 : decode cL_law 653 = .ok (.iconst 1, 1) := by decide +kernel
theorem dL_law_654 : decode cL_law 654 = .ok (.iadd, 1) := by decide +kernel
theorem dL_law_655 : decode cL_law 655 = .ok (.iaload, 1) := by decide +kernel
theorem dL_law_656 : decode cL_law 656 = .ok (.aload_n 0, 1) := by decide +kernel
theorem dL_law_657 : decode cL_law 657 = .ok (.iload 5, 2) := by decide +kernel
theorem dL_law_659 : decode cL_law 659 = .ok (.iconst 2, 1) := by decide +kernel
theorem dL_law_660 : decode cL_law 660 = .ok (.iadd, 1) := by decide +kernel
theorem dL_law_661 : decode cL_law 661 = .ok (.iaload, 1) := by decide +kernel
theorem dL_law_662 : decode cL_law 662 = .ok (.aload_n 0, 1) := by decide +kernel
theorem dL_law_663 : decode cL_law 663 = .ok (.iload 5, 2) := by decide +kernel
theorem dL_law_665 : decode cL_law 665 = .ok (.iconst 3, 1) := by decide +kernel
theorem dL_law_666 : decode cL_law 666 = .ok (.iadd, 1) := by decide +kernel
theorem dL_law_667 : decode cL_law 667 = .ok (.iaload, 1) := by decide +kernel
theorem dL_law_668 : decode cL_law 668 = .ok (.aload_n 3, 1) := by decide +kernel
theorem dL_law_669 : decode cL_law 669 = .ok (.invokestatic 187, 3) := by decide +kernel
theorem dL_law_672 : decode cL_law 672 = .ok (.istore 6, 2) := by decide +kernel
theorem dL_law_674 : decode cL_law 674 = .ok (.aload_n 2, 1) := by decide +kernel
theorem dL_law_675 : decode cL_law 675 = .ok (.aload_n 0, 1) := by decide +kernel
theorem dL_law_676 : decode cL_law 676 = .ok (.iload 5, 2) := by decide +kernel
theorem dL_law_678 : decode cL_law 678 = .ok (.iconst 1, 1) := by decide +kernel
theorem dL_law_679 : decode cL_law 679 = .ok (.iadd, 1) := by decide +kernel
theorem dL_law_680 : decode cL_law 680 = .ok (.iaload, 1) := by decide +kernel
theorem dL_law_681 : decode cL_law 681 = .ok (.aload_n 0, 1) := by decide +kernel
theorem dL_law_682 : decode cL_law 682 = .ok (.iload 5, 2) := by decide +kernel
theorem dL_law_684 : decode cL_law 684 = .ok (.iconst 2, 1) := by decide +kernel
theorem dL_law_685 : decode cL_law 685 = .ok (.iadd, 1) := by decide +kernel
theorem dL_law_686 : decode cL_law 686 = .ok (.iaload, 1) := by decide +kernel
theorem dL_law_687 : decode cL_law 687 = .ok (.aload_n 0, 1) := by decide +kernel
theorem dL_law_688 : decode cL_law 688 = .ok (.iload 5, 2) := by decide +kernel
theorem dL_law_690 : decode cL_law 690 = .ok (.iconst 3, 1) := by decide +kernel
theorem dL_law_691 : decode cL_law 691 = .ok (.iadd, 1) := by decide +kernel
theorem dL_law_692 : decode cL_law 692 = .ok (.iaload, 1) := by decide +kernel
theorem dL_law_693 : decode cL_law 693 = .ok (.invokevirtual 190, 3) := by decide +kernel
theorem dL_law_696 : decode cL_law 696 = .ok (.istore 7, 2) := by decide +kernel
theorem dL_law_698 : decode cL_law 698 = .ok (.aload_n 2, 1) := by decide +kernel
theorem dL_law_699 : decode cL_law 699 = .ok (.invokevirtual 162, 3) := by decide +kernel
theorem dL_law_702 : decode cL_law 702 = .ok (.iload 6, 2) := by decide +kernel
theorem dL_law_704 : decode cL_law 704 = .ok (.if_icmp .eq 5, 3) := by decide +kernel
theorem dL_law_707 : decode cL_law 707 = .ok (.iconst 0, 1) := by decide +kernel
theorem dL_law_708 : decode cL_law 708 = .ok (.ireturn, 1) := by decide +kernel
theorem dL_law_709 : decode cL_law 709 = .ok (.iload 6, 2) := by decide +kernel
theorem dL_law_711 : decode cL_law 711 = .ok (.ifCond .ne 15, 3) := by decide +kernel
theorem dL_law_714 : decode cL_law 714 = .ok (.aload_n 3, 1) := by decide +kernel
theorem dL_law_715 : decode cL_law 715 = .ok (.iconst 0, 1) := by decide +kernel
theorem dL_law_716 : decode cL_law 716 = .ok (.laload, 1) := by decide +kernel
theorem dL_law_717 : decode cL_law 717 = .ok (.iload 7, 2) := by decide +kernel
theorem dL_law_719 : decode cL_law 719 = .ok (.i2l, 1) := by decide +kernel
theorem dL_law_720 : decode cL_law 720 = .ok (.lcmp, 1) := by decide +kernel
theorem dL_law_721 : decode cL_law 721 = .ok (.ifCond .eq 5, 3) := by decide +kernel
theorem dL_law_724 : decode cL_law 724 = .ok (.iconst 0, 1) := by decide +kernel
theorem dL_law_725 : decode cL_law 725 = .ok (.ireturn, 1) := by decide +kernel
theorem dL_law_726 : decode cL_law 726 = .ok (.goto 2234, 3) := by decide +kernel
theorem dL_law_729 : decode cL_law 729 = .ok (.aload_n 1, 1) := by decide +kernel
theorem dL_law_730 : decode cL_law 730 = .ok (.aload_n 0, 1) := by decide +kernel
theorem dL_law_731 : decode cL_law 731 = .ok (.iload 5, 2) := by decide +kernel
theorem dL_law_733 : decode cL_law 733 = .ok (.iconst 1, 1) := by decide +kernel
theorem dL_law_734 : decode cL_law 734 = .ok (.iadd, 1) := by decide +kernel
theorem dL_law_735 : decode cL_law 735 = .ok (.iaload, 1) := by decide +kernel
theorem dL_law_736 : decode cL_law 736 = .ok (.aload_n 0, 1) := by decide +kernel
theorem dL_law_737 : decode cL_law 737 = .ok (.iload 5, 2) := by decide +kernel
theorem dL_law_739 : decode cL_law 739 = .ok (.iconst 2, 1) := by decide +kernel
theorem dL_law_740 : decode cL_law 740 = .ok (.iadd, 1) := by decide +kernel
theorem dL_law_741 : decode cL_law 741 = .ok (.iaload, 1) := by decide +kernel
theorem dL_law_742 : decode cL_law 742 = .ok (.aload_n 3, 1) := by decide +kernel
theorem dL_law_743 : decode cL_law 743 = .ok (.invokestatic 191, 3) := by decide +kernel
theorem dL_law_746 : decode cL_law 746 = .ok (.istore 6, 2) := by decide +kernel
theorem dL_law_748 : decode cL_law 748 = .ok (.aload_n 2, 1) := by decide +kernel
theorem dL_law_749 : decode cL_law 749 = .ok (.aload_n 0, 1) := by decide +kernel
theorem dL_law_750 : decode cL_law 750 = .ok (.iload 5, 2) := by decide +kernel
theorem dL_law_752 : decode cL_law 752 = .ok (.iconst 1, 1) := by decide +kernel
theorem dL_law_753 : decode cL_law 753 = .ok (.iadd, 1) := by decide +kernel
theorem dL_law_754 : decode cL_law 754 = .ok (.iaload, 1) := by decide +kernel
theorem dL_law_755 : decode cL_law 755 = .ok (.aload_n 0, 1) := by decide +kernel
theorem dL_law_756 : decode cL_law 756 = .ok (.iload 5, 2) := by decide +kernel
theorem dL_law_758 : decode cL_law 758 = .ok (.iconst 2, 1) := by decide +kernel
theorem dL_law_759 : decode cL_law 759 = .ok (.iadd, 1) := by decide +kernel
theorem dL_law_760 : decode cL_law 760 = .ok (.iaload, 1) := by decide +kernel
theorem dL_law_761 : decode cL_law 761 = .ok (.invokevirtual 193, 3) := by decide +kernel
theorem dL_law_764 : decode cL_law 764 = .ok (.istore 7, 2) := by decide +kernel
theorem dL_law_766 : decode cL_law 766 = .ok (.aload_n 2, 1) := by decide +kernel
theorem dL_law_767 : decode cL_law 767 = .ok (.invokevirtual 162, 3) := by decide +kernel
theorem dL_law_770 : decode cL_law 770 = .ok (.iload 6, 2) := by decide +kernel
theorem dL_law_772 : decode cL_law 772 = .ok (.if_icmp .eq 5, 3) := by decide +kernel
theorem dL_law_775 : decode cL_law 775 = .ok (.iconst 0, 1) := by decide +kernel
theorem dL_law_776 : decode cL_law 776 = .ok (.ireturn, 1) := by decide +kernel
theorem dL_law_777 : decode cL_law 777 = .ok (.iload 6, 2) := by decide +kernel
theorem dL_law_779 : decode cL_law 779 = .ok (.ifCond .ne 15, 3) := by decide +kernel
theorem dL_law_782 : decode cL_law 782 = .ok (.aload_n 3, 1) := by decide +kernel
theorem dL_law_783 : decode cL_law 783 = .ok (.iconst 0, 1) := by decide +kernel
theorem dL_law_784 : decode cL_law 784 = .ok (.laload, 1) := by decide +kernel
theorem dL_law_785 : decode cL_law 785 = .ok (.iload 7, 2) := by decide +kernel
theorem dL_law_787 : decode cL_law 787 = .ok (.i2l, 1) := by decide +kernel
theorem dL_law_788 : decode cL_law 788 = .ok (.lcmp, 1) := by decide +kernel
theorem dL_law_789 : decode cL_law 789 = .ok (.ifCond .eq 5, 3) := by decide +kernel
theorem dL_law_792 : decode cL_law 792 = .ok (.iconst 0, 1) := by decide +kernel
theorem dL_law_793 : decode cL_law 793 = .ok (.ireturn, 1) := by decide +kernel
theorem dL_law_794 : decode cL_law 794 = .ok (.goto 2166, 3) := by decide +kernel
theorem dL_law_797 : decode cL_law 797 = .ok (.aload_n 1, 1) := by decide +kernel
theorem dL_law_798 : decode cL_law 798 = .ok (.aload_n 0, 1) := by decide +kernel
theorem dL_law_799 : decode cL_law 799 = .ok (.iload 5, 2) := by decide +kernel
theorem dL_law_801 : decode cL_law 801 = .ok (.iconst 1, 1) := by decide +kernel
theorem dL_law_802 : decode cL_law 802 = .ok (.iadd, 1) := by decide +kernel
theorem dL_law_803 : decode cL_law 803 = .ok (.iaload, 1) := by decide +kernel
theorem dL_law_804 : decode cL_law 804 = .ok (.aload_n 3, 1) := by decide +kernel
theorem dL_law_805 : decode cL_law 805 = .ok (.invokestatic 194, 3) := by decide +kernel
theorem dL_law_808 : decode cL_law 808 = .ok (.istore 6, 2) := by decide +kernel
theorem dL_law_810 : decode cL_law 810 = .ok (.aload_n 2, 1) := by decide +kernel
theorem dL_law_811 : decode cL_law 811 = .ok (.aload_n 0, 1) := by decide +kernel
theorem dL_law_812 : decode cL_law 812 = .ok (.iload 5, 2) := by decide +kernel
theorem dL_law_814 : decode cL_law 814 = .ok (.iconst 1, 1) := by decide +kernel
theorem dL_law_815 : decode cL_law 815 = .ok (.iadd, 1) := by decide +kernel
theorem dL_law_816 : decode cL_law 816 = .ok (.iaload, 1) := by decide +kernel
theorem dL_law_817 : decode cL_law 817 = .ok (.invokevirtual 196, 3) := by decide +kernel
theorem dL_law_820 : decode cL_law 820 = .ok (.istore 7, 2) := by decide +kernel
theorem dL_law_822 : decode cL_law 822 = .ok (.aload_n 2, 1) := by decide +kernel
theorem dL_law_823 : decode cL_law 823 = .ok (.invokevirtual 162, 3) := by decide +kernel
theorem dL_law_826 : decode cL_law 826 = .ok (.iload 6, 2) := by decide +kernel
theorem dL_law_828 : decode cL_law 828 = .ok (.if_icmp .eq 5, 3) := by decide +kernel
theorem dL_law_831 : decode cL_law 831 = .ok (.iconst 0, 1) := by decide +kernel
theorem dL_law_832 : decode cL_law 832 = .ok (.ireturn, 1) := by decide +kernel
theorem dL_law_833 : decode cL_law 833 = .ok (.iload 6, 2) := by decide +kernel
theorem dL_law_835 : decode cL_law 835 = .ok (.ifCond .ne 15, 3) := by decide +kernel
theorem dL_law_838 : decode cL_law 838 = .ok (.aload_n 3, 1) := by decide +kernel
theorem dL_law_839 : decode cL_law 839 = .ok (.iconst 0, 1) := by decide +kernel
theorem dL_law_840 : decode cL_law 840 = .ok (.laload, 1) := by decide +kernel
theorem dL_law_841 : decode cL_law 841 = .ok (.iload 7, 2) := by decide +kernel
theorem dL_law_843 : decode cL_law 843 = .ok (.i2l, 1) := by decide +kernel
theorem dL_law_844 : decode cL_law 844 = .ok (.lcmp, 1) := by decide +kernel
theorem dL_law_845 : decode cL_law 845 = .ok (.ifCond .eq 5, 3) := by decide +kernel
theorem dL_law_848 : decode cL_law 848 = .ok (.iconst 0, 1) := by decide +kernel
theorem dL_law_849 : decode cL_law 849 = .ok (.ireturn, 1) := by decide +kernel
theorem dL_law_850 : decode cL_law 850 = .ok (.goto 2110, 3) := by decide +kernel
theorem dL_law_853 : decode cL_law 853 = .ok (.aload_n 1, 1) := by decide +kernel
theorem dL_law_854 : decode cL_law 854 = .ok (.aload_n 0, 1) := by decide +kernel
theorem dL_law_855 : decode cL_law 855 = .ok (.iload 5, 2) := by decide +kernel
theorem dL_law_857 : decode cL_law 857 = .ok (.iconst 1, 1) := by decide +kernel
theorem dL_law_858 : decode cL_law 858 = .ok (.iadd, 1) := by decide +kernel
theorem dL_law_859 : decode cL_law 859 = .ok (.iaload, 1) := by decide +kernel
theorem dL_law_860 : decode cL_law 860 = .ok (.aload_n 0, 1) := by decide +kernel
theorem dL_law_861 : decode cL_law 861 = .ok (.iload 5, 2) := by decide +kernel
theorem dL_law_863 : decode cL_law 863 = .ok (.iconst 2, 1) := by decide +kernel
theorem dL_law_864 : decode cL_law 864 = .ok (.iadd, 1) := by decide +kernel
theorem dL_law_865 : decode cL_law 865 = .ok (.iaload, 1) := by decide +kernel
theorem dL_law_866 : decode cL_law 866 = .ok (.ifCond .eq 7, 3) := by decide +kernel
theorem dL_law_869 : decode cL_law 869 = .ok (.iconst 1, 1) := by decide +kernel
theorem dL_law_870 : decode cL_law 870 = .ok (.goto 4, 3) := by decide +kernel
theorem dL_law_873 : decode cL_law 873 = .ok (.iconst 0, 1) := by decide +kernel
theorem dL_law_874 : decode cL_law 874 = .ok (.aload_n 3, 1) := by decide +kernel
theorem dL_law_875 : decode cL_law 875 = .ok (.invokestatic 197, 3) := by decide +kernel
theorem dL_law_878 : decode cL_law 878 = .ok (.istore 6, 2) := by decide +kernel
theorem dL_law_880 : decode cL_law 880 = .ok (.aload_n 2, 1) := by decide +kernel
theorem dL_law_881 : decode cL_law 881 = .ok (.aload_n 0, 1) := by decide +kernel
theorem dL_law_882 : decode cL_law 882 = .ok (.iload 5, 2) := by decide +kernel
theorem dL_law_884 : decode cL_law 884 = .ok (.iconst 1, 1) := by decide +kernel
theorem dL_law_885 : decode cL_law 885 = .ok (.iadd, 1) := by decide +kernel
theorem dL_law_886 : decode cL_law 886 = .ok (.iaload, 1) := by decide +kernel
theorem dL_law_887 : decode cL_law 887 = .ok (.aload_n 0, 1) := by decide +kernel
theorem dL_law_888 : decode cL_law 888 = .ok (.iload 5, 2) := by decide +kernel
theorem dL_law_890 : decode cL_law 890 = .ok (.iconst 2, 1) := by decide +kernel
theorem dL_law_891 : decode cL_law 891 = .ok (.iadd, 1) := by decide +kernel
theorem dL_law_892 : decode cL_law 892 = .ok (.iaload, 1) := by decide +kernel
theorem dL_law_893 : decode cL_law 893 = .ok (.ifCond .eq 7, 3) := by decide +kernel
theorem dL_law_896 : decode cL_law 896 = .ok (.iconst 1, 1) := by decide +kernel
theorem dL_law_897 : decode cL_law 897 = .ok (.goto 4, 3) := by decide +kernel
theorem dL_law_900 : decode cL_law 900 = .ok (.iconst 0, 1) := by decide +kernel
theorem dL_law_901 : decode cL_law 901 = .ok (.invokevirtual 200, 3) := by decide +kernel
theorem dL_law_904 : decode cL_law 904 = .ok (.istore 7, 2) := by decide +kernel
theorem dL_law_906 : decode cL_law 906 = .ok (.aload_n 2, 1) := by decide +kernel
theorem dL_law_907 : decode cL_law 907 = .ok (.invokevirtual 162, 3) := by decide +kernel
theorem dL_law_910 : decode cL_law 910 = .ok (.iload 6, 2) := by decide +kernel
theorem dL_law_912 : decode cL_law 912 = .ok (.if_icmp .eq 5, 3) := by decide +kernel
theorem dL_law_915 : decode cL_law 915 = .ok (.iconst 0, 1) := by decide +kernel
theorem dL_law_916 : decode cL_law 916 = .ok (.ireturn, 1) := by decide +kernel
theorem dL_law_917 : decode cL_law 917 = .ok (.iload 6, 2) := by decide +kernel
theorem dL_law_919 : decode cL_law 919 = .ok (.ifCond .ne 15, 3) := by decide +kernel
theorem dL_law_922 : decode cL_law 922 = .ok (.aload_n 3, 1) := by decide +kernel
theorem dL_law_923 : decode cL_law 923 = .ok (.iconst 0, 1) := by decide +kernel
theorem dL_law_924 : decode cL_law 924 = .ok (.laload, 1) := by decide +kernel
theorem dL_law_925 : decode cL_law 925 = .ok (.iload 7, 2) := by decide +kernel
theorem dL_law_927 : decode cL_law 927 = .ok (.i2l, 1) := by decide +kernel
theorem dL_law_928 : decode cL_law 928 = .ok (.lcmp, 1) := by decide +kernel
theorem dL_law_929 : decode cL_law 929 = .ok (.ifCond .eq 5, 3) := by decide +kernel
theorem dL_law_932 : decode cL_law 932 = .ok (.iconst 0, 1) := by decide +kernel
theorem dL_law_933 : decode cL_law 933 = .ok (.ireturn, 1) := by decide +kernel
theorem dL_law_934 : decode cL_law 934 = .ok (.goto 2026, 3) := by decide +kernel
theorem dL_law_937 : decode cL_law 937 = .ok (.aload_n 1, 1) := by decide +kernel
theorem dL_law_938 : decode cL_law 938 = .ok (.aload_n 0, 1) := by decide +kernel
theorem dL_law_939 : decode cL_law 939 = .ok (.iload 5, 2) := by decide +kernel
theorem dL_law_941 : decode cL_law 941 = .ok (.iconst 1, 1) := by decide +kernel
theorem dL_law_942 : decode cL_law 942 = .ok (.iadd, 1) := by decide +kernel
theorem dL_law_943 : decode cL_law 943 = .ok (.iaload, 1) := by decide +kernel
theorem dL_law_944 : decode cL_law 944 = .ok (.aload_n 0, 1) := by decide +kernel
theorem dL_law_945 : decode cL_law 945 = .ok (.iload 5, 2) := by decide +kernel
theorem dL_law_947 : decode cL_law 947 = .ok (.iconst 2, 1) := by decide +kernel
theorem dL_law_948 : decode cL_law 948 = .ok (.iadd, 1) := by decide +kernel
theorem dL_law_949 : decode cL_law 949 = .ok (.iaload, 1) := by decide +kernel
theorem dL_law_950 : decode cL_law 950 = .ok (.aload_n 3, 1) := by decide +kernel
theorem dL_law_951 : decode cL_law 951 = .ok (.invokestatic 201, 3) := by decide +kernel
theorem dL_law_954 : decode cL_law 954 = .ok (.istore 6, 2) := by decide +kernel
theorem dL_law_956 : decode cL_law 956 = .ok (.aload_n 2, 1) := by decide +kernel
theorem dL_law_957 : decode cL_law 957 = .ok (.aload_n 0, 1) := by decide +kernel
theorem dL_law_958 : decode cL_law 958 = .ok (.iload 5, 2) := by decide +kernel
theorem dL_law_960 : decode cL_law 960 = .ok (.iconst 1, 1) := by decide +kernel
theorem dL_law_961 : decode cL_law 961 = .ok (.iadd, 1) := by decide +kernel
theorem dL_law_962 : decode cL_law 962 = .ok (.iaload, 1) := by decide +kernel
theorem dL_law_963 : decode cL_law 963 = .ok (.aload_n 0, 1) := by decide +kernel
theorem dL_law_964 : decode cL_law 964 = .ok (.iload 5, 2) := by decide +kernel
theorem dL_law_966 : decode cL_law 966 = .ok (.iconst 2, 1) := by decide +kernel
theorem dL_law_967 : decode cL_law 967 = .ok (.iadd, 1) := by decide +kernel
theorem dL_law_968 : decode cL_law 968 = .ok (.iaload, 1) := by decide +kernel
theorem dL_law_969 : decode cL_law 969 = .ok (.invokevirtual 203, 3) := by decide +kernel
theorem dL_law_972 : decode cL_law 972 = .ok (.istore 7, 2) := by decide +kernel
theorem dL_law_974 : decode cL_law 974 = .ok (.aload_n 2, 1) := by decide +kernel
theorem dL_law_975 : decode cL_law 975 = .ok (.invokevirtual 162, 3) := by decide +kernel
theorem dL_law_978 : decode cL_law 978 = .ok (.iload 6, 2) := by decide +kernel
theorem dL_law_980 : decode cL_law 980 = .ok (.if_icmp .eq 5, 3) := by decide +kernel
theorem dL_law_983 : decode cL_law 983 = .ok (.iconst 0, 1) := by decide +kernel
theorem dL_law_984 : decode cL_law 984 = .ok (.ireturn, 1) := by decide +kernel
theorem dL_law_985 : decode cL_law 985 = .ok (.iload 6, 2) := by decide +kernel
theorem dL_law_987 : decode cL_law 987 = .ok (.ifCond .ne 15, 3) := by decide +kernel
theorem dL_law_990 : decode cL_law 990 = .ok (.aload_n 3, 1) := by decide +kernel
theorem dL_law_991 : decode cL_law 991 = .ok (.iconst 0, 1) := by decide +kernel
theorem dL_law_992 : decode cL_law 992 = .ok (.laload, 1) := by decide +kernel
theorem dL_law_993 : decode cL_law 993 = .ok (.iload 7, 2) := by decide +kernel
theorem dL_law_995 : decode cL_law 995 = .ok (.i2l, 1) := by decide +kernel
theorem dL_law_996 : decode cL_law 996 = .ok (.lcmp, 1) := by decide +kernel
theorem dL_law_997 : decode cL_law 997 = .ok (.ifCond .eq 5, 3) := by decide +kernel
theorem dL_law_1000 : decode cL_law 1000 = .ok (.iconst 0, 1) := by decide +kernel
theorem dL_law_1001 : decode cL_law 1001 = .ok (.ireturn, 1) := by decide +kernel
theorem dL_law_1002 : decode cL_law 1002 = .ok (.goto 1958, 3) := by decide +kernel
theorem dL_law_1005 : decode cL_law 1005 = .ok (.aload_n 1, 1) := by decide +kernel
theorem dL_law_1006 : decode cL_law 1006 = .ok (.aload_n 0, 1) := by decide +kernel
theorem dL_law_1007 : decode cL_law 1007 = .ok (.iload 5, 2) := by decide +kernel
theorem dL_law_1009 : decode cL_law 1009 = .ok (.iconst 1, 1) := by decide +kernel
theorem dL_law_1010 : decode cL_law 1010 = .ok (.iadd, 1) := by decide +kernel
theorem dL_law_1011 : decode cL_law 1011 = .ok (.iaload, 1) := by decide +kernel
theorem dL_law_1012 : decode cL_law 1012 = .ok (.aload_n 3, 1) := by decide +kernel
theorem dL_law_1013 : decode cL_law 1013 = .ok (.invokestatic 204, 3) := by decide +kernel
theorem dL_law_1016 : decode cL_law 1016 = .ok (.istore 6, 2) := by decide +kernel
theorem dL_law_1018 : decode cL_law 1018 = .ok (.aload_n 2, 1) := by decide +kernel
theorem dL_law_1019 : decode cL_law 1019 = .ok (.aload_n 0, 1) := by decide +kernel
theorem dL_law_1020 : decode cL_law 1020 = .ok (.iload 5, 2) := by decide +kernel
theorem dL_law_1022 : decode cL_law 1022 = .ok (.iconst 1, 1) := by decide +kernel
theorem dL_law_1023 : decode cL_law 1023 = .ok (.iadd, 1) := by decide +kernel
theorem dL_law_1024 : decode cL_law 1024 = .ok (.iaload, 1) := by decide +kernel
theorem dL_law_1025 : decode cL_law 1025 = .ok (.invokevirtual 206, 3) := by decide +kernel
theorem dL_law_1028 : decode cL_law 1028 = .ok (.istore 7, 2) := by decide +kernel
theorem dL_law_1030 : decode cL_law 1030 = .ok (.aload_n 2, 1) := by decide +kernel
theorem dL_law_1031 : decode cL_law 1031 = .ok (.invokevirtual 162, 3) := by decide +kernel
theorem dL_law_1034 : decode cL_law 1034 = .ok (.iload 6, 2) := by decide +kernel
theorem dL_law_1036 : decode cL_law 1036 = .ok (.if_icmp .eq 5, 3) := by decide +kernel
theorem dL_law_1039 : decode cL_law 1039 = .ok (.iconst 0, 1) := by decide +kernel
theorem dL_law_1040 : decode cL_law 1040 = .ok (.ireturn, 1) := by decide +kernel
theorem dL_law_1041 : decode cL_law 1041 = .ok (.iload 6, 2) := by decide +kernel
theorem dL_law_1043 : decode cL_law 1043 = .ok (.ifCond .ne 15, 3) := by decide +kernel
theorem dL_law_1046 : decode cL_law 1046 = .ok (.aload_n 3, 1) := by decide +kernel
theorem dL_law_1047 : decode cL_law 1047 = .ok (.iconst 0, 1) := by decide +kernel
theorem dL_law_1048 : decode cL_law 1048 = .ok (.laload, 1) := by decide +kernel
theorem dL_law_1049 : decode cL_law 1049 = .ok (.iload 7, 2) := by decide +kernel
theorem dL_law_1051 : decode cL_law 1051 = .ok (.i2l, 1) := by decide +kernel
theorem dL_law_1052 : decode cL_law 1052 = .ok (.lcmp, 1) := by decide +kernel
theorem dL_law_1053 : decode cL_law 1053 = .ok (.ifCond .eq 5, 3) := by decide +kernel
theorem dL_law_1056 : decode cL_law 1056 = .ok (.iconst 0, 1) := by decide +kernel
theorem dL_law_1057 : decode cL_law 1057 = .ok (.ireturn, 1) := by decide +kernel
theorem dL_law_1058 : decode cL_law 1058 = .ok (.goto 1902, 3) := by decide +kernel
theorem dL_law_1061 : decode cL_law 1061 = .ok (.aload_n 1, 1) := by decide +kernel
theorem dL_law_1062 : decode cL_law 1062 = .ok (.aload_n 0, 1) := by decide +kernel
theorem dL_law_1063 : decode cL_law 1063 = .ok (.iload 5, 2) := by decide +kernel
theorem dL_law_1065 : decode cL_law 1065 = .ok (.iconst 1, 1) := by decide +kernel
theorem dL_law_1066 : decode cL_law 1066 = .ok (.iadd, 1) := by decide +kernel
theorem dL_law_1067 : decode cL_law 1067 = .ok (.iaload, 1) := by decide +kernel
theorem dL_law_1068 : decode cL_law 1068 = .ok (.aload_n 0, 1) := by decide +kernel
theorem dL_law_1069 : decode cL_law 1069 = .ok (.iload 5, 2) := by decide +kernel
theorem dL_law_1071 : decode cL_law 1071 = .ok (.iconst 2, 1) := by decide +kernel
theorem dL_law_1072 : decode cL_law 1072 = .ok (.iadd, 1) := by decide +kernel
theorem dL_law_1073 : decode cL_law 1073 = .ok (.iaload, 1) := by decide +kernel
theorem dL_law_1074 : decode cL_law 1074 = .ok (.aload_n 3, 1) := by decide +kernel
theorem dL_law_1075 : decode cL_law 1075 = .ok (.invokestatic 207, 3) := by decide +kernel
theorem dL_law_1078 : decode cL_law 1078 = .ok (.istore 6, 2) := by decide +kernel
theorem dL_law_1080 : decode cL_law 1080 = .ok (.aload_n 2, 1) := by decide +kernel
theorem dL_law_1081 : decode cL_law 1081 = .ok (.aload_n 0, 1) := by decide +kernel
theorem dL_law_1082 : decode cL_law 1082 = .ok (.iload 5, 2) := by decide +kernel
theorem dL_law_1084 : decode cL_law 1084 = .ok (.iconst 1, 1) := by decide +kernel
theorem dL_law_1085 : decode cL_law 1085 = .ok (.iadd, 1) := by decide +kernel
theorem dL_law_1086 : decode cL_law 1086 = .ok (.iaload, 1) := by decide +kernel
theorem dL_law_1087 : decode cL_law 1087 = .ok (.aload_n 0, 1) := by decide +kernel
theorem dL_law_1088 : decode cL_law 1088 = .ok (.iload 5, 2) := by decide +kernel
theorem dL_law_1090 : decode cL_law 1090 = .ok (.iconst 2, 1) := by decide +kernel
theorem dL_law_1091 : decode cL_law 1091 = .ok (.iadd, 1) := by decide +kernel
theorem dL_law_1092 : decode cL_law 1092 = .ok (.iaload, 1) := by decide +kernel
theorem dL_law_1093 : decode cL_law 1093 = .ok (.invokevirtual 209, 3) := by decide +kernel
theorem dL_law_1096 : decode cL_law 1096 = .ok (.istore 7, 2) := by decide +kernel
theorem dL_law_1098 : decode cL_law 1098 = .ok (.aload_n 2, 1) := by decide +kernel
theorem dL_law_1099 : decode cL_law 1099 = .ok (.invokevirtual 162, 3) := by decide +kernel
theorem dL_law_1102 : decode cL_law 1102 = .ok (.iload 6, 2) := by decide +kernel
theorem dL_law_1104 : decode cL_law 1104 = .ok (.if_icmp .eq 5, 3) := by decide +kernel
theorem dL_law_1107 : decode cL_law 1107 = .ok (.iconst 0, 1) := by decide +kernel
theorem dL_law_1108 : decode cL_law 1108 = .ok (.ireturn, 1) := by decide +kernel
theorem dL_law_1109 : decode cL_law 1109 = .ok (.iload 6, 2) := by decide +kernel
theorem dL_law_1111 : decode cL_law 1111 = .ok (.ifCond .ne 15, 3) := by decide +kernel
theorem dL_law_1114 : decode cL_law 1114 = .ok (.aload_n 3, 1) := by decide +kernel
theorem dL_law_1115 : decode cL_law 1115 = .ok (.iconst 0, 1) := by decide +kernel
theorem dL_law_1116 : decode cL_law 1116 = .ok (.laload, 1) := by decide +kernel
theorem dL_law_1117 : decode cL_law 1117 = .ok (.iload 7, 2) := by decide +kernel
theorem dL_law_1119 : decode cL_law 1119 = .ok (.i2l, 1) := by decide +kernel
theorem dL_law_1120 : decode cL_law 1120 = .ok (.lcmp, 1) := by decide +kernel
theorem dL_law_1121 : decode cL_law 1121 = .ok (.ifCond .eq 5, 3) := by decide +kernel
theorem dL_law_1124 : decode cL_law 1124 = .ok (.iconst 0, 1) := by decide +kernel
theorem dL_law_1125 : decode cL_law 1125 = .ok (.ireturn, 1) := by decide +kernel
theorem dL_law_1126 : decode cL_law 1126 = .ok (.goto 1834, 3) := by decide +kernel
theorem dL_law_1129 : decode cL_law 1129 = .ok (.aload_n 1, 1) := by decide +kernel
theorem dL_law_1130 : decode cL_law 1130 = .ok (.aload_n 0, 1) := by decide +kernel
theorem dL_law_1131 : decode cL_law 1131 = .ok (.iload 5, 2) := by decide +kernel
theorem dL_law_1133 : decode cL_law 1133 = .ok (.iconst 1, 1) := by decide +kernel
theorem dL_law_1134 : decode cL_law 1134 = .ok (.iadd, 1) := by decide +kernel
theorem dL_law_1135 : decode cL_law 1135 = .ok (.iaload, 1) := by decide +kernel
theorem dL_law_1136 : decode cL_law 1136 = .ok (.aload_n 0, 1) := by decide +kernel
theorem dL_law_1137 : decode cL_law 1137 = .ok (.iload 5, 2) := by decide +kernel
theorem dL_law_1139 : decode cL_law 1139 = .ok (.iconst 2, 1) := by decide +kernel
theorem dL_law_1140 : decode cL_law 1140 = .ok (.iadd, 1) := by decide +kernel
theorem dL_law_1141 : decode cL_law 1141 = .ok (.iaload, 1) := by decide +kernel
theorem dL_law_1142 : decode cL_law 1142 = .ok (.aload_n 3, 1) := by decide +kernel
theorem dL_law_1143 : decode cL_law 1143 = .ok (.invokestatic 210, 3) := by decide +kernel
theorem dL_law_1146 : decode cL_law 1146 = .ok (.istore 6, 2) := by decide +kernel
theorem dL_law_1148 : decode cL_law 1148 = .ok (.aload_n 2, 1) := by decide +kernel
theorem dL_law_1149 : decode cL_law 1149 = .ok (.aload_n 0, 1) := by decide +kernel
theorem dL_law_1150 : decode cL_law 1150 = .ok (.iload 5, 2) := by decide +kernel
theorem dL_law_1152 : decode cL_law 1152 = .ok (.iconst 1, 1) := by decide +kernel
theorem dL_law_1153 : decode cL_law 1153 = .ok (.iadd, 1) := by decide +kernel
theorem dL_law_1154 : decode cL_law 1154 = .ok (.iaload, 1) := by decide +kernel
theorem dL_law_1155 : decode cL_law 1155 = .ok (.aload_n 0, 1) := by decide +kernel
theorem dL_law_1156 : decode cL_law 1156 = .ok (.iload 5, 2) := by decide +kernel
theorem dL_law_1158 : decode cL_law 1158 = .ok (.iconst 2, 1) := by decide +kernel
theorem dL_law_1159 : decode cL_law 1159 = .ok (.iadd, 1) := by decide +kernel
theorem dL_law_1160 : decode cL_law 1160 = .ok (.iaload, 1) := by decide +kernel
theorem dL_law_1161 : decode cL_law 1161 = .ok (.invokevirtual 212, 3) := by decide +kernel
theorem dL_law_1164 : decode cL_law 1164 = .ok (.istore 7, 2) := by decide +kernel
theorem dL_law_1166 : decode cL_law 1166 = .ok (.aload_n 2, 1) := by decide +kernel
theorem dL_law_1167 : decode cL_law 1167 = .ok (.invokevirtual 162, 3) := by decide +kernel
theorem dL_law_1170 : decode cL_law 1170 = .ok (.iload 6, 2) := by decide +kernel
theorem dL_law_1172 : decode cL_law 1172 = .ok (.if_icmp .eq 5, 3) := by decide +kernel
theorem dL_law_1175 : decode cL_law 1175 = .ok (.iconst 0, 1) := by decide +kernel
theorem dL_law_1176 : decode cL_law 1176 = .ok (.ireturn, 1) := by decide +kernel
theorem dL_law_1177 : decode cL_law 1177 = .ok (.iload 6, 2) := by decide +kernel
theorem dL_law_1179 : decode cL_law 1179 = .ok (.ifCond .ne 15, 3) := by decide +kernel
theorem dL_law_1182 : decode cL_law 1182 = .ok (.aload_n 3, 1) := by decide +kernel
theorem dL_law_1183 : decode cL_law 1183 = .ok (.iconst 0, 1) := by decide +kernel
theorem dL_law_1184 : decode cL_law 1184 = .ok (.laload, 1) := by decide +kernel
theorem dL_law_1185 : decode cL_law 1185 = .ok (.iload 7, 2) := by decide +kernel
theorem dL_law_1187 : decode cL_law 1187 = .ok (.i2l, 1) := by decide +kernel
theorem dL_law_1188 : decode cL_law 1188 = .ok (.lcmp, 1) := by decide +kernel
theorem dL_law_1189 : decode cL_law 1189 = .ok (.ifCond .eq 5, 3) := by decide +kernel
theorem dL_law_1192 : decode cL_law 1192 = .ok (.iconst 0, 1) := by decide +kernel
theorem dL_law_1193 : decode cL_law 1193 = .ok (.ireturn, 1) := by decide +kernel
theorem dL_law_1194 : decode cL_law 1194 = .ok (.goto 1766, 3) := by decide +kernel
theorem dL_law_1197 : decode cL_law 1197 = .ok (.aload_n 1, 1) := by decide +kernel
theorem dL_law_1198 : decode cL_law 1198 = .ok (.aload_n 0, 1) := by decide +kernel
theorem dL_law_1199 : decode cL_law 1199 = .ok (.iload 5, 2) := by decide +kernel
theorem dL_law_1201 : decode cL_law 1201 = .ok (.iconst 1, 1) := by decide +kernel
theorem dL_law_1202 : decode cL_law 1202 = .ok (.iadd, 1) := by decide +kernel
theorem dL_law_1203 : decode cL_law 1203 = .ok (.iaload, 1) := by decide +kernel
theorem dL_law_1204 : decode cL_law 1204 = .ok (.aload_n 3, 1) := by decide +kernel
theorem dL_law_1205 : decode cL_law 1205 = .ok (.invokestatic 213, 3) := by decide +kernel
theorem dL_law_1208 : decode cL_law 1208 = .ok (.istore 6, 2) := by decide +kernel
theorem dL_law_1210 : decode cL_law 1210 = .ok (.aload_n 2, 1) := by decide +kernel
theorem dL_law_1211 : decode cL_law 1211 = .ok (.aload_n 0, 1) := by decide +kernel
theorem dL_law_1212 : decode cL_law 1212 = .ok (.iload 5, 2) := by decide +kernel
theorem dL_law_1214 : decode cL_law 1214 = .ok (.iconst 1, 1) := by decide +kernel
theorem dL_law_1215 : decode cL_law 1215 = .ok (.iadd, 1) := by decide +kernel
theorem dL_law_1216 : decode cL_law 1216 = .ok (.iaload, 1) := by decide +kernel
theorem dL_law_1217 : decode cL_law 1217 = .ok (.invokevirtual 215, 3) := by decide +kernel
theorem dL_law_1220 : decode cL_law 1220 = .ok (.istore 7, 2) := by decide +kernel
theorem dL_law_1222 : decode cL_law 1222 = .ok (.aload_n 2, 1) := by decide +kernel
theorem dL_law_1223 : decode cL_law 1223 = .ok (.invokevirtual 162, 3) := by decide +kernel
theorem dL_law_1226 : decode cL_law 1226 = .ok (.iload 6, 2) := by decide +kernel
theorem dL_law_1228 : decode cL_law 1228 = .ok (.if_icmp .eq 5, 3) := by decide +kernel
theorem dL_law_1231 : decode cL_law 1231 = .ok (.iconst 0, 1) := by decide +kernel
theorem dL_law_1232 : decode cL_law 1232 = .ok (.ireturn, 1) := by decide +kernel
theorem dL_law_1233 : decode cL_law 1233 = .ok (.iload 6, 2) := by decide +kernel
theorem dL_law_1235 : decode cL_law 1235 = .ok (.ifCond .ne 15, 3) := by decide +kernel
theorem dL_law_1238 : decode cL_law 1238 = .ok (.aload_n 3, 1) := by decide +kernel
theorem dL_law_1239 : decode cL_law 1239 = .ok (.iconst 0, 1) := by decide +kernel
theorem dL_law_1240 : decode cL_law 1240 = .ok (.laload, 1) := by decide +kernel
theorem dL_law_1241 : decode cL_law 1241 = .ok (.iload 7, 2) := by decide +kernel
theorem dL_law_1243 : decode cL_law 1243 = .ok (.i2l, 1) := by decide +kernel
theorem dL_law_1244 : decode cL_law 1244 = .ok (.lcmp, 1) := by decide +kernel
theorem dL_law_1245 : decode cL_law 1245 = .ok (.ifCond .eq 5, 3) := by decide +kernel
theorem dL_law_1248 : decode cL_law 1248 = .ok (.iconst 0, 1) := by decide +kernel
theorem dL_law_1249 : decode cL_law 1249 = .ok (.ireturn, 1) := by decide +kernel
theorem dL_law_1250 : decode cL_law 1250 = .ok (.goto 1710, 3) := by decide +kernel
theorem dL_law_1253 : decode cL_law 1253 = .ok (.aload_n 1, 1) := by decide +kernel
theorem dL_law_1254 : decode cL_law 1254 = .ok (.aload_n 3, 1) := by decide +kernel
theorem dL_law_1255 : decode cL_law 1255 = .ok (.invokestatic 216, 3) := by decide +kernel
theorem dL_law_1258 : decode cL_law 1258 = .ok (.istore 6, 2) := by decide +kernel
theorem dL_law_1260 : decode cL_law 1260 = .ok (.aload_n 2, 1) := by decide +kernel
theorem dL_law_1261 : decode cL_law 1261 = .ok (.invokevirtual 218, 3) := by decide +kernel
theorem dL_law_1264 : decode cL_law 1264 = .ok (.istore 7, 2) := by decide +kernel
theorem dL_law_1266 : decode cL_law 1266 = .ok (.aload_n 2, 1) := by decide +kernel
theorem dL_law_1267 : decode cL_law 1267 = .ok (.invokevirtual 162, 3) := by decide +kernel
theorem dL_law_1270 : decode cL_law 1270 = .ok (.iload 6, 2) := by decide +kernel
theorem dL_law_1272 : decode cL_law 1272 = .ok (.if_icmp .eq 5, 3) := by decide +kernel
theorem dL_law_1275 : decode cL_law 1275 = .ok (.iconst 0, 1) := by decide +kernel
theorem dL_law_1276 : decode cL_law 1276 = .ok (.ireturn, 1) := by decide +kernel
theorem dL_law_1277 : decode cL_law 1277 = .ok (.iload 6, 2) := by decide +kernel
theorem dL_law_1279 : decode cL_law 1279 = .ok (.ifCond .ne 15, 3) := by decide +kernel
theorem dL_law_1282 : decode cL_law 1282 = .ok (.aload_n 3, 1) := by decide +kernel
theorem dL_law_1283 : decode cL_law 1283 = .ok (.iconst 0, 1) := by decide +kernel
theorem dL_law_1284 : decode cL_law 1284 = .ok (.laload, 1) := by decide +kernel
theorem dL_law_1285 : decode cL_law 1285 = .ok (.iload 7, 2) := by decide +kernel
theorem dL_law_1287 : decode cL_law 1287 = .ok (.i2l, 1) := by decide +kernel
theorem dL_law_1288 : decode cL_law 1288 = .ok (.lcmp, 1) := by decide +kernel
theorem dL_law_1289 : decode cL_law 1289 = .ok (.ifCond .eq 5, 3) := by decide +kernel
theorem dL_law_1292 : decode cL_law 1292 = .ok (.iconst 0, 1) := by decide +kernel
theorem dL_law_1293 : decode cL_law 1293 = .ok (.ireturn, 1) := by decide +kernel
theorem dL_law_1294 : decode cL_law 1294 = .ok (.goto 1666, 3) := by decide +kernel
theorem dL_law_1297 : decode cL_law 1297 = .ok (.aload_n 1, 1) := by decide +kernel
theorem dL_law_1298 : decode cL_law 1298 = .ok (.invokevirtual 219, 3) := by decide +kernel
theorem dL_law_1301 : decode cL_law 1301 = .ok (.aload_n 2, 1) := by decide +kernel
theorem dL_law_1302 : decode cL_law 1302 = .ok (.invokevirtual 222, 3) := by decide +kernel
theorem dL_law_1305 : decode cL_law 1305 = .ok (.if_icmp .eq 1655, 3) := by decide +kernel
theorem dL_law_1308 : decode cL_law 1308 = .ok (.iconst 0, 1) := by decide +kernel
theorem dL_law_1309 : decode cL_law 1309 = .ok (.ireturn, 1) := by decide +kernel
theorem dL_law_1310 : decode cL_law 1310 = .ok (.aload_n 1, 1) := by decide +kernel
theorem dL_law_1311 : decode cL_law 1311 = .ok (.invokevirtual 223, 3) := by decide +kernel
theorem dL_law_1314 : decode cL_law 1314 = .ok (.aload_n 2, 1) := by decide +kernel
theorem dL_law_1315 : decode cL_law 1315 = .ok (.invokevirtual 226, 3) := by decide +kernel
theorem dL_law_1318 : decode cL_law 1318 = .ok (.if_icmp .eq 1642, 3) := by decide +kernel
theorem dL_law_1321 : decode cL_law 1321 = .ok (.iconst 0, 1) := by decide +kernel
theorem dL_law_1322 : decode cL_law 1322 = .ok (.ireturn, 1) := by decide +kernel
theorem dL_law_1323 : decode cL_law 1323 = .ok (.aload_n 1, 1) := by decide +kernel
theorem dL_law_1324 : decode cL_law 1324 = .ok (.aload_n 3, 1) := by decide +kernel
theorem dL_law_1325 : decode cL_law 1325 = .ok (.invokestatic 227, 3) := by decide +kernel
theorem dL_law_1328 : decode cL_law 1328 = .ok (.istore 6, 2) := by decide +kernel
theorem dL_law_1330 : decode cL_law 1330 = .ok (.aload_n 2, 1) := by decide +kernel
theorem dL_law_1331 : decode cL_law 1331 = .ok (.invokevirtual 229, 3) := by decide +kernel
theorem dL_law_1334 : decode cL_law 1334 = .ok (.istore 7, 2) := by decide +kernel
theorem dL_law_1336 : decode cL_law 1336 = .ok (.aload_n 2, 1) := by decide +kernel
theorem dL_law_1337 : decode cL_law 1337 = .ok (.invokevirtual 162, 3) := by decide +kernel
theorem dL_law_1340 : decode cL_law 1340 = .ok (.iload 6, 2) := by decide +kernel
theorem dL_law_1342 : decode cL_law 1342 = .ok (.if_icmp .eq 5, 3) := by decide +kernel
theorem dL_law_1345 : decode cL_law 1345 = .ok (.iconst 0, 1) := by decide +kernel
theorem dL_law_1346 : decode cL_law 1346 = .ok (.ireturn, 1) := by decide +kernel
theorem dL_law_1347 : decode cL_law 1347 = .ok (.iload 6, 2) := by decide +kernel
theorem dL_law_1349 : decode cL_law 1349 = .ok (.ifCond .ne 15, 3) := by decide +kernel
theorem dL_law_1352 : decode cL_law 1352 = .ok (.aload_n 3, 1) := by decide +kernel
theorem dL_law_1353 : decode cL_law 1353 = .ok (.iconst 0, 1) := by decide +kernel
theorem dL_law_1354 : decode cL_law 1354 = .ok (.laload, 1) := by decide +kernel
theorem dL_law_1355 : decode cL_law 1355 = .ok (.iload 7, 2) := by decide +kernel
theorem dL_law_1357 : decode cL_law 1357 = .ok (.i2l, 1) := by decide +kernel
theorem dL_law_1358 : decode cL_law 1358 = .ok (.lcmp, 1) := by decide +kernel
theorem dL_law_1359 : decode cL_law 1359 = .ok (.ifCond .eq 5, 3) := by decide +kernel
theorem dL_law_1362 : decode cL_law 1362 = .ok (.iconst 0, 1) := by decide +kernel
theorem dL_law_1363 : decode cL_law 1363 = .ok (.ireturn, 1) := by decide +kernel
theorem dL_law_1364 : decode cL_law 1364 = .ok (.goto 1596, 3) := by decide +kernel
theorem dL_law_1367 : decode cL_law 1367 = .ok (.aload_n 1, 1) := by decide +kernel
theorem dL_law_1368 : decode cL_law 1368 = .ok (.aload_n 0, 1) := by decide +kernel
theorem dL_law_1369 : decode cL_law 1369 = .ok (.iload 5, 2) := by decide +kernel
theorem dL_law_1371 : decode cL_law 1371 = .ok (.iconst 1, 1) := by decide +kernel
theorem dL_law_1372 : decode cL_law 1372 = .ok (.iadd, 1) := by decide +kernel
theorem dL_law_1373 : decode cL_law 1373 = .ok (.iaload, 1) := by decide +kernel
theorem dL_law_1374 : decode cL_law 1374 = .ok (.aload_n 3, 1) := by decide +kernel
theorem dL_law_1375 : decode cL_law 1375 = .ok (.invokestatic 230, 3) := by decide +kernel
theorem dL_law_1378 : decode cL_law 1378 = .ok (.istore 6, 2) := by decide +kernel
theorem dL_law_1380 : decode cL_law 1380 = .ok (.aload_n 2, 1) := by decide +kernel
theorem dL_law_1381 : decode cL_law 1381 = .ok (.aload_n 0, 1) := by decide +kernel
theorem dL_law_1382 : decode cL_law 1382 = .ok (.iload 5, 2) := by decide +kernel
theorem dL_law_1384 : decode cL_law 1384 = .ok (.iconst 1, 1) := by decide +kernel
theorem dL_law_1385 : decode cL_law 1385 = .ok (.iadd, 1) := by decide +kernel
theorem dL_law_1386 : decode cL_law 1386 = .ok (.iaload, 1) := by decide +kernel
theorem dL_law_1387 : decode cL_law 1387 = .ok (.invokevirtual 232, 3) := by decide +kernel
theorem dL_law_1390 : decode cL_law 1390 = .ok (.istore 7, 2) := by decide +kernel
theorem dL_law_1392 : decode cL_law 1392 = .ok (.aload_n 2, 1) := by decide +kernel
theorem dL_law_1393 : decode cL_law 1393 = .ok (.invokevirtual 162, 3) := by decide +kernel
theorem dL_law_1396 : decode cL_law 1396 = .ok (.iload 6, 2) := by decide +kernel
theorem dL_law_1398 : decode cL_law 1398 = .ok (.if_icmp .eq 5, 3) := by decide +kernel
theorem dL_law_1401 : decode cL_law 1401 = .ok (.iconst 0, 1) := by decide +kernel
theorem dL_law_1402 : decode cL_law 1402 = .ok (.ireturn, 1) := by decide +kernel
theorem dL_law_1403 : decode cL_law 1403 = .ok (.iload 6, 2) := by decide +kernel
theorem dL_law_1405 : decode cL_law 1405 = .ok (.ifCond .ne 15, 3) := by decide +kernel
theorem dL_law_1408 : decode cL_law 1408 = .ok (.aload_n 3, 1) := by decide +kernel
theorem dL_law_1409 : decode cL_law 1409 = .ok (.iconst 0, 1) := by decide +kernel
theorem dL_law_1410 : decode cL_law 1410 = .ok (.laload, 1) := by decide +kernel
theorem dL_law_1411 : decode cL_law 1411 = .ok (.iload 7, 2) := by decide +kernel
theorem dL_law_1413 : decode cL_law 1413 = .ok (.i2l, 1) := by decide +kernel
theorem dL_law_1414 : decode cL_law 1414 = .ok (.lcmp, 1) := by decide +kernel
theorem dL_law_1415 : decode cL_law 1415 = .ok (.ifCond .eq 5, 3) := by decide +kernel
theorem dL_law_1418 : decode cL_law 1418 = .ok (.iconst 0, 1) := by decide +kernel
theorem dL_law_1419 : decode cL_law 1419 = .ok (.ireturn, 1) := by decide +kernel
theorem dL_law_1420 : decode cL_law 1420 = .ok (.goto 1540, 3) := by decide +kernel
theorem dL_law_1423 : decode cL_law 1423 = .ok (.aload_n 1, 1) := by decide +kernel
theorem dL_law_1424 : decode cL_law 1424 = .ok (.aload_n 0, 1) := by decide +kernel
theorem dL_law_1425 : decode cL_law 1425 = .ok (.iload 5, 2) := by decide +kernel
theorem dL_law_1427 : decode cL_law 1427 = .ok (.iconst 1, 1) := by decide +kernel
theorem dL_law_1428 : decode cL_law 1428 = .ok (.iadd, 1) := by decide +kernel
theorem dL_law_1429 : decode cL_law 1429 = .ok (.iaload, 1) := by decide +kernel
theorem dL_law_1430 : decode cL_law 1430 = .ok (.aload_n 0, 1) := by decide +kernel
theorem dL_law_1431 : decode cL_law 1431 = .ok (.iload 5, 2) := by decide +kernel
theorem dL_law_1433 : decode cL_law 1433 = .ok (.iconst 2, 1) := by decide +kernel
theorem dL_law_1434 : decode cL_law 1434 = .ok (.iadd, 1) := by decide +kernel
theorem dL_law_1435 : decode cL_law 1435 = .ok (.iaload, 1) := by decide +kernel
theorem dL_law_1436 : decode cL_law 1436 = .ok (.aload_n 3, 1) := by decide +kernel
theorem dL_law_1437 : decode cL_law 1437 = .ok (.invokestatic 233, 3) := by decide +kernel
theorem dL_law_1440 : decode cL_law 1440 = .ok (.istore 6, 2) := by decide +kernel
theorem dL_law_1442 : decode cL_law 1442 = .ok (.aload_n 2, 1) := by decide +kernel
theorem dL_law_1443 : decode cL_law 1443 = .ok (.aload_n 0, 1) := by decide +kernel
theorem dL_law_1444 : decode cL_law 1444 = .ok (.iload 5, 2) := by decide +kernel
theorem dL_law_1446 : decode cL_law 1446 = .ok (.iconst 1, 1) := by decide +kernel
theorem dL_law_1447 : decode cL_law 1447 = .ok (.iadd, 1) := by decide +kernel
theorem dL_law_1448 : decode cL_law 1448 = .ok (.iaload, 1) := by decide +kernel
theorem dL_law_1449 : decode cL_law 1449 = .ok (.aload_n 0, 1) := by decide +kernel
theorem dL_law_1450 : decode cL_law 1450 = .ok (.iload 5, 2) := by decide +kernel
theorem dL_law_1452 : decode cL_law 1452 = .ok (.iconst 2, 1) := by decide +kernel
theorem dL_law_1453 : decode cL_law 1453 = .ok (.iadd, 1) := by decide +kernel
theorem dL_law_1454 : decode cL_law 1454 = .ok (.iaload, 1) := by decide +kernel
theorem dL_law_1455 : decode cL_law 1455 = .ok (.invokevirtual 235, 3) := by decide +kernel
theorem dL_law_1458 : decode cL_law 1458 = .ok (.istore 7, 2) := by decide +kernel
theorem dL_law_1460 : decode cL_law 1460 = .ok (.aload_n 2, 1) := by decide +kernel
theorem dL_law_1461 : decode cL_law 1461 = .ok (.invokevirtual 162, 3) := by decide +kernel
theorem dL_law_1464 : decode cL_law 1464 = .ok (.iload 6, 2) := by decide +kernel
theorem dL_law_1466 : decode cL_law 1466 = .ok (.if_icmp .eq 5, 3) := by decide +kernel
theorem dL_law_1469 : decode cL_law 1469 = .ok (.iconst 0, 1) := by decide +kernel
theorem dL_law_1470 : decode cL_law 1470 = .ok (.ireturn, 1) := by decide +kernel
theorem dL_law_1471 : decode cL_law 1471 = .ok (.iload 6, 2) := by decide +kernel
theorem dL_law_1473 : decode cL_law 1473 = .ok (.ifCond .ne 15, 3) := by decide +kernel
theorem dL_law_1476 : decode cL_law 1476 = .ok (.aload_n 3, 1) := by decide +kernel
theorem dL_law_1477 : decode cL_law 1477 = .ok (.iconst 0, 1) := by decide +kernel
theorem dL_law_1478 : decode cL_law 1478 = .ok (.laload, 1) := by decide +kernel
theorem dL_law_1479 : decode cL_law 1479 = .ok (.iload 7, 2) := by decide +kernel
theorem dL_law_1481 : decode cL_law 1481 = .ok (.i2l, 1) := by decide +kernel
theorem dL_law_1482 : decode cL_law 1482 = .ok (.lcmp, 1) := by decide +kernel
theorem dL_law_1483 : decode cL_law 1483 = .ok (.ifCond .eq 5, 3) := by decide +kernel
theorem dL_law_1486 : decode cL_law 1486 = .ok (.iconst 0, 1) := by decide +kernel
theorem dL_law_1487 : decode cL_law 1487 = .ok (.ireturn, 1) := by decide +kernel
theorem dL_law_1488 : decode cL_law 1488 = .ok (.goto 1472, 3) := by decide +kernel
theorem dL_law_1491 : decode cL_law 1491 = .ok (.aload_n 1, 1) := by decide +kernel
theorem dL_law_1492 : decode cL_law 1492 = .ok (.aload_n 0, 1) := by decide +kernel
theorem dL_law_1493 : decode cL_law 1493 = .ok (.iload 5, 2) := by decide +kernel
theorem dL_law_1495 : decode cL_law 1495 = .ok (.iconst 1, 1) := by decide +kernel
theorem dL_law_1496 : decode cL_law 1496 = .ok (.iadd, 1) := by decide +kernel
theorem dL_law_1497 : decode cL_law 1497 = .ok (.iaload, 1) := by decide +kernel
theorem dL_law_1498 : decode cL_law 1498 = .ok (.aload_n 0, 1) := by decide +kernel
theorem dL_law_1499 : decode cL_law 1499 = .ok (.iload 5, 2) := by decide +kernel
theorem dL_law_1501 : decode cL_law 1501 = .ok (.iconst 2, 1) := by decide +kernel
theorem dL_law_1502 : decode cL_law 1502 = .ok (.iadd, 1) := by decide +kernel
theorem dL_law_1503 : decode cL_law 1503 = .ok (.iaload, 1) := by decide +kernel
theorem dL_law_1504 : decode cL_law 1504 = .ok (.aload_n 3, 1) := by decide +kernel
theorem dL_law_1505 : decode cL_law 1505 = .ok (.invokestatic 236, 3) := by decide +kernel
theorem dL_law_1508 : decode cL_law 1508 = .ok (.istore 6, 2) := by decide +kernel
theorem dL_law_1510 : decode cL_law 1510 = .ok (.aload_n 2, 1) := by decide +kernel
theorem dL_law_1511 : decode cL_law 1511 = .ok (.aload_n 0, 1) := by decide +kernel
theorem dL_law_1512 : decode cL_law 1512 = .ok (.iload 5, 2) := by decide +kernel
theorem dL_law_1514 : decode cL_law 1514 = .ok (.iconst 1, 1) := by decide +kernel
theorem dL_law_1515 : decode cL_law 1515 = .ok (.iadd, 1) := by decide +kernel
theorem dL_law_1516 : decode cL_law 1516 = .ok (.iaload, 1) := by decide +kernel
theorem dL_law_1517 : decode cL_law 1517 = .ok (.aload_n 0, 1) := by decide +kernel
theorem dL_law_1518 : decode cL_law 1518 = .ok (.iload 5, 2) := by decide +kernel
theorem dL_law_1520 : decode cL_law 1520 = .ok (.iconst 2, 1) := by decide +kernel
theorem dL_law_1521 : decode cL_law 1521 = .ok (.iadd, 1) := by decide +kernel
theorem dL_law_1522 : decode cL_law 1522 = .ok (.iaload, 1) := by decide +kernel
theorem dL_law_1523 : decode cL_law 1523 = .ok (.invokevirtual 238, 3) := by decide +kernel
theorem dL_law_1526 : decode cL_law 1526 = .ok (.istore 7, 2) := by decide +kernel
theorem dL_law_1528 : decode cL_law 1528 = .ok (.aload_n 2, 1) := by decide +kernel
theorem dL_law_1529 : decode cL_law 1529 = .ok (.invokevirtual 162, 3) := by decide +kernel
theorem dL_law_1532 : decode cL_law 1532 = .ok (.iload 6, 2) := by decide +kernel
theorem dL_law_1534 : decode cL_law 1534 = .ok (.if_icmp .eq 5, 3) := by decide +kernel
theorem dL_law_1537 : decode cL_law 1537 = .ok (.iconst 0, 1) := by decide +kernel
theorem dL_law_1538 : decode cL_law 1538 = .ok (.ireturn, 1) := by decide +kernel
theorem dL_law_1539 : decode cL_law 1539 = .ok (.iload 6, 2) := by decide +kernel
theorem dL_law_1541 : decode cL_law 1541 = .ok (.ifCond .ne 15, 3) := by decide +kernel
theorem dL_law_1544 : decode cL_law 1544 = .ok (.aload_n 3, 1) := by decide +kernel
theorem dL_law_1545 : decode cL_law 1545 = .ok (.iconst 0, 1) := by decide +kernel
theorem dL_law_1546 : decode cL_law 1546 = .ok (.laload, 1) := by decide +kernel
theorem dL_law_1547 : decode cL_law 1547 = .ok (.iload 7, 2) := by decide +kernel
theorem dL_law_1549 : decode cL_law 1549 = .ok (.i2l, 1) := by decide +kernel
theorem dL_law_1550 : decode cL_law 1550 = .ok (.lcmp, 1) := by decide +kernel
theorem dL_law_1551 : decode cL_law 1551 = .ok (.ifCond .eq 5, 3) := by decide +kernel
theorem dL_law_1554 : decode cL_law 1554 = .ok (.iconst 0, 1) := by decide +kernel
theorem dL_law_1555 : decode cL_law 1555 = .ok (.ireturn, 1) := by decide +kernel
theorem dL_law_1556 : decode cL_law 1556 = .ok (.goto 1404, 3) := by decide +kernel
theorem dL_law_1559 : decode cL_law 1559 = .ok (.aload_n 1, 1) := by decide +kernel
theorem dL_law_1560 : decode cL_law 1560 = .ok (.aload_n 0, 1) := by decide +kernel
theorem dL_law_1561 : decode cL_law 1561 = .ok (.iload 5, 2) := by decide +kernel
theorem dL_law_1563 : decode cL_law 1563 = .ok (.iconst 1, 1) := by decide +kernel
theorem dL_law_1564 : decode cL_law 1564 = .ok (.iadd, 1) := by decide +kernel
theorem dL_law_1565 : decode cL_law 1565 = .ok (.iaload, 1) := by decide +kernel
theorem dL_law_1566 : decode cL_law 1566 = .ok (.aload_n 0, 1) := by decide +kernel
theorem dL_law_1567 : decode cL_law 1567 = .ok (.iload 5, 2) := by decide +kernel
theorem dL_law_1569 : decode cL_law 1569 = .ok (.iconst 2, 1) := by decide +kernel
theorem dL_law_1570 : decode cL_law 1570 = .ok (.iadd, 1) := by decide +kernel
theorem dL_law_1571 : decode cL_law 1571 = .ok (.iaload, 1) := by decide +kernel
theorem dL_law_1572 : decode cL_law 1572 = .ok (.aload_n 3, 1) := by decide +kernel
theorem dL_law_1573 : decode cL_law 1573 = .ok (.invokestatic 239, 3) := by decide +kernel
theorem dL_law_1576 : decode cL_law 1576 = .ok (.istore 6, 2) := by decide +kernel
theorem dL_law_1578 : decode cL_law 1578 = .ok (.aload_n 2, 1) := by decide +kernel
theorem dL_law_1579 : decode cL_law 1579 = .ok (.aload_n 0, 1) := by decide +kernel
theorem dL_law_1580 : decode cL_law 1580 = .ok (.iload 5, 2) := by decide +kernel
theorem dL_law_1582 : decode cL_law 1582 = .ok (.iconst 1, 1) := by decide +kernel
theorem dL_law_1583 : decode cL_law 1583 = .ok (.iadd, 1) := by decide +kernel
theorem dL_law_1584 : decode cL_law 1584 = .ok (.iaload, 1) := by decide +kernel
theorem dL_law_1585 : decode cL_law 1585 = .ok (.aload_n 0, 1) := by decide +kernel
theorem dL_law_1586 : decode cL_law 1586 = .ok (.iload 5, 2) := by decide +kernel
theorem dL_law_1588 : decode cL_law 1588 = .ok (.iconst 2, 1) := by decide +kernel
theorem dL_law_1589 : decode cL_law 1589 = .ok (.iadd, 1) := by decide +kernel
theorem dL_law_1590 : decode cL_law 1590 = .ok (.iaload, 1) := by decide +kernel
theorem dL_law_1591 : decode cL_law 1591 = .ok (.invokevirtual 241, 3) := by decide +kernel
theorem dL_law_1594 : decode cL_law 1594 = .ok (.istore 7, 2) := by decide +kernel
theorem dL_law_1596 : decode cL_law 1596 = .ok (.aload_n 2, 1) := by decide +kernel
theorem dL_law_1597 : decode cL_law 1597 = .ok (.invokevirtual 162, 3) := by decide +kernel
theorem dL_law_1600 : decode cL_law 1600 = .ok (.iload 6, 2) := by decide +kernel
theorem dL_law_1602 : decode cL_law 1602 = .ok (.if_icmp .eq 5, 3) := by decide +kernel
theorem dL_law_1605 : decode cL_law 1605 = .ok (.iconst 0, 1) := by decide +kernel
theorem dL_law_1606 : decode cL_law 1606 = .ok (.ireturn, 1) := by decide +kernel
theorem dL_law_1607 : decode cL_law 1607 = .ok (.iload 6, 2) := by decide +kernel
theorem dL_law_1609 : decode cL_law 1609 = .ok (.ifCond .ne 15, 3) := by decide +kernel
theorem dL_law_1612 : decode cL_law 1612 = .ok (.aload_n 3, 1) := by decide +kernel
theorem dL_law_1613 : decode cL_law 1613 = .ok (.iconst 0, 1) := by decide +kernel
theorem dL_law_1614 : decode cL_law 1614 = .ok (.laload, 1) := by decide +kernel
theorem dL_law_1615 : decode cL_law 1615 = .ok (.iload 7, 2) := by decide +kernel
theorem dL_law_1617 : decode cL_law 1617 = .ok (.i2l, 1) := by decide +kernel
theorem dL_law_1618 : decode cL_law 1618 = .ok (.lcmp, 1) := by decide +kernel
theorem dL_law_1619 : decode cL_law 1619 = .ok (.ifCond .eq 5, 3) := by decide +kernel
theorem dL_law_1622 : decode cL_law 1622 = .ok (.iconst 0, 1) := by decide +kernel
theorem dL_law_1623 : decode cL_law 1623 = .ok (.ireturn, 1) := by decide +kernel
theorem dL_law_1624 : decode cL_law 1624 = .ok (.goto 1336, 3) := by decide +kernel
theorem dL_law_1627 : decode cL_law 1627 = .ok (.aload_n 1, 1) := by decide +kernel
theorem dL_law_1628 : decode cL_law 1628 = .ok (.aload_n 0, 1) := by decide +kernel
theorem dL_law_1629 : decode cL_law 1629 = .ok (.iload 5, 2) := by decide +kernel
theorem dL_law_1631 : decode cL_law 1631 = .ok (.iconst 1, 1) := by decide +kernel
theorem dL_law_1632 : decode cL_law 1632 = .ok (.iadd, 1) := by decide +kernel
theorem dL_law_1633 : decode cL_law 1633 = .ok (.iaload, 1) := by decide +kernel
theorem dL_law_1634 : decode cL_law 1634 = .ok (.aload_n 0, 1) := by decide +kernel
theorem dL_law_1635 : decode cL_law 1635 = .ok (.iload 5, 2) := by decide +kernel
theorem dL_law_1637 : decode cL_law 1637 = .ok (.iconst 2, 1) := by decide +kernel
theorem dL_law_1638 : decode cL_law 1638 = .ok (.iadd, 1) := by decide +kernel
theorem dL_law_1639 : decode cL_law 1639 = .ok (.iaload, 1) := by decide +kernel
theorem dL_law_1640 : decode cL_law 1640 = .ok (.aload_n 3, 1) := by decide +kernel
theorem dL_law_1641 : decode cL_law 1641 = .ok (.invokestatic 242, 3) := by decide +kernel
theorem dL_law_1644 : decode cL_law 1644 = .ok (.istore 6, 2) := by decide +kernel
theorem dL_law_1646 : decode cL_law 1646 = .ok (.aload_n 2, 1) := by decide +kernel
theorem dL_law_1647 : decode cL_law 1647 = .ok (.aload_n 0, 1) := by decide +kernel
theorem dL_law_1648 : decode cL_law 1648 = .ok (.iload 5, 2) := by decide +kernel
theorem dL_law_1650 : decode cL_law 1650 = .ok (.iconst 1, 1) := by decide +kernel
theorem dL_law_1651 : decode cL_law 1651 = .ok (.iadd, 1) := by decide +kernel
theorem dL_law_1652 : decode cL_law 1652 = .ok (.iaload, 1) := by decide +kernel
theorem dL_law_1653 : decode cL_law 1653 = .ok (.aload_n 0, 1) := by decide +kernel
theorem dL_law_1654 : decode cL_law 1654 = .ok (.iload 5, 2) := by decide +kernel
theorem dL_law_1656 : decode cL_law 1656 = .ok (.iconst 2, 1) := by decide +kernel
theorem dL_law_1657 : decode cL_law 1657 = .ok (.iadd, 1) := by decide +kernel
theorem dL_law_1658 : decode cL_law 1658 = .ok (.iaload, 1) := by decide +kernel
theorem dL_law_1659 : decode cL_law 1659 = .ok (.invokevirtual 244, 3) := by decide +kernel
theorem dL_law_1662 : decode cL_law 1662 = .ok (.istore 7, 2) := by decide +kernel
theorem dL_law_1664 : decode cL_law 1664 = .ok (.aload_n 2, 1) := by decide +kernel
theorem dL_law_1665 : decode cL_law 1665 = .ok (.invokevirtual 162, 3) := by decide +kernel
theorem dL_law_1668 : decode cL_law 1668 = .ok (.iload 6, 2) := by decide +kernel
theorem dL_law_1670 : decode cL_law 1670 = .ok (.if_icmp .eq 5, 3) := by decide +kernel
theorem dL_law_1673 : decode cL_law 1673 = .ok (.iconst 0, 1) := by decide +kernel
theorem dL_law_1674 : decode cL_law 1674 = .ok (.ireturn, 1) := by decide +kernel
theorem dL_law_1675 : decode cL_law 1675 = .ok (.iload 6, 2) := by decide +kernel
theorem dL_law_1677 : decode cL_law 1677 = .ok (.ifCond .ne 15, 3) := by decide +kernel
theorem dL_law_1680 : decode cL_law 1680 = .ok (.aload_n 3, 1) := by decide +kernel
theorem dL_law_1681 : decode cL_law 1681 = .ok (.iconst 0, 1) := by decide +kernel
theorem dL_law_1682 : decode cL_law 1682 = .ok (.laload, 1) := by decide +kernel
theorem dL_law_1683 : decode cL_law 1683 = .ok (.iload 7, 2) := by decide +kernel
theorem dL_law_1685 : decode cL_law 1685 = .ok (.i2l, 1) := by decide +kernel
theorem dL_law_1686 : decode cL_law 1686 = .ok (.lcmp, 1) := by decide +kernel
theorem dL_law_1687 : decode cL_law 1687 = .ok (.ifCond .eq 5, 3) := by decide +kernel
theorem dL_law_1690 : decode cL_law 1690 = .ok (.iconst 0, 1) := by decide +kernel
theorem dL_law_1691 : decode cL_law 1691 = .ok (.ireturn, 1) := by decide +kernel
theorem dL_law_1692 : decode cL_law 1692 = .ok (.goto 1268, 3) := by decide +kernel
theorem dL_law_1695 : decode cL_law 1695 = .ok (.aload_n 1, 1) := by decide +kernel
theorem dL_law_1696 : decode cL_law 1696 = .ok (.aload_n 0, 1) := by decide +kernel
theorem dL_law_1697 : decode cL_law 1697 = .ok (.iload 5, 2) := by decide +kernel
theorem dL_law_1699 : decode cL_law 1699 = .ok (.iconst 1, 1) := by decide +kernel
theorem dL_law_1700 : decode cL_law 1700 = .ok (.iadd, 1) := by decide +kernel
theorem dL_law_1701 : decode cL_law 1701 = .ok (.iaload, 1) := by decide +kernel
theorem dL_law_1702 : decode cL_law 1702 = .ok (.aload_n 0, 1) := by decide +kernel
theorem dL_law_1703 : decode cL_law 1703 = .ok (.iload 5, 2) := by decide +kernel
theorem dL_law_1705 : decode cL_law 1705 = .ok (.iconst 2, 1) := by decide +kernel
theorem dL_law_1706 : decode cL_law 1706 = .ok (.iadd, 1) := by decide +kernel
theorem dL_law_1707 : decode cL_law 1707 = .ok (.iaload, 1) := by decide +kernel
theorem dL_law_1708 : decode cL_law 1708 = .ok (.aload_n 3, 1) := by decide +kernel
theorem dL_law_1709 : decode cL_law 1709 = .ok (.invokestatic 245, 3) := by decide +kernel
theorem dL_law_1712 : decode cL_law 1712 = .ok (.istore 6, 2) := by decide +kernel
theorem dL_law_1714 : decode cL_law 1714 = .ok (.aload_n 2, 1) := by decide +kernel
theorem dL_law_1715 : decode cL_law 1715 = .ok (.aload_n 0, 1) := by decide +kernel
theorem dL_law_1716 : decode cL_law 1716 = .ok (.iload 5, 2) := by decide +kernel
theorem dL_law_1718 : decode cL_law 1718 = .ok (.iconst 1, 1) := by decide +kernel
theorem dL_law_1719 : decode cL_law 1719 = .ok (.iadd, 1) := by decide +kernel
theorem dL_law_1720 : decode cL_law 1720 = .ok (.iaload, 1) := by decide +kernel
theorem dL_law_1721 : decode cL_law 1721 = .ok (.aload_n 0, 1) := by decide +kernel
theorem dL_law_1722 : decode cL_law 1722 = .ok (.iload 5, 2) := by decide +kernel
theorem dL_law_1724 : decode cL_law 1724 = .ok (.iconst 2, 1) := by decide +kernel
theorem dL_law_1725 : decode cL_law 1725 = .ok (.iadd, 1) := by decide +kernel
theorem dL_law_1726 : decode cL_law 1726 = .ok (.iaload, 1) := by decide +kernel
theorem dL_law_1727 : decode cL_law 1727 = .ok (.invokevirtual 247, 3) := by decide +kernel
theorem dL_law_1730 : decode cL_law 1730 = .ok (.istore 7, 2) := by decide +kernel
theorem dL_law_1732 : decode cL_law 1732 = .ok (.aload_n 2, 1) := by decide +kernel
theorem dL_law_1733 : decode cL_law 1733 = .ok (.invokevirtual 162, 3) := by decide +kernel
theorem dL_law_1736 : decode cL_law 1736 = .ok (.iload 6, 2) := by decide +kernel
theorem dL_law_1738 : decode cL_law 1738 = .ok (.if_icmp .eq 5, 3) := by decide +kernel
theorem dL_law_1741 : decode cL_law 1741 = .ok (.iconst 0, 1) := by decide +kernel
theorem dL_law_1742 : decode cL_law 1742 = .ok (.ireturn, 1) := by decide +kernel
theorem dL_law_1743 : decode cL_law 1743 = .ok (.iload 6, 2) := by decide +kernel
theorem dL_law_1745 : decode cL_law 1745 = .ok (.ifCond .ne 15, 3) := by decide +kernel
theorem dL_law_1748 : decode cL_law 1748 = .ok (.aload_n 3, 1) := by decide +kernel
theorem dL_law_1749 : decode cL_law 1749 = .ok (.iconst 0, 1) := by decide +kernel
theorem dL_law_1750 : decode cL_law 1750 = .ok (.laload, 1) := by decide +kernel
theorem dL_law_1751 : decode cL_law 1751 = .ok (.iload 7, 2) := by decide +kernel
theorem dL_law_1753 : decode cL_law 1753 = .ok (.i2l, 1) := by decide +kernel
theorem dL_law_1754 : decode cL_law 1754 = .ok (.lcmp, 1) := by decide +kernel
theorem dL_law_1755 : decode cL_law 1755 = .ok (.ifCond .eq 5, 3) := by decide +kernel
theorem dL_law_1758 : decode cL_law 1758 = .ok (.iconst 0, 1) := by decide +kernel
theorem dL_law_1759 : decode cL_law 1759 = .ok (.ireturn, 1) := by decide +kernel
theorem dL_law_1760 : decode cL_law 1760 = .ok (.goto 1200, 3) := by decide +kernel
theorem dL_law_1763 : decode cL_law 1763 = .ok (.aload_n 1, 1) := by decide +kernel
theorem dL_law_1764 : decode cL_law 1764 = .ok (.aload_n 0, 1) := by decide +kernel
theorem dL_law_1765 : decode cL_law 1765 = .ok (.iload 5, 2) := by decide +kernel
theorem dL_law_1767 : decode cL_law 1767 = .ok (.iconst 1, 1) := by decide +kernel
theorem dL_law_1768 : decode cL_law 1768 = .ok (.iadd, 1) := by decide +kernel
theorem dL_law_1769 : decode cL_law 1769 = .ok (.iaload, 1) := by decide +kernel
theorem dL_law_1770 : decode cL_law 1770 = .ok (.aload_n 0, 1) := by decide +kernel
theorem dL_law_1771 : decode cL_law 1771 = .ok (.iload 5, 2) := by decide +kernel
theorem dL_law_1773 : decode cL_law 1773 = .ok (.iconst 2, 1) := by decide +kernel
theorem dL_law_1774 : decode cL_law 1774 = .ok (.iadd, 1) := by decide +kernel
theorem dL_law_1775 : decode cL_law 1775 = .ok (.iaload, 1) := by decide +kernel
theorem dL_law_1776 : decode cL_law 1776 = .ok (.aload_n 3, 1) := by decide +kernel
theorem dL_law_1777 : decode cL_law 1777 = .ok (.invokestatic 248, 3) := by decide +kernel
theorem dL_law_1780 : decode cL_law 1780 = .ok (.istore 6, 2) := by decide +kernel
theorem dL_law_1782 : decode cL_law 1782 = .ok (.aload_n 2, 1) := by decide +kernel
theorem dL_law_1783 : decode cL_law 1783 = .ok (.aload_n 0, 1) := by decide +kernel
theorem dL_law_1784 : decode cL_law 1784 = .ok (.iload 5, 2) := by decide +kernel
theorem dL_law_1786 : decode cL_law 1786 = .ok (.iconst 1, 1) := by decide +kernel
theorem dL_law_1787 : decode cL_law 1787 = .ok (.iadd, 1) := by decide +kernel
theorem dL_law_1788 : decode cL_law 1788 = .ok (.iaload, 1) := by decide +kernel
theorem dL_law_1789 : decode cL_law 1789 = .ok (.aload_n 0, 1) := by decide +kernel
theorem dL_law_1790 : decode cL_law 1790 = .ok (.iload 5, 2) := by decide +kernel
theorem dL_law_1792 : decode cL_law 1792 = .ok (.iconst 2, 1) := by decide +kernel
theorem dL_law_1793 : decode cL_law 1793 = .ok (.iadd, 1) := by decide +kernel
theorem dL_law_1794 : decode cL_law 1794 = .ok (.iaload, 1) := by decide +kernel
theorem dL_law_1795 : decode cL_law 1795 = .ok (.invokevirtual 250, 3) := by decide +kernel
theorem dL_law_1798 : decode cL_law 1798 = .ok (.istore 7, 2) := by decide +kernel
theorem dL_law_1800 : decode cL_law 1800 = .ok (.aload_n 2, 1) := by decide +kernel
theorem dL_law_1801 : decode cL_law 1801 = .ok (.invokevirtual 162, 3) := by decide +kernel
theorem dL_law_1804 : decode cL_law 1804 = .ok (.iload 6, 2) := by decide +kernel
theorem dL_law_1806 : decode cL_law 1806 = .ok (.if_icmp .eq 5, 3) := by decide +kernel
theorem dL_law_1809 : decode cL_law 1809 = .ok (.iconst 0, 1) := by decide +kernel
theorem dL_law_1810 : decode cL_law 1810 = .ok (.ireturn, 1) := by decide +kernel
theorem dL_law_1811 : decode cL_law 1811 = .ok (.iload 6, 2) := by decide +kernel
theorem dL_law_1813 : decode cL_law 1813 = .ok (.ifCond .ne 15, 3) := by decide +kernel
theorem dL_law_1816 : decode cL_law 1816 = .ok (.aload_n 3, 1) := by decide +kernel
theorem dL_law_1817 : decode cL_law 1817 = .ok (.iconst 0, 1) := by decide +kernel
theorem dL_law_1818 : decode cL_law 1818 = .ok (.laload, 1) := by decide +kernel
theorem dL_law_1819 : decode cL_law 1819 = .ok (.iload 7, 2) := by decide +kernel
theorem dL_law_1821 : decode cL_law 1821 = .ok (.i2l, 1) := by decide +kernel
theorem dL_law_1822 : decode cL_law 1822 = .ok (.lcmp, 1) := by decide +kernel
theorem dL_law_1823 : decode cL_law 1823 = .ok (.ifCond .eq 5, 3) := by decide +kernel
theorem dL_law_1826 : decode cL_law 1826 = .ok (.iconst 0, 1) := by decide +kernel
theorem dL_law_1827 : decode cL_law 1827 = .ok (.ireturn, 1) := by decide +kernel
theorem dL_law_1828 : decode cL_law 1828 = .ok (.goto 1132, 3) := by decide +kernel
theorem dL_law_1831 : decode cL_law 1831 = .ok (.aload_n 1, 1) := by decide +kernel
theorem dL_law_1832 : decode cL_law 1832 = .ok (.aload_n 0, 1) := by decide +kernel
theorem dL_law_1833 : decode cL_law 1833 = .ok (.iload 5, 2) := by decide +kernel
theorem dL_law_1835 : decode cL_law 1835 = .ok (.iconst 1, 1) := by decide +kernel
theorem dL_law_1836 : decode cL_law 1836 = .ok (.iadd, 1) := by decide +kernel
theorem dL_law_1837 : decode cL_law 1837 = .ok (.iaload, 1) := by decide +kernel
theorem dL_law_1838 : decode cL_law 1838 = .ok (.aload_n 0, 1) := by decide +kernel
theorem dL_law_1839 : decode cL_law 1839 = .ok (.iload 5, 2) := by decide +kernel
theorem dL_law_1841 : decode cL_law 1841 = .ok (.iconst 2, 1) := by decide +kernel
theorem dL_law_1842 : decode cL_law 1842 = .ok (.iadd, 1) := by decide +kernel
theorem dL_law_1843 : decode cL_law 1843 = .ok (.iaload, 1) := by decide +kernel
theorem dL_law_1844 : decode cL_law 1844 = .ok (.aload_n 0, 1) := by decide +kernel
theorem dL_law_1845 : decode cL_law 1845 = .ok (.iload 5, 2) := by decide +kernel
theorem dL_law_1847 : decode cL_law 1847 = .ok (.iconst 3, 1) := by decide +kernel
theorem dL_law_1848 : decode cL_law 1848 = .ok (.iadd, 1) := by decide +kernel
theorem dL_law_1849 : decode cL_law 1849 = .ok (.iaload, 1) := by decide +kernel
theorem dL_law_1850 : decode cL_law 1850 = .ok (.aload_n 3, 1) := by decide +kernel
theorem dL_law_1851 : decode cL_law 1851 = .ok (.invokestatic 251, 3) := by decide +kernel
theorem dL_law_1854 : decode cL_law 1854 = .ok (.istore 6, 2) := by decide +kernel
theorem dL_law_1856 : decode cL_law 1856 = .ok (.aload_n 2, 1) := by decide +kernel
theorem dL_law_1857 : decode cL_law 1857 = .ok (.aload_n 0, 1) := by decide +kernel
theorem dL_law_1858 : decode cL_law 1858 = .ok (.iload 5, 2) := by decide +kernel
theorem dL_law_1860 : decode cL_law 1860 = .ok (.iconst 1, 1) := by decide +kernel
theorem dL_law_1861 : decode cL_law 1861 = .ok (.iadd, 1) := by decide +kernel
theorem dL_law_1862 : decode cL_law 1862 = .ok (.iaload, 1) := by decide +kernel
theorem dL_law_1863 : decode cL_law 1863 = .ok (.aload_n 0, 1) := by decide +kernel
theorem dL_law_1864 : decode cL_law 1864 = .ok (.iload 5, 2) := by decide +kernel
theorem dL_law_1866 : decode cL_law 1866 = .ok (.iconst 2, 1) := by decide +kernel
theorem dL_law_1867 : decode cL_law 1867 = .ok (.iadd, 1) := by decide +kernel
theorem dL_law_1868 : decode cL_law 1868 = .ok (.iaload, 1) := by decide +kernel
theorem dL_law_1869 : decode cL_law 1869 = .ok (.aload_n 0, 1) := by decide +kernel
theorem dL_law_1870 : decode cL_law 1870 = .ok (.iload 5, 2) := by decide +kernel
theorem dL_law_1872 : decode cL_law 1872 = .ok (.iconst 3, 1) := by decide +kernel
theorem dL_law_1873 : decode cL_law 1873 = .ok (.iadd, 1) := by decide +kernel
theorem dL_law_1874 : decode cL_law 1874 = .ok (.iaload, 1) := by decide +kernel
theorem dL_law_1875 : decode cL_law 1875 = .ok (.invokevirtual 253, 3) := by decide +kernel
theorem dL_law_1878 : decode cL_law 1878 = .ok (.istore 7, 2) := by decide +kernel
theorem dL_law_1880 : decode cL_law 1880 = .ok (.aload_n 2, 1) := by decide +kernel
theorem dL_law_1881 : decode cL_law 1881 = .ok (.invokevirtual 162, 3) := by decide +kernel
theorem dL_law_1884 : decode cL_law 1884 = .ok (.iload 6, 2) := by decide +kernel
theorem dL_law_1886 : decode cL_law 1886 = .ok (.if_icmp .eq 5, 3) := by decide +kernel
theorem dL_law_1889 : decode cL_law 1889 = .ok (.iconst 0, 1) := by decide +kernel
theorem dL_law_1890 : decode cL_law 1890 = .ok (.ireturn, 1) := by decide +kernel
theorem dL_law_1891 : decode cL_law 1891 = .ok (.iload 6, 2) := by decide +kernel
theorem dL_law_1893 : decode cL_law 1893 = .ok (.ifCond .ne 15, 3) := by decide +kernel
theorem dL_law_1896 : decode cL_law 1896 = .ok (.aload_n 3, 1) := by decide +kernel
theorem dL_law_1897 : decode cL_law 1897 = .ok (.iconst 0, 1) := by decide +kernel
theorem dL_law_1898 : decode cL_law 1898 = .ok (.laload, 1) := by decide +kernel
theorem dL_law_1899 : decode cL_law 1899 = .ok (.iload 7, 2) := by decide +kernel
theorem dL_law_1901 : decode cL_law 1901 = .ok (.i2l, 1) := by decide +kernel
theorem dL_law_1902 : decode cL_law 1902 = .ok (.lcmp, 1) := by decide +kernel
theorem dL_law_1903 : decode cL_law 1903 = .ok (.ifCond .eq 5, 3) := by decide +kernel
theorem dL_law_1906 : decode cL_law 1906 = .ok (.iconst 0, 1) := by decide +kernel
theorem dL_law_1907 : decode cL_law 1907 = .ok (.ireturn, 1) := by decide +kernel
theorem dL_law_1908 : decode cL_law 1908 = .ok (.goto 1052, 3) := by decide +kernel
theorem dL_law_1911 : decode cL_law 1911 = .ok (.aload_n 1, 1) := by decide +kernel
theorem dL_law_1912 : decode cL_law 1912 = .ok (.aload_n 0, 1) := by decide +kernel
theorem dL_law_1913 : decode cL_law 1913 = .ok (.iload 5, 2) := by decide +kernel
theorem dL_law_1915 : decode cL_law 1915 = .ok (.iconst 1, 1) := by decide +kernel
theorem dL_law_1916 : decode cL_law 1916 = .ok (.iadd, 1) := by decide +kernel
theorem dL_law_1917 : decode cL_law 1917 = .ok (.iaload, 1) := by decide +kernel
theorem dL_law_1918 : decode cL_law 1918 = .ok (.aload_n 3, 1) := by decide +kernel
theorem dL_law_1919 : decode cL_law 1919 = .ok (.invokestatic 254, 3) := by decide +kernel
theorem dL_law_1922 : decode cL_law 1922 = .ok (.istore 6, 2) := by decide +kernel
theorem dL_law_1924 : decode cL_law 1924 = .ok (.aload_n 2, 1) := by decide +kernel
theorem dL_law_1925 : decode cL_law 1925 = .ok (.aload_n 0, 1) := by decide +kernel
theorem dL_law_1926 : decode cL_law 1926 = .ok (.iload 5, 2) := by decide +kernel
theorem dL_law_1928 : decode cL_law 1928 = .ok (.iconst 1, 1) := by decide +kernel
theorem dL_law_1929 : decode cL_law 1929 = .ok (.iadd, 1) := by decide +kernel
theorem dL_law_1930 : decode cL_law 1930 = .ok (.iaload, 1) := by decide +kernel
theorem dL_law_1931 : decode cL_law 1931 = .ok (.invokevirtual 256, 3) := by decide +kernel
theorem dL_law_1934 : decode cL_law 1934 = .ok (.istore 7, 2) := by decide +kernel
theorem dL_law_1936 : decode cL_law 1936 = .ok (.aload_n 2, 1) := by decide +kernel
theorem dL_law_1937 : decode cL_law 1937 = .ok (.invokevirtual 162, 3) := by decide +kernel
theorem dL_law_1940 : decode cL_law 1940 = .ok (.iload 6, 2) := by decide +kernel
theorem dL_law_1942 : decode cL_law 1942 = .ok (.if_icmp .eq 5, 3) := by decide +kernel
theorem dL_law_1945 : decode cL_law 1945 = .ok (.iconst 0, 1) := by decide +kernel
theorem dL_law_1946 : decode cL_law 1946 = .ok (.ireturn, 1) := by decide +kernel
theorem dL_law_1947 : decode cL_law 1947 = .ok (.iload 6, 2) := by decide +kernel
theorem dL_law_1949 : decode cL_law 1949 = .ok (.ifCond .ne 15, 3) := by decide +kernel
theorem dL_law_1952 : decode cL_law 1952 = .ok (.aload_n 3, 1) := by decide +kernel
theorem dL_law_1953 : decode cL_law 1953 = .ok (.iconst 0, 1) := by decide +kernel
theorem dL_law_1954 : decode cL_law 1954 = .ok (.laload, 1) := by decide +kernel
theorem dL_law_1955 : decode cL_law 1955 = .ok (.iload 7, 2) := by decide +kernel
theorem dL_law_1957 : decode cL_law 1957 = .ok (.i2l, 1) := by decide +kernel
theorem dL_law_1958 : decode cL_law 1958 = .ok (.lcmp, 1) := by decide +kernel
theorem dL_law_1959 : decode cL_law 1959 = .ok (.ifCond .eq 5, 3) := by decide +kernel
theorem dL_law_1962 : decode cL_law 1962 = .ok (.iconst 0, 1) := by decide +kernel
theorem dL_law_1963 : decode cL_law 1963 = .ok (.ireturn, 1) := by decide +kernel
theorem dL_law_1964 : decode cL_law 1964 = .ok (.goto 996, 3) := by decide +kernel
theorem dL_law_1967 : decode cL_law 1967 = .ok (.aload_n 1, 1) := by decide +kernel
theorem dL_law_1968 : decode cL_law 1968 = .ok (.aload_n 0, 1) := by decide +kernel
theorem dL_law_1969 : decode cL_law 1969 = .ok (.iload 5, 2) := by decide +kernel
theorem dL_law_1971 : decode cL_law 1971 = .ok (.iconst 1, 1) := by decide +kernel
theorem dL_law_1972 : decode cL_law 1972 = .ok (.iadd, 1) := by decide +kernel
theorem dL_law_1973 : decode cL_law 1973 = .ok (.iaload, 1) := by decide +kernel
theorem dL_law_1974 : decode cL_law 1974 = .ok (.aload_n 0, 1) := by decide +kernel
theorem dL_law_1975 : decode cL_law 1975 = .ok (.iload 5, 2) := by decide +kernel
theorem dL_law_1977 : decode cL_law 1977 = .ok (.iconst 2, 1) := by decide +kernel
theorem dL_law_1978 : decode cL_law 1978 = .ok (.iadd, 1) := by decide +kernel
theorem dL_law_1979 : decode cL_law 1979 = .ok (.iaload, 1) := by decide +kernel
theorem dL_law_1980 : decode cL_law 1980 = .ok (.ifCond .eq 7, 3) := by decide +kernel
theorem dL_law_1983 : decode cL_law 1983 = .ok (.iconst 1, 1) := by decide +kernel
theorem dL_law_1984 : decode cL_law 1984 = .ok (.goto 4, 3) := by decide +kernel
theorem dL_law_1987 : decode cL_law 1987 = .ok (.iconst 0, 1) := by decide +kernel
theorem dL_law_1988 : decode cL_law 1988 = .ok (.aload_n 3, 1) := by decide +kernel
theorem dL_law_1989 : decode cL_law 1989 = .ok (.invokestatic 257, 3) := by decide +kernel
theorem dL_law_1992 : decode cL_law 1992 = .ok (.istore 6, 2) := by decide +kernel
theorem dL_law_1994 : decode cL_law 1994 = .ok (.aload_n 2, 1) := by decide +kernel
theorem dL_law_1995 : decode cL_law 1995 = .ok (.aload_n 0, 1) := by decide +kernel
theorem dL_law_1996 : decode cL_law 1996 = .ok (.iload 5, 2) := by decide +kernel
theorem dL_law_1998 : decode cL_law 1998 = .ok (.iconst 1, 1) := by decide +kernel
theorem dL_law_1999 : decode cL_law 1999 = .ok (.iadd, 1) := by decide +kernel
theorem dL_law_2000 : decode cL_law 2000 = .ok (.iaload, 1) := by decide +kernel
theorem dL_law_2001 : decode cL_law 2001 = .ok (.aload_n 0, 1) := by decide +kernel
theorem dL_law_2002 : decode cL_law 2002 = .ok (.iload 5, 2) := by decide +kernel
theorem dL_law_2004 : decode cL_law 2004 = .ok (.iconst 2, 1) := by decide +kernel
theorem dL_law_2005 : decode cL_law 2005 = .ok (.iadd, 1) := by decide +kernel
theorem dL_law_2006 : decode cL_law 2006 = .ok (.iaload, 1) := by decide +kernel
theorem dL_law_2007 : decode cL_law 2007 = .ok (.ifCond .eq 7, 3) := by decide +kernel
theorem dL_law_2010 : decode cL_law 2010 = .ok (.iconst 1, 1) := by decide +kernel
theorem dL_law_2011 : decode cL_law 2011 = .ok (.goto 4, 3) := by decide +kernel
theorem dL_law_2014 : decode cL_law 2014 = .ok (.iconst 0, 1) := by decide +kernel
theorem dL_law_2015 : decode cL_law 2015 = .ok (.invokevirtual 259, 3) := by decide +kernel
theorem dL_law_2018 : decode cL_law 2018 = .ok (.istore 7, 2) := by decide +kernel
theorem dL_law_2020 : decode cL_law 2020 = .ok (.aload_n 2, 1) := by decide +kernel
theorem dL_law_2021 : decode cL_law 2021 = .ok (.invokevirtual 162, 3) := by decide +kernel
theorem dL_law_2024 : decode cL_law 2024 = .ok (.iload 6, 2) := by decide +kernel
theorem dL_law_2026 : decode cL_law 2026 = .ok (.if_icmp .eq 5, 3) := by decide +kernel
theorem dL_law_2029 : decode cL_law 2029 = .ok (.iconst 0, 1) := by decide +kernel
theorem dL_law_2030 : decode cL_law 2030 = .ok (.ireturn, 1) := by decide +kernel
theorem dL_law_2031 : decode cL_law 2031 = .ok (.iload 6, 2) := by decide +kernel
theorem dL_law_2033 : decode cL_law 2033 = .ok (.ifCond .ne 15, 3) := by decide +kernel
theorem dL_law_2036 : decode cL_law 2036 = .ok (.aload_n 3, 1) := by decide +kernel
theorem dL_law_2037 : decode cL_law 2037 = .ok (.iconst 0, 1) := by decide +kernel
theorem dL_law_2038 : decode cL_law 2038 = .ok (.laload, 1) := by decide +kernel
theorem dL_law_2039 : decode cL_law 2039 = .ok (.iload 7, 2) := by decide +kernel
theorem dL_law_2041 : decode cL_law 2041 = .ok (.i2l, 1) := by decide +kernel
theorem dL_law_2042 : decode cL_law 2042 = .ok (.lcmp, 1) := by decide +kernel
theorem dL_law_2043 : decode cL_law 2043 = .ok (.ifCond .eq 5, 3) := by decide +kernel
theorem dL_law_2046 : decode cL_law 2046 = .ok (.iconst 0, 1) := by decide +kernel
theorem dL_law_2047 : decode cL_law 2047 = .ok (.ireturn, 1) := by decide +kernel
theorem dL_law_2048 : decode cL_law 2048 = .ok (.goto 912, 3) := by decide +kernel
theorem dL_law_2051 : decode cL_law 2051 = .ok (.aload_n 1, 1) := by decide +kernel
theorem dL_law_2052 : decode cL_law 2052 = .ok (.aload_n 0, 1) := by decide +kernel
theorem dL_law_2053 : decode cL_law 2053 = .ok (.iload 5, 2) := by decide +kernel
theorem dL_law_2055 : decode cL_law 2055 = .ok (.iconst 1, 1) := by decide +kernel
theorem dL_law_2056 : decode cL_law 2056 = .ok (.iadd, 1) := by decide +kernel
theorem dL_law_2057 : decode cL_law 2057 = .ok (.iaload, 1) := by decide +kernel
theorem dL_law_2058 : decode cL_law 2058 = .ok (.aload_n 0, 1) := by decide +kernel
theorem dL_law_2059 : decode cL_law 2059 = .ok (.iload 5, 2) := by decide +kernel
theorem dL_law_2061 : decode cL_law 2061 = .ok (.iconst 2, 1) := by decide +kernel
theorem dL_law_2062 : decode cL_law 2062 = .ok (.iadd, 1) := by decide +kernel
theorem dL_law_2063 : decode cL_law 2063 = .ok (.iaload, 1) := by decide +kernel
theorem dL_law_2064 : decode cL_law 2064 = .ok (.aload_n 3, 1) := by decide +kernel
theorem dL_law_2065 : decode cL_law 2065 = .ok (.invokestatic 260, 3) := by decide +kernel
theorem dL_law_2068 : decode cL_law 2068 = .ok (.istore 6, 2) := by decide +kernel
theorem dL_law_2070 : decode cL_law 2070 = .ok (.aload_n 2, 1) := by decide +kernel
theorem dL_law_2071 : decode cL_law 2071 = .ok (.aload_n 0, 1) := by decide +kernel
theorem dL_law_2072 : decode cL_law 2072 = .ok (.iload 5, 2) := by decide +kernel
theorem dL_law_2074 : decode cL_law 2074 = .ok (.iconst 1, 1) := by decide +kernel
theorem dL_law_2075 : decode cL_law 2075 = .ok (.iadd, 1) := by decide +kernel
theorem dL_law_2076 : decode cL_law 2076 = .ok (.iaload, 1) := by decide +kernel
theorem dL_law_2077 : decode cL_law 2077 = .ok (.aload_n 0, 1) := by decide +kernel
theorem dL_law_2078 : decode cL_law 2078 = .ok (.iload 5, 2) := by decide +kernel
theorem dL_law_2080 : decode cL_law 2080 = .ok (.iconst 2, 1) := by decide +kernel
theorem dL_law_2081 : decode cL_law 2081 = .ok (.iadd, 1) := by decide +kernel
theorem dL_law_2082 : decode cL_law 2082 = .ok (.iaload, 1) := by decide +kernel
theorem dL_law_2083 : decode cL_law 2083 = .ok (.invokevirtual 262, 3) := by decide +kernel
theorem dL_law_2086 : decode cL_law 2086 = .ok (.istore 7, 2) := by decide +kernel
theorem dL_law_2088 : decode cL_law 2088 = .ok (.aload_n 2, 1) := by decide +kernel
theorem dL_law_2089 : decode cL_law 2089 = .ok (.invokevirtual 162, 3) := by decide +kernel
theorem dL_law_2092 : decode cL_law 2092 = .ok (.iload 6, 2) := by decide +kernel
theorem dL_law_2094 : decode cL_law 2094 = .ok (.if_icmp .eq 5, 3) := by decide +kernel
theorem dL_law_2097 : decode cL_law 2097 = .ok (.iconst 0, 1) := by decide +kernel
theorem dL_law_2098 : decode cL_law 2098 = .ok (.ireturn, 1) := by decide +kernel
theorem dL_law_2099 : decode cL_law 2099 = .ok (.iload 6, 2) := by decide +kernel
theorem dL_law_2101 : decode cL_law 2101 = .ok (.ifCond .ne 15, 3) := by decide +kernel
theorem dL_law_2104 : decode cL_law 2104 = .ok (.aload_n 3, 1) := by decide +kernel
theorem dL_law_2105 : decode cL_law 2105 = .ok (.iconst 0, 1) := by decide +kernel
theorem dL_law_2106 : decode cL_law 2106 = .ok (.laload, 1) := by decide +kernel
theorem dL_law_2107 : decode cL_law 2107 = .ok (.iload 7, 2) := by decide +kernel
theorem dL_law_2109 : decode cL_law 2109 = .ok (.i2l, 1) := by decide +kernel
theorem dL_law_2110 : decode cL_law 2110 = .ok (.lcmp, 1) := by decide +kernel
theorem dL_law_2111 : decode cL_law 2111 = .ok (.ifCond .eq 5, 3) := by decide +kernel
theorem dL_law_2114 : decode cL_law 2114 = .ok (.iconst 0, 1) := by decide +kernel
theorem dL_law_2115 : decode cL_law 2115 = .ok (.ireturn, 1) := by decide +kernel
theorem dL_law_2116 : decode cL_law 2116 = .ok (.goto 844, 3) := by decide +kernel
theorem dL_law_2119 : decode cL_law 2119 = .ok (.aload_n 1, 1) := by decide +kernel
theorem dL_law_2120 : decode cL_law 2120 = .ok (.aload_n 0, 1) := by decide +kernel
theorem dL_law_2121 : decode cL_law 2121 = .ok (.iload 5, 2) := by decide +kernel
theorem dL_law_2123 : decode cL_law 2123 = .ok (.iconst 1, 1) := by decide +kernel
theorem dL_law_2124 : decode cL_law 2124 = .ok (.iadd, 1) := by decide +kernel
theorem dL_law_2125 : decode cL_law 2125 = .ok (.iaload, 1) := by decide +kernel
theorem dL_law_2126 : decode cL_law 2126 = .ok (.aload_n 0, 1) := by decide +kernel
theorem dL_law_2127 : decode cL_law 2127 = .ok (.iload 5, 2) := by decide +kernel
theorem dL_law_2129 : decode cL_law 2129 = .ok (.iconst 2, 1) := by decide +kernel
theorem dL_law_2130 : decode cL_law 2130 = .ok (.iadd, 1) := by decide +kernel
theorem dL_law_2131 : decode cL_law 2131 = .ok (.iaload, 1) := by decide +kernel
theorem dL_law_2132 : decode cL_law 2132 = .ok (.aload_n 0, 1) := by decide +kernel
theorem dL_law_2133 : decode cL_law 2133 = .ok (.iload 5, 2) := by decide +kernel
theorem dL_law_2135 : decode cL_law 2135 = .ok (.iconst 3, 1) := by decide +kernel
theorem dL_law_2136 : decode cL_law 2136 = .ok (.iadd, 1) := by decide +kernel
theorem dL_law_2137 : decode cL_law 2137 = .ok (.iaload, 1) := by decide +kernel
theorem dL_law_2138 : decode cL_law 2138 = .ok (.aload_n 3, 1) := by decide +kernel
theorem dL_law_2139 : decode cL_law 2139 = .ok (.invokestatic 263, 3) := by decide +kernel
theorem dL_law_2142 : decode cL_law 2142 = .ok (.istore 6, 2) := by decide +kernel
theorem dL_law_2144 : decode cL_law 2144 = .ok (.aload_n 2, 1) := by decide +kernel
theorem dL_law_2145 : decode cL_law 2145 = .ok (.aload_n 0, 1) := by decide +kernel
theorem dL_law_2146 : decode cL_law 2146 = .ok (.iload 5, 2) := by decide +kernel
theorem dL_law_2148 : decode cL_law 2148 = .ok (.iconst 1, 1) := by decide +kernel
theorem dL_law_2149 : decode cL_law 2149 = .ok (.iadd, 1) := by decide +kernel
theorem dL_law_2150 : decode cL_law 2150 = .ok (.iaload, 1) := by decide +kernel
theorem dL_law_2151 : decode cL_law 2151 = .ok (.aload_n 0, 1) := by decide +kernel
theorem dL_law_2152 : decode cL_law 2152 = .ok (.iload 5, 2) := by decide +kernel
theorem dL_law_2154 : decode cL_law 2154 = .ok (.iconst 2, 1) := by decide +kernel
theorem dL_law_2155 : decode cL_law 2155 = .ok (.iadd, 1) := by decide +kernel
theorem dL_law_2156 : decode cL_law 2156 = .ok (.iaload, 1) := by decide +kernel
theorem dL_law_2157 : decode cL_law 2157 = .ok (.aload_n 0, 1) := by decide +kernel
theorem dL_law_2158 : decode cL_law 2158 = .ok (.iload 5, 2) := by decide +kernel
theorem dL_law_2160 : decode cL_law 2160 = .ok (.iconst 3, 1) := by decide +kernel
theorem dL_law_2161 : decode cL_law 2161 = .ok (.iadd, 1) := by decide +kernel
theorem dL_law_2162 : decode cL_law 2162 = .ok (.iaload, 1) := by decide +kernel
theorem dL_law_2163 : decode cL_law 2163 = .ok (.invokevirtual 265, 3) := by decide +kernel
theorem dL_law_2166 : decode cL_law 2166 = .ok (.istore 7, 2) := by decide +kernel
theorem dL_law_2168 : decode cL_law 2168 = .ok (.aload_n 2, 1) := by decide +kernel
theorem dL_law_2169 : decode cL_law 2169 = .ok (.invokevirtual 162, 3) := by decide +kernel
theorem dL_law_2172 : decode cL_law 2172 = .ok (.iload 6, 2) := by decide +kernel
theorem dL_law_2174 : decode cL_law 2174 = .ok (.if_icmp .eq 5, 3) := by decide +kernel
theorem dL_law_2177 : decode cL_law 2177 = .ok (.iconst 0, 1) := by decide +kernel
theorem dL_law_2178 : decode cL_law 2178 = .ok (.ireturn, 1) := by decide +kernel
theorem dL_law_2179 : decode cL_law 2179 = .ok (.iload 6, 2) := by decide +kernel
theorem dL_law_2181 : decode cL_law 2181 = .ok (.ifCond .ne 15, 3) := by decide +kernel
theorem dL_law_2184 : decode cL_law 2184 = .ok (.aload_n 3, 1) := by decide +kernel
theorem dL_law_2185 : decode cL_law 2185 = .ok (.iconst 0, 1) := by decide +kernel
theorem dL_law_2186 : decode cL_law 2186 = .ok (.laload, 1) := by decide +kernel
theorem dL_law_2187 : decode cL_law 2187 = .ok (.iload 7, 2) := by decide +kernel
theorem dL_law_2189 : decode cL_law 2189 = .ok (.i2l, 1) := by decide +kernel
theorem dL_law_2190 : decode cL_law 2190 = .ok (.lcmp, 1) := by decide +kernel
theorem dL_law_2191 : decode cL_law 2191 = .ok (.ifCond .eq 5, 3) := by decide +kernel
theorem dL_law_2194 : decode cL_law 2194 = .ok (.iconst 0, 1) := by decide +kernel
theorem dL_law_2195 : decode cL_law 2195 = .ok (.ireturn, 1) := by decide +kernel
theorem dL_law_2196 : decode cL_law 2196 = .ok (.goto 764, 3) := by decide +kernel
theorem dL_law_2199 : decode cL_law 2199 = .ok (.aload_n 1, 1) := by decide +kernel
theorem dL_law_2200 : decode cL_law 2200 = .ok (.aload_n 0, 1) := by decide +kernel
theorem dL_law_2201 : decode cL_law 2201 = .ok (.iload 5, 2) := by decide +kernel
theorem dL_law_2203 : decode cL_law 2203 = .ok (.iconst 1, 1) := by decide +kernel
theorem dL_law_2204 : decode cL_law 2204 = .ok (.iadd, 1) := by decide +kernel
theorem dL_law_2205 : decode cL_law 2205 = .ok (.iaload, 1) := by decide +kernel
theorem dL_law_2206 : decode cL_law 2206 = .ok (.aload_n 0, 1) := by decide +kernel
theorem dL_law_2207 : decode cL_law 2207 = .ok (.iload 5, 2) := by decide +kernel
theorem dL_law_2209 : decode cL_law 2209 = .ok (.iconst 2, 1) := by decide +kernel
theorem dL_law_2210 : decode cL_law 2210 = .ok (.iadd, 1) := by decide +kernel
theorem dL_law_2211 : decode cL_law 2211 = .ok (.iaload, 1) := by decide +kernel
theorem dL_law_2212 : decode cL_law 2212 = .ok (.aload_n 3, 1) := by decide +kernel
theorem dL_law_2213 : decode cL_law 2213 = .ok (.invokestatic 266, 3) := by decide +kernel
theorem dL_law_2216 : decode cL_law 2216 = .ok (.istore 6, 2) := by decide +kernel
theorem dL_law_2218 : decode cL_law 2218 = .ok (.aload_n 2, 1) := by decide +kernel
theorem dL_law_2219 : decode cL_law 2219 = .ok (.aload_n 0, 1) := by decide +kernel
theorem dL_law_2220 : decode cL_law 2220 = .ok (.iload 5, 2) := by decide +kernel
theorem dL_law_2222 : decode cL_law 2222 = .ok (.iconst 1, 1) := by decide +kernel
theorem dL_law_2223 : decode cL_law 2223 = .ok (.iadd, 1) := by decide +kernel
theorem dL_law_2224 : decode cL_law 2224 = .ok (.iaload, 1) := by decide +kernel
theorem dL_law_2225 : decode cL_law 2225 = .ok (.aload_n 0, 1) := by decide +kernel
theorem dL_law_2226 : decode cL_law 2226 = .ok (.iload 5, 2) := by decide +kernel
theorem dL_law_2228 : decode cL_law 2228 = .ok (.iconst 2, 1) := by decide +kernel
theorem dL_law_2229 : decode cL_law 2229 = .ok (.iadd, 1) := by decide +kernel
theorem dL_law_2230 : decode cL_law 2230 = .ok (.iaload, 1) := by decide +kernel
theorem dL_law_2231 : decode cL_law 2231 = .ok (.invokevirtual 268, 3) := by decide +kernel
theorem dL_law_2234 : decode cL_law 2234 = .ok (.istore 7, 2) := by decide +kernel
theorem dL_law_2236 : decode cL_law 2236 = .ok (.aload_n 2, 1) := by decide +kernel
theorem dL_law_2237 : decode cL_law 2237 = .ok (.invokevirtual 162, 3) := by decide +kernel
theorem dL_law_2240 : decode cL_law 2240 = .ok (.iload 6, 2) := by decide +kernel
theorem dL_law_2242 : decode cL_law 2242 = .ok (.if_icmp .eq 5, 3) := by decide +kernel
theorem dL_law_2245 : decode cL_law 2245 = .ok (.iconst 0, 1) := by decide +kernel
theorem dL_law_2246 : decode cL_law 2246 = .ok (.ireturn, 1) := by decide +kernel
theorem dL_law_2247 : decode cL_law 2247 = .ok (.iload 6, 2) := by decide +kernel
theorem dL_law_2249 : decode cL_law 2249 = .ok (.ifCond .ne 15, 3) := by decide +kernel
theorem dL_law_2252 : decode cL_law 2252 = .ok (.aload_n 3, 1) := by decide +kernel
theorem dL_law_2253 : decode cL_law 2253 = .ok (.iconst 0, 1) := by decide +kernel
theorem dL_law_2254 : decode cL_law 2254 = .ok (.laload, 1) := by decide +kernel
theorem dL_law_2255 : decode cL_law 2255 = .ok (.iload 7, 2) := by decide +kernel
theorem dL_law_2257 : decode cL_law 2257 = .ok (.i2l, 1) := by decide +kernel
theorem dL_law_2258 : decode cL_law 2258 = .ok (.lcmp, 1) := by decide +kernel
theorem dL_law_2259 : decode cL_law 2259 = .ok (.ifCond .eq 5, 3) := by decide +kernel
theorem dL_law_2262 : decode cL_law 2262 = .ok (.iconst 0, 1) := by decide +kernel
theorem dL_law_2263 : decode cL_law 2263 = .ok (.ireturn, 1) := by decide +kernel
theorem dL_law_2264 : decode cL_law 2264 = .ok (.goto 696, 3) := by decide +kernel
theorem dL_law_2267 : decode cL_law 2267 = .ok (.aload_n 1, 1) := by decide +kernel
theorem dL_law_2268 : decode cL_law 2268 = .ok (.aload_n 3, 1) := by decide +kernel
theorem dL_law_2269 : decode cL_law 2269 = .ok (.invokestatic 269, 3) := by decide +kernel
theorem dL_law_2272 : decode cL_law 2272 = .ok (.istore 6, 2) := by decide +kernel
theorem dL_law_2274 : decode cL_law 2274 = .ok (.aload_n 2, 1) := by decide +kernel
theorem dL_law_2275 : decode cL_law 2275 = .ok (.invokevirtual 271, 3) := by decide +kernel
theorem dL_law_2278 : decode cL_law 2278 = .ok (.istore 7, 2) := by decide +kernel
theorem dL_law_2280 : decode cL_law 2280 = .ok (.aload_n 2, 1) := by decide +kernel
theorem dL_law_2281 : decode cL_law 2281 = .ok (.invokevirtual 162, 3) := by decide +kernel
theorem dL_law_2284 : decode cL_law 2284 = .ok (.iload 6, 2) := by decide +kernel
theorem dL_law_2286 : decode cL_law 2286 = .ok (.if_icmp .eq 5, 3) := by decide +kernel
theorem dL_law_2289 : decode cL_law 2289 = .ok (.iconst 0, 1) := by decide +kernel
theorem dL_law_2290 : decode cL_law 2290 = .ok (.ireturn, 1) := by decide +kernel
theorem dL_law_2291 : decode cL_law 2291 = .ok (.iload 6, 2) := by decide +kernel
theorem dL_law_2293 : decode cL_law 2293 = .ok (.ifCond .ne 15, 3) := by decide +kernel
theorem dL_law_2296 : decode cL_law 2296 = .ok (.aload_n 3, 1) := by decide +kernel
theorem dL_law_2297 : decode cL_law 2297 = .ok (.iconst 0, 1) := by decide +kernel
theorem dL_law_2298 : decode cL_law 2298 = .ok (.laload, 1) := by decide +kernel
theorem dL_law_2299 : decode cL_law 2299 = .ok (.iload 7, 2) := by decide +kernel
theorem dL_law_2301 : decode cL_law 2301 = .ok (.i2l, 1) := by decide +kernel
theorem dL_law_2302 : decode cL_law 2302 = .ok (.lcmp, 1) := by decide +kernel
theorem dL_law_2303 : decode cL_law 2303 = .ok (.ifCond .eq 5, 3) := by decide +kernel
theorem dL_law_2306 : decode cL_law 2306 = .ok (.iconst 0, 1) := by decide +kernel
theorem dL_law_2307 : decode cL_law 2307 = .ok (.ireturn, 1) := by decide +kernel
theorem dL_law_2308 : decode cL_law 2308 = .ok (.goto 652, 3) := by decide +kernel
theorem dL_law_2311 : decode cL_law 2311 = .ok (.aload_n 1, 1) := by decide +kernel
theorem dL_law_2312 : decode cL_law 2312 = .ok (.aload_n 0, 1) := by decide +kernel
theorem dL_law_2313 : decode cL_law 2313 = .ok (.iload 5, 2) := by decide +kernel
theorem dL_law_2315 : decode cL_law 2315 = .ok (.iconst 1, 1) := by decide +kernel
theorem dL_law_2316 : decode cL_law 2316 = .ok (.iadd, 1) := by decide +kernel
theorem dL_law_2317 : decode cL_law 2317 = .ok (.iaload, 1) := by decide +kernel
theorem dL_law_2318 : decode cL_law 2318 = .ok (.aload_n 3, 1) := by decide +kernel
theorem dL_law_2319 : decode cL_law 2319 = .ok (.invokestatic 272, 3) := by decide +kernel
theorem dL_law_2322 : decode cL_law 2322 = .ok (.istore 6, 2) := by decide +kernel
theorem dL_law_2324 : decode cL_law 2324 = .ok (.aload_n 2, 1) := by decide +kernel
theorem dL_law_2325 : decode cL_law 2325 = .ok (.aload_n 0, 1) := by decide +kernel
theorem dL_law_2326 : decode cL_law 2326 = .ok (.iload 5, 2) := by decide +kernel
theorem dL_law_2328 : decode cL_law 2328 = .ok (.iconst 1, 1) := by decide +kernel
theorem dL_law_2329 : decode cL_law 2329 = .ok (.iadd, 1) := by decide +kernel
theorem dL_law_2330 : decode cL_law 2330 = .ok (.iaload, 1) := by decide +kernel
theorem dL_law_2331 : decode cL_law 2331 = .ok (.invokevirtual 274, 3) := by decide +kernel
theorem dL_law_2334 : decode cL_law 2334 = .ok (.istore 7, 2) := by decide +kernel
theorem dL_law_2336 : decode cL_law 2336 = .ok (.aload_n 2, 1) := by decide +kernel
theorem dL_law_2337 : decode cL_law 2337 = .ok (.invokevirtual 162, 3) := by decide +kernel
theorem dL_law_2340 : decode cL_law 2340 = .ok (.iload 6, 2) := by decide +kernel
theorem dL_law_2342 : decode cL_law 2342 = .ok (.if_icmp .eq 5, 3) := by decide +kernel
theorem dL_law_2345 : decode cL_law 2345 = .ok (.iconst 0, 1) := by decide +kernel
theorem dL_law_2346 : decode cL_law 2346 = .ok (.ireturn, 1) := by decide +kernel
theorem dL_law_2347 : decode cL_law 2347 = .ok (.iload 6, 2) := by decide +kernel
theorem dL_law_2349 : decode cL_law 2349 = .ok (.ifCond .ne 15, 3) := by decide +kernel
theorem dL_law_2352 : decode cL_law 2352 = .ok (.aload_n 3, 1) := by decide +kernel
theorem dL_law_2353 : decode cL_law 2353 = .ok (.iconst 0, 1) := by decide +kernel
theorem dL_law_2354 : decode cL_law 2354 = .ok (.laload, 1) := by decide +kernel
theorem dL_law_2355 : decode cL_law 2355 = .ok (.iload 7, 2) := by decide +kernel
theorem dL_law_2357 : decode cL_law 2357 = .ok (.i2l, 1) := by decide +kernel
theorem dL_law_2358 : decode cL_law 2358 = .ok (.lcmp, 1) := by decide +kernel
theorem dL_law_2359 : decode cL_law 2359 = .ok (.ifCond .eq 5, 3) := by decide +kernel
theorem dL_law_2362 : decode cL_law 2362 = .ok (.iconst 0, 1) := by decide +kernel
theorem dL_law_2363 : decode cL_law 2363 = .ok (.ireturn, 1) := by decide +kernel
theorem dL_law_2364 : decode cL_law 2364 = .ok (.goto 596, 3) := by decide +kernel
theorem dL_law_2367 : decode cL_law 2367 = .ok (.aload_n 1, 1) := by decide +kernel
theorem dL_law_2368 : decode cL_law 2368 = .ok (.aload_n 0, 1) := by decide +kernel
theorem dL_law_2369 : decode cL_law 2369 = .ok (.iload 5, 2) := by decide +kernel
theorem dL_law_2371 : decode cL_law 2371 = .ok (.iconst 1, 1) := by decide +kernel
theorem dL_law_2372 : decode cL_law 2372 = .ok (.iadd, 1) := by decide +kernel
theorem dL_law_2373 : decode cL_law 2373 = .ok (.iaload, 1) := by decide +kernel
theorem dL_law_2374 : decode cL_law 2374 = .ok (.aload_n 3, 1) := by decide +kernel
theorem dL_law_2375 : decode cL_law 2375 = .ok (.invokestatic 275, 3) := by decide +kernel
theorem dL_law_2378 : decode cL_law 2378 = .ok (.istore 6, 2) := by decide +kernel
theorem dL_law_2380 : decode cL_law 2380 = .ok (.aload_n 2, 1) := by decide +kernel
theorem dL_law_2381 : decode cL_law 2381 = .ok (.aload_n 0, 1) := by decide +kernel
theorem dL_law_2382 : decode cL_law 2382 = .ok (.iload 5, 2) := by decide +kernel
theorem dL_law_2384 : decode cL_law 2384 = .ok (.iconst 1, 1) := by decide +kernel
theorem dL_law_2385 : decode cL_law 2385 = .ok (.iadd, 1) := by decide +kernel
theorem dL_law_2386 : decode cL_law 2386 = .ok (.iaload, 1) := by decide +kernel
theorem dL_law_2387 : decode cL_law 2387 = .ok (.invokevirtual 277, 3) := by decide +kernel
theorem dL_law_2390 : decode cL_law 2390 = .ok (.istore 7, 2) := by decide +kernel
theorem dL_law_2392 : decode cL_law 2392 = .ok (.aload_n 2, 1) := by decide +kernel
theorem dL_law_2393 : decode cL_law 2393 = .ok (.invokevirtual 162, 3) := by decide +kernel
theorem dL_law_2396 : decode cL_law 2396 = .ok (.iload 6, 2) := by decide +kernel
theorem dL_law_2398 : decode cL_law 2398 = .ok (.if_icmp .eq 5, 3) := by decide +kernel
theorem dL_law_2401 : decode cL_law 2401 = .ok (.iconst 0, 1) := by decide +kernel
theorem dL_law_2402 : decode cL_law 2402 = .ok (.ireturn, 1) := by decide +kernel
theorem dL_law_2403 : decode cL_law 2403 = .ok (.iload 6, 2) := by decide +kernel
theorem dL_law_2405 : decode cL_law 2405 = .ok (.ifCond .ne 15, 3) := by decide +kernel
theorem dL_law_2408 : decode cL_law 2408 = .ok (.aload_n 3, 1) := by decide +kernel
theorem dL_law_2409 : decode cL_law 2409 = .ok (.iconst 0, 1) := by decide +kernel
theorem dL_law_2410 : decode cL_law 2410 = .ok (.laload, 1) := by decide +kernel
theorem dL_law_2411 : decode cL_law 2411 = .ok (.iload 7, 2) := by decide +kernel
theorem dL_law_2413 : decode cL_law 2413 = .ok (.i2l, 1) := by decide +kernel
theorem dL_law_2414 : decode cL_law 2414 = .ok (.lcmp, 1) := by decide +kernel
theorem dL_law_2415 : decode cL_law 2415 = .ok (.ifCond .eq 5, 3) := by decide +kernel
theorem dL_law_2418 : decode cL_law 2418 = .ok (.iconst 0, 1) := by decide +kernel
theorem dL_law_2419 : decode cL_law 2419 = .ok (.ireturn, 1) := by decide +kernel
theorem dL_law_2420 : decode cL_law 2420 = .ok (.goto 540, 3) := by decide +kernel
theorem dL_law_2423 : decode cL_law 2423 = .ok (.aload_n 1, 1) := by decide +kernel
theorem dL_law_2424 : decode cL_law 2424 = .ok (.aload 4, 2) := by decide +kernel
theorem dL_law_2426 : decode cL_law 2426 = .ok (.invokestatic 278, 3) := by decide +kernel
theorem dL_law_2429 : decode cL_law 2429 = .ok (.istore 6, 2) := by decide +kernel
theorem dL_law_2431 : decode cL_law 2431 = .ok (.aload_n 2, 1) := by decide +kernel
theorem dL_law_2432 : decode cL_law 2432 = .ok (.invokevirtual 281, 3) := by decide +kernel
theorem dL_law_2435 : decode cL_law 2435 = .ok (.dstore 7, 2) := by decide +kernel
theorem dL_law_2437 : decode cL_law 2437 = .ok (.aload_n 2, 1) := by decide +kernel
theorem dL_law_2438 : decode cL_law 2438 = .ok (.invokevirtual 162, 3) := by decide +kernel
theorem dL_law_2441 : decode cL_law 2441 = .ok (.iload 6, 2) := by decide +kernel
theorem dL_law_2443 : decode cL_law 2443 = .ok (.if_icmp .eq 5, 3) := by decide +kernel
theorem dL_law_2446 : decode cL_law 2446 = .ok (.iconst 0, 1) := by decide +kernel
theorem dL_law_2447 : decode cL_law 2447 = .ok (.ireturn, 1) := by decide +kernel
theorem dL_law_2448 : decode cL_law 2448 = .ok (.iload 6, 2) := by decide +kernel
theorem dL_law_2450 : decode cL_law 2450 = .ok (.ifCond .ne 35, 3) := by decide +kernel
theorem dL_law_2453 : decode cL_law 2453 = .ok (.aload 4, 2) := by decide +kernel
theorem dL_law_2455 : decode cL_law 2455 = .ok (.iconst 0, 1) := by decide +kernel
theorem dL_law_2456 : decode cL_law 2456 = .ok (.daload, 1) := by decide +kernel
theorem dL_law_2457 : decode cL_law 2457 = .ok (.dload 7, 2) := by decide +kernel
theorem dL_law_2459 : decode cL_law 2459 = .ok (.dcmp .l, 1) := by decide +kernel
theorem dL_law_2460 : decode cL_law 2460 = .ok (.ifCond .eq 25, 3) := by decide +kernel
theorem dL_law_2463 : decode cL_law 2463 = .ok (.aload 4, 2) := by decide +kernel
theorem dL_law_2465 : decode cL_law 2465 = .ok (.iconst 0, 1) := by decide +kernel
theorem dL_law_2466 : decode cL_law 2466 = .ok (.daload, 1) := by decide +kernel
theorem dL_law_2467 : decode cL_law 2467 = .ok (.aload 4, 2) := by decide +kernel
theorem dL_law_2469 : decode cL_law 2469 = .ok (.iconst 0, 1) := by decide +kernel
theorem dL_law_2470 : decode cL_law 2470 = .ok (.daload, 1) := by decide +kernel
theorem dL_law_2471 : decode cL_law 2471 = .ok (.dcmp .l, 1) := by decide +kernel
theorem dL_law_2472 : decode cL_law 2472 = .ok (.ifCond .eq 11, 3) := by decide +kernel
theorem dL_law_2475 : decode cL_law 2475 = .ok (.dload 7, 2) := by decide +kernel
theorem dL_law_2477 : decode cL_law 2477 = .ok (.dload 7, 2) := by decide +kernel
theorem dL_law_2479 : decode cL_law 2479 = .ok (.dcmp .l, 1) := by decide +kernel
theorem dL_law_2480 : decode cL_law 2480 = .ok (.ifCond .ne 5, 3) := by decide +kernel
theorem dL_law_2483 : decode cL_law 2483 = .ok (.iconst 0, 1) := by decide +kernel
theorem dL_law_2484 : decode cL_law 2484 = .ok (.ireturn, 1) := by decide +kernel
theorem dL_law_2485 : decode cL_law 2485 = .ok (.goto 475, 3) := by decide +kernel
theorem dL_law_2488 : decode cL_law 2488 = .ok (.aload_n 1, 1) := by decide +kernel
theorem dL_law_2489 : decode cL_law 2489 = .ok (.aload_n 0, 1) := by decide +kernel
theorem dL_law_2490 : decode cL_law 2490 = .ok (.iload 5, 2) := by decide +kernel
theorem dL_law_2492 : decode cL_law 2492 = .ok (.iconst 1, 1) := by decide +kernel
theorem dL_law_2493 : decode cL_law 2493 = .ok (.iadd, 1) := by decide +kernel
theorem dL_law_2494 : decode cL_law 2494 = .ok (.iaload, 1) := by decide +kernel
theorem dL_law_2495 : decode cL_law 2495 = .ok (.aload_n 3, 1) := by decide +kernel
theorem dL_law_2496 : decode cL_law 2496 = .ok (.invokestatic 282, 3) := by decide +kernel
theorem dL_law_2499 : decode cL_law 2499 = .ok (.istore 6, 2) := by decide +kernel
theorem dL_law_2501 : decode cL_law 2501 = .ok (.aload_n 2, 1) := by decide +kernel
theorem dL_law_2502 : decode cL_law 2502 = .ok (.aload_n 0, 1) := by decide +kernel
theorem dL_law_2503 : decode cL_law 2503 = .ok (.iload 5, 2) := by decide +kernel
theorem dL_law_2505 : decode cL_law 2505 = .ok (.iconst 1, 1) := by decide +kernel
theorem dL_law_2506 : decode cL_law 2506 = .ok (.iadd, 1) := by decide +kernel
theorem dL_law_2507 : decode cL_law 2507 = .ok (.iaload, 1) := by decide +kernel
theorem dL_law_2508 : decode cL_law 2508 = .ok (.invokevirtual 284, 3) := by decide +kernel
theorem dL_law_2511 : decode cL_law 2511 = .ok (.istore 7, 2) := by decide +kernel
theorem dL_law_2513 : decode cL_law 2513 = .ok (.aload_n 2, 1) := by decide +kernel
theorem dL_law_2514 : decode cL_law 2514 = .ok (.invokevirtual 162, 3) := by decide +kernel
theorem dL_law_2517 : decode cL_law 2517 = .ok (.iload 6, 2) := by decide +kernel
theorem dL_law_2519 : decode cL_law 2519 = .ok (.if_icmp .eq 5, 3) := by decide +kernel
theorem dL_law_2522 : decode cL_law 2522 = .ok (.iconst 0, 1) := by decide +kernel
theorem dL_law_2523 : decode cL_law 2523 = .ok (.ireturn, 1) := by decide +kernel
theorem dL_law_2524 : decode cL_law 2524 = .ok (.iload 6, 2) := by decide +kernel
theorem dL_law_2526 : decode cL_law 2526 = .ok (.ifCond .ne 15, 3) := by decide +kernel
theorem dL_law_2529 : decode cL_law 2529 = .ok (.aload_n 3, 1) := by decide +kernel
theorem dL_law_2530 : decode cL_law 2530 = .ok (.iconst 0, 1) := by decide +kernel
theorem dL_law_2531 : decode cL_law 2531 = .ok (.laload, 1) := by decide +kernel
theorem dL_law_2532 : decode cL_law 2532 = .ok (.iload 7, 2) := by decide +kernel
theorem dL_law_2534 : decode cL_law 2534 = .ok (.i2l, 1) := by decide +kernel
theorem dL_law_2535 : decode cL_law 2535 = .ok (.lcmp, 1) := by decide +kernel
theorem dL_law_2536 : decode cL_law 2536 = .ok (.ifCond .eq 5, 3) := by decide +kernel
theorem dL_law_2539 : decode cL_law 2539 = .ok (.iconst 0, 1) := by decide +kernel
theorem dL_law_2540 : decode cL_law 2540 = .ok (.ireturn, 1) := by decide +kernel
theorem dL_law_2541 : decode cL_law 2541 = .ok (.goto 419, 3) := by decide +kernel
theorem dL_law_2544 : decode cL_law 2544 = .ok (.aload_n 1, 1) := by decide +kernel
theorem dL_law_2545 : decode cL_law 2545 = .ok (.aload_n 0, 1) := by decide +kernel
theorem dL_law_2546 : decode cL_law 2546 = .ok (.iload 5, 2) := by decide +kernel
theorem dL_law_2548 : decode cL_law 2548 = .ok (.iconst 1, 1) := by decide +kernel
theorem dL_law_2549 : decode cL_law 2549 = .ok (.iadd, 1) := by decide +kernel
theorem dL_law_2550 : decode cL_law 2550 = .ok (.iaload, 1) := by decide +kernel
theorem dL_law_2551 : decode cL_law 2551 = .ok (.aload_n 3, 1) := by decide +kernel
theorem dL_law_2552 : decode cL_law 2552 = .ok (.invokestatic 285, 3) := by decide +kernel
theorem dL_law_2555 : decode cL_law 2555 = .ok (.istore 6, 2) := by decide +kernel
theorem dL_law_2557 : decode cL_law 2557 = .ok (.aload_n 2, 1) := by decide +kernel
theorem dL_law_2558 : decode cL_law 2558 = .ok (.aload_n 0, 1) := by decide +kernel
theorem dL_law_2559 : decode cL_law 2559 = .ok (.iload 5, 2) := by decide +kernel
theorem dL_law_2561 : decode cL_law 2561 = .ok (.iconst 1, 1) := by decide +kernel
theorem dL_law_2562 : decode cL_law 2562 = .ok (.iadd, 1) := by decide +kernel
theorem dL_law_2563 : decode cL_law 2563 = .ok (.iaload, 1) := by decide +kernel
theorem dL_law_2564 : decode cL_law 2564 = .ok (.invokevirtual 287, 3) := by decide +kernel
theorem dL_law_2567 : decode cL_law 2567 = .ok (.istore 7, 2) := by decide +kernel
theorem dL_law_2569 : decode cL_law 2569 = .ok (.aload_n 2, 1) := by decide +kernel
theorem dL_law_2570 : decode cL_law 2570 = .ok (.invokevirtual 162, 3) := by decide +kernel
theorem dL_law_2573 : decode cL_law 2573 = .ok (.iload 6, 2) := by decide +kernel
theorem dL_law_2575 : decode cL_law 2575 = .ok (.if_icmp .eq 5, 3) := by decide +kernel
theorem dL_law_2578 : decode cL_law 2578 = .ok (.iconst 0, 1) := by decide +kernel
theorem dL_law_2579 : decode cL_law 2579 = .ok (.ireturn, 1) := by decide +kernel
theorem dL_law_2580 : decode cL_law 2580 = .ok (.iload 6, 2) := by decide +kernel
theorem dL_law_2582 : decode cL_law 2582 = .ok (.ifCond .ne 15, 3) := by decide +kernel
theorem dL_law_2585 : decode cL_law 2585 = .ok (.aload_n 3, 1) := by decide +kernel
theorem dL_law_2586 : decode cL_law 2586 = .ok (.iconst 0, 1) := by decide +kernel
theorem dL_law_2587 : decode cL_law 2587 = .ok (.laload, 1) := by decide +kernel
theorem dL_law_2588 : decode cL_law 2588 = .ok (.iload 7, 2) := by decide +kernel
theorem dL_law_2590 : decode cL_law 2590 = .ok (.i2l, 1) := by decide +kernel
theorem dL_law_2591 : decode cL_law 2591 = .ok (.lcmp, 1) := by decide +kernel
theorem dL_law_2592 : decode cL_law 2592 = .ok (.ifCond .eq 5, 3) := by decide +kernel
theorem dL_law_2595 : decode cL_law 2595 = .ok (.iconst 0, 1) := by decide +kernel
theorem dL_law_2596 : decode cL_law 2596 = .ok (.ireturn, 1) := by decide +kernel
theorem dL_law_2597 : decode cL_law 2597 = .ok (.goto 363, 3) := by decide +kernel
theorem dL_law_2600 : decode cL_law 2600 = .ok (.aload_n 1, 1) := by decide +kernel
theorem dL_law_2601 : decode cL_law 2601 = .ok (.aload_n 0, 1) := by decide +kernel
theorem dL_law_2602 : decode cL_law 2602 = .ok (.iload 5, 2) := by decide +kernel
theorem dL_law_2604 : decode cL_law 2604 = .ok (.iconst 1, 1) := by decide +kernel
theorem dL_law_2605 : decode cL_law 2605 = .ok (.iadd, 1) := by decide +kernel
theorem dL_law_2606 : decode cL_law 2606 = .ok (.iaload, 1) := by decide +kernel
theorem dL_law_2607 : decode cL_law 2607 = .ok (.aload_n 3, 1) := by decide +kernel
theorem dL_law_2608 : decode cL_law 2608 = .ok (.invokestatic 288, 3) := by decide +kernel
theorem dL_law_2611 : decode cL_law 2611 = .ok (.istore 6, 2) := by decide +kernel
theorem dL_law_2613 : decode cL_law 2613 = .ok (.aload_n 2, 1) := by decide +kernel
theorem dL_law_2614 : decode cL_law 2614 = .ok (.aload_n 0, 1) := by decide +kernel
theorem dL_law_2615 : decode cL_law 2615 = .ok (.iload 5, 2) := by decide +kernel
theorem dL_law_2617 : decode cL_law 2617 = .ok (.iconst 1, 1) := by decide +kernel
theorem dL_law_2618 : decode cL_law 2618 = .ok (.iadd, 1) := by decide +kernel
theorem dL_law_2619 : decode cL_law 2619 = .ok (.iaload, 1) := by decide +kernel
theorem dL_law_2620 : decode cL_law 2620 = .ok (.invokevirtual 290, 3) := by decide +kernel
theorem dL_law_2623 : decode cL_law 2623 = .ok (.istore 7, 2) := by decide +kernel
theorem dL_law_2625 : decode cL_law 2625 = .ok (.aload_n 2, 1) := by decide +kernel
theorem dL_law_2626 : decode cL_law 2626 = .ok (.invokevirtual 162, 3) := by decide +kernel
theorem dL_law_2629 : decode cL_law 2629 = .ok (.iload 6, 2) := by decide +kernel
theorem dL_law_2631 : decode cL_law 2631 = .ok (.if_icmp .eq 5, 3) := by decide +kernel
theorem dL_law_2634 : decode cL_law 2634 = .ok (.iconst 0, 1) := by decide +kernel
theorem dL_law_2635 : decode cL_law 2635 = .ok (.ireturn, 1) := by decide +kernel
theorem dL_law_2636 : decode cL_law 2636 = .ok (.iload 6, 2) := by decide +kernel
theorem dL_law_2638 : decode cL_law 2638 = .ok (.ifCond .ne 15, 3) := by decide +kernel
theorem dL_law_2641 : decode cL_law 2641 = .ok (.aload_n 3, 1) := by decide +kernel
theorem dL_law_2642 : decode cL_law 2642 = .ok (.iconst 0, 1) := by decide +kernel
theorem dL_law_2643 : decode cL_law 2643 = .ok (.laload, 1) := by decide +kernel
theorem dL_law_2644 : decode cL_law 2644 = .ok (.iload 7, 2) := by decide +kernel
theorem dL_law_2646 : decode cL_law 2646 = .ok (.i2l, 1) := by decide +kernel
theorem dL_law_2647 : decode cL_law 2647 = .ok (.lcmp, 1) := by decide +kernel
theorem dL_law_2648 : decode cL_law 2648 = .ok (.ifCond .eq 5, 3) := by decide +kernel
theorem dL_law_2651 : decode cL_law 2651 = .ok (.iconst 0, 1) := by decide +kernel
theorem dL_law_2652 : decode cL_law 2652 = .ok (.ireturn, 1) := by decide +kernel
theorem dL_law_2653 : decode cL_law 2653 = .ok (.goto 307, 3) := by decide +kernel
theorem dL_law_2656 : decode cL_law 2656 = .ok (.aload_n 1, 1) := by decide +kernel
theorem dL_law_2657 : decode cL_law 2657 = .ok (.aload_n 0, 1) := by decide +kernel
theorem dL_law_2658 : decode cL_law 2658 = .ok (.iload 5, 2) := by decide +kernel
theorem dL_law_2660 : decode cL_law 2660 = .ok (.iconst 1, 1) := by decide +kernel
theorem dL_law_2661 : decode cL_law 2661 = .ok (.iadd, 1) := by decide +kernel
theorem dL_law_2662 : decode cL_law 2662 = .ok (.iaload, 1) := by decide +kernel
theorem dL_law_2663 : decode cL_law 2663 = .ok (.aload_n 3, 1) := by decide +kernel
theorem dL_law_2664 : decode cL_law 2664 = .ok (.invokestatic 291, 3) := by decide +kernel
theorem dL_law_2667 : decode cL_law 2667 = .ok (.istore 6, 2) := by decide +kernel
theorem dL_law_2669 : decode cL_law 2669 = .ok (.aload_n 2, 1) := by decide +kernel
theorem dL_law_2670 : decode cL_law 2670 = .ok (.aload_n 0, 1) := by decide +kernel
theorem dL_law_2671 : decode cL_law 2671 = .ok (.iload 5, 2) := by decide +kernel
theorem dL_law_2673 : decode cL_law 2673 = .ok (.iconst 1, 1) := by decide +kernel
theorem dL_law_2674 : decode cL_law 2674 = .ok (.iadd, 1) := by decide +kernel
theorem dL_law_2675 : decode cL_law 2675 = .ok (.iaload, 1) := by decide +kernel
theorem dL_law_2676 : decode cL_law 2676 = .ok (.invokevirtual 293, 3) := by decide +kernel
theorem dL_law_2679 : decode cL_law 2679 = .ok (.istore 7, 2) := by decide +kernel
theorem dL_law_2681 : decode cL_law 2681 = .ok (.aload_n 2, 1) := by decide +kernel
theorem dL_law_2682 : decode cL_law 2682 = .ok (.invokevirtual 162, 3) := by decide +kernel
theorem dL_law_2685 : decode cL_law 2685 = .ok (.iload 6, 2) := by decide +kernel
theorem dL_law_2687 : decode cL_law 2687 = .ok (.if_icmp .eq 5, 3) := by decide +kernel
theorem dL_law_2690 : decode cL_law 2690 = .ok (.iconst 0, 1) := by decide +kernel
theorem dL_law_2691 : decode cL_law 2691 = .ok (.ireturn, 1) := by decide +kernel
theorem dL_law_2692 : decode cL_law 2692 = .ok (.iload 6, 2) := by decide +kernel
theorem dL_law_2694 : decode cL_law 2694 = .ok (.ifCond .ne 15, 3) := by decide +kernel
theorem dL_law_2697 : decode cL_law 2697 = .ok (.aload_n 3, 1) := by decide +kernel
theorem dL_law_2698 : decode cL_law 2698 = .ok (.iconst 0, 1) := by decide +kernel
theorem dL_law_2699 : decode cL_law 2699 = .ok (.laload, 1) := by decide +kernel
theorem dL_law_2700 : decode cL_law 2700 = .ok (.iload 7, 2) := by decide +kernel
theorem dL_law_2702 : decode cL_law 2702 = .ok (.i2l, 1) := by decide +kernel
theorem dL_law_2703 : decode cL_law 2703 = .ok (.lcmp, 1) := by decide +kernel
theorem dL_law_2704 : decode cL_law 2704 = .ok (.ifCond .eq 5, 3) := by decide +kernel
theorem dL_law_2707 : decode cL_law 2707 = .ok (.iconst 0, 1) := by decide +kernel
theorem dL_law_2708 : decode cL_law 2708 = .ok (.ireturn, 1) := by decide +kernel
theorem dL_law_2709 : decode cL_law 2709 = .ok (.goto 251, 3) := by decide +kernel
theorem dL_law_2712 : decode cL_law 2712 = .ok (.aload_n 1, 1) := by decide +kernel
theorem dL_law_2713 : decode cL_law 2713 = .ok (.aload_n 0, 1) := by decide +kernel
theorem dL_law_2714 : decode cL_law 2714 = .ok (.iload 5, 2) := by decide +kernel
theorem dL_law_2716 : decode cL_law 2716 = .ok (.iconst 1, 1) := by decide +kernel
theorem dL_law_2717 : decode cL_law 2717 = .ok (.iadd, 1) := by decide +kernel
theorem dL_law_2718 : decode cL_law 2718 = .ok (.iaload, 1) := by decide +kernel
theorem dL_law_2719 : decode cL_law 2719 = .ok (.aload_n 3, 1) := by decide +kernel
theorem dL_law_2720 : decode cL_law 2720 = .ok (.invokestatic 294, 3) := by decide +kernel
theorem dL_law_2723 : decode cL_law 2723 = .ok (.istore 6, 2) := by decide +kernel
theorem dL_law_2725 : decode cL_law 2725 = .ok (.aload_n 2, 1) := by decide +kernel
theorem dL_law_2726 : decode cL_law 2726 = .ok (.aload_n 0, 1) := by decide +kernel
theorem dL_law_2727 : decode cL_law 2727 = .ok (.iload 5, 2) := by decide +kernel
theorem dL_law_2729 : decode cL_law 2729 = .ok (.iconst 1, 1) := by decide +kernel
theorem dL_law_2730 : decode cL_law 2730 = .ok (.iadd, 1) := by decide +kernel
theorem dL_law_2731 : decode cL_law 2731 = .ok (.iaload, 1) := by decide +kernel
theorem dL_law_2732 : decode cL_law 2732 = .ok (.invokevirtual 296, 3) := by decide +kernel
theorem dL_law_2735 : decode cL_law 2735 = .ok (.istore 7, 2) := by decide +kernel
theorem dL_law_2737 : decode cL_law 2737 = .ok (.aload_n 2, 1) := by decide +kernel
theorem dL_law_2738 : decode cL_law 2738 = .ok (.invokevirtual 162, 3) := by decide +kernel
theorem dL_law_2741 : decode cL_law 2741 = .ok (.iload 6, 2) := by decide +kernel
theorem dL_law_2743 : decode cL_law 2743 = .ok (.if_icmp .eq 5, 3) := by decide +kernel
theorem dL_law_2746 : decode cL_law 2746 = .ok (.iconst 0, 1) := by decide +kernel
theorem dL_law_2747 : decode cL_law 2747 = .ok (.ireturn, 1) := by decide +kernel
theorem dL_law_2748 : decode cL_law 2748 = .ok (.iload 6, 2) := by decide +kernel
theorem dL_law_2750 : decode cL_law 2750 = .ok (.ifCond .ne 15, 3) := by decide +kernel
theorem dL_law_2753 : decode cL_law 2753 = .ok (.aload_n 3, 1) := by decide +kernel
theorem dL_law_2754 : decode cL_law 2754 = .ok (.iconst 0, 1) := by decide +kernel
theorem dL_law_2755 : decode cL_law 2755 = .ok (.laload, 1) := by decide +kernel
theorem dL_law_2756 : decode cL_law 2756 = .ok (.iload 7, 2) := by decide +kernel
theorem dL_law_2758 : decode cL_law 2758 = .ok (.i2l, 1) := by decide +kernel
theorem dL_law_2759 : decode cL_law 2759 = .ok (.lcmp, 1) := by decide +kernel
theorem dL_law_2760 : decode cL_law 2760 = .ok (.ifCond .eq 5, 3) := by decide +kernel
theorem dL_law_2763 : decode cL_law 2763 = .ok (.iconst 0, 1) := by decide +kernel
theorem dL_law_2764 : decode cL_law 2764 = .ok (.ireturn, 1) := by decide +kernel
theorem dL_law_2765 : decode cL_law 2765 = .ok (.goto 195, 3) := by decide +kernel
theorem dL_law_2768 : decode cL_law 2768 = .ok (.aload_n 1, 1) := by decide +kernel
theorem dL_law_2769 : decode cL_law 2769 = .ok (.aload_n 0, 1) := by decide +kernel
theorem dL_law_2770 : decode cL_law 2770 = .ok (.iload 5, 2) := by decide +kernel
theorem dL_law_2772 : decode cL_law 2772 = .ok (.iconst 1, 1) := by decide +kernel
theorem dL_law_2773 : decode cL_law 2773 = .ok (.iadd, 1) := by decide +kernel
theorem dL_law_2774 : decode cL_law 2774 = .ok (.iaload, 1) := by decide +kernel
theorem dL_law_2775 : decode cL_law 2775 = .ok (.aload_n 0, 1) := by decide +kernel
theorem dL_law_2776 : decode cL_law 2776 = .ok (.iload 5, 2) := by decide +kernel
theorem dL_law_2778 : decode cL_law 2778 = .ok (.iconst 2, 1) := by decide +kernel
theorem dL_law_2779 : decode cL_law 2779 = .ok (.iadd, 1) := by decide +kernel
theorem dL_law_2780 : decode cL_law 2780 = .ok (.iaload, 1) := by decide +kernel
theorem dL_law_2781 : decode cL_law 2781 = .ok (.aload_n 3, 1) := by decide +kernel
theorem dL_law_2782 : decode cL_law 2782 = .ok (.invokestatic 297, 3) := by decide +kernel
theorem dL_law_2785 : decode cL_law 2785 = .ok (.istore 6, 2) := by decide +kernel
theorem dL_law_2787 : decode cL_law 2787 = .ok (.aload_n 2, 1) := by decide +kernel
theorem dL_law_2788 : decode cL_law 2788 = .ok (.aload_n 0, 1) := by decide +kernel
theorem dL_law_2789 : decode cL_law 2789 = .ok (.iload 5, 2) := by decide +kernel
theorem dL_law_2791 : decode cL_law 2791 = .ok (.iconst 1, 1) := by decide +kernel
theorem dL_law_2792 : decode cL_law 2792 = .ok (.iadd, 1) := by decide +kernel
theorem dL_law_2793 : decode cL_law 2793 = .ok (.iaload, 1) := by decide +kernel
theorem dL_law_2794 : decode cL_law 2794 = .ok (.aload_n 0, 1) := by decide +kernel
theorem dL_law_2795 : decode cL_law 2795 = .ok (.iload 5, 2) := by decide +kernel
theorem dL_law_2797 : decode cL_law 2797 = .ok (.iconst 2, 1) := by decide +kernel
theorem dL_law_2798 : decode cL_law 2798 = .ok (.iadd, 1) := by decide +kernel
theorem dL_law_2799 : decode cL_law 2799 = .ok (.iaload, 1) := by decide +kernel
theorem dL_law_2800 : decode cL_law 2800 = .ok (.invokevirtual 299, 3) := by decide +kernel
theorem dL_law_2803 : decode cL_law 2803 = .ok (.istore 7, 2) := by decide +kernel
theorem dL_law_2805 : decode cL_law 2805 = .ok (.aload_n 2, 1) := by decide +kernel
theorem dL_law_2806 : decode cL_law 2806 = .ok (.invokevirtual 162, 3) := by decide +kernel
theorem dL_law_2809 : decode cL_law 2809 = .ok (.iload 6, 2) := by decide +kernel
theorem dL_law_2811 : decode cL_law 2811 = .ok (.if_icmp .eq 5, 3) := by decide +kernel
theorem dL_law_2814 : decode cL_law 2814 = .ok (.iconst 0, 1) := by decide +kernel
theorem dL_law_2815 : decode cL_law 2815 = .ok (.ireturn, 1) := by decide +kernel
theorem dL_law_2816 : decode cL_law 2816 = .ok (.iload 6, 2) := by decide +kernel
theorem dL_law_2818 : decode cL_law 2818 = .ok (.ifCond .ne 15, 3) := by decide +kernel
theorem dL_law_2821 : decode cL_law 2821 = .ok (.aload_n 3, 1) := by decide +kernel
theorem dL_law_2822 : decode cL_law 2822 = .ok (.iconst 0, 1) := by decide +kernel
theorem dL_law_2823 : decode cL_law 2823 = .ok (.laload, 1) := by decide +kernel
theorem dL_law_2824 : decode cL_law 2824 = .ok (.iload 7, 2) := by decide +kernel
theorem dL_law_2826 : decode cL_law 2826 = .ok (.i2l, 1) := by decide +kernel
theorem dL_law_2827 : decode cL_law 2827 = .ok (.lcmp, 1) := by decide +kernel
theorem dL_law_2828 : decode cL_law 2828 = .ok (.ifCond .eq 5, 3) := by decide +kernel
theorem dL_law_2831 : decode cL_law 2831 = .ok (.iconst 0, 1) := by decide +kernel
theorem dL_law_2832 : decode cL_law 2832 = .ok (.ireturn, 1) := by decide +kernel
theorem dL_law_2833 : decode cL_law 2833 = .ok (.goto 127, 3) := by decide +kernel
theorem dL_law_2836 : decode cL_law 2836 = .ok (.aload_n 1, 1) := by decide +kernel
theorem dL_law_2837 : decode cL_law 2837 = .ok (.aload_n 0, 1) := by decide +kernel
theorem dL_law_2838 : decode cL_law 2838 = .ok (.iload 5, 2) := by decide +kernel
theorem dL_law_2840 : decode cL_law 2840 = .ok (.iconst 1, 1) := by decide +kernel
theorem dL_law_2841 : decode cL_law 2841 = .ok (.iadd, 1) := by decide +kernel
theorem dL_law_2842 : decode cL_law 2842 = .ok (.iaload, 1) := by decide +kernel
theorem dL_law_2843 : decode cL_law 2843 = .ok (.aload_n 3, 1) := by decide +kernel
theorem dL_law_2844 : decode cL_law 2844 = .ok (.invokestatic 300, 3) := by decide +kernel
theorem dL_law_2847 : decode cL_law 2847 = .ok (.istore 6, 2) := by decide +kernel
theorem dL_law_2849 : decode cL_law 2849 = .ok (.aload_n 2, 1) := by decide +kernel
theorem dL_law_2850 : decode cL_law 2850 = .ok (.aload_n 0, 1) := by decide +kernel
theorem dL_law_2851 : decode cL_law 2851 = .ok (.iload 5, 2) := by decide +kernel
theorem dL_law_2853 : decode cL_law 2853 = .ok (.iconst 1, 1) := by decide +kernel
theorem dL_law_2854 : decode cL_law 2854 = .ok (.iadd, 1) := by decide +kernel
theorem dL_law_2855 : decode cL_law 2855 = .ok (.iaload, 1) := by decide +kernel
theorem dL_law_2856 : decode cL_law 2856 = .ok (.invokevirtual 302, 3) := by decide +kernel
theorem dL_law_2859 : decode cL_law 2859 = .ok (.istore 7, 2) := by decide +kernel
theorem dL_law_2861 : decode cL_law 2861 = .ok (.aload_n 2, 1) := by decide +kernel
theorem dL_law_2862 : decode cL_law 2862 = .ok (.invokevirtual 162, 3) := by decide +kernel
theorem dL_law_2865 : decode cL_law 2865 = .ok (.iload 6, 2) := by decide +kernel
theorem dL_law_2867 : decode cL_law 2867 = .ok (.if_icmp .eq 5, 3) := by decide +kernel
theorem dL_law_2870 : decode cL_law 2870 = .ok (.iconst 0, 1) := by decide +kernel
theorem dL_law_2871 : decode cL_law 2871 = .ok (.ireturn, 1) := by decide +kernel
theorem dL_law_2872 : decode cL_law 2872 = .ok (.iload 6, 2) := by decide +kernel
theorem dL_law_2874 : decode cL_law 2874 = .ok (.ifCond .ne 15, 3) := by decide +kernel
theorem dL_law_2877 : decode cL_law 2877 = .ok (.aload_n 3, 1) := by decide +kernel
theorem dL_law_2878 : decode cL_law 2878 = .ok (.iconst 0, 1) := by decide +kernel
theorem dL_law_2879 : decode cL_law 2879 = .ok (.laload, 1) := by decide +kernel
theorem dL_law_2880 : decode cL_law 2880 = .ok (.iload 7, 2) := by decide +kernel
theorem dL_law_2882 : decode cL_law 2882 = .ok (.i2l, 1) := by decide +kernel
theorem dL_law_2883 : decode cL_law 2883 = .ok (.lcmp, 1) := by decide +kernel
theorem dL_law_2884 : decode cL_law 2884 = .ok (.ifCond .eq 5, 3) := by decide +kernel
theorem dL_law_2887 : decode cL_law 2887 = .ok (.iconst 0, 1) := by decide +kernel
theorem dL_law_2888 : decode cL_law 2888 = .ok (.ireturn, 1) := by decide +kernel
theorem dL_law_2889 : decode cL_law 2889 = .ok (.goto 71, 3) := by decide +kernel
theorem dL_law_2892 : decode cL_law 2892 = .ok (.aload_n 1, 1) := by decide +kernel
theorem dL_law_2893 : decode cL_law 2893 = .ok (.aload_n 0, 1) := by decide +kernel
theorem dL_law_2894 : decode cL_law 2894 = .ok (.iload 5, 2) := by decide +kernel
theorem dL_law_2896 : decode cL_law 2896 = .ok (.iconst 1, 1) := by decide +kernel
theorem dL_law_2897 : decode cL_law 2897 = .ok (.iadd, 1) := by decide +kernel
theorem dL_law_2898 : decode cL_law 2898 = .ok (.iaload, 1) := by decide +kernel
theorem dL_law_2899 : decode cL_law 2899 = .ok (.aload_n 0, 1) := by decide +kernel
theorem dL_law_2900 : decode cL_law 2900 = .ok (.iload 5, 2) := by decide +kernel
theorem dL_law_2902 : decode cL_law 2902 = .ok (.iconst 2, 1) := by decide +kernel
theorem dL_law_2903 : decode cL_law 2903 = .ok (.iadd, 1) := by decide +kernel
theorem dL_law_2904 : decode cL_law 2904 = .ok (.iaload, 1) := by decide +kernel
theorem dL_law_2905 : decode cL_law 2905 = .ok (.aload_n 3, 1) := by decide +kernel
theorem dL_law_2906 : decode cL_law 2906 = .ok (.invokestatic 303, 3) := by decide +kernel
theorem dL_law_2909 : decode cL_law 2909 = .ok (.istore 6, 2) := by decide +kernel
theorem dL_law_2911 : decode cL_law 2911 = .ok (.aload_n 2, 1) := by decide +kernel
theorem dL_law_2912 : decode cL_law 2912 = .ok (.aload_n 0, 1) := by decide +kernel
theorem dL_law_2913 : decode cL_law 2913 = .ok (.iload 5, 2) := by decide +kernel
theorem dL_law_2915 : decode cL_law 2915 = .ok (.iconst 1, 1) := by decide +kernel
theorem dL_law_2916 : decode cL_law 2916 = .ok (.iadd, 1) := by decide +kernel
theorem dL_law_2917 : decode cL_law 2917 = .ok (.iaload, 1) := by decide +kernel
theorem dL_law_2918 : decode cL_law 2918 = .ok (.aload_n 0, 1) := by decide +kernel
theorem dL_law_2919 : decode cL_law 2919 = .ok (.iload 5, 2) := by decide +kernel
theorem dL_law_2921 : decode cL_law 2921 = .ok (.iconst 2, 1) := by decide +kernel
theorem dL_law_2922 : decode cL_law 2922 = .ok (.iadd, 1) := by decide +kernel
theorem dL_law_2923 : decode cL_law 2923 = .ok (.iaload, 1) := by decide +kernel
theorem dL_law_2924 : decode cL_law 2924 = .ok (.invokevirtual 305, 3) := by decide +kernel
theorem dL_law_2927 : decode cL_law 2927 = .ok (.istore 7, 2) := by decide +kernel
theorem dL_law_2929 : decode cL_law 2929 = .ok (.aload_n 2, 1) := by decide +kernel
theorem dL_law_2930 : decode cL_law 2930 = .ok (.invokevirtual 162, 3) := by decide +kernel
theorem dL_law_2933 : decode cL_law 2933 = .ok (.iload 6, 2) := by decide +kernel
theorem dL_law_2935 : decode cL_law 2935 = .ok (.if_icmp .eq 5, 3) := by decide +kernel
theorem dL_law_2938 : decode cL_law 2938 = .ok (.iconst 0, 1) := by decide +kernel
theorem dL_law_2939 : decode cL_law 2939 = .ok (.ireturn, 1) := by decide +kernel
theorem dL_law_2940 : decode cL_law 2940 = .ok (.iload 6, 2) := by decide +kernel
theorem dL_law_2942 : decode cL_law 2942 = .ok (.ifCond .ne 15, 3) := by decide +kernel
theorem dL_law_2945 : decode cL_law 2945 = .ok (.aload_n 3, 1) := by decide +kernel
theorem dL_law_2946 : decode cL_law 2946 = .ok (.iconst 0, 1) := by decide +kernel
theorem dL_law_2947 : decode cL_law 2947 = .ok (.laload, 1) := by decide +kernel
theorem dL_law_2948 : decode cL_law 2948 = .ok (.iload 7, 2) := by decide +kernel
theorem dL_law_2950 : decode cL_law 2950 = .ok (.i2l, 1) := by decide +kernel
theorem dL_law_2951 : decode cL_law 2951 = .ok (.lcmp, 1) := by decide +kernel
theorem dL_law_2952 : decode cL_law 2952 = .ok (.ifCond .eq 5, 3) := by decide +kernel
theorem dL_law_2955 : decode cL_law 2955 = .ok (.iconst 0, 1) := by decide +kernel
theorem dL_law_2956 : decode cL_law 2956 = .ok (.ireturn, 1) := by decide +kernel
theorem dL_law_2957 : decode cL_law 2957 = .ok (.goto 3, 3) := by decide +kernel
theorem dL_law_2960 : decode cL_law 2960 = .ok (.iinc 5 6, 3) := by decide +kernel
theorem dL_law_2963 : decode cL_law 2963 = .ok (.goto (-2935), 3) := by decide +kernel
theorem dL_law_2966 : decode cL_law 2966 = .ok (.iconst 1, 1) := by decide +kernel
theorem dL_law_2967 : decode cL_law 2967 = .ok (.ireturn, 1) := by decide +kernel
