theorem dXl_act_0 : decode cXl_act 0 = .ok (.aload 4, 2) := by decide +kernel
theorem dXl_act_2 : decode cXl_act 2 = .ok (.iconst 0, 1) := by decide +kernel
theorem dXl_act_3 : decode cXl_act 3 = .ok (.aload_n 0, 1) := by decide +kernel
theorem dXl_act_4 : decode cXl_act 4 = .ok (.iload_n 1, 1) := by decide +kernel
theorem dXl_act_5 : decode cXl_act 5 = .ok (.iload_n 2, 1) := by decide +kernel
theorem dXl_act_6 : decode cXl_act 6 = .ok (.iload_n 3, 1) := by decide +kernel
theorem dXl_act_7 : decode cXl_act 7 = .ok (.invokevirtual 7, 3) := by decide +kernel
theorem dXl_act_10 : decode cXl_act 10 = .ok (.i2l, 1) := by decide +kernel
theorem dXl_act_11 : decode cXl_act 11 = .ok (.lastore, 1) := by decide +kernel
theorem dXl_act_12 : decode cXl_act 12 = .ok (.goto 19, 3) := by decide +kernel
theorem dXl_act_15 : decode cXl_act 15 = .ok (.astore 5, 2) := by decide +kernel
theorem dXl_act_17 : decode cXl_act 17 = .ok (.iconst 1, 1) := by decide +kernel
theorem dXl_act_18 : decode cXl_act 18 = .ok (.ireturn, 1) := by decide +kernel
theorem dXl_act_19 : decode cXl_act 19 = .ok (.astore 5, 2) := by decide +kernel
theorem dXl_act_21 : decode cXl_act 21 = .ok (.iconst 2, 1) := by decide +kernel
theorem dXl_act_22 : decode cXl_act 22 = .ok (.ireturn, 1) := by decide +kernel
theorem dXl_act_23 : decode cXl_act 23 = .ok (.astore 5, 2) := by decide +kernel
theorem dXl_act_25 : decode cXl_act 25 = .ok (.iconst 3, 1) := by decide +kernel
theorem dXl_act_26 : decode cXl_act 26 = .ok (.ireturn, 1) := by decide +kernel
theorem dXl_act_27 : decode cXl_act 27 = .ok (.astore 5, 2) := by decide +kernel
theorem dXl_act_29 : decode cXl_act 29 = .ok (.iconst 4, 1) := by decide +kernel
theorem dXl_act_30 : decode cXl_act 30 = .ok (.ireturn, 1) := by decide +kernel
theorem dXl_act_31 : decode cXl_act 31 = .ok (.iconst 0, 1) := by decide +kernel
theorem dXl_act_32 : decode cXl_act 32 = .ok (.ireturn, 1) := by decide +kernel
theorem dXl_finish_0 : decode cXl_finish 0 = .ok (.aload_n 0, 1) := by decide +kernel
theorem dXl_finish_1 : decode cXl_finish 1 = .ok (.iload_n 1, 1) := by decide +kernel
theorem dXl_finish_2 : decode cXl_finish 2 = .ok (.iload_n 2, 1) := by decide +kernel
theorem dXl_finish_3 : decode cXl_finish 3 = .ok (.invokevirtual 21, 3) := by decide +kernel
theorem dXl_finish_6 : decode cXl_finish 6 = .ok (.goto 12, 3) := by decide +kernel
theorem dXl_finish_9 : decode cXl_finish 9 = .ok (.astore_n 3, 1) := by decide +kernel
theorem dXl_finish_10 : decode cXl_finish 10 = .ok (.iconst 1, 1) := by decide +kernel
theorem dXl_finish_11 : decode cXl_finish 11 = .ok (.ireturn, 1) := by decide +kernel
theorem dXl_finish_12 : decode cXl_finish 12 = .ok (.astore_n 3, 1) := by decide +kernel
theorem dXl_finish_13 : decode cXl_finish 13 = .ok (.iconst 2, 1) := by decide +kernel
theorem dXl_finish_14 : decode cXl_finish 14 = .ok (.ireturn, 1) := by decide +kernel
theorem dXl_finish_15 : decode cXl_finish 15 = .ok (.astore_n 3, 1) := by decide +kernel
theorem dXl_finish_16 : decode cXl_finish 16 = .ok (.iconst 3, 1) := by decide +kernel
theorem dXl_finish_17 : decode cXl_finish 17 = .ok (.ireturn, 1) := by decide +kernel
theorem dXl_finish_18 : decode cXl_finish 18 = .ok (.iconst 0, 1) := by decide +kernel
theorem dXl_finish_19 : decode cXl_finish 19 = .ok (.ireturn, 1) := by decide +kernel
theorem dXl_call_0 : decode cXl_call 0 = .ok (.aload_n 2, 1) := by decide +kernel
theorem dXl_call_1 : decode cXl_call 1 = .ok (.iconst 0, 1) := by decide +kernel
theorem dXl_call_2 : decode cXl_call 2 = .ok (.aload_n 0, 1) := by decide +kernel
theorem dXl_call_3 : decode cXl_call 3 = .ok (.iload_n 1, 1) := by decide +kernel
theorem dXl_call_4 : decode cXl_call 4 = .ok (.invokevirtual 25, 3) := by decide +kernel
theorem dXl_call_7 : decode cXl_call 7 = .ok (.i2l, 1) := by decide +kernel
theorem dXl_call_8 : decode cXl_call 8 = .ok (.lastore, 1) := by decide +kernel
theorem dXl_call_9 : decode cXl_call 9 = .ok (.goto 9, 3) := by decide +kernel
theorem dXl_call_12 : decode cXl_call 12 = .ok (.astore_n 3, 1) := by decide +kernel
theorem dXl_call_13 : decode cXl_call 13 = .ok (.iconst 1, 1) := by decide +kernel
theorem dXl_call_14 : decode cXl_call 14 = .ok (.ireturn, 1) := by decide +kernel
theorem dXl_call_15 : decode cXl_call 15 = .ok (.astore_n 3, 1) := by decide +kernel
theorem dXl_call_16 : decode cXl_call 16 = .ok (.iconst 2, 1) := by decide +kernel
theorem dXl_call_17 : decode cXl_call 17 = .ok (.ireturn, 1) := by decide +kernel
theorem dXl_call_18 : decode cXl_call 18 = .ok (.iconst 0, 1) := by decide +kernel
theorem dXl_call_19 : decode cXl_call 19 = .ok (.ireturn, 1) := by decide +kernel
theorem dXl_step_0 : decode cXl_step 0 = .ok (.aload_n 2, 1) := by decide +kernel
theorem dXl_step_1 : decode cXl_step 1 = .ok (.iconst 0, 1) := by decide +kernel
theorem dXl_step_2 : decode cXl_step 2 = .ok (.aload_n 0, 1) := by decide +kernel
theorem dXl_step_3 : decode cXl_step 3 = .ok (.iload_n 1, 1) := by decide +kernel
theorem dXl_step_4 : decode cXl_step 4 = .ok (.invokevirtual 29, 3) := by decide +kernel
theorem dXl_step_7 : decode cXl_step 7 = .ok (.i2l, 1) := by decide +kernel
theorem dXl_step_8 : decode cXl_step 8 = .ok (.lastore, 1) := by decide +kernel
theorem dXl_step_9 : decode cXl_step 9 = .ok (.goto 9, 3) := by decide +kernel
theorem dXl_step_12 : decode cXl_step 12 = .ok (.astore_n 3, 1) := by decide +kernel
theorem dXl_step_13 : decode cXl_step 13 = .ok (.iconst 1, 1) := by decide +kernel
theorem dXl_step_14 : decode cXl_step 14 = .ok (.ireturn, 1) := by decide +kernel
theorem dXl_step_15 : decode cXl_step 15 = .ok (.astore_n 3, 1) := by decide +kernel
theorem dXl_step_16 : decode cXl_step 16 = .ok (.iconst 2, 1) := by decide +kernel
theorem dXl_step_17 : decode cXl_step 17 = .ok (.ireturn, 1) := by decide +kernel
theorem dXl_step_18 : decode cXl_step 18 = .ok (.iconst 0, 1) := by decide +kernel
theorem dXl_step_19 : decode cXl_step 19 = .ok (.ireturn, 1) := by decide +kernel
theorem dXl_run_0 : decode cXl_run 0 = .ok (.aload 4, 2) := by decide +kernel
theorem dXl_run_2 : decode cXl_run 2 = .ok (.iconst 0, 1) := by decide +kernel
theorem dXl_run_3 : decode cXl_run 3 = .ok (.aload_n 0, 1) := by decide +kernel
theorem dXl_run_4 : decode cXl_run 4 = .ok (.lload_n 1, 1) := by decide +kernel
theorem dXl_run_5 : decode cXl_run 5 = .ok (.iload_n 3, 1) := by decide +kernel
theorem dXl_run_6 : decode cXl_run 6 = .ok (.invokevirtual 32, 3) := by decide +kernel
theorem dXl_run_9 : decode cXl_run 9 = .ok (.i2l, 1) := by decide +kernel
theorem dXl_run_10 : decode cXl_run 10 = .ok (.lastore, 1) := by decide +kernel
theorem dXl_run_11 : decode cXl_run 11 = .ok (.goto 7, 3) := by decide +kernel
theorem dXl_run_14 : decode cXl_run 14 = .ok (.astore 5, 2) := by decide +kernel
theorem dXl_run_16 : decode cXl_run 16 = .ok (.iconst 1, 1) := by decide +kernel
theorem dXl_run_17 : decode cXl_run 17 = .ok (.ireturn, 1) := by decide +kernel
theorem dXl_run_18 : decode cXl_run 18 = .ok (.iconst 0, 1) := by decide +kernel
theorem dXl_run_19 : decode cXl_run 19 = .ok (.ireturn, 1) := by decide +kernel
theorem dXl_kill_0 : decode cXl_kill 0 = .ok (.aload_n 0, 1) := by decide +kernel
theorem dXl_kill_1 : decode cXl_kill 1 = .ok (.iload_n 1, 1) := by decide +kernel
theorem dXl_kill_2 : decode cXl_kill 2 = .ok (.invokevirtual 36, 3) := by decide +kernel
theorem dXl_kill_5 : decode cXl_kill 5 = .ok (.goto 9, 3) := by decide +kernel
theorem dXl_kill_8 : decode cXl_kill 8 = .ok (.astore_n 2, 1) := by decide +kernel
theorem dXl_kill_9 : decode cXl_kill 9 = .ok (.iconst 1, 1) := by decide +kernel
theorem dXl_kill_10 : decode cXl_kill 10 = .ok (.ireturn, 1) := by decide +kernel
theorem dXl_kill_11 : decode cXl_kill 11 = .ok (.astore_n 2, 1) := by decide +kernel
theorem dXl_kill_12 : decode cXl_kill 12 = .ok (.iconst 2, 1) := by decide +kernel
theorem dXl_kill_13 : decode cXl_kill 13 = .ok (.ireturn, 1) := by decide +kernel
theorem dXl_kill_14 : decode cXl_kill 14 = .ok (.iconst 0, 1) := by decide +kernel
theorem dXl_kill_15 : decode cXl_kill 15 = .ok (.ireturn, 1) := by decide +kernel
theorem dXl_restart_0 : decode cXl_restart 0 = .ok (.aload_n 0, 1) := by decide +kernel
theorem dXl_restart_1 : decode cXl_restart 1 = .ok (.iload_n 1, 1) := by decide +kernel
theorem dXl_restart_2 : decode cXl_restart 2 = .ok (.invokevirtual 40, 3) := by decide +kernel
theorem dXl_restart_5 : decode cXl_restart 5 = .ok (.goto 9, 3) := by decide +kernel
theorem dXl_restart_8 : decode cXl_restart 8 = .ok (.astore_n 2, 1) := by decide +kernel
theorem dXl_restart_9 : decode cXl_restart 9 = .ok (.iconst 1, 1) := by decide +kernel
theorem dXl_restart_10 : decode cXl_restart 10 = .ok (.ireturn, 1) := by decide +kernel
theorem dXl_restart_11 : decode cXl_restart 11 = .ok (.astore_n 2, 1) := by decide +kernel
theorem dXl_restart_12 : decode cXl_restart 12 = .ok (.iconst 2, 1) := by decide +kernel
theorem dXl_restart_13 : decode cXl_restart 13 = .ok (.ireturn, 1) := by decide +kernel
theorem dXl_restart_14 : decode cXl_restart 14 = .ok (.iconst 0, 1) := by decide +kernel
theorem dXl_restart_15 : decode cXl_restart 15 = .ok (.ireturn, 1) := by decide +kernel
theorem dXl_lease_0 : decode cXl_lease 0 = .ok (.aload_n 0, 1) := by decide +kernel
theorem dXl_lease_1 : decode cXl_lease 1 = .ok (.iload_n 1, 1) := by decide +kernel
theorem dXl_lease_2 : decode cXl_lease 2 = .ok (.invokevirtual 43, 3) := by decide +kernel
theorem dXl_lease_5 : decode cXl_lease 5 = .ok (.goto 6, 3) := by decide +kernel
theorem dXl_lease_8 : decode cXl_lease 8 = .ok (.astore_n 2, 1) := by decide +kernel
theorem dXl_lease_9 : decode cXl_lease 9 = .ok (.iconst 1, 1) := by decide +kernel
theorem dXl_lease_10 : decode cXl_lease 10 = .ok (.ireturn, 1) := by decide +kernel
theorem dXl_lease_11 : decode cXl_lease 11 = .ok (.iconst 0, 1) := by decide +kernel
theorem dXl_lease_12 : decode cXl_lease 12 = .ok (.ireturn, 1) := by decide +kernel
theorem dXl_unit_0 : decode cXl_unit 0 = .ok (.aload_n 3, 1) := by decide +kernel
theorem dXl_unit_1 : decode cXl_unit 1 = .ok (.iconst 0, 1) := by decide +kernel
theorem dXl_unit_2 : decode cXl_unit 2 = .ok (.aload_n 0, 1) := by decide +kernel
theorem dXl_unit_3 : decode cXl_unit 3 = .ok (.iload_n 1, 1) := by decide +kernel
theorem dXl_unit_4 : decode cXl_unit 4 = .ok (.iload_n 2, 1) := by decide +kernel
theorem dXl_unit_5 : decode cXl_unit 5 = .ok (.invokevirtual 46, 3) := by decide +kernel
theorem dXl_unit_8 : decode cXl_unit 8 = .ok (.i2l, 1) := by decide +kernel
theorem dXl_unit_9 : decode cXl_unit 9 = .ok (.lastore, 1) := by decide +kernel
theorem dXl_unit_10 : decode cXl_unit 10 = .ok (.goto 7, 3) := by decide +kernel
theorem dXl_unit_13 : decode cXl_unit 13 = .ok (.astore 4, 2) := by decide +kernel
theorem dXl_unit_15 : decode cXl_unit 15 = .ok (.iconst 1, 1) := by decide +kernel
theorem dXl_unit_16 : decode cXl_unit 16 = .ok (.ireturn, 1) := by decide +kernel
theorem dXl_unit_17 : decode cXl_unit 17 = .ok (.iconst 0, 1) := by decide +kernel
theorem dXl_unit_18 : decode cXl_unit 18 = .ok (.ireturn, 1) := by decide +kernel
theorem dXl_callAt_0 : decode cXl_callAt 0 = .ok (.aload_n 3, 1) := by decide +kernel
theorem dXl_callAt_1 : decode cXl_callAt 1 = .ok (.iconst 0, 1) := by decide +kernel
theorem dXl_callAt_2 : decode cXl_callAt 2 = .ok (.aload_n 0, 1) := by decide +kernel
theorem dXl_callAt_3 : decode cXl_callAt 3 = .ok (.iload_n 1, 1) := by decide +kernel
theorem dXl_callAt_4 : decode cXl_callAt 4 = .ok (.iload_n 2, 1) := by decide +kernel
theorem dXl_callAt_5 : decode cXl_callAt 5 = .ok (.invokevirtual 50, 3) := by decide +kernel
theorem dXl_callAt_8 : decode cXl_callAt 8 = .ok (.i2l, 1) := by decide +kernel
theorem dXl_callAt_9 : decode cXl_callAt 9 = .ok (.lastore, 1) := by decide +kernel
theorem dXl_callAt_10 : decode cXl_callAt 10 = .ok (.goto 7, 3) := by decide +kernel
theorem dXl_callAt_13 : decode cXl_callAt 13 = .ok (.astore 4, 2) := by decide +kernel
theorem dXl_callAt_15 : decode cXl_callAt 15 = .ok (.iconst 1, 1) := by decide +kernel
theorem dXl_callAt_16 : decode cXl_callAt 16 = .ok (.ireturn, 1) := by decide +kernel
theorem dXl_callAt_17 : decode cXl_callAt 17 = .ok (.iconst 0, 1) := by decide +kernel
theorem dXl_callAt_18 : decode cXl_callAt 18 = .ok (.ireturn, 1) := by decide +kernel
theorem dXl_thread_0 : decode cXl_thread 0 = .ok (.aload_n 3, 1) := by decide +kernel
theorem dXl_thread_1 : decode cXl_thread 1 = .ok (.iconst 0, 1) := by decide +kernel
theorem dXl_thread_2 : decode cXl_thread 2 = .ok (.aload_n 0, 1) := by decide +kernel
theorem dXl_thread_3 : decode cXl_thread 3 = .ok (.iload_n 1, 1) := by decide +kernel
theorem dXl_thread_4 : decode cXl_thread 4 = .ok (.iload_n 2, 1) := by decide +kernel
theorem dXl_thread_5 : decode cXl_thread 5 = .ok (.invokevirtual 53, 3) := by decide +kernel
theorem dXl_thread_8 : decode cXl_thread 8 = .ok (.i2l, 1) := by decide +kernel
theorem dXl_thread_9 : decode cXl_thread 9 = .ok (.lastore, 1) := by decide +kernel
theorem dXl_thread_10 : decode cXl_thread 10 = .ok (.goto 7, 3) := by decide +kernel
theorem dXl_thread_13 : decode cXl_thread 13 = .ok (.astore 4, 2) := by decide +kernel
theorem dXl_thread_15 : decode cXl_thread 15 = .ok (.iconst 1, 1) := by decide +kernel
theorem dXl_thread_16 : decode cXl_thread 16 = .ok (.ireturn, 1) := by decide +kernel
theorem dXl_thread_17 : decode cXl_thread 17 = .ok (.iconst 0, 1) := by decide +kernel
theorem dXl_thread_18 : decode cXl_thread 18 = .ok (.ireturn, 1) := by decide +kernel
theorem dXl_row_0 : decode cXl_row 0 = .ok (.aload_n 3, 1) := by decide +kernel
theorem dXl_row_1 : decode cXl_row 1 = .ok (.iconst 0, 1) := by decide +kernel
theorem dXl_row_2 : decode cXl_row 2 = .ok (.aload_n 0, 1) := by decide +kernel
theorem dXl_row_3 : decode cXl_row 3 = .ok (.iload_n 1, 1) := by decide +kernel
theorem dXl_row_4 : decode cXl_row 4 = .ok (.iload_n 2, 1) := by decide +kernel
theorem dXl_row_5 : decode cXl_row 5 = .ok (.invokevirtual 56, 3) := by decide +kernel
theorem dXl_row_8 : decode cXl_row 8 = .ok (.i2l, 1) := by decide +kernel
theorem dXl_row_9 : decode cXl_row 9 = .ok (.lastore, 1) := by decide +kernel
theorem dXl_row_10 : decode cXl_row 10 = .ok (.goto 7, 3) := by decide +kernel
theorem dXl_row_13 : decode cXl_row 13 = .ok (.astore 4, 2) := by decide +kernel
theorem dXl_row_15 : decode cXl_row 15 = .ok (.iconst 1, 1) := by decide +kernel
theorem dXl_row_16 : decode cXl_row 16 = .ok (.ireturn, 1) := by decide +kernel
theorem dXl_row_17 : decode cXl_row 17 = .ok (.iconst 0, 1) := by decide +kernel
theorem dXl_row_18 : decode cXl_row 18 = .ok (.ireturn, 1) := by decide +kernel
theorem dXl_count_0 : decode cXl_count 0 = .ok (.aload_n 2, 1) := by decide +kernel
theorem dXl_count_1 : decode cXl_count 1 = .ok (.iconst 0, 1) := by decide +kernel
theorem dXl_count_2 : decode cXl_count 2 = .ok (.aload_n 0, 1) := by decide +kernel
theorem dXl_count_3 : decode cXl_count 3 = .ok (.iload_n 1, 1) := by decide +kernel
theorem dXl_count_4 : decode cXl_count 4 = .ok (.invokevirtual 59, 3) := by decide +kernel
theorem dXl_count_7 : decode cXl_count 7 = .ok (.i2l, 1) := by decide +kernel
theorem dXl_count_8 : decode cXl_count 8 = .ok (.lastore, 1) := by decide +kernel
theorem dXl_count_9 : decode cXl_count 9 = .ok (.goto 6, 3) := by decide +kernel
theorem dXl_count_12 : decode cXl_count 12 = .ok (.astore_n 3, 1) := by decide +kernel
theorem dXl_count_13 : decode cXl_count 13 = .ok (.iconst 1, 1) := by decide +kernel
theorem dXl_count_14 : decode cXl_count 14 = .ok (.ireturn, 1) := by decide +kernel
theorem dXl_count_15 : decode cXl_count 15 = .ok (.iconst 0, 1) := by decide +kernel
theorem dXl_count_16 : decode cXl_count 16 = .ok (.ireturn, 1) := by decide +kernel
theorem dXl_law_0 : decode cXl_law 0 = .ok (.new 8, 3) := by decide +kernel
theorem dXl_law_3 : decode cXl_law 3 = .ok (.dup, 1) := by decide +kernel
theorem dXl_law_4 : decode cXl_law 4 = .ok (.invokespecial 62, 3) := by decide +kernel
theorem dXl_law_7 : decode cXl_law 7 = .ok (.astore_n 1, 1) := by decide +kernel
theorem dXl_law_8 : decode cXl_law 8 = .ok (.new 63, 3) := by decide +kernel
theorem dXl_law_11 : decode cXl_law 11 = .ok (.dup, 1) := by decide +kernel
theorem dXl_law_12 : decode cXl_law 12 = .ok (.invokespecial 65, 3) := by decide +kernel
theorem dXl_law_15 : decode cXl_law 15 = .ok (.astore_n 2, 1) := by decide +kernel
theorem dXl_law_16 : decode cXl_law 16 = .ok (.iconst 1, 1) := by decide +kernel
theorem dXl_law_17 : decode cXl_law 17 = .ok (.newarray .long, 2) := by decide +kernel
theorem dXl_law_19 : decode cXl_law 19 = .ok (.astore_n 3, 1) := by decide +kernel
theorem dXl_law_20 : decode cXl_law 20 = .ok (.iconst 0, 1) := by decide +kernel
theorem dXl_law_21 : decode cXl_law 21 = .ok (.istore 4, 2) := by decide +kernel
theorem dXl_law_23 : decode cXl_law 23 = .ok (.iload 4, 2) := by decide +kernel
theorem dXl_law_25 : decode cXl_law 25 = .ok (.aload_n 0, 1) := by decide +kernel
theorem dXl_law_26 : decode cXl_law 26 = .ok (.arraylength, 1) := by decide +kernel
theorem dXl_law_27 : decode cXl_law 27 = .ok (.iconst 4, 1) := by decide +kernel
theorem dXl_law_28 : decode cXl_law 28 = .ok (.isub, 1) := by decide +kernel
theorem dXl_law_29 : decode cXl_law 29 = .ok (.if_icmp .gt 874, 3) := by decide +kernel
theorem dXl_law_32 : decode cXl_law 32 = .ok (.aload_n 0, 1) := by decide +kernel
theorem dXl_law_33 : decode cXl_law 33 = .ok (.iload 4, 2) := by decide +kernel
theorem dXl_law_35 : decode cXl_law 35 = .ok (.iaload, 1) := by decide +kernel
theorem dXl_law_36 : decode cXl_law 36 = .ok (.bipush 15, 2) := by decide +kernel
theorem dXl_law_38 : decode cXl_law 38 = .ok (.iand, 1) := by decide +kernel
theorem dXl_law_39 : decode cXl_law 39 = .ok (.tableswitch 858 0 13 #[69, 149, 197, 253, 309, 409, 445, 481, 517, 530, 598, 666, 734, 802], 69) := by decide +kernel
theorem dXl_law_108 : decode cXl_law 108 = .ok (.aload_n 1, 1) := by decide +kernel
theorem dXl_law_109 : decode cXl_law 109 = .ok (.aload_n 0, 1) := by decide +kernel
theorem dXl_law_110 : decode cXl_law 110 = .ok (.iload 4, 2) := by decide +kernel
theorem dXl_law_112 : decode cXl_law 112 = .ok (.iconst 1, 1) := by decide +kernel
theorem dXl_law_113 : decode cXl_law 113 = .ok (.iadd, 1) := by decide +kernel
theorem dXl_law_114 : decode cXl_law 114 = .ok (.iaload, 1) := by decide +kernel
theorem dXl_law_115 : decode cXl_law 115 = .ok (.aload_n 0, 1) := by decide +kernel
theorem dXl_law_116 : decode cXl_law 116 = .ok (.iload 4, 2) := by decide +kernel
theorem dXl_law_118 : decode cXl_law 118 = .ok (.iconst 2, 1) := by decide +kernel
theorem dXl_law_119 : decode cXl_law 119 = .ok (.iadd, 1) := by decide +kernel
theorem dXl_law_120 : decode cXl_law 120 = .ok (.iaload, 1) := by decide +kernel
theorem dXl_law_121 : decode cXl_law 121 = .ok (.aload_n 0, 1) := by decide +kernel
theorem dXl_law_122 : decode cXl_law 122 = .ok (.iload 4, 2) := by decide +kernel
theorem dXl_law_124 : decode cXl_law 124 = .ok (.iconst 3, 1) := by decide +kernel
theorem dXl_law_125 : decode cXl_law 125 = .ok (.iadd, 1) := by decide +kernel
theorem dXl_law_126 : decode cXl_law 126 = .ok (.iaload, 1) := by decide +kernel
theorem dXl_law_127 : decode cXl_law 127 = .ok (.aload_n 3, 1) := by decide +kernel
theorem dXl_law_128 : decode cXl_law 128 = .ok (.invokestatic 66, 3) := by decide +kernel
theorem dXl_law_131 : decode cXl_law 131 = .ok (.istore 5, 2) := by decide +kernel
theorem dXl_law_133 : decode cXl_law 133 = .ok (.aload_n 2, 1) := by decide +kernel
theorem dXl_law_134 : decode cXl_law 134 = .ok (.aload_n 0, 1) := by decide +kernel
theorem dXl_law_135 : decode cXl_law 135 = .ok (.iload 4, 2) := by decide +kernel
theorem dXl_law_137 : decode cXl_law 137 = .ok (.iconst 1, 1) := by decide +kernel
theorem dXl_law_138 : decode cXl_law 138 = .ok (.iadd, 1) := by decide +kernel
theorem dXl_law_139 : decode cXl_law 139 = .ok (.iaload, 1) := by decide +kernel
theorem dXl_law_140 : decode cXl_law 140 = .ok (.aload_n 0, 1) := by decide +kernel
theorem dXl_law_141 : decode cXl_law 141 = .ok (.iload 4, 2) := by decide +kernel
theorem dXl_law_143 : decode cXl_law 143 = .ok (.iconst 2, 1) := by decide +kernel
theorem dXl_law_144 : decode cXl_law 144 = .ok (.iadd, 1) := by decide +kernel
theorem dXl_law_145 : decode cXl_law 145 = .ok (.iaload, 1) := by decide +kernel
theorem dXl_law_146 : decode cXl_law 146 = .ok (.aload_n 0, 1) := by decide +kernel
theorem dXl_law_147 : decode cXl_law 147 = .ok (.iload 4, 2) := by decide +kernel
theorem dXl_law_149 : decode cXl_law 149 = .ok (.iconst 3, 1) := by decide +kernel
theorem dXl_law_150 : decode cXl_law 150 = .ok (.iadd, 1) := by decide +kernel
theorem dXl_law_151 : decode cXl_law 151 = .ok (.iaload, 1) := by decide +kernel
theorem dXl_law_152 : decode cXl_law 152 = .ok (.invokevirtual 71, 3) := by decide +kernel
theorem dXl_law_155 : decode cXl_law 155 = .ok (.istore 6, 2) := by decide +kernel
theorem dXl_law_157 : decode cXl_law 157 = .ok (.aload_n 2, 1) := by decide +kernel
theorem dXl_law_158 : decode cXl_law 158 = .ok (.invokevirtual 72, 3) := by decide +kernel
theorem dXl_law_161 : decode cXl_law 161 = .ok (.iload 5, 2) := by decide +kernel
theorem dXl_law_163 : decode cXl_law 163 = .ok (.if_icmp .eq 5, 3) := by decide +kernel
theorem dXl_law_166 : decode cXl_law 166 = .ok (.iconst 0, 1) := by decide +kernel
theorem dXl_law_167 : decode cXl_law 167 = .ok (.ireturn, 1) := by decide +kernel
theorem dXl_law_168 : decode cXl_law 168 = .ok (.iload 5, 2) := by decide +kernel
theorem dXl_law_170 : decode cXl_law 170 = .ok (.ifCond .ne 15, 3) := by decide +kernel
theorem dXl_law_173 : decode cXl_law 173 = .ok (.aload_n 3, 1) := by decide +kernel
theorem dXl_law_174 : decode cXl_law 174 = .ok (.iconst 0, 1) := by decide +kernel
theorem dXl_law_175 : decode cXl_law 175 = .ok (.laload, 1) := by decide +kernel
theorem dXl_law_176 : decode cXl_law 176 = .ok (.iload 6, 2) := by decide +kernel
theorem dXl_law_178 : decode cXl_law 178 = .ok (.i2l, 1) := by decide +kernel
theorem dXl_law_179 : decode cXl_law 179 = .ok (.lcmp, 1) := by decide +kernel
theorem dXl_law_180 : decode cXl_law 180 = .ok (.ifCond .eq 5, 3) := by decide +kernel
theorem dXl_law_183 : decode cXl_law 183 = .ok (.iconst 0, 1) := by decide +kernel
theorem dXl_law_184 : decode cXl_law 184 = .ok (.ireturn, 1) := by decide +kernel
theorem dXl_law_185 : decode cXl_law 185 = .ok (.goto 712, 3) := by decide +kernel
theorem dXl_law_188 : decode cXl_law 188 = .ok (.aload_n 1, 1) := by decide +kernel
theorem dXl_law_189 : decode cXl_law 189 = .ok (.aload_n 0, 1) := by decide +kernel
theorem dXl_law_190 : decode cXl_law 190 = .ok (.iload 4, 2) := by decide +kernel
theorem dXl_law_192 : decode cXl_law 192 = .ok (.iconst 1, 1) := by decide +kernel
theorem dXl_law_193 : decode cXl_law 193 = .ok (.iadd, 1) := by decide +kernel
theorem dXl_law_194 : decode cXl_law 194 = .ok (.iaload, 1) := by decide +kernel
theorem dXl_law_195 : decode cXl_law 195 = .ok (.aload_n 0, 1) := by decide +kernel
theorem dXl_law_196 : decode cXl_law 196 = .ok (.iload 4, 2) := by decide +kernel
theorem dXl_law_198 : decode cXl_law 198 = .ok (.iconst 2, 1) := by decide +kernel
theorem dXl_law_199 : decode cXl_law 199 = .ok (.iadd, 1) := by decide +kernel
theorem dXl_law_200 : decode cXl_law 200 = .ok (.iaload, 1) := by decide +kernel
theorem dXl_law_201 : decode cXl_law 201 = .ok (.invokestatic 76, 3) := by decide +kernel
theorem dXl_law_204 : decode cXl_law 204 = .ok (.istore 5, 2) := by decide +kernel
theorem dXl_law_206 : decode cXl_law 206 = .ok (.aload_n 2, 1) := by decide +kernel
theorem dXl_law_207 : decode cXl_law 207 = .ok (.aload_n 0, 1) := by decide +kernel
theorem dXl_law_208 : decode cXl_law 208 = .ok (.iload 4, 2) := by decide +kernel
theorem dXl_law_210 : decode cXl_law 210 = .ok (.iconst 1, 1) := by decide +kernel
theorem dXl_law_211 : decode cXl_law 211 = .ok (.iadd, 1) := by decide +kernel
theorem dXl_law_212 : decode cXl_law 212 = .ok (.iaload, 1) := by decide +kernel
theorem dXl_law_213 : decode cXl_law 213 = .ok (.aload_n 0, 1) := by decide +kernel
theorem dXl_law_214 : decode cXl_law 214 = .ok (.iload 4, 2) := by decide +kernel
theorem dXl_law_216 : decode cXl_law 216 = .ok (.iconst 2, 1) := by decide +kernel
theorem dXl_law_217 : decode cXl_law 217 = .ok (.iadd, 1) := by decide +kernel
theorem dXl_law_218 : decode cXl_law 218 = .ok (.iaload, 1) := by decide +kernel
theorem dXl_law_219 : decode cXl_law 219 = .ok (.invokevirtual 79, 3) := by decide +kernel
theorem dXl_law_222 : decode cXl_law 222 = .ok (.aload_n 2, 1) := by decide +kernel
theorem dXl_law_223 : decode cXl_law 223 = .ok (.invokevirtual 72, 3) := by decide +kernel
theorem dXl_law_226 : decode cXl_law 226 = .ok (.iload 5, 2) := by decide +kernel
theorem dXl_law_228 : decode cXl_law 228 = .ok (.if_icmp .eq 5, 3) := by decide +kernel
theorem dXl_law_231 : decode cXl_law 231 = .ok (.iconst 0, 1) := by decide +kernel
theorem dXl_law_232 : decode cXl_law 232 = .ok (.ireturn, 1) := by decide +kernel
theorem dXl_law_233 : decode cXl_law 233 = .ok (.goto 664, 3) := by decide +kernel
theorem dXl_law_236 : decode cXl_law 236 = .ok (.aload_n 1, 1) := by decide +kernel
theorem dXl_law_237 : decode cXl_law 237 = .ok (.aload_n 0, 1) := by decide +kernel
theorem dXl_law_238 : decode cXl_law 238 = .ok (.iload 4, 2) := by decide +kernel
theorem dXl_law_240 : decode cXl_law 240 = .ok (.iconst 1, 1) := by decide +kernel
theorem dXl_law_241 : decode cXl_law 241 = .ok (.iadd, 1) := by decide +kernel
theorem dXl_law_242 : decode cXl_law 242 = .ok (.iaload, 1) := by decide +kernel
theorem dXl_law_243 : decode cXl_law 243 = .ok (.aload_n 3, 1) := by decide +kernel
theorem dXl_law_244 : decode cXl_law 244 = .ok (.invokestatic 80, 3) := by decide +kernel
theorem dXl_law_247 : decode cXl_law 247 = .ok (.istore 5, 2) := by decide +kernel
theorem dXl_law_249 : decode cXl_law 249 = .ok (.aload_n 2, 1) := by decide +kernel
theorem dXl_law_250 : decode cXl_law 250 = .ok (.aload_n 0, 1) := by decide +kernel
theorem dXl_law_251 : decode cXl_law 251 = .ok (.iload 4, 2) := by decide +kernel
theorem dXl_law_253 : decode cXl_law 253 = .ok (.iconst 1, 1) := by decide +kernel
theorem dXl_law_254 : decode cXl_law 254 = .ok (.iadd, 1) := by decide +kernel
theorem dXl_law_255 : decode cXl_law 255 = .ok (.iaload, 1) := by decide +kernel
theorem dXl_law_256 : decode cXl_law 256 = .ok (.invokevirtual 83, 3) := by decide +kernel
theorem dXl_law_259 : decode cXl_law 259 = .ok (.istore 6, 2) := by decide +kernel
theorem dXl_law_261 : decode cXl_law 261 = .ok (.aload_n 2, 1) := by decide +kernel
theorem dXl_law_262 : decode cXl_law 262 = .ok (.invokevirtual 72, 3) := by decide +kernel
theorem dXl_law_265 : decode cXl_law 265 = .ok (.iload 5, 2) := by decide +kernel
theorem dXl_law_267 : decode cXl_law 267 = .ok (.if_icmp .eq 5, 3) := by decide +kernel
theorem dXl_law_270 : decode cXl_law 270 = .ok (.iconst 0, 1) := by decide +kernel
theorem dXl_law_271 : decode cXl_law 271 = .ok (.ireturn, 1) := by decide +kernel
theorem dXl_law_272 : decode cXl_law 272 = .ok (.iload 5, 2) := by decide +kernel
theorem dXl_law_274 : decode cXl_law 274 = .ok (.ifCond .ne 15, 3) := by decide +kernel
theorem dXl_law_277 : decode cXl_law 277 = .ok (.aload_n 3, 1) := by decide +kernel
theorem dXl_law_278 : decode cXl_law 278 = .ok (.iconst 0, 1) := by decide +kernel
theorem dXl_law_279 : decode cXl_law 279 = .ok (.laload, 1) := by decide +kernel
theorem dXl_law_280 : decode cXl_law 280 = .ok (.iload 6, 2) := by decide +kernel
theorem dXl_law_282 : decode cXl_law 282 = .ok (.i2l, 1) := by decide +kernel
theorem dXl_law_283 : decode cXl_law 283 = .ok (.lcmp, 1) := by decide +kernel
theorem dXl_law_284 : decode cXl_law 284 = .ok (.ifCond .eq 5, 3) := by decide +kernel
theorem dXl_law_287 : decode cXl_law 287 = .ok (.iconst 0, 1) := by decide +kernel
theorem dXl_law_288 : decode cXl_law 288 = .ok (.ireturn, 1) := by decide +kernel
theorem dXl_law_289 : decode cXl_law 289 = .ok (.goto 608, 3) := by decide +kernel
theorem dXl_law_292 : decode cXl_law 292 = .ok (.aload_n 1, 1) := by decide +kernel
theorem dXl_law_293 : decode cXl_law 293 = .ok (.aload_n 0, 1) := by decide +kernel
theorem dXl_law_294 : decode cXl_law 294 = .ok (.iload 4, 2) := by decide +kernel
theorem dXl_law_296 : decode cXl_law 296 = .ok (.iconst 1, 1) := by decide +kernel
theorem dXl_law_297 : decode cXl_law 297 = .ok (.iadd, 1) := by decide +kernel
theorem dXl_law_298 : decode cXl_law 298 = .ok (.iaload, 1) := by decide +kernel
theorem dXl_law_299 : decode cXl_law 299 = .ok (.aload_n 3, 1) := by decide +kernel
theorem dXl_law_300 : decode cXl_law 300 = .ok (.invokestatic 84, 3) := by decide +kernel
theorem dXl_law_303 : decode cXl_law 303 = .ok (.istore 5, 2) := by decide +kernel
theorem dXl_law_305 : decode cXl_law 305 = .ok (.aload_n 2, 1) := by decide +kernel
theorem dXl_law_306 : decode cXl_law 306 = .ok (.aload_n 0, 1) := by decide +kernel
theorem dXl_law_307 : decode cXl_law 307 = .ok (.iload 4, 2) := by decide +kernel
theorem dXl_law_309 : decode cXl_law 309 = .ok (.iconst 1, 1) := by decide +kernel
theorem dXl_law_310 : decode cXl_law 310 = .ok (.iadd, 1) := by decide +kernel
theorem dXl_law_311 : decode cXl_law 311 = .ok (.iaload, 1) := by decide +kernel
theorem dXl_law_312 : decode cXl_law 312 = .ok (.invokevirtual 86, 3) := by decide +kernel
theorem dXl_law_315 : decode cXl_law 315 = .ok (.istore 6, 2) := by decide +kernel
theorem dXl_law_317 : decode cXl_law 317 = .ok (.aload_n 2, 1) := by decide +kernel
theorem dXl_law_318 : decode cXl_law 318 = .ok (.invokevirtual 72, 3) := by decide +kernel
theorem dXl_law_321 : decode cXl_law 321 = .ok (.iload 5, 2) := by decide +kernel
theorem dXl_law_323 : decode cXl_law 323 = .ok (.if_icmp .eq 5, 3) := by decide +kernel
theorem dXl_law_326 : decode cXl_law 326 = .ok (.iconst 0, 1) := by decide +kernel
theorem dXl_law_327 : decode cXl_law 327 = .ok (.ireturn, 1) := by decide +kernel
theorem dXl_law_328 : decode cXl_law 328 = .ok (.iload 5, 2) := by decide +kernel
theorem dXl_law_330 : decode cXl_law 330 = .ok (.ifCond .ne 15, 3) := by decide +kernel
theorem dXl_law_333 : decode cXl_law 333 = .ok (.aload_n 3, 1) := by decide +kernel
theorem dXl_law_334 : decode cXl_law 334 = .ok (.iconst 0, 1) := by decide +kernel
theorem dXl_law_335 : decode cXl_law 335 = .ok (.laload, 1) := by decide +kernel
theorem dXl_law_336 : decode cXl_law 336 = .ok (.iload 6, 2) := by decide +kernel
theorem dXl_law_338 : decode cXl_law 338 = .ok (.i2l, 1) := by decide +kernel
theorem dXl_law_339 : decode cXl_law 339 = .ok (.lcmp, 1) := by decide +kernel
theorem dXl_law_340 : decode cXl_law 340 = .ok (.ifCond .eq 5, 3) := by decide +kernel
theorem dXl_law_343 : decode cXl_law 343 = .ok (.iconst 0, 1) := by decide +kernel
theorem dXl_law_344 : decode cXl_law 344 = .ok (.ireturn, 1) := by decide +kernel
theorem dXl_law_345 : decode cXl_law 345 = .ok (.goto 552, 3) := by decide +kernel
theorem dXl_law_348 : decode cXl_law 348 = .ok (.aload_n 1, 1) := by decide +kernel
theorem dXl_law_349 : decode cXl_law 349 = .ok (.aload_n 0, 1) := by decide +kernel
theorem dXl_law_350 : decode cXl_law 350 = .ok (.iload 4, 2) := by decide +kernel
theorem dXl_law_352 : decode cXl_law 352 = .ok (.iconst 1, 1) := by decide +kernel
theorem dXl_law_353 : decode cXl_law 353 = .ok (.iadd, 1) := by decide +kernel
theorem dXl_law_354 : decode cXl_law 354 = .ok (.iaload, 1) := by decide +kernel
theorem dXl_law_355 : decode cXl_law 355 = .ok (.i2l, 1) := by decide +kernel
theorem dXl_law_356 : decode cXl_law 356 = .ok (.bipush 32, 2) := by decide +kernel
theorem dXl_law_358 : decode cXl_law 358 = .ok (.lshl, 1) := by decide +kernel
theorem dXl_law_359 : decode cXl_law 359 = .ok (.aload_n 0, 1) := by decide +kernel
theorem dXl_law_360 : decode cXl_law 360 = .ok (.iload 4, 2) := by decide +kernel
theorem dXl_law_362 : decode cXl_law 362 = .ok (.iconst 2, 1) := by decide +kernel
theorem dXl_law_363 : decode cXl_law 363 = .ok (.iadd, 1) := by decide +kernel
theorem dXl_law_364 : decode cXl_law 364 = .ok (.iaload, 1) := by decide +kernel
theorem dXl_law_365 : decode cXl_law 365 = .ok (.i2l, 1) := by decide +kernel
theorem dXl_law_366 : decode cXl_law 366 = .ok (.ldc2_w 87, 3) := by decide +kernel
theorem dXl_law_369 : decode cXl_law 369 = .ok (.land, 1) := by decide +kernel
theorem dXl_law_370 : decode cXl_law 370 = .ok (.lor, 1) := by decide +kernel
theorem dXl_law_371 : decode cXl_law 371 = .ok (.aload_n 0, 1) := by decide +kernel
theorem dXl_law_372 : decode cXl_law 372 = .ok (.iload 4, 2) := by decide +kernel
theorem dXl_law_374 : decode cXl_law 374 = .ok (.iconst 3, 1) := by decide +kernel
theorem dXl_law_375 : decode cXl_law 375 = .ok (.iadd, 1) := by decide +kernel
theorem dXl_law_376 : decode cXl_law 376 = .ok (.iaload, 1) := by decide +kernel
theorem dXl_law_377 : decode cXl_law 377 = .ok (.aload_n 3, 1) := by decide +kernel
theorem dXl_law_378 : decode cXl_law 378 = .ok (.invokestatic 89, 3) := by decide +kernel
theorem dXl_law_381 : decode cXl_law 381 = .ok (.istore 5, 2) := by decide +kernel
theorem dXl_law_383 : decode cXl_law 383 = .ok (.aload_n 2, 1) := by decide +kernel
theorem dXl_law_384 : decode cXl_law 384 = .ok (.aload_n 0, 1) := by decide +kernel
theorem dXl_law_385 : decode cXl_law 385 = .ok (.iload 4, 2) := by decide +kernel
theorem dXl_law_387 : decode cXl_law 387 = .ok (.iconst 1, 1) := by decide +kernel
theorem dXl_law_388 : decode cXl_law 388 = .ok (.iadd, 1) := by decide +kernel
theorem dXl_law_389 : decode cXl_law 389 = .ok (.iaload, 1) := by decide +kernel
theorem dXl_law_390 : decode cXl_law 390 = .ok (.i2l, 1) := by decide +kernel
theorem dXl_law_391 : decode cXl_law 391 = .ok (.bipush 32, 2) := by decide +kernel
theorem dXl_law_393 : decode cXl_law 393 = .ok (.lshl, 1) := by decide +kernel
theorem dXl_law_394 : decode cXl_law 394 = .ok (.aload_n 0, 1) := by decide +kernel
theorem dXl_law_395 : decode cXl_law 395 = .ok (.iload 4, 2) := by decide +kernel
theorem dXl_law_397 : decode cXl_law 397 = .ok (.iconst 2, 1) := by decide +kernel
theorem dXl_law_398 : decode cXl_law 398 = .ok (.iadd, 1) := by decide +kernel
theorem dXl_law_399 : decode cXl_law 399 = .ok (.iaload, 1) := by decide +kernel
theorem dXl_law_400 : decode cXl_law 400 = .ok (.i2l, 1) := by decide +kernel
theorem dXl_law_401 : decode cXl_law 401 = .ok (.ldc2_w 87, 3) := by decide +kernel
theorem dXl_law_404 : decode cXl_law 404 = .ok (.land, 1) := by decide +kernel
theorem dXl_law_405 : decode cXl_law 405 = .ok (.lor, 1) := by decide +kernel
theorem dXl_law_406 : decode cXl_law 406 = .ok (.aload_n 0, 1) := by decide +kernel
theorem dXl_law_407 : decode cXl_law 407 = .ok (.iload 4, 2) := by decide +kernel
theorem dXl_law_409 : decode cXl_law 409 = .ok (.iconst 3, 1) := by decide +kernel
theorem dXl_law_410 : decode cXl_law 410 = .ok (.iadd, 1) := by decide +kernel
theorem dXl_law_411 : decode cXl_law 411 = .ok (.iaload, 1) := by decide +kernel
theorem dXl_law_412 : decode cXl_law 412 = .ok (.invokevirtual 92, 3) := by decide +kernel
theorem dXl_law_415 : decode cXl_law 415 = .ok (.istore 6, 2) := by decide +kernel
theorem dXl_law_417 : decode cXl_law 417 = .ok (.aload_n 2, 1) := by decide +kernel
theorem dXl_law_418 : decode cXl_law 418 = .ok (.invokevirtual 72, 3) := by decide +kernel
theorem dXl_law_421 : decode cXl_law 421 = .ok (.iload 5, 2) := by decide +kernel
theorem dXl_law_423 : decode cXl_law 423 = .ok (.if_icmp .eq 5, 3) := by decide +kernel
theorem dXl_law_426 : decode cXl_law 426 = .ok (.iconst 0, 1) := by decide +kernel
theorem dXl_law_427 : decode cXl_law 427 = .ok (.ireturn, 1) := by decide +kernel
theorem dXl_law_428 : decode cXl_law 428 = .ok (.iload 5, 2) := by decide +kernel
theorem dXl_law_430 : decode cXl_law 430 = .ok (.ifCond .ne 15, 3) := by decide +kernel
theorem dXl_law_433 : decode cXl_law 433 = .ok (.aload_n 3, 1) := by decide +kernel
theorem dXl_law_434 : decode cXl_law 434 = .ok (.iconst 0, 1) := by decide +kernel
theorem dXl_law_435 : decode cXl_law 435 = .ok (.laload, 1) := by decide +kernel
theorem dXl_law_436 : decode cXl_law 436 = .ok (.iload 6, 2) := by decide +kernel
theorem dXl_law_438 : decode cXl_law 438 = .ok (.i2l, 1) := by decide +kernel
theorem dXl_law_439 : decode cXl_law 439 = .ok (.lcmp, 1) := by decide +kernel
theorem dXl_law_440 : decode cXl_law 440 = .ok (.ifCond .eq 5, 3) := by decide +kernel
theorem dXl_law_443 : decode cXl_law 443 = .ok (.iconst 0, 1) := by decide +kernel
theorem dXl_law_444 : decode cXl_law 444 = .ok (.ireturn, 1) := by decide +kernel
theorem dXl_law_445 : decode cXl_law 445 = .ok (.goto 452, 3) := by decide +kernel
theorem dXl_law_448 : decode cXl_law 448 = .ok (.aload_n 1, 1) := by decide +kernel
theorem dXl_law_449 : decode cXl_law 449 = .ok (.aload_n 0, 1) := by decide +kernel
theorem dXl_law_450 : decode cXl_law 450 = .ok (.iload 4, 2) := by decide +kernel
theorem dXl_law_452 : decode cXl_law 452 = .ok (.iconst 1, 1) := by decide +kernel
theorem dXl_law_453 : decode cXl_law 453 = .ok (.iadd, 1) := by decide +kernel
theorem dXl_law_454 : decode cXl_law 454 = .ok (.iaload, 1) := by decide +kernel
theorem dXl_law_455 : decode cXl_law 455 = .ok (.invokestatic 93, 3) := by decide +kernel
theorem dXl_law_458 : decode cXl_law 458 = .ok (.istore 5, 2) := by decide +kernel
theorem dXl_law_460 : decode cXl_law 460 = .ok (.aload_n 2, 1) := by decide +kernel
theorem dXl_law_461 : decode cXl_law 461 = .ok (.aload_n 0, 1) := by decide +kernel
theorem dXl_law_462 : decode cXl_law 462 = .ok (.iload 4, 2) := by decide +kernel
theorem dXl_law_464 : decode cXl_law 464 = .ok (.iconst 1, 1) := by decide +kernel
theorem dXl_law_465 : decode cXl_law 465 = .ok (.iadd, 1) := by decide +kernel
theorem dXl_law_466 : decode cXl_law 466 = .ok (.iaload, 1) := by decide +kernel
theorem dXl_law_467 : decode cXl_law 467 = .ok (.invokevirtual 96, 3) := by decide +kernel
theorem dXl_law_470 : decode cXl_law 470 = .ok (.aload_n 2, 1) := by decide +kernel
theorem dXl_law_471 : decode cXl_law 471 = .ok (.invokevirtual 72, 3) := by decide +kernel
theorem dXl_law_474 : decode cXl_law 474 = .ok (.iload 5, 2) := by decide +kernel
theorem dXl_law_476 : decode cXl_law 476 = .ok (.if_icmp .eq 5, 3) := by decide +kernel
theorem dXl_law_479 : decode cXl_law 479 = .ok (.iconst 0, 1) := by decide +kernel
theorem dXl_law_480 : decode cXl_law 480 = .ok (.ireturn, 1) := by decide +kernel
theorem dXl_law_481 : decode cXl_law 481 = .ok (.goto 416, 3) := by decide +kernel
theorem dXl_law_484 : decode cXl_law 484 = .ok (.aload_n 1, 1) := by decide +kernel
theorem dXl_law_485 : decode cXl_law 485 = .ok (.aload_n 0, 1) := by decide +kernel
theorem dXl_law_486 : decode cXl_law 486 = .ok (.iload 4, 2) := by decide +kernel
theorem dXl_law_488 : decode cXl_law 488 = .ok (.iconst 1, 1) := by decide +kernel
theorem dXl_law_489 : decode cXl_law 489 = .ok (.iadd, 1) := by decide +kernel
theorem dXl_law_490 : decode cXl_law 490 = .ok (.iaload, 1) := by decide +kernel
theorem dXl_law_491 : decode cXl_law 491 = .ok (.invokestatic 97, 3) := by decide +kernel
theorem dXl_law_494 : decode cXl_law 494 = .ok (.istore 5, 2) := by decide +kernel
theorem dXl_law_496 : decode cXl_law 496 = .ok (.aload_n 2, 1) := by decide +kernel
theorem dXl_law_497 : decode cXl_law 497 = .ok (.aload_n 0, 1) := by decide +kernel
theorem dXl_law_498 : decode cXl_law 498 = .ok (.iload 4, 2) := by decide +kernel
theorem dXl_law_500 : decode cXl_law 500 = .ok (.iconst 1, 1) := by decide +kernel
theorem dXl_law_501 : decode cXl_law 501 = .ok (.iadd, 1) := by decide +kernel
theorem dXl_law_502 : decode cXl_law 502 = .ok (.iaload, 1) := by decide +kernel
theorem dXl_law_503 : decode cXl_law 503 = .ok (.invokevirtual 99, 3) := by decide +kernel
theorem dXl_law_506 : decode cXl_law 506 = .ok (.aload_n 2, 1) := by decide +kernel
theorem dXl_law_507 : decode cXl_law 507 = .ok (.invokevirtual 72, 3) := by decide +kernel
theorem dXl_law_510 : decode cXl_law 510 = .ok (.iload 5, 2) := by decide +kernel
theorem dXl_law_512 : decode cXl_law 512 = .ok (.if_icmp .eq 5, 3) := by decide +kernel
theorem dXl_law_515 : decode cXl_law 515 = .ok (.iconst 0, 1) := by decide +kernel
theorem dXl_law_516 : decode cXl_law 516 = .ok (.ireturn, 1) := by decide +kernel
theorem dXl_law_517 : decode cXl_law 517 = .ok (.goto 380, 3) := by decide +kernel
theorem dXl_law_520 : decode cXl_law 520 = .ok (.aload_n 1, 1) := by decide +kernel
theorem dXl_law_521 : decode cXl_law 521 = .ok (.aload_n 0, 1) := by decide +kernel
theorem dXl_law_522 : decode cXl_law 522 = .ok (.iload 4, 2) := by decide +kernel
theorem dXl_law_524 : decode cXl_law 524 = .ok (.iconst 1, 1) := by decide +kernel
theorem dXl_law_525 : decode cXl_law 525 = .ok (.iadd, 1) := by decide +kernel
theorem dXl_law_526 : decode cXl_law 526 = .ok (.iaload, 1) := by decide +kernel
theorem dXl_law_527 : decode cXl_law 527 = .ok (.invokestatic 100, 3) := by decide +kernel
theorem dXl_law_530 : decode cXl_law 530 = .ok (.istore 5, 2) := by decide +kernel
theorem dXl_law_532 : decode cXl_law 532 = .ok (.aload_n 2, 1) := by decide +kernel
theorem dXl_law_533 : decode cXl_law 533 = .ok (.aload_n 0, 1) := by decide +kernel
theorem dXl_law_534 : decode cXl_law 534 = .ok (.iload 4, 2) := by decide +kernel
theorem dXl_law_536 : decode cXl_law 536 = .ok (.iconst 1, 1) := by decide +kernel
theorem dXl_law_537 : decode cXl_law 537 = .ok (.iadd, 1) := by decide +kernel
theorem dXl_law_538 : decode cXl_law 538 = .ok (.iaload, 1) := by decide +kernel
theorem dXl_law_539 : decode cXl_law 539 = .ok (.invokevirtual 102, 3) := by decide +kernel
theorem dXl_law_542 : decode cXl_law 542 = .ok (.aload_n 2, 1) := by decide +kernel
theorem dXl_law_543 : decode cXl_law 543 = .ok (.invokevirtual 72, 3) := by decide +kernel
theorem dXl_law_546 : decode cXl_law 546 = .ok (.iload 5, 2) := by decide +kernel
theorem dXl_law_548 : decode cXl_law 548 = .ok (.if_icmp .eq 5, 3) := by decide +kernel
theorem dXl_law_551 : decode cXl_law 551 = .ok (.iconst 0, 1) := by decide +kernel
theorem dXl_law_552 : decode cXl_law 552 = .ok (.ireturn, 1) := by decide +kernel
theorem dXl_law_553 : decode cXl_law 553 = .ok (.goto 344, 3) := by decide +kernel
theorem dXl_law_556 : decode cXl_law 556 = .ok (.aload_n 1, 1) := by decide +kernel
theorem dXl_law_557 : decode cXl_law 557 = .ok (.invokevirtual 103, 3) := by decide +kernel
theorem dXl_law_560 : decode cXl_law 560 = .ok (.aload_n 2, 1) := by decide +kernel
theorem dXl_law_561 : decode cXl_law 561 = .ok (.invokevirtual 106, 3) := by decide +kernel
theorem dXl_law_564 : decode cXl_law 564 = .ok (.if_icmp .eq 333, 3) := by decide +kernel
theorem dXl_law_567 : decode cXl_law 567 = .ok (.iconst 0, 1) := by decide +kernel
theorem dXl_law_568 : decode cXl_law 568 = .ok (.ireturn, 1) := by decide +kernel
theorem dXl_law_569 : decode cXl_law 569 = .ok (.aload_n 1, 1) := by decide +kernel
theorem dXl_law_570 : decode cXl_law 570 = .ok (.aload_n 0, 1) := by decide +kernel
theorem dXl_law_571 : decode cXl_law 571 = .ok (.iload 4, 2) := by decide +kernel
theorem dXl_law_573 : decode cXl_law 573 = .ok (.iconst 1, 1) := by decide +kernel
theorem dXl_law_574 : decode cXl_law 574 = .ok (.iadd, 1) := by decide +kernel
theorem dXl_law_575 : decode cXl_law 575 = .ok (.iaload, 1) := by decide +kernel
theorem dXl_law_576 : decode cXl_law 576 = .ok (.aload_n 0, 1) := by decide +kernel
theorem dXl_law_577 : decode cXl_law 577 = .ok (.iload 4, 2) := by decide +kernel
theorem dXl_law_579 : decode cXl_law 579 = .ok (.iconst 2, 1) := by decide +kernel
theorem dXl_law_580 : decode cXl_law 580 = .ok (.iadd, 1) := by decide +kernel
theorem dXl_law_581 : decode cXl_law 581 = .ok (.iaload, 1) := by decide +kernel
theorem dXl_law_582 : decode cXl_law 582 = .ok (.aload_n 3, 1) := by decide +kernel
theorem dXl_law_583 : decode cXl_law 583 = .ok (.invokestatic 107, 3) := by decide +kernel
theorem dXl_law_586 : decode cXl_law 586 = .ok (.istore 5, 2) := by decide +kernel
theorem dXl_law_588 : decode cXl_law 588 = .ok (.aload_n 2, 1) := by decide +kernel
theorem dXl_law_589 : decode cXl_law 589 = .ok (.aload_n 0, 1) := by decide +kernel
theorem dXl_law_590 : decode cXl_law 590 = .ok (.iload 4, 2) := by decide +kernel
theorem dXl_law_592 : decode cXl_law 592 = .ok (.iconst 1, 1) := by decide +kernel
theorem dXl_law_593 : decode cXl_law 593 = .ok (.iadd, 1) := by decide +kernel
theorem dXl_law_594 : decode cXl_law 594 = .ok (.iaload, 1) := by decide +kernel
theorem dXl_law_595 : decode cXl_law 595 = .ok (.aload_n 0, 1) := by decide +kernel
theorem dXl_law_596 : decode cXl_law 596 = .ok (.iload 4, 2) := by decide +kernel
theorem dXl_law_598 : decode cXl_law 598 = .ok (.iconst 2, 1) := by decide +kernel
theorem dXl_law_599 : decode cXl_law 599 = .ok (.iadd, 1) := by decide +kernel
theorem dXl_law_600 : decode cXl_law 600 = .ok (.iaload, 1) := by decide +kernel
theorem dXl_law_601 : decode cXl_law 601 = .ok (.invokevirtual 110, 3) := by decide +kernel
theorem dXl_law_604 : decode cXl_law 604 = .ok (.istore 6, 2) := by decide +kernel
theorem dXl_law_606 : decode cXl_law 606 = .ok (.aload_n 2, 1) := by decide +kernel
theorem dXl_law_607 : decode cXl_law 607 = .ok (.invokevirtual 72, 3) := by decide +kernel
theorem dXl_law_610 : decode cXl_law 610 = .ok (.iload 5, 2) := by decide +kernel
theorem dXl_law_612 : decode cXl_law 612 = .ok (.if_icmp .eq 5, 3) := by decide +kernel
theorem dXl_law_615 : decode cXl_law 615 = .ok (.iconst 0, 1) := by decide +kernel
theorem dXl_law_616 : decode cXl_law 616 = .ok (.ireturn, 1) := by decide +kernel
theorem dXl_law_617 : decode cXl_law 617 = .ok (.iload 5, 2) := by decide +kernel
theorem dXl_law_619 : decode cXl_law 619 = .ok (.ifCond .ne 15, 3) := by decide +kernel
theorem dXl_law_622 : decode cXl_law 622 = .ok (.aload_n 3, 1) := by decide +kernel
theorem dXl_law_623 : decode cXl_law 623 = .ok (.iconst 0, 1) := by decide +kernel
theorem dXl_law_624 : decode cXl_law 624 = .ok (.laload, 1) := by decide +kernel
theorem dXl_law_625 : decode cXl_law 625 = .ok (.iload 6, 2) := by decide +kernel
theorem dXl_law_627 : decode cXl_law 627 = .ok (.i2l, 1) := by decide +kernel
theorem dXl_law_628 : decode cXl_law 628 = .ok (.lcmp, 1) := by decide +kernel
theorem dXl_law_629 : decode cXl_law 629 = .ok (.ifCond .eq 5, 3) := by decide +kernel
theorem dXl_law_632 : decode cXl_law 632 = .ok (.iconst 0, 1) := by decide +kernel
theorem dXl_law_633 : decode cXl_law 633 = .ok (.ireturn, 1) := by decide +kernel
theorem dXl_law_634 : decode cXl_law 634 = .ok (.goto 263, 3) := by decide +kernel
theorem dXl_law_637 : decode cXl_law 637 = .ok (.aload_n 1, 1) := by decide +kernel
theorem dXl_law_638 : decode cXl_law 638 = .ok (.aload_n 0, 1) := by decide +kernel
theorem dXl_law_639 : decode cXl_law 639 = .ok (.iload 4, 2) := by decide +kernel
theorem dXl_law_641 : decode cXl_law 641 = .ok (.iconst 1, 1) := by decide +kernel
theorem dXl_law_642 : decode cXl_law 642 = .ok (.iadd, 1) := by decide +kernel
theorem dXl_law_643 : decode cXl_law 643 = .ok (.iaload, 1) := by decide +kernel
theorem dXl_law_644 : decode cXl_law 644 = .ok (.aload_n 0, 1) := by decide +kernel
theorem dXl_law_645 : decode cXl_law 645 = .ok (.iload 4, 2) := by decide +kernel
theorem dXl_law_647 : decode cXl_law 647 = .ok (.iconst 2, 1) := by decide +kernel
theorem dXl_law_648 : decode cXl_law 648 = .ok (.iadd, 1) := by decide +kernel
theorem dXl_law_649 : decode cXl_law 649 = .ok (.iaload, 1) := by decide +kernel
theorem dXl_law_650 : decode cXl_law 650 = .ok (.aload_n 3, 1) := by decide +kernel
theorem dXl_law_651 : decode cXl_law 651 = .ok (.invokestatic 111, 3) := by decide +kernel
theorem dXl_law_654 : decode cXl_law 654 = .ok (.istore 5, 2) := by decide +kernel
theorem dXl_law_656 : decode cXl_law 656 = .ok (.aload_n 2, 1) := by decide +kernel
theorem dXl_law_657 : decode cXl_law 657 = .ok (.aload_n 0, 1) := by decide +kernel
theorem dXl_law_658 : decode cXl_law 658 = .ok (.iload 4, 2) := by decide +kernel
theorem dXl_law_660 : decode cXl_law 660 = .ok (.iconst 1, 1) := by decide +kernel
theorem dXl_law_661 : decode cXl_law 661 = .ok (.iadd, 1) := by decide +kernel
theorem dXl_law_662 : decode cXl_law 662 = .ok (.iaload, 1) := by decide +kernel
theorem dXl_law_663 : decode cXl_law 663 = .ok (.aload_n 0, 1) := by decide +kernel
theorem dXl_law_664 : decode cXl_law 664 = .ok (.iload 4, 2) := by decide +kernel
theorem dXl_law_666 : decode cXl_law 666 = .ok (.iconst 2, 1) := by decide +kernel
theorem dXl_law_667 : decode cXl_law 667 = .ok (.iadd, 1) := by decide +kernel
theorem dXl_law_668 : decode cXl_law 668 = .ok (.iaload, 1) := by decide +kernel
theorem dXl_law_669 : decode cXl_law 669 = .ok (.invokevirtual 113, 3) := by decide +kernel
theorem dXl_law_672 : decode cXl_law 672 = .ok (.istore 6, 2) := by decide +kernel
theorem dXl_law_674 : decode cXl_law 674 = .ok (.aload_n 2, 1) := by decide +kernel
theorem dXl_law_675 : decode cXl_law 675 = .ok (.invokevirtual 72, 3) := by decide +kernel
theorem dXl_law_678 : decode cXl_law 678 = .ok (.iload 5, 2) := by decide +kernel
theorem dXl_law_680 : decode cXl_law 680 = .ok (.if_icmp .eq 5, 3) := by decide +kernel
theorem dXl_law_683 : decode cXl_law 683 = .ok (.iconst 0, 1) := by decide +kernel
theorem dXl_law_684 : decode cXl_law 684 = .ok (.ireturn, 1) := by decide +kernel
theorem dXl_law_685 : decode cXl_law 685 = .ok (.iload 5, 2) := by decide +kernel
theorem dXl_law_687 : decode cXl_law 687 = .ok (.ifCond .ne 15, 3) := by decide +kernel
theorem dXl_law_690 : decode cXl_law 690 = .ok (.aload_n 3, 1) := by decide +kernel
theorem dXl_law_691 : decode cXl_law 691 = .ok (.iconst 0, 1) := by decide +kernel
theorem dXl_law_692 : decode cXl_law 692 = .ok (.laload, 1) := by decide +kernel
theorem dXl_law_693 : decode cXl_law 693 = .ok (.iload 6, 2) := by decide +kernel
theorem dXl_law_695 : decode cXl_law 695 = .ok (.i2l, 1) := by decide +kernel
theorem dXl_law_696 : decode cXl_law 696 = .ok (.lcmp, 1) := by decide +kernel
theorem dXl_law_697 : decode cXl_law 697 = .ok (.ifCond .eq 5, 3) := by decide +kernel
theorem dXl_law_700 : decode cXl_law 700 = .ok (.iconst 0, 1) := by decide +kernel
theorem dXl_law_701 : decode cXl_law 701 = .ok (.ireturn, 1) := by decide +kernel
theorem dXl_law_702 : decode cXl_law 702 = .ok (.goto 195, 3) := by decide +kernel
theorem dXl_law_705 : decode cXl_law 705 = .ok (.aload_n 1, 1) := by decide +kernel
theorem dXl_law_706 : decode cXl_law 706 = .ok (.aload_n 0, 1) := by decide +kernel
theorem dXl_law_707 : decode cXl_law 707 = .ok (.iload 4, 2) := by decide +kernel
theorem dXl_law_709 : decode cXl_law 709 = .ok (.iconst 1, 1) := by decide +kernel
theorem dXl_law_710 : decode cXl_law 710 = .ok (.iadd, 1) := by decide +kernel
theorem dXl_law_711 : decode cXl_law 711 = .ok (.iaload, 1) := by decide +kernel
theorem dXl_law_712 : decode cXl_law 712 = .ok (.aload_n 0, 1) := by decide +kernel
theorem dXl_law_713 : decode cXl_law 713 = .ok (.iload 4, 2) := by decide +kernel
theorem dXl_law_715 : decode cXl_law 715 = .ok (.iconst 2, 1) := by decide +kernel
theorem dXl_law_716 : decode cXl_law 716 = .ok (.iadd, 1) := by decide +kernel
theorem dXl_law_717 : decode cXl_law 717 = .ok (.iaload, 1) := by decide +kernel
theorem dXl_law_718 : decode cXl_law 718 = .ok (.aload_n 3, 1) := by decide +kernel
theorem dXl_law_719 : decode cXl_law 719 = .ok (.invokestatic 114, 3) := by decide +kernel
theorem dXl_law_722 : decode cXl_law 722 = .ok (.istore 5, 2) := by decide +kernel
theorem dXl_law_724 : decode cXl_law 724 = .ok (.aload_n 2, 1) := by decide +kernel
theorem dXl_law_725 : decode cXl_law 725 = .ok (.aload_n 0, 1) := by decide +kernel
theorem dXl_law_726 : decode cXl_law 726 = .ok (.iload 4, 2) := by decide +kernel
theorem dXl_law_728 : decode cXl_law 728 = .ok (.iconst 1, 1) := by decide +kernel
theorem dXl_law_729 : decode cXl_law 729 = .ok (.iadd, 1) := by decide +kernel
theorem dXl_law_730 : decode cXl_law 730 = .ok (.iaload, 1) := by decide +kernel
theorem dXl_law_731 : decode cXl_law 731 = .ok (.aload_n 0, 1) := by decide +kernel
theorem dXl_law_732 : decode cXl_law 732 = .ok (.iload 4, 2) := by decide +kernel
theorem dXl_law_734 : decode cXl_law 734 = .ok (.iconst 2, 1) := by decide +kernel
theorem dXl_law_735 : decode cXl_law 735 = .ok (.iadd, 1) := by decide +kernel
theorem dXl_law_736 : decode cXl_law 736 = .ok (.iaload, 1) := by decide +kernel
theorem dXl_law_737 : decode cXl_law 737 = .ok (.invokevirtual 116, 3) := by decide +kernel
theorem dXl_law_740 : decode cXl_law 740 = .ok (.istore 6, 2) := by decide +kernel
theorem dXl_law_742 : decode cXl_law 742 = .ok (.aload_n 2, 1) := by decide +kernel
theorem dXl_law_743 : decode cXl_law 743 = .ok (.invokevirtual 72, 3) := by decide +kernel
theorem dXl_law_746 : decode cXl_law 746 = .ok (.iload 5, 2) := by decide +kernel
theorem dXl_law_748 : decode cXl_law 748 = .ok (.if_icmp .eq 5, 3) := by decide +kernel
theorem dXl_law_751 : decode cXl_law 751 = .ok (.iconst 0, 1) := by decide +kernel
theorem dXl_law_752 : decode cXl_law 752 = .ok (.ireturn, 1) := by decide +kernel
theorem dXl_law_753 : decode cXl_law 753 = .ok (.iload 5, 2) := by decide +kernel
theorem dXl_law_755 : decode cXl_law 755 = .ok (.ifCond .ne 15, 3) := by decide +kernel
theorem dXl_law_758 : decode cXl_law 758 = .ok (.aload_n 3, 1) := by decide +kernel
theorem dXl_law_759 : decode cXl_law 759 = .ok (.iconst 0, 1) := by decide +kernel
theorem dXl_law_760 : decode cXl_law 760 = .ok (.laload, 1) := by decide +kernel
theorem dXl_law_761 : decode cXl_law 761 = .ok (.iload 6, 2) := by decide +kernel
theorem dXl_law_763 : decode cXl_law 763 = .ok (.i2l, 1) := by decide +kernel
theorem dXl_law_764 : decode cXl_law 764 = .ok (.lcmp, 1) := by decide +kernel
theorem dXl_law_765 : decode cXl_law 765 = .ok (.ifCond .eq 5, 3) := by decide +kernel
theorem dXl_law_768 : decode cXl_law 768 = .ok (.iconst 0, 1) := by decide +kernel
theorem dXl_law_769 : decode cXl_law 769 = .ok (.ireturn, 1) := by decide +kernel
theorem dXl_law_770 : decode cXl_law 770 = .ok (.goto 127, 3) := by decide +kernel
theorem dXl_law_773 : decode cXl_law 773 = .ok (.aload_n 1, 1) := by decide +kernel
theorem dXl_law_774 : decode cXl_law 774 = .ok (.aload_n 0, 1) := by decide +kernel
theorem dXl_law_775 : decode cXl_law 775 = .ok (.iload 4, 2) := by decide +kernel
theorem dXl_law_777 : decode cXl_law 777 = .ok (.iconst 1, 1) := by decide +kernel
theorem dXl_law_778 : decode cXl_law 778 = .ok (.iadd, 1) := by decide +kernel
theorem dXl_law_779 : decode cXl_law 779 = .ok (.iaload, 1) := by decide +kernel
theorem dXl_law_780 : decode cXl_law 780 = .ok (.aload_n 0, 1) := by decide +kernel
theorem dXl_law_781 : decode cXl_law 781 = .ok (.iload 4, 2) := by decide +kernel
theorem dXl_law_783 : decode cXl_law 783 = .ok (.iconst 2, 1) := by decide +kernel
theorem dXl_law_784 : decode cXl_law 784 = .ok (.iadd, 1) := by decide +kernel
theorem dXl_law_785 : decode cXl_law 785 = .ok (.iaload, 1) := by decide +kernel
theorem dXl_law_786 : decode cXl_law 786 = .ok (.aload_n 3, 1) := by decide +kernel
theorem dXl_law_787 : decode cXl_law 787 = .ok (.invokestatic 117, 3) := by decide +kernel
theorem dXl_law_790 : decode cXl_law 790 = .ok (.istore 5, 2) := by decide +kernel
theorem dXl_law_792 : decode cXl_law 792 = .ok (.aload_n 2, 1) := by decide +kernel
theorem dXl_law_793 : decode cXl_law 793 = .ok (.aload_n 0, 1) := by decide +kernel
theorem dXl_law_794 : decode cXl_law 794 = .ok (.iload 4, 2) := by decide +kernel
theorem dXl_law_796 : decode cXl_law 796 = .ok (.iconst 1, 1) := by decide +kernel
theorem dXl_law_797 : decode cXl_law 797 = .ok (.iadd, 1) := by decide +kernel
theorem dXl_law_798 : decode cXl_law 798 = .ok (.iaload, 1) := by decide +kernel
theorem dXl_law_799 : decode cXl_law 799 = .ok (.aload_n 0, 1) := by decide +kernel
theorem dXl_law_800 : decode cXl_law 800 = .ok (.iload 4, 2) := by decide +kernel
theorem dXl_law_802 : decode cXl_law 802 = .ok (.iconst 2, 1) := by decide +kernel
theorem dXl_law_803 : decode cXl_law 803 = .ok (.iadd, 1) := by decide +kernel
theorem dXl_law_804 : decode cXl_law 804 = .ok (.iaload, 1) := by decide +kernel
theorem dXl_law_805 : decode cXl_law 805 = .ok (.invokevirtual 119, 3) := by decide +kernel
theorem dXl_law_808 : decode cXl_law 808 = .ok (.istore 6, 2) := by decide +kernel
theorem dXl_law_810 : decode cXl_law 810 = .ok (.aload_n 2, 1) := by decide +kernel
theorem dXl_law_811 : decode cXl_law 811 = .ok (.invokevirtual 72, 3) := by decide +kernel
theorem dXl_law_814 : decode cXl_law 814 = .ok (.iload 5, 2) := by decide +kernel
theorem dXl_law_816 : decode cXl_law 816 = .ok (.if_icmp .eq 5, 3) := by decide +kernel
theorem dXl_law_819 : decode cXl_law 819 = .ok (.iconst 0, 1) := by decide +kernel
theorem dXl_law_820 : decode cXl_law 820 = .ok (.ireturn, 1) := by decide +kernel
theorem dXl_law_821 : decode cXl_law 821 = .ok (.iload 5, 2) := by decide +kernel
theorem dXl_law_823 : decode cXl_law 823 = .ok (.ifCond .ne 15, 3) := by decide +kernel
theorem dXl_law_826 : decode cXl_law 826 = .ok (.aload_n 3, 1) := by decide +kernel
theorem dXl_law_827 : decode cXl_law 827 = .ok (.iconst 0, 1) := by decide +kernel
theorem dXl_law_828 : decode cXl_law 828 = .ok (.laload, 1) := by decide +kernel
theorem dXl_law_829 : decode cXl_law 829 = .ok (.iload 6, 2) := by decide +kernel
theorem dXl_law_831 : decode cXl_law 831 = .ok (.i2l, 1) := by decide +kernel
theorem dXl_law_832 : decode cXl_law 832 = .ok (.lcmp, 1) := by decide +kernel
theorem dXl_law_833 : decode cXl_law 833 = .ok (.ifCond .eq 5, 3) := by decide +kernel
theorem dXl_law_836 : decode cXl_law 836 = .ok (.iconst 0, 1) := by decide +kernel
theorem dXl_law_837 : decode cXl_law 837 = .ok (.ireturn, 1) := by decide +kernel
theorem dXl_law_838 : decode cXl_law 838 = .ok (.goto 59, 3) := by decide +kernel
theorem dXl_law_841 : decode cXl_law 841 = .ok (.aload_n 1, 1) := by decide +kernel
theorem dXl_law_842 : decode cXl_law 842 = .ok (.aload_n 0, 1) := by decide +kernel
theorem dXl_law_843 : decode cXl_law 843 = .ok (.iload 4, 2) := by decide +kernel
theorem dXl_law_845 : decode cXl_law 845 = .ok (.iconst 1, 1) := by decide +kernel
theorem dXl_law_846 : decode cXl_law 846 = .ok (.iadd, 1) := by decide +kernel
theorem dXl_law_847 : decode cXl_law 847 = .ok (.iaload, 1) := by decide +kernel
theorem dXl_law_848 : decode cXl_law 848 = .ok (.aload_n 3, 1) := by decide +kernel
theorem dXl_law_849 : decode cXl_law 849 = .ok (.invokestatic 120, 3) := by decide +kernel
theorem dXl_law_852 : decode cXl_law 852 = .ok (.istore 5, 2) := by decide +kernel
theorem dXl_law_854 : decode cXl_law 854 = .ok (.aload_n 2, 1) := by decide +kernel
theorem dXl_law_855 : decode cXl_law 855 = .ok (.aload_n 0, 1) := by decide +kernel
theorem dXl_law_856 : decode cXl_law 856 = .ok (.iload 4, 2) := by decide +kernel
theorem dXl_law_858 : decode cXl_law 858 = .ok (.iconst 1, 1) := by decide +kernel
theorem dXl_law_859 : decode cXl_law 859 = .ok (.iadd, 1) := by decide +kernel
theorem dXl_law_860 : decode cXl_law 860 = .ok (.iaload, 1) := by decide +kernel
theorem dXl_law_861 : decode cXl_law 861 = .ok (.invokevirtual 122, 3) := by decide +kernel
theorem dXl_law_864 : decode cXl_law 864 = .ok (.istore 6, 2) := by decide +kernel
theorem dXl_law_866 : decode cXl_law 866 = .ok (.aload_n 2, 1) := by decide +kernel
theorem dXl_law_867 : decode cXl_law 867 = .ok (.invokevirtual 72, 3) := by decide +kernel
theorem dXl_law_870 : decode cXl_law 870 = .ok (.iload 5, 2) := by decide +kernel
theorem dXl_law_872 : decode cXl_law 872 = .ok (.if_icmp .eq 5, 3) := by decide +kernel
theorem dXl_law_875 : decode cXl_law 875 = .ok (.iconst 0, 1) := by decide +kernel
theorem dXl_law_876 : decode cXl_law 876 = .ok (.ireturn, 1) := by decide +kernel
theorem dXl_law_877 : decode cXl_law 877 = .ok (.iload 5, 2) := by decide +kernel
theorem dXl_law_879 : decode cXl_law 879 = .ok (.ifCond .ne 15, 3) := by decide +kernel
theorem dXl_law_882 : decode cXl_law 882 = .ok (.aload_n 3, 1) := by decide +kernel
theorem dXl_law_883 : decode cXl_law 883 = .ok (.iconst 0, 1) := by decide +kernel
theorem dXl_law_884 : decode cXl_law 884 = .ok (.laload, 1) := by decide +kernel
theorem dXl_law_885 : decode cXl_law 885 = .ok (.iload 6, 2) := by decide +kernel
theorem dXl_law_887 : decode cXl_law 887 = .ok (.i2l, 1) := by decide +kernel
theorem dXl_law_888 : decode cXl_law 888 = .ok (.lcmp, 1) := by decide +kernel
theorem dXl_law_889 : decode cXl_law 889 = .ok (.ifCond .eq 5, 3) := by decide +kernel
theorem dXl_law_892 : decode cXl_law 892 = .ok (.iconst 0, 1) := by decide +kernel
theorem dXl_law_893 : decode cXl_law 893 = .ok (.ireturn, 1) := by decide +kernel
theorem dXl_law_894 : decode cXl_law 894 = .ok (.goto 3, 3) := by decide +kernel
theorem dXl_law_897 : decode cXl_law 897 = .ok (.iinc 4 4, 3) := by decide +kernel
theorem dXl_law_900 : decode cXl_law 900 = .ok (.goto (-877), 3) := by decide +kernel
theorem dXl_law_903 : decode cXl_law 903 = .ok (.iconst 1, 1) := by decide +kernel
theorem dXl_law_904 : decode cXl_law 904 = .ok (.ireturn, 1) := by decide +kernel
