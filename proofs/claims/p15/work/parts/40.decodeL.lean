theorem dXl_act_0 : decode cXl_act 0 = .ok (.aload 4, 2) := by decide +kernel
theorem dXl_act_2 : decode cXl_act 2 = .ok (.iconst 0, 1) := by decide +kernel
theorem dXl_act_3 : decode cXl_act 3 = .ok (.aload_n 0, 1) := by decide +kernel
theorem dXl_act_4 : decode cXl_act 4 = .ok (.iload_n 1, 1) := by decide +kernel
theorem dXl_act_5 : decode cXl_act 5 = .ok (.iload_n 2, 1) := by decide +kernel
theorem dXl_act_6 : decode cXl_act 6 = .ok (.iload_n 3, 1) := by decide +kernel
theorem dXl_act_7 : decode cXl_act 7 = .ok (.invokevirtual 7, 3) := by decide +kernel
theorem dXl_act_10 : decode cXl_act 10 = .ok (.i2l, 1) := by decide +kernel
theorem dXl_act_11 : decode cXl_act 11 = .ok (.lastore, 1) := by decide +kernel
theorem dXl_act_12 : decode cXl_act 12 = .ok (.goto 19, 3) := by decide +kernel
theorem dXl_act_15 : decode cXl_act 15 = .ok (.astore 5, 2) := by decide +kernel
theorem dXl_act_17 : decode cXl_act 17 = .ok (.iconst 1, 1) := by decide +kernel
theorem dXl_act_18 : decode cXl_act 18 = .ok (.ireturn, 1) := by decide +kernel
theorem dXl_act_19 : decode cXl_act 19 = .ok (.astore 5, 2) := by decide +kernel
theorem dXl_act_21 : decode cXl_act 21 = .ok (.iconst 2, 1) := by decide +kernel
theorem dXl_act_22 : decode cXl_act 22 = .ok (.ireturn, 1) := by decide +kernel
theorem dXl_act_23 : decode cXl_act 23 = .ok (.astore 5, 2) := by decide +kernel
theorem dXl_act_25 : decode cXl_act 25 = .ok (.iconst 3, 1) := by decide +kernel
theorem dXl_act_26 : decode cXl_act 26 = .ok (.ireturn, 1) := by decide +kernel
theorem dXl_act_27 : decode cXl_act 27 = .ok (.astore 5, 2) := by decide +kernel
theorem dXl_act_29 : decode cXl_act 29 = .ok (.iconst 4, 1) := by decide +kernel
theorem dXl_act_30 : decode cXl_act 30 = .ok (.ireturn, 1) := by decide +kernel
theorem dXl_act_31 : decode cXl_act 31 = .ok (.iconst 0, 1) := by decide +kernel
theorem dXl_act_32 : decode cXl_act 32 = .ok (.ireturn, 1) := by decide +kernel
theorem dXl_finish_0 : decode cXl_finish 0 = .ok (.aload_n 0, 1) := by decide +kernel
theorem dXl_finish_1 : decode cXl_finish 1 = .ok (.iload_n 1, 1) := by decide +kernel
theorem dXl_finish_2 : decode cXl_finish 2 = .ok (.iload_n 2, 1) := by decide +kernel
theorem dXl_finish_3 : decode cXl_finish 3 = .ok (.invokevirtual 21, 3) := by decide +kernel
theorem dXl_finish_6 : decode cXl_finish 6 = .ok (.goto 12, 3) := by decide +kernel
theorem dXl_finish_9 : decode cXl_finish 9 = .ok (.astore_n 3, 1) := by decide +kernel
theorem dXl_finish_10 : decode cXl_finish 10 = .ok (.iconst 1, 1) := by decide +kernel
theorem dXl_finish_11 : decode cXl_finish 11 = .ok (.ireturn, 1) := by decide +kernel
theorem dXl_finish_12 : decode cXl_finish 12 = .ok (.astore_n 3, 1) := by decide +kernel
theorem dXl_finish_13 : decode cXl_finish 13 = .ok (.iconst 2, 1) := by decide +kernel
theorem dXl_finish_14 : decode cXl_finish 14 = .ok (.ireturn, 1) := by decide +kernel
theorem dXl_finish_15 : decode cXl_finish 15 = .ok (.astore_n 3, 1) := by decide +kernel
theorem dXl_finish_16 : decode cXl_finish 16 = .ok (.iconst 3, 1) := by decide +kernel
theorem dXl_finish_17 : decode cXl_finish 17 = .ok (.ireturn, 1) := by decide +kernel
theorem dXl_finish_18 : decode cXl_finish 18 = .ok (.iconst 0, 1) := by decide +kernel
theorem dXl_finish_19 : decode cXl_finish 19 = .ok (.ireturn, 1) := by decide +kernel
theorem dXl_call_0 : decode cXl_call 0 = .ok (.aload_n 2, 1) := by decide +kernel
theorem dXl_call_1 : decode cXl_call 1 = .ok (.iconst 0, 1) := by decide +kernel
theorem dXl_call_2 : decode cXl_call 2 = .ok (.aload_n 0, 1) := by decide +kernel
theorem dXl_call_3 : decode cXl_call 3 = .ok (.iload_n 1, 1) := by decide +kernel
theorem dXl_call_4 : decode cXl_call 4 = .ok (.invokevirtual 25, 3) := by decide +kernel
theorem dXl_call_7 : decode cXl_call 7 = .ok (.i2l, 1) := by decide +kernel
theorem dXl_call_8 : decode cXl_call 8 = .ok (.lastore, 1) := by decide +kernel
theorem dXl_call_9 : decode cXl_call 9 = .ok (.goto 9, 3) := by decide +kernel
theorem dXl_call_12 : decode cXl_call 12 = .ok (.astore_n 3, 1) := by decide +kernel
theorem dXl_call_13 : decode cXl_call 13 = .ok (.iconst 1, 1) := by decide +kernel
theorem dXl_call_14 : decode cXl_call 14 = .ok (.ireturn, 1) := by decide +kernel
theorem dXl_call_15 : decode cXl_call 15 = .ok (.astore_n 3, 1) := by decide +kernel
theorem dXl_call_16 : decode cXl_call 16 = .ok (.iconst 2, 1) := by decide +kernel
theorem dXl_call_17 : decode cXl_call 17 = .ok (.ireturn, 1) := by decide +kernel
theorem dXl_call_18 : decode cXl_call 18 = .ok (.iconst 0, 1) := by decide +kernel
theorem dXl_call_19 : decode cXl_call 19 = .ok (.ireturn, 1) := by decide +kernel
theorem dXl_step_0 : decode cXl_step 0 = .ok (.aload_n 2, 1) := by decide +kernel
theorem dXl_step_1 : decode cXl_step 1 = .ok (.iconst 0, 1) := by decide +kernel
theorem dXl_step_2 : decode cXl_step 2 = .ok (.aload_n 0, 1) := by decide +kernel
theorem dXl_step_3 : decode cXl_step 3 = .ok (.iload_n 1, 1) := by decide +kernel
theorem dXl_step_4 : decode cXl_step 4 = .ok (.invokevirtual 29, 3) := by decide +kernel
theorem dXl_step_7 : decode cXl_step 7 = .ok (.i2l, 1) := by decide +kernel
theorem dXl_step_8 : decode cXl_step 8 = .ok (.lastore, 1) := by decide +kernel
theorem dXl_step_9 : decode cXl_step 9 = .ok (.goto 9, 3) := by decide +kernel
theorem dXl_step_12 : decode cXl_step 12 = .ok (.astore_n 3, 1) := by decide +kernel
theorem dXl_step_13 : decode cXl_step 13 = .ok (.iconst 1, 1) := by decide +kernel
theorem dXl_step_14 : decode cXl_step 14 = .ok (.ireturn, 1) := by decide +kernel
theorem dXl_step_15 : decode cXl_step 15 = .ok (.astore_n 3, 1) := by decide +kernel
theorem dXl_step_16 : decode cXl_step 16 = .ok (.iconst 2, 1) := by decide +kernel
theorem dXl_step_17 : decode cXl_step 17 = .ok (.ireturn, 1) := by decide +kernel
theorem dXl_step_18 : decode cXl_step 18 = .ok (.iconst 0, 1) := by decide +kernel
theorem dXl_step_19 : decode cXl_step 19 = .ok (.ireturn, 1) := by decide +kernel
theorem dXl_run_0 : decode cXl_run 0 = .ok (.aload 4, 2) := by decide +kernel
theorem dXl_run_2 : decode cXl_run 2 = .ok (.iconst 0, 1) := by decide +kernel
theorem dXl_run_3 : decode cXl_run 3 = .ok (.aload_n 0, 1) := by decide +kernel
theorem dXl_run_4 : decode cXl_run 4 = .ok (.lload_n 1, 1) := by decide +kernel
theorem dXl_run_5 : decode cXl_run 5 = .ok (.iload_n 3, 1) := by decide +kernel
theorem dXl_run_6 : decode cXl_run 6 = .ok (.invokevirtual 32, 3) := by decide +kernel
theorem dXl_run_9 : decode cXl_run 9 = .ok (.i2l, 1) := by decide +kernel
theorem dXl_run_10 : decode cXl_run 10 = .ok (.lastore, 1) := by decide +kernel
theorem dXl_run_11 : decode cXl_run 11 = .ok (.goto 7, 3) := by decide +kernel
theorem dXl_run_14 : decode cXl_run 14 = .ok (.astore 5, 2) := by decide +kernel
theorem dXl_run_16 : decode cXl_run 16 = .ok (.iconst 1, 1) := by decide +kernel
theorem dXl_run_17 : decode cXl_run 17 = .ok (.ireturn, 1) := by decide +kernel
theorem dXl_run_18 : decode cXl_run 18 = .ok (.iconst 0, 1) := by decide +kernel
theorem dXl_run_19 : decode cXl_run 19 = .ok (.ireturn, 1) := by decide +kernel
theorem dXl_kill_0 : decode cXl_kill 0 = .ok (.aload_n 0, 1) := by decide +kernel
theorem dXl_kill_1 : decode cXl_kill 1 = .ok (.iload_n 1, 1) := by decide +kernel
theorem dXl_kill_2 : decode cXl_kill 2 = .ok (.invokevirtual 36, 3) := by decide +kernel
theorem dXl_kill_5 : decode cXl_kill 5 = .ok (.goto 9, 3) := by decide +kernel
theorem dXl_kill_8 : decode cXl_kill 8 = .ok (.astore_n 2, 1) := by decide +kernel
theorem dXl_kill_9 : decode cXl_kill 9 = .ok (.iconst 1, 1) := by decide +kernel
theorem dXl_kill_10 : decode cXl_kill 10 = .ok (.ireturn, 1) := by decide +kernel
theorem dXl_kill_11 : decode cXl_kill 11 = .ok (.astore_n 2, 1) := by decide +kernel
theorem dXl_kill_12 : decode cXl_kill 12 = .ok (.iconst 2, 1) := by decide +kernel
theorem dXl_kill_13 : decode cXl_kill 13 = .ok (.ireturn, 1) := by decide +kernel
theorem dXl_kill_14 : decode cXl_kill 14 = .ok (.iconst 0, 1) := by decide +kernel
theorem dXl_kill_15 : decode cXl_kill 15 = .ok (.ireturn, 1) := by decide +kernel
theorem dXl_restart_0 : decode cXl_restart 0 = .ok (.aload_n 0, 1) := by decide +kernel
theorem dXl_restart_1 : decode cXl_restart 1 = .ok (.iload_n 1, 1) := by decide +kernel
theorem dXl_restart_2 : decode cXl_restart 2 = .ok (.invokevirtual 40, 3) := by decide +kernel
theorem dXl_restart_5 : decode cXl_restart 5 = .ok (.goto 9, 3) := by decide +kernel
theorem dXl_restart_8 : decode cXl_restart 8 = .ok (.astore_n 2, 1) := by decide +kernel
theorem dXl_restart_9 : decode cXl_restart 9 = .ok (.iconst 1, 1) := by decide +kernel
theorem dXl_restart_10 : decode cXl_restart 10 = .ok (.ireturn, 1) := by decide +kernel
theorem dXl_restart_11 : decode cXl_restart 11 = .ok (.astore_n 2, 1) := by decide +kernel
theorem dXl_restart_12 : decode cXl_restart 12 = .ok (.iconst 2, 1) := by decide +kernel
theorem dXl_restart_13 : decode cXl_restart 13 = .ok (.ireturn, 1) := by decide +kernel
theorem dXl_restart_14 : decode cXl_restart 14 = .ok (.iconst 0, 1) := by decide +kernel
theorem dXl_restart_15 : decode cXl_restart 15 = .ok (.ireturn, 1) := by decide +kernel
theorem dXl_lease_0 : decode cXl_lease 0 = .ok (.aload_n 0, 1) := by decide +kernel
theorem dXl_lease_1 : decode cXl_lease 1 = .ok (.iload_n 1, 1) := by decide +kernel
theorem dXl_lease_2 : decode cXl_lease 2 = .ok (.invokevirtual 43, 3) := by decide +kernel
theorem dXl_lease_5 : decode cXl_lease 5 = .ok (.goto 6, 3) := by decide +kernel
theorem dXl_lease_8 : decode cXl_lease 8 = .ok (.astore_n 2, 1) := by decide +kernel
theorem dXl_lease_9 : decode cXl_lease 9 = .ok (.iconst 1, 1) := by decide +kernel
theorem dXl_lease_10 : decode cXl_lease 10 = .ok (.ireturn, 1) := by decide +kernel
theorem dXl_lease_11 : decode cXl_lease 11 = .ok (.iconst 0, 1) := by decide +kernel
theorem dXl_lease_12 : decode cXl_lease 12 = .ok (.ireturn, 1) := by decide +kernel
theorem dXl_unit_0 : decode cXl_unit 0 = .ok (.aload_n 3, 1) := by decide +kernel
theorem dXl_unit_1 : decode cXl_unit 1 = .ok (.iconst 0, 1) := by decide +kernel
theorem dXl_unit_2 : decode cXl_unit 2 = .ok (.aload_n 0, 1) := by decide +kernel
theorem dXl_unit_3 : decode cXl_unit 3 = .ok (.iload_n 1, 1) := by decide +kernel
theorem dXl_unit_4 : decode cXl_unit 4 = .ok (.iload_n 2, 1) := by decide +kernel
theorem dXl_unit_5 : decode cXl_unit 5 = .ok (.invokevirtual 46, 3) := by decide +kernel
theorem dXl_unit_8 : decode cXl_unit 8 = .ok (.i2l, 1) := by decide +kernel
theorem dXl_unit_9 : decode cXl_unit 9 = .ok (.lastore, 1) := by decide +kernel
theorem dXl_unit_10 : decode cXl_unit 10 = .ok (.goto 7, 3) := by decide +kernel
theorem dXl_unit_13 : decode cXl_unit 13 = .ok (.astore 4, 2) := by decide +kernel
theorem dXl_unit_15 : decode cXl_unit 15 = .ok (.iconst 1, 1) := by decide +kernel
theorem dXl_unit_16 : decode cXl_unit 16 = .ok (.ireturn, 1) := by decide +kernel
theorem dXl_unit_17 : decode cXl_unit 17 = .ok (.iconst 0, 1) := by decide +kernel
theorem dXl_unit_18 : decode cXl_unit 18 = .ok (.ireturn, 1) := by decide +kernel
theorem dXl_callAt_0 : decode cXl_callAt 0 = .ok (.aload_n 3, 1) := by decide +kernel
theorem dXl_callAt_1 : decode cXl_callAt 1 = .ok (.iconst 0, 1) := by decide +kernel
theorem dXl_callAt_2 : decode cXl_callAt 2 = .ok (.aload_n 0, 1) := by decide +kernel
theorem dXl_callAt_3 : decode cXl_callAt 3 = .ok (.iload_n 1, 1) := by decide +kernel
theorem dXl_callAt_4 : decode cXl_callAt 4 = .ok (.iload_n 2, 1) := by decide +kernel
theorem dXl_callAt_5 : decode cXl_callAt 5 = .ok (.invokevirtual 50, 3) := by decide +kernel
theorem dXl_callAt_8 : decode cXl_callAt 8 = .ok (.i2l, 1) := by decide +kernel
theorem dXl_callAt_9 : decode cXl_callAt 9 = .ok (.lastore, 1) := by decide +kernel
theorem dXl_callAt_10 : decode cXl_callAt 10 = .ok (.goto 7, 3) := by decide +kernel
theorem dXl_callAt_13 : decode cXl_callAt 13 = .ok (.astore 4, 2) := by decide +kernel
theorem dXl_callAt_15 : decode cXl_callAt 15 = .ok (.iconst 1, 1) := by decide +kernel
theorem dXl_callAt_16 : decode cXl_callAt 16 = .ok (.ireturn, 1) := by decide +kernel
theorem dXl_callAt_17 : decode cXl_callAt 17 = .ok (.iconst 0, 1) := by decide +kernel
theorem dXl_callAt_18 : decode cXl_callAt 18 = .ok (.ireturn, 1) := by decide +kernel
theorem dXl_thread_0 : decode cXl_thread 0 = .ok (.aload_n 3, 1) := by decide +kernel
theorem dXl_thread_1 : decode cXl_thread 1 = .ok (.iconst 0, 1) := by decide +kernel
theorem dXl_thread_2 : decode cXl_thread 2 = .ok (.aload_n 0, 1) := by decide +kernel
theorem dXl_thread_3 : decode cXl_thread 3 = .ok (.iload_n 1, 1) := by decide +kernel
theorem dXl_thread_4 : decode cXl_thread 4 = .ok (.iload_n 2, 1) := by decide +kernel
theorem dXl_thread_5 : decode cXl_thread 5 = .ok (.invokevirtual 53, 3) := by decide +kernel
theorem dXl_thread_8 : decode cXl_thread 8 = .ok (.i2l, 1) := by decide +kernel
theorem dXl_thread_9 : decode cXl_thread 9 = .ok (.lastore, 1) := by decide +kernel
theorem dXl_thread_10 : decode cXl_thread 10 = .ok (.goto 7, 3) := by decide +kernel
theorem dXl_thread_13 : decode cXl_thread 13 = .ok (.astore 4, 2) := by decide +kernel
theorem dXl_thread_15 : decode cXl_thread 15 = .ok (.iconst 1, 1) := by decide +kernel
theorem dXl_thread_16 : decode cXl_thread 16 = .ok (.ireturn, 1) := by decide +kernel
theorem dXl_thread_17 : decode cXl_thread 17 = .ok (.iconst 0, 1) := by decide +kernel
theorem dXl_thread_18 : decode cXl_thread 18 = .ok (.ireturn, 1) := by decide +kernel
theorem dXl_row_0 : decode cXl_row 0 = .ok (.aload_n 3, 1) := by decide +kernel
theorem dXl_row_1 : decode cXl_row 1 = .ok (.iconst 0, 1) := by decide +kernel
theorem dXl_row_2 : decode cXl_row 2 = .ok (.aload_n 0, 1) := by decide +kernel
theorem dXl_row_3 : decode cXl_row 3 = .ok (.iload_n 1, 1) := by decide +kernel
theorem dXl_row_4 : decode cXl_row 4 = .ok (.iload_n 2, 1) := by decide +kernel
theorem dXl_row_5 : decode cXl_row 5 = .ok (.invokevirtual 56, 3) := by decide +kernel
theorem dXl_row_8 : decode cXl_row 8 = .ok (.i2l, 1) := by decide +kernel
theorem dXl_row_9 : decode cXl_row 9 = .ok (.lastore, 1) := by decide +kernel
theorem dXl_row_10 : decode cXl_row 10 = .ok (.goto 7, 3) := by decide +kernel
theorem dXl_row_13 : decode cXl_row 13 = .ok (.astore 4, 2) := by decide +kernel
theorem dXl_row_15 : decode cXl_row 15 = .ok (.iconst 1, 1) := by decide +kernel
theorem dXl_row_16 : decode cXl_row 16 = .ok (.ireturn, 1) := by decide +kernel
theorem dXl_row_17 : decode cXl_row 17 = .ok (.iconst 0, 1) := by decide +kernel
theorem dXl_row_18 : decode cXl_row 18 = .ok (.ireturn, 1) := by decide +kernel
theorem dXl_count_0 : decode cXl_count 0 = .ok (.aload_n 2, 1) := by decide +kernel
theorem dXl_count_1 : decode cXl_count 1 = .ok (.iconst 0, 1) := by decide +kernel
theorem dXl_count_2 : decode cXl_count 2 = .ok (.aload_n 0, 1) := by decide +kernel
theorem dXl_count_3 : decode cXl_count 3 = .ok (.iload_n 1, 1) := by decide +kernel
theorem dXl_count_4 : decode cXl_count 4 = .ok (.invokevirtual 59, 3) := by decide +kernel
theorem dXl_count_7 : decode cXl_count 7 = .ok (.i2l, 1) := by decide +kernel
theorem dXl_count_8 : decode cXl_count 8 = .ok (.lastore, 1) := by decide +kernel
theorem dXl_count_9 : decode cXl_count 9 = .ok (.goto 6, 3) := by decide +kernel
theorem dXl_count_12 : decode cXl_count 12 = .ok (.astore_n 3, 1) := by decide +kernel
theorem dXl_count_13 : decode cXl_count 13 = .ok (.iconst 1, 1) := by decide +kernel
theorem dXl_count_14 : decode cXl_count 14 = .ok (.ireturn, 1) := by decide +kernel
theorem dXl_count_15 : decode cXl_count 15 = .ok (.iconst 0, 1) := by decide +kernel
theorem dXl_count_16 : decode cXl_count 16 = .ok (.ireturn, 1) := by decide +kernel
theorem dXl_law_0 : decode cXl_law 0 = .ok (.new 8, 3) := by decide +kernel
theorem dXl_law_3 : decode cXl_law 3 = .ok (.dup, 1) := by decide +kernel
theorem dXl_law_4 : decode cXl_law 4 = .ok (.invokespecial 62, 3) := by decide +kernel
theorem dXl_law_7 : decode cXl_law 7 = .ok (.astore_n 1, 1) := by decide +kernel
theorem dXl_law_8 : decode cXl_law 8 = .ok (.new 63, 3) := by decide +kernel
theorem dXl_law_11 : decode cXl_law 11 = .ok (.dup, 1) := by decide +kernel
theorem dXl_law_12 : decode cXl_law 12 = .ok (.invokespecial 65, 3) := by decide +kernel
theorem dXl_law_15 : decode cXl_law 15 = .ok (.astore_n 2, 1) := by decide +kernel
theorem dXl_law_16 : decode cXl_law 16 = .ok (.iconst 1, 1) := by decide +kernel
theorem dXl_law_17 : decode cXl_law 17 = .ok (.newarray .long, 2) := by decide +kernel
theorem dXl_law_19 : decode cXl_law 19 = .ok (.astore_n 3, 1) := by decide +kernel
theorem dXl_law_20 : decode cXl_law 20 = .ok (.iconst 0, 1) := by decide +kernel
theorem dXl_law_21 : decode cXl_law 21 = .ok (.istore 4, 2) := by decide +kernel
theorem dXl_law_23 : decode cXl_law 23 = .ok (.iload 4, 2) := by decide +kernel
theorem dXl_law_25 : decode cXl_law 25 = .ok (.aload_n 0, 1) := by decide +kernel
theorem dXl_law_26 : decode cXl_law 26 = .ok (.arraylength, 1) := by decide +kernel
theorem dXl_law_27 : decode cXl_law 27 = .ok (.iconst 4, 1) := by decide +kernel
theorem dXl_law_28 : decode cXl_law 28 = .ok (.isub, 1) := by decide +kernel
theorem dXl_law_29 : decode cXl_law 29 = .ok (.if_icmp .gt 606, 3) := by decide +kernel
theorem dXl_law_32 : decode cXl_law 32 = .ok (.aload_n 0, 1) := by decide +kernel
theorem dXl_law_33 : decode cXl_law 33 = .ok (.iload 4, 2) := by decide +kernel
theorem dXl_law_35 : decode cXl_law 35 = .ok (.iaload, 1) := by decide +kernel
theorem dXl_law_36 : decode cXl_law 36 = .ok (.bipush 15, 2) := by decide +kernel
theorem dXl_law_38 : decode cXl_law 38 = .ok (.iand, 1) := by decide +kernel
theorem dXl_law_39 : decode cXl_law 39 = .ok (.tableswitch 590 0 13 #[69, 121, 158, 186, 214, 286, 311, 336, 361, 374, 414, 454, 494, 534], 69) := by decide +kernel
theorem dXl_law_108 : decode cXl_law 108 = .ok (.aload_n 1, 1) := by decide +kernel
theorem dXl_law_109 : decode cXl_law 109 = .ok (.aload_n 0, 1) := by decide +kernel
theorem dXl_law_110 : decode cXl_law 110 = .ok (.iload 4, 2) := by decide +kernel
theorem dXl_law_112 : decode cXl_law 112 = .ok (.iconst 1, 1) := by decide +kernel
theorem dXl_law_113 : decode cXl_law 113 = .ok (.iadd, 1) := by decide +kernel
theorem dXl_law_114 : decode cXl_law 114 = .ok (.iaload, 1) := by decide +kernel
theorem dXl_law_115 : decode cXl_law 115 = .ok (.aload_n 0, 1) := by decide +kernel
theorem dXl_law_116 : decode cXl_law 116 = .ok (.iload 4, 2) := by decide +kernel
theorem dXl_law_118 : decode cXl_law 118 = .ok (.iconst 2, 1) := by decide +kernel
theorem dXl_law_119 : decode cXl_law 119 = .ok (.iadd, 1) := by decide +kernel
theorem dXl_law_120 : decode cXl_law 120 = .ok (.iaload, 1) := by decide +kernel
theorem dXl_law_121 : decode cXl_law 121 = .ok (.aload_n 0, 1) := by decide +kernel
theorem dXl_law_122 : decode cXl_law 122 = .ok (.iload 4, 2) := by decide +kernel
theorem dXl_law_124 : decode cXl_law 124 = .ok (.iconst 3, 1) := by decide +kernel
theorem dXl_law_125 : decode cXl_law 125 = .ok (.iadd, 1) := by decide +kernel
theorem dXl_law_126 : decode cXl_law 126 = .ok (.iaload, 1) := by decide +kernel
theorem dXl_law_127 : decode cXl_law 127 = .ok (.aload_n 3, 1) := by decide +kernel
theorem dXl_law_128 : decode cXl_law 128 = .ok (.invokestatic 66, 3) := by decide +kernel
theorem dXl_law_131 : decode cXl_law 131 = .ok (.istore 5, 2) := by decide +kernel
theorem dXl_law_133 : decode cXl_law 133 = .ok (.aload_n 2, 1) := by decide +kernel
theorem dXl_law_134 : decode cXl_law 134 = .ok (.aload_n 0, 1) := by decide +kernel
theorem dXl_law_135 : decode cXl_law 135 = .ok (.iload 4, 2) := by decide +kernel
theorem dXl_law_137 : decode cXl_law 137 = .ok (.iconst 1, 1) := by decide +kernel
theorem dXl_law_138 : decode cXl_law 138 = .ok (.iadd, 1) := by decide +kernel
theorem dXl_law_139 : decode cXl_law 139 = .ok (.iaload, 1) := by decide +kernel
theorem dXl_law_140 : decode cXl_law 140 = .ok (.aload_n 0, 1) := by decide +kernel
theorem dXl_law_141 : decode cXl_law 141 = .ok (.iload 4, 2) := by decide +kernel
theorem dXl_law_143 : decode cXl_law 143 = .ok (.iconst 2, 1) := by decide +kernel
theorem dXl_law_144 : decode cXl_law 144 = .ok (.iadd, 1) := by decide +kernel
theorem dXl_law_145 : decode cXl_law 145 = .ok (.iaload, 1) := by decide +kernel
theorem dXl_law_146 : decode cXl_law 146 = .ok (.aload_n 0, 1) := by decide +kernel
theorem dXl_law_147 : decode cXl_law 147 = .ok (.iload 4, 2) := by decide +kernel
theorem dXl_law_149 : decode cXl_law 149 = .ok (.iconst 3, 1) := by decide +kernel
theorem dXl_law_150 : decode cXl_law 150 = .ok (.iadd, 1) := by decide +kernel
theorem dXl_law_151 : decode cXl_law 151 = .ok (.iaload, 1) := by decide +kernel
theorem dXl_law_152 : decode cXl_law 152 = .ok (.invokevirtual 71, 3) := by decide +kernel
theorem dXl_law_155 : decode cXl_law 155 = .ok (.istore 6, 2) := by decide +kernel
theorem dXl_law_157 : decode cXl_law 157 = .ok (.goto 472, 3) := by decide +kernel
theorem dXl_law_160 : decode cXl_law 160 = .ok (.aload_n 1, 1) := by decide +kernel
theorem dXl_law_161 : decode cXl_law 161 = .ok (.aload_n 0, 1) := by decide +kernel
theorem dXl_law_162 : decode cXl_law 162 = .ok (.iload 4, 2) := by decide +kernel
theorem dXl_law_164 : decode cXl_law 164 = .ok (.iconst 1, 1) := by decide +kernel
theorem dXl_law_165 : decode cXl_law 165 = .ok (.iadd, 1) := by decide +kernel
theorem dXl_law_166 : decode cXl_law 166 = .ok (.iaload, 1) := by decide +kernel
theorem dXl_law_167 : decode cXl_law 167 = .ok (.aload_n 0, 1) := by decide +kernel
theorem dXl_law_168 : decode cXl_law 168 = .ok (.iload 4, 2) := by decide +kernel
theorem dXl_law_170 : decode cXl_law 170 = .ok (.iconst 2, 1) := by decide +kernel
theorem dXl_law_171 : decode cXl_law 171 = .ok (.iadd, 1) := by decide +kernel
theorem dXl_law_172 : decode cXl_law 172 = .ok (.iaload, 1) := by decide +kernel
theorem dXl_law_173 : decode cXl_law 173 = .ok (.invokestatic 72, 3) := by decide +kernel
theorem dXl_law_176 : decode cXl_law 176 = .ok (.istore 5, 2) := by decide +kernel
theorem dXl_law_178 : decode cXl_law 178 = .ok (.aload_n 2, 1) := by decide +kernel
theorem dXl_law_179 : decode cXl_law 179 = .ok (.aload_n 0, 1) := by decide +kernel
theorem dXl_law_180 : decode cXl_law 180 = .ok (.iload 4, 2) := by decide +kernel
theorem dXl_law_182 : decode cXl_law 182 = .ok (.iconst 1, 1) := by decide +kernel
theorem dXl_law_183 : decode cXl_law 183 = .ok (.iadd, 1) := by decide +kernel
theorem dXl_law_184 : decode cXl_law 184 = .ok (.iaload, 1) := by decide +kernel
theorem dXl_law_185 : decode cXl_law 185 = .ok (.aload_n 0, 1) := by decide +kernel
theorem dXl_law_186 : decode cXl_law 186 = .ok (.iload 4, 2) := by decide +kernel
theorem dXl_law_188 : decode cXl_law 188 = .ok (.iconst 2, 1) := by decide +kernel
theorem dXl_law_189 : decode cXl_law 189 = .ok (.iadd, 1) := by decide +kernel
theorem dXl_law_190 : decode cXl_law 190 = .ok (.iaload, 1) := by decide +kernel
theorem dXl_law_191 : decode cXl_law 191 = .ok (.invokevirtual 75, 3) := by decide +kernel
theorem dXl_law_194 : decode cXl_law 194 = .ok (.goto 435, 3) := by decide +kernel
theorem dXl_law_197 : decode cXl_law 197 = .ok (.aload_n 1, 1) := by decide +kernel
theorem dXl_law_198 : decode cXl_law 198 = .ok (.aload_n 0, 1) := by decide +kernel
theorem dXl_law_199 : decode cXl_law 199 = .ok (.iload 4, 2) := by decide +kernel
theorem dXl_law_201 : decode cXl_law 201 = .ok (.iconst 1, 1) := by decide +kernel
theorem dXl_law_202 : decode cXl_law 202 = .ok (.iadd, 1) := by decide +kernel
theorem dXl_law_203 : decode cXl_law 203 = .ok (.iaload, 1) := by decide +kernel
theorem dXl_law_204 : decode cXl_law 204 = .ok (.aload_n 3, 1) := by decide +kernel
theorem dXl_law_205 : decode cXl_law 205 = .ok (.invokestatic 76, 3) := by decide +kernel
theorem dXl_law_208 : decode cXl_law 208 = .ok (.istore 5, 2) := by decide +kernel
theorem dXl_law_210 : decode cXl_law 210 = .ok (.aload_n 2, 1) := by decide +kernel
theorem dXl_law_211 : decode cXl_law 211 = .ok (.aload_n 0, 1) := by decide +kernel
theorem dXl_law_212 : decode cXl_law 212 = .ok (.iload 4, 2) := by decide +kernel
theorem dXl_law_214 : decode cXl_law 214 = .ok (.iconst 1, 1) := by decide +kernel
theorem dXl_law_215 : decode cXl_law 215 = .ok (.iadd, 1) := by decide +kernel
theorem dXl_law_216 : decode cXl_law 216 = .ok (.iaload, 1) := by decide +kernel
theorem dXl_law_217 : decode cXl_law 217 = .ok (.invokevirtual 79, 3) := by decide +kernel
theorem dXl_law_220 : decode cXl_law 220 = .ok (.istore 6, 2) := by decide +kernel
theorem dXl_law_222 : decode cXl_law 222 = .ok (.goto 407, 3) := by decide +kernel
theorem dXl_law_225 : decode cXl_law 225 = .ok (.aload_n 1, 1) := by decide +kernel
theorem dXl_law_226 : decode cXl_law 226 = .ok (.aload_n 0, 1) := by decide +kernel
theorem dXl_law_227 : decode cXl_law 227 = .ok (.iload 4, 2) := by decide +kernel
theorem dXl_law_229 : decode cXl_law 229 = .ok (.iconst 1, 1) := by decide +kernel
theorem dXl_law_230 : decode cXl_law 230 = .ok (.iadd, 1) := by decide +kernel
theorem dXl_law_231 : decode cXl_law 231 = .ok (.iaload, 1) := by decide +kernel
theorem dXl_law_232 : decode cXl_law 232 = .ok (.aload_n 3, 1) := by decide +kernel
theorem dXl_law_233 : decode cXl_law 233 = .ok (.invokestatic 80, 3) := by decide +kernel
theorem dXl_law_236 : decode cXl_law 236 = .ok (.istore 5, 2) := by decide +kernel
theorem dXl_law_238 : decode cXl_law 238 = .ok (.aload_n 2, 1) := by decide +kernel
theorem dXl_law_239 : decode cXl_law 239 = .ok (.aload_n 0, 1) := by decide +kernel
theorem dXl_law_240 : decode cXl_law 240 = .ok (.iload 4, 2) := by decide +kernel
theorem dXl_law_242 : decode cXl_law 242 = .ok (.iconst 1, 1) := by decide +kernel
theorem dXl_law_243 : decode cXl_law 243 = .ok (.iadd, 1) := by decide +kernel
theorem dXl_law_244 : decode cXl_law 244 = .ok (.iaload, 1) := by decide +kernel
theorem dXl_law_245 : decode cXl_law 245 = .ok (.invokevirtual 82, 3) := by decide +kernel
theorem dXl_law_248 : decode cXl_law 248 = .ok (.istore 6, 2) := by decide +kernel
theorem dXl_law_250 : decode cXl_law 250 = .ok (.goto 379, 3) := by decide +kernel
theorem dXl_law_253 : decode cXl_law 253 = .ok (.aload_n 1, 1) := by decide +kernel
theorem dXl_law_254 : decode cXl_law 254 = .ok (.aload_n 0, 1) := by decide +kernel
theorem dXl_law_255 : decode cXl_law 255 = .ok (.iload 4, 2) := by decide +kernel
theorem dXl_law_257 : decode cXl_law 257 = .ok (.iconst 1, 1) := by decide +kernel
theorem dXl_law_258 : decode cXl_law 258 = .ok (.iadd, 1) := by decide +kernel
theorem dXl_law_259 : decode cXl_law 259 = .ok (.iaload, 1) := by decide +kernel
theorem dXl_law_260 : decode cXl_law 260 = .ok (.i2l, 1) := by decide +kernel
theorem dXl_law_261 : decode cXl_law 261 = .ok (.bipush 32, 2) := by decide +kernel
theorem dXl_law_263 : decode cXl_law 263 = .ok (.lshl, 1) := by decide +kernel
theorem dXl_law_264 : decode cXl_law 264 = .ok (.aload_n 0, 1) := by decide +kernel
theorem dXl_law_265 : decode cXl_law 265 = .ok (.iload 4, 2) := by decide +kernel
theorem dXl_law_267 : decode cXl_law 267 = .ok (.iconst 2, 1) := by decide +kernel
theorem dXl_law_268 : decode cXl_law 268 = .ok (.iadd, 1) := by decide +kernel
theorem dXl_law_269 : decode cXl_law 269 = .ok (.iaload, 1) := by decide +kernel
theorem dXl_law_270 : decode cXl_law 270 = .ok (.i2l, 1) := by decide +kernel
theorem dXl_law_271 : decode cXl_law 271 = .ok (.ldc2_w 83, 3) := by decide +kernel
theorem dXl_law_274 : decode cXl_law 274 = .ok (.land, 1) := by decide +kernel
theorem dXl_law_275 : decode cXl_law 275 = .ok (.lor, 1) := by decide +kernel
theorem dXl_law_276 : decode cXl_law 276 = .ok (.aload_n 0, 1) := by decide +kernel
theorem dXl_law_277 : decode cXl_law 277 = .ok (.iload 4, 2) := by decide +kernel
theorem dXl_law_279 : decode cXl_law 279 = .ok (.iconst 3, 1) := by decide +kernel
theorem dXl_law_280 : decode cXl_law 280 = .ok (.iadd, 1) := by decide +kernel
theorem dXl_law_281 : decode cXl_law 281 = .ok (.iaload, 1) := by decide +kernel
theorem dXl_law_282 : decode cXl_law 282 = .ok (.aload_n 3, 1) := by decide +kernel
theorem dXl_law_283 : decode cXl_law 283 = .ok (.invokestatic 85, 3) := by decide +kernel
theorem dXl_law_286 : decode cXl_law 286 = .ok (.istore 5, 2) := by decide +kernel
theorem dXl_law_288 : decode cXl_law 288 = .ok (.aload_n 2, 1) := by decide +kernel
theorem dXl_law_289 : decode cXl_law 289 = .ok (.aload_n 0, 1) := by decide +kernel
theorem dXl_law_290 : decode cXl_law 290 = .ok (.iload 4, 2) := by decide +kernel
theorem dXl_law_292 : decode cXl_law 292 = .ok (.iconst 1, 1) := by decide +kernel
theorem dXl_law_293 : decode cXl_law 293 = .ok (.iadd, 1) := by decide +kernel
theorem dXl_law_294 : decode cXl_law 294 = .ok (.iaload, 1) := by decide +kernel
theorem dXl_law_295 : decode cXl_law 295 = .ok (.i2l, 1) := by decide +kernel
theorem dXl_law_296 : decode cXl_law 296 = .ok (.bipush 32, 2) := by decide +kernel
theorem dXl_law_298 : decode cXl_law 298 = .ok (.lshl, 1) := by decide +kernel
theorem dXl_law_299 : decode cXl_law 299 = .ok (.aload_n 0, 1) := by decide +kernel
theorem dXl_law_300 : decode cXl_law 300 = .ok (.iload 4, 2) := by decide +kernel
theorem dXl_law_302 : decode cXl_law 302 = .ok (.iconst 2, 1) := by decide +kernel
theorem dXl_law_303 : decode cXl_law 303 = .ok (.iadd, 1) := by decide +kernel
theorem dXl_law_304 : decode cXl_law 304 = .ok (.iaload, 1) := by decide +kernel
theorem dXl_law_305 : decode cXl_law 305 = .ok (.i2l, 1) := by decide +kernel
theorem dXl_law_306 : decode cXl_law 306 = .ok (.ldc2_w 83, 3) := by decide +kernel
theorem dXl_law_309 : decode cXl_law 309 = .ok (.land, 1) := by decide +kernel
theorem dXl_law_310 : decode cXl_law 310 = .ok (.lor, 1) := by decide +kernel
theorem dXl_law_311 : decode cXl_law 311 = .ok (.aload_n 0, 1) := by decide +kernel
theorem dXl_law_312 : decode cXl_law 312 = .ok (.iload 4, 2) := by decide +kernel
theorem dXl_law_314 : decode cXl_law 314 = .ok (.iconst 3, 1) := by decide +kernel
theorem dXl_law_315 : decode cXl_law 315 = .ok (.iadd, 1) := by decide +kernel
theorem dXl_law_316 : decode cXl_law 316 = .ok (.iaload, 1) := by decide +kernel
theorem dXl_law_317 : decode cXl_law 317 = .ok (.invokevirtual 88, 3) := by decide +kernel
theorem dXl_law_320 : decode cXl_law 320 = .ok (.istore 6, 2) := by decide +kernel
theorem dXl_law_322 : decode cXl_law 322 = .ok (.goto 307, 3) := by decide +kernel
theorem dXl_law_325 : decode cXl_law 325 = .ok (.aload_n 1, 1) := by decide +kernel
theorem dXl_law_326 : decode cXl_law 326 = .ok (.aload_n 0, 1) := by decide +kernel
theorem dXl_law_327 : decode cXl_law 327 = .ok (.iload 4, 2) := by decide +kernel
theorem dXl_law_329 : decode cXl_law 329 = .ok (.iconst 1, 1) := by decide +kernel
theorem dXl_law_330 : decode cXl_law 330 = .ok (.iadd, 1) := by decide +kernel
theorem dXl_law_331 : decode cXl_law 331 = .ok (.iaload, 1) := by decide +kernel
theorem dXl_law_332 : decode cXl_law 332 = .ok (.invokestatic 89, 3) := by decide +kernel
theorem dXl_law_335 : decode cXl_law 335 = .ok (.istore 5, 2) := by decide +kernel
theorem dXl_law_337 : decode cXl_law 337 = .ok (.aload_n 2, 1) := by decide +kernel
theorem dXl_law_338 : decode cXl_law 338 = .ok (.aload_n 0, 1) := by decide +kernel
theorem dXl_law_339 : decode cXl_law 339 = .ok (.iload 4, 2) := by decide +kernel
theorem dXl_law_341 : decode cXl_law 341 = .ok (.iconst 1, 1) := by decide +kernel
theorem dXl_law_342 : decode cXl_law 342 = .ok (.iadd, 1) := by decide +kernel
theorem dXl_law_343 : decode cXl_law 343 = .ok (.iaload, 1) := by decide +kernel
theorem dXl_law_344 : decode cXl_law 344 = .ok (.invokevirtual 92, 3) := by decide +kernel
theorem dXl_law_347 : decode cXl_law 347 = .ok (.goto 282, 3) := by decide +kernel
theorem dXl_law_350 : decode cXl_law 350 = .ok (.aload_n 1, 1) := by decide +kernel
theorem dXl_law_351 : decode cXl_law 351 = .ok (.aload_n 0, 1) := by decide +kernel
theorem dXl_law_352 : decode cXl_law 352 = .ok (.iload 4, 2) := by decide +kernel
theorem dXl_law_354 : decode cXl_law 354 = .ok (.iconst 1, 1) := by decide +kernel
theorem dXl_law_355 : decode cXl_law 355 = .ok (.iadd, 1) := by decide +kernel
theorem dXl_law_356 : decode cXl_law 356 = .ok (.iaload, 1) := by decide +kernel
theorem dXl_law_357 : decode cXl_law 357 = .ok (.invokestatic 93, 3) := by decide +kernel
theorem dXl_law_360 : decode cXl_law 360 = .ok (.istore 5, 2) := by decide +kernel
theorem dXl_law_362 : decode cXl_law 362 = .ok (.aload_n 2, 1) := by decide +kernel
theorem dXl_law_363 : decode cXl_law 363 = .ok (.aload_n 0, 1) := by decide +kernel
theorem dXl_law_364 : decode cXl_law 364 = .ok (.iload 4, 2) := by decide +kernel
theorem dXl_law_366 : decode cXl_law 366 = .ok (.iconst 1, 1) := by decide +kernel
theorem dXl_law_367 : decode cXl_law 367 = .ok (.iadd, 1) := by decide +kernel
theorem dXl_law_368 : decode cXl_law 368 = .ok (.iaload, 1) := by decide +kernel
theorem dXl_law_369 : decode cXl_law 369 = .ok (.invokevirtual 95, 3) := by decide +kernel
theorem dXl_law_372 : decode cXl_law 372 = .ok (.goto 257, 3) := by decide +kernel
theorem dXl_law_375 : decode cXl_law 375 = .ok (.aload_n 1, 1) := by decide +kernel
theorem dXl_law_376 : decode cXl_law 376 = .ok (.aload_n 0, 1) := by decide +kernel
theorem dXl_law_377 : decode cXl_law 377 = .ok (.iload 4, 2) := by decide +kernel
theorem dXl_law_379 : decode cXl_law 379 = .ok (.iconst 1, 1) := by decide +kernel
theorem dXl_law_380 : decode cXl_law 380 = .ok (.iadd, 1) := by decide +kernel
theorem dXl_law_381 : decode cXl_law 381 = .ok (.iaload, 1) := by decide +kernel
theorem dXl_law_382 : decode cXl_law 382 = .ok (.invokestatic 96, 3) := by decide +kernel
theorem dXl_law_385 : decode cXl_law 385 = .ok (.istore 5, 2) := by decide +kernel
theorem dXl_law_387 : decode cXl_law 387 = .ok (.aload_n 2, 1) := by decide +kernel
theorem dXl_law_388 : decode cXl_law 388 = .ok (.aload_n 0, 1) := by decide +kernel
theorem dXl_law_389 : decode cXl_law 389 = .ok (.iload 4, 2) := by decide +kernel
theorem dXl_law_391 : decode cXl_law 391 = .ok (.iconst 1, 1) := by decide +kernel
theorem dXl_law_392 : decode cXl_law 392 = .ok (.iadd, 1) := by decide +kernel
theorem dXl_law_393 : decode cXl_law 393 = .ok (.iaload, 1) := by decide +kernel
theorem dXl_law_394 : decode cXl_law 394 = .ok (.invokevirtual 98, 3) := by decide +kernel
theorem dXl_law_397 : decode cXl_law 397 = .ok (.goto 232, 3) := by decide +kernel
theorem dXl_law_400 : decode cXl_law 400 = .ok (.aload_n 1, 1) := by decide +kernel
theorem dXl_law_401 : decode cXl_law 401 = .ok (.invokevirtual 99, 3) := by decide +kernel
theorem dXl_law_404 : decode cXl_law 404 = .ok (.pop, 1) := by decide +kernel
theorem dXl_law_405 : decode cXl_law 405 = .ok (.aload_n 2, 1) := by decide +kernel
theorem dXl_law_406 : decode cXl_law 406 = .ok (.invokevirtual 103, 3) := by decide +kernel
theorem dXl_law_409 : decode cXl_law 409 = .ok (.pop, 1) := by decide +kernel
theorem dXl_law_410 : decode cXl_law 410 = .ok (.goto 219, 3) := by decide +kernel
theorem dXl_law_413 : decode cXl_law 413 = .ok (.aload_n 1, 1) := by decide +kernel
theorem dXl_law_414 : decode cXl_law 414 = .ok (.aload_n 0, 1) := by decide +kernel
theorem dXl_law_415 : decode cXl_law 415 = .ok (.iload 4, 2) := by decide +kernel
theorem dXl_law_417 : decode cXl_law 417 = .ok (.iconst 1, 1) := by decide +kernel
theorem dXl_law_418 : decode cXl_law 418 = .ok (.iadd, 1) := by decide +kernel
theorem dXl_law_419 : decode cXl_law 419 = .ok (.iaload, 1) := by decide +kernel
theorem dXl_law_420 : decode cXl_law 420 = .ok (.aload_n 0, 1) := by decide +kernel
theorem dXl_law_421 : decode cXl_law 421 = .ok (.iload 4, 2) := by decide +kernel
theorem dXl_law_423 : decode cXl_law 423 = .ok (.iconst 2, 1) := by decide +kernel
theorem dXl_law_424 : decode cXl_law 424 = .ok (.iadd, 1) := by decide +kernel
theorem dXl_law_425 : decode cXl_law 425 = .ok (.iaload, 1) := by decide +kernel
theorem dXl_law_426 : decode cXl_law 426 = .ok (.aload_n 3, 1) := by decide +kernel
theorem dXl_law_427 : decode cXl_law 427 = .ok (.invokestatic 104, 3) := by decide +kernel
theorem dXl_law_430 : decode cXl_law 430 = .ok (.istore 5, 2) := by decide +kernel
theorem dXl_law_432 : decode cXl_law 432 = .ok (.aload_n 2, 1) := by decide +kernel
theorem dXl_law_433 : decode cXl_law 433 = .ok (.aload_n 0, 1) := by decide +kernel
theorem dXl_law_434 : decode cXl_law 434 = .ok (.iload 4, 2) := by decide +kernel
theorem dXl_law_436 : decode cXl_law 436 = .ok (.iconst 1, 1) := by decide +kernel
theorem dXl_law_437 : decode cXl_law 437 = .ok (.iadd, 1) := by decide +kernel
theorem dXl_law_438 : decode cXl_law 438 = .ok (.iaload, 1) := by decide +kernel
theorem dXl_law_439 : decode cXl_law 439 = .ok (.aload_n 0, 1) := by decide +kernel
theorem dXl_law_440 : decode cXl_law 440 = .ok (.iload 4, 2) := by decide +kernel
theorem dXl_law_442 : decode cXl_law 442 = .ok (.iconst 2, 1) := by decide +kernel
theorem dXl_law_443 : decode cXl_law 443 = .ok (.iadd, 1) := by decide +kernel
theorem dXl_law_444 : decode cXl_law 444 = .ok (.iaload, 1) := by decide +kernel
theorem dXl_law_445 : decode cXl_law 445 = .ok (.invokevirtual 107, 3) := by decide +kernel
theorem dXl_law_448 : decode cXl_law 448 = .ok (.istore 6, 2) := by decide +kernel
theorem dXl_law_450 : decode cXl_law 450 = .ok (.goto 179, 3) := by decide +kernel
theorem dXl_law_453 : decode cXl_law 453 = .ok (.aload_n 1, 1) := by decide +kernel
theorem dXl_law_454 : decode cXl_law 454 = .ok (.aload_n 0, 1) := by decide +kernel
theorem dXl_law_455 : decode cXl_law 455 = .ok (.iload 4, 2) := by decide +kernel
theorem dXl_law_457 : decode cXl_law 457 = .ok (.iconst 1, 1) := by decide +kernel
theorem dXl_law_458 : decode cXl_law 458 = .ok (.iadd, 1) := by decide +kernel
theorem dXl_law_459 : decode cXl_law 459 = .ok (.iaload, 1) := by decide +kernel
theorem dXl_law_460 : decode cXl_law 460 = .ok (.aload_n 0, 1) := by decide +kernel
theorem dXl_law_461 : decode cXl_law 461 = .ok (.iload 4, 2) := by decide +kernel
theorem dXl_law_463 : decode cXl_law 463 = .ok (.iconst 2, 1) := by decide +kernel
theorem dXl_law_464 : decode cXl_law 464 = .ok (.iadd, 1) := by decide +kernel
theorem dXl_law_465 : decode cXl_law 465 = .ok (.iaload, 1) := by decide +kernel
theorem dXl_law_466 : decode cXl_law 466 = .ok (.aload_n 3, 1) := by decide +kernel
theorem dXl_law_467 : decode cXl_law 467 = .ok (.invokestatic 108, 3) := by decide +kernel
theorem dXl_law_470 : decode cXl_law 470 = .ok (.istore 5, 2) := by decide +kernel
theorem dXl_law_472 : decode cXl_law 472 = .ok (.aload_n 2, 1) := by decide +kernel
theorem dXl_law_473 : decode cXl_law 473 = .ok (.aload_n 0, 1) := by decide +kernel
theorem dXl_law_474 : decode cXl_law 474 = .ok (.iload 4, 2) := by decide +kernel
theorem dXl_law_476 : decode cXl_law 476 = .ok (.iconst 1, 1) := by decide +kernel
theorem dXl_law_477 : decode cXl_law 477 = .ok (.iadd, 1) := by decide +kernel
theorem dXl_law_478 : decode cXl_law 478 = .ok (.iaload, 1) := by decide +kernel
theorem dXl_law_479 : decode cXl_law 479 = .ok (.aload_n 0, 1) := by decide +kernel
theorem dXl_law_480 : decode cXl_law 480 = .ok (.iload 4, 2) := by decide +kernel
theorem dXl_law_482 : decode cXl_law 482 = .ok (.iconst 2, 1) := by decide +kernel
theorem dXl_law_483 : decode cXl_law 483 = .ok (.iadd, 1) := by decide +kernel
theorem dXl_law_484 : decode cXl_law 484 = .ok (.iaload, 1) := by decide +kernel
theorem dXl_law_485 : decode cXl_law 485 = .ok (.invokevirtual 110, 3) := by decide +kernel
theorem dXl_law_488 : decode cXl_law 488 = .ok (.istore 6, 2) := by decide +kernel
theorem dXl_law_490 : decode cXl_law 490 = .ok (.goto 139, 3) := by decide +kernel
theorem dXl_law_493 : decode cXl_law 493 = .ok (.aload_n 1, 1) := by decide +kernel
theorem dXl_law_494 : decode cXl_law 494 = .ok (.aload_n 0, 1) := by decide +kernel
theorem dXl_law_495 : decode cXl_law 495 = .ok (.iload 4, 2) := by decide +kernel
theorem dXl_law_497 : decode cXl_law 497 = .ok (.iconst 1, 1) := by decide +kernel
theorem dXl_law_498 : decode cXl_law 498 = .ok (.iadd, 1) := by decide +kernel
theorem dXl_law_499 : decode cXl_law 499 = .ok (.iaload, 1) := by decide +kernel
theorem dXl_law_500 : decode cXl_law 500 = .ok (.aload_n 0, 1) := by decide +kernel
theorem dXl_law_501 : decode cXl_law 501 = .ok (.iload 4, 2) := by decide +kernel
theorem dXl_law_503 : decode cXl_law 503 = .ok (.iconst 2, 1) := by decide +kernel
theorem dXl_law_504 : decode cXl_law 504 = .ok (.iadd, 1) := by decide +kernel
theorem dXl_law_505 : decode cXl_law 505 = .ok (.iaload, 1) := by decide +kernel
theorem dXl_law_506 : decode cXl_law 506 = .ok (.aload_n 3, 1) := by decide +kernel
theorem dXl_law_507 : decode cXl_law 507 = .ok (.invokestatic 111, 3) := by decide +kernel
theorem dXl_law_510 : decode cXl_law 510 = .ok (.istore 5, 2) := by decide +kernel
theorem dXl_law_512 : decode cXl_law 512 = .ok (.aload_n 2, 1) := by decide +kernel
theorem dXl_law_513 : decode cXl_law 513 = .ok (.aload_n 0, 1) := by decide +kernel
theorem dXl_law_514 : decode cXl_law 514 = .ok (.iload 4, 2) := by decide +kernel
theorem dXl_law_516 : decode cXl_law 516 = .ok (.iconst 1, 1) := by decide +kernel
theorem dXl_law_517 : decode cXl_law 517 = .ok (.iadd, 1) := by decide +kernel
theorem dXl_law_518 : decode cXl_law 518 = .ok (.iaload, 1) := by decide +kernel
theorem dXl_law_519 : decode cXl_law 519 = .ok (.aload_n 0, 1) := by decide +kernel
theorem dXl_law_520 : decode cXl_law 520 = .ok (.iload 4, 2) := by decide +kernel
theorem dXl_law_522 : decode cXl_law 522 = .ok (.iconst 2, 1) := by decide +kernel
theorem dXl_law_523 : decode cXl_law 523 = .ok (.iadd, 1) := by decide +kernel
theorem dXl_law_524 : decode cXl_law 524 = .ok (.iaload, 1) := by decide +kernel
theorem dXl_law_525 : decode cXl_law 525 = .ok (.invokevirtual 113, 3) := by decide +kernel
theorem dXl_law_528 : decode cXl_law 528 = .ok (.istore 6, 2) := by decide +kernel
theorem dXl_law_530 : decode cXl_law 530 = .ok (.goto 99, 3) := by decide +kernel
theorem dXl_law_533 : decode cXl_law 533 = .ok (.aload_n 1, 1) := by decide +kernel
theorem dXl_law_534 : decode cXl_law 534 = .ok (.aload_n 0, 1) := by decide +kernel
theorem dXl_law_535 : decode cXl_law 535 = .ok (.iload 4, 2) := by decide +kernel
theorem dXl_law_537 : decode cXl_law 537 = .ok (.iconst 1, 1) := by decide +kernel
theorem dXl_law_538 : decode cXl_law 538 = .ok (.iadd, 1) := by decide +kernel
theorem dXl_law_539 : decode cXl_law 539 = .ok (.iaload, 1) := by decide +kernel
theorem dXl_law_540 : decode cXl_law 540 = .ok (.aload_n 0, 1) := by decide +kernel
theorem dXl_law_541 : decode cXl_law 541 = .ok (.iload 4, 2) := by decide +kernel
theorem dXl_law_543 : decode cXl_law 543 = .ok (.iconst 2, 1) := by decide +kernel
theorem dXl_law_544 : decode cXl_law 544 = .ok (.iadd, 1) := by decide +kernel
theorem dXl_law_545 : decode cXl_law 545 = .ok (.iaload, 1) := by decide +kernel
theorem dXl_law_546 : decode cXl_law 546 = .ok (.aload_n 3, 1) := by decide +kernel
theorem dXl_law_547 : decode cXl_law 547 = .ok (.invokestatic 114, 3) := by decide +kernel
theorem dXl_law_550 : decode cXl_law 550 = .ok (.istore 5, 2) := by decide +kernel
theorem dXl_law_552 : decode cXl_law 552 = .ok (.aload_n 2, 1) := by decide +kernel
theorem dXl_law_553 : decode cXl_law 553 = .ok (.aload_n 0, 1) := by decide +kernel
theorem dXl_law_554 : decode cXl_law 554 = .ok (.iload 4, 2) := by decide +kernel
theorem dXl_law_556 : decode cXl_law 556 = .ok (.iconst 1, 1) := by decide +kernel
theorem dXl_law_557 : decode cXl_law 557 = .ok (.iadd, 1) := by decide +kernel
theorem dXl_law_558 : decode cXl_law 558 = .ok (.iaload, 1) := by decide +kernel
theorem dXl_law_559 : decode cXl_law 559 = .ok (.aload_n 0, 1) := by decide +kernel
theorem dXl_law_560 : decode cXl_law 560 = .ok (.iload 4, 2) := by decide +kernel
theorem dXl_law_562 : decode cXl_law 562 = .ok (.iconst 2, 1) := by decide +kernel
theorem dXl_law_563 : decode cXl_law 563 = .ok (.iadd, 1) := by decide +kernel
theorem dXl_law_564 : decode cXl_law 564 = .ok (.iaload, 1) := by decide +kernel
theorem dXl_law_565 : decode cXl_law 565 = .ok (.invokevirtual 116, 3) := by decide +kernel
theorem dXl_law_568 : decode cXl_law 568 = .ok (.istore 6, 2) := by decide +kernel
theorem dXl_law_570 : decode cXl_law 570 = .ok (.goto 59, 3) := by decide +kernel
theorem dXl_law_573 : decode cXl_law 573 = .ok (.aload_n 1, 1) := by decide +kernel
theorem dXl_law_574 : decode cXl_law 574 = .ok (.aload_n 0, 1) := by decide +kernel
theorem dXl_law_575 : decode cXl_law 575 = .ok (.iload 4, 2) := by decide +kernel
theorem dXl_law_577 : decode cXl_law 577 = .ok (.iconst 1, 1) := by decide +kernel
theorem dXl_law_578 : decode cXl_law 578 = .ok (.iadd, 1) := by decide +kernel
theorem dXl_law_579 : decode cXl_law 579 = .ok (.iaload, 1) := by decide +kernel
theorem dXl_law_580 : decode cXl_law 580 = .ok (.aload_n 3, 1) := by decide +kernel
theorem dXl_law_581 : decode cXl_law 581 = .ok (.invokestatic 117, 3) := by decide +kernel
theorem dXl_law_584 : decode cXl_law 584 = .ok (.istore 5, 2) := by decide +kernel
theorem dXl_law_586 : decode cXl_law 586 = .ok (.aload_n 2, 1) := by decide +kernel
theorem dXl_law_587 : decode cXl_law 587 = .ok (.aload_n 0, 1) := by decide +kernel
theorem dXl_law_588 : decode cXl_law 588 = .ok (.iload 4, 2) := by decide +kernel
theorem dXl_law_590 : decode cXl_law 590 = .ok (.iconst 1, 1) := by decide +kernel
theorem dXl_law_591 : decode cXl_law 591 = .ok (.iadd, 1) := by decide +kernel
theorem dXl_law_592 : decode cXl_law 592 = .ok (.iaload, 1) := by decide +kernel
theorem dXl_law_593 : decode cXl_law 593 = .ok (.invokevirtual 119, 3) := by decide +kernel
theorem dXl_law_596 : decode cXl_law 596 = .ok (.istore 6, 2) := by decide +kernel
theorem dXl_law_598 : decode cXl_law 598 = .ok (.aload_n 2, 1) := by decide +kernel
theorem dXl_law_599 : decode cXl_law 599 = .ok (.invokevirtual 120, 3) := by decide +kernel
theorem dXl_law_602 : decode cXl_law 602 = .ok (.iload 5, 2) := by decide +kernel
theorem dXl_law_604 : decode cXl_law 604 = .ok (.if_icmp .eq 5, 3) := by decide +kernel
theorem dXl_law_607 : decode cXl_law 607 = .ok (.iconst 0, 1) := by decide +kernel
theorem dXl_law_608 : decode cXl_law 608 = .ok (.ireturn, 1) := by decide +kernel
theorem dXl_law_609 : decode cXl_law 609 = .ok (.iload 5, 2) := by decide +kernel
theorem dXl_law_611 : decode cXl_law 611 = .ok (.ifCond .ne 15, 3) := by decide +kernel
theorem dXl_law_614 : decode cXl_law 614 = .ok (.aload_n 3, 1) := by decide +kernel
theorem dXl_law_615 : decode cXl_law 615 = .ok (.iconst 0, 1) := by decide +kernel
theorem dXl_law_616 : decode cXl_law 616 = .ok (.laload, 1) := by decide +kernel
theorem dXl_law_617 : decode cXl_law 617 = .ok (.iload 6, 2) := by decide +kernel
theorem dXl_law_619 : decode cXl_law 619 = .ok (.i2l, 1) := by decide +kernel
theorem dXl_law_620 : decode cXl_law 620 = .ok (.lcmp, 1) := by decide +kernel
theorem dXl_law_621 : decode cXl_law 621 = .ok (.ifCond .eq 5, 3) := by decide +kernel
theorem dXl_law_624 : decode cXl_law 624 = .ok (.iconst 0, 1) := by decide +kernel
theorem dXl_law_625 : decode cXl_law 625 = .ok (.ireturn, 1) := by decide +kernel
theorem dXl_law_626 : decode cXl_law 626 = .ok (.goto 3, 3) := by decide +kernel
theorem dXl_law_629 : decode cXl_law 629 = .ok (.iinc 4 4, 3) := by decide +kernel
theorem dXl_law_632 : decode cXl_law 632 = .ok (.goto (-609), 3) := by decide +kernel
theorem dXl_law_635 : decode cXl_law 635 = .ok (.iconst 1, 1) := by decide +kernel
theorem dXl_law_636 : decode cXl_law 636 = .ok (.ireturn, 1) := by decide +kernel
