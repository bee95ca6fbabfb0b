theorem dXp_init_0 : decode cXp_init 0 = .ok (.aload_n 0, 1) := by decide +kernel
theorem dXp_init_1 : decode cXp_init 1 = .ok (.invokespecial 3, 3) := by decide +kernel
theorem dXp_init_4 : decode cXp_init 4 = .ok (.aload_n 0, 1) := by decide +kernel
theorem dXp_init_5 : decode cXp_init 5 = .ok (.sipush 128, 3) := by decide +kernel
theorem dXp_init_8 : decode cXp_init 8 = .ok (.newarray .int, 2) := by decide +kernel
theorem dXp_init_10 : decode cXp_init 10 = .ok (.putfield 9, 3) := by decide +kernel
theorem dXp_init_13 : decode cXp_init 13 = .ok (.aload_n 0, 1) := by decide +kernel
theorem dXp_init_14 : decode cXp_init 14 = .ok (.sipush 128, 3) := by decide +kernel
theorem dXp_init_17 : decode cXp_init 17 = .ok (.newarray .int, 2) := by decide +kernel
theorem dXp_init_19 : decode cXp_init 19 = .ok (.putfield 15, 3) := by decide +kernel
theorem dXp_init_22 : decode cXp_init 22 = .ok (.aload_n 0, 1) := by decide +kernel
theorem dXp_init_23 : decode cXp_init 23 = .ok (.bipush 8, 2) := by decide +kernel
theorem dXp_init_25 : decode cXp_init 25 = .ok (.newarray .int, 2) := by decide +kernel
theorem dXp_init_27 : decode cXp_init 27 = .ok (.putfield 18, 3) := by decide +kernel
theorem dXp_init_30 : decode cXp_init 30 = .ok (.aload_n 0, 1) := by decide +kernel
theorem dXp_init_31 : decode cXp_init 31 = .ok (.bipush 8, 2) := by decide +kernel
theorem dXp_init_33 : decode cXp_init 33 = .ok (.newarray .int, 2) := by decide +kernel
theorem dXp_init_35 : decode cXp_init 35 = .ok (.putfield 21, 3) := by decide +kernel
theorem dXp_init_38 : decode cXp_init 38 = .ok (.aload_n 0, 1) := by decide +kernel
theorem dXp_init_39 : decode cXp_init 39 = .ok (.getfield 21, 3) := by decide +kernel
theorem dXp_init_42 : decode cXp_init 42 = .ok (.iconst (-1), 1) := by decide +kernel
theorem dXp_init_43 : decode cXp_init 43 = .ok (.invokestatic 24, 3) := by decide +kernel
theorem dXp_init_46 : decode cXp_init 46 = .ok (.return_, 1) := by decide +kernel
theorem dXu_init_0 : decode cXu_init 0 = .ok (.aload_n 0, 1) := by decide +kernel
theorem dXu_init_1 : decode cXu_init 1 = .ok (.invokespecial 3, 3) := by decide +kernel
theorem dXu_init_4 : decode cXu_init 4 = .ok (.aload_n 0, 1) := by decide +kernel
theorem dXu_init_5 : decode cXu_init 5 = .ok (.bipush 10, 2) := by decide +kernel
theorem dXu_init_7 : decode cXu_init 7 = .ok (.newarray .int, 2) := by decide +kernel
theorem dXu_init_9 : decode cXu_init 9 = .ok (.putfield 9, 3) := by decide +kernel
theorem dXu_init_12 : decode cXu_init 12 = .ok (.aload_n 0, 1) := by decide +kernel
theorem dXu_init_13 : decode cXu_init 13 = .ok (.bipush 10, 2) := by decide +kernel
theorem dXu_init_15 : decode cXu_init 15 = .ok (.newarray .int, 2) := by decide +kernel
theorem dXu_init_17 : decode cXu_init 17 = .ok (.putfield 15, 3) := by decide +kernel
theorem dXu_init_20 : decode cXu_init 20 = .ok (.aload_n 0, 1) := by decide +kernel
theorem dXu_init_21 : decode cXu_init 21 = .ok (.getfield 9, 3) := by decide +kernel
theorem dXu_init_24 : decode cXu_init 24 = .ok (.iconst (-1), 1) := by decide +kernel
theorem dXu_init_25 : decode cXu_init 25 = .ok (.invokestatic 18, 3) := by decide +kernel
theorem dXu_init_28 : decode cXu_init 28 = .ok (.aload_n 0, 1) := by decide +kernel
theorem dXu_init_29 : decode cXu_init 29 = .ok (.getfield 15, 3) := by decide +kernel
theorem dXu_init_32 : decode cXu_init 32 = .ok (.iconst (-1), 1) := by decide +kernel
theorem dXu_init_33 : decode cXu_init 33 = .ok (.invokestatic 18, 3) := by decide +kernel
theorem dXu_init_36 : decode cXu_init 36 = .ok (.return_, 1) := by decide +kernel
theorem dXc_init_0 : decode cXc_init 0 = .ok (.aload_n 0, 1) := by decide +kernel
theorem dXc_init_1 : decode cXc_init 1 = .ok (.invokespecial 3, 3) := by decide +kernel
theorem dXc_init_4 : decode cXc_init 4 = .ok (.aload_n 0, 1) := by decide +kernel
theorem dXc_init_5 : decode cXc_init 5 = .ok (.bipush 16, 2) := by decide +kernel
theorem dXc_init_7 : decode cXc_init 7 = .ok (.newarray .int, 2) := by decide +kernel
theorem dXc_init_9 : decode cXc_init 9 = .ok (.putfield 9, 3) := by decide +kernel
theorem dXc_init_12 : decode cXc_init 12 = .ok (.aload_n 0, 1) := by decide +kernel
theorem dXc_init_13 : decode cXc_init 13 = .ok (.bipush 16, 2) := by decide +kernel
theorem dXc_init_15 : decode cXc_init 15 = .ok (.newarray .int, 2) := by decide +kernel
theorem dXc_init_17 : decode cXc_init 17 = .ok (.putfield 15, 3) := by decide +kernel
theorem dXc_init_20 : decode cXc_init 20 = .ok (.aload_n 0, 1) := by decide +kernel
theorem dXc_init_21 : decode cXc_init 21 = .ok (.bipush 16, 2) := by decide +kernel
theorem dXc_init_23 : decode cXc_init 23 = .ok (.newarray .int, 2) := by decide +kernel
theorem dXc_init_25 : decode cXc_init 25 = .ok (.putfield 18, 3) := by decide +kernel
theorem dXc_init_28 : decode cXc_init 28 = .ok (.aload_n 0, 1) := by decide +kernel
theorem dXc_init_29 : decode cXc_init 29 = .ok (.bipush 16, 2) := by decide +kernel
theorem dXc_init_31 : decode cXc_init 31 = .ok (.newarray .boolean, 2) := by decide +kernel
theorem dXc_init_33 : decode cXc_init 33 = .ok (.putfield 21, 3) := by decide +kernel
theorem dXc_init_36 : decode cXc_init 36 = .ok (.aload_n 0, 1) := by decide +kernel
theorem dXc_init_37 : decode cXc_init 37 = .ok (.getfield 15, 3) := by decide +kernel
theorem dXc_init_40 : decode cXc_init 40 = .ok (.iconst (-1), 1) := by decide +kernel
theorem dXc_init_41 : decode cXc_init 41 = .ok (.invokestatic 25, 3) := by decide +kernel
theorem dXc_init_44 : decode cXc_init 44 = .ok (.aload_n 0, 1) := by decide +kernel
theorem dXc_init_45 : decode cXc_init 45 = .ok (.getfield 18, 3) := by decide +kernel
theorem dXc_init_48 : decode cXc_init 48 = .ok (.iconst (-1), 1) := by decide +kernel
theorem dXc_init_49 : decode cXc_init 49 = .ok (.invokestatic 25, 3) := by decide +kernel
theorem dXc_init_52 : decode cXc_init 52 = .ok (.aload_n 0, 1) := by decide +kernel
theorem dXc_init_53 : decode cXc_init 53 = .ok (.iconst 0, 1) := by decide +kernel
theorem dXc_init_54 : decode cXc_init 54 = .ok (.putfield 31, 3) := by decide +kernel
theorem dXc_init_57 : decode cXc_init 57 = .ok (.return_, 1) := by decide +kernel
theorem dXr_init_0 : decode cXr_init 0 = .ok (.aload_n 0, 1) := by decide +kernel
theorem dXr_init_1 : decode cXr_init 1 = .ok (.invokespecial 3, 3) := by decide +kernel
theorem dXr_init_4 : decode cXr_init 4 = .ok (.aload_n 0, 1) := by decide +kernel
theorem dXr_init_5 : decode cXr_init 5 = .ok (.bipush 100, 2) := by decide +kernel
theorem dXr_init_7 : decode cXr_init 7 = .ok (.newarray .int, 2) := by decide +kernel
theorem dXr_init_9 : decode cXr_init 9 = .ok (.putfield 9, 3) := by decide +kernel
theorem dXr_init_12 : decode cXr_init 12 = .ok (.aload_n 0, 1) := by decide +kernel
theorem dXr_init_13 : decode cXr_init 13 = .ok (.bipush 100, 2) := by decide +kernel
theorem dXr_init_15 : decode cXr_init 15 = .ok (.newarray .int, 2) := by decide +kernel
theorem dXr_init_17 : decode cXr_init 17 = .ok (.putfield 15, 3) := by decide +kernel
theorem dXr_init_20 : decode cXr_init 20 = .ok (.aload_n 0, 1) := by decide +kernel
theorem dXr_init_21 : decode cXr_init 21 = .ok (.bipush 100, 2) := by decide +kernel
theorem dXr_init_23 : decode cXr_init 23 = .ok (.newarray .int, 2) := by decide +kernel
theorem dXr_init_25 : decode cXr_init 25 = .ok (.putfield 18, 3) := by decide +kernel
theorem dXr_init_28 : decode cXr_init 28 = .ok (.aload_n 0, 1) := by decide +kernel
theorem dXr_init_29 : decode cXr_init 29 = .ok (.bipush 100, 2) := by decide +kernel
theorem dXr_init_31 : decode cXr_init 31 = .ok (.newarray .int, 2) := by decide +kernel
theorem dXr_init_33 : decode cXr_init 33 = .ok (.putfield 21, 3) := by decide +kernel
theorem dXr_init_36 : decode cXr_init 36 = .ok (.aload_n 0, 1) := by decide +kernel
theorem dXr_init_37 : decode cXr_init 37 = .ok (.iconst 0, 1) := by decide +kernel
theorem dXr_init_38 : decode cXr_init 38 = .ok (.putfield 24, 3) := by decide +kernel
theorem dXr_init_41 : decode cXr_init 41 = .ok (.return_, 1) := by decide +kernel
theorem dXs_init_0 : decode cXs_init 0 = .ok (.aload_n 0, 1) := by decide +kernel
theorem dXs_init_1 : decode cXs_init 1 = .ok (.invokespecial 1, 3) := by decide +kernel
theorem dXs_init_4 : decode cXs_init 4 = .ok (.aload_n 0, 1) := by decide +kernel
theorem dXs_init_5 : decode cXs_init 5 = .ok (.new 7, 3) := by decide +kernel
theorem dXs_init_8 : decode cXs_init 8 = .ok (.dup, 1) := by decide +kernel
theorem dXs_init_9 : decode cXs_init 9 = .ok (.invokespecial 9, 3) := by decide +kernel
theorem dXs_init_12 : decode cXs_init 12 = .ok (.putfield 10, 3) := by decide +kernel
theorem dXs_init_15 : decode cXs_init 15 = .ok (.aload_n 0, 1) := by decide +kernel
theorem dXs_init_16 : decode cXs_init 16 = .ok (.new 16, 3) := by decide +kernel
theorem dXs_init_19 : decode cXs_init 19 = .ok (.dup, 1) := by decide +kernel
theorem dXs_init_20 : decode cXs_init 20 = .ok (.invokespecial 18, 3) := by decide +kernel
theorem dXs_init_23 : decode cXs_init 23 = .ok (.putfield 19, 3) := by decide +kernel
theorem dXs_init_26 : decode cXs_init 26 = .ok (.aload_n 0, 1) := by decide +kernel
theorem dXs_init_27 : decode cXs_init 27 = .ok (.new 23, 3) := by decide +kernel
theorem dXs_init_30 : decode cXs_init 30 = .ok (.dup, 1) := by decide +kernel
theorem dXs_init_31 : decode cXs_init 31 = .ok (.invokespecial 25, 3) := by decide +kernel
theorem dXs_init_34 : decode cXs_init 34 = .ok (.putfield 26, 3) := by decide +kernel
theorem dXs_init_37 : decode cXs_init 37 = .ok (.aload_n 0, 1) := by decide +kernel
theorem dXs_init_38 : decode cXs_init 38 = .ok (.new 30, 3) := by decide +kernel
theorem dXs_init_41 : decode cXs_init 41 = .ok (.dup, 1) := by decide +kernel
theorem dXs_init_42 : decode cXs_init 42 = .ok (.invokespecial 32, 3) := by decide +kernel
theorem dXs_init_45 : decode cXs_init 45 = .ok (.putfield 33, 3) := by decide +kernel
theorem dXs_init_48 : decode cXs_init 48 = .ok (.aload_n 0, 1) := by decide +kernel
theorem dXs_init_49 : decode cXs_init 49 = .ok (.bipush 8, 2) := by decide +kernel
theorem dXs_init_51 : decode cXs_init 51 = .ok (.newarray .int, 2) := by decide +kernel
theorem dXs_init_53 : decode cXs_init 53 = .ok (.putfield 37, 3) := by decide +kernel
theorem dXs_init_56 : decode cXs_init 56 = .ok (.aload_n 0, 1) := by decide +kernel
theorem dXs_init_57 : decode cXs_init 57 = .ok (.bipush 8, 2) := by decide +kernel
theorem dXs_init_59 : decode cXs_init 59 = .ok (.newarray .int, 2) := by decide +kernel
theorem dXs_init_61 : decode cXs_init 61 = .ok (.putfield 41, 3) := by decide +kernel
theorem dXs_init_64 : decode cXs_init 64 = .ok (.aload_n 0, 1) := by decide +kernel
theorem dXs_init_65 : decode cXs_init 65 = .ok (.bipush 8, 2) := by decide +kernel
theorem dXs_init_67 : decode cXs_init 67 = .ok (.newarray .int, 2) := by decide +kernel
theorem dXs_init_69 : decode cXs_init 69 = .ok (.putfield 44, 3) := by decide +kernel
theorem dXs_init_72 : decode cXs_init 72 = .ok (.aload_n 0, 1) := by decide +kernel
theorem dXs_init_73 : decode cXs_init 73 = .ok (.bipush 8, 2) := by decide +kernel
theorem dXs_init_75 : decode cXs_init 75 = .ok (.newarray .int, 2) := by decide +kernel
theorem dXs_init_77 : decode cXs_init 77 = .ok (.putfield 47, 3) := by decide +kernel
theorem dXs_init_80 : decode cXs_init 80 = .ok (.aload_n 0, 1) := by decide +kernel
theorem dXs_init_81 : decode cXs_init 81 = .ok (.bipush 8, 2) := by decide +kernel
theorem dXs_init_83 : decode cXs_init 83 = .ok (.newarray .int, 2) := by decide +kernel
theorem dXs_init_85 : decode cXs_init 85 = .ok (.putfield 50, 3) := by decide +kernel
theorem dXs_init_88 : decode cXs_init 88 = .ok (.aload_n 0, 1) := by decide +kernel
theorem dXs_init_89 : decode cXs_init 89 = .ok (.bipush 8, 2) := by decide +kernel
theorem dXs_init_91 : decode cXs_init 91 = .ok (.newarray .int, 2) := by decide +kernel
theorem dXs_init_93 : decode cXs_init 93 = .ok (.putfield 53, 3) := by decide +kernel
theorem dXs_init_96 : decode cXs_init 96 = .ok (.aload_n 0, 1) := by decide +kernel
theorem dXs_init_97 : decode cXs_init 97 = .ok (.bipush 8, 2) := by decide +kernel
theorem dXs_init_99 : decode cXs_init 99 = .ok (.newarray .boolean, 2) := by decide +kernel
theorem dXs_init_101 : decode cXs_init 101 = .ok (.putfield 56, 3) := by decide +kernel
theorem dXs_init_104 : decode cXs_init 104 = .ok (.aload_n 0, 1) := by decide +kernel
theorem dXs_init_105 : decode cXs_init 105 = .ok (.bipush 8, 2) := by decide +kernel
theorem dXs_init_107 : decode cXs_init 107 = .ok (.newarray .boolean, 2) := by decide +kernel
theorem dXs_init_109 : decode cXs_init 109 = .ok (.putfield 60, 3) := by decide +kernel
theorem dXs_init_112 : decode cXs_init 112 = .ok (.aload_n 0, 1) := by decide +kernel
theorem dXs_init_113 : decode cXs_init 113 = .ok (.iconst 0, 1) := by decide +kernel
theorem dXs_init_114 : decode cXs_init 114 = .ok (.putfield 63, 3) := by decide +kernel
theorem dXs_init_117 : decode cXs_init 117 = .ok (.aload_n 0, 1) := by decide +kernel
theorem dXs_init_118 : decode cXs_init 118 = .ok (.bipush 10, 2) := by decide +kernel
theorem dXs_init_120 : decode cXs_init 120 = .ok (.putfield 67, 3) := by decide +kernel
theorem dXs_init_123 : decode cXs_init 123 = .ok (.return_, 1) := by decide +kernel
theorem dXs_requireThread_0 : decode cXs_requireThread 0 = .ok (.iload_n 0, 1) := by decide +kernel
theorem dXs_requireThread_1 : decode cXs_requireThread 1 = .ok (.ifCond .lt 9, 3) := by decide +kernel
theorem dXs_requireThread_4 : decode cXs_requireThread 4 = .ok (.iload_n 0, 1) := by decide +kernel
theorem dXs_requireThread_5 : decode cXs_requireThread 5 = .ok (.bipush 8, 2) := by decide +kernel
theorem dXs_requireThread_7 : decode cXs_requireThread 7 = .ok (.if_icmp .lt 13, 3) := by decide +kernel
theorem dXs_requireThread_10 : decode cXs_requireThread 10 = .ok (.new 74, 3) := by decide +kernel
theorem dXs_requireThread_13 : decode cXs_requireThread 13 = .ok (.dup, 1) := by decide +kernel
theorem dXs_requireThread_14 : decode cXs_requireThread 14 = .ok (.ldc 225, 2) := by decide +kernel
theorem dXs_requireThread_16 : decode cXs_requireThread 16 = .ok (.invokespecial 78, 3) := by decide +kernel
theorem dXs_requireThread_19 : decode cXs_requireThread 19 = .ok (.athrow, 1) := by decide +kernel
theorem dXs_requireThread_20 : decode cXs_requireThread 20 = .ok (.return_, 1) := by decide +kernel
theorem dXs_requireNoTurnYet_0 : decode cXs_requireNoTurnYet 0 = .ok (.aload_n 0, 1) := by decide +kernel
theorem dXs_requireNoTurnYet_1 : decode cXs_requireNoTurnYet 1 = .ok (.getfield 60, 3) := by decide +kernel
theorem dXs_requireNoTurnYet_4 : decode cXs_requireNoTurnYet 4 = .ok (.iload_n 1, 1) := by decide +kernel
theorem dXs_requireNoTurnYet_5 : decode cXs_requireNoTurnYet 5 = .ok (.baload, 1) := by decide +kernel
theorem dXs_requireNoTurnYet_6 : decode cXs_requireNoTurnYet 6 = .ok (.ifCond .eq 13, 3) := by decide +kernel
theorem dXs_requireNoTurnYet_9 : decode cXs_requireNoTurnYet 9 = .ok (.new 143, 3) := by decide +kernel
theorem dXs_requireNoTurnYet_12 : decode cXs_requireNoTurnYet 12 = .ok (.dup, 1) := by decide +kernel
theorem dXs_requireNoTurnYet_13 : decode cXs_requireNoTurnYet 13 = .ok (.ldc 229, 2) := by decide +kernel
theorem dXs_requireNoTurnYet_15 : decode cXs_requireNoTurnYet 15 = .ok (.invokespecial 147, 3) := by decide +kernel
theorem dXs_requireNoTurnYet_18 : decode cXs_requireNoTurnYet 18 = .ok (.athrow, 1) := by decide +kernel
theorem dXs_requireNoTurnYet_19 : decode cXs_requireNoTurnYet 19 = .ok (.return_, 1) := by decide +kernel
theorem dXp_isFull_0 : decode cXp_isFull 0 = .ok (.aload_n 0, 1) := by decide +kernel
theorem dXp_isFull_1 : decode cXp_isFull 1 = .ok (.getfield 18, 3) := by decide +kernel
theorem dXp_isFull_4 : decode cXp_isFull 4 = .ok (.iload_n 1, 1) := by decide +kernel
theorem dXp_isFull_5 : decode cXp_isFull 5 = .ok (.iaload, 1) := by decide +kernel
theorem dXp_isFull_6 : decode cXp_isFull 6 = .ok (.bipush 16, 2) := by decide +kernel
theorem dXp_isFull_8 : decode cXp_isFull 8 = .ok (.if_icmp .lt 7, 3) := by decide +kernel
theorem dXp_isFull_11 : decode cXp_isFull 11 = .ok (.iconst 1, 1) := by decide +kernel
theorem dXp_isFull_12 : decode cXp_isFull 12 = .ok (.goto 4, 3) := by decide +kernel
theorem dXp_isFull_15 : decode cXp_isFull 15 = .ok (.iconst 0, 1) := by decide +kernel
theorem dXp_isFull_16 : decode cXp_isFull 16 = .ok (.ireturn, 1) := by decide +kernel
theorem dXp_add_0 : decode cXp_add 0 = .ok (.iload_n 1, 1) := by decide +kernel
theorem dXp_add_1 : decode cXp_add 1 = .ok (.bipush 16, 2) := by decide +kernel
theorem dXp_add_3 : decode cXp_add 3 = .ok (.imul, 1) := by decide +kernel
theorem dXp_add_4 : decode cXp_add 4 = .ok (.aload_n 0, 1) := by decide +kernel
theorem dXp_add_5 : decode cXp_add 5 = .ok (.getfield 18, 3) := by decide +kernel
theorem dXp_add_8 : decode cXp_add 8 = .ok (.iload_n 1, 1) := by decide +kernel
theorem dXp_add_9 : decode cXp_add 9 = .ok (.iaload, 1) := by decide +kernel
theorem dXp_add_10 : decode cXp_add 10 = .ok (.iadd, 1) := by decide +kernel
theorem dXp_add_11 : decode cXp_add 11 = .ok (.istore 4, 2) := by decide +kernel
theorem dXp_add_13 : decode cXp_add 13 = .ok (.aload_n 0, 1) := by decide +kernel
theorem dXp_add_14 : decode cXp_add 14 = .ok (.getfield 9, 3) := by decide +kernel
theorem dXp_add_17 : decode cXp_add 17 = .ok (.iload 4, 2) := by decide +kernel
theorem dXp_add_19 : decode cXp_add 19 = .ok (.iload_n 2, 1) := by decide +kernel
theorem dXp_add_20 : decode cXp_add 20 = .ok (.iastore, 1) := by decide +kernel
theorem dXp_add_21 : decode cXp_add 21 = .ok (.aload_n 0, 1) := by decide +kernel
theorem dXp_add_22 : decode cXp_add 22 = .ok (.getfield 15, 3) := by decide +kernel
theorem dXp_add_25 : decode cXp_add 25 = .ok (.iload 4, 2) := by decide +kernel
theorem dXp_add_27 : decode cXp_add 27 = .ok (.iload_n 3, 1) := by decide +kernel
theorem dXp_add_28 : decode cXp_add 28 = .ok (.iastore, 1) := by decide +kernel
theorem dXp_add_29 : decode cXp_add 29 = .ok (.aload_n 0, 1) := by decide +kernel
theorem dXp_add_30 : decode cXp_add 30 = .ok (.getfield 18, 3) := by decide +kernel
theorem dXp_add_33 : decode cXp_add 33 = .ok (.iload_n 1, 1) := by decide +kernel
theorem dXp_add_34 : decode cXp_add 34 = .ok (.dup2, 1) := by decide +kernel
theorem dXp_add_35 : decode cXp_add 35 = .ok (.iaload, 1) := by decide +kernel
theorem dXp_add_36 : decode cXp_add 36 = .ok (.iconst 1, 1) := by decide +kernel
theorem dXp_add_37 : decode cXp_add 37 = .ok (.iadd, 1) := by decide +kernel
theorem dXp_add_38 : decode cXp_add 38 = .ok (.iastore, 1) := by decide +kernel
theorem dXp_add_39 : decode cXp_add 39 = .ok (.aload_n 0, 1) := by decide +kernel
theorem dXp_add_40 : decode cXp_add 40 = .ok (.getfield 18, 3) := by decide +kernel
theorem dXp_add_43 : decode cXp_add 43 = .ok (.iload_n 1, 1) := by decide +kernel
theorem dXp_add_44 : decode cXp_add 44 = .ok (.iaload, 1) := by decide +kernel
theorem dXp_add_45 : decode cXp_add 45 = .ok (.ireturn, 1) := by decide +kernel
theorem dXs_act_0 : decode cXs_act 0 = .ok (.iload_n 1, 1) := by decide +kernel
theorem dXs_act_1 : decode cXs_act 1 = .ok (.invokestatic 70, 3) := by decide +kernel
theorem dXs_act_4 : decode cXs_act 4 = .ok (.iload_n 2, 1) := by decide +kernel
theorem dXs_act_5 : decode cXs_act 5 = .ok (.ifCond .lt 9, 3) := by decide +kernel
theorem dXs_act_8 : decode cXs_act 8 = .ok (.iload_n 2, 1) := by decide +kernel
theorem dXs_act_9 : decode cXs_act 9 = .ok (.bipush 6, 2) := by decide +kernel
theorem dXs_act_11 : decode cXs_act 11 = .ok (.if_icmp .le 13, 3) := by decide +kernel
theorem dXs_act_14 : decode cXs_act 14 = .ok (.new 74, 3) := by decide +kernel
theorem dXs_act_17 : decode cXs_act 17 = .ok (.dup, 1) := by decide +kernel
theorem dXs_act_18 : decode cXs_act 18 = .ok (.ldc 76, 2) := by decide +kernel
theorem dXs_act_20 : decode cXs_act 20 = .ok (.invokespecial 78, 3) := by decide +kernel
theorem dXs_act_23 : decode cXs_act 23 = .ok (.athrow, 1) := by decide +kernel
theorem dXs_act_24 : decode cXs_act 24 = .ok (.iload_n 3, 1) := by decide +kernel
theorem dXs_act_25 : decode cXs_act 25 = .ok (.ifCond .lt 10, 3) := by decide +kernel
theorem dXs_act_28 : decode cXs_act 28 = .ok (.iload_n 3, 1) := by decide +kernel
theorem dXs_act_29 : decode cXs_act 29 = .ok (.sipush 255, 3) := by decide +kernel
theorem dXs_act_32 : decode cXs_act 32 = .ok (.if_icmp .le 13, 3) := by decide +kernel
theorem dXs_act_35 : decode cXs_act 35 = .ok (.new 81, 3) := by decide +kernel
theorem dXs_act_38 : decode cXs_act 38 = .ok (.dup, 1) := by decide +kernel
theorem dXs_act_39 : decode cXs_act 39 = .ok (.ldc 83, 2) := by decide +kernel
theorem dXs_act_41 : decode cXs_act 41 = .ok (.invokespecial 85, 3) := by decide +kernel
theorem dXs_act_44 : decode cXs_act 44 = .ok (.athrow, 1) := by decide +kernel
theorem dXs_act_45 : decode cXs_act 45 = .ok (.aload_n 0, 1) := by decide +kernel
theorem dXs_act_46 : decode cXs_act 46 = .ok (.iload_n 1, 1) := by decide +kernel
theorem dXs_act_47 : decode cXs_act 47 = .ok (.invokevirtual 86, 3) := by decide +kernel
theorem dXs_act_50 : decode cXs_act 50 = .ok (.aload_n 0, 1) := by decide +kernel
theorem dXs_act_51 : decode cXs_act 51 = .ok (.getfield 10, 3) := by decide +kernel
theorem dXs_act_54 : decode cXs_act 54 = .ok (.iload_n 1, 1) := by decide +kernel
theorem dXs_act_55 : decode cXs_act 55 = .ok (.invokevirtual 89, 3) := by decide +kernel
theorem dXs_act_58 : decode cXs_act 58 = .ok (.ifCond .eq 13, 3) := by decide +kernel
theorem dXs_act_61 : decode cXs_act 61 = .ok (.new 93, 3) := by decide +kernel
theorem dXs_act_64 : decode cXs_act 64 = .ok (.dup, 1) := by decide +kernel
theorem dXs_act_65 : decode cXs_act 65 = .ok (.ldc 95, 2) := by decide +kernel
theorem dXs_act_67 : decode cXs_act 67 = .ok (.invokespecial 97, 3) := by decide +kernel
theorem dXs_act_70 : decode cXs_act 70 = .ok (.athrow, 1) := by decide +kernel
theorem dXs_act_71 : decode cXs_act 71 = .ok (.aload_n 0, 1) := by decide +kernel
theorem dXs_act_72 : decode cXs_act 72 = .ok (.getfield 10, 3) := by decide +kernel
theorem dXs_act_75 : decode cXs_act 75 = .ok (.iload_n 1, 1) := by decide +kernel
theorem dXs_act_76 : decode cXs_act 76 = .ok (.iload_n 2, 1) := by decide +kernel
theorem dXs_act_77 : decode cXs_act 77 = .ok (.iload_n 3, 1) := by decide +kernel
theorem dXs_act_78 : decode cXs_act 78 = .ok (.invokevirtual 98, 3) := by decide +kernel
theorem dXs_act_81 : decode cXs_act 81 = .ok (.ireturn, 1) := by decide +kernel
theorem dXp_actsOf_0 : decode cXp_actsOf 0 = .ok (.aload_n 0, 1) := by decide +kernel
theorem dXp_actsOf_1 : decode cXp_actsOf 1 = .ok (.getfield 18, 3) := by decide +kernel
theorem dXp_actsOf_4 : decode cXp_actsOf 4 = .ok (.iload_n 1, 1) := by decide +kernel
theorem dXp_actsOf_5 : decode cXp_actsOf 5 = .ok (.iaload, 1) := by decide +kernel
theorem dXp_actsOf_6 : decode cXp_actsOf 6 = .ok (.ireturn, 1) := by decide +kernel
theorem dXp_setFinish_0 : decode cXp_setFinish 0 = .ok (.aload_n 0, 1) := by decide +kernel
theorem dXp_setFinish_1 : decode cXp_setFinish 1 = .ok (.getfield 21, 3) := by decide +kernel
theorem dXp_setFinish_4 : decode cXp_setFinish 4 = .ok (.iload_n 1, 1) := by decide +kernel
theorem dXp_setFinish_5 : decode cXp_setFinish 5 = .ok (.iload_n 2, 1) := by decide +kernel
theorem dXp_setFinish_6 : decode cXp_setFinish 6 = .ok (.aload_n 0, 1) := by decide +kernel
theorem dXp_setFinish_7 : decode cXp_setFinish 7 = .ok (.getfield 18, 3) := by decide +kernel
theorem dXp_setFinish_10 : decode cXp_setFinish 10 = .ok (.iload_n 1, 1) := by decide +kernel
theorem dXp_setFinish_11 : decode cXp_setFinish 11 = .ok (.iaload, 1) := by decide +kernel
theorem dXp_setFinish_12 : decode cXp_setFinish 12 = .ok (.if_icmp .ne 7, 3) := by decide +kernel
theorem dXp_setFinish_15 : decode cXp_setFinish 15 = .ok (.iconst (-1), 1) := by decide +kernel
theorem dXp_setFinish_16 : decode cXp_setFinish 16 = .ok (.goto 4, 3) := by decide +kernel
theorem dXp_setFinish_19 : decode cXp_setFinish 19 = .ok (.iload_n 2, 1) := by decide +kernel
theorem dXp_setFinish_20 : decode cXp_setFinish 20 = .ok (.iastore, 1) := by decide +kernel
theorem dXp_setFinish_21 : decode cXp_setFinish 21 = .ok (.return_, 1) := by decide +kernel
theorem dXs_finish_0 : decode cXs_finish 0 = .ok (.iload_n 1, 1) := by decide +kernel
theorem dXs_finish_1 : decode cXs_finish 1 = .ok (.invokestatic 70, 3) := by decide +kernel
theorem dXs_finish_4 : decode cXs_finish 4 = .ok (.iload_n 2, 1) := by decide +kernel
theorem dXs_finish_5 : decode cXs_finish 5 = .ok (.ifCond .lt 15, 3) := by decide +kernel
theorem dXs_finish_8 : decode cXs_finish 8 = .ok (.iload_n 2, 1) := by decide +kernel
theorem dXs_finish_9 : decode cXs_finish 9 = .ok (.aload_n 0, 1) := by decide +kernel
theorem dXs_finish_10 : decode cXs_finish 10 = .ok (.getfield 10, 3) := by decide +kernel
theorem dXs_finish_13 : decode cXs_finish 13 = .ok (.iload_n 1, 1) := by decide +kernel
theorem dXs_finish_14 : decode cXs_finish 14 = .ok (.invokevirtual 102, 3) := by decide +kernel
theorem dXs_finish_17 : decode cXs_finish 17 = .ok (.if_icmp .le 13, 3) := by decide +kernel
theorem dXs_finish_20 : decode cXs_finish 20 = .ok (.new 81, 3) := by decide +kernel
theorem dXs_finish_23 : decode cXs_finish 23 = .ok (.dup, 1) := by decide +kernel
theorem dXs_finish_24 : decode cXs_finish 24 = .ok (.ldc 106, 2) := by decide +kernel
theorem dXs_finish_26 : decode cXs_finish 26 = .ok (.invokespecial 85, 3) := by decide +kernel
theorem dXs_finish_29 : decode cXs_finish 29 = .ok (.athrow, 1) := by decide +kernel
theorem dXs_finish_30 : decode cXs_finish 30 = .ok (.aload_n 0, 1) := by decide +kernel
theorem dXs_finish_31 : decode cXs_finish 31 = .ok (.iload_n 1, 1) := by decide +kernel
theorem dXs_finish_32 : decode cXs_finish 32 = .ok (.invokevirtual 86, 3) := by decide +kernel
theorem dXs_finish_35 : decode cXs_finish 35 = .ok (.aload_n 0, 1) := by decide +kernel
theorem dXs_finish_36 : decode cXs_finish 36 = .ok (.getfield 10, 3) := by decide +kernel
theorem dXs_finish_39 : decode cXs_finish 39 = .ok (.iload_n 1, 1) := by decide +kernel
theorem dXs_finish_40 : decode cXs_finish 40 = .ok (.iload_n 2, 1) := by decide +kernel
theorem dXs_finish_41 : decode cXs_finish 41 = .ok (.invokevirtual 108, 3) := by decide +kernel
theorem dXs_finish_44 : decode cXs_finish 44 = .ok (.return_, 1) := by decide +kernel
theorem dXc_isFull_0 : decode cXc_isFull 0 = .ok (.aload_n 0, 1) := by decide +kernel
theorem dXc_isFull_1 : decode cXc_isFull 1 = .ok (.getfield 31, 3) := by decide +kernel
theorem dXc_isFull_4 : decode cXc_isFull 4 = .ok (.bipush 16, 2) := by decide +kernel
theorem dXc_isFull_6 : decode cXc_isFull 6 = .ok (.if_icmp .lt 7, 3) := by decide +kernel
theorem dXc_isFull_9 : decode cXc_isFull 9 = .ok (.iconst 1, 1) := by decide +kernel
theorem dXc_isFull_10 : decode cXc_isFull 10 = .ok (.goto 4, 3) := by decide +kernel
theorem dXc_isFull_13 : decode cXc_isFull 13 = .ok (.iconst 0, 1) := by decide +kernel
theorem dXc_isFull_14 : decode cXc_isFull 14 = .ok (.ireturn, 1) := by decide +kernel
theorem dXc_isKnown_0 : decode cXc_isKnown 0 = .ok (.iload_n 1, 1) := by decide +kernel
theorem dXc_isKnown_1 : decode cXc_isKnown 1 = .ok (.ifCond .lt 15, 3) := by decide +kernel
theorem dXc_isKnown_4 : decode cXc_isKnown 4 = .ok (.iload_n 1, 1) := by decide +kernel
theorem dXc_isKnown_5 : decode cXc_isKnown 5 = .ok (.aload_n 0, 1) := by decide +kernel
theorem dXc_isKnown_6 : decode cXc_isKnown 6 = .ok (.getfield 31, 3) := by decide +kernel
theorem dXc_isKnown_9 : decode cXc_isKnown 9 = .ok (.if_icmp .ge 7, 3) := by decide +kernel
theorem dXc_isKnown_12 : decode cXc_isKnown 12 = .ok (.iconst 1, 1) := by decide +kernel
theorem dXc_isKnown_13 : decode cXc_isKnown 13 = .ok (.goto 4, 3) := by decide +kernel
theorem dXc_isKnown_16 : decode cXc_isKnown 16 = .ok (.iconst 0, 1) := by decide +kernel
theorem dXc_isKnown_17 : decode cXc_isKnown 17 = .ok (.ireturn, 1) := by decide +kernel
theorem dXc_isOpenOf_0 : decode cXc_isOpenOf 0 = .ok (.aload_n 0, 1) := by decide +kernel
theorem dXc_isOpenOf_1 : decode cXc_isOpenOf 1 = .ok (.iload_n 1, 1) := by decide +kernel
theorem dXc_isOpenOf_2 : decode cXc_isOpenOf 2 = .ok (.invokevirtual 35, 3) := by decide +kernel
theorem dXc_isOpenOf_5 : decode cXc_isOpenOf 5 = .ok (.ifCond .eq 26, 3) := by decide +kernel
theorem dXc_isOpenOf_8 : decode cXc_isOpenOf 8 = .ok (.aload_n 0, 1) := by decide +kernel
theorem dXc_isOpenOf_9 : decode cXc_isOpenOf 9 = .ok (.getfield 21, 3) := by decide +kernel
theorem dXc_isOpenOf_12 : decode cXc_isOpenOf 12 = .ok (.iload_n 1, 1) := by decide +kernel
theorem dXc_isOpenOf_13 : decode cXc_isOpenOf 13 = .ok (.baload, 1) := by decide +kernel
theorem dXc_isOpenOf_14 : decode cXc_isOpenOf 14 = .ok (.ifCond .eq 17, 3) := by decide +kernel
theorem dXc_isOpenOf_17 : decode cXc_isOpenOf 17 = .ok (.aload_n 0, 1) := by decide +kernel
theorem dXc_isOpenOf_18 : decode cXc_isOpenOf 18 = .ok (.getfield 15, 3) := by decide +kernel
theorem dXc_isOpenOf_21 : decode cXc_isOpenOf 21 = .ok (.iload_n 1, 1) := by decide +kernel
theorem dXc_isOpenOf_22 : decode cXc_isOpenOf 22 = .ok (.iaload, 1) := by decide +kernel
theorem dXc_isOpenOf_23 : decode cXc_isOpenOf 23 = .ok (.iload_n 2, 1) := by decide +kernel
theorem dXc_isOpenOf_24 : decode cXc_isOpenOf 24 = .ok (.if_icmp .ne 7, 3) := by decide +kernel
theorem dXc_isOpenOf_27 : decode cXc_isOpenOf 27 = .ok (.iconst 1, 1) := by decide +kernel
theorem dXc_isOpenOf_28 : decode cXc_isOpenOf 28 = .ok (.goto 4, 3) := by decide +kernel
theorem dXc_isOpenOf_31 : decode cXc_isOpenOf 31 = .ok (.iconst 0, 1) := by decide +kernel
theorem dXc_isOpenOf_32 : decode cXc_isOpenOf 32 = .ok (.ireturn, 1) := by decide +kernel
theorem dXc_highestOpenRankOf_0 : decode cXc_highestOpenRankOf 0 = .ok (.iconst (-1), 1) := by decide +kernel
theorem dXc_highestOpenRankOf_1 : decode cXc_highestOpenRankOf 1 = .ok (.istore_n 2, 1) := by decide +kernel
theorem dXc_highestOpenRankOf_2 : decode cXc_highestOpenRankOf 2 = .ok (.iconst 0, 1) := by decide +kernel
theorem dXc_highestOpenRankOf_3 : decode cXc_highestOpenRankOf 3 = .ok (.istore_n 3, 1) := by decide +kernel
theorem dXc_highestOpenRankOf_4 : decode cXc_highestOpenRankOf 4 = .ok (.iload_n 3, 1) := by decide +kernel
theorem dXc_highestOpenRankOf_5 : decode cXc_highestOpenRankOf 5 = .ok (.aload_n 0, 1) := by decide +kernel
theorem dXc_highestOpenRankOf_6 : decode cXc_highestOpenRankOf 6 = .ok (.getfield 31, 3) := by decide +kernel
theorem dXc_highestOpenRankOf_9 : decode cXc_highestOpenRankOf 9 = .ok (.if_icmp .ge 29, 3) := by decide +kernel
theorem dXc_highestOpenRankOf_12 : decode cXc_highestOpenRankOf 12 = .ok (.aload_n 0, 1) := by decide +kernel
theorem dXc_highestOpenRankOf_13 : decode cXc_highestOpenRankOf 13 = .ok (.iload_n 3, 1) := by decide +kernel
theorem dXc_highestOpenRankOf_14 : decode cXc_highestOpenRankOf 14 = .ok (.iload_n 1, 1) := by decide +kernel
theorem dXc_highestOpenRankOf_15 : decode cXc_highestOpenRankOf 15 = .ok (.invokevirtual 39, 3) := by decide +kernel
theorem dXc_highestOpenRankOf_18 : decode cXc_highestOpenRankOf 18 = .ok (.ifCond .eq 14, 3) := by decide +kernel
theorem dXc_highestOpenRankOf_21 : decode cXc_highestOpenRankOf 21 = .ok (.iload_n 2, 1) := by decide +kernel
theorem dXc_highestOpenRankOf_22 : decode cXc_highestOpenRankOf 22 = .ok (.aload_n 0, 1) := by decide +kernel
theorem dXc_highestOpenRankOf_23 : decode cXc_highestOpenRankOf 23 = .ok (.getfield 9, 3) := by decide +kernel
theorem dXc_highestOpenRankOf_26 : decode cXc_highestOpenRankOf 26 = .ok (.iload_n 3, 1) := by decide +kernel
theorem dXc_highestOpenRankOf_27 : decode cXc_highestOpenRankOf 27 = .ok (.iaload, 1) := by decide +kernel
theorem dXc_highestOpenRankOf_28 : decode cXc_highestOpenRankOf 28 = .ok (.invokestatic 43, 3) := by decide +kernel
theorem dXc_highestOpenRankOf_31 : decode cXc_highestOpenRankOf 31 = .ok (.istore_n 2, 1) := by decide +kernel
theorem dXc_highestOpenRankOf_32 : decode cXc_highestOpenRankOf 32 = .ok (.iinc 3 1, 3) := by decide +kernel
theorem dXc_highestOpenRankOf_35 : decode cXc_highestOpenRankOf 35 = .ok (.goto (-31), 3) := by decide +kernel
theorem dXc_highestOpenRankOf_38 : decode cXc_highestOpenRankOf 38 = .ok (.iload_n 2, 1) := by decide +kernel
theorem dXc_highestOpenRankOf_39 : decode cXc_highestOpenRankOf 39 = .ok (.ireturn, 1) := by decide +kernel
theorem dXs_interruptResting_0 : decode cXs_interruptResting 0 = .ok (.iconst 0, 1) := by decide +kernel
theorem dXs_interruptResting_1 : decode cXs_interruptResting 1 = .ok (.istore_n 2, 1) := by decide +kernel
theorem dXs_interruptResting_2 : decode cXs_interruptResting 2 = .ok (.iload_n 2, 1) := by decide +kernel
theorem dXs_interruptResting_3 : decode cXs_interruptResting 3 = .ok (.bipush 8, 2) := by decide +kernel
theorem dXs_interruptResting_5 : decode cXs_interruptResting 5 = .ok (.if_icmp .ge 56, 3) := by decide +kernel
theorem dXs_interruptResting_8 : decode cXs_interruptResting 8 = .ok (.aload_n 0, 1) := by decide +kernel
theorem dXs_interruptResting_9 : decode cXs_interruptResting 9 = .ok (.getfield 37, 3) := by decide +kernel
theorem dXs_interruptResting_12 : decode cXs_interruptResting 12 = .ok (.iload_n 2, 1) := by decide +kernel
theorem dXs_interruptResting_13 : decode cXs_interruptResting 13 = .ok (.iaload, 1) := by decide +kernel
theorem dXs_interruptResting_14 : decode cXs_interruptResting 14 = .ok (.ifCond .ne 16, 3) := by decide +kernel
theorem dXs_interruptResting_17 : decode cXs_interruptResting 17 = .ok (.aload_n 0, 1) := by decide +kernel
theorem dXs_interruptResting_18 : decode cXs_interruptResting 18 = .ok (.getfield 47, 3) := by decide +kernel
theorem dXs_interruptResting_21 : decode cXs_interruptResting 21 = .ok (.iload_n 2, 1) := by decide +kernel
theorem dXs_interruptResting_22 : decode cXs_interruptResting 22 = .ok (.iaload, 1) := by decide +kernel
theorem dXs_interruptResting_23 : decode cXs_interruptResting 23 = .ok (.ifCond .le 7, 3) := by decide +kernel
theorem dXs_interruptResting_26 : decode cXs_interruptResting 26 = .ok (.iconst 1, 1) := by decide +kernel
theorem dXs_interruptResting_27 : decode cXs_interruptResting 27 = .ok (.goto 4, 3) := by decide +kernel
theorem dXs_interruptResting_30 : decode cXs_interruptResting 30 = .ok (.iconst 0, 1) := by decide +kernel
theorem dXs_interruptResting_31 : decode cXs_interruptResting 31 = .ok (.istore_n 3, 1) := by decide +kernel
theorem dXs_interruptResting_32 : decode cXs_interruptResting 32 = .ok (.iload_n 3, 1) := by decide +kernel
theorem dXs_interruptResting_33 : decode cXs_interruptResting 33 = .ok (.ifCond .eq 22, 3) := by decide +kernel
theorem dXs_interruptResting_36 : decode cXs_interruptResting 36 = .ok (.iload_n 1, 1) := by decide +kernel
theorem dXs_interruptResting_37 : decode cXs_interruptResting 37 = .ok (.aload_n 0, 1) := by decide +kernel
theorem dXs_interruptResting_38 : decode cXs_interruptResting 38 = .ok (.getfield 26, 3) := by decide +kernel
theorem dXs_interruptResting_41 : decode cXs_interruptResting 41 = .ok (.iload_n 2, 1) := by decide +kernel
theorem dXs_interruptResting_42 : decode cXs_interruptResting 42 = .ok (.invokevirtual 279, 3) := by decide +kernel
theorem dXs_interruptResting_45 : decode cXs_interruptResting 45 = .ok (.if_icmp .le 10, 3) := by decide +kernel
theorem dXs_interruptResting_48 : decode cXs_interruptResting 48 = .ok (.aload_n 0, 1) := by decide +kernel
theorem dXs_interruptResting_49 : decode cXs_interruptResting 49 = .ok (.getfield 56, 3) := by decide +kernel
theorem dXs_interruptResting_52 : decode cXs_interruptResting 52 = .ok (.iload_n 2, 1) := by decide +kernel
theorem dXs_interruptResting_53 : decode cXs_interruptResting 53 = .ok (.iconst 1, 1) := by decide +kernel
theorem dXs_interruptResting_54 : decode cXs_interruptResting 54 = .ok (.bastore, 1) := by decide +kernel
theorem dXs_interruptResting_55 : decode cXs_interruptResting 55 = .ok (.iinc 2 1, 3) := by decide +kernel
theorem dXs_interruptResting_58 : decode cXs_interruptResting 58 = .ok (.goto (-56), 3) := by decide +kernel
theorem dXs_interruptResting_61 : decode cXs_interruptResting 61 = .ok (.return_, 1) := by decide +kernel
theorem dXc_add_0 : decode cXc_add 0 = .ok (.aload_n 0, 1) := by decide +kernel
theorem dXc_add_1 : decode cXc_add 1 = .ok (.getfield 31, 3) := by decide +kernel
theorem dXc_add_4 : decode cXc_add 4 = .ok (.istore_n 2, 1) := by decide +kernel
theorem dXc_add_5 : decode cXc_add 5 = .ok (.aload_n 0, 1) := by decide +kernel
theorem dXc_add_6 : decode cXc_add 6 = .ok (.getfield 9, 3) := by decide +kernel
theorem dXc_add_9 : decode cXc_add 9 = .ok (.iload_n 2, 1) := by decide +kernel
theorem dXc_add_10 : decode cXc_add 10 = .ok (.iload_n 1, 1) := by decide +kernel
theorem dXc_add_11 : decode cXc_add 11 = .ok (.iastore, 1) := by decide +kernel
theorem dXc_add_12 : decode cXc_add 12 = .ok (.aload_n 0, 1) := by decide +kernel
theorem dXc_add_13 : decode cXc_add 13 = .ok (.getfield 21, 3) := by decide +kernel
theorem dXc_add_16 : decode cXc_add 16 = .ok (.iload_n 2, 1) := by decide +kernel
theorem dXc_add_17 : decode cXc_add 17 = .ok (.iconst 1, 1) := by decide +kernel
theorem dXc_add_18 : decode cXc_add 18 = .ok (.bastore, 1) := by decide +kernel
theorem dXc_add_19 : decode cXc_add 19 = .ok (.aload_n 0, 1) := by decide +kernel
theorem dXc_add_20 : decode cXc_add 20 = .ok (.dup, 1) := by decide +kernel
theorem dXc_add_21 : decode cXc_add 21 = .ok (.getfield 31, 3) := by decide +kernel
theorem dXc_add_24 : decode cXc_add 24 = .ok (.iconst 1, 1) := by decide +kernel
theorem dXc_add_25 : decode cXc_add 25 = .ok (.iadd, 1) := by decide +kernel
theorem dXc_add_26 : decode cXc_add 26 = .ok (.putfield 31, 3) := by decide +kernel
theorem dXc_add_29 : decode cXc_add 29 = .ok (.iload_n 2, 1) := by decide +kernel
theorem dXc_add_30 : decode cXc_add 30 = .ok (.ireturn, 1) := by decide +kernel
theorem dXs_call_0 : decode cXs_call 0 = .ok (.iload_n 1, 1) := by decide +kernel
theorem dXs_call_1 : decode cXs_call 1 = .ok (.ifCond .lt 8, 3) := by decide +kernel
theorem dXs_call_4 : decode cXs_call 4 = .ok (.iload_n 1, 1) := by decide +kernel
theorem dXs_call_5 : decode cXs_call 5 = .ok (.iconst 3, 1) := by decide +kernel
theorem dXs_call_6 : decode cXs_call 6 = .ok (.if_icmp .le 13, 3) := by decide +kernel
theorem dXs_call_9 : decode cXs_call 9 = .ok (.new 81, 3) := by decide +kernel
theorem dXs_call_12 : decode cXs_call 12 = .ok (.dup, 1) := by decide +kernel
theorem dXs_call_13 : decode cXs_call 13 = .ok (.ldc 112, 2) := by decide +kernel
theorem dXs_call_15 : decode cXs_call 15 = .ok (.invokespecial 85, 3) := by decide +kernel
theorem dXs_call_18 : decode cXs_call 18 = .ok (.athrow, 1) := by decide +kernel
theorem dXs_call_19 : decode cXs_call 19 = .ok (.aload_n 0, 1) := by decide +kernel
theorem dXs_call_20 : decode cXs_call 20 = .ok (.getfield 26, 3) := by decide +kernel
theorem dXs_call_23 : decode cXs_call 23 = .ok (.invokevirtual 114, 3) := by decide +kernel
theorem dXs_call_26 : decode cXs_call 26 = .ok (.ifCond .eq 13, 3) := by decide +kernel
theorem dXs_call_29 : decode cXs_call 29 = .ok (.new 93, 3) := by decide +kernel
theorem dXs_call_32 : decode cXs_call 32 = .ok (.dup, 1) := by decide +kernel
theorem dXs_call_33 : decode cXs_call 33 = .ok (.ldc 117, 2) := by decide +kernel
theorem dXs_call_35 : decode cXs_call 35 = .ok (.invokespecial 97, 3) := by decide +kernel
theorem dXs_call_38 : decode cXs_call 38 = .ok (.athrow, 1) := by decide +kernel
theorem dXs_call_39 : decode cXs_call 39 = .ok (.aload_n 0, 1) := by decide +kernel
theorem dXs_call_40 : decode cXs_call 40 = .ok (.iload_n 1, 1) := by decide +kernel
theorem dXs_call_41 : decode cXs_call 41 = .ok (.invokevirtual 119, 3) := by decide +kernel
theorem dXs_call_44 : decode cXs_call 44 = .ok (.aload_n 0, 1) := by decide +kernel
theorem dXs_call_45 : decode cXs_call 45 = .ok (.getfield 26, 3) := by decide +kernel
theorem dXs_call_48 : decode cXs_call 48 = .ok (.iload_n 1, 1) := by decide +kernel
theorem dXs_call_49 : decode cXs_call 49 = .ok (.invokevirtual 122, 3) := by decide +kernel
theorem dXs_call_52 : decode cXs_call 52 = .ok (.ireturn, 1) := by decide +kernel
theorem dXs_requireRunning_0 : decode cXs_requireRunning 0 = .ok (.aload_n 0, 1) := by decide +kernel
theorem dXs_requireRunning_1 : decode cXs_requireRunning 1 = .ok (.getfield 37, 3) := by decide +kernel
theorem dXs_requireRunning_4 : decode cXs_requireRunning 4 = .ok (.iload_n 1, 1) := by decide +kernel
theorem dXs_requireRunning_5 : decode cXs_requireRunning 5 = .ok (.iaload, 1) := by decide +kernel
theorem dXs_requireRunning_6 : decode cXs_requireRunning 6 = .ok (.ifCond .eq 13, 3) := by decide +kernel
theorem dXs_requireRunning_9 : decode cXs_requireRunning 9 = .ok (.new 143, 3) := by decide +kernel
theorem dXs_requireRunning_12 : decode cXs_requireRunning 12 = .ok (.dup, 1) := by decide +kernel
theorem dXs_requireRunning_13 : decode cXs_requireRunning 13 = .ok (.ldc 227, 2) := by decide +kernel
theorem dXs_requireRunning_15 : decode cXs_requireRunning 15 = .ok (.invokespecial 147, 3) := by decide +kernel
theorem dXs_requireRunning_18 : decode cXs_requireRunning 18 = .ok (.athrow, 1) := by decide +kernel
theorem dXs_requireRunning_19 : decode cXs_requireRunning 19 = .ok (.return_, 1) := by decide +kernel
theorem dXu_freeAllOf_0 : decode cXu_freeAllOf 0 = .ok (.iconst 0, 1) := by decide +kernel
theorem dXu_freeAllOf_1 : decode cXu_freeAllOf 1 = .ok (.istore_n 2, 1) := by decide +kernel
theorem dXu_freeAllOf_2 : decode cXu_freeAllOf 2 = .ok (.iload_n 2, 1) := by decide +kernel
theorem dXu_freeAllOf_3 : decode cXu_freeAllOf 3 = .ok (.bipush 10, 2) := by decide +kernel
theorem dXu_freeAllOf_5 : decode cXu_freeAllOf 5 = .ok (.if_icmp .ge 26, 3) := by decide +kernel
theorem dXu_freeAllOf_8 : decode cXu_freeAllOf 8 = .ok (.aload_n 0, 1) := by decide +kernel
theorem dXu_freeAllOf_9 : decode cXu_freeAllOf 9 = .ok (.getfield 9, 3) := by decide +kernel
theorem dXu_freeAllOf_12 : decode cXu_freeAllOf 12 = .ok (.iload_n 2, 1) := by decide +kernel
theorem dXu_freeAllOf_13 : decode cXu_freeAllOf 13 = .ok (.iaload, 1) := by decide +kernel
theorem dXu_freeAllOf_14 : decode cXu_freeAllOf 14 = .ok (.iload_n 1, 1) := by decide +kernel
theorem dXu_freeAllOf_15 : decode cXu_freeAllOf 15 = .ok (.if_icmp .ne 10, 3) := by decide +kernel
theorem dXu_freeAllOf_18 : decode cXu_freeAllOf 18 = .ok (.aload_n 0, 1) := by decide +kernel
theorem dXu_freeAllOf_19 : decode cXu_freeAllOf 19 = .ok (.getfield 9, 3) := by decide +kernel
theorem dXu_freeAllOf_22 : decode cXu_freeAllOf 22 = .ok (.iload_n 2, 1) := by decide +kernel
theorem dXu_freeAllOf_23 : decode cXu_freeAllOf 23 = .ok (.iconst (-1), 1) := by decide +kernel
theorem dXu_freeAllOf_24 : decode cXu_freeAllOf 24 = .ok (.iastore, 1) := by decide +kernel
theorem dXu_freeAllOf_25 : decode cXu_freeAllOf 25 = .ok (.iinc 2 1, 3) := by decide +kernel
theorem dXu_freeAllOf_28 : decode cXu_freeAllOf 28 = .ok (.goto (-26), 3) := by decide +kernel
theorem dXu_freeAllOf_31 : decode cXu_freeAllOf 31 = .ok (.return_, 1) := by decide +kernel
theorem dXs_freeLocksThatAreDue_0 : decode cXs_freeLocksThatAreDue 0 = .ok (.iconst 0, 1) := by decide +kernel
theorem dXs_freeLocksThatAreDue_1 : decode cXs_freeLocksThatAreDue 1 = .ok (.istore_n 1, 1) := by decide +kernel
theorem dXs_freeLocksThatAreDue_2 : decode cXs_freeLocksThatAreDue 2 = .ok (.iload_n 1, 1) := by decide +kernel
theorem dXs_freeLocksThatAreDue_3 : decode cXs_freeLocksThatAreDue 3 = .ok (.bipush 8, 2) := by decide +kernel
theorem dXs_freeLocksThatAreDue_5 : decode cXs_freeLocksThatAreDue 5 = .ok (.if_icmp .ge 40, 3) := by decide +kernel
theorem dXs_freeLocksThatAreDue_8 : decode cXs_freeLocksThatAreDue 8 = .ok (.aload_n 0, 1) := by decide +kernel
theorem dXs_freeLocksThatAreDue_9 : decode cXs_freeLocksThatAreDue 9 = .ok (.getfield 37, 3) := by decide +kernel
theorem dXs_freeLocksThatAreDue_12 : decode cXs_freeLocksThatAreDue 12 = .ok (.iload_n 1, 1) := by decide +kernel
theorem dXs_freeLocksThatAreDue_13 : decode cXs_freeLocksThatAreDue 13 = .ok (.iaload, 1) := by decide +kernel
theorem dXs_freeLocksThatAreDue_14 : decode cXs_freeLocksThatAreDue 14 = .ok (.iconst 2, 1) := by decide +kernel
theorem dXs_freeLocksThatAreDue_15 : decode cXs_freeLocksThatAreDue 15 = .ok (.if_icmp .ne 24, 3) := by decide +kernel
theorem dXs_freeLocksThatAreDue_18 : decode cXs_freeLocksThatAreDue 18 = .ok (.aload_n 0, 1) := by decide +kernel
theorem dXs_freeLocksThatAreDue_19 : decode cXs_freeLocksThatAreDue 19 = .ok (.getfield 63, 3) := by decide +kernel
theorem dXs_freeLocksThatAreDue_22 : decode cXs_freeLocksThatAreDue 22 = .ok (.aload_n 0, 1) := by decide +kernel
theorem dXs_freeLocksThatAreDue_23 : decode cXs_freeLocksThatAreDue 23 = .ok (.getfield 53, 3) := by decide +kernel
theorem dXs_freeLocksThatAreDue_26 : decode cXs_freeLocksThatAreDue 26 = .ok (.iload_n 1, 1) := by decide +kernel
theorem dXs_freeLocksThatAreDue_27 : decode cXs_freeLocksThatAreDue 27 = .ok (.iaload, 1) := by decide +kernel
theorem dXs_freeLocksThatAreDue_28 : decode cXs_freeLocksThatAreDue 28 = .ok (.if_icmp .lt 11, 3) := by decide +kernel
theorem dXs_freeLocksThatAreDue_31 : decode cXs_freeLocksThatAreDue 31 = .ok (.aload_n 0, 1) := by decide +kernel
theorem dXs_freeLocksThatAreDue_32 : decode cXs_freeLocksThatAreDue 32 = .ok (.getfield 19, 3) := by decide +kernel
theorem dXs_freeLocksThatAreDue_35 : decode cXs_freeLocksThatAreDue 35 = .ok (.iload_n 1, 1) := by decide +kernel
theorem dXs_freeLocksThatAreDue_36 : decode cXs_freeLocksThatAreDue 36 = .ok (.invokevirtual 134, 3) := by decide +kernel
theorem dXs_freeLocksThatAreDue_39 : decode cXs_freeLocksThatAreDue 39 = .ok (.iinc 1 1, 3) := by decide +kernel
theorem dXs_freeLocksThatAreDue_42 : decode cXs_freeLocksThatAreDue 42 = .ok (.goto (-40), 3) := by decide +kernel
theorem dXs_freeLocksThatAreDue_45 : decode cXs_freeLocksThatAreDue 45 = .ok (.return_, 1) := by decide +kernel
theorem dXs_end_0 : decode cXs_end 0 = .ok (.aload_n 0, 1) := by decide +kernel
theorem dXs_end_1 : decode cXs_end 1 = .ok (.getfield 37, 3) := by decide +kernel
theorem dXs_end_4 : decode cXs_end 4 = .ok (.iload_n 1, 1) := by decide +kernel
theorem dXs_end_5 : decode cXs_end 5 = .ok (.iconst 1, 1) := by decide +kernel
theorem dXs_end_6 : decode cXs_end 6 = .ok (.iastore, 1) := by decide +kernel
theorem dXs_end_7 : decode cXs_end 7 = .ok (.aload_n 0, 1) := by decide +kernel
theorem dXs_end_8 : decode cXs_end 8 = .ok (.getfield 19, 3) := by decide +kernel
theorem dXs_end_11 : decode cXs_end 11 = .ok (.iload_n 1, 1) := by decide +kernel
theorem dXs_end_12 : decode cXs_end 12 = .ok (.invokevirtual 134, 3) := by decide +kernel
theorem dXs_end_15 : decode cXs_end 15 = .ok (.return_, 1) := by decide +kernel
theorem dXp_kindOf_0 : decode cXp_kindOf 0 = .ok (.aload_n 0, 1) := by decide +kernel
theorem dXp_kindOf_1 : decode cXp_kindOf 1 = .ok (.getfield 9, 3) := by decide +kernel
theorem dXp_kindOf_4 : decode cXp_kindOf 4 = .ok (.iload_n 1, 1) := by decide +kernel
theorem dXp_kindOf_5 : decode cXp_kindOf 5 = .ok (.bipush 16, 2) := by decide +kernel
theorem dXp_kindOf_7 : decode cXp_kindOf 7 = .ok (.imul, 1) := by decide +kernel
theorem dXp_kindOf_8 : decode cXp_kindOf 8 = .ok (.iload_n 2, 1) := by decide +kernel
theorem dXp_kindOf_9 : decode cXp_kindOf 9 = .ok (.iadd, 1) := by decide +kernel
theorem dXp_kindOf_10 : decode cXp_kindOf 10 = .ok (.iaload, 1) := by decide +kernel
theorem dXp_kindOf_11 : decode cXp_kindOf 11 = .ok (.ireturn, 1) := by decide +kernel
theorem dXp_numberOf_0 : decode cXp_numberOf 0 = .ok (.aload_n 0, 1) := by decide +kernel
theorem dXp_numberOf_1 : decode cXp_numberOf 1 = .ok (.getfield 15, 3) := by decide +kernel
theorem dXp_numberOf_4 : decode cXp_numberOf 4 = .ok (.iload_n 1, 1) := by decide +kernel
theorem dXp_numberOf_5 : decode cXp_numberOf 5 = .ok (.bipush 16, 2) := by decide +kernel
theorem dXp_numberOf_7 : decode cXp_numberOf 7 = .ok (.imul, 1) := by decide +kernel
theorem dXp_numberOf_8 : decode cXp_numberOf 8 = .ok (.iload_n 2, 1) := by decide +kernel
theorem dXp_numberOf_9 : decode cXp_numberOf 9 = .ok (.iadd, 1) := by decide +kernel
theorem dXp_numberOf_10 : decode cXp_numberOf 10 = .ok (.iaload, 1) := by decide +kernel
theorem dXp_numberOf_11 : decode cXp_numberOf 11 = .ok (.ireturn, 1) := by decide +kernel
theorem dXu_hasOneAbove_0 : decode cXu_hasOneAbove 0 = .ok (.iload_n 2, 1) := by decide +kernel
theorem dXu_hasOneAbove_1 : decode cXu_hasOneAbove 1 = .ok (.iconst 1, 1) := by decide +kernel
theorem dXu_hasOneAbove_2 : decode cXu_hasOneAbove 2 = .ok (.iadd, 1) := by decide +kernel
theorem dXu_hasOneAbove_3 : decode cXu_hasOneAbove 3 = .ok (.istore_n 3, 1) := by decide +kernel
theorem dXu_hasOneAbove_4 : decode cXu_hasOneAbove 4 = .ok (.iload_n 3, 1) := by decide +kernel
theorem dXu_hasOneAbove_5 : decode cXu_hasOneAbove 5 = .ok (.bipush 10, 2) := by decide +kernel
theorem dXu_hasOneAbove_7 : decode cXu_hasOneAbove 7 = .ok (.if_icmp .ge 21, 3) := by decide +kernel
theorem dXu_hasOneAbove_10 : decode cXu_hasOneAbove 10 = .ok (.aload_n 0, 1) := by decide +kernel
theorem dXu_hasOneAbove_11 : decode cXu_hasOneAbove 11 = .ok (.getfield 9, 3) := by decide +kernel
theorem dXu_hasOneAbove_14 : decode cXu_hasOneAbove 14 = .ok (.iload_n 3, 1) := by decide +kernel
theorem dXu_hasOneAbove_15 : decode cXu_hasOneAbove 15 = .ok (.iaload, 1) := by decide +kernel
theorem dXu_hasOneAbove_16 : decode cXu_hasOneAbove 16 = .ok (.iload_n 1, 1) := by decide +kernel
theorem dXu_hasOneAbove_17 : decode cXu_hasOneAbove 17 = .ok (.if_icmp .ne 5, 3) := by decide +kernel
theorem dXu_hasOneAbove_20 : decode cXu_hasOneAbove 20 = .ok (.iconst 1, 1) := by decide +kernel
theorem dXu_hasOneAbove_21 : decode cXu_hasOneAbove 21 = .ok (.ireturn, 1) := by decide +kernel
theorem dXu_hasOneAbove_22 : decode cXu_hasOneAbove 22 = .ok (.iinc 3 1, 3) := by decide +kernel
theorem dXu_hasOneAbove_25 : decode cXu_hasOneAbove 25 = .ok (.goto (-21), 3) := by decide +kernel
theorem dXu_hasOneAbove_28 : decode cXu_hasOneAbove 28 = .ok (.iconst 0, 1) := by decide +kernel
theorem dXu_hasOneAbove_29 : decode cXu_hasOneAbove 29 = .ok (.ireturn, 1) := by decide +kernel
theorem dXs_lockUnit_0 : decode cXs_lockUnit 0 = .ok (.iload_n 2, 1) := by decide +kernel
theorem dXs_lockUnit_1 : decode cXs_lockUnit 1 = .ok (.ifCond .lt 9, 3) := by decide +kernel
theorem dXs_lockUnit_4 : decode cXs_lockUnit 4 = .ok (.iload_n 2, 1) := by decide +kernel
theorem dXs_lockUnit_5 : decode cXs_lockUnit 5 = .ok (.bipush 10, 2) := by decide +kernel
theorem dXs_lockUnit_7 : decode cXs_lockUnit 7 = .ok (.if_icmp .lt 6, 3) := by decide +kernel
theorem dXs_lockUnit_10 : decode cXs_lockUnit 10 = .ok (.bipush (-3), 2) := by decide +kernel
theorem dXs_lockUnit_12 : decode cXs_lockUnit 12 = .ok (.ireturn, 1) := by decide +kernel
theorem dXs_lockUnit_13 : decode cXs_lockUnit 13 = .ok (.aload_n 0, 1) := by decide +kernel
theorem dXs_lockUnit_14 : decode cXs_lockUnit 14 = .ok (.getfield 19, 3) := by decide +kernel
theorem dXs_lockUnit_17 : decode cXs_lockUnit 17 = .ok (.getfield 158, 3) := by decide +kernel
theorem dXs_lockUnit_20 : decode cXs_lockUnit 20 = .ok (.iload_n 2, 1) := by decide +kernel
theorem dXs_lockUnit_21 : decode cXs_lockUnit 21 = .ok (.iaload, 1) := by decide +kernel
theorem dXs_lockUnit_22 : decode cXs_lockUnit 22 = .ok (.istore_n 3, 1) := by decide +kernel
theorem dXs_lockUnit_23 : decode cXs_lockUnit 23 = .ok (.iload_n 3, 1) := by decide +kernel
theorem dXs_lockUnit_24 : decode cXs_lockUnit 24 = .ok (.iload_n 1, 1) := by decide +kernel
theorem dXs_lockUnit_25 : decode cXs_lockUnit 25 = .ok (.if_icmp .ne 5, 3) := by decide +kernel
theorem dXs_lockUnit_28 : decode cXs_lockUnit 28 = .ok (.iconst (-1), 1) := by decide +kernel
theorem dXs_lockUnit_29 : decode cXs_lockUnit 29 = .ok (.ireturn, 1) := by decide +kernel
theorem dXs_lockUnit_30 : decode cXs_lockUnit 30 = .ok (.aload_n 0, 1) := by decide +kernel
theorem dXs_lockUnit_31 : decode cXs_lockUnit 31 = .ok (.getfield 19, 3) := by decide +kernel
theorem dXs_lockUnit_34 : decode cXs_lockUnit 34 = .ok (.iload_n 1, 1) := by decide +kernel
theorem dXs_lockUnit_35 : decode cXs_lockUnit 35 = .ok (.iload_n 2, 1) := by decide +kernel
theorem dXs_lockUnit_36 : decode cXs_lockUnit 36 = .ok (.invokevirtual 265, 3) := by decide +kernel
theorem dXs_lockUnit_39 : decode cXs_lockUnit 39 = .ok (.ifCond .eq 6, 3) := by decide +kernel
theorem dXs_lockUnit_42 : decode cXs_lockUnit 42 = .ok (.bipush (-2), 2) := by decide +kernel
theorem dXs_lockUnit_44 : decode cXs_lockUnit 44 = .ok (.ireturn, 1) := by decide +kernel
theorem dXs_lockUnit_45 : decode cXs_lockUnit 45 = .ok (.iload_n 3, 1) := by decide +kernel
theorem dXs_lockUnit_46 : decode cXs_lockUnit 46 = .ok (.iconst (-1), 1) := by decide +kernel
theorem dXs_lockUnit_47 : decode cXs_lockUnit 47 = .ok (.if_icmp .eq 5, 3) := by decide +kernel
theorem dXs_lockUnit_50 : decode cXs_lockUnit 50 = .ok (.iconst 0, 1) := by decide +kernel
theorem dXs_lockUnit_51 : decode cXs_lockUnit 51 = .ok (.ireturn, 1) := by decide +kernel
theorem dXs_lockUnit_52 : decode cXs_lockUnit 52 = .ok (.aload_n 0, 1) := by decide +kernel
theorem dXs_lockUnit_53 : decode cXs_lockUnit 53 = .ok (.getfield 19, 3) := by decide +kernel
theorem dXs_lockUnit_56 : decode cXs_lockUnit 56 = .ok (.getfield 158, 3) := by decide +kernel
theorem dXs_lockUnit_59 : decode cXs_lockUnit 59 = .ok (.iload_n 2, 1) := by decide +kernel
theorem dXs_lockUnit_60 : decode cXs_lockUnit 60 = .ok (.iload_n 1, 1) := by decide +kernel
theorem dXs_lockUnit_61 : decode cXs_lockUnit 61 = .ok (.iastore, 1) := by decide +kernel
theorem dXs_lockUnit_62 : decode cXs_lockUnit 62 = .ok (.iconst 1, 1) := by decide +kernel
theorem dXs_lockUnit_63 : decode cXs_lockUnit 63 = .ok (.ireturn, 1) := by decide +kernel
theorem dXs_freeUnit_0 : decode cXs_freeUnit 0 = .ok (.iload_n 2, 1) := by decide +kernel
theorem dXs_freeUnit_1 : decode cXs_freeUnit 1 = .ok (.ifCond .lt 22, 3) := by decide +kernel
theorem dXs_freeUnit_4 : decode cXs_freeUnit 4 = .ok (.iload_n 2, 1) := by decide +kernel
theorem dXs_freeUnit_5 : decode cXs_freeUnit 5 = .ok (.bipush 10, 2) := by decide +kernel
theorem dXs_freeUnit_7 : decode cXs_freeUnit 7 = .ok (.if_icmp .ge 16, 3) := by decide +kernel
theorem dXs_freeUnit_10 : decode cXs_freeUnit 10 = .ok (.aload_n 0, 1) := by decide +kernel
theorem dXs_freeUnit_11 : decode cXs_freeUnit 11 = .ok (.getfield 19, 3) := by decide +kernel
theorem dXs_freeUnit_14 : decode cXs_freeUnit 14 = .ok (.getfield 158, 3) := by decide +kernel
theorem dXs_freeUnit_17 : decode cXs_freeUnit 17 = .ok (.iload_n 2, 1) := by decide +kernel
theorem dXs_freeUnit_18 : decode cXs_freeUnit 18 = .ok (.iaload, 1) := by decide +kernel
theorem dXs_freeUnit_19 : decode cXs_freeUnit 19 = .ok (.iload_n 1, 1) := by decide +kernel
theorem dXs_freeUnit_20 : decode cXs_freeUnit 20 = .ok (.if_icmp .eq 6, 3) := by decide +kernel
theorem dXs_freeUnit_23 : decode cXs_freeUnit 23 = .ok (.bipush (-3), 2) := by decide +kernel
theorem dXs_freeUnit_25 : decode cXs_freeUnit 25 = .ok (.ireturn, 1) := by decide +kernel
theorem dXs_freeUnit_26 : decode cXs_freeUnit 26 = .ok (.aload_n 0, 1) := by decide +kernel
theorem dXs_freeUnit_27 : decode cXs_freeUnit 27 = .ok (.getfield 19, 3) := by decide +kernel
theorem dXs_freeUnit_30 : decode cXs_freeUnit 30 = .ok (.getfield 158, 3) := by decide +kernel
theorem dXs_freeUnit_33 : decode cXs_freeUnit 33 = .ok (.iload_n 2, 1) := by decide +kernel
theorem dXs_freeUnit_34 : decode cXs_freeUnit 34 = .ok (.iconst (-1), 1) := by decide +kernel
theorem dXs_freeUnit_35 : decode cXs_freeUnit 35 = .ok (.iastore, 1) := by decide +kernel
theorem dXs_freeUnit_36 : decode cXs_freeUnit 36 = .ok (.iconst 1, 1) := by decide +kernel
theorem dXs_freeUnit_37 : decode cXs_freeUnit 37 = .ok (.ireturn, 1) := by decide +kernel
theorem dXr_tell_0 : decode cXr_tell 0 = .ok (.aload_n 0, 1) := by decide +kernel
theorem dXr_tell_1 : decode cXr_tell 1 = .ok (.getfield 24, 3) := by decide +kernel
theorem dXr_tell_4 : decode cXr_tell 4 = .ok (.bipush 100, 2) := by decide +kernel
theorem dXr_tell_6 : decode cXr_tell 6 = .ok (.if_icmp .lt 4, 3) := by decide +kernel
theorem dXr_tell_9 : decode cXr_tell 9 = .ok (.return_, 1) := by decide +kernel
theorem dXr_tell_10 : decode cXr_tell 10 = .ok (.aload_n 0, 1) := by decide +kernel
theorem dXr_tell_11 : decode cXr_tell 11 = .ok (.getfield 9, 3) := by decide +kernel
theorem dXr_tell_14 : decode cXr_tell 14 = .ok (.aload_n 0, 1) := by decide +kernel
theorem dXr_tell_15 : decode cXr_tell 15 = .ok (.getfield 24, 3) := by decide +kernel
theorem dXr_tell_18 : decode cXr_tell 18 = .ok (.iload_n 1, 1) := by decide +kernel
theorem dXr_tell_19 : decode cXr_tell 19 = .ok (.iastore, 1) := by decide +kernel
theorem dXr_tell_20 : decode cXr_tell 20 = .ok (.aload_n 0, 1) := by decide +kernel
theorem dXr_tell_21 : decode cXr_tell 21 = .ok (.getfield 15, 3) := by decide +kernel
theorem dXr_tell_24 : decode cXr_tell 24 = .ok (.aload_n 0, 1) := by decide +kernel
theorem dXr_tell_25 : decode cXr_tell 25 = .ok (.getfield 24, 3) := by decide +kernel
theorem dXr_tell_28 : decode cXr_tell 28 = .ok (.iload_n 2, 1) := by decide +kernel
theorem dXr_tell_29 : decode cXr_tell 29 = .ok (.iastore, 1) := by decide +kernel
theorem dXr_tell_30 : decode cXr_tell 30 = .ok (.aload_n 0, 1) := by decide +kernel
theorem dXr_tell_31 : decode cXr_tell 31 = .ok (.getfield 18, 3) := by decide +kernel
theorem dXr_tell_34 : decode cXr_tell 34 = .ok (.aload_n 0, 1) := by decide +kernel
theorem dXr_tell_35 : decode cXr_tell 35 = .ok (.getfield 24, 3) := by decide +kernel
theorem dXr_tell_38 : decode cXr_tell 38 = .ok (.iload_n 3, 1) := by decide +kernel
theorem dXr_tell_39 : decode cXr_tell 39 = .ok (.iastore, 1) := by decide +kernel
theorem dXr_tell_40 : decode cXr_tell 40 = .ok (.aload_n 0, 1) := by decide +kernel
theorem dXr_tell_41 : decode cXr_tell 41 = .ok (.getfield 21, 3) := by decide +kernel
theorem dXr_tell_44 : decode cXr_tell 44 = .ok (.aload_n 0, 1) := by decide +kernel
theorem dXr_tell_45 : decode cXr_tell 45 = .ok (.getfield 24, 3) := by decide +kernel
theorem dXr_tell_48 : decode cXr_tell 48 = .ok (.iload 4, 2) := by decide +kernel
theorem dXr_tell_50 : decode cXr_tell 50 = .ok (.iastore, 1) := by decide +kernel
theorem dXr_tell_51 : decode cXr_tell 51 = .ok (.aload_n 0, 1) := by decide +kernel
theorem dXr_tell_52 : decode cXr_tell 52 = .ok (.dup, 1) := by decide +kernel
theorem dXr_tell_53 : decode cXr_tell 53 = .ok (.getfield 24, 3) := by decide +kernel
theorem dXr_tell_56 : decode cXr_tell 56 = .ok (.iconst 1, 1) := by decide +kernel
theorem dXr_tell_57 : decode cXr_tell 57 = .ok (.iadd, 1) := by decide +kernel
theorem dXr_tell_58 : decode cXr_tell 58 = .ok (.putfield 24, 3) := by decide +kernel
theorem dXr_tell_61 : decode cXr_tell 61 = .ok (.return_, 1) := by decide +kernel
theorem dXs_takeCall_0 : decode cXs_takeCall 0 = .ok (.aload_n 0, 1) := by decide +kernel
theorem dXs_takeCall_1 : decode cXs_takeCall 1 = .ok (.getfield 26, 3) := by decide +kernel
theorem dXs_takeCall_4 : decode cXs_takeCall 4 = .ok (.iload_n 2, 1) := by decide +kernel
theorem dXs_takeCall_5 : decode cXs_takeCall 5 = .ok (.invokevirtual 166, 3) := by decide +kernel
theorem dXs_takeCall_8 : decode cXs_takeCall 8 = .ok (.ifCond .eq 15, 3) := by decide +kernel
theorem dXs_takeCall_11 : decode cXs_takeCall 11 = .ok (.aload_n 0, 1) := by decide +kernel
theorem dXs_takeCall_12 : decode cXs_takeCall 12 = .ok (.getfield 26, 3) := by decide +kernel
theorem dXs_takeCall_15 : decode cXs_takeCall 15 = .ok (.getfield 180, 3) := by decide +kernel
theorem dXs_takeCall_18 : decode cXs_takeCall 18 = .ok (.iload_n 2, 1) := by decide +kernel
theorem dXs_takeCall_19 : decode cXs_takeCall 19 = .ok (.baload, 1) := by decide +kernel
theorem dXs_takeCall_20 : decode cXs_takeCall 20 = .ok (.ifCond .ne 6, 3) := by decide +kernel
theorem dXs_takeCall_23 : decode cXs_takeCall 23 = .ok (.bipush (-6), 2) := by decide +kernel
theorem dXs_takeCall_25 : decode cXs_takeCall 25 = .ok (.ireturn, 1) := by decide +kernel
theorem dXs_takeCall_26 : decode cXs_takeCall 26 = .ok (.aload_n 0, 1) := by decide +kernel
theorem dXs_takeCall_27 : decode cXs_takeCall 27 = .ok (.getfield 26, 3) := by decide +kernel
theorem dXs_takeCall_30 : decode cXs_takeCall 30 = .ok (.getfield 174, 3) := by decide +kernel
theorem dXs_takeCall_33 : decode cXs_takeCall 33 = .ok (.iload_n 2, 1) := by decide +kernel
theorem dXs_takeCall_34 : decode cXs_takeCall 34 = .ok (.iaload, 1) := by decide +kernel
theorem dXs_takeCall_35 : decode cXs_takeCall 35 = .ok (.istore_n 3, 1) := by decide +kernel
theorem dXs_takeCall_36 : decode cXs_takeCall 36 = .ok (.iload_n 3, 1) := by decide +kernel
theorem dXs_takeCall_37 : decode cXs_takeCall 37 = .ok (.iconst (-1), 1) := by decide +kernel
theorem dXs_takeCall_38 : decode cXs_takeCall 38 = .ok (.if_icmp .eq 29, 3) := by decide +kernel
theorem dXs_takeCall_41 : decode cXs_takeCall 41 = .ok (.iload_n 3, 1) := by decide +kernel
theorem dXs_takeCall_42 : decode cXs_takeCall 42 = .ok (.iload_n 1, 1) := by decide +kernel
theorem dXs_takeCall_43 : decode cXs_takeCall 43 = .ok (.if_icmp .eq 24, 3) := by decide +kernel
theorem dXs_takeCall_46 : decode cXs_takeCall 46 = .ok (.aload_n 0, 1) := by decide +kernel
theorem dXs_takeCall_47 : decode cXs_takeCall 47 = .ok (.getfield 33, 3) := by decide +kernel
theorem dXs_takeCall_50 : decode cXs_takeCall 50 = .ok (.iload_n 1, 1) := by decide +kernel
theorem dXs_takeCall_51 : decode cXs_takeCall 51 = .ok (.iconst 0, 1) := by decide +kernel
theorem dXs_takeCall_52 : decode cXs_takeCall 52 = .ok (.aload_n 0, 1) := by decide +kernel
theorem dXs_takeCall_53 : decode cXs_takeCall 53 = .ok (.getfield 41, 3) := by decide +kernel
theorem dXs_takeCall_56 : decode cXs_takeCall 56 = .ok (.iload_n 1, 1) := by decide +kernel
theorem dXs_takeCall_57 : decode cXs_takeCall 57 = .ok (.iaload, 1) := by decide +kernel
theorem dXs_takeCall_58 : decode cXs_takeCall 58 = .ok (.aload_n 0, 1) := by decide +kernel
theorem dXs_takeCall_59 : decode cXs_takeCall 59 = .ok (.getfield 63, 3) := by decide +kernel
theorem dXs_takeCall_62 : decode cXs_takeCall 62 = .ok (.invokevirtual 269, 3) := by decide +kernel
theorem dXs_takeCall_65 : decode cXs_takeCall 65 = .ok (.iconst 2, 1) := by decide +kernel
theorem dXs_takeCall_66 : decode cXs_takeCall 66 = .ok (.ireturn, 1) := by decide +kernel
theorem dXs_takeCall_67 : decode cXs_takeCall 67 = .ok (.aload_n 0, 1) := by decide +kernel
theorem dXs_takeCall_68 : decode cXs_takeCall 68 = .ok (.getfield 26, 3) := by decide +kernel
theorem dXs_takeCall_71 : decode cXs_takeCall 71 = .ok (.getfield 174, 3) := by decide +kernel
theorem dXs_takeCall_74 : decode cXs_takeCall 74 = .ok (.iload_n 2, 1) := by decide +kernel
theorem dXs_takeCall_75 : decode cXs_takeCall 75 = .ok (.iload_n 1, 1) := by decide +kernel
theorem dXs_takeCall_76 : decode cXs_takeCall 76 = .ok (.iastore, 1) := by decide +kernel
theorem dXs_takeCall_77 : decode cXs_takeCall 77 = .ok (.iconst 1, 1) := by decide +kernel
theorem dXs_takeCall_78 : decode cXs_takeCall 78 = .ok (.ireturn, 1) := by decide +kernel
theorem dXs_sendUnit_0 : decode cXs_sendUnit 0 = .ok (.iload_n 2, 1) := by decide +kernel
theorem dXs_sendUnit_1 : decode cXs_sendUnit 1 = .ok (.ifCond .lt 21, 3) := by decide +kernel
theorem dXs_sendUnit_4 : decode cXs_sendUnit 4 = .ok (.iload_n 2, 1) := by decide +kernel
theorem dXs_sendUnit_5 : decode cXs_sendUnit 5 = .ok (.bipush 10, 2) := by decide +kernel
theorem dXs_sendUnit_7 : decode cXs_sendUnit 7 = .ok (.if_icmp .ge 15, 3) := by decide +kernel
theorem dXs_sendUnit_10 : decode cXs_sendUnit 10 = .ok (.aload_n 0, 1) := by decide +kernel
theorem dXs_sendUnit_11 : decode cXs_sendUnit 11 = .ok (.getfield 26, 3) := by decide +kernel
theorem dXs_sendUnit_14 : decode cXs_sendUnit 14 = .ok (.iload_n 3, 1) := by decide +kernel
theorem dXs_sendUnit_15 : decode cXs_sendUnit 15 = .ok (.iload_n 1, 1) := by decide +kernel
theorem dXs_sendUnit_16 : decode cXs_sendUnit 16 = .ok (.invokevirtual 273, 3) := by decide +kernel
theorem dXs_sendUnit_19 : decode cXs_sendUnit 19 = .ok (.ifCond .ne 6, 3) := by decide +kernel
theorem dXs_sendUnit_22 : decode cXs_sendUnit 22 = .ok (.bipush (-4), 2) := by decide +kernel
theorem dXs_sendUnit_24 : decode cXs_sendUnit 24 = .ok (.ireturn, 1) := by decide +kernel
theorem dXs_sendUnit_25 : decode cXs_sendUnit 25 = .ok (.aload_n 0, 1) := by decide +kernel
theorem dXs_sendUnit_26 : decode cXs_sendUnit 26 = .ok (.getfield 19, 3) := by decide +kernel
theorem dXs_sendUnit_29 : decode cXs_sendUnit 29 = .ok (.getfield 158, 3) := by decide +kernel
theorem dXs_sendUnit_32 : decode cXs_sendUnit 32 = .ok (.iload_n 2, 1) := by decide +kernel
theorem dXs_sendUnit_33 : decode cXs_sendUnit 33 = .ok (.iaload, 1) := by decide +kernel
theorem dXs_sendUnit_34 : decode cXs_sendUnit 34 = .ok (.iload_n 1, 1) := by decide +kernel
theorem dXs_sendUnit_35 : decode cXs_sendUnit 35 = .ok (.if_icmp .ne 16, 3) := by decide +kernel
theorem dXs_sendUnit_38 : decode cXs_sendUnit 38 = .ok (.aload_n 0, 1) := by decide +kernel
theorem dXs_sendUnit_39 : decode cXs_sendUnit 39 = .ok (.getfield 19, 3) := by decide +kernel
theorem dXs_sendUnit_42 : decode cXs_sendUnit 42 = .ok (.getfield 161, 3) := by decide +kernel
theorem dXs_sendUnit_45 : decode cXs_sendUnit 45 = .ok (.iload_n 2, 1) := by decide +kernel
theorem dXs_sendUnit_46 : decode cXs_sendUnit 46 = .ok (.iaload, 1) := by decide +kernel
theorem dXs_sendUnit_47 : decode cXs_sendUnit 47 = .ok (.iconst (-1), 1) := by decide +kernel
theorem dXs_sendUnit_48 : decode cXs_sendUnit 48 = .ok (.if_icmp .eq 6, 3) := by decide +kernel
theorem dXs_sendUnit_51 : decode cXs_sendUnit 51 = .ok (.bipush (-4), 2) := by decide +kernel
theorem dXs_sendUnit_53 : decode cXs_sendUnit 53 = .ok (.ireturn, 1) := by decide +kernel
theorem dXs_sendUnit_54 : decode cXs_sendUnit 54 = .ok (.aload_n 0, 1) := by decide +kernel
theorem dXs_sendUnit_55 : decode cXs_sendUnit 55 = .ok (.getfield 26, 3) := by decide +kernel
theorem dXs_sendUnit_58 : decode cXs_sendUnit 58 = .ok (.getfield 177, 3) := by decide +kernel
theorem dXs_sendUnit_61 : decode cXs_sendUnit 61 = .ok (.iload_n 3, 1) := by decide +kernel
theorem dXs_sendUnit_62 : decode cXs_sendUnit 62 = .ok (.iaload, 1) := by decide +kernel
theorem dXs_sendUnit_63 : decode cXs_sendUnit 63 = .ok (.iconst (-1), 1) := by decide +kernel
theorem dXs_sendUnit_64 : decode cXs_sendUnit 64 = .ok (.if_icmp .eq 6, 3) := by decide +kernel
theorem dXs_sendUnit_67 : decode cXs_sendUnit 67 = .ok (.bipush (-4), 2) := by decide +kernel
theorem dXs_sendUnit_69 : decode cXs_sendUnit 69 = .ok (.ireturn, 1) := by decide +kernel
theorem dXs_sendUnit_70 : decode cXs_sendUnit 70 = .ok (.aload_n 0, 1) := by decide +kernel
theorem dXs_sendUnit_71 : decode cXs_sendUnit 71 = .ok (.getfield 19, 3) := by decide +kernel
theorem dXs_sendUnit_74 : decode cXs_sendUnit 74 = .ok (.getfield 161, 3) := by decide +kernel
theorem dXs_sendUnit_77 : decode cXs_sendUnit 77 = .ok (.iload_n 2, 1) := by decide +kernel
theorem dXs_sendUnit_78 : decode cXs_sendUnit 78 = .ok (.iload_n 3, 1) := by decide +kernel
theorem dXs_sendUnit_79 : decode cXs_sendUnit 79 = .ok (.iastore, 1) := by decide +kernel
theorem dXs_sendUnit_80 : decode cXs_sendUnit 80 = .ok (.aload_n 0, 1) := by decide +kernel
theorem dXs_sendUnit_81 : decode cXs_sendUnit 81 = .ok (.getfield 26, 3) := by decide +kernel
theorem dXs_sendUnit_84 : decode cXs_sendUnit 84 = .ok (.getfield 177, 3) := by decide +kernel
theorem dXs_sendUnit_87 : decode cXs_sendUnit 87 = .ok (.iload_n 3, 1) := by decide +kernel
theorem dXs_sendUnit_88 : decode cXs_sendUnit 88 = .ok (.iload_n 2, 1) := by decide +kernel
theorem dXs_sendUnit_89 : decode cXs_sendUnit 89 = .ok (.iastore, 1) := by decide +kernel
theorem dXs_sendUnit_90 : decode cXs_sendUnit 90 = .ok (.iconst 1, 1) := by decide +kernel
theorem dXs_sendUnit_91 : decode cXs_sendUnit 91 = .ok (.ireturn, 1) := by decide +kernel
theorem dXs_closeCall_0 : decode cXs_closeCall 0 = .ok (.aload_n 0, 1) := by decide +kernel
theorem dXs_closeCall_1 : decode cXs_closeCall 1 = .ok (.getfield 26, 3) := by decide +kernel
theorem dXs_closeCall_4 : decode cXs_closeCall 4 = .ok (.iload_n 2, 1) := by decide +kernel
theorem dXs_closeCall_5 : decode cXs_closeCall 5 = .ok (.iload_n 1, 1) := by decide +kernel
theorem dXs_closeCall_6 : decode cXs_closeCall 6 = .ok (.invokevirtual 273, 3) := by decide +kernel
theorem dXs_closeCall_9 : decode cXs_closeCall 9 = .ok (.ifCond .ne 6, 3) := by decide +kernel
theorem dXs_closeCall_12 : decode cXs_closeCall 12 = .ok (.bipush (-4), 2) := by decide +kernel
theorem dXs_closeCall_14 : decode cXs_closeCall 14 = .ok (.ireturn, 1) := by decide +kernel
theorem dXs_closeCall_15 : decode cXs_closeCall 15 = .ok (.aload_n 0, 1) := by decide +kernel
theorem dXs_closeCall_16 : decode cXs_closeCall 16 = .ok (.getfield 26, 3) := by decide +kernel
theorem dXs_closeCall_19 : decode cXs_closeCall 19 = .ok (.getfield 177, 3) := by decide +kernel
theorem dXs_closeCall_22 : decode cXs_closeCall 22 = .ok (.iload_n 2, 1) := by decide +kernel
theorem dXs_closeCall_23 : decode cXs_closeCall 23 = .ok (.iaload, 1) := by decide +kernel
theorem dXs_closeCall_24 : decode cXs_closeCall 24 = .ok (.istore_n 3, 1) := by decide +kernel
theorem dXs_closeCall_25 : decode cXs_closeCall 25 = .ok (.iload_n 3, 1) := by decide +kernel
theorem dXs_closeCall_26 : decode cXs_closeCall 26 = .ok (.ifCond .lt 19, 3) := by decide +kernel
theorem dXs_closeCall_29 : decode cXs_closeCall 29 = .ok (.iload_n 3, 1) := by decide +kernel
theorem dXs_closeCall_30 : decode cXs_closeCall 30 = .ok (.bipush 10, 2) := by decide +kernel
theorem dXs_closeCall_32 : decode cXs_closeCall 32 = .ok (.if_icmp .ge 13, 3) := by decide +kernel
theorem dXs_closeCall_35 : decode cXs_closeCall 35 = .ok (.aload_n 0, 1) := by decide +kernel
theorem dXs_closeCall_36 : decode cXs_closeCall 36 = .ok (.getfield 19, 3) := by decide +kernel
theorem dXs_closeCall_39 : decode cXs_closeCall 39 = .ok (.getfield 161, 3) := by decide +kernel
theorem dXs_closeCall_42 : decode cXs_closeCall 42 = .ok (.iload_n 3, 1) := by decide +kernel
theorem dXs_closeCall_43 : decode cXs_closeCall 43 = .ok (.iconst (-1), 1) := by decide +kernel
theorem dXs_closeCall_44 : decode cXs_closeCall 44 = .ok (.iastore, 1) := by decide +kernel
theorem dXs_closeCall_45 : decode cXs_closeCall 45 = .ok (.aload_n 0, 1) := by decide +kernel
theorem dXs_closeCall_46 : decode cXs_closeCall 46 = .ok (.getfield 26, 3) := by decide +kernel
theorem dXs_closeCall_49 : decode cXs_closeCall 49 = .ok (.getfield 177, 3) := by decide +kernel
theorem dXs_closeCall_52 : decode cXs_closeCall 52 = .ok (.iload_n 2, 1) := by decide +kernel
theorem dXs_closeCall_53 : decode cXs_closeCall 53 = .ok (.iconst (-1), 1) := by decide +kernel
theorem dXs_closeCall_54 : decode cXs_closeCall 54 = .ok (.iastore, 1) := by decide +kernel
theorem dXs_closeCall_55 : decode cXs_closeCall 55 = .ok (.aload_n 0, 1) := by decide +kernel
theorem dXs_closeCall_56 : decode cXs_closeCall 56 = .ok (.getfield 26, 3) := by decide +kernel
theorem dXs_closeCall_59 : decode cXs_closeCall 59 = .ok (.getfield 180, 3) := by decide +kernel
theorem dXs_closeCall_62 : decode cXs_closeCall 62 = .ok (.iload_n 2, 1) := by decide +kernel
theorem dXs_closeCall_63 : decode cXs_closeCall 63 = .ok (.iconst 0, 1) := by decide +kernel
theorem dXs_closeCall_64 : decode cXs_closeCall 64 = .ok (.bastore, 1) := by decide +kernel
theorem dXs_closeCall_65 : decode cXs_closeCall 65 = .ok (.iconst 1, 1) := by decide +kernel
theorem dXs_closeCall_66 : decode cXs_closeCall 66 = .ok (.ireturn, 1) := by decide +kernel
theorem dXs_rest_0 : decode cXs_rest 0 = .ok (.iload_n 2, 1) := by decide +kernel
theorem dXs_rest_1 : decode cXs_rest 1 = .ok (.ifCond .ne 5, 3) := by decide +kernel
theorem dXs_rest_4 : decode cXs_rest 4 = .ok (.iconst 1, 1) := by decide +kernel
theorem dXs_rest_5 : decode cXs_rest 5 = .ok (.ireturn, 1) := by decide +kernel
theorem dXs_rest_6 : decode cXs_rest 6 = .ok (.aload_n 0, 1) := by decide +kernel
theorem dXs_rest_7 : decode cXs_rest 7 = .ok (.getfield 56, 3) := by decide +kernel
theorem dXs_rest_10 : decode cXs_rest 10 = .ok (.iload_n 1, 1) := by decide +kernel
theorem dXs_rest_11 : decode cXs_rest 11 = .ok (.baload, 1) := by decide +kernel
theorem dXs_rest_12 : decode cXs_rest 12 = .ok (.ifCond .eq 29, 3) := by decide +kernel
theorem dXs_rest_15 : decode cXs_rest 15 = .ok (.aload_n 0, 1) := by decide +kernel
theorem dXs_rest_16 : decode cXs_rest 16 = .ok (.getfield 56, 3) := by decide +kernel
theorem dXs_rest_19 : decode cXs_rest 19 = .ok (.iload_n 1, 1) := by decide +kernel
theorem dXs_rest_20 : decode cXs_rest 20 = .ok (.iconst 0, 1) := by decide +kernel
theorem dXs_rest_21 : decode cXs_rest 21 = .ok (.bastore, 1) := by decide +kernel
theorem dXs_rest_22 : decode cXs_rest 22 = .ok (.aload_n 0, 1) := by decide +kernel
theorem dXs_rest_23 : decode cXs_rest 23 = .ok (.getfield 50, 3) := by decide +kernel
theorem dXs_rest_26 : decode cXs_rest 26 = .ok (.iload_n 1, 1) := by decide +kernel
theorem dXs_rest_27 : decode cXs_rest 27 = .ok (.dup2, 1) := by decide +kernel
theorem dXs_rest_28 : decode cXs_rest 28 = .ok (.iaload, 1) := by decide +kernel
theorem dXs_rest_29 : decode cXs_rest 29 = .ok (.iconst 1, 1) := by decide +kernel
theorem dXs_rest_30 : decode cXs_rest 30 = .ok (.iadd, 1) := by decide +kernel
theorem dXs_rest_31 : decode cXs_rest 31 = .ok (.iastore, 1) := by decide +kernel
theorem dXs_rest_32 : decode cXs_rest 32 = .ok (.aload_n 0, 1) := by decide +kernel
theorem dXs_rest_33 : decode cXs_rest 33 = .ok (.getfield 47, 3) := by decide +kernel
theorem dXs_rest_36 : decode cXs_rest 36 = .ok (.iload_n 1, 1) := by decide +kernel
theorem dXs_rest_37 : decode cXs_rest 37 = .ok (.iload_n 2, 1) := by decide +kernel
theorem dXs_rest_38 : decode cXs_rest 38 = .ok (.iastore, 1) := by decide +kernel
theorem dXs_rest_39 : decode cXs_rest 39 = .ok (.iconst 5, 1) := by decide +kernel
theorem dXs_rest_40 : decode cXs_rest 40 = .ok (.ireturn, 1) := by decide +kernel
theorem dXs_rest_41 : decode cXs_rest 41 = .ok (.aload_n 0, 1) := by decide +kernel
theorem dXs_rest_42 : decode cXs_rest 42 = .ok (.getfield 47, 3) := by decide +kernel
theorem dXs_rest_45 : decode cXs_rest 45 = .ok (.iload_n 1, 1) := by decide +kernel
theorem dXs_rest_46 : decode cXs_rest 46 = .ok (.iaload, 1) := by decide +kernel
theorem dXs_rest_47 : decode cXs_rest 47 = .ok (.ifCond .ne 12, 3) := by decide +kernel
theorem dXs_rest_50 : decode cXs_rest 50 = .ok (.aload_n 0, 1) := by decide +kernel
theorem dXs_rest_51 : decode cXs_rest 51 = .ok (.getfield 47, 3) := by decide +kernel
theorem dXs_rest_54 : decode cXs_rest 54 = .ok (.iload_n 1, 1) := by decide +kernel
theorem dXs_rest_55 : decode cXs_rest 55 = .ok (.iload_n 2, 1) := by decide +kernel
theorem dXs_rest_56 : decode cXs_rest 56 = .ok (.iastore, 1) := by decide +kernel
theorem dXs_rest_57 : decode cXs_rest 57 = .ok (.iconst 5, 1) := by decide +kernel
theorem dXs_rest_58 : decode cXs_rest 58 = .ok (.ireturn, 1) := by decide +kernel
theorem dXs_rest_59 : decode cXs_rest 59 = .ok (.aload_n 0, 1) := by decide +kernel
theorem dXs_rest_60 : decode cXs_rest 60 = .ok (.getfield 47, 3) := by decide +kernel
theorem dXs_rest_63 : decode cXs_rest 63 = .ok (.iload_n 1, 1) := by decide +kernel
theorem dXs_rest_64 : decode cXs_rest 64 = .ok (.dup2, 1) := by decide +kernel
theorem dXs_rest_65 : decode cXs_rest 65 = .ok (.iaload, 1) := by decide +kernel
theorem dXs_rest_66 : decode cXs_rest 66 = .ok (.iconst 1, 1) := by decide +kernel
theorem dXs_rest_67 : decode cXs_rest 67 = .ok (.isub, 1) := by decide +kernel
theorem dXs_rest_68 : decode cXs_rest 68 = .ok (.iastore, 1) := by decide +kernel
theorem dXs_rest_69 : decode cXs_rest 69 = .ok (.aload_n 0, 1) := by decide +kernel
theorem dXs_rest_70 : decode cXs_rest 70 = .ok (.getfield 47, 3) := by decide +kernel
theorem dXs_rest_73 : decode cXs_rest 73 = .ok (.iload_n 1, 1) := by decide +kernel
theorem dXs_rest_74 : decode cXs_rest 74 = .ok (.iaload, 1) := by decide +kernel
theorem dXs_rest_75 : decode cXs_rest 75 = .ok (.ifCond .ne 7, 3) := by decide +kernel
theorem dXs_rest_78 : decode cXs_rest 78 = .ok (.iconst 1, 1) := by decide +kernel
theorem dXs_rest_79 : decode cXs_rest 79 = .ok (.goto 4, 3) := by decide +kernel
theorem dXs_rest_82 : decode cXs_rest 82 = .ok (.iconst 5, 1) := by decide +kernel
theorem dXs_rest_83 : decode cXs_rest 83 = .ok (.ireturn, 1) := by decide +kernel
theorem dXs_perform_0 : decode cXs_perform 0 = .ok (.iload_n 2, 1) := by decide +kernel
theorem dXs_perform_1 : decode cXs_perform 1 = .ok (.tableswitch 88 0 5 #[39, 46, 53, 60, 74, 81], 39) := by decide +kernel
theorem dXs_perform_40 : decode cXs_perform 40 = .ok (.aload_n 0, 1) := by decide +kernel
theorem dXs_perform_41 : decode cXs_perform 41 = .ok (.iload_n 1, 1) := by decide +kernel
theorem dXs_perform_42 : decode cXs_perform 42 = .ok (.iload_n 3, 1) := by decide +kernel
theorem dXs_perform_43 : decode cXs_perform 43 = .ok (.invokevirtual 247, 3) := by decide +kernel
theorem dXs_perform_46 : decode cXs_perform 46 = .ok (.ireturn, 1) := by decide +kernel
theorem dXs_perform_47 : decode cXs_perform 47 = .ok (.aload_n 0, 1) := by decide +kernel
theorem dXs_perform_48 : decode cXs_perform 48 = .ok (.iload_n 1, 1) := by decide +kernel
theorem dXs_perform_49 : decode cXs_perform 49 = .ok (.iload_n 3, 1) := by decide +kernel
theorem dXs_perform_50 : decode cXs_perform 50 = .ok (.invokevirtual 250, 3) := by decide +kernel
theorem dXs_perform_53 : decode cXs_perform 53 = .ok (.ireturn, 1) := by decide +kernel
theorem dXs_perform_54 : decode cXs_perform 54 = .ok (.aload_n 0, 1) := by decide +kernel
theorem dXs_perform_55 : decode cXs_perform 55 = .ok (.iload_n 1, 1) := by decide +kernel
theorem dXs_perform_56 : decode cXs_perform 56 = .ok (.iload_n 3, 1) := by decide +kernel
theorem dXs_perform_57 : decode cXs_perform 57 = .ok (.invokevirtual 253, 3) := by decide +kernel
theorem dXs_perform_60 : decode cXs_perform 60 = .ok (.ireturn, 1) := by decide +kernel
theorem dXs_perform_61 : decode cXs_perform 61 = .ok (.aload_n 0, 1) := by decide +kernel
theorem dXs_perform_62 : decode cXs_perform 62 = .ok (.iload_n 1, 1) := by decide +kernel
theorem dXs_perform_63 : decode cXs_perform 63 = .ok (.iload_n 3, 1) := by decide +kernel
theorem dXs_perform_64 : decode cXs_perform 64 = .ok (.bipush 16, 2) := by decide +kernel
theorem dXs_perform_66 : decode cXs_perform 66 = .ok (.idiv, 1) := by decide +kernel
theorem dXs_perform_67 : decode cXs_perform 67 = .ok (.iload_n 3, 1) := by decide +kernel
theorem dXs_perform_68 : decode cXs_perform 68 = .ok (.bipush 16, 2) := by decide +kernel
theorem dXs_perform_70 : decode cXs_perform 70 = .ok (.irem, 1) := by decide +kernel
theorem dXs_perform_71 : decode cXs_perform 71 = .ok (.invokevirtual 256, 3) := by decide +kernel
theorem dXs_perform_74 : decode cXs_perform 74 = .ok (.ireturn, 1) := by decide +kernel
theorem dXs_perform_75 : decode cXs_perform 75 = .ok (.aload_n 0, 1) := by decide +kernel
theorem dXs_perform_76 : decode cXs_perform 76 = .ok (.iload_n 1, 1) := by decide +kernel
theorem dXs_perform_77 : decode cXs_perform 77 = .ok (.iload_n 3, 1) := by decide +kernel
theorem dXs_perform_78 : decode cXs_perform 78 = .ok (.invokevirtual 259, 3) := by decide +kernel
theorem dXs_perform_81 : decode cXs_perform 81 = .ok (.ireturn, 1) := by decide +kernel
theorem dXs_perform_82 : decode cXs_perform 82 = .ok (.aload_n 0, 1) := by decide +kernel
theorem dXs_perform_83 : decode cXs_perform 83 = .ok (.iload_n 1, 1) := by decide +kernel
theorem dXs_perform_84 : decode cXs_perform 84 = .ok (.iload_n 3, 1) := by decide +kernel
theorem dXs_perform_85 : decode cXs_perform 85 = .ok (.invokevirtual 262, 3) := by decide +kernel
theorem dXs_perform_88 : decode cXs_perform 88 = .ok (.ireturn, 1) := by decide +kernel
theorem dXs_perform_89 : decode cXs_perform 89 = .ok (.bipush (-5), 2) := by decide +kernel
theorem dXs_perform_91 : decode cXs_perform 91 = .ok (.ireturn, 1) := by decide +kernel
theorem dXc_dropUnsentOf_0 : decode cXc_dropUnsentOf 0 = .ok (.iconst 0, 1) := by decide +kernel
theorem dXc_dropUnsentOf_1 : decode cXc_dropUnsentOf 1 = .ok (.istore_n 2, 1) := by decide +kernel
theorem dXc_dropUnsentOf_2 : decode cXc_dropUnsentOf 2 = .ok (.iload_n 2, 1) := by decide +kernel
theorem dXc_dropUnsentOf_3 : decode cXc_dropUnsentOf 3 = .ok (.aload_n 0, 1) := by decide +kernel
theorem dXc_dropUnsentOf_4 : decode cXc_dropUnsentOf 4 = .ok (.getfield 31, 3) := by decide +kernel
theorem dXc_dropUnsentOf_7 : decode cXc_dropUnsentOf 7 = .ok (.if_icmp .ge 35, 3) := by decide +kernel
theorem dXc_dropUnsentOf_10 : decode cXc_dropUnsentOf 10 = .ok (.aload_n 0, 1) := by decide +kernel
theorem dXc_dropUnsentOf_11 : decode cXc_dropUnsentOf 11 = .ok (.iload_n 2, 1) := by decide +kernel
theorem dXc_dropUnsentOf_12 : decode cXc_dropUnsentOf 12 = .ok (.iload_n 1, 1) := by decide +kernel
theorem dXc_dropUnsentOf_13 : decode cXc_dropUnsentOf 13 = .ok (.invokevirtual 39, 3) := by decide +kernel
theorem dXc_dropUnsentOf_16 : decode cXc_dropUnsentOf 16 = .ok (.ifCond .eq 20, 3) := by decide +kernel
theorem dXc_dropUnsentOf_19 : decode cXc_dropUnsentOf 19 = .ok (.aload_n 0, 1) := by decide +kernel
theorem dXc_dropUnsentOf_20 : decode cXc_dropUnsentOf 20 = .ok (.getfield 18, 3) := by decide +kernel
theorem dXc_dropUnsentOf_23 : decode cXc_dropUnsentOf 23 = .ok (.iload_n 2, 1) := by decide +kernel
theorem dXc_dropUnsentOf_24 : decode cXc_dropUnsentOf 24 = .ok (.iaload, 1) := by decide +kernel
theorem dXc_dropUnsentOf_25 : decode cXc_dropUnsentOf 25 = .ok (.iconst (-1), 1) := by decide +kernel
theorem dXc_dropUnsentOf_26 : decode cXc_dropUnsentOf 26 = .ok (.if_icmp .ne 10, 3) := by decide +kernel
theorem dXc_dropUnsentOf_29 : decode cXc_dropUnsentOf 29 = .ok (.aload_n 0, 1) := by decide +kernel
theorem dXc_dropUnsentOf_30 : decode cXc_dropUnsentOf 30 = .ok (.getfield 15, 3) := by decide +kernel
theorem dXc_dropUnsentOf_33 : decode cXc_dropUnsentOf 33 = .ok (.iload_n 2, 1) := by decide +kernel
theorem dXc_dropUnsentOf_34 : decode cXc_dropUnsentOf 34 = .ok (.iconst (-1), 1) := by decide +kernel
theorem dXc_dropUnsentOf_35 : decode cXc_dropUnsentOf 35 = .ok (.iastore, 1) := by decide +kernel
theorem dXc_dropUnsentOf_36 : decode cXc_dropUnsentOf 36 = .ok (.iinc 2 1, 3) := by decide +kernel
theorem dXc_dropUnsentOf_39 : decode cXc_dropUnsentOf 39 = .ok (.goto (-37), 3) := by decide +kernel
theorem dXc_dropUnsentOf_42 : decode cXc_dropUnsentOf 42 = .ok (.return_, 1) := by decide +kernel
theorem dXp_finishOf_0 : decode cXp_finishOf 0 = .ok (.aload_n 0, 1) := by decide +kernel
theorem dXp_finishOf_1 : decode cXp_finishOf 1 = .ok (.getfield 21, 3) := by decide +kernel
theorem dXp_finishOf_4 : decode cXp_finishOf 4 = .ok (.iload_n 1, 1) := by decide +kernel
theorem dXp_finishOf_5 : decode cXp_finishOf 5 = .ok (.iaload, 1) := by decide +kernel
theorem dXp_finishOf_6 : decode cXp_finishOf 6 = .ok (.iconst (-1), 1) := by decide +kernel
theorem dXp_finishOf_7 : decode cXp_finishOf 7 = .ok (.if_icmp .ne 12, 3) := by decide +kernel
theorem dXp_finishOf_10 : decode cXp_finishOf 10 = .ok (.aload_n 0, 1) := by decide +kernel
theorem dXp_finishOf_11 : decode cXp_finishOf 11 = .ok (.getfield 18, 3) := by decide +kernel
theorem dXp_finishOf_14 : decode cXp_finishOf 14 = .ok (.iload_n 1, 1) := by decide +kernel
theorem dXp_finishOf_15 : decode cXp_finishOf 15 = .ok (.iaload, 1) := by decide +kernel
theorem dXp_finishOf_16 : decode cXp_finishOf 16 = .ok (.goto 9, 3) := by decide +kernel
theorem dXp_finishOf_19 : decode cXp_finishOf 19 = .ok (.aload_n 0, 1) := by decide +kernel
theorem dXp_finishOf_20 : decode cXp_finishOf 20 = .ok (.getfield 21, 3) := by decide +kernel
theorem dXp_finishOf_23 : decode cXp_finishOf 23 = .ok (.iload_n 1, 1) := by decide +kernel
theorem dXp_finishOf_24 : decode cXp_finishOf 24 = .ok (.iaload, 1) := by decide +kernel
theorem dXp_finishOf_25 : decode cXp_finishOf 25 = .ok (.ireturn, 1) := by decide +kernel
theorem dXs_fault_0 : decode cXs_fault 0 = .ok (.aload_n 0, 1) := by decide +kernel
theorem dXs_fault_1 : decode cXs_fault 1 = .ok (.getfield 33, 3) := by decide +kernel
theorem dXs_fault_4 : decode cXs_fault 4 = .ok (.iload_n 1, 1) := by decide +kernel
theorem dXs_fault_5 : decode cXs_fault 5 = .ok (.iload_n 2, 1) := by decide +kernel
theorem dXs_fault_6 : decode cXs_fault 6 = .ok (.aload_n 0, 1) := by decide +kernel
theorem dXs_fault_7 : decode cXs_fault 7 = .ok (.getfield 41, 3) := by decide +kernel
theorem dXs_fault_10 : decode cXs_fault 10 = .ok (.iload_n 1, 1) := by decide +kernel
theorem dXs_fault_11 : decode cXs_fault 11 = .ok (.iaload, 1) := by decide +kernel
theorem dXs_fault_12 : decode cXs_fault 12 = .ok (.aload_n 0, 1) := by decide +kernel
theorem dXs_fault_13 : decode cXs_fault 13 = .ok (.getfield 63, 3) := by decide +kernel
theorem dXs_fault_16 : decode cXs_fault 16 = .ok (.invokevirtual 269, 3) := by decide +kernel
theorem dXs_fault_19 : decode cXs_fault 19 = .ok (.aload_n 0, 1) := by decide +kernel
theorem dXs_fault_20 : decode cXs_fault 20 = .ok (.getfield 44, 3) := by decide +kernel
theorem dXs_fault_23 : decode cXs_fault 23 = .ok (.iload_n 1, 1) := by decide +kernel
theorem dXs_fault_24 : decode cXs_fault 24 = .ok (.iload_n 2, 1) := by decide +kernel
theorem dXs_fault_25 : decode cXs_fault 25 = .ok (.iastore, 1) := by decide +kernel
theorem dXs_fault_26 : decode cXs_fault 26 = .ok (.aload_n 0, 1) := by decide +kernel
theorem dXs_fault_27 : decode cXs_fault 27 = .ok (.getfield 19, 3) := by decide +kernel
theorem dXs_fault_30 : decode cXs_fault 30 = .ok (.iload_n 1, 1) := by decide +kernel
theorem dXs_fault_31 : decode cXs_fault 31 = .ok (.invokevirtual 134, 3) := by decide +kernel
theorem dXs_fault_34 : decode cXs_fault 34 = .ok (.aload_n 0, 1) := by decide +kernel
theorem dXs_fault_35 : decode cXs_fault 35 = .ok (.getfield 26, 3) := by decide +kernel
theorem dXs_fault_38 : decode cXs_fault 38 = .ok (.iload_n 1, 1) := by decide +kernel
theorem dXs_fault_39 : decode cXs_fault 39 = .ok (.invokevirtual 153, 3) := by decide +kernel
theorem dXs_fault_42 : decode cXs_fault 42 = .ok (.aload_n 0, 1) := by decide +kernel
theorem dXs_fault_43 : decode cXs_fault 43 = .ok (.getfield 10, 3) := by decide +kernel
theorem dXs_fault_46 : decode cXs_fault 46 = .ok (.iload_n 1, 1) := by decide +kernel
theorem dXs_fault_47 : decode cXs_fault 47 = .ok (.invokevirtual 276, 3) := by decide +kernel
theorem dXs_fault_50 : decode cXs_fault 50 = .ok (.istore_n 3, 1) := by decide +kernel
theorem dXs_fault_51 : decode cXs_fault 51 = .ok (.aload_n 0, 1) := by decide +kernel
theorem dXs_fault_52 : decode cXs_fault 52 = .ok (.getfield 41, 3) := by decide +kernel
theorem dXs_fault_55 : decode cXs_fault 55 = .ok (.iload_n 1, 1) := by decide +kernel
theorem dXs_fault_56 : decode cXs_fault 56 = .ok (.iaload, 1) := by decide +kernel
theorem dXs_fault_57 : decode cXs_fault 57 = .ok (.iload_n 3, 1) := by decide +kernel
theorem dXs_fault_58 : decode cXs_fault 58 = .ok (.if_icmp .ge 13, 3) := by decide +kernel
theorem dXs_fault_61 : decode cXs_fault 61 = .ok (.aload_n 0, 1) := by decide +kernel
theorem dXs_fault_62 : decode cXs_fault 62 = .ok (.getfield 41, 3) := by decide +kernel
theorem dXs_fault_65 : decode cXs_fault 65 = .ok (.iload_n 1, 1) := by decide +kernel
theorem dXs_fault_66 : decode cXs_fault 66 = .ok (.iload_n 3, 1) := by decide +kernel
theorem dXs_fault_67 : decode cXs_fault 67 = .ok (.iastore, 1) := by decide +kernel
theorem dXs_fault_68 : decode cXs_fault 68 = .ok (.goto 8, 3) := by decide +kernel
theorem dXs_fault_71 : decode cXs_fault 71 = .ok (.aload_n 0, 1) := by decide +kernel
theorem dXs_fault_72 : decode cXs_fault 72 = .ok (.iload_n 1, 1) := by decide +kernel
theorem dXs_fault_73 : decode cXs_fault 73 = .ok (.invokevirtual 150, 3) := by decide +kernel
theorem dXs_fault_76 : decode cXs_fault 76 = .ok (.return_, 1) := by decide +kernel
theorem dXs_takeTurn_0 : decode cXs_takeTurn 0 = .ok (.aload_n 0, 1) := by decide +kernel
theorem dXs_takeTurn_1 : decode cXs_takeTurn 1 = .ok (.dup, 1) := by decide +kernel
theorem dXs_takeTurn_2 : decode cXs_takeTurn 2 = .ok (.getfield 63, 3) := by decide +kernel
theorem dXs_takeTurn_5 : decode cXs_takeTurn 5 = .ok (.iconst 1, 1) := by decide +kernel
theorem dXs_takeTurn_6 : decode cXs_takeTurn 6 = .ok (.iadd, 1) := by decide +kernel
theorem dXs_takeTurn_7 : decode cXs_takeTurn 7 = .ok (.putfield 63, 3) := by decide +kernel
theorem dXs_takeTurn_10 : decode cXs_takeTurn 10 = .ok (.aload_n 0, 1) := by decide +kernel
theorem dXs_takeTurn_11 : decode cXs_takeTurn 11 = .ok (.getfield 60, 3) := by decide +kernel
theorem dXs_takeTurn_14 : decode cXs_takeTurn 14 = .ok (.iload_n 1, 1) := by decide +kernel
theorem dXs_takeTurn_15 : decode cXs_takeTurn 15 = .ok (.iconst 1, 1) := by decide +kernel
theorem dXs_takeTurn_16 : decode cXs_takeTurn 16 = .ok (.bastore, 1) := by decide +kernel
theorem dXs_takeTurn_17 : decode cXs_takeTurn 17 = .ok (.aload_n 0, 1) := by decide +kernel
theorem dXs_takeTurn_18 : decode cXs_takeTurn 18 = .ok (.invokevirtual 231, 3) := by decide +kernel
theorem dXs_takeTurn_21 : decode cXs_takeTurn 21 = .ok (.aload_n 0, 1) := by decide +kernel
theorem dXs_takeTurn_22 : decode cXs_takeTurn 22 = .ok (.getfield 41, 3) := by decide +kernel
theorem dXs_takeTurn_25 : decode cXs_takeTurn 25 = .ok (.iload_n 1, 1) := by decide +kernel
theorem dXs_takeTurn_26 : decode cXs_takeTurn 26 = .ok (.iaload, 1) := by decide +kernel
theorem dXs_takeTurn_27 : decode cXs_takeTurn 27 = .ok (.istore_n 2, 1) := by decide +kernel
theorem dXs_takeTurn_28 : decode cXs_takeTurn 28 = .ok (.iload_n 2, 1) := by decide +kernel
theorem dXs_takeTurn_29 : decode cXs_takeTurn 29 = .ok (.aload_n 0, 1) := by decide +kernel
theorem dXs_takeTurn_30 : decode cXs_takeTurn 30 = .ok (.getfield 10, 3) := by decide +kernel
theorem dXs_takeTurn_33 : decode cXs_takeTurn 33 = .ok (.iload_n 1, 1) := by decide +kernel
theorem dXs_takeTurn_34 : decode cXs_takeTurn 34 = .ok (.invokevirtual 102, 3) := by decide +kernel
theorem dXs_takeTurn_37 : decode cXs_takeTurn 37 = .ok (.if_icmp .lt 10, 3) := by decide +kernel
theorem dXs_takeTurn_40 : decode cXs_takeTurn 40 = .ok (.aload_n 0, 1) := by decide +kernel
theorem dXs_takeTurn_41 : decode cXs_takeTurn 41 = .ok (.iload_n 1, 1) := by decide +kernel
theorem dXs_takeTurn_42 : decode cXs_takeTurn 42 = .ok (.invokevirtual 150, 3) := by decide +kernel
theorem dXs_takeTurn_45 : decode cXs_takeTurn 45 = .ok (.iconst 4, 1) := by decide +kernel
theorem dXs_takeTurn_46 : decode cXs_takeTurn 46 = .ok (.ireturn, 1) := by decide +kernel
theorem dXs_takeTurn_47 : decode cXs_takeTurn 47 = .ok (.aload_n 0, 1) := by decide +kernel
theorem dXs_takeTurn_48 : decode cXs_takeTurn 48 = .ok (.iload_n 1, 1) := by decide +kernel
theorem dXs_takeTurn_49 : decode cXs_takeTurn 49 = .ok (.aload_n 0, 1) := by decide +kernel
theorem dXs_takeTurn_50 : decode cXs_takeTurn 50 = .ok (.getfield 10, 3) := by decide +kernel
theorem dXs_takeTurn_53 : decode cXs_takeTurn 53 = .ok (.iload_n 1, 1) := by decide +kernel
theorem dXs_takeTurn_54 : decode cXs_takeTurn 54 = .ok (.iload_n 2, 1) := by decide +kernel
theorem dXs_takeTurn_55 : decode cXs_takeTurn 55 = .ok (.invokevirtual 234, 3) := by decide +kernel
theorem dXs_takeTurn_58 : decode cXs_takeTurn 58 = .ok (.aload_n 0, 1) := by decide +kernel
theorem dXs_takeTurn_59 : decode cXs_takeTurn 59 = .ok (.getfield 10, 3) := by decide +kernel
theorem dXs_takeTurn_62 : decode cXs_takeTurn 62 = .ok (.iload_n 1, 1) := by decide +kernel
theorem dXs_takeTurn_63 : decode cXs_takeTurn 63 = .ok (.iload_n 2, 1) := by decide +kernel
theorem dXs_takeTurn_64 : decode cXs_takeTurn 64 = .ok (.invokevirtual 238, 3) := by decide +kernel
theorem dXs_takeTurn_67 : decode cXs_takeTurn 67 = .ok (.invokevirtual 241, 3) := by decide +kernel
theorem dXs_takeTurn_70 : decode cXs_takeTurn 70 = .ok (.istore_n 3, 1) := by decide +kernel
theorem dXs_takeTurn_71 : decode cXs_takeTurn 71 = .ok (.iload_n 3, 1) := by decide +kernel
theorem dXs_takeTurn_72 : decode cXs_takeTurn 72 = .ok (.ifCond .ge 12, 3) := by decide +kernel
theorem dXs_takeTurn_75 : decode cXs_takeTurn 75 = .ok (.aload_n 0, 1) := by decide +kernel
theorem dXs_takeTurn_76 : decode cXs_takeTurn 76 = .ok (.iload_n 1, 1) := by decide +kernel
theorem dXs_takeTurn_77 : decode cXs_takeTurn 77 = .ok (.iload_n 3, 1) := by decide +kernel
theorem dXs_takeTurn_78 : decode cXs_takeTurn 78 = .ok (.ineg, 1) := by decide +kernel
theorem dXs_takeTurn_79 : decode cXs_takeTurn 79 = .ok (.invokevirtual 244, 3) := by decide +kernel
theorem dXs_takeTurn_82 : decode cXs_takeTurn 82 = .ok (.iconst 3, 1) := by decide +kernel
theorem dXs_takeTurn_83 : decode cXs_takeTurn 83 = .ok (.ireturn, 1) := by decide +kernel
theorem dXs_takeTurn_84 : decode cXs_takeTurn 84 = .ok (.iload_n 3, 1) := by decide +kernel
theorem dXs_takeTurn_85 : decode cXs_takeTurn 85 = .ok (.iconst 1, 1) := by decide +kernel
theorem dXs_takeTurn_86 : decode cXs_takeTurn 86 = .ok (.if_icmp .eq 8, 3) := by decide +kernel
theorem dXs_takeTurn_89 : decode cXs_takeTurn 89 = .ok (.iload_n 3, 1) := by decide +kernel
theorem dXs_takeTurn_90 : decode cXs_takeTurn 90 = .ok (.iconst 2, 1) := by decide +kernel
theorem dXs_takeTurn_91 : decode cXs_takeTurn 91 = .ok (.if_icmp .ne 13, 3) := by decide +kernel
theorem dXs_takeTurn_94 : decode cXs_takeTurn 94 = .ok (.aload_n 0, 1) := by decide +kernel
theorem dXs_takeTurn_95 : decode cXs_takeTurn 95 = .ok (.getfield 41, 3) := by decide +kernel
theorem dXs_takeTurn_98 : decode cXs_takeTurn 98 = .ok (.iload_n 1, 1) := by decide +kernel
theorem dXs_takeTurn_99 : decode cXs_takeTurn 99 = .ok (.dup2, 1) := by decide +kernel
theorem dXs_takeTurn_100 : decode cXs_takeTurn 100 = .ok (.iaload, 1) := by decide +kernel
theorem dXs_takeTurn_101 : decode cXs_takeTurn 101 = .ok (.iconst 1, 1) := by decide +kernel
theorem dXs_takeTurn_102 : decode cXs_takeTurn 102 = .ok (.iadd, 1) := by decide +kernel
theorem dXs_takeTurn_103 : decode cXs_takeTurn 103 = .ok (.iastore, 1) := by decide +kernel
theorem dXs_takeTurn_104 : decode cXs_takeTurn 104 = .ok (.iload_n 3, 1) := by decide +kernel
theorem dXs_takeTurn_105 : decode cXs_takeTurn 105 = .ok (.ireturn, 1) := by decide +kernel
theorem dXs_step_0 : decode cXs_step 0 = .ok (.iload_n 1, 1) := by decide +kernel
theorem dXs_step_1 : decode cXs_step 1 = .ok (.invokestatic 70, 3) := by decide +kernel
theorem dXs_step_4 : decode cXs_step 4 = .ok (.aload_n 0, 1) := by decide +kernel
theorem dXs_step_5 : decode cXs_step 5 = .ok (.iload_n 1, 1) := by decide +kernel
theorem dXs_step_6 : decode cXs_step 6 = .ok (.invokevirtual 124, 3) := by decide +kernel
theorem dXs_step_9 : decode cXs_step 9 = .ok (.aload_n 0, 1) := by decide +kernel
theorem dXs_step_10 : decode cXs_step 10 = .ok (.iload_n 1, 1) := by decide +kernel
theorem dXs_step_11 : decode cXs_step 11 = .ok (.invokevirtual 127, 3) := by decide +kernel
theorem dXs_step_14 : decode cXs_step 14 = .ok (.ireturn, 1) := by decide +kernel
theorem dXs_run_0 : decode cXs_run 0 = .ok (.iload_n 3, 1) := by decide +kernel
theorem dXs_run_1 : decode cXs_run 1 = .ok (.ifCond .lt 9, 3) := by decide +kernel
theorem dXs_run_4 : decode cXs_run 4 = .ok (.iload_n 3, 1) := by decide +kernel
theorem dXs_run_5 : decode cXs_run 5 = .ok (.bipush 16, 2) := by decide +kernel
theorem dXs_run_7 : decode cXs_run 7 = .ok (.if_icmp .le 13, 3) := by decide +kernel
theorem dXs_run_10 : decode cXs_run 10 = .ok (.new 81, 3) := by decide +kernel
theorem dXs_run_13 : decode cXs_run 13 = .ok (.dup, 1) := by decide +kernel
theorem dXs_run_14 : decode cXs_run 14 = .ok (.ldc 130, 2) := by decide +kernel
theorem dXs_run_16 : decode cXs_run 16 = .ok (.invokespecial 85, 3) := by decide +kernel
theorem dXs_run_19 : decode cXs_run 19 = .ok (.athrow, 1) := by decide +kernel
theorem dXs_run_20 : decode cXs_run 20 = .ok (.iconst 0, 1) := by decide +kernel
theorem dXs_run_21 : decode cXs_run 21 = .ok (.istore 4, 2) := by decide +kernel
theorem dXs_run_23 : decode cXs_run 23 = .ok (.iconst 0, 1) := by decide +kernel
theorem dXs_run_24 : decode cXs_run 24 = .ok (.istore 5, 2) := by decide +kernel
theorem dXs_run_26 : decode cXs_run 26 = .ok (.iload 5, 2) := by decide +kernel
theorem dXs_run_28 : decode cXs_run 28 = .ok (.iload_n 3, 1) := by decide +kernel
theorem dXs_run_29 : decode cXs_run 29 = .ok (.if_icmp .ge 45, 3) := by decide +kernel
theorem dXs_run_32 : decode cXs_run 32 = .ok (.lload_n 1, 1) := by decide +kernel
theorem dXs_run_33 : decode cXs_run 33 = .ok (.iconst 4, 1) := by decide +kernel
theorem dXs_run_34 : decode cXs_run 34 = .ok (.iload 5, 2) := by decide +kernel
theorem dXs_run_36 : decode cXs_run 36 = .ok (.imul, 1) := by decide +kernel
theorem dXs_run_37 : decode cXs_run 37 = .ok (.lushr, 1) := by decide +kernel
theorem dXs_run_38 : decode cXs_run 38 = .ok (.ldc2_w 132, 3) := by decide +kernel
theorem dXs_run_41 : decode cXs_run 41 = .ok (.land, 1) := by decide +kernel
theorem dXs_run_42 : decode cXs_run 42 = .ok (.l2i, 1) := by decide +kernel
theorem dXs_run_43 : decode cXs_run 43 = .ok (.istore 6, 2) := by decide +kernel
theorem dXs_run_45 : decode cXs_run 45 = .ok (.aload_n 0, 1) := by decide +kernel
theorem dXs_run_46 : decode cXs_run 46 = .ok (.getfield 37, 3) := by decide +kernel
theorem dXs_run_49 : decode cXs_run 49 = .ok (.iload 6, 2) := by decide +kernel
theorem dXs_run_51 : decode cXs_run 51 = .ok (.iaload, 1) := by decide +kernel
theorem dXs_run_52 : decode cXs_run 52 = .ok (.ifCond .ne 16, 3) := by decide +kernel
theorem dXs_run_55 : decode cXs_run 55 = .ok (.aload_n 0, 1) := by decide +kernel
theorem dXs_run_56 : decode cXs_run 56 = .ok (.iload 6, 2) := by decide +kernel
theorem dXs_run_58 : decode cXs_run 58 = .ok (.invokevirtual 127, 3) := by decide +kernel
theorem dXs_run_61 : decode cXs_run 61 = .ok (.iconst 1, 1) := by decide +kernel
theorem dXs_run_62 : decode cXs_run 62 = .ok (.if_icmp .ne 6, 3) := by decide +kernel
theorem dXs_run_65 : decode cXs_run 65 = .ok (.iinc 4 1, 3) := by decide +kernel
theorem dXs_run_68 : decode cXs_run 68 = .ok (.iinc 5 1, 3) := by decide +kernel
theorem dXs_run_71 : decode cXs_run 71 = .ok (.goto (-45), 3) := by decide +kernel
theorem dXs_run_74 : decode cXs_run 74 = .ok (.iload 4, 2) := by decide +kernel
theorem dXs_run_76 : decode cXs_run 76 = .ok (.ireturn, 1) := by decide +kernel
theorem dXs_runsWithActs_0 : decode cXs_runsWithActs 0 = .ok (.aload_n 0, 1) := by decide +kernel
theorem dXs_runsWithActs_1 : decode cXs_runsWithActs 1 = .ok (.getfield 37, 3) := by decide +kernel
theorem dXs_runsWithActs_4 : decode cXs_runsWithActs 4 = .ok (.iload_n 1, 1) := by decide +kernel
theorem dXs_runsWithActs_5 : decode cXs_runsWithActs 5 = .ok (.iaload, 1) := by decide +kernel
theorem dXs_runsWithActs_6 : decode cXs_runsWithActs 6 = .ok (.ifCond .ne 18, 3) := by decide +kernel
theorem dXs_runsWithActs_9 : decode cXs_runsWithActs 9 = .ok (.aload_n 0, 1) := by decide +kernel
theorem dXs_runsWithActs_10 : decode cXs_runsWithActs 10 = .ok (.getfield 10, 3) := by decide +kernel
theorem dXs_runsWithActs_13 : decode cXs_runsWithActs 13 = .ok (.iload_n 1, 1) := by decide +kernel
theorem dXs_runsWithActs_14 : decode cXs_runsWithActs 14 = .ok (.invokevirtual 102, 3) := by decide +kernel
theorem dXs_runsWithActs_17 : decode cXs_runsWithActs 17 = .ok (.ifCond .le 7, 3) := by decide +kernel
theorem dXs_runsWithActs_20 : decode cXs_runsWithActs 20 = .ok (.iconst 1, 1) := by decide +kernel
theorem dXs_runsWithActs_21 : decode cXs_runsWithActs 21 = .ok (.goto 4, 3) := by decide +kernel
theorem dXs_runsWithActs_24 : decode cXs_runsWithActs 24 = .ok (.iconst 0, 1) := by decide +kernel
theorem dXs_runsWithActs_25 : decode cXs_runsWithActs 25 = .ok (.ireturn, 1) := by decide +kernel
theorem dXs_nextRunningBehind_0 : decode cXs_nextRunningBehind 0 = .ok (.iconst 1, 1) := by decide +kernel
theorem dXs_nextRunningBehind_1 : decode cXs_nextRunningBehind 1 = .ok (.istore_n 2, 1) := by decide +kernel
theorem dXs_nextRunningBehind_2 : decode cXs_nextRunningBehind 2 = .ok (.iload_n 2, 1) := by decide +kernel
theorem dXs_nextRunningBehind_3 : decode cXs_nextRunningBehind 3 = .ok (.bipush 8, 2) := by decide +kernel
theorem dXs_nextRunningBehind_5 : decode cXs_nextRunningBehind 5 = .ok (.if_icmp .ge 26, 3) := by decide +kernel
theorem dXs_nextRunningBehind_8 : decode cXs_nextRunningBehind 8 = .ok (.iload_n 1, 1) := by decide +kernel
theorem dXs_nextRunningBehind_9 : decode cXs_nextRunningBehind 9 = .ok (.iload_n 2, 1) := by decide +kernel
theorem dXs_nextRunningBehind_10 : decode cXs_nextRunningBehind 10 = .ok (.iadd, 1) := by decide +kernel
theorem dXs_nextRunningBehind_11 : decode cXs_nextRunningBehind 11 = .ok (.bipush 8, 2) := by decide +kernel
theorem dXs_nextRunningBehind_13 : decode cXs_nextRunningBehind 13 = .ok (.irem, 1) := by decide +kernel
theorem dXs_nextRunningBehind_14 : decode cXs_nextRunningBehind 14 = .ok (.istore_n 3, 1) := by decide +kernel
theorem dXs_nextRunningBehind_15 : decode cXs_nextRunningBehind 15 = .ok (.aload_n 0, 1) := by decide +kernel
theorem dXs_nextRunningBehind_16 : decode cXs_nextRunningBehind 16 = .ok (.iload_n 3, 1) := by decide +kernel
theorem dXs_nextRunningBehind_17 : decode cXs_nextRunningBehind 17 = .ok (.invokevirtual 282, 3) := by decide +kernel
theorem dXs_nextRunningBehind_20 : decode cXs_nextRunningBehind 20 = .ok (.ifCond .eq 5, 3) := by decide +kernel
theorem dXs_nextRunningBehind_23 : decode cXs_nextRunningBehind 23 = .ok (.iload_n 3, 1) := by decide +kernel
theorem dXs_nextRunningBehind_24 : decode cXs_nextRunningBehind 24 = .ok (.ireturn, 1) := by decide +kernel
theorem dXs_nextRunningBehind_25 : decode cXs_nextRunningBehind 25 = .ok (.iinc 2 1, 3) := by decide +kernel
theorem dXs_nextRunningBehind_28 : decode cXs_nextRunningBehind 28 = .ok (.goto (-26), 3) := by decide +kernel
theorem dXs_nextRunningBehind_31 : decode cXs_nextRunningBehind 31 = .ok (.iconst (-1), 1) := by decide +kernel
theorem dXs_nextRunningBehind_32 : decode cXs_nextRunningBehind 32 = .ok (.ireturn, 1) := by decide +kernel
theorem dXc_passOn_0 : decode cXc_passOn 0 = .ok (.iconst 0, 1) := by decide +kernel
theorem dXc_passOn_1 : decode cXc_passOn 1 = .ok (.istore_n 3, 1) := by decide +kernel
theorem dXc_passOn_2 : decode cXc_passOn 2 = .ok (.iload_n 3, 1) := by decide +kernel
theorem dXc_passOn_3 : decode cXc_passOn 3 = .ok (.aload_n 0, 1) := by decide +kernel
theorem dXc_passOn_4 : decode cXc_passOn 4 = .ok (.getfield 31, 3) := by decide +kernel
theorem dXc_passOn_7 : decode cXc_passOn 7 = .ok (.if_icmp .ge 25, 3) := by decide +kernel
theorem dXc_passOn_10 : decode cXc_passOn 10 = .ok (.aload_n 0, 1) := by decide +kernel
theorem dXc_passOn_11 : decode cXc_passOn 11 = .ok (.iload_n 3, 1) := by decide +kernel
theorem dXc_passOn_12 : decode cXc_passOn 12 = .ok (.iload_n 1, 1) := by decide +kernel
theorem dXc_passOn_13 : decode cXc_passOn 13 = .ok (.invokevirtual 39, 3) := by decide +kernel
theorem dXc_passOn_16 : decode cXc_passOn 16 = .ok (.ifCond .eq 10, 3) := by decide +kernel
theorem dXc_passOn_19 : decode cXc_passOn 19 = .ok (.aload_n 0, 1) := by decide +kernel
theorem dXc_passOn_20 : decode cXc_passOn 20 = .ok (.getfield 15, 3) := by decide +kernel
theorem dXc_passOn_23 : decode cXc_passOn 23 = .ok (.iload_n 3, 1) := by decide +kernel
theorem dXc_passOn_24 : decode cXc_passOn 24 = .ok (.iload_n 2, 1) := by decide +kernel
theorem dXc_passOn_25 : decode cXc_passOn 25 = .ok (.iastore, 1) := by decide +kernel
theorem dXc_passOn_26 : decode cXc_passOn 26 = .ok (.iinc 3 1, 3) := by decide +kernel
theorem dXc_passOn_29 : decode cXc_passOn 29 = .ok (.goto (-27), 3) := by decide +kernel
theorem dXc_passOn_32 : decode cXc_passOn 32 = .ok (.return_, 1) := by decide +kernel
theorem dXs_kill_0 : decode cXs_kill 0 = .ok (.iload_n 1, 1) := by decide +kernel
theorem dXs_kill_1 : decode cXs_kill 1 = .ok (.invokestatic 70, 3) := by decide +kernel
theorem dXs_kill_4 : decode cXs_kill 4 = .ok (.aload_n 0, 1) := by decide +kernel
theorem dXs_kill_5 : decode cXs_kill 5 = .ok (.iload_n 1, 1) := by decide +kernel
theorem dXs_kill_6 : decode cXs_kill 6 = .ok (.invokevirtual 124, 3) := by decide +kernel
theorem dXs_kill_9 : decode cXs_kill 9 = .ok (.aload_n 0, 1) := by decide +kernel
theorem dXs_kill_10 : decode cXs_kill 10 = .ok (.getfield 37, 3) := by decide +kernel
theorem dXs_kill_13 : decode cXs_kill 13 = .ok (.iload_n 1, 1) := by decide +kernel
theorem dXs_kill_14 : decode cXs_kill 14 = .ok (.iconst 2, 1) := by decide +kernel
theorem dXs_kill_15 : decode cXs_kill 15 = .ok (.iastore, 1) := by decide +kernel
theorem dXs_kill_16 : decode cXs_kill 16 = .ok (.aload_n 0, 1) := by decide +kernel
theorem dXs_kill_17 : decode cXs_kill 17 = .ok (.getfield 53, 3) := by decide +kernel
theorem dXs_kill_20 : decode cXs_kill 20 = .ok (.iload_n 1, 1) := by decide +kernel
theorem dXs_kill_21 : decode cXs_kill 21 = .ok (.aload_n 0, 1) := by decide +kernel
theorem dXs_kill_22 : decode cXs_kill 22 = .ok (.getfield 63, 3) := by decide +kernel
theorem dXs_kill_25 : decode cXs_kill 25 = .ok (.aload_n 0, 1) := by decide +kernel
theorem dXs_kill_26 : decode cXs_kill 26 = .ok (.getfield 67, 3) := by decide +kernel
theorem dXs_kill_29 : decode cXs_kill 29 = .ok (.iadd, 1) := by decide +kernel
theorem dXs_kill_30 : decode cXs_kill 30 = .ok (.iastore, 1) := by decide +kernel
theorem dXs_kill_31 : decode cXs_kill 31 = .ok (.aload_n 0, 1) := by decide +kernel
theorem dXs_kill_32 : decode cXs_kill 32 = .ok (.getfield 67, 3) := by decide +kernel
theorem dXs_kill_35 : decode cXs_kill 35 = .ok (.ifCond .ne 11, 3) := by decide +kernel
theorem dXs_kill_38 : decode cXs_kill 38 = .ok (.aload_n 0, 1) := by decide +kernel
theorem dXs_kill_39 : decode cXs_kill 39 = .ok (.getfield 19, 3) := by decide +kernel
theorem dXs_kill_42 : decode cXs_kill 42 = .ok (.iload_n 1, 1) := by decide +kernel
theorem dXs_kill_43 : decode cXs_kill 43 = .ok (.invokevirtual 134, 3) := by decide +kernel
theorem dXs_kill_46 : decode cXs_kill 46 = .ok (.aload_n 0, 1) := by decide +kernel
theorem dXs_kill_47 : decode cXs_kill 47 = .ok (.getfield 26, 3) := by decide +kernel
theorem dXs_kill_50 : decode cXs_kill 50 = .ok (.iload_n 1, 1) := by decide +kernel
theorem dXs_kill_51 : decode cXs_kill 51 = .ok (.aload_n 0, 1) := by decide +kernel
theorem dXs_kill_52 : decode cXs_kill 52 = .ok (.iload_n 1, 1) := by decide +kernel
theorem dXs_kill_53 : decode cXs_kill 53 = .ok (.invokevirtual 137, 3) := by decide +kernel
theorem dXs_kill_56 : decode cXs_kill 56 = .ok (.invokevirtual 140, 3) := by decide +kernel
theorem dXs_kill_59 : decode cXs_kill 59 = .ok (.return_, 1) := by decide +kernel
theorem dXs_restart_0 : decode cXs_restart 0 = .ok (.iload_n 1, 1) := by decide +kernel
theorem dXs_restart_1 : decode cXs_restart 1 = .ok (.invokestatic 70, 3) := by decide +kernel
theorem dXs_restart_4 : decode cXs_restart 4 = .ok (.aload_n 0, 1) := by decide +kernel
theorem dXs_restart_5 : decode cXs_restart 5 = .ok (.getfield 37, 3) := by decide +kernel
theorem dXs_restart_8 : decode cXs_restart 8 = .ok (.iload_n 1, 1) := by decide +kernel
theorem dXs_restart_9 : decode cXs_restart 9 = .ok (.iaload, 1) := by decide +kernel
theorem dXs_restart_10 : decode cXs_restart 10 = .ok (.ifCond .ne 13, 3) := by decide +kernel
theorem dXs_restart_13 : decode cXs_restart 13 = .ok (.new 143, 3) := by decide +kernel
theorem dXs_restart_16 : decode cXs_restart 16 = .ok (.dup, 1) := by decide +kernel
theorem dXs_restart_17 : decode cXs_restart 17 = .ok (.ldc 145, 2) := by decide +kernel
theorem dXs_restart_19 : decode cXs_restart 19 = .ok (.invokespecial 147, 3) := by decide +kernel
theorem dXs_restart_22 : decode cXs_restart 22 = .ok (.athrow, 1) := by decide +kernel
theorem dXs_restart_23 : decode cXs_restart 23 = .ok (.aload_n 0, 1) := by decide +kernel
theorem dXs_restart_24 : decode cXs_restart 24 = .ok (.getfield 19, 3) := by decide +kernel
theorem dXs_restart_27 : decode cXs_restart 27 = .ok (.iload_n 1, 1) := by decide +kernel
theorem dXs_restart_28 : decode cXs_restart 28 = .ok (.invokevirtual 134, 3) := by decide +kernel
theorem dXs_restart_31 : decode cXs_restart 31 = .ok (.aload_n 0, 1) := by decide +kernel
theorem dXs_restart_32 : decode cXs_restart 32 = .ok (.getfield 37, 3) := by decide +kernel
theorem dXs_restart_35 : decode cXs_restart 35 = .ok (.iload_n 1, 1) := by decide +kernel
theorem dXs_restart_36 : decode cXs_restart 36 = .ok (.iconst 0, 1) := by decide +kernel
theorem dXs_restart_37 : decode cXs_restart 37 = .ok (.iastore, 1) := by decide +kernel
theorem dXs_restart_38 : decode cXs_restart 38 = .ok (.aload_n 0, 1) := by decide +kernel
theorem dXs_restart_39 : decode cXs_restart 39 = .ok (.getfield 41, 3) := by decide +kernel
theorem dXs_restart_42 : decode cXs_restart 42 = .ok (.iload_n 1, 1) := by decide +kernel
theorem dXs_restart_43 : decode cXs_restart 43 = .ok (.iconst 0, 1) := by decide +kernel
theorem dXs_restart_44 : decode cXs_restart 44 = .ok (.iastore, 1) := by decide +kernel
theorem dXs_restart_45 : decode cXs_restart 45 = .ok (.aload_n 0, 1) := by decide +kernel
theorem dXs_restart_46 : decode cXs_restart 46 = .ok (.getfield 44, 3) := by decide +kernel
theorem dXs_restart_49 : decode cXs_restart 49 = .ok (.iload_n 1, 1) := by decide +kernel
theorem dXs_restart_50 : decode cXs_restart 50 = .ok (.iconst 0, 1) := by decide +kernel
theorem dXs_restart_51 : decode cXs_restart 51 = .ok (.iastore, 1) := by decide +kernel
theorem dXs_restart_52 : decode cXs_restart 52 = .ok (.aload_n 0, 1) := by decide +kernel
theorem dXs_restart_53 : decode cXs_restart 53 = .ok (.getfield 47, 3) := by decide +kernel
theorem dXs_restart_56 : decode cXs_restart 56 = .ok (.iload_n 1, 1) := by decide +kernel
theorem dXs_restart_57 : decode cXs_restart 57 = .ok (.iconst 0, 1) := by decide +kernel
theorem dXs_restart_58 : decode cXs_restart 58 = .ok (.iastore, 1) := by decide +kernel
theorem dXs_restart_59 : decode cXs_restart 59 = .ok (.aload_n 0, 1) := by decide +kernel
theorem dXs_restart_60 : decode cXs_restart 60 = .ok (.getfield 56, 3) := by decide +kernel
theorem dXs_restart_63 : decode cXs_restart 63 = .ok (.iload_n 1, 1) := by decide +kernel
theorem dXs_restart_64 : decode cXs_restart 64 = .ok (.iconst 0, 1) := by decide +kernel
theorem dXs_restart_65 : decode cXs_restart 65 = .ok (.bastore, 1) := by decide +kernel
theorem dXs_restart_66 : decode cXs_restart 66 = .ok (.aload_n 0, 1) := by decide +kernel
theorem dXs_restart_67 : decode cXs_restart 67 = .ok (.getfield 60, 3) := by decide +kernel
theorem dXs_restart_70 : decode cXs_restart 70 = .ok (.iload_n 1, 1) := by decide +kernel
theorem dXs_restart_71 : decode cXs_restart 71 = .ok (.iconst 0, 1) := by decide +kernel
theorem dXs_restart_72 : decode cXs_restart 72 = .ok (.bastore, 1) := by decide +kernel
theorem dXs_restart_73 : decode cXs_restart 73 = .ok (.return_, 1) := by decide +kernel
theorem dXs_lease_0 : decode cXs_lease 0 = .ok (.iload_n 1, 1) := by decide +kernel
theorem dXs_lease_1 : decode cXs_lease 1 = .ok (.ifCond .lt 9, 3) := by decide +kernel
theorem dXs_lease_4 : decode cXs_lease 4 = .ok (.iload_n 1, 1) := by decide +kernel
theorem dXs_lease_5 : decode cXs_lease 5 = .ok (.bipush 100, 2) := by decide +kernel
theorem dXs_lease_7 : decode cXs_lease 7 = .ok (.if_icmp .le 13, 3) := by decide +kernel
theorem dXs_lease_10 : decode cXs_lease 10 = .ok (.new 81, 3) := by decide +kernel
theorem dXs_lease_13 : decode cXs_lease 13 = .ok (.dup, 1) := by decide +kernel
theorem dXs_lease_14 : decode cXs_lease 14 = .ok (.ldc 148, 2) := by decide +kernel
theorem dXs_lease_16 : decode cXs_lease 16 = .ok (.invokespecial 85, 3) := by decide +kernel
theorem dXs_lease_19 : decode cXs_lease 19 = .ok (.athrow, 1) := by decide +kernel
theorem dXs_lease_20 : decode cXs_lease 20 = .ok (.aload_n 0, 1) := by decide +kernel
theorem dXs_lease_21 : decode cXs_lease 21 = .ok (.iload_n 1, 1) := by decide +kernel
theorem dXs_lease_22 : decode cXs_lease 22 = .ok (.putfield 67, 3) := by decide +kernel
theorem dXs_lease_25 : decode cXs_lease 25 = .ok (.return_, 1) := by decide +kernel
theorem dXs_close_0 : decode cXs_close 0 = .ok (.iconst 0, 1) := by decide +kernel
theorem dXs_close_1 : decode cXs_close 1 = .ok (.istore_n 1, 1) := by decide +kernel
theorem dXs_close_2 : decode cXs_close 2 = .ok (.iconst 0, 1) := by decide +kernel
theorem dXs_close_3 : decode cXs_close 3 = .ok (.istore_n 2, 1) := by decide +kernel
theorem dXs_close_4 : decode cXs_close 4 = .ok (.iload_n 2, 1) := by decide +kernel
theorem dXs_close_5 : decode cXs_close 5 = .ok (.bipush 8, 2) := by decide +kernel
theorem dXs_close_7 : decode cXs_close 7 = .ok (.if_icmp .ge 55, 3) := by decide +kernel
theorem dXs_close_10 : decode cXs_close 10 = .ok (.aload_n 0, 1) := by decide +kernel
theorem dXs_close_11 : decode cXs_close 11 = .ok (.getfield 37, 3) := by decide +kernel
theorem dXs_close_14 : decode cXs_close 14 = .ok (.iload_n 2, 1) := by decide +kernel
theorem dXs_close_15 : decode cXs_close 15 = .ok (.iaload, 1) := by decide +kernel
theorem dXs_close_16 : decode cXs_close 16 = .ok (.ifCond .ne 22, 3) := by decide +kernel
theorem dXs_close_19 : decode cXs_close 19 = .ok (.aload_n 0, 1) := by decide +kernel
theorem dXs_close_20 : decode cXs_close 20 = .ok (.iload_n 2, 1) := by decide +kernel
theorem dXs_close_21 : decode cXs_close 21 = .ok (.invokevirtual 150, 3) := by decide +kernel
theorem dXs_close_24 : decode cXs_close 24 = .ok (.aload_n 0, 1) := by decide +kernel
theorem dXs_close_25 : decode cXs_close 25 = .ok (.getfield 26, 3) := by decide +kernel
theorem dXs_close_28 : decode cXs_close 28 = .ok (.iload_n 2, 1) := by decide +kernel
theorem dXs_close_29 : decode cXs_close 29 = .ok (.invokevirtual 153, 3) := by decide +kernel
theorem dXs_close_32 : decode cXs_close 32 = .ok (.iinc 1 1, 3) := by decide +kernel
theorem dXs_close_35 : decode cXs_close 35 = .ok (.goto 21, 3) := by decide +kernel
theorem dXs_close_38 : decode cXs_close 38 = .ok (.aload_n 0, 1) := by decide +kernel
theorem dXs_close_39 : decode cXs_close 39 = .ok (.getfield 37, 3) := by decide +kernel
theorem dXs_close_42 : decode cXs_close 42 = .ok (.iload_n 2, 1) := by decide +kernel
theorem dXs_close_43 : decode cXs_close 43 = .ok (.iaload, 1) := by decide +kernel
theorem dXs_close_44 : decode cXs_close 44 = .ok (.iconst 2, 1) := by decide +kernel
theorem dXs_close_45 : decode cXs_close 45 = .ok (.if_icmp .ne 11, 3) := by decide +kernel
theorem dXs_close_48 : decode cXs_close 48 = .ok (.aload_n 0, 1) := by decide +kernel
theorem dXs_close_49 : decode cXs_close 49 = .ok (.getfield 19, 3) := by decide +kernel
theorem dXs_close_52 : decode cXs_close 52 = .ok (.iload_n 2, 1) := by decide +kernel
theorem dXs_close_53 : decode cXs_close 53 = .ok (.invokevirtual 134, 3) := by decide +kernel
theorem dXs_close_56 : decode cXs_close 56 = .ok (.iinc 2 1, 3) := by decide +kernel
theorem dXs_close_59 : decode cXs_close 59 = .ok (.goto (-55), 3) := by decide +kernel
theorem dXs_close_62 : decode cXs_close 62 = .ok (.iload_n 1, 1) := by decide +kernel
theorem dXs_close_63 : decode cXs_close 63 = .ok (.ireturn, 1) := by decide +kernel
theorem dXs_unit_0 : decode cXs_unit 0 = .ok (.iload_n 1, 1) := by decide +kernel
theorem dXs_unit_1 : decode cXs_unit 1 = .ok (.ifCond .lt 9, 3) := by decide +kernel
theorem dXs_unit_4 : decode cXs_unit 4 = .ok (.iload_n 1, 1) := by decide +kernel
theorem dXs_unit_5 : decode cXs_unit 5 = .ok (.bipush 10, 2) := by decide +kernel
theorem dXs_unit_7 : decode cXs_unit 7 = .ok (.if_icmp .lt 13, 3) := by decide +kernel
theorem dXs_unit_10 : decode cXs_unit 10 = .ok (.new 74, 3) := by decide +kernel
theorem dXs_unit_13 : decode cXs_unit 13 = .ok (.dup, 1) := by decide +kernel
theorem dXs_unit_14 : decode cXs_unit 14 = .ok (.ldc 156, 2) := by decide +kernel
theorem dXs_unit_16 : decode cXs_unit 16 = .ok (.invokespecial 78, 3) := by decide +kernel
theorem dXs_unit_19 : decode cXs_unit 19 = .ok (.athrow, 1) := by decide +kernel
theorem dXs_unit_20 : decode cXs_unit 20 = .ok (.iload_n 2, 1) := by decide +kernel
theorem dXs_unit_21 : decode cXs_unit 21 = .ok (.lookupswitch 47 #[(0, 27), (1, 37)], 27) := by decide +kernel
theorem dXs_unit_48 : decode cXs_unit 48 = .ok (.aload_n 0, 1) := by decide +kernel
theorem dXs_unit_49 : decode cXs_unit 49 = .ok (.getfield 19, 3) := by decide +kernel
theorem dXs_unit_52 : decode cXs_unit 52 = .ok (.getfield 158, 3) := by decide +kernel
theorem dXs_unit_55 : decode cXs_unit 55 = .ok (.iload_n 1, 1) := by decide +kernel
theorem dXs_unit_56 : decode cXs_unit 56 = .ok (.iaload, 1) := by decide +kernel
theorem dXs_unit_57 : decode cXs_unit 57 = .ok (.ireturn, 1) := by decide +kernel
theorem dXs_unit_58 : decode cXs_unit 58 = .ok (.aload_n 0, 1) := by decide +kernel
theorem dXs_unit_59 : decode cXs_unit 59 = .ok (.getfield 19, 3) := by decide +kernel
theorem dXs_unit_62 : decode cXs_unit 62 = .ok (.getfield 161, 3) := by decide +kernel
theorem dXs_unit_65 : decode cXs_unit 65 = .ok (.iload_n 1, 1) := by decide +kernel
theorem dXs_unit_66 : decode cXs_unit 66 = .ok (.iaload, 1) := by decide +kernel
theorem dXs_unit_67 : decode cXs_unit 67 = .ok (.ireturn, 1) := by decide +kernel
theorem dXs_unit_68 : decode cXs_unit 68 = .ok (.new 74, 3) := by decide +kernel
theorem dXs_unit_71 : decode cXs_unit 71 = .ok (.dup, 1) := by decide +kernel
theorem dXs_unit_72 : decode cXs_unit 72 = .ok (.ldc 164, 2) := by decide +kernel
theorem dXs_unit_74 : decode cXs_unit 74 = .ok (.invokespecial 78, 3) := by decide +kernel
theorem dXs_unit_77 : decode cXs_unit 77 = .ok (.athrow, 1) := by decide +kernel
theorem dXs_callAt_0 : decode cXs_callAt 0 = .ok (.aload_n 0, 1) := by decide +kernel
theorem dXs_callAt_1 : decode cXs_callAt 1 = .ok (.getfield 26, 3) := by decide +kernel
theorem dXs_callAt_4 : decode cXs_callAt 4 = .ok (.iload_n 1, 1) := by decide +kernel
theorem dXs_callAt_5 : decode cXs_callAt 5 = .ok (.invokevirtual 166, 3) := by decide +kernel
theorem dXs_callAt_8 : decode cXs_callAt 8 = .ok (.ifCond .ne 13, 3) := by decide +kernel
theorem dXs_callAt_11 : decode cXs_callAt 11 = .ok (.new 74, 3) := by decide +kernel
theorem dXs_callAt_14 : decode cXs_callAt 14 = .ok (.dup, 1) := by decide +kernel
theorem dXs_callAt_15 : decode cXs_callAt 15 = .ok (.ldc 169, 2) := by decide +kernel
theorem dXs_callAt_17 : decode cXs_callAt 17 = .ok (.invokespecial 78, 3) := by decide +kernel
theorem dXs_callAt_20 : decode cXs_callAt 20 = .ok (.athrow, 1) := by decide +kernel
theorem dXs_callAt_21 : decode cXs_callAt 21 = .ok (.iload_n 2, 1) := by decide +kernel
theorem dXs_callAt_22 : decode cXs_callAt 22 = .ok (.tableswitch 78 0 3 #[30, 40, 50, 60], 30) := by decide +kernel
theorem dXs_callAt_52 : decode cXs_callAt 52 = .ok (.aload_n 0, 1) := by decide +kernel
theorem dXs_callAt_53 : decode cXs_callAt 53 = .ok (.getfield 26, 3) := by decide +kernel
theorem dXs_callAt_56 : decode cXs_callAt 56 = .ok (.getfield 171, 3) := by decide +kernel
theorem dXs_callAt_59 : decode cXs_callAt 59 = .ok (.iload_n 1, 1) := by decide +kernel
theorem dXs_callAt_60 : decode cXs_callAt 60 = .ok (.iaload, 1) := by decide +kernel
theorem dXs_callAt_61 : decode cXs_callAt 61 = .ok (.ireturn, 1) := by decide +kernel
theorem dXs_callAt_62 : decode cXs_callAt 62 = .ok (.aload_n 0, 1) := by decide +kernel
theorem dXs_callAt_63 : decode cXs_callAt 63 = .ok (.getfield 26, 3) := by decide +kernel
theorem dXs_callAt_66 : decode cXs_callAt 66 = .ok (.getfield 174, 3) := by decide +kernel
theorem dXs_callAt_69 : decode cXs_callAt 69 = .ok (.iload_n 1, 1) := by decide +kernel
theorem dXs_callAt_70 : decode cXs_callAt 70 = .ok (.iaload, 1) := by decide +kernel
theorem dXs_callAt_71 : decode cXs_callAt 71 = .ok (.ireturn, 1) := by decide +kernel
theorem dXs_callAt_72 : decode cXs_callAt 72 = .ok (.aload_n 0, 1) := by decide +kernel
theorem dXs_callAt_73 : decode cXs_callAt 73 = .ok (.getfield 26, 3) := by decide +kernel
theorem dXs_callAt_76 : decode cXs_callAt 76 = .ok (.getfield 177, 3) := by decide +kernel
theorem dXs_callAt_79 : decode cXs_callAt 79 = .ok (.iload_n 1, 1) := by decide +kernel
theorem dXs_callAt_80 : decode cXs_callAt 80 = .ok (.iaload, 1) := by decide +kernel
theorem dXs_callAt_81 : decode cXs_callAt 81 = .ok (.ireturn, 1) := by decide +kernel
theorem dXs_callAt_82 : decode cXs_callAt 82 = .ok (.aload_n 0, 1) := by decide +kernel
theorem dXs_callAt_83 : decode cXs_callAt 83 = .ok (.getfield 26, 3) := by decide +kernel
theorem dXs_callAt_86 : decode cXs_callAt 86 = .ok (.getfield 180, 3) := by decide +kernel
theorem dXs_callAt_89 : decode cXs_callAt 89 = .ok (.iload_n 1, 1) := by decide +kernel
theorem dXs_callAt_90 : decode cXs_callAt 90 = .ok (.baload, 1) := by decide +kernel
theorem dXs_callAt_91 : decode cXs_callAt 91 = .ok (.ifCond .eq 7, 3) := by decide +kernel
theorem dXs_callAt_94 : decode cXs_callAt 94 = .ok (.iconst 1, 1) := by decide +kernel
theorem dXs_callAt_95 : decode cXs_callAt 95 = .ok (.goto 4, 3) := by decide +kernel
theorem dXs_callAt_98 : decode cXs_callAt 98 = .ok (.iconst 0, 1) := by decide +kernel
theorem dXs_callAt_99 : decode cXs_callAt 99 = .ok (.ireturn, 1) := by decide +kernel
theorem dXs_callAt_100 : decode cXs_callAt 100 = .ok (.new 74, 3) := by decide +kernel
theorem dXs_callAt_103 : decode cXs_callAt 103 = .ok (.dup, 1) := by decide +kernel
theorem dXs_callAt_104 : decode cXs_callAt 104 = .ok (.ldc 183, 2) := by decide +kernel
theorem dXs_callAt_106 : decode cXs_callAt 106 = .ok (.invokespecial 78, 3) := by decide +kernel
theorem dXs_callAt_109 : decode cXs_callAt 109 = .ok (.athrow, 1) := by decide +kernel
theorem dXu_lockedByCount_0 : decode cXu_lockedByCount 0 = .ok (.iconst 0, 1) := by decide +kernel
theorem dXu_lockedByCount_1 : decode cXu_lockedByCount 1 = .ok (.istore_n 2, 1) := by decide +kernel
theorem dXu_lockedByCount_2 : decode cXu_lockedByCount 2 = .ok (.iconst 0, 1) := by decide +kernel
theorem dXu_lockedByCount_3 : decode cXu_lockedByCount 3 = .ok (.istore_n 3, 1) := by decide +kernel
theorem dXu_lockedByCount_4 : decode cXu_lockedByCount 4 = .ok (.iload_n 3, 1) := by decide +kernel
theorem dXu_lockedByCount_5 : decode cXu_lockedByCount 5 = .ok (.bipush 10, 2) := by decide +kernel
theorem dXu_lockedByCount_7 : decode cXu_lockedByCount 7 = .ok (.if_icmp .ge 22, 3) := by decide +kernel
theorem dXu_lockedByCount_10 : decode cXu_lockedByCount 10 = .ok (.aload_n 0, 1) := by decide +kernel
theorem dXu_lockedByCount_11 : decode cXu_lockedByCount 11 = .ok (.getfield 9, 3) := by decide +kernel
theorem dXu_lockedByCount_14 : decode cXu_lockedByCount 14 = .ok (.iload_n 3, 1) := by decide +kernel
theorem dXu_lockedByCount_15 : decode cXu_lockedByCount 15 = .ok (.iaload, 1) := by decide +kernel
theorem dXu_lockedByCount_16 : decode cXu_lockedByCount 16 = .ok (.iload_n 1, 1) := by decide +kernel
theorem dXu_lockedByCount_17 : decode cXu_lockedByCount 17 = .ok (.if_icmp .ne 6, 3) := by decide +kernel
theorem dXu_lockedByCount_20 : decode cXu_lockedByCount 20 = .ok (.iinc 2 1, 3) := by decide +kernel
theorem dXu_lockedByCount_23 : decode cXu_lockedByCount 23 = .ok (.iinc 3 1, 3) := by decide +kernel
theorem dXu_lockedByCount_26 : decode cXu_lockedByCount 26 = .ok (.goto (-22), 3) := by decide +kernel
theorem dXu_lockedByCount_29 : decode cXu_lockedByCount 29 = .ok (.iload_n 2, 1) := by decide +kernel
theorem dXu_lockedByCount_30 : decode cXu_lockedByCount 30 = .ok (.ireturn, 1) := by decide +kernel
theorem dXs_thread_0 : decode cXs_thread 0 = .ok (.iload_n 1, 1) := by decide +kernel
theorem dXs_thread_1 : decode cXs_thread 1 = .ok (.invokestatic 70, 3) := by decide +kernel
theorem dXs_thread_4 : decode cXs_thread 4 = .ok (.iload_n 2, 1) := by decide +kernel
theorem dXs_thread_5 : decode cXs_thread 5 = .ok (.tableswitch 83 0 5 #[39, 46, 53, 60, 69, 76], 39) := by decide +kernel
theorem dXs_thread_44 : decode cXs_thread 44 = .ok (.aload_n 0, 1) := by decide +kernel
theorem dXs_thread_45 : decode cXs_thread 45 = .ok (.getfield 37, 3) := by decide +kernel
theorem dXs_thread_48 : decode cXs_thread 48 = .ok (.iload_n 1, 1) := by decide +kernel
theorem dXs_thread_49 : decode cXs_thread 49 = .ok (.iaload, 1) := by decide +kernel
theorem dXs_thread_50 : decode cXs_thread 50 = .ok (.ireturn, 1) := by decide +kernel
theorem dXs_thread_51 : decode cXs_thread 51 = .ok (.aload_n 0, 1) := by decide +kernel
theorem dXs_thread_52 : decode cXs_thread 52 = .ok (.getfield 41, 3) := by decide +kernel
theorem dXs_thread_55 : decode cXs_thread 55 = .ok (.iload_n 1, 1) := by decide +kernel
theorem dXs_thread_56 : decode cXs_thread 56 = .ok (.iaload, 1) := by decide +kernel
theorem dXs_thread_57 : decode cXs_thread 57 = .ok (.ireturn, 1) := by decide +kernel
theorem dXs_thread_58 : decode cXs_thread 58 = .ok (.aload_n 0, 1) := by decide +kernel
theorem dXs_thread_59 : decode cXs_thread 59 = .ok (.getfield 44, 3) := by decide +kernel
theorem dXs_thread_62 : decode cXs_thread 62 = .ok (.iload_n 1, 1) := by decide +kernel
theorem dXs_thread_63 : decode cXs_thread 63 = .ok (.iaload, 1) := by decide +kernel
theorem dXs_thread_64 : decode cXs_thread 64 = .ok (.ireturn, 1) := by decide +kernel
theorem dXs_thread_65 : decode cXs_thread 65 = .ok (.aload_n 0, 1) := by decide +kernel
theorem dXs_thread_66 : decode cXs_thread 66 = .ok (.getfield 19, 3) := by decide +kernel
theorem dXs_thread_69 : decode cXs_thread 69 = .ok (.iload_n 1, 1) := by decide +kernel
theorem dXs_thread_70 : decode cXs_thread 70 = .ok (.invokevirtual 185, 3) := by decide +kernel
theorem dXs_thread_73 : decode cXs_thread 73 = .ok (.ireturn, 1) := by decide +kernel
theorem dXs_thread_74 : decode cXs_thread 74 = .ok (.aload_n 0, 1) := by decide +kernel
theorem dXs_thread_75 : decode cXs_thread 75 = .ok (.getfield 47, 3) := by decide +kernel
theorem dXs_thread_78 : decode cXs_thread 78 = .ok (.iload_n 1, 1) := by decide +kernel
theorem dXs_thread_79 : decode cXs_thread 79 = .ok (.iaload, 1) := by decide +kernel
theorem dXs_thread_80 : decode cXs_thread 80 = .ok (.ireturn, 1) := by decide +kernel
theorem dXs_thread_81 : decode cXs_thread 81 = .ok (.aload_n 0, 1) := by decide +kernel
theorem dXs_thread_82 : decode cXs_thread 82 = .ok (.getfield 50, 3) := by decide +kernel
theorem dXs_thread_85 : decode cXs_thread 85 = .ok (.iload_n 1, 1) := by decide +kernel
theorem dXs_thread_86 : decode cXs_thread 86 = .ok (.iaload, 1) := by decide +kernel
theorem dXs_thread_87 : decode cXs_thread 87 = .ok (.ireturn, 1) := by decide +kernel
theorem dXs_thread_88 : decode cXs_thread 88 = .ok (.new 74, 3) := by decide +kernel
theorem dXs_thread_91 : decode cXs_thread 91 = .ok (.dup, 1) := by decide +kernel
theorem dXs_thread_92 : decode cXs_thread 92 = .ok (.ldc 188, 2) := by decide +kernel
theorem dXs_thread_94 : decode cXs_thread 94 = .ok (.invokespecial 78, 3) := by decide +kernel
theorem dXs_thread_97 : decode cXs_thread 97 = .ok (.athrow, 1) := by decide +kernel
theorem dXr_isKnown_0 : decode cXr_isKnown 0 = .ok (.iload_n 1, 1) := by decide +kernel
theorem dXr_isKnown_1 : decode cXr_isKnown 1 = .ok (.ifCond .lt 15, 3) := by decide +kernel
theorem dXr_isKnown_4 : decode cXr_isKnown 4 = .ok (.iload_n 1, 1) := by decide +kernel
theorem dXr_isKnown_5 : decode cXr_isKnown 5 = .ok (.aload_n 0, 1) := by decide +kernel
theorem dXr_isKnown_6 : decode cXr_isKnown 6 = .ok (.getfield 24, 3) := by decide +kernel
theorem dXr_isKnown_9 : decode cXr_isKnown 9 = .ok (.if_icmp .ge 7, 3) := by decide +kernel
theorem dXr_isKnown_12 : decode cXr_isKnown 12 = .ok (.iconst 1, 1) := by decide +kernel
theorem dXr_isKnown_13 : decode cXr_isKnown 13 = .ok (.goto 4, 3) := by decide +kernel
theorem dXr_isKnown_16 : decode cXr_isKnown 16 = .ok (.iconst 0, 1) := by decide +kernel
theorem dXr_isKnown_17 : decode cXr_isKnown 17 = .ok (.ireturn, 1) := by decide +kernel
theorem dXs_row_0 : decode cXs_row 0 = .ok (.aload_n 0, 1) := by decide +kernel
theorem dXs_row_1 : decode cXs_row 1 = .ok (.getfield 33, 3) := by decide +kernel
theorem dXs_row_4 : decode cXs_row 4 = .ok (.iload_n 1, 1) := by decide +kernel
theorem dXs_row_5 : decode cXs_row 5 = .ok (.invokevirtual 190, 3) := by decide +kernel
theorem dXs_row_8 : decode cXs_row 8 = .ok (.ifCond .ne 13, 3) := by decide +kernel
theorem dXs_row_11 : decode cXs_row 11 = .ok (.new 74, 3) := by decide +kernel
theorem dXs_row_14 : decode cXs_row 14 = .ok (.dup, 1) := by decide +kernel
theorem dXs_row_15 : decode cXs_row 15 = .ok (.ldc 191, 2) := by decide +kernel
theorem dXs_row_17 : decode cXs_row 17 = .ok (.invokespecial 78, 3) := by decide +kernel
theorem dXs_row_20 : decode cXs_row 20 = .ok (.athrow, 1) := by decide +kernel
theorem dXs_row_21 : decode cXs_row 21 = .ok (.iload_n 2, 1) := by decide +kernel
theorem dXs_row_22 : decode cXs_row 22 = .ok (.tableswitch 70 0 3 #[30, 40, 50, 60], 30) := by decide +kernel
theorem dXs_row_52 : decode cXs_row 52 = .ok (.aload_n 0, 1) := by decide +kernel
theorem dXs_row_53 : decode cXs_row 53 = .ok (.getfield 33, 3) := by decide +kernel
theorem dXs_row_56 : decode cXs_row 56 = .ok (.getfield 193, 3) := by decide +kernel
theorem dXs_row_59 : decode cXs_row 59 = .ok (.iload_n 1, 1) := by decide +kernel
theorem dXs_row_60 : decode cXs_row 60 = .ok (.iaload, 1) := by decide +kernel
theorem dXs_row_61 : decode cXs_row 61 = .ok (.ireturn, 1) := by decide +kernel
theorem dXs_row_62 : decode cXs_row 62 = .ok (.aload_n 0, 1) := by decide +kernel
theorem dXs_row_63 : decode cXs_row 63 = .ok (.getfield 33, 3) := by decide +kernel
theorem dXs_row_66 : decode cXs_row 66 = .ok (.getfield 196, 3) := by decide +kernel
theorem dXs_row_69 : decode cXs_row 69 = .ok (.iload_n 1, 1) := by decide +kernel
theorem dXs_row_70 : decode cXs_row 70 = .ok (.iaload, 1) := by decide +kernel
theorem dXs_row_71 : decode cXs_row 71 = .ok (.ireturn, 1) := by decide +kernel
theorem dXs_row_72 : decode cXs_row 72 = .ok (.aload_n 0, 1) := by decide +kernel
theorem dXs_row_73 : decode cXs_row 73 = .ok (.getfield 33, 3) := by decide +kernel
theorem dXs_row_76 : decode cXs_row 76 = .ok (.getfield 199, 3) := by decide +kernel
theorem dXs_row_79 : decode cXs_row 79 = .ok (.iload_n 1, 1) := by decide +kernel
theorem dXs_row_80 : decode cXs_row 80 = .ok (.iaload, 1) := by decide +kernel
theorem dXs_row_81 : decode cXs_row 81 = .ok (.ireturn, 1) := by decide +kernel
theorem dXs_row_82 : decode cXs_row 82 = .ok (.aload_n 0, 1) := by decide +kernel
theorem dXs_row_83 : decode cXs_row 83 = .ok (.getfield 33, 3) := by decide +kernel
theorem dXs_row_86 : decode cXs_row 86 = .ok (.getfield 202, 3) := by decide +kernel
theorem dXs_row_89 : decode cXs_row 89 = .ok (.iload_n 1, 1) := by decide +kernel
theorem dXs_row_90 : decode cXs_row 90 = .ok (.iaload, 1) := by decide +kernel
theorem dXs_row_91 : decode cXs_row 91 = .ok (.ireturn, 1) := by decide +kernel
theorem dXs_row_92 : decode cXs_row 92 = .ok (.new 74, 3) := by decide +kernel
theorem dXs_row_95 : decode cXs_row 95 = .ok (.dup, 1) := by decide +kernel
theorem dXs_row_96 : decode cXs_row 96 = .ok (.ldc 205, 2) := by decide +kernel
theorem dXs_row_98 : decode cXs_row 98 = .ok (.invokespecial 78, 3) := by decide +kernel
theorem dXs_row_101 : decode cXs_row 101 = .ok (.athrow, 1) := by decide +kernel
theorem dXs_runningWithActs_0 : decode cXs_runningWithActs 0 = .ok (.iconst 0, 1) := by decide +kernel
theorem dXs_runningWithActs_1 : decode cXs_runningWithActs 1 = .ok (.istore_n 1, 1) := by decide +kernel
theorem dXs_runningWithActs_2 : decode cXs_runningWithActs 2 = .ok (.iconst 0, 1) := by decide +kernel
theorem dXs_runningWithActs_3 : decode cXs_runningWithActs 3 = .ok (.istore_n 2, 1) := by decide +kernel
theorem dXs_runningWithActs_4 : decode cXs_runningWithActs 4 = .ok (.iload_n 2, 1) := by decide +kernel
theorem dXs_runningWithActs_5 : decode cXs_runningWithActs 5 = .ok (.bipush 8, 2) := by decide +kernel
theorem dXs_runningWithActs_7 : decode cXs_runningWithActs 7 = .ok (.if_icmp .ge 20, 3) := by decide +kernel
theorem dXs_runningWithActs_10 : decode cXs_runningWithActs 10 = .ok (.aload_n 0, 1) := by decide +kernel
theorem dXs_runningWithActs_11 : decode cXs_runningWithActs 11 = .ok (.iload_n 2, 1) := by decide +kernel
theorem dXs_runningWithActs_12 : decode cXs_runningWithActs 12 = .ok (.invokevirtual 282, 3) := by decide +kernel
theorem dXs_runningWithActs_15 : decode cXs_runningWithActs 15 = .ok (.ifCond .eq 6, 3) := by decide +kernel
theorem dXs_runningWithActs_18 : decode cXs_runningWithActs 18 = .ok (.iinc 1 1, 3) := by decide +kernel
theorem dXs_runningWithActs_21 : decode cXs_runningWithActs 21 = .ok (.iinc 2 1, 3) := by decide +kernel
theorem dXs_runningWithActs_24 : decode cXs_runningWithActs 24 = .ok (.goto (-20), 3) := by decide +kernel
theorem dXs_runningWithActs_27 : decode cXs_runningWithActs 27 = .ok (.iload_n 1, 1) := by decide +kernel
theorem dXs_runningWithActs_28 : decode cXs_runningWithActs 28 = .ok (.ireturn, 1) := by decide +kernel
theorem dXu_sentCount_0 : decode cXu_sentCount 0 = .ok (.iconst 0, 1) := by decide +kernel
theorem dXu_sentCount_1 : decode cXu_sentCount 1 = .ok (.istore_n 1, 1) := by decide +kernel
theorem dXu_sentCount_2 : decode cXu_sentCount 2 = .ok (.iconst 0, 1) := by decide +kernel
theorem dXu_sentCount_3 : decode cXu_sentCount 3 = .ok (.istore_n 2, 1) := by decide +kernel
theorem dXu_sentCount_4 : decode cXu_sentCount 4 = .ok (.iload_n 2, 1) := by decide +kernel
theorem dXu_sentCount_5 : decode cXu_sentCount 5 = .ok (.bipush 10, 2) := by decide +kernel
theorem dXu_sentCount_7 : decode cXu_sentCount 7 = .ok (.if_icmp .ge 22, 3) := by decide +kernel
theorem dXu_sentCount_10 : decode cXu_sentCount 10 = .ok (.aload_n 0, 1) := by decide +kernel
theorem dXu_sentCount_11 : decode cXu_sentCount 11 = .ok (.getfield 15, 3) := by decide +kernel
theorem dXu_sentCount_14 : decode cXu_sentCount 14 = .ok (.iload_n 2, 1) := by decide +kernel
theorem dXu_sentCount_15 : decode cXu_sentCount 15 = .ok (.iaload, 1) := by decide +kernel
theorem dXu_sentCount_16 : decode cXu_sentCount 16 = .ok (.iconst (-1), 1) := by decide +kernel
theorem dXu_sentCount_17 : decode cXu_sentCount 17 = .ok (.if_icmp .eq 6, 3) := by decide +kernel
theorem dXu_sentCount_20 : decode cXu_sentCount 20 = .ok (.iinc 1 1, 3) := by decide +kernel
theorem dXu_sentCount_23 : decode cXu_sentCount 23 = .ok (.iinc 2 1, 3) := by decide +kernel
theorem dXu_sentCount_26 : decode cXu_sentCount 26 = .ok (.goto (-22), 3) := by decide +kernel
theorem dXu_sentCount_29 : decode cXu_sentCount 29 = .ok (.iload_n 1, 1) := by decide +kernel
theorem dXu_sentCount_30 : decode cXu_sentCount 30 = .ok (.ireturn, 1) := by decide +kernel
theorem dXc_openCount_0 : decode cXc_openCount 0 = .ok (.iconst 0, 1) := by decide +kernel
theorem dXc_openCount_1 : decode cXc_openCount 1 = .ok (.istore_n 1, 1) := by decide +kernel
theorem dXc_openCount_2 : decode cXc_openCount 2 = .ok (.iconst 0, 1) := by decide +kernel
theorem dXc_openCount_3 : decode cXc_openCount 3 = .ok (.istore_n 2, 1) := by decide +kernel
theorem dXc_openCount_4 : decode cXc_openCount 4 = .ok (.iload_n 2, 1) := by decide +kernel
theorem dXc_openCount_5 : decode cXc_openCount 5 = .ok (.aload_n 0, 1) := by decide +kernel
theorem dXc_openCount_6 : decode cXc_openCount 6 = .ok (.getfield 31, 3) := by decide +kernel
theorem dXc_openCount_9 : decode cXc_openCount 9 = .ok (.if_icmp .ge 21, 3) := by decide +kernel
theorem dXc_openCount_12 : decode cXc_openCount 12 = .ok (.aload_n 0, 1) := by decide +kernel
theorem dXc_openCount_13 : decode cXc_openCount 13 = .ok (.getfield 21, 3) := by decide +kernel
theorem dXc_openCount_16 : decode cXc_openCount 16 = .ok (.iload_n 2, 1) := by decide +kernel
theorem dXc_openCount_17 : decode cXc_openCount 17 = .ok (.baload, 1) := by decide +kernel
theorem dXc_openCount_18 : decode cXc_openCount 18 = .ok (.ifCond .eq 6, 3) := by decide +kernel
theorem dXc_openCount_21 : decode cXc_openCount 21 = .ok (.iinc 1 1, 3) := by decide +kernel
theorem dXc_openCount_24 : decode cXc_openCount 24 = .ok (.iinc 2 1, 3) := by decide +kernel
theorem dXc_openCount_27 : decode cXc_openCount 27 = .ok (.goto (-23), 3) := by decide +kernel
theorem dXc_openCount_30 : decode cXc_openCount 30 = .ok (.iload_n 1, 1) := by decide +kernel
theorem dXc_openCount_31 : decode cXc_openCount 31 = .ok (.ireturn, 1) := by decide +kernel
theorem dXu_lockedCount_0 : decode cXu_lockedCount 0 = .ok (.bipush 10, 2) := by decide +kernel
theorem dXu_lockedCount_2 : decode cXu_lockedCount 2 = .ok (.aload_n 0, 1) := by decide +kernel
theorem dXu_lockedCount_3 : decode cXu_lockedCount 3 = .ok (.iconst (-1), 1) := by decide +kernel
theorem dXu_lockedCount_4 : decode cXu_lockedCount 4 = .ok (.invokevirtual 24, 3) := by decide +kernel
theorem dXu_lockedCount_7 : decode cXu_lockedCount 7 = .ok (.isub, 1) := by decide +kernel
theorem dXu_lockedCount_8 : decode cXu_lockedCount 8 = .ok (.ireturn, 1) := by decide +kernel
theorem dXs_count_0 : decode cXs_count 0 = .ok (.iload_n 1, 1) := by decide +kernel
theorem dXs_count_1 : decode cXs_count 1 = .ok (.tableswitch 81 0 5 #[39, 44, 52, 57, 65, 73], 39) := by decide +kernel
theorem dXs_count_40 : decode cXs_count 40 = .ok (.aload_n 0, 1) := by decide +kernel
theorem dXs_count_41 : decode cXs_count 41 = .ok (.getfield 63, 3) := by decide +kernel
theorem dXs_count_44 : decode cXs_count 44 = .ok (.ireturn, 1) := by decide +kernel
theorem dXs_count_45 : decode cXs_count 45 = .ok (.aload_n 0, 1) := by decide +kernel
theorem dXs_count_46 : decode cXs_count 46 = .ok (.getfield 33, 3) := by decide +kernel
theorem dXs_count_49 : decode cXs_count 49 = .ok (.getfield 207, 3) := by decide +kernel
theorem dXs_count_52 : decode cXs_count 52 = .ok (.ireturn, 1) := by decide +kernel
theorem dXs_count_53 : decode cXs_count 53 = .ok (.aload_n 0, 1) := by decide +kernel
theorem dXs_count_54 : decode cXs_count 54 = .ok (.invokevirtual 210, 3) := by decide +kernel
theorem dXs_count_57 : decode cXs_count 57 = .ok (.ireturn, 1) := by decide +kernel
theorem dXs_count_58 : decode cXs_count 58 = .ok (.aload_n 0, 1) := by decide +kernel
theorem dXs_count_59 : decode cXs_count 59 = .ok (.getfield 19, 3) := by decide +kernel
theorem dXs_count_62 : decode cXs_count 62 = .ok (.invokevirtual 214, 3) := by decide +kernel
theorem dXs_count_65 : decode cXs_count 65 = .ok (.ireturn, 1) := by decide +kernel
theorem dXs_count_66 : decode cXs_count 66 = .ok (.aload_n 0, 1) := by decide +kernel
theorem dXs_count_67 : decode cXs_count 67 = .ok (.getfield 26, 3) := by decide +kernel
theorem dXs_count_70 : decode cXs_count 70 = .ok (.invokevirtual 217, 3) := by decide +kernel
theorem dXs_count_73 : decode cXs_count 73 = .ok (.ireturn, 1) := by decide +kernel
theorem dXs_count_74 : decode cXs_count 74 = .ok (.aload_n 0, 1) := by decide +kernel
theorem dXs_count_75 : decode cXs_count 75 = .ok (.getfield 19, 3) := by decide +kernel
theorem dXs_count_78 : decode cXs_count 78 = .ok (.invokevirtual 220, 3) := by decide +kernel
theorem dXs_count_81 : decode cXs_count 81 = .ok (.ireturn, 1) := by decide +kernel
theorem dXs_count_82 : decode cXs_count 82 = .ok (.new 74, 3) := by decide +kernel
theorem dXs_count_85 : decode cXs_count 85 = .ok (.dup, 1) := by decide +kernel
theorem dXs_count_86 : decode cXs_count 86 = .ok (.ldc 223, 2) := by decide +kernel
theorem dXs_count_88 : decode cXs_count 88 = .ok (.invokespecial 78, 3) := by decide +kernel
theorem dXs_count_91 : decode cXs_count 91 = .ok (.athrow, 1) := by decide +kernel
theorem dXf_fill_0 : decode cXf_fill 0 = .ok (.iconst 0, 1) := by decide +kernel
theorem dXf_fill_1 : decode cXf_fill 1 = .ok (.istore_n 2, 1) := by decide +kernel
theorem dXf_fill_2 : decode cXf_fill 2 = .ok (.aload_n 0, 1) := by decide +kernel
theorem dXf_fill_3 : decode cXf_fill 3 = .ok (.arraylength, 1) := by decide +kernel
theorem dXf_fill_4 : decode cXf_fill 4 = .ok (.istore_n 3, 1) := by decide +kernel
theorem dXf_fill_5 : decode cXf_fill 5 = .ok (.iload_n 2, 1) := by decide +kernel
theorem dXf_fill_6 : decode cXf_fill 6 = .ok (.iload_n 3, 1) := by decide +kernel
theorem dXf_fill_7 : decode cXf_fill 7 = .ok (.if_icmp .ge 13, 3) := by decide +kernel
theorem dXf_fill_10 : decode cXf_fill 10 = .ok (.aload_n 0, 1) := by decide +kernel
theorem dXf_fill_11 : decode cXf_fill 11 = .ok (.iload_n 2, 1) := by decide +kernel
theorem dXf_fill_12 : decode cXf_fill 12 = .ok (.iload_n 1, 1) := by decide +kernel
theorem dXf_fill_13 : decode cXf_fill 13 = .ok (.iastore, 1) := by decide +kernel
theorem dXf_fill_14 : decode cXf_fill 14 = .ok (.iinc 2 1, 3) := by decide +kernel
theorem dXf_fill_17 : decode cXf_fill 17 = .ok (.goto (-12), 3) := by decide +kernel
theorem dXf_fill_20 : decode cXf_fill 20 = .ok (.return_, 1) := by decide +kernel
