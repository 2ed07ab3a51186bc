theorem dL_cell_0 : decode cL_cell 0 = .ok (.ldc 7, 2) := by decide +kernel
theorem dL_cell_2 : decode cL_cell 2 = .ok (.iload_n 1, 1) := by decide +kernel
theorem dL_cell_3 : decode cL_cell 3 = .ok (.aload_n 0, 1) := by decide +kernel
theorem dL_cell_4 : decode cL_cell 4 = .ok (.arraylength, 1) := by decide +kernel
theorem dL_cell_5 : decode cL_cell 5 = .ok (.if_icmp .ge 9, 3) := by decide +kernel
theorem dL_cell_8 : decode cL_cell 8 = .ok (.aload_n 0, 1) := by decide +kernel
theorem dL_cell_9 : decode cL_cell 9 = .ok (.iload_n 1, 1) := by decide +kernel
theorem dL_cell_10 : decode cL_cell 10 = .ok (.iaload, 1) := by decide +kernel
theorem dL_cell_11 : decode cL_cell 11 = .ok (.goto 4, 3) := by decide +kernel
theorem dL_cell_14 : decode cL_cell 14 = .ok (.iconst 0, 1) := by decide +kernel
theorem dL_cell_15 : decode cL_cell 15 = .ok (.sipush 1009, 3) := by decide +kernel
theorem dL_cell_18 : decode cL_cell 18 = .ok (.iload_n 1, 1) := by decide +kernel
theorem dL_cell_19 : decode cL_cell 19 = .ok (.imul, 1) := by decide +kernel
theorem dL_cell_20 : decode cL_cell 20 = .ok (.iadd, 1) := by decide +kernel
theorem dL_cell_21 : decode cL_cell 21 = .ok (.imul, 1) := by decide +kernel
theorem dL_cell_22 : decode cL_cell 22 = .ok (.sipush 12345, 3) := by decide +kernel
theorem dL_cell_25 : decode cL_cell 25 = .ok (.iadd, 1) := by decide +kernel
theorem dL_cell_26 : decode cL_cell 26 = .ok (.istore_n 2, 1) := by decide +kernel
theorem dL_cell_27 : decode cL_cell 27 = .ok (.iload_n 2, 1) := by decide +kernel
theorem dL_cell_28 : decode cL_cell 28 = .ok (.iload_n 2, 1) := by decide +kernel
theorem dL_cell_29 : decode cL_cell 29 = .ok (.bipush 13, 2) := by decide +kernel
theorem dL_cell_31 : decode cL_cell 31 = .ok (.iushr, 1) := by decide +kernel
theorem dL_cell_32 : decode cL_cell 32 = .ok (.ixor, 1) := by decide +kernel
theorem dL_cell_33 : decode cL_cell 33 = .ok (.ldc 8, 2) := by decide +kernel
theorem dL_cell_35 : decode cL_cell 35 = .ok (.imul, 1) := by decide +kernel
theorem dL_cell_36 : decode cL_cell 36 = .ok (.istore_n 2, 1) := by decide +kernel
theorem dL_cell_37 : decode cL_cell 37 = .ok (.iload_n 2, 1) := by decide +kernel
theorem dL_cell_38 : decode cL_cell 38 = .ok (.iload_n 2, 1) := by decide +kernel
theorem dL_cell_39 : decode cL_cell 39 = .ok (.bipush 16, 2) := by decide +kernel
theorem dL_cell_41 : decode cL_cell 41 = .ok (.iushr, 1) := by decide +kernel
theorem dL_cell_42 : decode cL_cell 42 = .ok (.ixor, 1) := by decide +kernel
theorem dL_cell_43 : decode cL_cell 43 = .ok (.ireturn, 1) := by decide +kernel
theorem dL_whale_0 : decode cL_whale 0 = .ok (.aload_n 0, 1) := by decide +kernel
theorem dL_whale_1 : decode cL_whale 1 = .ok (.iload_n 1, 1) := by decide +kernel
theorem dL_whale_2 : decode cL_whale 2 = .ok (.iload_n 2, 1) := by decide +kernel
theorem dL_whale_3 : decode cL_whale 3 = .ok (.iload_n 3, 1) := by decide +kernel
theorem dL_whale_4 : decode cL_whale 4 = .ok (.invokevirtual 9, 3) := by decide +kernel
theorem dL_whale_7 : decode cL_whale 7 = .ok (.ireturn, 1) := by decide +kernel
theorem dL_whale_8 : decode cL_whale 8 = .ok (.astore 4, 2) := by decide +kernel
theorem dL_whale_10 : decode cL_whale 10 = .ok (.ldc 17, 2) := by decide +kernel
theorem dL_whale_12 : decode cL_whale 12 = .ok (.ireturn, 1) := by decide +kernel
theorem dL_whale_13 : decode cL_whale 13 = .ok (.astore 4, 2) := by decide +kernel
theorem dL_whale_15 : decode cL_whale 15 = .ok (.ldc 20, 2) := by decide +kernel
theorem dL_whale_17 : decode cL_whale 17 = .ok (.ireturn, 1) := by decide +kernel
theorem dL_swap_0 : decode cL_swap 0 = .ok (.aload_n 0, 1) := by decide +kernel
theorem dL_swap_1 : decode cL_swap 1 = .ok (.iload_n 1, 1) := by decide +kernel
theorem dL_swap_2 : decode cL_swap 2 = .ok (.iload_n 2, 1) := by decide +kernel
theorem dL_swap_3 : decode cL_swap 3 = .ok (.invokevirtual 21, 3) := by decide +kernel
theorem dL_swap_6 : decode cL_swap 6 = .ok (.ireturn, 1) := by decide +kernel
theorem dL_swap_7 : decode cL_swap 7 = .ok (.astore_n 3, 1) := by decide +kernel
theorem dL_swap_8 : decode cL_swap 8 = .ok (.ldc 17, 2) := by decide +kernel
theorem dL_swap_10 : decode cL_swap 10 = .ok (.ireturn, 1) := by decide +kernel
theorem dL_swap_11 : decode cL_swap 11 = .ok (.astore_n 3, 1) := by decide +kernel
theorem dL_swap_12 : decode cL_swap 12 = .ok (.ldc 20, 2) := by decide +kernel
theorem dL_swap_14 : decode cL_swap 14 = .ok (.ireturn, 1) := by decide +kernel
theorem dL_swim_0 : decode cL_swim 0 = .ok (.aload_n 0, 1) := by decide +kernel
theorem dL_swim_1 : decode cL_swim 1 = .ok (.iload_n 1, 1) := by decide +kernel
theorem dL_swim_2 : decode cL_swim 2 = .ok (.iload_n 2, 1) := by decide +kernel
theorem dL_swim_3 : decode cL_swim 3 = .ok (.invokevirtual 27, 3) := by decide +kernel
theorem dL_swim_6 : decode cL_swim 6 = .ok (.ireturn, 1) := by decide +kernel
theorem dL_swim_7 : decode cL_swim 7 = .ok (.astore_n 3, 1) := by decide +kernel
theorem dL_swim_8 : decode cL_swim 8 = .ok (.ldc 17, 2) := by decide +kernel
theorem dL_swim_10 : decode cL_swim 10 = .ok (.ireturn, 1) := by decide +kernel
theorem dL_swim_11 : decode cL_swim 11 = .ok (.astore_n 3, 1) := by decide +kernel
theorem dL_swim_12 : decode cL_swim 12 = .ok (.ldc 20, 2) := by decide +kernel
theorem dL_swim_14 : decode cL_swim 14 = .ok (.ireturn, 1) := by decide +kernel
theorem dL_strike_0 : decode cL_strike 0 = .ok (.aload_n 0, 1) := by decide +kernel
theorem dL_strike_1 : decode cL_strike 1 = .ok (.iload_n 1, 1) := by decide +kernel
theorem dL_strike_2 : decode cL_strike 2 = .ok (.iload_n 2, 1) := by decide +kernel
theorem dL_strike_3 : decode cL_strike 3 = .ok (.iload_n 3, 1) := by decide +kernel
theorem dL_strike_4 : decode cL_strike 4 = .ok (.invokevirtual 30, 3) := by decide +kernel
theorem dL_strike_7 : decode cL_strike 7 = .ok (.ireturn, 1) := by decide +kernel
theorem dL_strike_8 : decode cL_strike 8 = .ok (.astore 4, 2) := by decide +kernel
theorem dL_strike_10 : decode cL_strike 10 = .ok (.ldc 17, 2) := by decide +kernel
theorem dL_strike_12 : decode cL_strike 12 = .ok (.ireturn, 1) := by decide +kernel
theorem dL_strike_13 : decode cL_strike 13 = .ok (.astore 4, 2) := by decide +kernel
theorem dL_strike_15 : decode cL_strike 15 = .ok (.ldc 20, 2) := by decide +kernel
theorem dL_strike_17 : decode cL_strike 17 = .ok (.ireturn, 1) := by decide +kernel
theorem dL_strike_18 : decode cL_strike 18 = .ok (.astore 4, 2) := by decide +kernel
theorem dL_strike_20 : decode cL_strike 20 = .ok (.ldc 33, 2) := by decide +kernel
theorem dL_strike_22 : decode cL_strike 22 = .ok (.ireturn, 1) := by decide +kernel
theorem dL_sing_0 : decode cL_sing 0 = .ok (.aload_n 0, 1) := by decide +kernel
theorem dL_sing_1 : decode cL_sing 1 = .ok (.iload_n 1, 1) := by decide +kernel
theorem dL_sing_2 : decode cL_sing 2 = .ok (.invokevirtual 34, 3) := by decide +kernel
theorem dL_sing_5 : decode cL_sing 5 = .ok (.ireturn, 1) := by decide +kernel
theorem dL_sing_6 : decode cL_sing 6 = .ok (.astore_n 2, 1) := by decide +kernel
theorem dL_sing_7 : decode cL_sing 7 = .ok (.ldc 17, 2) := by decide +kernel
theorem dL_sing_9 : decode cL_sing 9 = .ok (.ireturn, 1) := by decide +kernel
theorem dL_sing_10 : decode cL_sing 10 = .ok (.astore_n 2, 1) := by decide +kernel
theorem dL_sing_11 : decode cL_sing 11 = .ok (.ldc 20, 2) := by decide +kernel
theorem dL_sing_13 : decode cL_sing 13 = .ok (.ireturn, 1) := by decide +kernel
theorem dL_drift_0 : decode cL_drift 0 = .ok (.aload_n 0, 1) := by decide +kernel
theorem dL_drift_1 : decode cL_drift 1 = .ok (.invokevirtual 38, 3) := by decide +kernel
theorem dL_drift_4 : decode cL_drift 4 = .ok (.ireturn, 1) := by decide +kernel
theorem dL_drift_5 : decode cL_drift 5 = .ok (.astore_n 1, 1) := by decide +kernel
theorem dL_drift_6 : decode cL_drift 6 = .ok (.ldc 17, 2) := by decide +kernel
theorem dL_drift_8 : decode cL_drift 8 = .ok (.ireturn, 1) := by decide +kernel
theorem dL_turnsIn_0 : decode cL_turnsIn 0 = .ok (.aload_n 0, 1) := by decide +kernel
theorem dL_turnsIn_1 : decode cL_turnsIn 1 = .ok (.iload_n 1, 1) := by decide +kernel
theorem dL_turnsIn_2 : decode cL_turnsIn 2 = .ok (.invokevirtual 42, 3) := by decide +kernel
theorem dL_turnsIn_5 : decode cL_turnsIn 5 = .ok (.ireturn, 1) := by decide +kernel
theorem dL_turnsIn_6 : decode cL_turnsIn 6 = .ok (.astore_n 2, 1) := by decide +kernel
theorem dL_turnsIn_7 : decode cL_turnsIn 7 = .ok (.ldc 17, 2) := by decide +kernel
theorem dL_turnsIn_9 : decode cL_turnsIn 9 = .ok (.ireturn, 1) := by decide +kernel
theorem dL_turnsIn_10 : decode cL_turnsIn 10 = .ok (.astore_n 2, 1) := by decide +kernel
theorem dL_turnsIn_11 : decode cL_turnsIn 11 = .ok (.ldc 20, 2) := by decide +kernel
theorem dL_turnsIn_13 : decode cL_turnsIn 13 = .ok (.ireturn, 1) := by decide +kernel
theorem dL_best_0 : decode cL_best 0 = .ok (.aload_n 0, 1) := by decide +kernel
theorem dL_best_1 : decode cL_best 1 = .ok (.iload_n 1, 1) := by decide +kernel
theorem dL_best_2 : decode cL_best 2 = .ok (.invokevirtual 47, 3) := by decide +kernel
theorem dL_best_5 : decode cL_best 5 = .ok (.ireturn, 1) := by decide +kernel
theorem dL_best_6 : decode cL_best 6 = .ok (.astore_n 2, 1) := by decide +kernel
theorem dL_best_7 : decode cL_best 7 = .ok (.ldc 17, 2) := by decide +kernel
theorem dL_best_9 : decode cL_best 9 = .ok (.ireturn, 1) := by decide +kernel
theorem dL_best_10 : decode cL_best 10 = .ok (.astore_n 2, 1) := by decide +kernel
theorem dL_best_11 : decode cL_best 11 = .ok (.ldc 20, 2) := by decide +kernel
theorem dL_best_13 : decode cL_best 13 = .ok (.ireturn, 1) := by decide +kernel
theorem dL_ranked_0 : decode cL_ranked 0 = .ok (.aload_n 0, 1) := by decide +kernel
theorem dL_ranked_1 : decode cL_ranked 1 = .ok (.iload_n 1, 1) := by decide +kernel
theorem dL_ranked_2 : decode cL_ranked 2 = .ok (.iload_n 2, 1) := by decide +kernel
theorem dL_ranked_3 : decode cL_ranked 3 = .ok (.invokevirtual 50, 3) := by decide +kernel
theorem dL_ranked_6 : decode cL_ranked 6 = .ok (.ireturn, 1) := by decide +kernel
theorem dL_ranked_7 : decode cL_ranked 7 = .ok (.astore_n 3, 1) := by decide +kernel
theorem dL_ranked_8 : decode cL_ranked 8 = .ok (.ldc 17, 2) := by decide +kernel
theorem dL_ranked_10 : decode cL_ranked 10 = .ok (.ireturn, 1) := by decide +kernel
theorem dL_ranked_11 : decode cL_ranked 11 = .ok (.astore_n 3, 1) := by decide +kernel
theorem dL_ranked_12 : decode cL_ranked 12 = .ok (.ldc 20, 2) := by decide +kernel
theorem dL_ranked_14 : decode cL_ranked 14 = .ok (.ireturn, 1) := by decide +kernel
theorem dL_calf_0 : decode cL_calf 0 = .ok (.aload_n 0, 1) := by decide +kernel
theorem dL_calf_1 : decode cL_calf 1 = .ok (.iload_n 1, 1) := by decide +kernel
theorem dL_calf_2 : decode cL_calf 2 = .ok (.invokevirtual 53, 3) := by decide +kernel
theorem dL_calf_5 : decode cL_calf 5 = .ok (.ireturn, 1) := by decide +kernel
theorem dL_calf_6 : decode cL_calf 6 = .ok (.astore_n 2, 1) := by decide +kernel
theorem dL_calf_7 : decode cL_calf 7 = .ok (.ldc 17, 2) := by decide +kernel
theorem dL_calf_9 : decode cL_calf 9 = .ok (.ireturn, 1) := by decide +kernel
theorem dL_calf_10 : decode cL_calf 10 = .ok (.astore_n 2, 1) := by decide +kernel
theorem dL_calf_11 : decode cL_calf 11 = .ok (.ldc 20, 2) := by decide +kernel
theorem dL_calf_13 : decode cL_calf 13 = .ok (.ireturn, 1) := by decide +kernel
theorem dL_read_0 : decode cL_read 0 = .ok (.aload_n 0, 1) := by decide +kernel
theorem dL_read_1 : decode cL_read 1 = .ok (.invokevirtual 56, 3) := by decide +kernel
theorem dL_read_4 : decode cL_read 4 = .ok (.ireturn, 1) := by decide +kernel
theorem dL_read_5 : decode cL_read 5 = .ok (.astore_n 1, 1) := by decide +kernel
theorem dL_read_6 : decode cL_read 6 = .ok (.ldc 17, 2) := by decide +kernel
theorem dL_read_8 : decode cL_read 8 = .ok (.ireturn, 1) := by decide +kernel
theorem dL_read_9 : decode cL_read 9 = .ok (.astore_n 1, 1) := by decide +kernel
theorem dL_read_10 : decode cL_read 10 = .ok (.ldc 20, 2) := by decide +kernel
theorem dL_read_12 : decode cL_read 12 = .ok (.ireturn, 1) := by decide +kernel
theorem dL_read_13 : decode cL_read 13 = .ok (.astore_n 1, 1) := by decide +kernel
theorem dL_read_14 : decode cL_read 14 = .ok (.ldc 33, 2) := by decide +kernel
theorem dL_read_16 : decode cL_read 16 = .ok (.ireturn, 1) := by decide +kernel
theorem dL_undo_0 : decode cL_undo 0 = .ok (.aload_n 0, 1) := by decide +kernel
theorem dL_undo_1 : decode cL_undo 1 = .ok (.invokevirtual 61, 3) := by decide +kernel
theorem dL_undo_4 : decode cL_undo 4 = .ok (.ireturn, 1) := by decide +kernel
theorem dL_undo_5 : decode cL_undo 5 = .ok (.astore_n 1, 1) := by decide +kernel
theorem dL_undo_6 : decode cL_undo 6 = .ok (.ldc 17, 2) := by decide +kernel
theorem dL_undo_8 : decode cL_undo 8 = .ok (.ireturn, 1) := by decide +kernel
theorem dL_restore_0 : decode cL_restore 0 = .ok (.aload_n 0, 1) := by decide +kernel
theorem dL_restore_1 : decode cL_restore 1 = .ok (.invokevirtual 64, 3) := by decide +kernel
theorem dL_restore_4 : decode cL_restore 4 = .ok (.ireturn, 1) := by decide +kernel
theorem dL_restore_5 : decode cL_restore 5 = .ok (.astore_n 1, 1) := by decide +kernel
theorem dL_restore_6 : decode cL_restore 6 = .ok (.ldc 17, 2) := by decide +kernel
theorem dL_restore_8 : decode cL_restore 8 = .ok (.ireturn, 1) := by decide +kernel
theorem dL_in_0 : decode cL_in 0 = .ok (.aload_n 0, 1) := by decide +kernel
theorem dL_in_1 : decode cL_in 1 = .ok (.iload_n 1, 1) := by decide +kernel
theorem dL_in_2 : decode cL_in 2 = .ok (.invokestatic 67, 3) := by decide +kernel
theorem dL_in_5 : decode cL_in 5 = .ok (.ldc 73, 2) := by decide +kernel
theorem dL_in_7 : decode cL_in 7 = .ok (.iand, 1) := by decide +kernel
theorem dL_in_8 : decode cL_in 8 = .ok (.iload_n 2, 1) := by decide +kernel
theorem dL_in_9 : decode cL_in 9 = .ok (.irem, 1) := by decide +kernel
theorem dL_in_10 : decode cL_in 10 = .ok (.ireturn, 1) := by decide +kernel
theorem dL_does_0 : decode cL_does 0 = .ok (.iconst 0, 1) := by decide +kernel
theorem dL_does_1 : decode cL_does 1 = .ok (.istore_n 2, 1) := by decide +kernel
theorem dL_does_2 : decode cL_does 2 = .ok (.iconst 0, 1) := by decide +kernel
theorem dL_does_3 : decode cL_does 3 = .ok (.istore_n 3, 1) := by decide +kernel
theorem dL_does_4 : decode cL_does 4 = .ok (.iload_n 3, 1) := by decide +kernel
theorem dL_does_5 : decode cL_does 5 = .ok (.aload_n 1, 1) := by decide +kernel
theorem dL_does_6 : decode cL_does 6 = .ok (.invokevirtual 74, 3) := by decide +kernel
theorem dL_does_9 : decode cL_does 9 = .ok (.if_icmp .ge 21, 3) := by decide +kernel
theorem dL_does_12 : decode cL_does 12 = .ok (.iload_n 2, 1) := by decide +kernel
theorem dL_does_13 : decode cL_does 13 = .ok (.aload_n 0, 1) := by decide +kernel
theorem dL_does_14 : decode cL_does 14 = .ok (.aload_n 1, 1) := by decide +kernel
theorem dL_does_15 : decode cL_does 15 = .ok (.iload_n 3, 1) := by decide +kernel
theorem dL_does_16 : decode cL_does 16 = .ok (.invokevirtual 79, 3) := by decide +kernel
theorem dL_does_19 : decode cL_does 19 = .ok (.invokevirtual 83, 3) := by decide +kernel
theorem dL_does_22 : decode cL_does 22 = .ok (.iadd, 1) := by decide +kernel
theorem dL_does_23 : decode cL_does 23 = .ok (.istore_n 2, 1) := by decide +kernel
theorem dL_does_24 : decode cL_does 24 = .ok (.iinc 3 1, 3) := by decide +kernel
theorem dL_does_27 : decode cL_does 27 = .ok (.goto (-23), 3) := by decide +kernel
theorem dL_does_30 : decode cL_does 30 = .ok (.iload_n 2, 1) := by decide +kernel
theorem dL_does_31 : decode cL_does 31 = .ok (.ifCond .ge 8, 3) := by decide +kernel
theorem dL_does_34 : decode cL_does 34 = .ok (.ldc 87, 2) := by decide +kernel
theorem dL_does_36 : decode cL_does 36 = .ok (.goto 7, 3) := by decide +kernel
theorem dL_does_39 : decode cL_does 39 = .ok (.aload_n 0, 1) := by decide +kernel
theorem dL_does_40 : decode cL_does 40 = .ok (.invokestatic 88, 3) := by decide +kernel
theorem dL_does_43 : decode cL_does 43 = .ok (.ireturn, 1) := by decide +kernel
theorem dL_begun_0 : decode cL_begun 0 = .ok (.new 10, 3) := by decide +kernel
theorem dL_begun_3 : decode cL_begun 3 = .ok (.dup, 1) := by decide +kernel
theorem dL_begun_4 : decode cL_begun 4 = .ok (.invokespecial 91, 3) := by decide +kernel
theorem dL_begun_7 : decode cL_begun 7 = .ok (.astore_n 1, 1) := by decide +kernel
theorem dL_begun_8 : decode cL_begun 8 = .ok (.iconst 0, 1) := by decide +kernel
theorem dL_begun_9 : decode cL_begun 9 = .ok (.istore_n 2, 1) := by decide +kernel
theorem dL_begun_10 : decode cL_begun 10 = .ok (.iconst 0, 1) := by decide +kernel
theorem dL_begun_11 : decode cL_begun 11 = .ok (.istore_n 3, 1) := by decide +kernel
theorem dL_begun_12 : decode cL_begun 12 = .ok (.iload_n 3, 1) := by decide +kernel
theorem dL_begun_13 : decode cL_begun 13 = .ok (.iconst 4, 1) := by decide +kernel
theorem dL_begun_14 : decode cL_begun 14 = .ok (.if_icmp .ge 65, 3) := by decide +kernel
theorem dL_begun_17 : decode cL_begun 17 = .ok (.iload_n 2, 1) := by decide +kernel
theorem dL_begun_18 : decode cL_begun 18 = .ok (.aload_n 1, 1) := by decide +kernel
theorem dL_begun_19 : decode cL_begun 19 = .ok (.iconst 0, 1) := by decide +kernel
theorem dL_begun_20 : decode cL_begun 20 = .ok (.iconst 1, 1) := by decide +kernel
theorem dL_begun_21 : decode cL_begun 21 = .ok (.aload_n 0, 1) := by decide +kernel
theorem dL_begun_22 : decode cL_begun 22 = .ok (.iload_n 3, 1) := by decide +kernel
theorem dL_begun_23 : decode cL_begun 23 = .ok (.iconst 5, 1) := by decide +kernel
theorem dL_begun_24 : decode cL_begun 24 = .ok (.invokestatic 92, 3) := by decide +kernel
theorem dL_begun_27 : decode cL_begun 27 = .ok (.iadd, 1) := by decide +kernel
theorem dL_begun_28 : decode cL_begun 28 = .ok (.iconst 1, 1) := by decide +kernel
theorem dL_begun_29 : decode cL_begun 29 = .ok (.aload_n 0, 1) := by decide +kernel
theorem dL_begun_30 : decode cL_begun 30 = .ok (.iconst 4, 1) := by decide +kernel
theorem dL_begun_31 : decode cL_begun 31 = .ok (.iload_n 3, 1) := by decide +kernel
theorem dL_begun_32 : decode cL_begun 32 = .ok (.iadd, 1) := by decide +kernel
theorem dL_begun_33 : decode cL_begun 33 = .ok (.iconst 4, 1) := by decide +kernel
theorem dL_begun_34 : decode cL_begun 34 = .ok (.invokestatic 92, 3) := by decide +kernel
theorem dL_begun_37 : decode cL_begun 37 = .ok (.iadd, 1) := by decide +kernel
theorem dL_begun_38 : decode cL_begun 38 = .ok (.invokestatic 96, 3) := by decide +kernel
theorem dL_begun_41 : decode cL_begun 41 = .ok (.iadd, 1) := by decide +kernel
theorem dL_begun_42 : decode cL_begun 42 = .ok (.istore_n 2, 1) := by decide +kernel
theorem dL_begun_43 : decode cL_begun 43 = .ok (.iload_n 2, 1) := by decide +kernel
theorem dL_begun_44 : decode cL_begun 44 = .ok (.aload_n 1, 1) := by decide +kernel
theorem dL_begun_45 : decode cL_begun 45 = .ok (.iconst 1, 1) := by decide +kernel
theorem dL_begun_46 : decode cL_begun 46 = .ok (.iconst 1, 1) := by decide +kernel
theorem dL_begun_47 : decode cL_begun 47 = .ok (.aload_n 0, 1) := by decide +kernel
theorem dL_begun_48 : decode cL_begun 48 = .ok (.bipush 8, 2) := by decide +kernel
theorem dL_begun_50 : decode cL_begun 50 = .ok (.iload_n 3, 1) := by decide +kernel
theorem dL_begun_51 : decode cL_begun 51 = .ok (.iadd, 1) := by decide +kernel
theorem dL_begun_52 : decode cL_begun 52 = .ok (.iconst 5, 1) := by decide +kernel
theorem dL_begun_53 : decode cL_begun 53 = .ok (.invokestatic 92, 3) := by decide +kernel
theorem dL_begun_56 : decode cL_begun 56 = .ok (.iadd, 1) := by decide +kernel
theorem dL_begun_57 : decode cL_begun 57 = .ok (.iconst 1, 1) := by decide +kernel
theorem dL_begun_58 : decode cL_begun 58 = .ok (.aload_n 0, 1) := by decide +kernel
theorem dL_begun_59 : decode cL_begun 59 = .ok (.bipush 12, 2) := by decide +kernel
theorem dL_begun_61 : decode cL_begun 61 = .ok (.iload_n 3, 1) := by decide +kernel
theorem dL_begun_62 : decode cL_begun 62 = .ok (.iadd, 1) := by decide +kernel
theorem dL_begun_63 : decode cL_begun 63 = .ok (.iconst 4, 1) := by decide +kernel
theorem dL_begun_64 : decode cL_begun 64 = .ok (.invokestatic 92, 3) := by decide +kernel
theorem dL_begun_67 : decode cL_begun 67 = .ok (.iadd, 1) := by decide +kernel
theorem dL_begun_68 : decode cL_begun 68 = .ok (.invokestatic 96, 3) := by decide +kernel
theorem dL_begun_71 : decode cL_begun 71 = .ok (.iadd, 1) := by decide +kernel
theorem dL_begun_72 : decode cL_begun 72 = .ok (.istore_n 2, 1) := by decide +kernel
theorem dL_begun_73 : decode cL_begun 73 = .ok (.iinc 3 1, 3) := by decide +kernel
theorem dL_begun_76 : decode cL_begun 76 = .ok (.goto (-64), 3) := by decide +kernel
theorem dL_begun_79 : decode cL_begun 79 = .ok (.aload_n 0, 1) := by decide +kernel
theorem dL_begun_80 : decode cL_begun 80 = .ok (.bipush 16, 2) := by decide +kernel
theorem dL_begun_82 : decode cL_begun 82 = .ok (.bipush 16, 2) := by decide +kernel
theorem dL_begun_84 : decode cL_begun 84 = .ok (.invokestatic 92, 3) := by decide +kernel
theorem dL_begun_87 : decode cL_begun 87 = .ok (.istore_n 3, 1) := by decide +kernel
theorem dL_begun_88 : decode cL_begun 88 = .ok (.iconst 0, 1) := by decide +kernel
theorem dL_begun_89 : decode cL_begun 89 = .ok (.istore 4, 2) := by decide +kernel
theorem dL_begun_91 : decode cL_begun 91 = .ok (.iload 4, 2) := by decide +kernel
theorem dL_begun_93 : decode cL_begun 93 = .ok (.iload_n 3, 1) := by decide +kernel
theorem dL_begun_94 : decode cL_begun 94 = .ok (.if_icmp .ge 16, 3) := by decide +kernel
theorem dL_begun_97 : decode cL_begun 97 = .ok (.iload_n 2, 1) := by decide +kernel
theorem dL_begun_98 : decode cL_begun 98 = .ok (.aload_n 1, 1) := by decide +kernel
theorem dL_begun_99 : decode cL_begun 99 = .ok (.invokestatic 99, 3) := by decide +kernel
theorem dL_begun_102 : decode cL_begun 102 = .ok (.iadd, 1) := by decide +kernel
theorem dL_begun_103 : decode cL_begun 103 = .ok (.istore_n 2, 1) := by decide +kernel
theorem dL_begun_104 : decode cL_begun 104 = .ok (.iinc 4 1, 3) := by decide +kernel
theorem dL_begun_107 : decode cL_begun 107 = .ok (.goto (-16), 3) := by decide +kernel
theorem dL_begun_110 : decode cL_begun 110 = .ok (.iconst 0, 1) := by decide +kernel
theorem dL_begun_111 : decode cL_begun 111 = .ok (.istore 4, 2) := by decide +kernel
theorem dL_begun_113 : decode cL_begun 113 = .ok (.iload 4, 2) := by decide +kernel
theorem dL_begun_115 : decode cL_begun 115 = .ok (.iconst 3, 1) := by decide +kernel
theorem dL_begun_116 : decode cL_begun 116 = .ok (.if_icmp .ge 38, 3) := by decide +kernel
theorem dL_begun_119 : decode cL_begun 119 = .ok (.iload_n 2, 1) := by decide +kernel
theorem dL_begun_120 : decode cL_begun 120 = .ok (.aload_n 1, 1) := by decide +kernel
theorem dL_begun_121 : decode cL_begun 121 = .ok (.aload_n 0, 1) := by decide +kernel
theorem dL_begun_122 : decode cL_begun 122 = .ok (.bipush 17, 2) := by decide +kernel
theorem dL_begun_124 : decode cL_begun 124 = .ok (.iload 4, 2) := by decide +kernel
theorem dL_begun_126 : decode cL_begun 126 = .ok (.iadd, 1) := by decide +kernel
theorem dL_begun_127 : decode cL_begun 127 = .ok (.bipush 6, 2) := by decide +kernel
theorem dL_begun_129 : decode cL_begun 129 = .ok (.invokestatic 92, 3) := by decide +kernel
theorem dL_begun_132 : decode cL_begun 132 = .ok (.aload_n 0, 1) := by decide +kernel
theorem dL_begun_133 : decode cL_begun 133 = .ok (.bipush 20, 2) := by decide +kernel
theorem dL_begun_135 : decode cL_begun 135 = .ok (.iload 4, 2) := by decide +kernel
theorem dL_begun_137 : decode cL_begun 137 = .ok (.iadd, 1) := by decide +kernel
theorem dL_begun_138 : decode cL_begun 138 = .ok (.bipush 45, 2) := by decide +kernel
theorem dL_begun_140 : decode cL_begun 140 = .ok (.invokestatic 92, 3) := by decide +kernel
theorem dL_begun_143 : decode cL_begun 143 = .ok (.invokestatic 101, 3) := by decide +kernel
theorem dL_begun_146 : decode cL_begun 146 = .ok (.iadd, 1) := by decide +kernel
theorem dL_begun_147 : decode cL_begun 147 = .ok (.istore_n 2, 1) := by decide +kernel
theorem dL_begun_148 : decode cL_begun 148 = .ok (.iinc 4 1, 3) := by decide +kernel
theorem dL_begun_151 : decode cL_begun 151 = .ok (.goto (-38), 3) := by decide +kernel
theorem dL_begun_154 : decode cL_begun 154 = .ok (.iload_n 2, 1) := by decide +kernel
theorem dL_begun_155 : decode cL_begun 155 = .ok (.ldc 104, 2) := by decide +kernel
theorem dL_begun_157 : decode cL_begun 157 = .ok (.if_icmp .ge 7, 3) := by decide +kernel
theorem dL_begun_160 : decode cL_begun 160 = .ok (.aconst_null, 1) := by decide +kernel
theorem dL_begun_161 : decode cL_begun 161 = .ok (.goto 4, 3) := by decide +kernel
theorem dL_begun_164 : decode cL_begun 164 = .ok (.aload_n 1, 1) := by decide +kernel
theorem dL_begun_165 : decode cL_begun 165 = .ok (.areturn, 1) := by decide +kernel
theorem dL_nearest_0 : decode cL_nearest 0 = .ok (.iconst (-1), 1) := by decide +kernel
theorem dL_nearest_1 : decode cL_nearest 1 = .ok (.istore_n 1, 1) := by decide +kernel
theorem dL_nearest_2 : decode cL_nearest 2 = .ok (.bipush 99, 2) := by decide +kernel
theorem dL_nearest_4 : decode cL_nearest 4 = .ok (.istore_n 2, 1) := by decide +kernel
theorem dL_nearest_5 : decode cL_nearest 5 = .ok (.iconst 0, 1) := by decide +kernel
theorem dL_nearest_6 : decode cL_nearest 6 = .ok (.istore_n 3, 1) := by decide +kernel
theorem dL_nearest_7 : decode cL_nearest 7 = .ok (.iload_n 3, 1) := by decide +kernel
theorem dL_nearest_8 : decode cL_nearest 8 = .ok (.aload_n 0, 1) := by decide +kernel
theorem dL_nearest_9 : decode cL_nearest 9 = .ok (.iconst 0, 1) := by decide +kernel
theorem dL_nearest_10 : decode cL_nearest 10 = .ok (.invokevirtual 105, 3) := by decide +kernel
theorem dL_nearest_13 : decode cL_nearest 13 = .ok (.if_icmp .ge 35, 3) := by decide +kernel
theorem dL_nearest_16 : decode cL_nearest 16 = .ok (.aload_n 0, 1) := by decide +kernel
theorem dL_nearest_17 : decode cL_nearest 17 = .ok (.iload_n 3, 1) := by decide +kernel
theorem dL_nearest_18 : decode cL_nearest 18 = .ok (.invokestatic 108, 3) := by decide +kernel
theorem dL_nearest_21 : decode cL_nearest 21 = .ok (.istore 4, 2) := by decide +kernel
theorem dL_nearest_23 : decode cL_nearest 23 = .ok (.iload 4, 2) := by decide +kernel
theorem dL_nearest_25 : decode cL_nearest 25 = .ok (.iload_n 2, 1) := by decide +kernel
theorem dL_nearest_26 : decode cL_nearest 26 = .ok (.if_icmp .ge 7, 3) := by decide +kernel
theorem dL_nearest_29 : decode cL_nearest 29 = .ok (.iload_n 3, 1) := by decide +kernel
theorem dL_nearest_30 : decode cL_nearest 30 = .ok (.goto 4, 3) := by decide +kernel
theorem dL_nearest_33 : decode cL_nearest 33 = .ok (.iload_n 1, 1) := by decide +kernel
theorem dL_nearest_34 : decode cL_nearest 34 = .ok (.istore_n 1, 1) := by decide +kernel
theorem dL_nearest_35 : decode cL_nearest 35 = .ok (.iload_n 2, 1) := by decide +kernel
theorem dL_nearest_36 : decode cL_nearest 36 = .ok (.iload 4, 2) := by decide +kernel
theorem dL_nearest_38 : decode cL_nearest 38 = .ok (.invokestatic 112, 3) := by decide +kernel
theorem dL_nearest_41 : decode cL_nearest 41 = .ok (.istore_n 2, 1) := by decide +kernel
theorem dL_nearest_42 : decode cL_nearest 42 = .ok (.iinc 3 1, 3) := by decide +kernel
theorem dL_nearest_45 : decode cL_nearest 45 = .ok (.goto (-38), 3) := by decide +kernel
theorem dL_nearest_48 : decode cL_nearest 48 = .ok (.iload_n 1, 1) := by decide +kernel
theorem dL_nearest_49 : decode cL_nearest 49 = .ok (.ireturn, 1) := by decide +kernel
theorem dL_apart_0 : decode cL_apart 0 = .ok (.iload_n 0, 1) := by decide +kernel
theorem dL_apart_1 : decode cL_apart 1 = .ok (.bipush 9, 2) := by decide +kernel
theorem dL_apart_3 : decode cL_apart 3 = .ok (.idiv, 1) := by decide +kernel
theorem dL_apart_4 : decode cL_apart 4 = .ok (.iload_n 1, 1) := by decide +kernel
theorem dL_apart_5 : decode cL_apart 5 = .ok (.bipush 9, 2) := by decide +kernel
theorem dL_apart_7 : decode cL_apart 7 = .ok (.idiv, 1) := by decide +kernel
theorem dL_apart_8 : decode cL_apart 8 = .ok (.isub, 1) := by decide +kernel
theorem dL_apart_9 : decode cL_apart 9 = .ok (.invokestatic 117, 3) := by decide +kernel
theorem dL_apart_12 : decode cL_apart 12 = .ok (.iload_n 0, 1) := by decide +kernel
theorem dL_apart_13 : decode cL_apart 13 = .ok (.bipush 9, 2) := by decide +kernel
theorem dL_apart_15 : decode cL_apart 15 = .ok (.irem, 1) := by decide +kernel
theorem dL_apart_16 : decode cL_apart 16 = .ok (.iload_n 1, 1) := by decide +kernel
theorem dL_apart_17 : decode cL_apart 17 = .ok (.bipush 9, 2) := by decide +kernel
theorem dL_apart_19 : decode cL_apart 19 = .ok (.irem, 1) := by decide +kernel
theorem dL_apart_20 : decode cL_apart 20 = .ok (.isub, 1) := by decide +kernel
theorem dL_apart_21 : decode cL_apart 21 = .ok (.invokestatic 117, 3) := by decide +kernel
theorem dL_apart_24 : decode cL_apart 24 = .ok (.iadd, 1) := by decide +kernel
theorem dL_apart_25 : decode cL_apart 25 = .ok (.ireturn, 1) := by decide +kernel
theorem dL_far_0 : decode cL_far 0 = .ok (.aload_n 0, 1) := by decide +kernel
theorem dL_far_1 : decode cL_far 1 = .ok (.iload_n 1, 1) := by decide +kernel
theorem dL_far_2 : decode cL_far 2 = .ok (.iconst 4, 1) := by decide +kernel
theorem dL_far_3 : decode cL_far 3 = .ok (.invokevirtual 120, 3) := by decide +kernel
theorem dL_far_6 : decode cL_far 6 = .ok (.ifCond .ge 8, 3) := by decide +kernel
theorem dL_far_9 : decode cL_far 9 = .ok (.bipush 99, 2) := by decide +kernel
theorem dL_far_11 : decode cL_far 11 = .ok (.goto 17, 3) := by decide +kernel
theorem dL_far_14 : decode cL_far 14 = .ok (.aload_n 0, 1) := by decide +kernel
theorem dL_far_15 : decode cL_far 15 = .ok (.iload_n 1, 1) := by decide +kernel
theorem dL_far_16 : decode cL_far 16 = .ok (.iconst 4, 1) := by decide +kernel
theorem dL_far_17 : decode cL_far 17 = .ok (.invokevirtual 120, 3) := by decide +kernel
theorem dL_far_20 : decode cL_far 20 = .ok (.aload_n 0, 1) := by decide +kernel
theorem dL_far_21 : decode cL_far 21 = .ok (.iconst 5, 1) := by decide +kernel
theorem dL_far_22 : decode cL_far 22 = .ok (.invokevirtual 105, 3) := by decide +kernel
theorem dL_far_25 : decode cL_far 25 = .ok (.invokestatic 123, 3) := by decide +kernel
theorem dL_far_28 : decode cL_far 28 = .ok (.ireturn, 1) := by decide +kernel
theorem dL_acts_0 : decode cL_acts 0 = .ok (.aload_n 1, 1) := by decide +kernel
theorem dL_acts_1 : decode cL_acts 1 = .ok (.iload_n 2, 1) := by decide +kernel
theorem dL_acts_2 : decode cL_acts 2 = .ok (.iconst 1, 1) := by decide +kernel
theorem dL_acts_3 : decode cL_acts 3 = .ok (.iadd, 1) := by decide +kernel
theorem dL_acts_4 : decode cL_acts 4 = .ok (.bipush 9, 2) := by decide +kernel
theorem dL_acts_6 : decode cL_acts 6 = .ok (.invokestatic 92, 3) := by decide +kernel
theorem dL_acts_9 : decode cL_acts 9 = .ok (.istore_n 3, 1) := by decide +kernel
theorem dL_acts_10 : decode cL_acts 10 = .ok (.aload_n 1, 1) := by decide +kernel
theorem dL_acts_11 : decode cL_acts 11 = .ok (.iload_n 2, 1) := by decide +kernel
theorem dL_acts_12 : decode cL_acts 12 = .ok (.iconst 2, 1) := by decide +kernel
theorem dL_acts_13 : decode cL_acts 13 = .ok (.iadd, 1) := by decide +kernel
theorem dL_acts_14 : decode cL_acts 14 = .ok (.bipush 45, 2) := by decide +kernel
theorem dL_acts_16 : decode cL_acts 16 = .ok (.invokestatic 92, 3) := by decide +kernel
theorem dL_acts_19 : decode cL_acts 19 = .ok (.istore 4, 2) := by decide +kernel
theorem dL_acts_21 : decode cL_acts 21 = .ok (.aload_n 1, 1) := by decide +kernel
theorem dL_acts_22 : decode cL_acts 22 = .ok (.iload_n 2, 1) := by decide +kernel
theorem dL_acts_23 : decode cL_acts 23 = .ok (.iconst 3, 1) := by decide +kernel
theorem dL_acts_24 : decode cL_acts 24 = .ok (.iadd, 1) := by decide +kernel
theorem dL_acts_25 : decode cL_acts 25 = .ok (.bipush 7, 2) := by decide +kernel
theorem dL_acts_27 : decode cL_acts 27 = .ok (.invokestatic 92, 3) := by decide +kernel
theorem dL_acts_30 : decode cL_acts 30 = .ok (.istore 5, 2) := by decide +kernel
theorem dL_acts_32 : decode cL_acts 32 = .ok (.aload_n 1, 1) := by decide +kernel
theorem dL_acts_33 : decode cL_acts 33 = .ok (.iload_n 2, 1) := by decide +kernel
theorem dL_acts_34 : decode cL_acts 34 = .ok (.bipush 24, 2) := by decide +kernel
theorem dL_acts_36 : decode cL_acts 36 = .ok (.invokestatic 92, 3) := by decide +kernel
theorem dL_acts_39 : decode cL_acts 39 = .ok (.tableswitch 202 0 20 #[97, 109, 109, 120, 120, 120, 120, 128, 128, 128, 153, 153, 153, 153, 153, 153, 178, 178, 178, 197, 197], 97) := by decide +kernel
theorem dL_acts_136 : decode cL_acts 136 = .ok (.aload_n 0, 1) := by decide +kernel
theorem dL_acts_137 : decode cL_acts 137 = .ok (.iload 5, 2) := by decide +kernel
theorem dL_acts_139 : decode cL_acts 139 = .ok (.iconst 3, 1) := by decide +kernel
theorem dL_acts_140 : decode cL_acts 140 = .ok (.irem, 1) := by decide +kernel
theorem dL_acts_141 : decode cL_acts 141 = .ok (.iload_n 3, 1) := by decide +kernel
theorem dL_acts_142 : decode cL_acts 142 = .ok (.iload 5, 2) := by decide +kernel
theorem dL_acts_144 : decode cL_acts 144 = .ok (.invokestatic 96, 3) := by decide +kernel
theorem dL_acts_147 : decode cL_acts 147 = .ok (.ireturn, 1) := by decide +kernel
theorem dL_acts_148 : decode cL_acts 148 = .ok (.aload_n 0, 1) := by decide +kernel
theorem dL_acts_149 : decode cL_acts 149 = .ok (.iload_n 3, 1) := by decide +kernel
theorem dL_acts_150 : decode cL_acts 150 = .ok (.iload 4, 2) := by decide +kernel
theorem dL_acts_152 : decode cL_acts 152 = .ok (.bipush 9, 2) := by decide +kernel
theorem dL_acts_154 : decode cL_acts 154 = .ok (.irem, 1) := by decide +kernel
theorem dL_acts_155 : decode cL_acts 155 = .ok (.invokestatic 126, 3) := by decide +kernel
theorem dL_acts_158 : decode cL_acts 158 = .ok (.ireturn, 1) := by decide +kernel
theorem dL_acts_159 : decode cL_acts 159 = .ok (.aload_n 0, 1) := by decide +kernel
theorem dL_acts_160 : decode cL_acts 160 = .ok (.iload_n 3, 1) := by decide +kernel
theorem dL_acts_161 : decode cL_acts 161 = .ok (.iload 4, 2) := by decide +kernel
theorem dL_acts_163 : decode cL_acts 163 = .ok (.invokestatic 101, 3) := by decide +kernel
theorem dL_acts_166 : decode cL_acts 166 = .ok (.ireturn, 1) := by decide +kernel
theorem dL_acts_167 : decode cL_acts 167 = .ok (.aload_n 0, 1) := by decide +kernel
theorem dL_acts_168 : decode cL_acts 168 = .ok (.iload_n 3, 1) := by decide +kernel
theorem dL_acts_169 : decode cL_acts 169 = .ok (.iconst 0, 1) := by decide +kernel
theorem dL_acts_170 : decode cL_acts 170 = .ok (.bipush 44, 2) := by decide +kernel
theorem dL_acts_172 : decode cL_acts 172 = .ok (.aload_n 0, 1) := by decide +kernel
theorem dL_acts_173 : decode cL_acts 173 = .ok (.iconst 5, 1) := by decide +kernel
theorem dL_acts_174 : decode cL_acts 174 = .ok (.invokevirtual 105, 3) := by decide +kernel
theorem dL_acts_177 : decode cL_acts 177 = .ok (.iload 5, 2) := by decide +kernel
theorem dL_acts_179 : decode cL_acts 179 = .ok (.iadd, 1) := by decide +kernel
theorem dL_acts_180 : decode cL_acts 180 = .ok (.iconst 3, 1) := by decide +kernel
theorem dL_acts_181 : decode cL_acts 181 = .ok (.isub, 1) := by decide +kernel
theorem dL_acts_182 : decode cL_acts 182 = .ok (.invokestatic 112, 3) := by decide +kernel
theorem dL_acts_185 : decode cL_acts 185 = .ok (.invokestatic 128, 3) := by decide +kernel
theorem dL_acts_188 : decode cL_acts 188 = .ok (.invokestatic 101, 3) := by decide +kernel
theorem dL_acts_191 : decode cL_acts 191 = .ok (.ireturn, 1) := by decide +kernel
theorem dL_acts_192 : decode cL_acts 192 = .ok (.aload_n 0, 1) := by decide +kernel
theorem dL_acts_193 : decode cL_acts 193 = .ok (.iload 5, 2) := by decide +kernel
theorem dL_acts_195 : decode cL_acts 195 = .ok (.iconst 5, 1) := by decide +kernel
theorem dL_acts_196 : decode cL_acts 196 = .ok (.if_icmp .ge 10, 3) := by decide +kernel
theorem dL_acts_199 : decode cL_acts 199 = .ok (.aload_n 0, 1) := by decide +kernel
theorem dL_acts_200 : decode cL_acts 200 = .ok (.invokestatic 131, 3) := by decide +kernel
theorem dL_acts_203 : decode cL_acts 203 = .ok (.goto 4, 3) := by decide +kernel
theorem dL_acts_206 : decode cL_acts 206 = .ok (.iload_n 3, 1) := by decide +kernel
theorem dL_acts_207 : decode cL_acts 207 = .ok (.iload 4, 2) := by decide +kernel
theorem dL_acts_209 : decode cL_acts 209 = .ok (.iconst 5, 1) := by decide +kernel
theorem dL_acts_210 : decode cL_acts 210 = .ok (.irem, 1) := by decide +kernel
theorem dL_acts_211 : decode cL_acts 211 = .ok (.iload 5, 2) := by decide +kernel
theorem dL_acts_213 : decode cL_acts 213 = .ok (.invokestatic 134, 3) := by decide +kernel
theorem dL_acts_216 : decode cL_acts 216 = .ok (.ireturn, 1) := by decide +kernel
theorem dL_acts_217 : decode cL_acts 217 = .ok (.aload_n 0, 1) := by decide +kernel
theorem dL_acts_218 : decode cL_acts 218 = .ok (.iload 5, 2) := by decide +kernel
theorem dL_acts_220 : decode cL_acts 220 = .ok (.iconst 4, 1) := by decide +kernel
theorem dL_acts_221 : decode cL_acts 221 = .ok (.if_icmp .ge 10, 3) := by decide +kernel
theorem dL_acts_224 : decode cL_acts 224 = .ok (.aload_n 0, 1) := by decide +kernel
theorem dL_acts_225 : decode cL_acts 225 = .ok (.invokestatic 131, 3) := by decide +kernel
theorem dL_acts_228 : decode cL_acts 228 = .ok (.goto 4, 3) := by decide +kernel
theorem dL_acts_231 : decode cL_acts 231 = .ok (.iload_n 3, 1) := by decide +kernel
theorem dL_acts_232 : decode cL_acts 232 = .ok (.invokestatic 136, 3) := by decide +kernel
theorem dL_acts_235 : decode cL_acts 235 = .ok (.ireturn, 1) := by decide +kernel
theorem dL_acts_236 : decode cL_acts 236 = .ok (.aload_n 0, 1) := by decide +kernel
theorem dL_acts_237 : decode cL_acts 237 = .ok (.invokestatic 99, 3) := by decide +kernel
theorem dL_acts_240 : decode cL_acts 240 = .ok (.ireturn, 1) := by decide +kernel
theorem dL_acts_241 : decode cL_acts 241 = .ok (.aload_n 0, 1) := by decide +kernel
theorem dL_acts_242 : decode cL_acts 242 = .ok (.new 138, 3) := by decide +kernel
theorem dL_acts_245 : decode cL_acts 245 = .ok (.dup, 1) := by decide +kernel
theorem dL_acts_246 : decode cL_acts 246 = .ok (.invokespecial 140, 3) := by decide +kernel
theorem dL_acts_249 : decode cL_acts 249 = .ok (.ldc 141, 2) := by decide +kernel
theorem dL_acts_251 : decode cL_acts 251 = .ok (.invokevirtual 143, 3) := by decide +kernel
theorem dL_acts_254 : decode cL_acts 254 = .ok (.iload_n 3, 1) := by decide +kernel
theorem dL_acts_255 : decode cL_acts 255 = .ok (.invokevirtual 146, 3) := by decide +kernel
theorem dL_acts_258 : decode cL_acts 258 = .ok (.ldc 149, 2) := by decide +kernel
theorem dL_acts_260 : decode cL_acts 260 = .ok (.invokevirtual 143, 3) := by decide +kernel
theorem dL_acts_263 : decode cL_acts 263 = .ok (.iload 4, 2) := by decide +kernel
theorem dL_acts_265 : decode cL_acts 265 = .ok (.invokevirtual 146, 3) := by decide +kernel
theorem dL_acts_268 : decode cL_acts 268 = .ok (.iload 5, 2) := by decide +kernel
theorem dL_acts_270 : decode cL_acts 270 = .ok (.iconst 3, 1) := by decide +kernel
theorem dL_acts_271 : decode cL_acts 271 = .ok (.irem, 1) := by decide +kernel
theorem dL_acts_272 : decode cL_acts 272 = .ok (.ifCond .ne 42, 3) := by decide +kernel
theorem dL_acts_275 : decode cL_acts 275 = .ok (.new 138, 3) := by decide +kernel
theorem dL_acts_278 : decode cL_acts 278 = .ok (.dup, 1) := by decide +kernel
theorem dL_acts_279 : decode cL_acts 279 = .ok (.invokespecial 140, 3) := by decide +kernel
theorem dL_acts_282 : decode cL_acts 282 = .ok (.ldc 151, 2) := by decide +kernel
theorem dL_acts_284 : decode cL_acts 284 = .ok (.invokevirtual 143, 3) := by decide +kernel
theorem dL_acts_287 : decode cL_acts 287 = .ok (.iload_n 3, 1) := by decide +kernel
theorem dL_acts_288 : decode cL_acts 288 = .ok (.invokevirtual 146, 3) := by decide +kernel
theorem dL_acts_291 : decode cL_acts 291 = .ok (.ldc 153, 2) := by decide +kernel
theorem dL_acts_293 : decode cL_acts 293 = .ok (.iload 4, 2) := by decide +kernel
theorem dL_acts_295 : decode cL_acts 295 = .ok (.iconst 4, 1) := by decide +kernel
theorem dL_acts_296 : decode cL_acts 296 = .ok (.irem, 1) := by decide +kernel
theorem dL_acts_297 : decode cL_acts 297 = .ok (.invokevirtual 79, 3) := by decide +kernel
theorem dL_acts_300 : decode cL_acts 300 = .ok (.invokevirtual 155, 3) := by decide +kernel
theorem dL_acts_303 : decode cL_acts 303 = .ok (.iload 5, 2) := by decide +kernel
theorem dL_acts_305 : decode cL_acts 305 = .ok (.invokevirtual 146, 3) := by decide +kernel
theorem dL_acts_308 : decode cL_acts 308 = .ok (.invokevirtual 158, 3) := by decide +kernel
theorem dL_acts_311 : decode cL_acts 311 = .ok (.goto 70, 3) := by decide +kernel
theorem dL_acts_314 : decode cL_acts 314 = .ok (.iload 5, 2) := by decide +kernel
theorem dL_acts_316 : decode cL_acts 316 = .ok (.iconst 3, 1) := by decide +kernel
theorem dL_acts_317 : decode cL_acts 317 = .ok (.irem, 1) := by decide +kernel
theorem dL_acts_318 : decode cL_acts 318 = .ok (.iconst 1, 1) := by decide +kernel
theorem dL_acts_319 : decode cL_acts 319 = .ok (.if_icmp .ne 30, 3) := by decide +kernel
theorem dL_acts_322 : decode cL_acts 322 = .ok (.new 138, 3) := by decide +kernel
theorem dL_acts_325 : decode cL_acts 325 = .ok (.dup, 1) := by decide +kernel
theorem dL_acts_326 : decode cL_acts 326 = .ok (.invokespecial 140, 3) := by decide +kernel
theorem dL_acts_329 : decode cL_acts 329 = .ok (.ldc 162, 2) := by decide +kernel
theorem dL_acts_331 : decode cL_acts 331 = .ok (.invokevirtual 143, 3) := by decide +kernel
theorem dL_acts_334 : decode cL_acts 334 = .ok (.iload_n 3, 1) := by decide +kernel
theorem dL_acts_335 : decode cL_acts 335 = .ok (.invokevirtual 146, 3) := by decide +kernel
theorem dL_acts_338 : decode cL_acts 338 = .ok (.ldc 164, 2) := by decide +kernel
theorem dL_acts_340 : decode cL_acts 340 = .ok (.invokevirtual 143, 3) := by decide +kernel
theorem dL_acts_343 : decode cL_acts 343 = .ok (.invokevirtual 158, 3) := by decide +kernel
theorem dL_acts_346 : decode cL_acts 346 = .ok (.goto 35, 3) := by decide +kernel
theorem dL_acts_349 : decode cL_acts 349 = .ok (.new 138, 3) := by decide +kernel
theorem dL_acts_352 : decode cL_acts 352 = .ok (.dup, 1) := by decide +kernel
theorem dL_acts_353 : decode cL_acts 353 = .ok (.invokespecial 140, 3) := by decide +kernel
theorem dL_acts_356 : decode cL_acts 356 = .ok (.ldc 166, 2) := by decide +kernel
theorem dL_acts_358 : decode cL_acts 358 = .ok (.invokevirtual 143, 3) := by decide +kernel
theorem dL_acts_361 : decode cL_acts 361 = .ok (.iload_n 3, 1) := by decide +kernel
theorem dL_acts_362 : decode cL_acts 362 = .ok (.invokevirtual 146, 3) := by decide +kernel
theorem dL_acts_365 : decode cL_acts 365 = .ok (.iload 4, 2) := by decide +kernel
theorem dL_acts_367 : decode cL_acts 367 = .ok (.bipush 9, 2) := by decide +kernel
theorem dL_acts_369 : decode cL_acts 369 = .ok (.irem, 1) := by decide +kernel
theorem dL_acts_370 : decode cL_acts 370 = .ok (.invokevirtual 146, 3) := by decide +kernel
theorem dL_acts_373 : decode cL_acts 373 = .ok (.ldc 164, 2) := by decide +kernel
theorem dL_acts_375 : decode cL_acts 375 = .ok (.invokevirtual 143, 3) := by decide +kernel
theorem dL_acts_378 : decode cL_acts 378 = .ok (.invokevirtual 158, 3) := by decide +kernel
theorem dL_acts_381 : decode cL_acts 381 = .ok (.invokevirtual 143, 3) := by decide +kernel
theorem dL_acts_384 : decode cL_acts 384 = .ok (.invokevirtual 158, 3) := by decide +kernel
theorem dL_acts_387 : decode cL_acts 387 = .ok (.invokestatic 168, 3) := by decide +kernel
theorem dL_acts_390 : decode cL_acts 390 = .ok (.ireturn, 1) := by decide +kernel
theorem dL_seen_0 : decode cL_seen 0 = .ok (.bipush 110, 2) := by decide +kernel
theorem dL_seen_2 : decode cL_seen 2 = .ok (.newarray .int, 2) := by decide +kernel
theorem dL_seen_4 : decode cL_seen 4 = .ok (.astore_n 1, 1) := by decide +kernel
theorem dL_seen_5 : decode cL_seen 5 = .ok (.iconst 0, 1) := by decide +kernel
theorem dL_seen_6 : decode cL_seen 6 = .ok (.istore_n 2, 1) := by decide +kernel
theorem dL_seen_7 : decode cL_seen 7 = .ok (.iload_n 2, 1) := by decide +kernel
theorem dL_seen_8 : decode cL_seen 8 = .ok (.bipush 12, 2) := by decide +kernel
theorem dL_seen_10 : decode cL_seen 10 = .ok (.if_icmp .ge 17, 3) := by decide +kernel
theorem dL_seen_13 : decode cL_seen 13 = .ok (.aload_n 1, 1) := by decide +kernel
theorem dL_seen_14 : decode cL_seen 14 = .ok (.iload_n 2, 1) := by decide +kernel
theorem dL_seen_15 : decode cL_seen 15 = .ok (.aload_n 0, 1) := by decide +kernel
theorem dL_seen_16 : decode cL_seen 16 = .ok (.iload_n 2, 1) := by decide +kernel
theorem dL_seen_17 : decode cL_seen 17 = .ok (.invokevirtual 105, 3) := by decide +kernel
theorem dL_seen_20 : decode cL_seen 20 = .ok (.iastore, 1) := by decide +kernel
theorem dL_seen_21 : decode cL_seen 21 = .ok (.iinc 2 1, 3) := by decide +kernel
theorem dL_seen_24 : decode cL_seen 24 = .ok (.goto (-17), 3) := by decide +kernel
theorem dL_seen_27 : decode cL_seen 27 = .ok (.iconst 0, 1) := by decide +kernel
theorem dL_seen_28 : decode cL_seen 28 = .ok (.istore_n 2, 1) := by decide +kernel
theorem dL_seen_29 : decode cL_seen 29 = .ok (.iload_n 2, 1) := by decide +kernel
theorem dL_seen_30 : decode cL_seen 30 = .ok (.aload_n 0, 1) := by decide +kernel
theorem dL_seen_31 : decode cL_seen 31 = .ok (.iconst 0, 1) := by decide +kernel
theorem dL_seen_32 : decode cL_seen 32 = .ok (.invokevirtual 105, 3) := by decide +kernel
theorem dL_seen_35 : decode cL_seen 35 = .ok (.if_icmp .ge 40, 3) := by decide +kernel
theorem dL_seen_38 : decode cL_seen 38 = .ok (.iconst 0, 1) := by decide +kernel
theorem dL_seen_39 : decode cL_seen 39 = .ok (.istore_n 3, 1) := by decide +kernel
theorem dL_seen_40 : decode cL_seen 40 = .ok (.iload_n 3, 1) := by decide +kernel
theorem dL_seen_41 : decode cL_seen 41 = .ok (.bipush 9, 2) := by decide +kernel
theorem dL_seen_43 : decode cL_seen 43 = .ok (.if_icmp .ge 26, 3) := by decide +kernel
theorem dL_seen_46 : decode cL_seen 46 = .ok (.aload_n 1, 1) := by decide +kernel
theorem dL_seen_47 : decode cL_seen 47 = .ok (.bipush 12, 2) := by decide +kernel
theorem dL_seen_49 : decode cL_seen 49 = .ok (.bipush 9, 2) := by decide +kernel
theorem dL_seen_51 : decode cL_seen 51 = .ok (.iload_n 2, 1) := by decide +kernel
theorem dL_seen_52 : decode cL_seen 52 = .ok (.imul, 1) := by decide +kernel
theorem dL_seen_53 : decode cL_seen 53 = .ok (.iadd, 1) := by decide +kernel
theorem dL_seen_54 : decode cL_seen 54 = .ok (.iload_n 3, 1) := by decide +kernel
theorem dL_seen_55 : decode cL_seen 55 = .ok (.iadd, 1) := by decide +kernel
theorem dL_seen_56 : decode cL_seen 56 = .ok (.aload_n 0, 1) := by decide +kernel
theorem dL_seen_57 : decode cL_seen 57 = .ok (.iload_n 2, 1) := by decide +kernel
theorem dL_seen_58 : decode cL_seen 58 = .ok (.iload_n 3, 1) := by decide +kernel
theorem dL_seen_59 : decode cL_seen 59 = .ok (.invokevirtual 120, 3) := by decide +kernel
theorem dL_seen_62 : decode cL_seen 62 = .ok (.iastore, 1) := by decide +kernel
theorem dL_seen_63 : decode cL_seen 63 = .ok (.iinc 3 1, 3) := by decide +kernel
theorem dL_seen_66 : decode cL_seen 66 = .ok (.goto (-26), 3) := by decide +kernel
theorem dL_seen_69 : decode cL_seen 69 = .ok (.iinc 2 1, 3) := by decide +kernel
theorem dL_seen_72 : decode cL_seen 72 = .ok (.goto (-43), 3) := by decide +kernel
theorem dL_seen_75 : decode cL_seen 75 = .ok (.aload_n 1, 1) := by decide +kernel
theorem dL_seen_76 : decode cL_seen 76 = .ok (.areturn, 1) := by decide +kernel
theorem dL_areAlike_0 : decode cL_areAlike 0 = .ok (.iconst 0, 1) := by decide +kernel
theorem dL_areAlike_1 : decode cL_areAlike 1 = .ok (.istore_n 2, 1) := by decide +kernel
theorem dL_areAlike_2 : decode cL_areAlike 2 = .ok (.iload_n 2, 1) := by decide +kernel
theorem dL_areAlike_3 : decode cL_areAlike 3 = .ok (.aload_n 0, 1) := by decide +kernel
theorem dL_areAlike_4 : decode cL_areAlike 4 = .ok (.arraylength, 1) := by decide +kernel
theorem dL_areAlike_5 : decode cL_areAlike 5 = .ok (.if_icmp .ge 20, 3) := by decide +kernel
theorem dL_areAlike_8 : decode cL_areAlike 8 = .ok (.aload_n 0, 1) := by decide +kernel
theorem dL_areAlike_9 : decode cL_areAlike 9 = .ok (.iload_n 2, 1) := by decide +kernel
theorem dL_areAlike_10 : decode cL_areAlike 10 = .ok (.iaload, 1) := by decide +kernel
theorem dL_areAlike_11 : decode cL_areAlike 11 = .ok (.aload_n 1, 1) := by decide +kernel
theorem dL_areAlike_12 : decode cL_areAlike 12 = .ok (.iload_n 2, 1) := by decide +kernel
theorem dL_areAlike_13 : decode cL_areAlike 13 = .ok (.iaload, 1) := by decide +kernel
theorem dL_areAlike_14 : decode cL_areAlike 14 = .ok (.if_icmp .eq 5, 3) := by decide +kernel
theorem dL_areAlike_17 : decode cL_areAlike 17 = .ok (.iconst 0, 1) := by decide +kernel
theorem dL_areAlike_18 : decode cL_areAlike 18 = .ok (.ireturn, 1) := by decide +kernel
theorem dL_areAlike_19 : decode cL_areAlike 19 = .ok (.iinc 2 1, 3) := by decide +kernel
theorem dL_areAlike_22 : decode cL_areAlike 22 = .ok (.goto (-20), 3) := by decide +kernel
theorem dL_areAlike_25 : decode cL_areAlike 25 = .ok (.iconst 1, 1) := by decide +kernel
theorem dL_areAlike_26 : decode cL_areAlike 26 = .ok (.ireturn, 1) := by decide +kernel
theorem dL_isWell_0 : decode cL_isWell 0 = .ok (.iconst 0, 1) := by decide +kernel
theorem dL_isWell_1 : decode cL_isWell 1 = .ok (.istore_n 1, 1) := by decide +kernel
theorem dL_isWell_2 : decode cL_isWell 2 = .ok (.iconst 0, 1) := by decide +kernel
theorem dL_isWell_3 : decode cL_isWell 3 = .ok (.istore_n 2, 1) := by decide +kernel
theorem dL_isWell_4 : decode cL_isWell 4 = .ok (.iconst 0, 1) := by decide +kernel
theorem dL_isWell_5 : decode cL_isWell 5 = .ok (.istore_n 3, 1) := by decide +kernel
theorem dL_isWell_6 : decode cL_isWell 6 = .ok (.iconst 2, 1) := by decide +kernel
theorem dL_isWell_7 : decode cL_isWell 7 = .ok (.newarray .int, 2) := by decide +kernel
theorem dL_isWell_9 : decode cL_isWell 9 = .ok (.astore 4, 2) := by decide +kernel
theorem dL_isWell_11 : decode cL_isWell 11 = .ok (.iconst 2, 1) := by decide +kernel
theorem dL_isWell_12 : decode cL_isWell 12 = .ok (.newarray .int, 2) := by decide +kernel
theorem dL_isWell_14 : decode cL_isWell 14 = .ok (.astore 5, 2) := by decide +kernel
theorem dL_isWell_16 : decode cL_isWell 16 = .ok (.aload_n 0, 1) := by decide +kernel
theorem dL_isWell_17 : decode cL_isWell 17 = .ok (.iconst 1, 1) := by decide +kernel
theorem dL_isWell_18 : decode cL_isWell 18 = .ok (.invokevirtual 105, 3) := by decide +kernel
theorem dL_isWell_21 : decode cL_isWell 21 = .ok (.istore 6, 2) := by decide +kernel
theorem dL_isWell_23 : decode cL_isWell 23 = .ok (.bipush 8, 2) := by decide +kernel
theorem dL_isWell_25 : decode cL_isWell 25 = .ok (.iload 6, 2) := by decide +kernel
theorem dL_isWell_27 : decode cL_isWell 27 = .ok (.bipush 16, 2) := by decide +kernel
theorem dL_isWell_29 : decode cL_isWell 29 = .ok (.irem, 1) := by decide +kernel
theorem dL_isWell_30 : decode cL_isWell 30 = .ok (.isub, 1) := by decide +kernel
theorem dL_isWell_31 : decode cL_isWell 31 = .ok (.invokestatic 117, 3) := by decide +kernel
theorem dL_isWell_34 : decode cL_isWell 34 = .ok (.istore 7, 2) := by decide +kernel
theorem dL_isWell_36 : decode cL_isWell 36 = .ok (.iconst 0, 1) := by decide +kernel
theorem dL_isWell_37 : decode cL_isWell 37 = .ok (.istore 8, 2) := by decide +kernel
theorem dL_isWell_39 : decode cL_isWell 39 = .ok (.iload 8, 2) := by decide +kernel
theorem dL_isWell_41 : decode cL_isWell 41 = .ok (.aload_n 0, 1) := by decide +kernel
theorem dL_isWell_42 : decode cL_isWell 42 = .ok (.iconst 0, 1) := by decide +kernel
theorem dL_isWell_43 : decode cL_isWell 43 = .ok (.invokevirtual 105, 3) := by decide +kernel
theorem dL_isWell_46 : decode cL_isWell 46 = .ok (.if_icmp .ge 256, 3) := by decide +kernel
theorem dL_isWell_49 : decode cL_isWell 49 = .ok (.aload_n 0, 1) := by decide +kernel
theorem dL_isWell_50 : decode cL_isWell 50 = .ok (.iload 8, 2) := by decide +kernel
theorem dL_isWell_52 : decode cL_isWell 52 = .ok (.iconst 4, 1) := by decide +kernel
theorem dL_isWell_53 : decode cL_isWell 53 = .ok (.invokevirtual 120, 3) := by decide +kernel
theorem dL_isWell_56 : decode cL_isWell 56 = .ok (.istore 9, 2) := by decide +kernel
theorem dL_isWell_58 : decode cL_isWell 58 = .ok (.aload_n 0, 1) := by decide +kernel
theorem dL_isWell_59 : decode cL_isWell 59 = .ok (.iload 8, 2) := by decide +kernel
theorem dL_isWell_61 : decode cL_isWell 61 = .ok (.iconst 0, 1) := by decide +kernel
theorem dL_isWell_62 : decode cL_isWell 62 = .ok (.invokevirtual 120, 3) := by decide +kernel
theorem dL_isWell_65 : decode cL_isWell 65 = .ok (.istore 10, 2) := by decide +kernel
theorem dL_isWell_67 : decode cL_isWell 67 = .ok (.aload 4, 2) := by decide +kernel
theorem dL_isWell_69 : decode cL_isWell 69 = .ok (.iload 10, 2) := by decide +kernel
theorem dL_isWell_71 : decode cL_isWell 71 = .ok (.dup2, 1) := by decide +kernel
theorem dL_isWell_72 : decode cL_isWell 72 = .ok (.iaload, 1) := by decide +kernel
theorem dL_isWell_73 : decode cL_isWell 73 = .ok (.iload 9, 2) := by decide +kernel
theorem dL_isWell_75 : decode cL_isWell 75 = .ok (.ifCond .lt 7, 3) := by decide +kernel
theorem dL_isWell_78 : decode cL_isWell 78 = .ok (.iconst 1, 1) := by decide +kernel
theorem dL_isWell_79 : decode cL_isWell 79 = .ok (.goto 4, 3) := by decide +kernel
theorem dL_isWell_82 : decode cL_isWell 82 = .ok (.iconst 0, 1) := by decide +kernel
theorem dL_isWell_83 : decode cL_isWell 83 = .ok (.iadd, 1) := by decide +kernel
theorem dL_isWell_84 : decode cL_isWell 84 = .ok (.iastore, 1) := by decide +kernel
theorem dL_isWell_85 : decode cL_isWell 85 = .ok (.aload 5, 2) := by decide +kernel
theorem dL_isWell_87 : decode cL_isWell 87 = .ok (.iload 10, 2) := by decide +kernel
theorem dL_isWell_89 : decode cL_isWell 89 = .ok (.dup2, 1) := by decide +kernel
theorem dL_isWell_90 : decode cL_isWell 90 = .ok (.iaload, 1) := by decide +kernel
theorem dL_isWell_91 : decode cL_isWell 91 = .ok (.aload_n 0, 1) := by decide +kernel
theorem dL_isWell_92 : decode cL_isWell 92 = .ok (.iload 8, 2) := by decide +kernel
theorem dL_isWell_94 : decode cL_isWell 94 = .ok (.invokestatic 108, 3) := by decide +kernel
theorem dL_isWell_97 : decode cL_isWell 97 = .ok (.iconst 2, 1) := by decide +kernel
theorem dL_isWell_98 : decode cL_isWell 98 = .ok (.if_icmp .ge 7, 3) := by decide +kernel
theorem dL_isWell_101 : decode cL_isWell 101 = .ok (.iconst 1, 1) := by decide +kernel
theorem dL_isWell_102 : decode cL_isWell 102 = .ok (.goto 4, 3) := by decide +kernel
theorem dL_isWell_105 : decode cL_isWell 105 = .ok (.iconst 0, 1) := by decide +kernel
theorem dL_isWell_106 : decode cL_isWell 106 = .ok (.iadd, 1) := by decide +kernel
theorem dL_isWell_107 : decode cL_isWell 107 = .ok (.iastore, 1) := by decide +kernel
theorem dL_isWell_108 : decode cL_isWell 108 = .ok (.iload_n 1, 1) := by decide +kernel
theorem dL_isWell_109 : decode cL_isWell 109 = .ok (.aload_n 0, 1) := by decide +kernel
theorem dL_isWell_110 : decode cL_isWell 110 = .ok (.iload 8, 2) := by decide +kernel
theorem dL_isWell_112 : decode cL_isWell 112 = .ok (.bipush 8, 2) := by decide +kernel
theorem dL_isWell_114 : decode cL_isWell 114 = .ok (.invokevirtual 120, 3) := by decide +kernel
theorem dL_isWell_117 : decode cL_isWell 117 = .ok (.iadd, 1) := by decide +kernel
theorem dL_isWell_118 : decode cL_isWell 118 = .ok (.istore_n 1, 1) := by decide +kernel
theorem dL_isWell_119 : decode cL_isWell 119 = .ok (.iload_n 2, 1) := by decide +kernel
theorem dL_isWell_120 : decode cL_isWell 120 = .ok (.aload_n 0, 1) := by decide +kernel
theorem dL_isWell_121 : decode cL_isWell 121 = .ok (.iload 8, 2) := by decide +kernel
theorem dL_isWell_123 : decode cL_isWell 123 = .ok (.bipush 7, 2) := by decide +kernel
theorem dL_isWell_125 : decode cL_isWell 125 = .ok (.invokevirtual 120, 3) := by decide +kernel
theorem dL_isWell_128 : decode cL_isWell 128 = .ok (.iadd, 1) := by decide +kernel
theorem dL_isWell_129 : decode cL_isWell 129 = .ok (.istore_n 2, 1) := by decide +kernel
theorem dL_isWell_130 : decode cL_isWell 130 = .ok (.iload_n 3, 1) := by decide +kernel
theorem dL_isWell_131 : decode cL_isWell 131 = .ok (.aload_n 0, 1) := by decide +kernel
theorem dL_isWell_132 : decode cL_isWell 132 = .ok (.iload 8, 2) := by decide +kernel
theorem dL_isWell_134 : decode cL_isWell 134 = .ok (.bipush 6, 2) := by decide +kernel
theorem dL_isWell_136 : decode cL_isWell 136 = .ok (.invokevirtual 120, 3) := by decide +kernel
theorem dL_isWell_139 : decode cL_isWell 139 = .ok (.iadd, 1) := by decide +kernel
theorem dL_isWell_140 : decode cL_isWell 140 = .ok (.istore_n 3, 1) := by decide +kernel
theorem dL_isWell_141 : decode cL_isWell 141 = .ok (.iload 9, 2) := by decide +kernel
theorem dL_isWell_143 : decode cL_isWell 143 = .ok (.ifCond .lt 14, 3) := by decide +kernel
theorem dL_isWell_146 : decode cL_isWell 146 = .ok (.aload_n 0, 1) := by decide +kernel
theorem dL_isWell_147 : decode cL_isWell 147 = .ok (.iload 9, 2) := by decide +kernel
theorem dL_isWell_149 : decode cL_isWell 149 = .ok (.invokevirtual 172, 3) := by decide +kernel
theorem dL_isWell_152 : decode cL_isWell 152 = .ok (.iload 8, 2) := by decide +kernel
theorem dL_isWell_154 : decode cL_isWell 154 = .ok (.if_icmp .ne 41, 3) := by decide +kernel
theorem dL_isWell_157 : decode cL_isWell 157 = .ok (.aload_n 0, 1) := by decide +kernel
theorem dL_isWell_158 : decode cL_isWell 158 = .ok (.iload 8, 2) := by decide +kernel
theorem dL_isWell_160 : decode cL_isWell 160 = .ok (.iconst 3, 1) := by decide +kernel
theorem dL_isWell_161 : decode cL_isWell 161 = .ok (.invokevirtual 120, 3) := by decide +kernel
theorem dL_isWell_164 : decode cL_isWell 164 = .ok (.ifCond .lt 31, 3) := by decide +kernel
theorem dL_isWell_167 : decode cL_isWell 167 = .ok (.aload_n 0, 1) := by decide +kernel
theorem dL_isWell_168 : decode cL_isWell 168 = .ok (.iload 8, 2) := by decide +kernel
theorem dL_isWell_170 : decode cL_isWell 170 = .ok (.iconst 3, 1) := by decide +kernel
theorem dL_isWell_171 : decode cL_isWell 171 = .ok (.invokevirtual 120, 3) := by decide +kernel
theorem dL_isWell_174 : decode cL_isWell 174 = .ok (.bipush 20, 2) := by decide +kernel
theorem dL_isWell_176 : decode cL_isWell 176 = .ok (.if_icmp .gt 19, 3) := by decide +kernel
theorem dL_isWell_179 : decode cL_isWell 179 = .ok (.aload_n 0, 1) := by decide +kernel
theorem dL_isWell_180 : decode cL_isWell 180 = .ok (.iload 8, 2) := by decide +kernel
theorem dL_isWell_182 : decode cL_isWell 182 = .ok (.iconst 5, 1) := by decide +kernel
theorem dL_isWell_183 : decode cL_isWell 183 = .ok (.invokevirtual 120, 3) := by decide +kernel
theorem dL_isWell_186 : decode cL_isWell 186 = .ok (.iconst 1, 1) := by decide +kernel
theorem dL_isWell_187 : decode cL_isWell 187 = .ok (.if_icmp .ne 10, 3) := by decide +kernel
theorem dL_isWell_190 : decode cL_isWell 190 = .ok (.iload 9, 2) := by decide +kernel
theorem dL_isWell_192 : decode cL_isWell 192 = .ok (.ifCond .ge 5, 3) := by decide +kernel
theorem dL_isWell_195 : decode cL_isWell 195 = .ok (.iconst 0, 1) := by decide +kernel
theorem dL_isWell_196 : decode cL_isWell 196 = .ok (.ireturn, 1) := by decide +kernel
theorem dL_isWell_197 : decode cL_isWell 197 = .ok (.iconst 0, 1) := by decide +kernel
theorem dL_isWell_198 : decode cL_isWell 198 = .ok (.istore 11, 2) := by decide +kernel
theorem dL_isWell_200 : decode cL_isWell 200 = .ok (.iconst 0, 1) := by decide +kernel
theorem dL_isWell_201 : decode cL_isWell 201 = .ok (.istore 12, 2) := by decide +kernel
theorem dL_isWell_203 : decode cL_isWell 203 = .ok (.iload 12, 2) := by decide +kernel
theorem dL_isWell_205 : decode cL_isWell 205 = .ok (.aload_n 0, 1) := by decide +kernel
theorem dL_isWell_206 : decode cL_isWell 206 = .ok (.iconst 0, 1) := by decide +kernel
theorem dL_isWell_207 : decode cL_isWell 207 = .ok (.invokevirtual 105, 3) := by decide +kernel
theorem dL_isWell_210 : decode cL_isWell 210 = .ok (.if_icmp .ge 52, 3) := by decide +kernel
theorem dL_isWell_213 : decode cL_isWell 213 = .ok (.iload 11, 2) := by decide +kernel
theorem dL_isWell_215 : decode cL_isWell 215 = .ok (.aload_n 0, 1) := by decide +kernel
theorem dL_isWell_216 : decode cL_isWell 216 = .ok (.iload 12, 2) := by decide +kernel
theorem dL_isWell_218 : decode cL_isWell 218 = .ok (.iconst 0, 1) := by decide +kernel
theorem dL_isWell_219 : decode cL_isWell 219 = .ok (.invokevirtual 120, 3) := by decide +kernel
theorem dL_isWell_222 : decode cL_isWell 222 = .ok (.iload 10, 2) := by decide +kernel
theorem dL_isWell_224 : decode cL_isWell 224 = .ok (.if_icmp .eq 28, 3) := by decide +kernel
theorem dL_isWell_227 : decode cL_isWell 227 = .ok (.aload_n 0, 1) := by decide +kernel
theorem dL_isWell_228 : decode cL_isWell 228 = .ok (.iload 12, 2) := by decide +kernel
theorem dL_isWell_230 : decode cL_isWell 230 = .ok (.iconst 5, 1) := by decide +kernel
theorem dL_isWell_231 : decode cL_isWell 231 = .ok (.invokevirtual 120, 3) := by decide +kernel
theorem dL_isWell_234 : decode cL_isWell 234 = .ok (.iconst 1, 1) := by decide +kernel
theorem dL_isWell_235 : decode cL_isWell 235 = .ok (.if_icmp .ne 17, 3) := by decide +kernel
theorem dL_isWell_238 : decode cL_isWell 238 = .ok (.aload_n 0, 1) := by decide +kernel
theorem dL_isWell_239 : decode cL_isWell 239 = .ok (.iload 12, 2) := by decide +kernel
theorem dL_isWell_241 : decode cL_isWell 241 = .ok (.invokestatic 108, 3) := by decide +kernel
theorem dL_isWell_244 : decode cL_isWell 244 = .ok (.iconst 2, 1) := by decide +kernel
theorem dL_isWell_245 : decode cL_isWell 245 = .ok (.if_icmp .ge 7, 3) := by decide +kernel
theorem dL_isWell_248 : decode cL_isWell 248 = .ok (.iconst 1, 1) := by decide +kernel
theorem dL_isWell_249 : decode cL_isWell 249 = .ok (.goto 4, 3) := by decide +kernel
theorem dL_isWell_252 : decode cL_isWell 252 = .ok (.iconst 0, 1) := by decide +kernel
theorem dL_isWell_253 : decode cL_isWell 253 = .ok (.ior, 1) := by decide +kernel
theorem dL_isWell_254 : decode cL_isWell 254 = .ok (.istore 11, 2) := by decide +kernel
theorem dL_isWell_256 : decode cL_isWell 256 = .ok (.iinc 12 1, 3) := by decide +kernel
theorem dL_isWell_259 : decode cL_isWell 259 = .ok (.goto (-56), 3) := by decide +kernel
theorem dL_isWell_262 : decode cL_isWell 262 = .ok (.aload_n 0, 1) := by decide +kernel
theorem dL_isWell_263 : decode cL_isWell 263 = .ok (.iload 8, 2) := by decide +kernel
theorem dL_isWell_265 : decode cL_isWell 265 = .ok (.invokevirtual 175, 3) := by decide +kernel
theorem dL_isWell_268 : decode cL_isWell 268 = .ok (.iload 11, 2) := by decide +kernel
theorem dL_isWell_270 : decode cL_isWell 270 = .ok (.ifCond .eq 20, 3) := by decide +kernel
theorem dL_isWell_273 : decode cL_isWell 273 = .ok (.aload_n 0, 1) := by decide +kernel
theorem dL_isWell_274 : decode cL_isWell 274 = .ok (.bipush 6, 2) := by decide +kernel
theorem dL_isWell_276 : decode cL_isWell 276 = .ok (.invokevirtual 105, 3) := by decide +kernel
theorem dL_isWell_279 : decode cL_isWell 279 = .ok (.iconst 1, 1) := by decide +kernel
theorem dL_isWell_280 : decode cL_isWell 280 = .ok (.iload 10, 2) := by decide +kernel
theorem dL_isWell_282 : decode cL_isWell 282 = .ok (.isub, 1) := by decide +kernel
theorem dL_isWell_283 : decode cL_isWell 283 = .ok (.if_icmp .ne 7, 3) := by decide +kernel
theorem dL_isWell_286 : decode cL_isWell 286 = .ok (.iconst 1, 1) := by decide +kernel
theorem dL_isWell_287 : decode cL_isWell 287 = .ok (.goto 4, 3) := by decide +kernel
theorem dL_isWell_290 : decode cL_isWell 290 = .ok (.iconst 0, 1) := by decide +kernel
theorem dL_isWell_291 : decode cL_isWell 291 = .ok (.if_icmp .eq 5, 3) := by decide +kernel
theorem dL_isWell_294 : decode cL_isWell 294 = .ok (.iconst 0, 1) := by decide +kernel
theorem dL_isWell_295 : decode cL_isWell 295 = .ok (.ireturn, 1) := by decide +kernel
theorem dL_isWell_296 : decode cL_isWell 296 = .ok (.iinc 8 1, 3) := by decide +kernel
theorem dL_isWell_299 : decode cL_isWell 299 = .ok (.goto (-260), 3) := by decide +kernel
theorem dL_isWell_302 : decode cL_isWell 302 = .ok (.iconst 0, 1) := by decide +kernel
theorem dL_isWell_303 : decode cL_isWell 303 = .ok (.istore 8, 2) := by decide +kernel
theorem dL_isWell_305 : decode cL_isWell 305 = .ok (.iload 8, 2) := by decide +kernel
theorem dL_isWell_307 : decode cL_isWell 307 = .ok (.bipush 45, 2) := by decide +kernel
theorem dL_isWell_309 : decode cL_isWell 309 = .ok (.if_icmp .ge 45, 3) := by decide +kernel
theorem dL_isWell_312 : decode cL_isWell 312 = .ok (.aload_n 0, 1) := by decide +kernel
theorem dL_isWell_313 : decode cL_isWell 313 = .ok (.iload 8, 2) := by decide +kernel
theorem dL_isWell_315 : decode cL_isWell 315 = .ok (.invokevirtual 179, 3) := by decide +kernel
theorem dL_isWell_318 : decode cL_isWell 318 = .ok (.iload 7, 2) := by decide +kernel
theorem dL_isWell_320 : decode cL_isWell 320 = .ok (.iconst 3, 1) := by decide +kernel
theorem dL_isWell_321 : decode cL_isWell 321 = .ok (.if_icmp .ge 21, 3) := by decide +kernel
theorem dL_isWell_324 : decode cL_isWell 324 = .ok (.iload 8, 2) := by decide +kernel
theorem dL_isWell_326 : decode cL_isWell 326 = .ok (.bipush 9, 2) := by decide +kernel
theorem dL_isWell_328 : decode cL_isWell 328 = .ok (.if_icmp .lt 10, 3) := by decide +kernel
theorem dL_isWell_331 : decode cL_isWell 331 = .ok (.iload 8, 2) := by decide +kernel
theorem dL_isWell_333 : decode cL_isWell 333 = .ok (.bipush 35, 2) := by decide +kernel
theorem dL_isWell_335 : decode cL_isWell 335 = .ok (.if_icmp .le 7, 3) := by decide +kernel
theorem dL_isWell_338 : decode cL_isWell 338 = .ok (.iconst 1, 1) := by decide +kernel
theorem dL_isWell_339 : decode cL_isWell 339 = .ok (.goto 4, 3) := by decide +kernel
theorem dL_isWell_342 : decode cL_isWell 342 = .ok (.iconst 0, 1) := by decide +kernel
theorem dL_isWell_343 : decode cL_isWell 343 = .ok (.if_icmp .eq 5, 3) := by decide +kernel
theorem dL_isWell_346 : decode cL_isWell 346 = .ok (.iconst 0, 1) := by decide +kernel
theorem dL_isWell_347 : decode cL_isWell 347 = .ok (.ireturn, 1) := by decide +kernel
theorem dL_isWell_348 : decode cL_isWell 348 = .ok (.iinc 8 1, 3) := by decide +kernel
theorem dL_isWell_351 : decode cL_isWell 351 = .ok (.goto (-46), 3) := by decide +kernel
theorem dL_isWell_354 : decode cL_isWell 354 = .ok (.aload_n 0, 1) := by decide +kernel
theorem dL_isWell_355 : decode cL_isWell 355 = .ok (.iconst 3, 1) := by decide +kernel
theorem dL_isWell_356 : decode cL_isWell 356 = .ok (.invokevirtual 105, 3) := by decide +kernel
theorem dL_isWell_359 : decode cL_isWell 359 = .ok (.aload_n 0, 1) := by decide +kernel
theorem dL_isWell_360 : decode cL_isWell 360 = .ok (.iconst 4, 1) := by decide +kernel
theorem dL_isWell_361 : decode cL_isWell 361 = .ok (.invokevirtual 105, 3) := by decide +kernel
theorem dL_isWell_364 : decode cL_isWell 364 = .ok (.isub, 1) := by decide +kernel
theorem dL_isWell_365 : decode cL_isWell 365 = .ok (.istore 8, 2) := by decide +kernel
theorem dL_isWell_367 : decode cL_isWell 367 = .ok (.iload_n 1, 1) := by decide +kernel
theorem dL_isWell_368 : decode cL_isWell 368 = .ok (.aload_n 0, 1) := by decide +kernel
theorem dL_isWell_369 : decode cL_isWell 369 = .ok (.bipush 7, 2) := by decide +kernel
theorem dL_isWell_371 : decode cL_isWell 371 = .ok (.invokevirtual 105, 3) := by decide +kernel
theorem dL_isWell_374 : decode cL_isWell 374 = .ok (.if_icmp .ne 170, 3) := by decide +kernel
theorem dL_isWell_377 : decode cL_isWell 377 = .ok (.iload_n 2, 1) := by decide +kernel
theorem dL_isWell_378 : decode cL_isWell 378 = .ok (.aload_n 0, 1) := by decide +kernel
theorem dL_isWell_379 : decode cL_isWell 379 = .ok (.bipush 8, 2) := by decide +kernel
theorem dL_isWell_381 : decode cL_isWell 381 = .ok (.invokevirtual 105, 3) := by decide +kernel
theorem dL_isWell_384 : decode cL_isWell 384 = .ok (.if_icmp .ne 160, 3) := by decide +kernel
theorem dL_isWell_387 : decode cL_isWell 387 = .ok (.iload_n 3, 1) := by decide +kernel
theorem dL_isWell_388 : decode cL_isWell 388 = .ok (.aload_n 0, 1) := by decide +kernel
theorem dL_isWell_389 : decode cL_isWell 389 = .ok (.iconst 3, 1) := by decide +kernel
theorem dL_isWell_390 : decode cL_isWell 390 = .ok (.invokevirtual 105, 3) := by decide +kernel
theorem dL_isWell_393 : decode cL_isWell 393 = .ok (.aload_n 0, 1) := by decide +kernel
theorem dL_isWell_394 : decode cL_isWell 394 = .ok (.iconst 4, 1) := by decide +kernel
theorem dL_isWell_395 : decode cL_isWell 395 = .ok (.invokevirtual 105, 3) := by decide +kernel
theorem dL_isWell_398 : decode cL_isWell 398 = .ok (.iadd, 1) := by decide +kernel
theorem dL_isWell_399 : decode cL_isWell 399 = .ok (.if_icmp .gt 145, 3) := by decide +kernel
theorem dL_isWell_402 : decode cL_isWell 402 = .ok (.aload 4, 2) := by decide +kernel
theorem dL_isWell_404 : decode cL_isWell 404 = .ok (.iconst 0, 1) := by decide +kernel
theorem dL_isWell_405 : decode cL_isWell 405 = .ok (.iaload, 1) := by decide +kernel
theorem dL_isWell_406 : decode cL_isWell 406 = .ok (.iconst 3, 1) := by decide +kernel
theorem dL_isWell_407 : decode cL_isWell 407 = .ok (.if_icmp .gt 137, 3) := by decide +kernel
theorem dL_isWell_410 : decode cL_isWell 410 = .ok (.aload 4, 2) := by decide +kernel
theorem dL_isWell_412 : decode cL_isWell 412 = .ok (.iconst 1, 1) := by decide +kernel
theorem dL_isWell_413 : decode cL_isWell 413 = .ok (.iaload, 1) := by decide +kernel
theorem dL_isWell_414 : decode cL_isWell 414 = .ok (.iconst 3, 1) := by decide +kernel
theorem dL_isWell_415 : decode cL_isWell 415 = .ok (.if_icmp .gt 129, 3) := by decide +kernel
theorem dL_isWell_418 : decode cL_isWell 418 = .ok (.aload 4, 2) := by decide +kernel
theorem dL_isWell_420 : decode cL_isWell 420 = .ok (.iconst 0, 1) := by decide +kernel
theorem dL_isWell_421 : decode cL_isWell 421 = .ok (.iaload, 1) := by decide +kernel
theorem dL_isWell_422 : decode cL_isWell 422 = .ok (.aload 4, 2) := by decide +kernel
theorem dL_isWell_424 : decode cL_isWell 424 = .ok (.iconst 1, 1) := by decide +kernel
theorem dL_isWell_425 : decode cL_isWell 425 = .ok (.iaload, 1) := by decide +kernel
theorem dL_isWell_426 : decode cL_isWell 426 = .ok (.iadd, 1) := by decide +kernel
theorem dL_isWell_427 : decode cL_isWell 427 = .ok (.aload_n 0, 1) := by decide +kernel
theorem dL_isWell_428 : decode cL_isWell 428 = .ok (.bipush 10, 2) := by decide +kernel
theorem dL_isWell_430 : decode cL_isWell 430 = .ok (.invokevirtual 105, 3) := by decide +kernel
theorem dL_isWell_433 : decode cL_isWell 433 = .ok (.if_icmp .ne 111, 3) := by decide +kernel
theorem dL_isWell_436 : decode cL_isWell 436 = .ok (.aload 5, 2) := by decide +kernel
theorem dL_isWell_438 : decode cL_isWell 438 = .ok (.iconst 0, 1) := by decide +kernel
theorem dL_isWell_439 : decode cL_isWell 439 = .ok (.iaload, 1) := by decide +kernel
theorem dL_isWell_440 : decode cL_isWell 440 = .ok (.aload_n 0, 1) := by decide +kernel
theorem dL_isWell_441 : decode cL_isWell 441 = .ok (.iconst 0, 1) := by decide +kernel
theorem dL_isWell_442 : decode cL_isWell 442 = .ok (.invokevirtual 182, 3) := by decide +kernel
theorem dL_isWell_445 : decode cL_isWell 445 = .ok (.if_icmp .ne 99, 3) := by decide +kernel
theorem dL_isWell_448 : decode cL_isWell 448 = .ok (.aload 5, 2) := by decide +kernel
theorem dL_isWell_450 : decode cL_isWell 450 = .ok (.iconst 1, 1) := by decide +kernel
theorem dL_isWell_451 : decode cL_isWell 451 = .ok (.iaload, 1) := by decide +kernel
theorem dL_isWell_452 : decode cL_isWell 452 = .ok (.aload_n 0, 1) := by decide +kernel
theorem dL_isWell_453 : decode cL_isWell 453 = .ok (.iconst 1, 1) := by decide +kernel
theorem dL_isWell_454 : decode cL_isWell 454 = .ok (.invokevirtual 182, 3) := by decide +kernel
theorem dL_isWell_457 : decode cL_isWell 457 = .ok (.if_icmp .ne 87, 3) := by decide +kernel
theorem dL_isWell_460 : decode cL_isWell 460 = .ok (.aload_n 0, 1) := by decide +kernel
theorem dL_isWell_461 : decode cL_isWell 461 = .ok (.iload 6, 2) := by decide +kernel
theorem dL_isWell_463 : decode cL_isWell 463 = .ok (.invokevirtual 185, 3) := by decide +kernel
theorem dL_isWell_466 : decode cL_isWell 466 = .ok (.iload 7, 2) := by decide +kernel
theorem dL_isWell_468 : decode cL_isWell 468 = .ok (.if_icmp .ne 76, 3) := by decide +kernel
theorem dL_isWell_471 : decode cL_isWell 471 = .ok (.aload_n 0, 1) := by decide +kernel
theorem dL_isWell_472 : decode cL_isWell 472 = .ok (.iload 6, 2) := by decide +kernel
theorem dL_isWell_474 : decode cL_isWell 474 = .ok (.invokevirtual 188, 3) := by decide +kernel
theorem dL_isWell_477 : decode cL_isWell 477 = .ok (.iload 7, 2) := by decide +kernel
theorem dL_isWell_479 : decode cL_isWell 479 = .ok (.if_icmp .ne 65, 3) := by decide +kernel
theorem dL_isWell_482 : decode cL_isWell 482 = .ok (.iload 6, 2) := by decide +kernel
theorem dL_isWell_484 : decode cL_isWell 484 = .ok (.bipush 48, 2) := by decide +kernel
theorem dL_isWell_486 : decode cL_isWell 486 = .ok (.if_icmp .gt 58, 3) := by decide +kernel
theorem dL_isWell_489 : decode cL_isWell 489 = .ok (.aload_n 0, 1) := by decide +kernel
theorem dL_isWell_490 : decode cL_isWell 490 = .ok (.iconst 5, 1) := by decide +kernel
theorem dL_isWell_491 : decode cL_isWell 491 = .ok (.invokevirtual 105, 3) := by decide +kernel
theorem dL_isWell_494 : decode cL_isWell 494 = .ok (.ifCond .lt 50, 3) := by decide +kernel
theorem dL_isWell_497 : decode cL_isWell 497 = .ok (.aload_n 0, 1) := by decide +kernel
theorem dL_isWell_498 : decode cL_isWell 498 = .ok (.iconst 5, 1) := by decide +kernel
theorem dL_isWell_499 : decode cL_isWell 499 = .ok (.invokevirtual 105, 3) := by decide +kernel
theorem dL_isWell_502 : decode cL_isWell 502 = .ok (.bipush 45, 2) := by decide +kernel
theorem dL_isWell_504 : decode cL_isWell 504 = .ok (.if_icmp .ge 40, 3) := by decide +kernel
theorem dL_isWell_507 : decode cL_isWell 507 = .ok (.aload_n 0, 1) := by decide +kernel
theorem dL_isWell_508 : decode cL_isWell 508 = .ok (.invokevirtual 191, 3) := by decide +kernel
theorem dL_isWell_511 : decode cL_isWell 511 = .ok (.iload 8, 2) := by decide +kernel
theorem dL_isWell_513 : decode cL_isWell 513 = .ok (.ifCond .ne 7, 3) := by decide +kernel
theorem dL_isWell_516 : decode cL_isWell 516 = .ok (.iconst (-1), 1) := by decide +kernel
theorem dL_isWell_517 : decode cL_isWell 517 = .ok (.goto 13, 3) := by decide +kernel
theorem dL_isWell_520 : decode cL_isWell 520 = .ok (.iload 8, 2) := by decide +kernel
theorem dL_isWell_522 : decode cL_isWell 522 = .ok (.ifCond .le 7, 3) := by decide +kernel
theorem dL_isWell_525 : decode cL_isWell 525 = .ok (.iconst 0, 1) := by decide +kernel
theorem dL_isWell_526 : decode cL_isWell 526 = .ok (.goto 4, 3) := by decide +kernel
theorem dL_isWell_529 : decode cL_isWell 529 = .ok (.iconst 1, 1) := by decide +kernel
theorem dL_isWell_530 : decode cL_isWell 530 = .ok (.if_icmp .ne 14, 3) := by decide +kernel
theorem dL_isWell_533 : decode cL_isWell 533 = .ok (.aload_n 0, 1) := by decide +kernel
theorem dL_isWell_534 : decode cL_isWell 534 = .ok (.invokevirtual 194, 3) := by decide +kernel
theorem dL_isWell_537 : decode cL_isWell 537 = .ok (.ifCond .eq 7, 3) := by decide +kernel
theorem dL_isWell_540 : decode cL_isWell 540 = .ok (.iconst 1, 1) := by decide +kernel
theorem dL_isWell_541 : decode cL_isWell 541 = .ok (.goto 4, 3) := by decide +kernel
theorem dL_isWell_544 : decode cL_isWell 544 = .ok (.iconst 0, 1) := by decide +kernel
theorem dL_isWell_545 : decode cL_isWell 545 = .ok (.ireturn, 1) := by decide +kernel
theorem dL_law_0 : decode cL_law 0 = .ok (.aload_n 0, 1) := by decide +kernel
theorem dL_law_1 : decode cL_law 1 = .ok (.invokestatic 198, 3) := by decide +kernel
theorem dL_law_4 : decode cL_law 4 = .ok (.astore_n 1, 1) := by decide +kernel
theorem dL_law_5 : decode cL_law 5 = .ok (.aload_n 1, 1) := by decide +kernel
theorem dL_law_6 : decode cL_law 6 = .ok (.ifnull 10, 3) := by decide +kernel
theorem dL_law_9 : decode cL_law 9 = .ok (.aload_n 1, 1) := by decide +kernel
theorem dL_law_10 : decode cL_law 10 = .ok (.invokestatic 202, 3) := by decide +kernel
theorem dL_law_13 : decode cL_law 13 = .ok (.ifCond .ne 5, 3) := by decide +kernel
theorem dL_law_16 : decode cL_law 16 = .ok (.iconst 0, 1) := by decide +kernel
theorem dL_law_17 : decode cL_law 17 = .ok (.ireturn, 1) := by decide +kernel
theorem dL_law_18 : decode cL_law 18 = .ok (.iconst 0, 1) := by decide +kernel
theorem dL_law_19 : decode cL_law 19 = .ok (.istore_n 2, 1) := by decide +kernel
theorem dL_law_20 : decode cL_law 20 = .ok (.iload_n 2, 1) := by decide +kernel
theorem dL_law_21 : decode cL_law 21 = .ok (.bipush 9, 2) := by decide +kernel
theorem dL_law_23 : decode cL_law 23 = .ok (.if_icmp .ge 109, 3) := by decide +kernel
theorem dL_law_26 : decode cL_law 26 = .ok (.aload_n 1, 1) := by decide +kernel
theorem dL_law_27 : decode cL_law 27 = .ok (.invokestatic 206, 3) := by decide +kernel
theorem dL_law_30 : decode cL_law 30 = .ok (.astore_n 3, 1) := by decide +kernel
theorem dL_law_31 : decode cL_law 31 = .ok (.aload_n 1, 1) := by decide +kernel
theorem dL_law_32 : decode cL_law 32 = .ok (.aload_n 0, 1) := by decide +kernel
theorem dL_law_33 : decode cL_law 33 = .ok (.bipush 23, 2) := by decide +kernel
theorem dL_law_35 : decode cL_law 35 = .ok (.iconst 4, 1) := by decide +kernel
theorem dL_law_36 : decode cL_law 36 = .ok (.iload_n 2, 1) := by decide +kernel
theorem dL_law_37 : decode cL_law 37 = .ok (.imul, 1) := by decide +kernel
theorem dL_law_38 : decode cL_law 38 = .ok (.iadd, 1) := by decide +kernel
theorem dL_law_39 : decode cL_law 39 = .ok (.invokestatic 210, 3) := by decide +kernel
theorem dL_law_42 : decode cL_law 42 = .ok (.istore 4, 2) := by decide +kernel
theorem dL_law_44 : decode cL_law 44 = .ok (.aload_n 1, 1) := by decide +kernel
theorem dL_law_45 : decode cL_law 45 = .ok (.invokestatic 202, 3) := by decide +kernel
theorem dL_law_48 : decode cL_law 48 = .ok (.ifCond .eq 37, 3) := by decide +kernel
theorem dL_law_51 : decode cL_law 51 = .ok (.aload_n 1, 1) := by decide +kernel
theorem dL_law_52 : decode cL_law 52 = .ok (.bipush 12, 2) := by decide +kernel
theorem dL_law_54 : decode cL_law 54 = .ok (.invokevirtual 105, 3) := by decide +kernel
theorem dL_law_57 : decode cL_law 57 = .ok (.ifCond .ne 28, 3) := by decide +kernel
theorem dL_law_60 : decode cL_law 60 = .ok (.iload 4, 2) := by decide +kernel
theorem dL_law_62 : decode cL_law 62 = .ok (.ldc 87, 2) := by decide +kernel
theorem dL_law_64 : decode cL_law 64 = .ok (.if_icmp .eq 21, 3) := by decide +kernel
theorem dL_law_67 : decode cL_law 67 = .ok (.iload 4, 2) := by decide +kernel
theorem dL_law_69 : decode cL_law 69 = .ok (.ldc 214, 2) := by decide +kernel
theorem dL_law_71 : decode cL_law 71 = .ok (.if_icmp .gt 16, 3) := by decide +kernel
theorem dL_law_74 : decode cL_law 74 = .ok (.aload_n 3, 1) := by decide +kernel
theorem dL_law_75 : decode cL_law 75 = .ok (.aload_n 1, 1) := by decide +kernel
theorem dL_law_76 : decode cL_law 76 = .ok (.invokestatic 206, 3) := by decide +kernel
theorem dL_law_79 : decode cL_law 79 = .ok (.invokestatic 215, 3) := by decide +kernel
theorem dL_law_82 : decode cL_law 82 = .ok (.ifCond .ne 5, 3) := by decide +kernel
theorem dL_law_85 : decode cL_law 85 = .ok (.iconst 0, 1) := by decide +kernel
theorem dL_law_86 : decode cL_law 86 = .ok (.ireturn, 1) := by decide +kernel
theorem dL_law_87 : decode cL_law 87 = .ok (.iload 4, 2) := by decide +kernel
theorem dL_law_89 : decode cL_law 89 = .ok (.ldc 214, 2) := by decide +kernel
theorem dL_law_91 : decode cL_law 91 = .ok (.if_icmp .le 35, 3) := by decide +kernel
theorem dL_law_94 : decode cL_law 94 = .ok (.aload_n 0, 1) := by decide +kernel
theorem dL_law_95 : decode cL_law 95 = .ok (.bipush 60, 2) := by decide +kernel
theorem dL_law_97 : decode cL_law 97 = .ok (.iload_n 2, 1) := by decide +kernel
theorem dL_law_98 : decode cL_law 98 = .ok (.iadd, 1) := by decide +kernel
theorem dL_law_99 : decode cL_law 99 = .ok (.iconst 5, 1) := by decide +kernel
theorem dL_law_100 : decode cL_law 100 = .ok (.invokestatic 92, 3) := by decide +kernel
theorem dL_law_103 : decode cL_law 103 = .ok (.ifCond .ne 23, 3) := by decide +kernel
theorem dL_law_106 : decode cL_law 106 = .ok (.aload_n 1, 1) := by decide +kernel
theorem dL_law_107 : decode cL_law 107 = .ok (.invokestatic 219, 3) := by decide +kernel
theorem dL_law_110 : decode cL_law 110 = .ok (.ifCond .lt 14, 3) := by decide +kernel
theorem dL_law_113 : decode cL_law 113 = .ok (.aload_n 3, 1) := by decide +kernel
theorem dL_law_114 : decode cL_law 114 = .ok (.aload_n 1, 1) := by decide +kernel
theorem dL_law_115 : decode cL_law 115 = .ok (.invokestatic 206, 3) := by decide +kernel
theorem dL_law_118 : decode cL_law 118 = .ok (.invokestatic 215, 3) := by decide +kernel
theorem dL_law_121 : decode cL_law 121 = .ok (.ifCond .ne 5, 3) := by decide +kernel
theorem dL_law_124 : decode cL_law 124 = .ok (.iconst 0, 1) := by decide +kernel
theorem dL_law_125 : decode cL_law 125 = .ok (.ireturn, 1) := by decide +kernel
theorem dL_law_126 : decode cL_law 126 = .ok (.iinc 2 1, 3) := by decide +kernel
theorem dL_law_129 : decode cL_law 129 = .ok (.goto (-109), 3) := by decide +kernel
theorem dL_law_132 : decode cL_law 132 = .ok (.aload_n 1, 1) := by decide +kernel
theorem dL_law_133 : decode cL_law 133 = .ok (.invokestatic 206, 3) := by decide +kernel
theorem dL_law_136 : decode cL_law 136 = .ok (.astore_n 2, 1) := by decide +kernel
theorem dL_law_137 : decode cL_law 137 = .ok (.aload_n 1, 1) := by decide +kernel
theorem dL_law_138 : decode cL_law 138 = .ok (.invokevirtual 221, 3) := by decide +kernel
theorem dL_law_141 : decode cL_law 141 = .ok (.istore_n 3, 1) := by decide +kernel
theorem dL_law_142 : decode cL_law 142 = .ok (.aload_n 1, 1) := by decide +kernel
theorem dL_law_143 : decode cL_law 143 = .ok (.iconst 0, 1) := by decide +kernel
theorem dL_law_144 : decode cL_law 144 = .ok (.invokestatic 224, 3) := by decide +kernel
theorem dL_law_147 : decode cL_law 147 = .ok (.aload_n 1, 1) := by decide +kernel
theorem dL_law_148 : decode cL_law 148 = .ok (.iconst 0, 1) := by decide +kernel
theorem dL_law_149 : decode cL_law 149 = .ok (.iconst 0, 1) := by decide +kernel
theorem dL_law_150 : decode cL_law 150 = .ok (.invokestatic 226, 3) := by decide +kernel
theorem dL_law_153 : decode cL_law 153 = .ok (.iadd, 1) := by decide +kernel
theorem dL_law_154 : decode cL_law 154 = .ok (.aload_n 1, 1) := by decide +kernel
theorem dL_law_155 : decode cL_law 155 = .ok (.iconst 0, 1) := by decide +kernel
theorem dL_law_156 : decode cL_law 156 = .ok (.invokestatic 228, 3) := by decide +kernel
theorem dL_law_159 : decode cL_law 159 = .ok (.iadd, 1) := by decide +kernel
theorem dL_law_160 : decode cL_law 160 = .ok (.aload_n 1, 1) := by decide +kernel
theorem dL_law_161 : decode cL_law 161 = .ok (.iconst 2, 1) := by decide +kernel
theorem dL_law_162 : decode cL_law 162 = .ok (.invokevirtual 230, 3) := by decide +kernel
theorem dL_law_165 : decode cL_law 165 = .ok (.iadd, 1) := by decide +kernel
theorem dL_law_166 : decode cL_law 166 = .ok (.aload_n 1, 1) := by decide +kernel
theorem dL_law_167 : decode cL_law 167 = .ok (.iconst 0, 1) := by decide +kernel
theorem dL_law_168 : decode cL_law 168 = .ok (.invokevirtual 233, 3) := by decide +kernel
theorem dL_law_171 : decode cL_law 171 = .ok (.iadd, 1) := by decide +kernel
theorem dL_law_172 : decode cL_law 172 = .ok (.aload_n 1, 1) := by decide +kernel
theorem dL_law_173 : decode cL_law 173 = .ok (.iconst 3, 1) := by decide +kernel
theorem dL_law_174 : decode cL_law 174 = .ok (.invokestatic 236, 3) := by decide +kernel
theorem dL_law_177 : decode cL_law 177 = .ok (.iadd, 1) := by decide +kernel
theorem dL_law_178 : decode cL_law 178 = .ok (.aload_n 1, 1) := by decide +kernel
theorem dL_law_179 : decode cL_law 179 = .ok (.iconst 1, 1) := by decide +kernel
theorem dL_law_180 : decode cL_law 180 = .ok (.invokevirtual 238, 3) := by decide +kernel
theorem dL_law_183 : decode cL_law 183 = .ok (.iadd, 1) := by decide +kernel
theorem dL_law_184 : decode cL_law 184 = .ok (.aload_n 1, 1) := by decide +kernel
theorem dL_law_185 : decode cL_law 185 = .ok (.iconst 0, 1) := by decide +kernel
theorem dL_law_186 : decode cL_law 186 = .ok (.iconst 1, 1) := by decide +kernel
theorem dL_law_187 : decode cL_law 187 = .ok (.iconst 3, 1) := by decide +kernel
theorem dL_law_188 : decode cL_law 188 = .ok (.invokevirtual 241, 3) := by decide +kernel
theorem dL_law_191 : decode cL_law 191 = .ok (.iadd, 1) := by decide +kernel
theorem dL_law_192 : decode cL_law 192 = .ok (.istore 4, 2) := by decide +kernel
theorem dL_law_194 : decode cL_law 194 = .ok (.aload_n 2, 1) := by decide +kernel
theorem dL_law_195 : decode cL_law 195 = .ok (.aload_n 1, 1) := by decide +kernel
theorem dL_law_196 : decode cL_law 196 = .ok (.invokestatic 206, 3) := by decide +kernel
theorem dL_law_199 : decode cL_law 199 = .ok (.invokestatic 215, 3) := by decide +kernel
theorem dL_law_202 : decode cL_law 202 = .ok (.ifCond .ne 5, 3) := by decide +kernel
theorem dL_law_205 : decode cL_law 205 = .ok (.iconst 0, 1) := by decide +kernel
theorem dL_law_206 : decode cL_law 206 = .ok (.ireturn, 1) := by decide +kernel
theorem dL_law_207 : decode cL_law 207 = .ok (.iload 4, 2) := by decide +kernel
theorem dL_law_209 : decode cL_law 209 = .ok (.aload_n 1, 1) := by decide +kernel
theorem dL_law_210 : decode cL_law 210 = .ok (.invokestatic 99, 3) := by decide +kernel
theorem dL_law_213 : decode cL_law 213 = .ok (.aload_n 1, 1) := by decide +kernel
theorem dL_law_214 : decode cL_law 214 = .ok (.iconst 0, 1) := by decide +kernel
theorem dL_law_215 : decode cL_law 215 = .ok (.bipush 23, 2) := by decide +kernel
theorem dL_law_217 : decode cL_law 217 = .ok (.invokestatic 101, 3) := by decide +kernel
theorem dL_law_220 : decode cL_law 220 = .ok (.iadd, 1) := by decide +kernel
theorem dL_law_221 : decode cL_law 221 = .ok (.aload_n 1, 1) := by decide +kernel
theorem dL_law_222 : decode cL_law 222 = .ok (.iconst 1, 1) := by decide +kernel
theorem dL_law_223 : decode cL_law 223 = .ok (.invokestatic 136, 3) := by decide +kernel
theorem dL_law_226 : decode cL_law 226 = .ok (.iadd, 1) := by decide +kernel
theorem dL_law_227 : decode cL_law 227 = .ok (.aload_n 1, 1) := by decide +kernel
theorem dL_law_228 : decode cL_law 228 = .ok (.iconst 0, 1) := by decide +kernel
theorem dL_law_229 : decode cL_law 229 = .ok (.bipush 6, 2) := by decide +kernel
theorem dL_law_231 : decode cL_law 231 = .ok (.invokestatic 126, 3) := by decide +kernel
theorem dL_law_234 : decode cL_law 234 = .ok (.iadd, 1) := by decide +kernel
theorem dL_law_235 : decode cL_law 235 = .ok (.aload_n 1, 1) := by decide +kernel
theorem dL_law_236 : decode cL_law 236 = .ok (.iconst 0, 1) := by decide +kernel
theorem dL_law_237 : decode cL_law 237 = .ok (.iconst 2, 1) := by decide +kernel
theorem dL_law_238 : decode cL_law 238 = .ok (.iconst 2, 1) := by decide +kernel
theorem dL_law_239 : decode cL_law 239 = .ok (.invokestatic 96, 3) := by decide +kernel
theorem dL_law_242 : decode cL_law 242 = .ok (.iadd, 1) := by decide +kernel
theorem dL_law_243 : decode cL_law 243 = .ok (.iadd, 1) := by decide +kernel
theorem dL_law_244 : decode cL_law 244 = .ok (.istore 4, 2) := by decide +kernel
theorem dL_law_246 : decode cL_law 246 = .ok (.aload_n 1, 1) := by decide +kernel
theorem dL_law_247 : decode cL_law 247 = .ok (.invokestatic 244, 3) := by decide +kernel
theorem dL_law_250 : decode cL_law 250 = .ok (.iload_n 3, 1) := by decide +kernel
theorem dL_law_251 : decode cL_law 251 = .ok (.if_icmp .ne 34, 3) := by decide +kernel
theorem dL_law_254 : decode cL_law 254 = .ok (.aload_n 2, 1) := by decide +kernel
theorem dL_law_255 : decode cL_law 255 = .ok (.aload_n 1, 1) := by decide +kernel
theorem dL_law_256 : decode cL_law 256 = .ok (.invokestatic 206, 3) := by decide +kernel
theorem dL_law_259 : decode cL_law 259 = .ok (.invokestatic 215, 3) := by decide +kernel
theorem dL_law_262 : decode cL_law 262 = .ok (.ifCond .eq 23, 3) := by decide +kernel
theorem dL_law_265 : decode cL_law 265 = .ok (.aload_n 1, 1) := by decide +kernel
theorem dL_law_266 : decode cL_law 266 = .ok (.bipush 13, 2) := by decide +kernel
theorem dL_law_268 : decode cL_law 268 = .ok (.invokevirtual 105, 3) := by decide +kernel
theorem dL_law_271 : decode cL_law 271 = .ok (.ifCond .ne 14, 3) := by decide +kernel
theorem dL_law_274 : decode cL_law 274 = .ok (.iload 4, 2) := by decide +kernel
theorem dL_law_276 : decode cL_law 276 = .ok (.ldc 104, 2) := by decide +kernel
theorem dL_law_278 : decode cL_law 278 = .ok (.if_icmp .le 7, 3) := by decide +kernel
theorem dL_law_281 : decode cL_law 281 = .ok (.iconst 1, 1) := by decide +kernel
theorem dL_law_282 : decode cL_law 282 = .ok (.goto 4, 3) := by decide +kernel
theorem dL_law_285 : decode cL_law 285 = .ok (.iconst 0, 1) := by decide +kernel
theorem dL_law_286 : decode cL_law 286 = .ok (.ireturn, 1) := by decide +kernel
