theorem dX0_init_0 : decode cX0_init 0 = .ok (.aload_n 0, 1) := by decide +kernel
theorem dX0_init_1 : decode cX0_init 1 = .ok (.invokespecial 3, 3) := by decide +kernel
theorem dX0_init_4 : decode cX0_init 4 = .ok (.aload_n 0, 1) := by decide +kernel
theorem dX0_init_5 : decode cX0_init 5 = .ok (.iconst 0, 1) := by decide +kernel
theorem dX0_init_6 : decode cX0_init 6 = .ok (.putfield 9, 3) := by decide +kernel
theorem dX0_init_9 : decode cX0_init 9 = .ok (.aload_n 0, 1) := by decide +kernel
theorem dX0_init_10 : decode cX0_init 10 = .ok (.aload_n 1, 1) := by decide +kernel
theorem dX0_init_11 : decode cX0_init 11 = .ok (.putfield 15, 3) := by decide +kernel
theorem dX0_init_14 : decode cX0_init 14 = .ok (.return_, 1) := by decide +kernel
theorem dX0_isNetted_0 : decode cX0_isNetted 0 = .ok (.aload_n 0, 1) := by decide +kernel
theorem dX0_isNetted_1 : decode cX0_isNetted 1 = .ok (.getfield 9, 3) := by decide +kernel
theorem dX0_isNetted_4 : decode cX0_isNetted 4 = .ok (.ireturn, 1) := by decide +kernel
theorem dX0_endByCells_0 : decode cX0_endByCells 0 = .ok (.aload_n 0, 1) := by decide +kernel
theorem dX0_endByCells_1 : decode cX0_endByCells 1 = .ok (.iload_n 1, 1) := by decide +kernel
theorem dX0_endByCells_2 : decode cX0_endByCells 2 = .ok (.iload_n 2, 1) := by decide +kernel
theorem dX0_endByCells_3 : decode cX0_endByCells 3 = .ok (.iload_n 3, 1) := by decide +kernel
theorem dX0_endByCells_4 : decode cX0_endByCells 4 = .ok (.invokevirtual 19, 3) := by decide +kernel
theorem dX0_endByCells_7 : decode cX0_endByCells 7 = .ok (.istore 4, 2) := by decide +kernel
theorem dX0_endByCells_9 : decode cX0_endByCells 9 = .ok (.iload 4, 2) := by decide +kernel
theorem dX0_endByCells_11 : decode cX0_endByCells 11 = .ok (.bipush 45, 2) := by decide +kernel
theorem dX0_endByCells_13 : decode cX0_endByCells 13 = .ok (.if_icmp .lt 19, 3) := by decide +kernel
theorem dX0_endByCells_16 : decode cX0_endByCells 16 = .ok (.aload_n 0, 1) := by decide +kernel
theorem dX0_endByCells_17 : decode cX0_endByCells 17 = .ok (.getfield 15, 3) := by decide +kernel
theorem dX0_endByCells_20 : decode cX0_endByCells 20 = .ok (.iload_n 1, 1) := by decide +kernel
theorem dX0_endByCells_21 : decode cX0_endByCells 21 = .ok (.invokevirtual 23, 3) := by decide +kernel
theorem dX0_endByCells_24 : decode cX0_endByCells 24 = .ok (.ifCond .eq 8, 3) := by decide +kernel
theorem dX0_endByCells_27 : decode cX0_endByCells 27 = .ok (.bipush 22, 2) := by decide +kernel
theorem dX0_endByCells_29 : decode cX0_endByCells 29 = .ok (.goto 5, 3) := by decide +kernel
theorem dX0_endByCells_32 : decode cX0_endByCells 32 = .ok (.iload 4, 2) := by decide +kernel
theorem dX0_endByCells_34 : decode cX0_endByCells 34 = .ok (.ireturn, 1) := by decide +kernel
theorem dX0_goByCells_0 : decode cX0_goByCells 0 = .ok (.aload_n 0, 1) := by decide +kernel
theorem dX0_goByCells_1 : decode cX0_goByCells 1 = .ok (.iconst 0, 1) := by decide +kernel
theorem dX0_goByCells_2 : decode cX0_goByCells 2 = .ok (.putfield 9, 3) := by decide +kernel
theorem dX0_goByCells_5 : decode cX0_goByCells 5 = .ok (.aload_n 0, 1) := by decide +kernel
theorem dX0_goByCells_6 : decode cX0_goByCells 6 = .ok (.getfield 15, 3) := by decide +kernel
theorem dX0_goByCells_9 : decode cX0_goByCells 9 = .ok (.iconst 5, 1) := by decide +kernel
theorem dX0_goByCells_10 : decode cX0_goByCells 10 = .ok (.invokevirtual 29, 3) := by decide +kernel
theorem dX0_goByCells_13 : decode cX0_goByCells 13 = .ok (.istore 4, 2) := by decide +kernel
theorem dX0_goByCells_15 : decode cX0_goByCells 15 = .ok (.iconst 0, 1) := by decide +kernel
theorem dX0_goByCells_16 : decode cX0_goByCells 16 = .ok (.istore 5, 2) := by decide +kernel
theorem dX0_goByCells_18 : decode cX0_goByCells 18 = .ok (.iload 5, 2) := by decide +kernel
theorem dX0_goByCells_20 : decode cX0_goByCells 20 = .ok (.iload_n 3, 1) := by decide +kernel
theorem dX0_goByCells_21 : decode cX0_goByCells 21 = .ok (.if_icmp .ge 110, 3) := by decide +kernel
theorem dX0_goByCells_24 : decode cX0_goByCells 24 = .ok (.iload 4, 2) := by decide +kernel
theorem dX0_goByCells_26 : decode cX0_goByCells 26 = .ok (.iload_n 2, 1) := by decide +kernel
theorem dX0_goByCells_27 : decode cX0_goByCells 27 = .ok (.invokestatic 33, 3) := by decide +kernel
theorem dX0_goByCells_30 : decode cX0_goByCells 30 = .ok (.istore 6, 2) := by decide +kernel
theorem dX0_goByCells_32 : decode cX0_goByCells 32 = .ok (.iload 6, 2) := by decide +kernel
theorem dX0_goByCells_34 : decode cX0_goByCells 34 = .ok (.invokestatic 37, 3) := by decide +kernel
theorem dX0_goByCells_37 : decode cX0_goByCells 37 = .ok (.ifCond .ne 38, 3) := by decide +kernel
theorem dX0_goByCells_40 : decode cX0_goByCells 40 = .ok (.aload_n 0, 1) := by decide +kernel
theorem dX0_goByCells_41 : decode cX0_goByCells 41 = .ok (.iload 4, 2) := by decide +kernel
theorem dX0_goByCells_43 : decode cX0_goByCells 43 = .ok (.iload_n 2, 1) := by decide +kernel
theorem dX0_goByCells_44 : decode cX0_goByCells 44 = .ok (.invokestatic 40, 3) := by decide +kernel
theorem dX0_goByCells_47 : decode cX0_goByCells 47 = .ok (.ifCond .ne 7, 3) := by decide +kernel
theorem dX0_goByCells_50 : decode cX0_goByCells 50 = .ok (.iconst 1, 1) := by decide +kernel
theorem dX0_goByCells_51 : decode cX0_goByCells 51 = .ok (.goto 4, 3) := by decide +kernel
theorem dX0_goByCells_54 : decode cX0_goByCells 54 = .ok (.iconst 0, 1) := by decide +kernel
theorem dX0_goByCells_55 : decode cX0_goByCells 55 = .ok (.putfield 9, 3) := by decide +kernel
theorem dX0_goByCells_58 : decode cX0_goByCells 58 = .ok (.aload_n 0, 1) := by decide +kernel
theorem dX0_goByCells_59 : decode cX0_goByCells 59 = .ok (.getfield 9, 3) := by decide +kernel
theorem dX0_goByCells_62 : decode cX0_goByCells 62 = .ok (.ifCond .eq 8, 3) := by decide +kernel
theorem dX0_goByCells_65 : decode cX0_goByCells 65 = .ok (.iload 4, 2) := by decide +kernel
theorem dX0_goByCells_67 : decode cX0_goByCells 67 = .ok (.goto 7, 3) := by decide +kernel
theorem dX0_goByCells_70 : decode cX0_goByCells 70 = .ok (.iload_n 2, 1) := by decide +kernel
theorem dX0_goByCells_71 : decode cX0_goByCells 71 = .ok (.invokestatic 44, 3) := by decide +kernel
theorem dX0_goByCells_74 : decode cX0_goByCells 74 = .ok (.ireturn, 1) := by decide +kernel
theorem dX0_goByCells_75 : decode cX0_goByCells 75 = .ok (.aload_n 0, 1) := by decide +kernel
theorem dX0_goByCells_76 : decode cX0_goByCells 76 = .ok (.getfield 15, 3) := by decide +kernel
theorem dX0_goByCells_79 : decode cX0_goByCells 79 = .ok (.iload 6, 2) := by decide +kernel
theorem dX0_goByCells_81 : decode cX0_goByCells 81 = .ok (.invokevirtual 47, 3) := by decide +kernel
theorem dX0_goByCells_84 : decode cX0_goByCells 84 = .ok (.istore 7, 2) := by decide +kernel
theorem dX0_goByCells_86 : decode cX0_goByCells 86 = .ok (.iload 7, 2) := by decide +kernel
theorem dX0_goByCells_88 : decode cX0_goByCells 88 = .ok (.iconst (-1), 1) := by decide +kernel
theorem dX0_goByCells_89 : decode cX0_goByCells 89 = .ok (.if_icmp .eq 12, 3) := by decide +kernel
theorem dX0_goByCells_92 : decode cX0_goByCells 92 = .ok (.iload 7, 2) := by decide +kernel
theorem dX0_goByCells_94 : decode cX0_goByCells 94 = .ok (.iload_n 1, 1) := by decide +kernel
theorem dX0_goByCells_95 : decode cX0_goByCells 95 = .ok (.if_icmp .eq 6, 3) := by decide +kernel
theorem dX0_goByCells_98 : decode cX0_goByCells 98 = .ok (.iload 4, 2) := by decide +kernel
theorem dX0_goByCells_100 : decode cX0_goByCells 100 = .ok (.ireturn, 1) := by decide +kernel
theorem dX0_goByCells_101 : decode cX0_goByCells 101 = .ok (.aload_n 0, 1) := by decide +kernel
theorem dX0_goByCells_102 : decode cX0_goByCells 102 = .ok (.getfield 15, 3) := by decide +kernel
theorem dX0_goByCells_105 : decode cX0_goByCells 105 = .ok (.iload 6, 2) := by decide +kernel
theorem dX0_goByCells_107 : decode cX0_goByCells 107 = .ok (.invokevirtual 50, 3) := by decide +kernel
theorem dX0_goByCells_110 : decode cX0_goByCells 110 = .ok (.ifCond .eq 11, 3) := by decide +kernel
theorem dX0_goByCells_113 : decode cX0_goByCells 113 = .ok (.aload_n 0, 1) := by decide +kernel
theorem dX0_goByCells_114 : decode cX0_goByCells 114 = .ok (.iconst 1, 1) := by decide +kernel
theorem dX0_goByCells_115 : decode cX0_goByCells 115 = .ok (.putfield 9, 3) := by decide +kernel
theorem dX0_goByCells_118 : decode cX0_goByCells 118 = .ok (.iload 4, 2) := by decide +kernel
theorem dX0_goByCells_120 : decode cX0_goByCells 120 = .ok (.ireturn, 1) := by decide +kernel
theorem dX0_goByCells_121 : decode cX0_goByCells 121 = .ok (.iload 6, 2) := by decide +kernel
theorem dX0_goByCells_123 : decode cX0_goByCells 123 = .ok (.istore 4, 2) := by decide +kernel
theorem dX0_goByCells_125 : decode cX0_goByCells 125 = .ok (.iinc 5 1, 3) := by decide +kernel
theorem dX0_goByCells_128 : decode cX0_goByCells 128 = .ok (.goto (-110), 3) := by decide +kernel
theorem dX0_goByCells_131 : decode cX0_goByCells 131 = .ok (.iload 4, 2) := by decide +kernel
theorem dX0_goByCells_133 : decode cX0_goByCells 133 = .ok (.ireturn, 1) := by decide +kernel
theorem dX0_endByStops_0 : decode cX0_endByStops 0 = .ok (.aload_n 0, 1) := by decide +kernel
theorem dX0_endByStops_1 : decode cX0_endByStops 1 = .ok (.getfield 15, 3) := by decide +kernel
theorem dX0_endByStops_4 : decode cX0_endByStops 4 = .ok (.iconst 5, 1) := by decide +kernel
theorem dX0_endByStops_5 : decode cX0_endByStops 5 = .ok (.invokevirtual 29, 3) := by decide +kernel
theorem dX0_endByStops_8 : decode cX0_endByStops 8 = .ok (.istore 4, 2) := by decide +kernel
theorem dX0_endByStops_10 : decode cX0_endByStops 10 = .ok (.iload 4, 2) := by decide +kernel
theorem dX0_endByStops_12 : decode cX0_endByStops 12 = .ok (.iload_n 2, 1) := by decide +kernel
theorem dX0_endByStops_13 : decode cX0_endByStops 13 = .ok (.invokestatic 53, 3) := by decide +kernel
theorem dX0_endByStops_16 : decode cX0_endByStops 16 = .ok (.istore 5, 2) := by decide +kernel
theorem dX0_endByStops_18 : decode cX0_endByStops 18 = .ok (.iload 5, 2) := by decide +kernel
theorem dX0_endByStops_20 : decode cX0_endByStops 20 = .ok (.aload_n 0, 1) := by decide +kernel
theorem dX0_endByStops_21 : decode cX0_endByStops 21 = .ok (.iload_n 1, 1) := by decide +kernel
theorem dX0_endByStops_22 : decode cX0_endByStops 22 = .ok (.iload_n 2, 1) := by decide +kernel
theorem dX0_endByStops_23 : decode cX0_endByStops 23 = .ok (.invokevirtual 56, 3) := by decide +kernel
theorem dX0_endByStops_26 : decode cX0_endByStops 26 = .ok (.aload_n 0, 1) := by decide +kernel
theorem dX0_endByStops_27 : decode cX0_endByStops 27 = .ok (.iload_n 2, 1) := by decide +kernel
theorem dX0_endByStops_28 : decode cX0_endByStops 28 = .ok (.invokevirtual 59, 3) := by decide +kernel
theorem dX0_endByStops_31 : decode cX0_endByStops 31 = .ok (.invokestatic 62, 3) := by decide +kernel
theorem dX0_endByStops_34 : decode cX0_endByStops 34 = .ok (.invokestatic 62, 3) := by decide +kernel
theorem dX0_endByStops_37 : decode cX0_endByStops 37 = .ok (.istore 6, 2) := by decide +kernel
theorem dX0_endByStops_39 : decode cX0_endByStops 39 = .ok (.iload_n 3, 1) := by decide +kernel
theorem dX0_endByStops_40 : decode cX0_endByStops 40 = .ok (.iload 5, 2) := by decide +kernel
theorem dX0_endByStops_42 : decode cX0_endByStops 42 = .ok (.if_icmp .le 40, 3) := by decide +kernel
theorem dX0_endByStops_45 : decode cX0_endByStops 45 = .ok (.iload 6, 2) := by decide +kernel
theorem dX0_endByStops_47 : decode cX0_endByStops 47 = .ok (.iload 5, 2) := by decide +kernel
theorem dX0_endByStops_49 : decode cX0_endByStops 49 = .ok (.if_icmp .ne 33, 3) := by decide +kernel
theorem dX0_endByStops_52 : decode cX0_endByStops 52 = .ok (.iload 4, 2) := by decide +kernel
theorem dX0_endByStops_54 : decode cX0_endByStops 54 = .ok (.iload_n 2, 1) := by decide +kernel
theorem dX0_endByStops_55 : decode cX0_endByStops 55 = .ok (.invokestatic 40, 3) := by decide +kernel
theorem dX0_endByStops_58 : decode cX0_endByStops 58 = .ok (.ifCond .eq 24, 3) := by decide +kernel
theorem dX0_endByStops_61 : decode cX0_endByStops 61 = .ok (.aload_n 0, 1) := by decide +kernel
theorem dX0_endByStops_62 : decode cX0_endByStops 62 = .ok (.getfield 15, 3) := by decide +kernel
theorem dX0_endByStops_65 : decode cX0_endByStops 65 = .ok (.iload_n 1, 1) := by decide +kernel
theorem dX0_endByStops_66 : decode cX0_endByStops 66 = .ok (.invokevirtual 23, 3) := by decide +kernel
theorem dX0_endByStops_69 : decode cX0_endByStops 69 = .ok (.ifCond .eq 8, 3) := by decide +kernel
theorem dX0_endByStops_72 : decode cX0_endByStops 72 = .ok (.bipush 22, 2) := by decide +kernel
theorem dX0_endByStops_74 : decode cX0_endByStops 74 = .ok (.goto 7, 3) := by decide +kernel
theorem dX0_endByStops_77 : decode cX0_endByStops 77 = .ok (.iload_n 2, 1) := by decide +kernel
theorem dX0_endByStops_78 : decode cX0_endByStops 78 = .ok (.invokestatic 44, 3) := by decide +kernel
theorem dX0_endByStops_81 : decode cX0_endByStops 81 = .ok (.ireturn, 1) := by decide +kernel
theorem dX0_endByStops_82 : decode cX0_endByStops 82 = .ok (.iload 4, 2) := by decide +kernel
theorem dX0_endByStops_84 : decode cX0_endByStops 84 = .ok (.iload_n 3, 1) := by decide +kernel
theorem dX0_endByStops_85 : decode cX0_endByStops 85 = .ok (.iload 6, 2) := by decide +kernel
theorem dX0_endByStops_87 : decode cX0_endByStops 87 = .ok (.invokestatic 62, 3) := by decide +kernel
theorem dX0_endByStops_90 : decode cX0_endByStops 90 = .ok (.iload_n 2, 1) := by decide +kernel
theorem dX0_endByStops_91 : decode cX0_endByStops 91 = .ok (.invokestatic 67, 3) := by decide +kernel
theorem dX0_endByStops_94 : decode cX0_endByStops 94 = .ok (.imul, 1) := by decide +kernel
theorem dX0_endByStops_95 : decode cX0_endByStops 95 = .ok (.iadd, 1) := by decide +kernel
theorem dX0_endByStops_96 : decode cX0_endByStops 96 = .ok (.ireturn, 1) := by decide +kernel
theorem dX0_cellsToWhale_0 : decode cX0_cellsToWhale 0 = .ok (.bipush 45, 2) := by decide +kernel
theorem dX0_cellsToWhale_2 : decode cX0_cellsToWhale 2 = .ok (.istore_n 3, 1) := by decide +kernel
theorem dX0_cellsToWhale_3 : decode cX0_cellsToWhale 3 = .ok (.iconst 0, 1) := by decide +kernel
theorem dX0_cellsToWhale_4 : decode cX0_cellsToWhale 4 = .ok (.istore 4, 2) := by decide +kernel
theorem dX0_cellsToWhale_6 : decode cX0_cellsToWhale 6 = .ok (.iload 4, 2) := by decide +kernel
theorem dX0_cellsToWhale_8 : decode cX0_cellsToWhale 8 = .ok (.aload_n 0, 1) := by decide +kernel
theorem dX0_cellsToWhale_9 : decode cX0_cellsToWhale 9 = .ok (.getfield 15, 3) := by decide +kernel
theorem dX0_cellsToWhale_12 : decode cX0_cellsToWhale 12 = .ok (.iconst 0, 1) := by decide +kernel
theorem dX0_cellsToWhale_13 : decode cX0_cellsToWhale 13 = .ok (.invokevirtual 29, 3) := by decide +kernel
theorem dX0_cellsToWhale_16 : decode cX0_cellsToWhale 16 = .ok (.if_icmp .ge 62, 3) := by decide +kernel
theorem dX0_cellsToWhale_19 : decode cX0_cellsToWhale 19 = .ok (.iload 4, 2) := by decide +kernel
theorem dX0_cellsToWhale_21 : decode cX0_cellsToWhale 21 = .ok (.iload_n 1, 1) := by decide +kernel
theorem dX0_cellsToWhale_22 : decode cX0_cellsToWhale 22 = .ok (.if_icmp .eq 50, 3) := by decide +kernel
theorem dX0_cellsToWhale_25 : decode cX0_cellsToWhale 25 = .ok (.aload_n 0, 1) := by decide +kernel
theorem dX0_cellsToWhale_26 : decode cX0_cellsToWhale 26 = .ok (.getfield 15, 3) := by decide +kernel
theorem dX0_cellsToWhale_29 : decode cX0_cellsToWhale 29 = .ok (.iload 4, 2) := by decide +kernel
theorem dX0_cellsToWhale_31 : decode cX0_cellsToWhale 31 = .ok (.invokevirtual 70, 3) := by decide +kernel
theorem dX0_cellsToWhale_34 : decode cX0_cellsToWhale 34 = .ok (.ifCond .eq 38, 3) := by decide +kernel
theorem dX0_cellsToWhale_37 : decode cX0_cellsToWhale 37 = .ok (.aload_n 0, 1) := by decide +kernel
theorem dX0_cellsToWhale_38 : decode cX0_cellsToWhale 38 = .ok (.aload_n 0, 1) := by decide +kernel
theorem dX0_cellsToWhale_39 : decode cX0_cellsToWhale 39 = .ok (.getfield 15, 3) := by decide +kernel
theorem dX0_cellsToWhale_42 : decode cX0_cellsToWhale 42 = .ok (.iload 4, 2) := by decide +kernel
theorem dX0_cellsToWhale_44 : decode cX0_cellsToWhale 44 = .ok (.iconst 4, 1) := by decide +kernel
theorem dX0_cellsToWhale_45 : decode cX0_cellsToWhale 45 = .ok (.invokevirtual 73, 3) := by decide +kernel
theorem dX0_cellsToWhale_48 : decode cX0_cellsToWhale 48 = .ok (.iload_n 2, 1) := by decide +kernel
theorem dX0_cellsToWhale_49 : decode cX0_cellsToWhale 49 = .ok (.invokevirtual 76, 3) := by decide +kernel
theorem dX0_cellsToWhale_52 : decode cX0_cellsToWhale 52 = .ok (.istore 5, 2) := by decide +kernel
theorem dX0_cellsToWhale_54 : decode cX0_cellsToWhale 54 = .ok (.iload 5, 2) := by decide +kernel
theorem dX0_cellsToWhale_56 : decode cX0_cellsToWhale 56 = .ok (.ifCond .le 14, 3) := by decide +kernel
theorem dX0_cellsToWhale_59 : decode cX0_cellsToWhale 59 = .ok (.iload_n 3, 1) := by decide +kernel
theorem dX0_cellsToWhale_60 : decode cX0_cellsToWhale 60 = .ok (.iload 5, 2) := by decide +kernel
theorem dX0_cellsToWhale_62 : decode cX0_cellsToWhale 62 = .ok (.iconst 1, 1) := by decide +kernel
theorem dX0_cellsToWhale_63 : decode cX0_cellsToWhale 63 = .ok (.isub, 1) := by decide +kernel
theorem dX0_cellsToWhale_64 : decode cX0_cellsToWhale 64 = .ok (.invokestatic 62, 3) := by decide +kernel
theorem dX0_cellsToWhale_67 : decode cX0_cellsToWhale 67 = .ok (.goto 4, 3) := by decide +kernel
theorem dX0_cellsToWhale_70 : decode cX0_cellsToWhale 70 = .ok (.iload_n 3, 1) := by decide +kernel
theorem dX0_cellsToWhale_71 : decode cX0_cellsToWhale 71 = .ok (.istore_n 3, 1) := by decide +kernel
theorem dX0_cellsToWhale_72 : decode cX0_cellsToWhale 72 = .ok (.iinc 4 1, 3) := by decide +kernel
theorem dX0_cellsToWhale_75 : decode cX0_cellsToWhale 75 = .ok (.goto (-69), 3) := by decide +kernel
theorem dX0_cellsToWhale_78 : decode cX0_cellsToWhale 78 = .ok (.iload_n 3, 1) := by decide +kernel
theorem dX0_cellsToWhale_79 : decode cX0_cellsToWhale 79 = .ok (.ireturn, 1) := by decide +kernel
theorem dX0_cellsToDry_0 : decode cX0_cellsToDry 0 = .ok (.aload_n 0, 1) := by decide +kernel
theorem dX0_cellsToDry_1 : decode cX0_cellsToDry 1 = .ok (.getfield 15, 3) := by decide +kernel
theorem dX0_cellsToDry_4 : decode cX0_cellsToDry 4 = .ok (.iconst 5, 1) := by decide +kernel
theorem dX0_cellsToDry_5 : decode cX0_cellsToDry 5 = .ok (.invokevirtual 29, 3) := by decide +kernel
theorem dX0_cellsToDry_8 : decode cX0_cellsToDry 8 = .ok (.istore_n 2, 1) := by decide +kernel
theorem dX0_cellsToDry_9 : decode cX0_cellsToDry 9 = .ok (.iload_n 1, 1) := by decide +kernel
theorem dX0_cellsToDry_10 : decode cX0_cellsToDry 10 = .ok (.iconst 1, 1) := by decide +kernel
theorem dX0_cellsToDry_11 : decode cX0_cellsToDry 11 = .ok (.if_icmp .eq 8, 3) := by decide +kernel
theorem dX0_cellsToDry_14 : decode cX0_cellsToDry 14 = .ok (.iload_n 1, 1) := by decide +kernel
theorem dX0_cellsToDry_15 : decode cX0_cellsToDry 15 = .ok (.iconst 3, 1) := by decide +kernel
theorem dX0_cellsToDry_16 : decode cX0_cellsToDry 16 = .ok (.if_icmp .ne 21, 3) := by decide +kernel
theorem dX0_cellsToDry_19 : decode cX0_cellsToDry 19 = .ok (.aload_n 0, 1) := by decide +kernel
theorem dX0_cellsToDry_20 : decode cX0_cellsToDry 20 = .ok (.getfield 15, 3) := by decide +kernel
theorem dX0_cellsToDry_23 : decode cX0_cellsToDry 23 = .ok (.iload_n 2, 1) := by decide +kernel
theorem dX0_cellsToDry_24 : decode cX0_cellsToDry 24 = .ok (.invokevirtual 50, 3) := by decide +kernel
theorem dX0_cellsToDry_27 : decode cX0_cellsToDry 27 = .ok (.ifCond .eq 7, 3) := by decide +kernel
theorem dX0_cellsToDry_30 : decode cX0_cellsToDry 30 = .ok (.iconst 0, 1) := by decide +kernel
theorem dX0_cellsToDry_31 : decode cX0_cellsToDry 31 = .ok (.goto 5, 3) := by decide +kernel
theorem dX0_cellsToDry_34 : decode cX0_cellsToDry 34 = .ok (.bipush 45, 2) := by decide +kernel
theorem dX0_cellsToDry_36 : decode cX0_cellsToDry 36 = .ok (.ireturn, 1) := by decide +kernel
theorem dX0_cellsToDry_37 : decode cX0_cellsToDry 37 = .ok (.iload_n 2, 1) := by decide +kernel
theorem dX0_cellsToDry_38 : decode cX0_cellsToDry 38 = .ok (.iload_n 1, 1) := by decide +kernel
theorem dX0_cellsToDry_39 : decode cX0_cellsToDry 39 = .ok (.invokestatic 53, 3) := by decide +kernel
theorem dX0_cellsToDry_42 : decode cX0_cellsToDry 42 = .ok (.istore_n 3, 1) := by decide +kernel
theorem dX0_cellsToDry_43 : decode cX0_cellsToDry 43 = .ok (.iload_n 3, 1) := by decide +kernel
theorem dX0_cellsToDry_44 : decode cX0_cellsToDry 44 = .ok (.ifCond .le 25, 3) := by decide +kernel
theorem dX0_cellsToDry_47 : decode cX0_cellsToDry 47 = .ok (.aload_n 0, 1) := by decide +kernel
theorem dX0_cellsToDry_48 : decode cX0_cellsToDry 48 = .ok (.getfield 15, 3) := by decide +kernel
theorem dX0_cellsToDry_51 : decode cX0_cellsToDry 51 = .ok (.iload_n 2, 1) := by decide +kernel
theorem dX0_cellsToDry_52 : decode cX0_cellsToDry 52 = .ok (.iload_n 3, 1) := by decide +kernel
theorem dX0_cellsToDry_53 : decode cX0_cellsToDry 53 = .ok (.iload_n 1, 1) := by decide +kernel
theorem dX0_cellsToDry_54 : decode cX0_cellsToDry 54 = .ok (.invokestatic 67, 3) := by decide +kernel
theorem dX0_cellsToDry_57 : decode cX0_cellsToDry 57 = .ok (.imul, 1) := by decide +kernel
theorem dX0_cellsToDry_58 : decode cX0_cellsToDry 58 = .ok (.iadd, 1) := by decide +kernel
theorem dX0_cellsToDry_59 : decode cX0_cellsToDry 59 = .ok (.invokevirtual 50, 3) := by decide +kernel
theorem dX0_cellsToDry_62 : decode cX0_cellsToDry 62 = .ok (.ifCond .eq 7, 3) := by decide +kernel
theorem dX0_cellsToDry_65 : decode cX0_cellsToDry 65 = .ok (.iconst 1, 1) := by decide +kernel
theorem dX0_cellsToDry_66 : decode cX0_cellsToDry 66 = .ok (.goto 4, 3) := by decide +kernel
theorem dX0_cellsToDry_69 : decode cX0_cellsToDry 69 = .ok (.iconst 0, 1) := by decide +kernel
theorem dX0_cellsToDry_70 : decode cX0_cellsToDry 70 = .ok (.istore 4, 2) := by decide +kernel
theorem dX0_cellsToDry_72 : decode cX0_cellsToDry 72 = .ok (.iload 4, 2) := by decide +kernel
theorem dX0_cellsToDry_74 : decode cX0_cellsToDry 74 = .ok (.ifCond .eq 9, 3) := by decide +kernel
theorem dX0_cellsToDry_77 : decode cX0_cellsToDry 77 = .ok (.iload_n 3, 1) := by decide +kernel
theorem dX0_cellsToDry_78 : decode cX0_cellsToDry 78 = .ok (.iconst 1, 1) := by decide +kernel
theorem dX0_cellsToDry_79 : decode cX0_cellsToDry 79 = .ok (.isub, 1) := by decide +kernel
theorem dX0_cellsToDry_80 : decode cX0_cellsToDry 80 = .ok (.goto 5, 3) := by decide +kernel
theorem dX0_cellsToDry_83 : decode cX0_cellsToDry 83 = .ok (.bipush 45, 2) := by decide +kernel
theorem dX0_cellsToDry_85 : decode cX0_cellsToDry 85 = .ok (.ireturn, 1) := by decide +kernel
theorem dX0_howFarAhead_0 : decode cX0_howFarAhead 0 = .ok (.iload_n 1, 1) := by decide +kernel
theorem dX0_howFarAhead_1 : decode cX0_howFarAhead 1 = .ok (.bipush 9, 2) := by decide +kernel
theorem dX0_howFarAhead_3 : decode cX0_howFarAhead 3 = .ok (.idiv, 1) := by decide +kernel
theorem dX0_howFarAhead_4 : decode cX0_howFarAhead 4 = .ok (.aload_n 0, 1) := by decide +kernel
theorem dX0_howFarAhead_5 : decode cX0_howFarAhead 5 = .ok (.getfield 15, 3) := by decide +kernel
theorem dX0_howFarAhead_8 : decode cX0_howFarAhead 8 = .ok (.iconst 5, 1) := by decide +kernel
theorem dX0_howFarAhead_9 : decode cX0_howFarAhead 9 = .ok (.invokevirtual 29, 3) := by decide +kernel
theorem dX0_howFarAhead_12 : decode cX0_howFarAhead 12 = .ok (.bipush 9, 2) := by decide +kernel
theorem dX0_howFarAhead_14 : decode cX0_howFarAhead 14 = .ok (.idiv, 1) := by decide +kernel
theorem dX0_howFarAhead_15 : decode cX0_howFarAhead 15 = .ok (.isub, 1) := by decide +kernel
theorem dX0_howFarAhead_16 : decode cX0_howFarAhead 16 = .ok (.istore_n 3, 1) := by decide +kernel
theorem dX0_howFarAhead_17 : decode cX0_howFarAhead 17 = .ok (.iload_n 1, 1) := by decide +kernel
theorem dX0_howFarAhead_18 : decode cX0_howFarAhead 18 = .ok (.bipush 9, 2) := by decide +kernel
theorem dX0_howFarAhead_20 : decode cX0_howFarAhead 20 = .ok (.irem, 1) := by decide +kernel
theorem dX0_howFarAhead_21 : decode cX0_howFarAhead 21 = .ok (.aload_n 0, 1) := by decide +kernel
theorem dX0_howFarAhead_22 : decode cX0_howFarAhead 22 = .ok (.getfield 15, 3) := by decide +kernel
theorem dX0_howFarAhead_25 : decode cX0_howFarAhead 25 = .ok (.iconst 5, 1) := by decide +kernel
theorem dX0_howFarAhead_26 : decode cX0_howFarAhead 26 = .ok (.invokevirtual 29, 3) := by decide +kernel
theorem dX0_howFarAhead_29 : decode cX0_howFarAhead 29 = .ok (.bipush 9, 2) := by decide +kernel
theorem dX0_howFarAhead_31 : decode cX0_howFarAhead 31 = .ok (.irem, 1) := by decide +kernel
theorem dX0_howFarAhead_32 : decode cX0_howFarAhead 32 = .ok (.isub, 1) := by decide +kernel
theorem dX0_howFarAhead_33 : decode cX0_howFarAhead 33 = .ok (.istore 4, 2) := by decide +kernel
theorem dX0_howFarAhead_35 : decode cX0_howFarAhead 35 = .ok (.iload_n 2, 1) := by decide +kernel
theorem dX0_howFarAhead_36 : decode cX0_howFarAhead 36 = .ok (.ifCond .eq 8, 3) := by decide +kernel
theorem dX0_howFarAhead_39 : decode cX0_howFarAhead 39 = .ok (.iload_n 2, 1) := by decide +kernel
theorem dX0_howFarAhead_40 : decode cX0_howFarAhead 40 = .ok (.iconst 2, 1) := by decide +kernel
theorem dX0_howFarAhead_41 : decode cX0_howFarAhead 41 = .ok (.if_icmp .ne 7, 3) := by decide +kernel
theorem dX0_howFarAhead_44 : decode cX0_howFarAhead 44 = .ok (.iconst 1, 1) := by decide +kernel
theorem dX0_howFarAhead_45 : decode cX0_howFarAhead 45 = .ok (.goto 4, 3) := by decide +kernel
theorem dX0_howFarAhead_48 : decode cX0_howFarAhead 48 = .ok (.iconst 0, 1) := by decide +kernel
theorem dX0_howFarAhead_49 : decode cX0_howFarAhead 49 = .ok (.istore 5, 2) := by decide +kernel
theorem dX0_howFarAhead_51 : decode cX0_howFarAhead 51 = .ok (.iload 5, 2) := by decide +kernel
theorem dX0_howFarAhead_53 : decode cX0_howFarAhead 53 = .ok (.ifCond .eq 8, 3) := by decide +kernel
theorem dX0_howFarAhead_56 : decode cX0_howFarAhead 56 = .ok (.iload 4, 2) := by decide +kernel
theorem dX0_howFarAhead_58 : decode cX0_howFarAhead 58 = .ok (.goto 4, 3) := by decide +kernel
theorem dX0_howFarAhead_61 : decode cX0_howFarAhead 61 = .ok (.iload_n 3, 1) := by decide +kernel
theorem dX0_howFarAhead_62 : decode cX0_howFarAhead 62 = .ok (.ifCond .eq 5, 3) := by decide +kernel
theorem dX0_howFarAhead_65 : decode cX0_howFarAhead 65 = .ok (.iconst 0, 1) := by decide +kernel
theorem dX0_howFarAhead_66 : decode cX0_howFarAhead 66 = .ok (.ireturn, 1) := by decide +kernel
theorem dX0_howFarAhead_67 : decode cX0_howFarAhead 67 = .ok (.iload 5, 2) := by decide +kernel
theorem dX0_howFarAhead_69 : decode cX0_howFarAhead 69 = .ok (.ifCond .eq 7, 3) := by decide +kernel
theorem dX0_howFarAhead_72 : decode cX0_howFarAhead 72 = .ok (.iload_n 3, 1) := by decide +kernel
theorem dX0_howFarAhead_73 : decode cX0_howFarAhead 73 = .ok (.goto 5, 3) := by decide +kernel
theorem dX0_howFarAhead_76 : decode cX0_howFarAhead 76 = .ok (.iload 4, 2) := by decide +kernel
theorem dX0_howFarAhead_78 : decode cX0_howFarAhead 78 = .ok (.istore 6, 2) := by decide +kernel
theorem dX0_howFarAhead_80 : decode cX0_howFarAhead 80 = .ok (.iload_n 2, 1) := by decide +kernel
theorem dX0_howFarAhead_81 : decode cX0_howFarAhead 81 = .ok (.iconst 1, 1) := by decide +kernel
theorem dX0_howFarAhead_82 : decode cX0_howFarAhead 82 = .ok (.if_icmp .eq 8, 3) := by decide +kernel
theorem dX0_howFarAhead_85 : decode cX0_howFarAhead 85 = .ok (.iload_n 2, 1) := by decide +kernel
theorem dX0_howFarAhead_86 : decode cX0_howFarAhead 86 = .ok (.iconst 2, 1) := by decide +kernel
theorem dX0_howFarAhead_87 : decode cX0_howFarAhead 87 = .ok (.if_icmp .ne 8, 3) := by decide +kernel
theorem dX0_howFarAhead_90 : decode cX0_howFarAhead 90 = .ok (.iload 6, 2) := by decide +kernel
theorem dX0_howFarAhead_92 : decode cX0_howFarAhead 92 = .ok (.goto 6, 3) := by decide +kernel
theorem dX0_howFarAhead_95 : decode cX0_howFarAhead 95 = .ok (.iload 6, 2) := by decide +kernel
theorem dX0_howFarAhead_97 : decode cX0_howFarAhead 97 = .ok (.ineg, 1) := by decide +kernel
theorem dX0_howFarAhead_98 : decode cX0_howFarAhead 98 = .ok (.iconst 0, 1) := by decide +kernel
theorem dX0_howFarAhead_99 : decode cX0_howFarAhead 99 = .ok (.invokestatic 79, 3) := by decide +kernel
theorem dX0_howFarAhead_102 : decode cX0_howFarAhead 102 = .ok (.ireturn, 1) := by decide +kernel
theorem dX1_init_0 : decode cX1_init 0 = .ok (.aload_n 0, 1) := by decide +kernel
theorem dX1_init_1 : decode cX1_init 1 = .ok (.invokespecial 3, 3) := by decide +kernel
theorem dX1_init_4 : decode cX1_init 4 = .ok (.aload_n 0, 1) := by decide +kernel
theorem dX1_init_5 : decode cX1_init 5 = .ok (.bipush 90, 2) := by decide +kernel
theorem dX1_init_7 : decode cX1_init 7 = .ok (.newarray .int, 2) := by decide +kernel
theorem dX1_init_9 : decode cX1_init 9 = .ok (.putfield 9, 3) := by decide +kernel
theorem dX1_init_12 : decode cX1_init 12 = .ok (.aload_n 0, 1) := by decide +kernel
theorem dX1_init_13 : decode cX1_init 13 = .ok (.bipush 18, 2) := by decide +kernel
theorem dX1_init_15 : decode cX1_init 15 = .ok (.newarray .int, 2) := by decide +kernel
theorem dX1_init_17 : decode cX1_init 17 = .ok (.putfield 15, 3) := by decide +kernel
theorem dX1_init_20 : decode cX1_init 20 = .ok (.aload_n 0, 1) := by decide +kernel
theorem dX1_init_21 : decode cX1_init 21 = .ok (.iconst 5, 1) := by decide +kernel
theorem dX1_init_22 : decode cX1_init 22 = .ok (.bipush 22, 2) := by decide +kernel
theorem dX1_init_24 : decode cX1_init 24 = .ok (.invokevirtual 18, 3) := by decide +kernel
theorem dX1_init_27 : decode cX1_init 27 = .ok (.aload_n 0, 1) := by decide +kernel
theorem dX1_init_28 : decode cX1_init 28 = .ok (.bipush 6, 2) := by decide +kernel
theorem dX1_init_30 : decode cX1_init 30 = .ok (.iconst (-1), 1) := by decide +kernel
theorem dX1_init_31 : decode cX1_init 31 = .ok (.invokevirtual 18, 3) := by decide +kernel
theorem dX1_init_34 : decode cX1_init 34 = .ok (.return_, 1) := by decide +kernel
theorem dX1_copyFrom_0 : decode cX1_copyFrom 0 = .ok (.aload_n 1, 1) := by decide +kernel
theorem dX1_copyFrom_1 : decode cX1_copyFrom 1 = .ok (.ifnull 39, 3) := by decide +kernel
theorem dX1_copyFrom_4 : decode cX1_copyFrom 4 = .ok (.aload_n 1, 1) := by decide +kernel
theorem dX1_copyFrom_5 : decode cX1_copyFrom 5 = .ok (.getfield 9, 3) := by decide +kernel
theorem dX1_copyFrom_8 : decode cX1_copyFrom 8 = .ok (.iconst 0, 1) := by decide +kernel
theorem dX1_copyFrom_9 : decode cX1_copyFrom 9 = .ok (.aload_n 0, 1) := by decide +kernel
theorem dX1_copyFrom_10 : decode cX1_copyFrom 10 = .ok (.getfield 9, 3) := by decide +kernel
theorem dX1_copyFrom_13 : decode cX1_copyFrom 13 = .ok (.iconst 0, 1) := by decide +kernel
theorem dX1_copyFrom_14 : decode cX1_copyFrom 14 = .ok (.aload_n 0, 1) := by decide +kernel
theorem dX1_copyFrom_15 : decode cX1_copyFrom 15 = .ok (.getfield 9, 3) := by decide +kernel
theorem dX1_copyFrom_18 : decode cX1_copyFrom 18 = .ok (.arraylength, 1) := by decide +kernel
theorem dX1_copyFrom_19 : decode cX1_copyFrom 19 = .ok (.invokestatic 22, 3) := by decide +kernel
theorem dX1_copyFrom_22 : decode cX1_copyFrom 22 = .ok (.aload_n 1, 1) := by decide +kernel
theorem dX1_copyFrom_23 : decode cX1_copyFrom 23 = .ok (.getfield 15, 3) := by decide +kernel
theorem dX1_copyFrom_26 : decode cX1_copyFrom 26 = .ok (.iconst 0, 1) := by decide +kernel
theorem dX1_copyFrom_27 : decode cX1_copyFrom 27 = .ok (.aload_n 0, 1) := by decide +kernel
theorem dX1_copyFrom_28 : decode cX1_copyFrom 28 = .ok (.getfield 15, 3) := by decide +kernel
theorem dX1_copyFrom_31 : decode cX1_copyFrom 31 = .ok (.iconst 0, 1) := by decide +kernel
theorem dX1_copyFrom_32 : decode cX1_copyFrom 32 = .ok (.aload_n 0, 1) := by decide +kernel
theorem dX1_copyFrom_33 : decode cX1_copyFrom 33 = .ok (.getfield 15, 3) := by decide +kernel
theorem dX1_copyFrom_36 : decode cX1_copyFrom 36 = .ok (.arraylength, 1) := by decide +kernel
theorem dX1_copyFrom_37 : decode cX1_copyFrom 37 = .ok (.invokestatic 22, 3) := by decide +kernel
theorem dX1_copyFrom_40 : decode cX1_copyFrom 40 = .ok (.return_, 1) := by decide +kernel
theorem dX1_count_0 : decode cX1_count 0 = .ok (.iload_n 1, 1) := by decide +kernel
theorem dX1_count_1 : decode cX1_count 1 = .ok (.ifCond .lt 21, 3) := by decide +kernel
theorem dX1_count_4 : decode cX1_count 4 = .ok (.iload_n 1, 1) := by decide +kernel
theorem dX1_count_5 : decode cX1_count 5 = .ok (.aload_n 0, 1) := by decide +kernel
theorem dX1_count_6 : decode cX1_count 6 = .ok (.getfield 15, 3) := by decide +kernel
theorem dX1_count_9 : decode cX1_count 9 = .ok (.arraylength, 1) := by decide +kernel
theorem dX1_count_10 : decode cX1_count 10 = .ok (.if_icmp .ge 12, 3) := by decide +kernel
theorem dX1_count_13 : decode cX1_count 13 = .ok (.aload_n 0, 1) := by decide +kernel
theorem dX1_count_14 : decode cX1_count 14 = .ok (.getfield 15, 3) := by decide +kernel
theorem dX1_count_17 : decode cX1_count 17 = .ok (.iload_n 1, 1) := by decide +kernel
theorem dX1_count_18 : decode cX1_count 18 = .ok (.iaload, 1) := by decide +kernel
theorem dX1_count_19 : decode cX1_count 19 = .ok (.goto 4, 3) := by decide +kernel
theorem dX1_count_22 : decode cX1_count 22 = .ok (.iconst 0, 1) := by decide +kernel
theorem dX1_count_23 : decode cX1_count 23 = .ok (.ireturn, 1) := by decide +kernel
theorem dX1_setCount_0 : decode cX1_setCount 0 = .ok (.iload_n 1, 1) := by decide +kernel
theorem dX1_setCount_1 : decode cX1_setCount 1 = .ok (.ifCond .lt 19, 3) := by decide +kernel
theorem dX1_setCount_4 : decode cX1_setCount 4 = .ok (.iload_n 1, 1) := by decide +kernel
theorem dX1_setCount_5 : decode cX1_setCount 5 = .ok (.aload_n 0, 1) := by decide +kernel
theorem dX1_setCount_6 : decode cX1_setCount 6 = .ok (.getfield 15, 3) := by decide +kernel
theorem dX1_setCount_9 : decode cX1_setCount 9 = .ok (.arraylength, 1) := by decide +kernel
theorem dX1_setCount_10 : decode cX1_setCount 10 = .ok (.if_icmp .ge 10, 3) := by decide +kernel
theorem dX1_setCount_13 : decode cX1_setCount 13 = .ok (.aload_n 0, 1) := by decide +kernel
theorem dX1_setCount_14 : decode cX1_setCount 14 = .ok (.getfield 15, 3) := by decide +kernel
theorem dX1_setCount_17 : decode cX1_setCount 17 = .ok (.iload_n 1, 1) := by decide +kernel
theorem dX1_setCount_18 : decode cX1_setCount 18 = .ok (.iload_n 2, 1) := by decide +kernel
theorem dX1_setCount_19 : decode cX1_setCount 19 = .ok (.iastore, 1) := by decide +kernel
theorem dX1_setCount_20 : decode cX1_setCount 20 = .ok (.return_, 1) := by decide +kernel
theorem dX1_addCount_0 : decode cX1_addCount 0 = .ok (.aload_n 0, 1) := by decide +kernel
theorem dX1_addCount_1 : decode cX1_addCount 1 = .ok (.iload_n 1, 1) := by decide +kernel
theorem dX1_addCount_2 : decode cX1_addCount 2 = .ok (.aload_n 0, 1) := by decide +kernel
theorem dX1_addCount_3 : decode cX1_addCount 3 = .ok (.iload_n 1, 1) := by decide +kernel
theorem dX1_addCount_4 : decode cX1_addCount 4 = .ok (.invokevirtual 28, 3) := by decide +kernel
theorem dX1_addCount_7 : decode cX1_addCount 7 = .ok (.iload_n 2, 1) := by decide +kernel
theorem dX1_addCount_8 : decode cX1_addCount 8 = .ok (.iadd, 1) := by decide +kernel
theorem dX1_addCount_9 : decode cX1_addCount 9 = .ok (.invokevirtual 18, 3) := by decide +kernel
theorem dX1_addCount_12 : decode cX1_addCount 12 = .ok (.return_, 1) := by decide +kernel
theorem dX1_of_0 : decode cX1_of 0 = .ok (.iload_n 1, 1) := by decide +kernel
theorem dX1_of_1 : decode cX1_of 1 = .ok (.bipush 9, 2) := by decide +kernel
theorem dX1_of_3 : decode cX1_of 3 = .ok (.imul, 1) := by decide +kernel
theorem dX1_of_4 : decode cX1_of 4 = .ok (.iload_n 2, 1) := by decide +kernel
theorem dX1_of_5 : decode cX1_of 5 = .ok (.iadd, 1) := by decide +kernel
theorem dX1_of_6 : decode cX1_of 6 = .ok (.istore_n 3, 1) := by decide +kernel
theorem dX1_of_7 : decode cX1_of 7 = .ok (.iload_n 3, 1) := by decide +kernel
theorem dX1_of_8 : decode cX1_of 8 = .ok (.ifCond .lt 21, 3) := by decide +kernel
theorem dX1_of_11 : decode cX1_of 11 = .ok (.iload_n 3, 1) := by decide +kernel
theorem dX1_of_12 : decode cX1_of 12 = .ok (.aload_n 0, 1) := by decide +kernel
theorem dX1_of_13 : decode cX1_of 13 = .ok (.getfield 9, 3) := by decide +kernel
theorem dX1_of_16 : decode cX1_of 16 = .ok (.arraylength, 1) := by decide +kernel
theorem dX1_of_17 : decode cX1_of 17 = .ok (.if_icmp .ge 12, 3) := by decide +kernel
theorem dX1_of_20 : decode cX1_of 20 = .ok (.aload_n 0, 1) := by decide +kernel
theorem dX1_of_21 : decode cX1_of 21 = .ok (.getfield 9, 3) := by decide +kernel
theorem dX1_of_24 : decode cX1_of 24 = .ok (.iload_n 3, 1) := by decide +kernel
theorem dX1_of_25 : decode cX1_of 25 = .ok (.iaload, 1) := by decide +kernel
theorem dX1_of_26 : decode cX1_of 26 = .ok (.goto 4, 3) := by decide +kernel
theorem dX1_of_29 : decode cX1_of 29 = .ok (.iconst 0, 1) := by decide +kernel
theorem dX1_of_30 : decode cX1_of 30 = .ok (.ireturn, 1) := by decide +kernel
theorem dX1_set_0 : decode cX1_set 0 = .ok (.iload_n 1, 1) := by decide +kernel
theorem dX1_set_1 : decode cX1_set 1 = .ok (.bipush 9, 2) := by decide +kernel
theorem dX1_set_3 : decode cX1_set 3 = .ok (.imul, 1) := by decide +kernel
theorem dX1_set_4 : decode cX1_set 4 = .ok (.iload_n 2, 1) := by decide +kernel
theorem dX1_set_5 : decode cX1_set 5 = .ok (.iadd, 1) := by decide +kernel
theorem dX1_set_6 : decode cX1_set 6 = .ok (.istore 4, 2) := by decide +kernel
theorem dX1_set_8 : decode cX1_set 8 = .ok (.iload 4, 2) := by decide +kernel
theorem dX1_set_10 : decode cX1_set 10 = .ok (.ifCond .lt 21, 3) := by decide +kernel
theorem dX1_set_13 : decode cX1_set 13 = .ok (.iload 4, 2) := by decide +kernel
theorem dX1_set_15 : decode cX1_set 15 = .ok (.aload_n 0, 1) := by decide +kernel
theorem dX1_set_16 : decode cX1_set 16 = .ok (.getfield 9, 3) := by decide +kernel
theorem dX1_set_19 : decode cX1_set 19 = .ok (.arraylength, 1) := by decide +kernel
theorem dX1_set_20 : decode cX1_set 20 = .ok (.if_icmp .ge 11, 3) := by decide +kernel
theorem dX1_set_23 : decode cX1_set 23 = .ok (.aload_n 0, 1) := by decide +kernel
theorem dX1_set_24 : decode cX1_set 24 = .ok (.getfield 9, 3) := by decide +kernel
theorem dX1_set_27 : decode cX1_set 27 = .ok (.iload 4, 2) := by decide +kernel
theorem dX1_set_29 : decode cX1_set 29 = .ok (.iload_n 3, 1) := by decide +kernel
theorem dX1_set_30 : decode cX1_set 30 = .ok (.iastore, 1) := by decide +kernel
theorem dX1_set_31 : decode cX1_set 31 = .ok (.return_, 1) := by decide +kernel
theorem dX1_add_0 : decode cX1_add 0 = .ok (.aload_n 0, 1) := by decide +kernel
theorem dX1_add_1 : decode cX1_add 1 = .ok (.iload_n 1, 1) := by decide +kernel
theorem dX1_add_2 : decode cX1_add 2 = .ok (.iload_n 2, 1) := by decide +kernel
theorem dX1_add_3 : decode cX1_add 3 = .ok (.aload_n 0, 1) := by decide +kernel
theorem dX1_add_4 : decode cX1_add 4 = .ok (.iload_n 1, 1) := by decide +kernel
theorem dX1_add_5 : decode cX1_add 5 = .ok (.iload_n 2, 1) := by decide +kernel
theorem dX1_add_6 : decode cX1_add 6 = .ok (.invokevirtual 32, 3) := by decide +kernel
theorem dX1_add_9 : decode cX1_add 9 = .ok (.iload_n 3, 1) := by decide +kernel
theorem dX1_add_10 : decode cX1_add 10 = .ok (.iadd, 1) := by decide +kernel
theorem dX1_add_11 : decode cX1_add 11 = .ok (.invokevirtual 36, 3) := by decide +kernel
theorem dX1_add_14 : decode cX1_add 14 = .ok (.return_, 1) := by decide +kernel
theorem dX1_has_0 : decode cX1_has 0 = .ok (.iload_n 1, 1) := by decide +kernel
theorem dX1_has_1 : decode cX1_has 1 = .ok (.ifCond .lt 16, 3) := by decide +kernel
theorem dX1_has_4 : decode cX1_has 4 = .ok (.iload_n 1, 1) := by decide +kernel
theorem dX1_has_5 : decode cX1_has 5 = .ok (.aload_n 0, 1) := by decide +kernel
theorem dX1_has_6 : decode cX1_has 6 = .ok (.iconst 0, 1) := by decide +kernel
theorem dX1_has_7 : decode cX1_has 7 = .ok (.invokevirtual 28, 3) := by decide +kernel
theorem dX1_has_10 : decode cX1_has 10 = .ok (.if_icmp .ge 7, 3) := by decide +kernel
theorem dX1_has_13 : decode cX1_has 13 = .ok (.iconst 1, 1) := by decide +kernel
theorem dX1_has_14 : decode cX1_has 14 = .ok (.goto 4, 3) := by decide +kernel
theorem dX1_has_17 : decode cX1_has 17 = .ok (.iconst 0, 1) := by decide +kernel
theorem dX1_has_18 : decode cX1_has 18 = .ok (.ireturn, 1) := by decide +kernel
theorem dX1_isOver_0 : decode cX1_isOver 0 = .ok (.aload_n 0, 1) := by decide +kernel
theorem dX1_isOver_1 : decode cX1_isOver 1 = .ok (.iconst 1, 1) := by decide +kernel
theorem dX1_isOver_2 : decode cX1_isOver 2 = .ok (.invokevirtual 28, 3) := by decide +kernel
theorem dX1_isOver_5 : decode cX1_isOver 5 = .ok (.bipush 48, 2) := by decide +kernel
theorem dX1_isOver_7 : decode cX1_isOver 7 = .ok (.if_icmp .lt 7, 3) := by decide +kernel
theorem dX1_isOver_10 : decode cX1_isOver 10 = .ok (.iconst 1, 1) := by decide +kernel
theorem dX1_isOver_11 : decode cX1_isOver 11 = .ok (.goto 4, 3) := by decide +kernel
theorem dX1_isOver_14 : decode cX1_isOver 14 = .ok (.iconst 0, 1) := by decide +kernel
theorem dX1_isOver_15 : decode cX1_isOver 15 = .ok (.ireturn, 1) := by decide +kernel
theorem dX1_isDryNow_0 : decode cX1_isDryNow 0 = .ok (.iload_n 1, 1) := by decide +kernel
theorem dX1_isDryNow_1 : decode cX1_isDryNow 1 = .ok (.invokestatic 40, 3) := by decide +kernel
theorem dX1_isDryNow_4 : decode cX1_isDryNow 4 = .ok (.ifCond .eq 19, 3) := by decide +kernel
theorem dX1_isDryNow_7 : decode cX1_isDryNow 7 = .ok (.aload_n 0, 1) := by decide +kernel
theorem dX1_isDryNow_8 : decode cX1_isDryNow 8 = .ok (.iconst 1, 1) := by decide +kernel
theorem dX1_isDryNow_9 : decode cX1_isDryNow 9 = .ok (.invokevirtual 28, 3) := by decide +kernel
theorem dX1_isDryNow_12 : decode cX1_isDryNow 12 = .ok (.invokestatic 44, 3) := by decide +kernel
theorem dX1_isDryNow_15 : decode cX1_isDryNow 15 = .ok (.iconst 2, 1) := by decide +kernel
theorem dX1_isDryNow_16 : decode cX1_isDryNow 16 = .ok (.if_icmp .gt 7, 3) := by decide +kernel
theorem dX1_isDryNow_19 : decode cX1_isDryNow 19 = .ok (.iconst 1, 1) := by decide +kernel
theorem dX1_isDryNow_20 : decode cX1_isDryNow 20 = .ok (.goto 4, 3) := by decide +kernel
theorem dX1_isDryNow_23 : decode cX1_isDryNow 23 = .ok (.iconst 0, 1) := by decide +kernel
theorem dX1_isDryNow_24 : decode cX1_isDryNow 24 = .ok (.ireturn, 1) := by decide +kernel
theorem dX1_strokesToTurn_0 : decode cX1_strokesToTurn 0 = .ok (.aload_n 0, 1) := by decide +kernel
theorem dX1_strokesToTurn_1 : decode cX1_strokesToTurn 1 = .ok (.iconst 1, 1) := by decide +kernel
theorem dX1_strokesToTurn_2 : decode cX1_strokesToTurn 2 = .ok (.invokevirtual 28, 3) := by decide +kernel
theorem dX1_strokesToTurn_5 : decode cX1_strokesToTurn 5 = .ok (.istore_n 1, 1) := by decide +kernel
theorem dX1_strokesToTurn_6 : decode cX1_strokesToTurn 6 = .ok (.iload_n 1, 1) := by decide +kernel
theorem dX1_strokesToTurn_7 : decode cX1_strokesToTurn 7 = .ok (.invokestatic 44, 3) := by decide +kernel
theorem dX1_strokesToTurn_10 : decode cX1_strokesToTurn 10 = .ok (.iconst 2, 1) := by decide +kernel
theorem dX1_strokesToTurn_11 : decode cX1_strokesToTurn 11 = .ok (.if_icmp .gt 7, 3) := by decide +kernel
theorem dX1_strokesToTurn_14 : decode cX1_strokesToTurn 14 = .ok (.iconst 1, 1) := by decide +kernel
theorem dX1_strokesToTurn_15 : decode cX1_strokesToTurn 15 = .ok (.goto 4, 3) := by decide +kernel
theorem dX1_strokesToTurn_18 : decode cX1_strokesToTurn 18 = .ok (.iconst 0, 1) := by decide +kernel
theorem dX1_strokesToTurn_19 : decode cX1_strokesToTurn 19 = .ok (.istore_n 2, 1) := by decide +kernel
theorem dX1_strokesToTurn_20 : decode cX1_strokesToTurn 20 = .ok (.iconst 1, 1) := by decide +kernel
theorem dX1_strokesToTurn_21 : decode cX1_strokesToTurn 21 = .ok (.istore_n 3, 1) := by decide +kernel
theorem dX1_strokesToTurn_22 : decode cX1_strokesToTurn 22 = .ok (.iload_n 3, 1) := by decide +kernel
theorem dX1_strokesToTurn_23 : decode cX1_strokesToTurn 23 = .ok (.bipush 16, 2) := by decide +kernel
theorem dX1_strokesToTurn_25 : decode cX1_strokesToTurn 25 = .ok (.if_icmp .ge 28, 3) := by decide +kernel
theorem dX1_strokesToTurn_28 : decode cX1_strokesToTurn 28 = .ok (.iload_n 1, 1) := by decide +kernel
theorem dX1_strokesToTurn_29 : decode cX1_strokesToTurn 29 = .ok (.iload_n 3, 1) := by decide +kernel
theorem dX1_strokesToTurn_30 : decode cX1_strokesToTurn 30 = .ok (.iadd, 1) := by decide +kernel
theorem dX1_strokesToTurn_31 : decode cX1_strokesToTurn 31 = .ok (.invokestatic 44, 3) := by decide +kernel
theorem dX1_strokesToTurn_34 : decode cX1_strokesToTurn 34 = .ok (.iconst 2, 1) := by decide +kernel
theorem dX1_strokesToTurn_35 : decode cX1_strokesToTurn 35 = .ok (.if_icmp .gt 7, 3) := by decide +kernel
theorem dX1_strokesToTurn_38 : decode cX1_strokesToTurn 38 = .ok (.iconst 1, 1) := by decide +kernel
theorem dX1_strokesToTurn_39 : decode cX1_strokesToTurn 39 = .ok (.goto 4, 3) := by decide +kernel
theorem dX1_strokesToTurn_42 : decode cX1_strokesToTurn 42 = .ok (.iconst 0, 1) := by decide +kernel
theorem dX1_strokesToTurn_43 : decode cX1_strokesToTurn 43 = .ok (.iload_n 2, 1) := by decide +kernel
theorem dX1_strokesToTurn_44 : decode cX1_strokesToTurn 44 = .ok (.if_icmp .ne 9, 3) := by decide +kernel
theorem dX1_strokesToTurn_47 : decode cX1_strokesToTurn 47 = .ok (.iinc 3 1, 3) := by decide +kernel
theorem dX1_strokesToTurn_50 : decode cX1_strokesToTurn 50 = .ok (.goto (-28), 3) := by decide +kernel
theorem dX1_strokesToTurn_53 : decode cX1_strokesToTurn 53 = .ok (.iload_n 3, 1) := by decide +kernel
theorem dX1_strokesToTurn_54 : decode cX1_strokesToTurn 54 = .ok (.ireturn, 1) := by decide +kernel
theorem dX1_isPlaying_0 : decode cX1_isPlaying 0 = .ok (.aload_n 0, 1) := by decide +kernel
theorem dX1_isPlaying_1 : decode cX1_isPlaying 1 = .ok (.iload_n 1, 1) := by decide +kernel
theorem dX1_isPlaying_2 : decode cX1_isPlaying 2 = .ok (.iconst 4, 1) := by decide +kernel
theorem dX1_isPlaying_3 : decode cX1_isPlaying 3 = .ok (.invokevirtual 32, 3) := by decide +kernel
theorem dX1_isPlaying_6 : decode cX1_isPlaying 6 = .ok (.iconst (-1), 1) := by decide +kernel
theorem dX1_isPlaying_7 : decode cX1_isPlaying 7 = .ok (.if_icmp .eq 7, 3) := by decide +kernel
theorem dX1_isPlaying_10 : decode cX1_isPlaying 10 = .ok (.iconst 1, 1) := by decide +kernel
theorem dX1_isPlaying_11 : decode cX1_isPlaying 11 = .ok (.goto 4, 3) := by decide +kernel
theorem dX1_isPlaying_14 : decode cX1_isPlaying 14 = .ok (.iconst 0, 1) := by decide +kernel
theorem dX1_isPlaying_15 : decode cX1_isPlaying 15 = .ok (.ireturn, 1) := by decide +kernel
theorem dX1_isStranded_0 : decode cX1_isStranded 0 = .ok (.aload_n 0, 1) := by decide +kernel
theorem dX1_isStranded_1 : decode cX1_isStranded 1 = .ok (.iload_n 1, 1) := by decide +kernel
theorem dX1_isStranded_2 : decode cX1_isStranded 2 = .ok (.iconst 4, 1) := by decide +kernel
theorem dX1_isStranded_3 : decode cX1_isStranded 3 = .ok (.invokevirtual 32, 3) := by decide +kernel
theorem dX1_isStranded_6 : decode cX1_isStranded 6 = .ok (.istore_n 2, 1) := by decide +kernel
theorem dX1_isStranded_7 : decode cX1_isStranded 7 = .ok (.iload_n 2, 1) := by decide +kernel
theorem dX1_isStranded_8 : decode cX1_isStranded 8 = .ok (.iconst (-1), 1) := by decide +kernel
theorem dX1_isStranded_9 : decode cX1_isStranded 9 = .ok (.if_icmp .eq 15, 3) := by decide +kernel
theorem dX1_isStranded_12 : decode cX1_isStranded 12 = .ok (.aload_n 0, 1) := by decide +kernel
theorem dX1_isStranded_13 : decode cX1_isStranded 13 = .ok (.iload_n 2, 1) := by decide +kernel
theorem dX1_isStranded_14 : decode cX1_isStranded 14 = .ok (.invokevirtual 47, 3) := by decide +kernel
theorem dX1_isStranded_17 : decode cX1_isStranded 17 = .ok (.ifCond .eq 7, 3) := by decide +kernel
theorem dX1_isStranded_20 : decode cX1_isStranded 20 = .ok (.iconst 1, 1) := by decide +kernel
theorem dX1_isStranded_21 : decode cX1_isStranded 21 = .ok (.goto 4, 3) := by decide +kernel
theorem dX1_isStranded_24 : decode cX1_isStranded 24 = .ok (.iconst 0, 1) := by decide +kernel
theorem dX1_isStranded_25 : decode cX1_isStranded 25 = .ok (.ireturn, 1) := by decide +kernel
theorem dX1_whaleOn_0 : decode cX1_whaleOn 0 = .ok (.iconst 0, 1) := by decide +kernel
theorem dX1_whaleOn_1 : decode cX1_whaleOn 1 = .ok (.istore_n 2, 1) := by decide +kernel
theorem dX1_whaleOn_2 : decode cX1_whaleOn 2 = .ok (.iload_n 2, 1) := by decide +kernel
theorem dX1_whaleOn_3 : decode cX1_whaleOn 3 = .ok (.aload_n 0, 1) := by decide +kernel
theorem dX1_whaleOn_4 : decode cX1_whaleOn 4 = .ok (.iconst 0, 1) := by decide +kernel
theorem dX1_whaleOn_5 : decode cX1_whaleOn 5 = .ok (.invokevirtual 28, 3) := by decide +kernel
theorem dX1_whaleOn_8 : decode cX1_whaleOn 8 = .ok (.if_icmp .ge 21, 3) := by decide +kernel
theorem dX1_whaleOn_11 : decode cX1_whaleOn 11 = .ok (.aload_n 0, 1) := by decide +kernel
theorem dX1_whaleOn_12 : decode cX1_whaleOn 12 = .ok (.iload_n 2, 1) := by decide +kernel
theorem dX1_whaleOn_13 : decode cX1_whaleOn 13 = .ok (.iconst 4, 1) := by decide +kernel
theorem dX1_whaleOn_14 : decode cX1_whaleOn 14 = .ok (.invokevirtual 32, 3) := by decide +kernel
theorem dX1_whaleOn_17 : decode cX1_whaleOn 17 = .ok (.iload_n 1, 1) := by decide +kernel
theorem dX1_whaleOn_18 : decode cX1_whaleOn 18 = .ok (.if_icmp .ne 5, 3) := by decide +kernel
theorem dX1_whaleOn_21 : decode cX1_whaleOn 21 = .ok (.iload_n 2, 1) := by decide +kernel
theorem dX1_whaleOn_22 : decode cX1_whaleOn 22 = .ok (.ireturn, 1) := by decide +kernel
theorem dX1_whaleOn_23 : decode cX1_whaleOn 23 = .ok (.iinc 2 1, 3) := by decide +kernel
theorem dX1_whaleOn_26 : decode cX1_whaleOn 26 = .ok (.goto (-24), 3) := by decide +kernel
theorem dX1_whaleOn_29 : decode cX1_whaleOn 29 = .ok (.iconst (-1), 1) := by decide +kernel
theorem dX1_whaleOn_30 : decode cX1_whaleOn 30 = .ok (.ireturn, 1) := by decide +kernel
theorem dX1_countOf_0 : decode cX1_countOf 0 = .ok (.iconst 0, 1) := by decide +kernel
theorem dX1_countOf_1 : decode cX1_countOf 1 = .ok (.istore_n 2, 1) := by decide +kernel
theorem dX1_countOf_2 : decode cX1_countOf 2 = .ok (.iconst 0, 1) := by decide +kernel
theorem dX1_countOf_3 : decode cX1_countOf 3 = .ok (.istore_n 3, 1) := by decide +kernel
theorem dX1_countOf_4 : decode cX1_countOf 4 = .ok (.iload_n 3, 1) := by decide +kernel
theorem dX1_countOf_5 : decode cX1_countOf 5 = .ok (.aload_n 0, 1) := by decide +kernel
theorem dX1_countOf_6 : decode cX1_countOf 6 = .ok (.iconst 0, 1) := by decide +kernel
theorem dX1_countOf_7 : decode cX1_countOf 7 = .ok (.invokevirtual 28, 3) := by decide +kernel
theorem dX1_countOf_10 : decode cX1_countOf 10 = .ok (.if_icmp .ge 27, 3) := by decide +kernel
theorem dX1_countOf_13 : decode cX1_countOf 13 = .ok (.iload_n 2, 1) := by decide +kernel
theorem dX1_countOf_14 : decode cX1_countOf 14 = .ok (.aload_n 0, 1) := by decide +kernel
theorem dX1_countOf_15 : decode cX1_countOf 15 = .ok (.iload_n 3, 1) := by decide +kernel
theorem dX1_countOf_16 : decode cX1_countOf 16 = .ok (.iconst 0, 1) := by decide +kernel
theorem dX1_countOf_17 : decode cX1_countOf 17 = .ok (.invokevirtual 32, 3) := by decide +kernel
theorem dX1_countOf_20 : decode cX1_countOf 20 = .ok (.iload_n 1, 1) := by decide +kernel
theorem dX1_countOf_21 : decode cX1_countOf 21 = .ok (.if_icmp .ne 7, 3) := by decide +kernel
theorem dX1_countOf_24 : decode cX1_countOf 24 = .ok (.iconst 1, 1) := by decide +kernel
theorem dX1_countOf_25 : decode cX1_countOf 25 = .ok (.goto 4, 3) := by decide +kernel
theorem dX1_countOf_28 : decode cX1_countOf 28 = .ok (.iconst 0, 1) := by decide +kernel
theorem dX1_countOf_29 : decode cX1_countOf 29 = .ok (.iadd, 1) := by decide +kernel
theorem dX1_countOf_30 : decode cX1_countOf 30 = .ok (.istore_n 2, 1) := by decide +kernel
theorem dX1_countOf_31 : decode cX1_countOf 31 = .ok (.iinc 3 1, 3) := by decide +kernel
theorem dX1_countOf_34 : decode cX1_countOf 34 = .ok (.goto (-30), 3) := by decide +kernel
theorem dX1_countOf_37 : decode cX1_countOf 37 = .ok (.iload_n 2, 1) := by decide +kernel
theorem dX1_countOf_38 : decode cX1_countOf 38 = .ok (.ireturn, 1) := by decide +kernel
theorem dX1_countPlaying_0 : decode cX1_countPlaying 0 = .ok (.iconst 0, 1) := by decide +kernel
theorem dX1_countPlaying_1 : decode cX1_countPlaying 1 = .ok (.istore_n 2, 1) := by decide +kernel
theorem dX1_countPlaying_2 : decode cX1_countPlaying 2 = .ok (.iconst 0, 1) := by decide +kernel
theorem dX1_countPlaying_3 : decode cX1_countPlaying 3 = .ok (.istore_n 3, 1) := by decide +kernel
theorem dX1_countPlaying_4 : decode cX1_countPlaying 4 = .ok (.iload_n 3, 1) := by decide +kernel
theorem dX1_countPlaying_5 : decode cX1_countPlaying 5 = .ok (.aload_n 0, 1) := by decide +kernel
theorem dX1_countPlaying_6 : decode cX1_countPlaying 6 = .ok (.iconst 0, 1) := by decide +kernel
theorem dX1_countPlaying_7 : decode cX1_countPlaying 7 = .ok (.invokevirtual 28, 3) := by decide +kernel
theorem dX1_countPlaying_10 : decode cX1_countPlaying 10 = .ok (.if_icmp .ge 35, 3) := by decide +kernel
theorem dX1_countPlaying_13 : decode cX1_countPlaying 13 = .ok (.iload_n 2, 1) := by decide +kernel
theorem dX1_countPlaying_14 : decode cX1_countPlaying 14 = .ok (.aload_n 0, 1) := by decide +kernel
theorem dX1_countPlaying_15 : decode cX1_countPlaying 15 = .ok (.iload_n 3, 1) := by decide +kernel
theorem dX1_countPlaying_16 : decode cX1_countPlaying 16 = .ok (.iconst 0, 1) := by decide +kernel
theorem dX1_countPlaying_17 : decode cX1_countPlaying 17 = .ok (.invokevirtual 32, 3) := by decide +kernel
theorem dX1_countPlaying_20 : decode cX1_countPlaying 20 = .ok (.iload_n 1, 1) := by decide +kernel
theorem dX1_countPlaying_21 : decode cX1_countPlaying 21 = .ok (.if_icmp .ne 15, 3) := by decide +kernel
theorem dX1_countPlaying_24 : decode cX1_countPlaying 24 = .ok (.aload_n 0, 1) := by decide +kernel
theorem dX1_countPlaying_25 : decode cX1_countPlaying 25 = .ok (.iload_n 3, 1) := by decide +kernel
theorem dX1_countPlaying_26 : decode cX1_countPlaying 26 = .ok (.invokevirtual 50, 3) := by decide +kernel
theorem dX1_countPlaying_29 : decode cX1_countPlaying 29 = .ok (.ifCond .eq 7, 3) := by decide +kernel
theorem dX1_countPlaying_32 : decode cX1_countPlaying 32 = .ok (.iconst 1, 1) := by decide +kernel
theorem dX1_countPlaying_33 : decode cX1_countPlaying 33 = .ok (.goto 4, 3) := by decide +kernel
theorem dX1_countPlaying_36 : decode cX1_countPlaying 36 = .ok (.iconst 0, 1) := by decide +kernel
theorem dX1_countPlaying_37 : decode cX1_countPlaying 37 = .ok (.iadd, 1) := by decide +kernel
theorem dX1_countPlaying_38 : decode cX1_countPlaying 38 = .ok (.istore_n 2, 1) := by decide +kernel
theorem dX1_countPlaying_39 : decode cX1_countPlaying 39 = .ok (.iinc 3 1, 3) := by decide +kernel
theorem dX1_countPlaying_42 : decode cX1_countPlaying 42 = .ok (.goto (-38), 3) := by decide +kernel
theorem dX1_countPlaying_45 : decode cX1_countPlaying 45 = .ok (.iload_n 2, 1) := by decide +kernel
theorem dX1_countPlaying_46 : decode cX1_countPlaying 46 = .ok (.ireturn, 1) := by decide +kernel
theorem dX1_firstCell_0 : decode cX1_firstCell 0 = .ok (.aload_n 0, 1) := by decide +kernel
theorem dX1_firstCell_1 : decode cX1_firstCell 1 = .ok (.iload_n 1, 1) := by decide +kernel
theorem dX1_firstCell_2 : decode cX1_firstCell 2 = .ok (.invokevirtual 53, 3) := by decide +kernel
theorem dX1_firstCell_5 : decode cX1_firstCell 5 = .ok (.istore_n 2, 1) := by decide +kernel
theorem dX1_firstCell_6 : decode cX1_firstCell 6 = .ok (.iload_n 2, 1) := by decide +kernel
theorem dX1_firstCell_7 : decode cX1_firstCell 7 = .ok (.iconst 3, 1) := by decide +kernel
theorem dX1_firstCell_8 : decode cX1_firstCell 8 = .ok (.if_icmp .lt 5, 3) := by decide +kernel
theorem dX1_firstCell_11 : decode cX1_firstCell 11 = .ok (.iconst (-1), 1) := by decide +kernel
theorem dX1_firstCell_12 : decode cX1_firstCell 12 = .ok (.ireturn, 1) := by decide +kernel
theorem dX1_firstCell_13 : decode cX1_firstCell 13 = .ok (.iload_n 1, 1) := by decide +kernel
theorem dX1_firstCell_14 : decode cX1_firstCell 14 = .ok (.ifCond .ne 8, 3) := by decide +kernel
theorem dX1_firstCell_17 : decode cX1_firstCell 17 = .ok (.bipush 10, 2) := by decide +kernel
theorem dX1_firstCell_19 : decode cX1_firstCell 19 = .ok (.goto 5, 3) := by decide +kernel
theorem dX1_firstCell_22 : decode cX1_firstCell 22 = .ok (.bipush 16, 2) := by decide +kernel
theorem dX1_firstCell_24 : decode cX1_firstCell 24 = .ok (.istore_n 3, 1) := by decide +kernel
theorem dX1_firstCell_25 : decode cX1_firstCell 25 = .ok (.iload_n 3, 1) := by decide +kernel
theorem dX1_firstCell_26 : decode cX1_firstCell 26 = .ok (.iload_n 2, 1) := by decide +kernel
theorem dX1_firstCell_27 : decode cX1_firstCell 27 = .ok (.bipush 9, 2) := by decide +kernel
theorem dX1_firstCell_29 : decode cX1_firstCell 29 = .ok (.imul, 1) := by decide +kernel
theorem dX1_firstCell_30 : decode cX1_firstCell 30 = .ok (.iadd, 1) := by decide +kernel
theorem dX1_firstCell_31 : decode cX1_firstCell 31 = .ok (.ireturn, 1) := by decide +kernel
theorem dX1_isNearBuoy_0 : decode cX1_isNearBuoy 0 = .ok (.aload_n 0, 1) := by decide +kernel
theorem dX1_isNearBuoy_1 : decode cX1_isNearBuoy 1 = .ok (.iload_n 1, 1) := by decide +kernel
theorem dX1_isNearBuoy_2 : decode cX1_isNearBuoy 2 = .ok (.iconst 4, 1) := by decide +kernel
theorem dX1_isNearBuoy_3 : decode cX1_isNearBuoy 3 = .ok (.invokevirtual 32, 3) := by decide +kernel
theorem dX1_isNearBuoy_6 : decode cX1_isNearBuoy 6 = .ok (.istore_n 2, 1) := by decide +kernel
theorem dX1_isNearBuoy_7 : decode cX1_isNearBuoy 7 = .ok (.iload_n 2, 1) := by decide +kernel
theorem dX1_isNearBuoy_8 : decode cX1_isNearBuoy 8 = .ok (.iconst (-1), 1) := by decide +kernel
theorem dX1_isNearBuoy_9 : decode cX1_isNearBuoy 9 = .ok (.if_icmp .eq 20, 3) := by decide +kernel
theorem dX1_isNearBuoy_12 : decode cX1_isNearBuoy 12 = .ok (.iload_n 2, 1) := by decide +kernel
theorem dX1_isNearBuoy_13 : decode cX1_isNearBuoy 13 = .ok (.aload_n 0, 1) := by decide +kernel
theorem dX1_isNearBuoy_14 : decode cX1_isNearBuoy 14 = .ok (.iconst 5, 1) := by decide +kernel
theorem dX1_isNearBuoy_15 : decode cX1_isNearBuoy 15 = .ok (.invokevirtual 28, 3) := by decide +kernel
theorem dX1_isNearBuoy_18 : decode cX1_isNearBuoy 18 = .ok (.invokestatic 56, 3) := by decide +kernel
theorem dX1_isNearBuoy_21 : decode cX1_isNearBuoy 21 = .ok (.iconst 1, 1) := by decide +kernel
theorem dX1_isNearBuoy_22 : decode cX1_isNearBuoy 22 = .ok (.if_icmp .gt 7, 3) := by decide +kernel
theorem dX1_isNearBuoy_25 : decode cX1_isNearBuoy 25 = .ok (.iconst 1, 1) := by decide +kernel
theorem dX1_isNearBuoy_26 : decode cX1_isNearBuoy 26 = .ok (.goto 4, 3) := by decide +kernel
theorem dX1_isNearBuoy_29 : decode cX1_isNearBuoy 29 = .ok (.iconst 0, 1) := by decide +kernel
theorem dX1_isNearBuoy_30 : decode cX1_isNearBuoy 30 = .ok (.ireturn, 1) := by decide +kernel
theorem dX1_isFoulBy_0 : decode cX1_isFoulBy 0 = .ok (.aload_n 0, 1) := by decide +kernel
theorem dX1_isFoulBy_1 : decode cX1_isFoulBy 1 = .ok (.bipush 6, 2) := by decide +kernel
theorem dX1_isFoulBy_3 : decode cX1_isFoulBy 3 = .ok (.invokevirtual 28, 3) := by decide +kernel
theorem dX1_isFoulBy_6 : decode cX1_isFoulBy 6 = .ok (.istore_n 2, 1) := by decide +kernel
theorem dX1_isFoulBy_7 : decode cX1_isFoulBy 7 = .ok (.iload_n 2, 1) := by decide +kernel
theorem dX1_isFoulBy_8 : decode cX1_isFoulBy 8 = .ok (.iconst (-1), 1) := by decide +kernel
theorem dX1_isFoulBy_9 : decode cX1_isFoulBy 9 = .ok (.if_icmp .eq 13, 3) := by decide +kernel
theorem dX1_isFoulBy_12 : decode cX1_isFoulBy 12 = .ok (.iload_n 2, 1) := by decide +kernel
theorem dX1_isFoulBy_13 : decode cX1_isFoulBy 13 = .ok (.aload_n 0, 1) := by decide +kernel
theorem dX1_isFoulBy_14 : decode cX1_isFoulBy 14 = .ok (.iload_n 1, 1) := by decide +kernel
theorem dX1_isFoulBy_15 : decode cX1_isFoulBy 15 = .ok (.iconst 0, 1) := by decide +kernel
theorem dX1_isFoulBy_16 : decode cX1_isFoulBy 16 = .ok (.invokevirtual 32, 3) := by decide +kernel
theorem dX1_isFoulBy_19 : decode cX1_isFoulBy 19 = .ok (.if_icmp .ne 5, 3) := by decide +kernel
theorem dX1_isFoulBy_22 : decode cX1_isFoulBy 22 = .ok (.iconst 0, 1) := by decide +kernel
theorem dX1_isFoulBy_23 : decode cX1_isFoulBy 23 = .ok (.ireturn, 1) := by decide +kernel
theorem dX1_isFoulBy_24 : decode cX1_isFoulBy 24 = .ok (.iconst 0, 1) := by decide +kernel
theorem dX1_isFoulBy_25 : decode cX1_isFoulBy 25 = .ok (.istore_n 3, 1) := by decide +kernel
theorem dX1_isFoulBy_26 : decode cX1_isFoulBy 26 = .ok (.iload_n 3, 1) := by decide +kernel
theorem dX1_isFoulBy_27 : decode cX1_isFoulBy 27 = .ok (.aload_n 0, 1) := by decide +kernel
theorem dX1_isFoulBy_28 : decode cX1_isFoulBy 28 = .ok (.iconst 0, 1) := by decide +kernel
theorem dX1_isFoulBy_29 : decode cX1_isFoulBy 29 = .ok (.invokevirtual 28, 3) := by decide +kernel
theorem dX1_isFoulBy_32 : decode cX1_isFoulBy 32 = .ok (.if_icmp .ge 39, 3) := by decide +kernel
theorem dX1_isFoulBy_35 : decode cX1_isFoulBy 35 = .ok (.aload_n 0, 1) := by decide +kernel
theorem dX1_isFoulBy_36 : decode cX1_isFoulBy 36 = .ok (.iload_n 3, 1) := by decide +kernel
theorem dX1_isFoulBy_37 : decode cX1_isFoulBy 37 = .ok (.iconst 0, 1) := by decide +kernel
theorem dX1_isFoulBy_38 : decode cX1_isFoulBy 38 = .ok (.invokevirtual 32, 3) := by decide +kernel
theorem dX1_isFoulBy_41 : decode cX1_isFoulBy 41 = .ok (.iload_n 2, 1) := by decide +kernel
theorem dX1_isFoulBy_42 : decode cX1_isFoulBy 42 = .ok (.if_icmp .ne 23, 3) := by decide +kernel
theorem dX1_isFoulBy_45 : decode cX1_isFoulBy 45 = .ok (.aload_n 0, 1) := by decide +kernel
theorem dX1_isFoulBy_46 : decode cX1_isFoulBy 46 = .ok (.iload_n 3, 1) := by decide +kernel
theorem dX1_isFoulBy_47 : decode cX1_isFoulBy 47 = .ok (.iconst 5, 1) := by decide +kernel
theorem dX1_isFoulBy_48 : decode cX1_isFoulBy 48 = .ok (.invokevirtual 32, 3) := by decide +kernel
theorem dX1_isFoulBy_51 : decode cX1_isFoulBy 51 = .ok (.iconst 1, 1) := by decide +kernel
theorem dX1_isFoulBy_52 : decode cX1_isFoulBy 52 = .ok (.if_icmp .ne 13, 3) := by decide +kernel
theorem dX1_isFoulBy_55 : decode cX1_isFoulBy 55 = .ok (.aload_n 0, 1) := by decide +kernel
theorem dX1_isFoulBy_56 : decode cX1_isFoulBy 56 = .ok (.iload_n 3, 1) := by decide +kernel
theorem dX1_isFoulBy_57 : decode cX1_isFoulBy 57 = .ok (.invokevirtual 59, 3) := by decide +kernel
theorem dX1_isFoulBy_60 : decode cX1_isFoulBy 60 = .ok (.ifCond .eq 5, 3) := by decide +kernel
theorem dX1_isFoulBy_63 : decode cX1_isFoulBy 63 = .ok (.iconst 1, 1) := by decide +kernel
theorem dX1_isFoulBy_64 : decode cX1_isFoulBy 64 = .ok (.ireturn, 1) := by decide +kernel
theorem dX1_isFoulBy_65 : decode cX1_isFoulBy 65 = .ok (.iinc 3 1, 3) := by decide +kernel
theorem dX1_isFoulBy_68 : decode cX1_isFoulBy 68 = .ok (.goto (-42), 3) := by decide +kernel
theorem dX1_isFoulBy_71 : decode cX1_isFoulBy 71 = .ok (.iconst 0, 1) := by decide +kernel
theorem dX1_isFoulBy_72 : decode cX1_isFoulBy 72 = .ok (.ireturn, 1) := by decide +kernel
theorem dX1_addWhale_0 : decode cX1_addWhale 0 = .ok (.aload_n 0, 1) := by decide +kernel
theorem dX1_addWhale_1 : decode cX1_addWhale 1 = .ok (.iconst 0, 1) := by decide +kernel
theorem dX1_addWhale_2 : decode cX1_addWhale 2 = .ok (.invokevirtual 28, 3) := by decide +kernel
theorem dX1_addWhale_5 : decode cX1_addWhale 5 = .ok (.istore 4, 2) := by decide +kernel
theorem dX1_addWhale_7 : decode cX1_addWhale 7 = .ok (.aload_n 0, 1) := by decide +kernel
theorem dX1_addWhale_8 : decode cX1_addWhale 8 = .ok (.iload 4, 2) := by decide +kernel
theorem dX1_addWhale_10 : decode cX1_addWhale 10 = .ok (.iconst 4, 1) := by decide +kernel
theorem dX1_addWhale_11 : decode cX1_addWhale 11 = .ok (.aload_n 0, 1) := by decide +kernel
theorem dX1_addWhale_12 : decode cX1_addWhale 12 = .ok (.iload_n 1, 1) := by decide +kernel
theorem dX1_addWhale_13 : decode cX1_addWhale 13 = .ok (.invokevirtual 62, 3) := by decide +kernel
theorem dX1_addWhale_16 : decode cX1_addWhale 16 = .ok (.invokevirtual 36, 3) := by decide +kernel
theorem dX1_addWhale_19 : decode cX1_addWhale 19 = .ok (.aload_n 0, 1) := by decide +kernel
theorem dX1_addWhale_20 : decode cX1_addWhale 20 = .ok (.iload 4, 2) := by decide +kernel
theorem dX1_addWhale_22 : decode cX1_addWhale 22 = .ok (.iconst 0, 1) := by decide +kernel
theorem dX1_addWhale_23 : decode cX1_addWhale 23 = .ok (.iload_n 1, 1) := by decide +kernel
theorem dX1_addWhale_24 : decode cX1_addWhale 24 = .ok (.invokevirtual 36, 3) := by decide +kernel
theorem dX1_addWhale_27 : decode cX1_addWhale 27 = .ok (.aload_n 0, 1) := by decide +kernel
theorem dX1_addWhale_28 : decode cX1_addWhale 28 = .ok (.iload 4, 2) := by decide +kernel
theorem dX1_addWhale_30 : decode cX1_addWhale 30 = .ok (.iconst 1, 1) := by decide +kernel
theorem dX1_addWhale_31 : decode cX1_addWhale 31 = .ok (.iload_n 2, 1) := by decide +kernel
theorem dX1_addWhale_32 : decode cX1_addWhale 32 = .ok (.invokevirtual 36, 3) := by decide +kernel
theorem dX1_addWhale_35 : decode cX1_addWhale 35 = .ok (.aload_n 0, 1) := by decide +kernel
theorem dX1_addWhale_36 : decode cX1_addWhale 36 = .ok (.iload 4, 2) := by decide +kernel
theorem dX1_addWhale_38 : decode cX1_addWhale 38 = .ok (.iconst 2, 1) := by decide +kernel
theorem dX1_addWhale_39 : decode cX1_addWhale 39 = .ok (.iload_n 3, 1) := by decide +kernel
theorem dX1_addWhale_40 : decode cX1_addWhale 40 = .ok (.invokevirtual 36, 3) := by decide +kernel
theorem dX1_addWhale_43 : decode cX1_addWhale 43 = .ok (.aload_n 0, 1) := by decide +kernel
theorem dX1_addWhale_44 : decode cX1_addWhale 44 = .ok (.iload 4, 2) := by decide +kernel
theorem dX1_addWhale_46 : decode cX1_addWhale 46 = .ok (.iconst 3, 1) := by decide +kernel
theorem dX1_addWhale_47 : decode cX1_addWhale 47 = .ok (.bipush 20, 2) := by decide +kernel
theorem dX1_addWhale_49 : decode cX1_addWhale 49 = .ok (.invokevirtual 36, 3) := by decide +kernel
theorem dX1_addWhale_52 : decode cX1_addWhale 52 = .ok (.aload_n 0, 1) := by decide +kernel
theorem dX1_addWhale_53 : decode cX1_addWhale 53 = .ok (.iconst 0, 1) := by decide +kernel
theorem dX1_addWhale_54 : decode cX1_addWhale 54 = .ok (.iconst 1, 1) := by decide +kernel
theorem dX1_addWhale_55 : decode cX1_addWhale 55 = .ok (.invokevirtual 65, 3) := by decide +kernel
theorem dX1_addWhale_58 : decode cX1_addWhale 58 = .ok (.iload 4, 2) := by decide +kernel
theorem dX1_addWhale_60 : decode cX1_addWhale 60 = .ok (.ireturn, 1) := by decide +kernel
theorem dX1_substitute_0 : decode cX1_substitute 0 = .ok (.aload_n 0, 1) := by decide +kernel
theorem dX1_substitute_1 : decode cX1_substitute 1 = .ok (.iload_n 1, 1) := by decide +kernel
theorem dX1_substitute_2 : decode cX1_substitute 2 = .ok (.iconst 0, 1) := by decide +kernel
theorem dX1_substitute_3 : decode cX1_substitute 3 = .ok (.invokevirtual 32, 3) := by decide +kernel
theorem dX1_substitute_6 : decode cX1_substitute 6 = .ok (.istore_n 3, 1) := by decide +kernel
theorem dX1_substitute_7 : decode cX1_substitute 7 = .ok (.aload_n 0, 1) := by decide +kernel
theorem dX1_substitute_8 : decode cX1_substitute 8 = .ok (.iload_n 2, 1) := by decide +kernel
theorem dX1_substitute_9 : decode cX1_substitute 9 = .ok (.iconst 4, 1) := by decide +kernel
theorem dX1_substitute_10 : decode cX1_substitute 10 = .ok (.aload_n 0, 1) := by decide +kernel
theorem dX1_substitute_11 : decode cX1_substitute 11 = .ok (.iload_n 1, 1) := by decide +kernel
theorem dX1_substitute_12 : decode cX1_substitute 12 = .ok (.iconst 4, 1) := by decide +kernel
theorem dX1_substitute_13 : decode cX1_substitute 13 = .ok (.invokevirtual 32, 3) := by decide +kernel
theorem dX1_substitute_16 : decode cX1_substitute 16 = .ok (.invokevirtual 36, 3) := by decide +kernel
theorem dX1_substitute_19 : decode cX1_substitute 19 = .ok (.aload_n 0, 1) := by decide +kernel
theorem dX1_substitute_20 : decode cX1_substitute 20 = .ok (.iload_n 1, 1) := by decide +kernel
theorem dX1_substitute_21 : decode cX1_substitute 21 = .ok (.iconst 4, 1) := by decide +kernel
theorem dX1_substitute_22 : decode cX1_substitute 22 = .ok (.iconst (-1), 1) := by decide +kernel
theorem dX1_substitute_23 : decode cX1_substitute 23 = .ok (.invokevirtual 36, 3) := by decide +kernel
theorem dX1_substitute_26 : decode cX1_substitute 26 = .ok (.aload_n 0, 1) := by decide +kernel
theorem dX1_substitute_27 : decode cX1_substitute 27 = .ok (.iload_n 1, 1) := by decide +kernel
theorem dX1_substitute_28 : decode cX1_substitute 28 = .ok (.iconst 5, 1) := by decide +kernel
theorem dX1_substitute_29 : decode cX1_substitute 29 = .ok (.iconst 0, 1) := by decide +kernel
theorem dX1_substitute_30 : decode cX1_substitute 30 = .ok (.invokevirtual 36, 3) := by decide +kernel
theorem dX1_substitute_33 : decode cX1_substitute 33 = .ok (.aload_n 0, 1) := by decide +kernel
theorem dX1_substitute_34 : decode cX1_substitute 34 = .ok (.bipush 9, 2) := by decide +kernel
theorem dX1_substitute_36 : decode cX1_substitute 36 = .ok (.iconst 1, 1) := by decide +kernel
theorem dX1_substitute_37 : decode cX1_substitute 37 = .ok (.invokevirtual 65, 3) := by decide +kernel
theorem dX1_substitute_40 : decode cX1_substitute 40 = .ok (.aload_n 0, 1) := by decide +kernel
theorem dX1_substitute_41 : decode cX1_substitute 41 = .ok (.bipush 14, 2) := by decide +kernel
theorem dX1_substitute_43 : decode cX1_substitute 43 = .ok (.iload_n 3, 1) := by decide +kernel
theorem dX1_substitute_44 : decode cX1_substitute 44 = .ok (.iadd, 1) := by decide +kernel
theorem dX1_substitute_45 : decode cX1_substitute 45 = .ok (.iconst 1, 1) := by decide +kernel
theorem dX1_substitute_46 : decode cX1_substitute 46 = .ok (.invokevirtual 65, 3) := by decide +kernel
theorem dX1_substitute_49 : decode cX1_substitute 49 = .ok (.aload_n 0, 1) := by decide +kernel
theorem dX1_substitute_50 : decode cX1_substitute 50 = .ok (.bipush 16, 2) := by decide +kernel
theorem dX1_substitute_52 : decode cX1_substitute 52 = .ok (.iload_n 3, 1) := by decide +kernel
theorem dX1_substitute_53 : decode cX1_substitute 53 = .ok (.iadd, 1) := by decide +kernel
theorem dX1_substitute_54 : decode cX1_substitute 54 = .ok (.iconst 1, 1) := by decide +kernel
theorem dX1_substitute_55 : decode cX1_substitute 55 = .ok (.invokevirtual 65, 3) := by decide +kernel
theorem dX1_substitute_58 : decode cX1_substitute 58 = .ok (.iconst 2, 1) := by decide +kernel
theorem dX1_substitute_59 : decode cX1_substitute 59 = .ok (.aload_n 0, 1) := by decide +kernel
theorem dX1_substitute_60 : decode cX1_substitute 60 = .ok (.bipush 16, 2) := by decide +kernel
theorem dX1_substitute_62 : decode cX1_substitute 62 = .ok (.iload_n 3, 1) := by decide +kernel
theorem dX1_substitute_63 : decode cX1_substitute 63 = .ok (.iadd, 1) := by decide +kernel
theorem dX1_substitute_64 : decode cX1_substitute 64 = .ok (.invokevirtual 28, 3) := by decide +kernel
theorem dX1_substitute_67 : decode cX1_substitute 67 = .ok (.isub, 1) := by decide +kernel
theorem dX1_substitute_68 : decode cX1_substitute 68 = .ok (.istore 4, 2) := by decide +kernel
theorem dX1_substitute_70 : decode cX1_substitute 70 = .ok (.aload_n 0, 1) := by decide +kernel
theorem dX1_substitute_71 : decode cX1_substitute 71 = .ok (.invokevirtual 68, 3) := by decide +kernel
theorem dX1_substitute_74 : decode cX1_substitute 74 = .ok (.pop, 1) := by decide +kernel
theorem dX1_substitute_75 : decode cX1_substitute 75 = .ok (.iload 4, 2) := by decide +kernel
theorem dX1_substitute_77 : decode cX1_substitute 77 = .ok (.ireturn, 1) := by decide +kernel
theorem dX1_move_0 : decode cX1_move 0 = .ok (.aload_n 0, 1) := by decide +kernel
theorem dX1_move_1 : decode cX1_move 1 = .ok (.iload_n 1, 1) := by decide +kernel
theorem dX1_move_2 : decode cX1_move 2 = .ok (.iconst 4, 1) := by decide +kernel
theorem dX1_move_3 : decode cX1_move 3 = .ok (.iload_n 2, 1) := by decide +kernel
theorem dX1_move_4 : decode cX1_move 4 = .ok (.invokevirtual 36, 3) := by decide +kernel
theorem dX1_move_7 : decode cX1_move 7 = .ok (.aload_n 0, 1) := by decide +kernel
theorem dX1_move_8 : decode cX1_move 8 = .ok (.iload_n 1, 1) := by decide +kernel
theorem dX1_move_9 : decode cX1_move 9 = .ok (.iconst 3, 1) := by decide +kernel
theorem dX1_move_10 : decode cX1_move 10 = .ok (.iload_n 3, 1) := by decide +kernel
theorem dX1_move_11 : decode cX1_move 11 = .ok (.ineg, 1) := by decide +kernel
theorem dX1_move_12 : decode cX1_move 12 = .ok (.invokevirtual 72, 3) := by decide +kernel
theorem dX1_move_15 : decode cX1_move 15 = .ok (.aload_n 0, 1) := by decide +kernel
theorem dX1_move_16 : decode cX1_move 16 = .ok (.iload_n 1, 1) := by decide +kernel
theorem dX1_move_17 : decode cX1_move 17 = .ok (.iconst 5, 1) := by decide +kernel
theorem dX1_move_18 : decode cX1_move 18 = .ok (.iconst 0, 1) := by decide +kernel
theorem dX1_move_19 : decode cX1_move 19 = .ok (.invokevirtual 36, 3) := by decide +kernel
theorem dX1_move_22 : decode cX1_move 22 = .ok (.aload_n 0, 1) := by decide +kernel
theorem dX1_move_23 : decode cX1_move 23 = .ok (.invokevirtual 68, 3) := by decide +kernel
theorem dX1_move_26 : decode cX1_move 26 = .ok (.pop, 1) := by decide +kernel
theorem dX1_move_27 : decode cX1_move 27 = .ok (.iload_n 3, 1) := by decide +kernel
theorem dX1_move_28 : decode cX1_move 28 = .ok (.ireturn, 1) := by decide +kernel
theorem dX1_hit_0 : decode cX1_hit 0 = .ok (.iload_n 2, 1) := by decide +kernel
theorem dX1_hit_1 : decode cX1_hit 1 = .ok (.bipush 45, 2) := by decide +kernel
theorem dX1_hit_3 : decode cX1_hit 3 = .ok (.if_icmp .lt 7, 3) := by decide +kernel
theorem dX1_hit_6 : decode cX1_hit 6 = .ok (.iconst 1, 1) := by decide +kernel
theorem dX1_hit_7 : decode cX1_hit 7 = .ok (.goto 4, 3) := by decide +kernel
theorem dX1_hit_10 : decode cX1_hit 10 = .ok (.iconst 0, 1) := by decide +kernel
theorem dX1_hit_11 : decode cX1_hit 11 = .ok (.istore 5, 2) := by decide +kernel
theorem dX1_hit_13 : decode cX1_hit 13 = .ok (.iload 5, 2) := by decide +kernel
theorem dX1_hit_15 : decode cX1_hit 15 = .ok (.ifCond .eq 12, 3) := by decide +kernel
theorem dX1_hit_18 : decode cX1_hit 18 = .ok (.iload 4, 2) := by decide +kernel
theorem dX1_hit_20 : decode cX1_hit 20 = .ok (.ifCond .ne 7, 3) := by decide +kernel
theorem dX1_hit_23 : decode cX1_hit 23 = .ok (.iconst 1, 1) := by decide +kernel
theorem dX1_hit_24 : decode cX1_hit 24 = .ok (.goto 4, 3) := by decide +kernel
theorem dX1_hit_27 : decode cX1_hit 27 = .ok (.iconst 0, 1) := by decide +kernel
theorem dX1_hit_28 : decode cX1_hit 28 = .ok (.istore 6, 2) := by decide +kernel
theorem dX1_hit_30 : decode cX1_hit 30 = .ok (.aload_n 0, 1) := by decide +kernel
theorem dX1_hit_31 : decode cX1_hit 31 = .ok (.iload_n 1, 1) := by decide +kernel
theorem dX1_hit_32 : decode cX1_hit 32 = .ok (.iconst 0, 1) := by decide +kernel
theorem dX1_hit_33 : decode cX1_hit 33 = .ok (.invokevirtual 32, 3) := by decide +kernel
theorem dX1_hit_36 : decode cX1_hit 36 = .ok (.istore 7, 2) := by decide +kernel
theorem dX1_hit_38 : decode cX1_hit 38 = .ok (.aload_n 0, 1) := by decide +kernel
theorem dX1_hit_39 : decode cX1_hit 39 = .ok (.iload_n 1, 1) := by decide +kernel
theorem dX1_hit_40 : decode cX1_hit 40 = .ok (.iload 4, 2) := by decide +kernel
theorem dX1_hit_42 : decode cX1_hit 42 = .ok (.invokevirtual 75, 3) := by decide +kernel
theorem dX1_hit_45 : decode cX1_hit 45 = .ok (.aload_n 0, 1) := by decide +kernel
theorem dX1_hit_46 : decode cX1_hit 46 = .ok (.bipush 11, 2) := by decide +kernel
theorem dX1_hit_48 : decode cX1_hit 48 = .ok (.iload_n 3, 1) := by decide +kernel
theorem dX1_hit_49 : decode cX1_hit 49 = .ok (.ifCond .eq 7, 3) := by decide +kernel
theorem dX1_hit_52 : decode cX1_hit 52 = .ok (.iconst 1, 1) := by decide +kernel
theorem dX1_hit_53 : decode cX1_hit 53 = .ok (.goto 4, 3) := by decide +kernel
theorem dX1_hit_56 : decode cX1_hit 56 = .ok (.iconst 0, 1) := by decide +kernel
theorem dX1_hit_57 : decode cX1_hit 57 = .ok (.invokevirtual 65, 3) := by decide +kernel
theorem dX1_hit_60 : decode cX1_hit 60 = .ok (.aload_n 0, 1) := by decide +kernel
theorem dX1_hit_61 : decode cX1_hit 61 = .ok (.iconst 5, 1) := by decide +kernel
theorem dX1_hit_62 : decode cX1_hit 62 = .ok (.iload 5, 2) := by decide +kernel
theorem dX1_hit_64 : decode cX1_hit 64 = .ok (.ifCond .eq 8, 3) := by decide +kernel
theorem dX1_hit_67 : decode cX1_hit 67 = .ok (.bipush 22, 2) := by decide +kernel
theorem dX1_hit_69 : decode cX1_hit 69 = .ok (.goto 4, 3) := by decide +kernel
theorem dX1_hit_72 : decode cX1_hit 72 = .ok (.iload_n 2, 1) := by decide +kernel
theorem dX1_hit_73 : decode cX1_hit 73 = .ok (.invokevirtual 18, 3) := by decide +kernel
theorem dX1_hit_76 : decode cX1_hit 76 = .ok (.iload 6, 2) := by decide +kernel
theorem dX1_hit_78 : decode cX1_hit 78 = .ok (.ifCond .eq 22, 3) := by decide +kernel
theorem dX1_hit_81 : decode cX1_hit 81 = .ok (.aload_n 0, 1) := by decide +kernel
theorem dX1_hit_82 : decode cX1_hit 82 = .ok (.iload_n 1, 1) := by decide +kernel
theorem dX1_hit_83 : decode cX1_hit 83 = .ok (.iload_n 2, 1) := by decide +kernel
theorem dX1_hit_84 : decode cX1_hit 84 = .ok (.bipush 45, 2) := by decide +kernel
theorem dX1_hit_86 : decode cX1_hit 86 = .ok (.isub, 1) := by decide +kernel
theorem dX1_hit_87 : decode cX1_hit 87 = .ok (.invokevirtual 79, 3) := by decide +kernel
theorem dX1_hit_90 : decode cX1_hit 90 = .ok (.aload_n 0, 1) := by decide +kernel
theorem dX1_hit_91 : decode cX1_hit 91 = .ok (.bipush 6, 2) := by decide +kernel
theorem dX1_hit_93 : decode cX1_hit 93 = .ok (.iconst (-1), 1) := by decide +kernel
theorem dX1_hit_94 : decode cX1_hit 94 = .ok (.invokevirtual 18, 3) := by decide +kernel
theorem dX1_hit_97 : decode cX1_hit 97 = .ok (.goto 27, 3) := by decide +kernel
theorem dX1_hit_100 : decode cX1_hit 100 = .ok (.iload 4, 2) := by decide +kernel
theorem dX1_hit_102 : decode cX1_hit 102 = .ok (.ifCond .ne 22, 3) := by decide +kernel
theorem dX1_hit_105 : decode cX1_hit 105 = .ok (.aload_n 0, 1) := by decide +kernel
theorem dX1_hit_106 : decode cX1_hit 106 = .ok (.bipush 6, 2) := by decide +kernel
theorem dX1_hit_108 : decode cX1_hit 108 = .ok (.iload_n 3, 1) := by decide +kernel
theorem dX1_hit_109 : decode cX1_hit 109 = .ok (.ifCond .eq 10, 3) := by decide +kernel
theorem dX1_hit_112 : decode cX1_hit 112 = .ok (.iconst 1, 1) := by decide +kernel
theorem dX1_hit_113 : decode cX1_hit 113 = .ok (.iload 7, 2) := by decide +kernel
theorem dX1_hit_115 : decode cX1_hit 115 = .ok (.isub, 1) := by decide +kernel
theorem dX1_hit_116 : decode cX1_hit 116 = .ok (.goto 5, 3) := by decide +kernel
theorem dX1_hit_119 : decode cX1_hit 119 = .ok (.iload 7, 2) := by decide +kernel
theorem dX1_hit_121 : decode cX1_hit 121 = .ok (.invokevirtual 18, 3) := by decide +kernel
theorem dX1_hit_124 : decode cX1_hit 124 = .ok (.iload 6, 2) := by decide +kernel
theorem dX1_hit_126 : decode cX1_hit 126 = .ok (.ifCond .eq 7, 3) := by decide +kernel
theorem dX1_hit_129 : decode cX1_hit 129 = .ok (.iload_n 2, 1) := by decide +kernel
theorem dX1_hit_130 : decode cX1_hit 130 = .ok (.goto 8, 3) := by decide +kernel
theorem dX1_hit_133 : decode cX1_hit 133 = .ok (.aload_n 0, 1) := by decide +kernel
theorem dX1_hit_134 : decode cX1_hit 134 = .ok (.iconst 5, 1) := by decide +kernel
theorem dX1_hit_135 : decode cX1_hit 135 = .ok (.invokevirtual 28, 3) := by decide +kernel
theorem dX1_hit_138 : decode cX1_hit 138 = .ok (.istore 8, 2) := by decide +kernel
theorem dX1_hit_140 : decode cX1_hit 140 = .ok (.aload_n 0, 1) := by decide +kernel
theorem dX1_hit_141 : decode cX1_hit 141 = .ok (.invokevirtual 68, 3) := by decide +kernel
theorem dX1_hit_144 : decode cX1_hit 144 = .ok (.pop, 1) := by decide +kernel
theorem dX1_hit_145 : decode cX1_hit 145 = .ok (.iload 8, 2) := by decide +kernel
theorem dX1_hit_147 : decode cX1_hit 147 = .ok (.ireturn, 1) := by decide +kernel
theorem dX1_countStrike_0 : decode cX1_countStrike 0 = .ok (.aload_n 0, 1) := by decide +kernel
theorem dX1_countStrike_1 : decode cX1_countStrike 1 = .ok (.iload_n 1, 1) := by decide +kernel
theorem dX1_countStrike_2 : decode cX1_countStrike 2 = .ok (.iconst 3, 1) := by decide +kernel
theorem dX1_countStrike_3 : decode cX1_countStrike 3 = .ok (.iconst (-1), 1) := by decide +kernel
theorem dX1_countStrike_4 : decode cX1_countStrike 4 = .ok (.invokevirtual 72, 3) := by decide +kernel
theorem dX1_countStrike_7 : decode cX1_countStrike 7 = .ok (.aload_n 0, 1) := by decide +kernel
theorem dX1_countStrike_8 : decode cX1_countStrike 8 = .ok (.iload_n 1, 1) := by decide +kernel
theorem dX1_countStrike_9 : decode cX1_countStrike 9 = .ok (.bipush 8, 2) := by decide +kernel
theorem dX1_countStrike_11 : decode cX1_countStrike 11 = .ok (.iconst 1, 1) := by decide +kernel
theorem dX1_countStrike_12 : decode cX1_countStrike 12 = .ok (.invokevirtual 72, 3) := by decide +kernel
theorem dX1_countStrike_15 : decode cX1_countStrike 15 = .ok (.aload_n 0, 1) := by decide +kernel
theorem dX1_countStrike_16 : decode cX1_countStrike 16 = .ok (.bipush 7, 2) := by decide +kernel
theorem dX1_countStrike_18 : decode cX1_countStrike 18 = .ok (.iconst 1, 1) := by decide +kernel
theorem dX1_countStrike_19 : decode cX1_countStrike 19 = .ok (.invokevirtual 65, 3) := by decide +kernel
theorem dX1_countStrike_22 : decode cX1_countStrike 22 = .ok (.iload_n 2, 1) := by decide +kernel
theorem dX1_countStrike_23 : decode cX1_countStrike 23 = .ok (.ifCond .eq 18, 3) := by decide +kernel
theorem dX1_countStrike_26 : decode cX1_countStrike 26 = .ok (.aload_n 0, 1) := by decide +kernel
theorem dX1_countStrike_27 : decode cX1_countStrike 27 = .ok (.iload_n 1, 1) := by decide +kernel
theorem dX1_countStrike_28 : decode cX1_countStrike 28 = .ok (.bipush 7, 2) := by decide +kernel
theorem dX1_countStrike_30 : decode cX1_countStrike 30 = .ok (.iconst 1, 1) := by decide +kernel
theorem dX1_countStrike_31 : decode cX1_countStrike 31 = .ok (.invokevirtual 72, 3) := by decide +kernel
theorem dX1_countStrike_34 : decode cX1_countStrike 34 = .ok (.aload_n 0, 1) := by decide +kernel
theorem dX1_countStrike_35 : decode cX1_countStrike 35 = .ok (.bipush 8, 2) := by decide +kernel
theorem dX1_countStrike_37 : decode cX1_countStrike 37 = .ok (.iconst 1, 1) := by decide +kernel
theorem dX1_countStrike_38 : decode cX1_countStrike 38 = .ok (.invokevirtual 65, 3) := by decide +kernel
theorem dX1_countStrike_41 : decode cX1_countStrike 41 = .ok (.return_, 1) := by decide +kernel
theorem dX1_countGoal_0 : decode cX1_countGoal 0 = .ok (.aload_n 0, 1) := by decide +kernel
theorem dX1_countGoal_1 : decode cX1_countGoal 1 = .ok (.iconst 3, 1) := by decide +kernel
theorem dX1_countGoal_2 : decode cX1_countGoal 2 = .ok (.iload_n 2, 1) := by decide +kernel
theorem dX1_countGoal_3 : decode cX1_countGoal 3 = .ok (.iadd, 1) := by decide +kernel
theorem dX1_countGoal_4 : decode cX1_countGoal 4 = .ok (.iconst 1, 1) := by decide +kernel
theorem dX1_countGoal_5 : decode cX1_countGoal 5 = .ok (.invokevirtual 65, 3) := by decide +kernel
theorem dX1_countGoal_8 : decode cX1_countGoal 8 = .ok (.aload_n 0, 1) := by decide +kernel
theorem dX1_countGoal_9 : decode cX1_countGoal 9 = .ok (.iload_n 1, 1) := by decide +kernel
theorem dX1_countGoal_10 : decode cX1_countGoal 10 = .ok (.iconst 0, 1) := by decide +kernel
theorem dX1_countGoal_11 : decode cX1_countGoal 11 = .ok (.invokevirtual 32, 3) := by decide +kernel
theorem dX1_countGoal_14 : decode cX1_countGoal 14 = .ok (.iload_n 2, 1) := by decide +kernel
theorem dX1_countGoal_15 : decode cX1_countGoal 15 = .ok (.if_icmp .ne 11, 3) := by decide +kernel
theorem dX1_countGoal_18 : decode cX1_countGoal 18 = .ok (.aload_n 0, 1) := by decide +kernel
theorem dX1_countGoal_19 : decode cX1_countGoal 19 = .ok (.iload_n 1, 1) := by decide +kernel
theorem dX1_countGoal_20 : decode cX1_countGoal 20 = .ok (.bipush 6, 2) := by decide +kernel
theorem dX1_countGoal_22 : decode cX1_countGoal 22 = .ok (.iconst 1, 1) := by decide +kernel
theorem dX1_countGoal_23 : decode cX1_countGoal 23 = .ok (.invokevirtual 72, 3) := by decide +kernel
theorem dX1_countGoal_26 : decode cX1_countGoal 26 = .ok (.return_, 1) := by decide +kernel
theorem dX1_startSong_0 : decode cX1_startSong 0 = .ok (.aload_n 0, 1) := by decide +kernel
theorem dX1_startSong_1 : decode cX1_startSong 1 = .ok (.iload_n 1, 1) := by decide +kernel
theorem dX1_startSong_2 : decode cX1_startSong 2 = .ok (.iconst 3, 1) := by decide +kernel
theorem dX1_startSong_3 : decode cX1_startSong 3 = .ok (.iconst (-1), 1) := by decide +kernel
theorem dX1_startSong_4 : decode cX1_startSong 4 = .ok (.invokevirtual 72, 3) := by decide +kernel
theorem dX1_startSong_7 : decode cX1_startSong 7 = .ok (.aload_n 0, 1) := by decide +kernel
theorem dX1_startSong_8 : decode cX1_startSong 8 = .ok (.iload_n 1, 1) := by decide +kernel
theorem dX1_startSong_9 : decode cX1_startSong 9 = .ok (.iconst 5, 1) := by decide +kernel
theorem dX1_startSong_10 : decode cX1_startSong 10 = .ok (.iconst 1, 1) := by decide +kernel
theorem dX1_startSong_11 : decode cX1_startSong 11 = .ok (.invokevirtual 36, 3) := by decide +kernel
theorem dX1_startSong_14 : decode cX1_startSong 14 = .ok (.aload_n 0, 1) := by decide +kernel
theorem dX1_startSong_15 : decode cX1_startSong 15 = .ok (.iload_n 1, 1) := by decide +kernel
theorem dX1_startSong_16 : decode cX1_startSong 16 = .ok (.iconst 3, 1) := by decide +kernel
theorem dX1_startSong_17 : decode cX1_startSong 17 = .ok (.invokevirtual 32, 3) := by decide +kernel
theorem dX1_startSong_20 : decode cX1_startSong 20 = .ok (.istore_n 2, 1) := by decide +kernel
theorem dX1_startSong_21 : decode cX1_startSong 21 = .ok (.aload_n 0, 1) := by decide +kernel
theorem dX1_startSong_22 : decode cX1_startSong 22 = .ok (.invokevirtual 68, 3) := by decide +kernel
theorem dX1_startSong_25 : decode cX1_startSong 25 = .ok (.pop, 1) := by decide +kernel
theorem dX1_startSong_26 : decode cX1_startSong 26 = .ok (.iload_n 2, 1) := by decide +kernel
theorem dX1_startSong_27 : decode cX1_startSong 27 = .ok (.ireturn, 1) := by decide +kernel
theorem dX1_endStroke_0 : decode cX1_endStroke 0 = .ok (.aload_n 0, 1) := by decide +kernel
theorem dX1_endStroke_1 : decode cX1_endStroke 1 = .ok (.iconst 1, 1) := by decide +kernel
theorem dX1_endStroke_2 : decode cX1_endStroke 2 = .ok (.iconst 1, 1) := by decide +kernel
theorem dX1_endStroke_3 : decode cX1_endStroke 3 = .ok (.invokevirtual 65, 3) := by decide +kernel
theorem dX1_endStroke_6 : decode cX1_endStroke 6 = .ok (.aload_n 0, 1) := by decide +kernel
theorem dX1_endStroke_7 : decode cX1_endStroke 7 = .ok (.iconst 1, 1) := by decide +kernel
theorem dX1_endStroke_8 : decode cX1_endStroke 8 = .ok (.invokevirtual 28, 3) := by decide +kernel
theorem dX1_endStroke_11 : decode cX1_endStroke 11 = .ok (.istore_n 1, 1) := by decide +kernel
theorem dX1_endStroke_12 : decode cX1_endStroke 12 = .ok (.iload_n 1, 1) := by decide +kernel
theorem dX1_endStroke_13 : decode cX1_endStroke 13 = .ok (.bipush 12, 2) := by decide +kernel
theorem dX1_endStroke_15 : decode cX1_endStroke 15 = .ok (.irem, 1) := by decide +kernel
theorem dX1_endStroke_16 : decode cX1_endStroke 16 = .ok (.ifCond .ne 7, 3) := by decide +kernel
theorem dX1_endStroke_19 : decode cX1_endStroke 19 = .ok (.aload_n 0, 1) := by decide +kernel
theorem dX1_endStroke_20 : decode cX1_endStroke 20 = .ok (.invokevirtual 82, 3) := by decide +kernel
theorem dX1_endStroke_23 : decode cX1_endStroke 23 = .ok (.iload_n 1, 1) := by decide +kernel
theorem dX1_endStroke_24 : decode cX1_endStroke 24 = .ok (.ireturn, 1) := by decide +kernel
theorem dX1_endChukka_0 : decode cX1_endChukka 0 = .ok (.aload_n 0, 1) := by decide +kernel
theorem dX1_endChukka_1 : decode cX1_endChukka 1 = .ok (.iconst 5, 1) := by decide +kernel
theorem dX1_endChukka_2 : decode cX1_endChukka 2 = .ok (.bipush 22, 2) := by decide +kernel
theorem dX1_endChukka_4 : decode cX1_endChukka 4 = .ok (.invokevirtual 18, 3) := by decide +kernel
theorem dX1_endChukka_7 : decode cX1_endChukka 7 = .ok (.aload_n 0, 1) := by decide +kernel
theorem dX1_endChukka_8 : decode cX1_endChukka 8 = .ok (.bipush 6, 2) := by decide +kernel
theorem dX1_endChukka_10 : decode cX1_endChukka 10 = .ok (.iconst (-1), 1) := by decide +kernel
theorem dX1_endChukka_11 : decode cX1_endChukka 11 = .ok (.invokevirtual 18, 3) := by decide +kernel
theorem dX1_endChukka_14 : decode cX1_endChukka 14 = .ok (.aload_n 0, 1) := by decide +kernel
theorem dX1_endChukka_15 : decode cX1_endChukka 15 = .ok (.bipush 16, 2) := by decide +kernel
theorem dX1_endChukka_17 : decode cX1_endChukka 17 = .ok (.iconst 0, 1) := by decide +kernel
theorem dX1_endChukka_18 : decode cX1_endChukka 18 = .ok (.invokevirtual 18, 3) := by decide +kernel
theorem dX1_endChukka_21 : decode cX1_endChukka 21 = .ok (.aload_n 0, 1) := by decide +kernel
theorem dX1_endChukka_22 : decode cX1_endChukka 22 = .ok (.bipush 17, 2) := by decide +kernel
theorem dX1_endChukka_24 : decode cX1_endChukka 24 = .ok (.iconst 0, 1) := by decide +kernel
theorem dX1_endChukka_25 : decode cX1_endChukka 25 = .ok (.invokevirtual 18, 3) := by decide +kernel
theorem dX1_endChukka_28 : decode cX1_endChukka 28 = .ok (.iconst 0, 1) := by decide +kernel
theorem dX1_endChukka_29 : decode cX1_endChukka 29 = .ok (.istore_n 1, 1) := by decide +kernel
theorem dX1_endChukka_30 : decode cX1_endChukka 30 = .ok (.iload_n 1, 1) := by decide +kernel
theorem dX1_endChukka_31 : decode cX1_endChukka 31 = .ok (.aload_n 0, 1) := by decide +kernel
theorem dX1_endChukka_32 : decode cX1_endChukka 32 = .ok (.iconst 0, 1) := by decide +kernel
theorem dX1_endChukka_33 : decode cX1_endChukka 33 = .ok (.invokevirtual 28, 3) := by decide +kernel
theorem dX1_endChukka_36 : decode cX1_endChukka 36 = .ok (.if_icmp .ge 35, 3) := by decide +kernel
theorem dX1_endChukka_39 : decode cX1_endChukka 39 = .ok (.aload_n 0, 1) := by decide +kernel
theorem dX1_endChukka_40 : decode cX1_endChukka 40 = .ok (.iload_n 1, 1) := by decide +kernel
theorem dX1_endChukka_41 : decode cX1_endChukka 41 = .ok (.iconst 5, 1) := by decide +kernel
theorem dX1_endChukka_42 : decode cX1_endChukka 42 = .ok (.iconst 0, 1) := by decide +kernel
theorem dX1_endChukka_43 : decode cX1_endChukka 43 = .ok (.invokevirtual 36, 3) := by decide +kernel
theorem dX1_endChukka_46 : decode cX1_endChukka 46 = .ok (.aload_n 0, 1) := by decide +kernel
theorem dX1_endChukka_47 : decode cX1_endChukka 47 = .ok (.iload_n 1, 1) := by decide +kernel
theorem dX1_endChukka_48 : decode cX1_endChukka 48 = .ok (.iconst 3, 1) := by decide +kernel
theorem dX1_endChukka_49 : decode cX1_endChukka 49 = .ok (.aload_n 0, 1) := by decide +kernel
theorem dX1_endChukka_50 : decode cX1_endChukka 50 = .ok (.iload_n 1, 1) := by decide +kernel
theorem dX1_endChukka_51 : decode cX1_endChukka 51 = .ok (.iconst 3, 1) := by decide +kernel
theorem dX1_endChukka_52 : decode cX1_endChukka 52 = .ok (.invokevirtual 32, 3) := by decide +kernel
theorem dX1_endChukka_55 : decode cX1_endChukka 55 = .ok (.iconst 5, 1) := by decide +kernel
theorem dX1_endChukka_56 : decode cX1_endChukka 56 = .ok (.iadd, 1) := by decide +kernel
theorem dX1_endChukka_57 : decode cX1_endChukka 57 = .ok (.bipush 20, 2) := by decide +kernel
theorem dX1_endChukka_59 : decode cX1_endChukka 59 = .ok (.invokestatic 85, 3) := by decide +kernel
theorem dX1_endChukka_62 : decode cX1_endChukka 62 = .ok (.invokevirtual 36, 3) := by decide +kernel
theorem dX1_endChukka_65 : decode cX1_endChukka 65 = .ok (.iinc 1 1, 3) := by decide +kernel
theorem dX1_endChukka_68 : decode cX1_endChukka 68 = .ok (.goto (-38), 3) := by decide +kernel
theorem dX1_endChukka_71 : decode cX1_endChukka 71 = .ok (.return_, 1) := by decide +kernel
theorem dX2_init_0 : decode cX2_init 0 = .ok (.aload_n 0, 1) := by decide +kernel
theorem dX2_init_1 : decode cX2_init 1 = .ok (.invokespecial 3, 3) := by decide +kernel
theorem dX2_init_4 : decode cX2_init 4 = .ok (.aload_n 0, 1) := by decide +kernel
theorem dX2_init_5 : decode cX2_init 5 = .ok (.bipush 6, 2) := by decide +kernel
theorem dX2_init_7 : decode cX2_init 7 = .ok (.anewarray 9, 3) := by decide +kernel
theorem dX2_init_10 : decode cX2_init 10 = .ok (.putfield 11, 3) := by decide +kernel
theorem dX2_init_13 : decode cX2_init 13 = .ok (.aload_n 0, 1) := by decide +kernel
theorem dX2_init_14 : decode cX2_init 14 = .ok (.iconst 0, 1) := by decide +kernel
theorem dX2_init_15 : decode cX2_init 15 = .ok (.putfield 17, 3) := by decide +kernel
theorem dX2_init_18 : decode cX2_init 18 = .ok (.aload_n 0, 1) := by decide +kernel
theorem dX2_init_19 : decode cX2_init 19 = .ok (.iconst 0, 1) := by decide +kernel
theorem dX2_init_20 : decode cX2_init 20 = .ok (.putfield 21, 3) := by decide +kernel
theorem dX2_init_23 : decode cX2_init 23 = .ok (.iconst 0, 1) := by decide +kernel
theorem dX2_init_24 : decode cX2_init 24 = .ok (.istore_n 1, 1) := by decide +kernel
theorem dX2_init_25 : decode cX2_init 25 = .ok (.iload_n 1, 1) := by decide +kernel
theorem dX2_init_26 : decode cX2_init 26 = .ok (.aload_n 0, 1) := by decide +kernel
theorem dX2_init_27 : decode cX2_init 27 = .ok (.getfield 11, 3) := by decide +kernel
theorem dX2_init_30 : decode cX2_init 30 = .ok (.arraylength, 1) := by decide +kernel
theorem dX2_init_31 : decode cX2_init 31 = .ok (.if_icmp .ge 22, 3) := by decide +kernel
theorem dX2_init_34 : decode cX2_init 34 = .ok (.aload_n 0, 1) := by decide +kernel
theorem dX2_init_35 : decode cX2_init 35 = .ok (.getfield 11, 3) := by decide +kernel
theorem dX2_init_38 : decode cX2_init 38 = .ok (.iload_n 1, 1) := by decide +kernel
theorem dX2_init_39 : decode cX2_init 39 = .ok (.new 9, 3) := by decide +kernel
theorem dX2_init_42 : decode cX2_init 42 = .ok (.dup, 1) := by decide +kernel
theorem dX2_init_43 : decode cX2_init 43 = .ok (.invokespecial 24, 3) := by decide +kernel
theorem dX2_init_46 : decode cX2_init 46 = .ok (.aastore, 1) := by decide +kernel
theorem dX2_init_47 : decode cX2_init 47 = .ok (.iinc 1 1, 3) := by decide +kernel
theorem dX2_init_50 : decode cX2_init 50 = .ok (.goto (-25), 3) := by decide +kernel
theorem dX2_init_53 : decode cX2_init 53 = .ok (.return_, 1) := by decide +kernel
theorem dX2_size_0 : decode cX2_size 0 = .ok (.aload_n 0, 1) := by decide +kernel
theorem dX2_size_1 : decode cX2_size 1 = .ok (.getfield 21, 3) := by decide +kernel
theorem dX2_size_4 : decode cX2_size 4 = .ok (.ireturn, 1) := by decide +kernel
theorem dX2_remember_0 : decode cX2_remember 0 = .ok (.aload_n 0, 1) := by decide +kernel
theorem dX2_remember_1 : decode cX2_remember 1 = .ok (.getfield 21, 3) := by decide +kernel
theorem dX2_remember_4 : decode cX2_remember 4 = .ok (.bipush 6, 2) := by decide +kernel
theorem dX2_remember_6 : decode cX2_remember 6 = .ok (.if_icmp .ne 26, 3) := by decide +kernel
theorem dX2_remember_9 : decode cX2_remember 9 = .ok (.aload_n 0, 1) := by decide +kernel
theorem dX2_remember_10 : decode cX2_remember 10 = .ok (.aload_n 0, 1) := by decide +kernel
theorem dX2_remember_11 : decode cX2_remember 11 = .ok (.getfield 17, 3) := by decide +kernel
theorem dX2_remember_14 : decode cX2_remember 14 = .ok (.iconst 1, 1) := by decide +kernel
theorem dX2_remember_15 : decode cX2_remember 15 = .ok (.iadd, 1) := by decide +kernel
theorem dX2_remember_16 : decode cX2_remember 16 = .ok (.bipush 6, 2) := by decide +kernel
theorem dX2_remember_18 : decode cX2_remember 18 = .ok (.irem, 1) := by decide +kernel
theorem dX2_remember_19 : decode cX2_remember 19 = .ok (.putfield 17, 3) := by decide +kernel
theorem dX2_remember_22 : decode cX2_remember 22 = .ok (.aload_n 0, 1) := by decide +kernel
theorem dX2_remember_23 : decode cX2_remember 23 = .ok (.dup, 1) := by decide +kernel
theorem dX2_remember_24 : decode cX2_remember 24 = .ok (.getfield 21, 3) := by decide +kernel
theorem dX2_remember_27 : decode cX2_remember 27 = .ok (.iconst 1, 1) := by decide +kernel
theorem dX2_remember_28 : decode cX2_remember 28 = .ok (.isub, 1) := by decide +kernel
theorem dX2_remember_29 : decode cX2_remember 29 = .ok (.putfield 21, 3) := by decide +kernel
theorem dX2_remember_32 : decode cX2_remember 32 = .ok (.aload_n 0, 1) := by decide +kernel
theorem dX2_remember_33 : decode cX2_remember 33 = .ok (.aload_n 0, 1) := by decide +kernel
theorem dX2_remember_34 : decode cX2_remember 34 = .ok (.getfield 21, 3) := by decide +kernel
theorem dX2_remember_37 : decode cX2_remember 37 = .ok (.invokevirtual 25, 3) := by decide +kernel
theorem dX2_remember_40 : decode cX2_remember 40 = .ok (.astore_n 2, 1) := by decide +kernel
theorem dX2_remember_41 : decode cX2_remember 41 = .ok (.aload_n 2, 1) := by decide +kernel
theorem dX2_remember_42 : decode cX2_remember 42 = .ok (.ifnull 18, 3) := by decide +kernel
theorem dX2_remember_45 : decode cX2_remember 45 = .ok (.aload_n 2, 1) := by decide +kernel
theorem dX2_remember_46 : decode cX2_remember 46 = .ok (.aload_n 1, 1) := by decide +kernel
theorem dX2_remember_47 : decode cX2_remember 47 = .ok (.invokevirtual 29, 3) := by decide +kernel
theorem dX2_remember_50 : decode cX2_remember 50 = .ok (.aload_n 0, 1) := by decide +kernel
theorem dX2_remember_51 : decode cX2_remember 51 = .ok (.dup, 1) := by decide +kernel
theorem dX2_remember_52 : decode cX2_remember 52 = .ok (.getfield 21, 3) := by decide +kernel
theorem dX2_remember_55 : decode cX2_remember 55 = .ok (.iconst 1, 1) := by decide +kernel
theorem dX2_remember_56 : decode cX2_remember 56 = .ok (.iadd, 1) := by decide +kernel
theorem dX2_remember_57 : decode cX2_remember 57 = .ok (.putfield 21, 3) := by decide +kernel
theorem dX2_remember_60 : decode cX2_remember 60 = .ok (.return_, 1) := by decide +kernel
theorem dX2_takeBack_0 : decode cX2_takeBack 0 = .ok (.aload_n 0, 1) := by decide +kernel
theorem dX2_takeBack_1 : decode cX2_takeBack 1 = .ok (.getfield 21, 3) := by decide +kernel
theorem dX2_takeBack_4 : decode cX2_takeBack 4 = .ok (.ifCond .le 29, 3) := by decide +kernel
theorem dX2_takeBack_7 : decode cX2_takeBack 7 = .ok (.aload_n 1, 1) := by decide +kernel
theorem dX2_takeBack_8 : decode cX2_takeBack 8 = .ok (.ifnull 25, 3) := by decide +kernel
theorem dX2_takeBack_11 : decode cX2_takeBack 11 = .ok (.aload_n 0, 1) := by decide +kernel
theorem dX2_takeBack_12 : decode cX2_takeBack 12 = .ok (.dup, 1) := by decide +kernel
theorem dX2_takeBack_13 : decode cX2_takeBack 13 = .ok (.getfield 21, 3) := by decide +kernel
theorem dX2_takeBack_16 : decode cX2_takeBack 16 = .ok (.iconst 1, 1) := by decide +kernel
theorem dX2_takeBack_17 : decode cX2_takeBack 17 = .ok (.isub, 1) := by decide +kernel
theorem dX2_takeBack_18 : decode cX2_takeBack 18 = .ok (.putfield 21, 3) := by decide +kernel
theorem dX2_takeBack_21 : decode cX2_takeBack 21 = .ok (.aload_n 1, 1) := by decide +kernel
theorem dX2_takeBack_22 : decode cX2_takeBack 22 = .ok (.aload_n 0, 1) := by decide +kernel
theorem dX2_takeBack_23 : decode cX2_takeBack 23 = .ok (.aload_n 0, 1) := by decide +kernel
theorem dX2_takeBack_24 : decode cX2_takeBack 24 = .ok (.getfield 21, 3) := by decide +kernel
theorem dX2_takeBack_27 : decode cX2_takeBack 27 = .ok (.invokevirtual 25, 3) := by decide +kernel
theorem dX2_takeBack_30 : decode cX2_takeBack 30 = .ok (.invokevirtual 29, 3) := by decide +kernel
theorem dX2_takeBack_33 : decode cX2_takeBack 33 = .ok (.return_, 1) := by decide +kernel
theorem dX2_forgetAll_0 : decode cX2_forgetAll 0 = .ok (.aload_n 0, 1) := by decide +kernel
theorem dX2_forgetAll_1 : decode cX2_forgetAll 1 = .ok (.iconst 0, 1) := by decide +kernel
theorem dX2_forgetAll_2 : decode cX2_forgetAll 2 = .ok (.putfield 21, 3) := by decide +kernel
theorem dX2_forgetAll_5 : decode cX2_forgetAll 5 = .ok (.return_, 1) := by decide +kernel
theorem dX2_slotOf_0 : decode cX2_slotOf 0 = .ok (.aload_n 0, 1) := by decide +kernel
theorem dX2_slotOf_1 : decode cX2_slotOf 1 = .ok (.getfield 17, 3) := by decide +kernel
theorem dX2_slotOf_4 : decode cX2_slotOf 4 = .ok (.iload_n 1, 1) := by decide +kernel
theorem dX2_slotOf_5 : decode cX2_slotOf 5 = .ok (.iadd, 1) := by decide +kernel
theorem dX2_slotOf_6 : decode cX2_slotOf 6 = .ok (.bipush 6, 2) := by decide +kernel
theorem dX2_slotOf_8 : decode cX2_slotOf 8 = .ok (.irem, 1) := by decide +kernel
theorem dX2_slotOf_9 : decode cX2_slotOf 9 = .ok (.istore_n 2, 1) := by decide +kernel
theorem dX2_slotOf_10 : decode cX2_slotOf 10 = .ok (.iload_n 2, 1) := by decide +kernel
theorem dX2_slotOf_11 : decode cX2_slotOf 11 = .ok (.ifCond .lt 21, 3) := by decide +kernel
theorem dX2_slotOf_14 : decode cX2_slotOf 14 = .ok (.iload_n 2, 1) := by decide +kernel
theorem dX2_slotOf_15 : decode cX2_slotOf 15 = .ok (.aload_n 0, 1) := by decide +kernel
theorem dX2_slotOf_16 : decode cX2_slotOf 16 = .ok (.getfield 11, 3) := by decide +kernel
theorem dX2_slotOf_19 : decode cX2_slotOf 19 = .ok (.arraylength, 1) := by decide +kernel
theorem dX2_slotOf_20 : decode cX2_slotOf 20 = .ok (.if_icmp .ge 12, 3) := by decide +kernel
theorem dX2_slotOf_23 : decode cX2_slotOf 23 = .ok (.aload_n 0, 1) := by decide +kernel
theorem dX2_slotOf_24 : decode cX2_slotOf 24 = .ok (.getfield 11, 3) := by decide +kernel
theorem dX2_slotOf_27 : decode cX2_slotOf 27 = .ok (.iload_n 2, 1) := by decide +kernel
theorem dX2_slotOf_28 : decode cX2_slotOf 28 = .ok (.aaload, 1) := by decide +kernel
theorem dX2_slotOf_29 : decode cX2_slotOf 29 = .ok (.goto 4, 3) := by decide +kernel
theorem dX2_slotOf_32 : decode cX2_slotOf 32 = .ok (.aconst_null, 1) := by decide +kernel
theorem dX2_slotOf_33 : decode cX2_slotOf 33 = .ok (.areturn, 1) := by decide +kernel
theorem dX3_init_0 : decode cX3_init 0 = .ok (.aload_n 0, 1) := by decide +kernel
theorem dX3_init_1 : decode cX3_init 1 = .ok (.invokespecial 3, 3) := by decide +kernel
theorem dX3_init_4 : decode cX3_init 4 = .ok (.aload_n 0, 1) := by decide +kernel
theorem dX3_init_5 : decode cX3_init 5 = .ok (.bipush 32, 2) := by decide +kernel
theorem dX3_init_7 : decode cX3_init 7 = .ok (.newarray .char, 2) := by decide +kernel
theorem dX3_init_9 : decode cX3_init 9 = .ok (.putfield 9, 3) := by decide +kernel
theorem dX3_init_12 : decode cX3_init 12 = .ok (.aload_n 0, 1) := by decide +kernel
theorem dX3_init_13 : decode cX3_init 13 = .ok (.iconst 0, 1) := by decide +kernel
theorem dX3_init_14 : decode cX3_init 14 = .ok (.putfield 15, 3) := by decide +kernel
theorem dX3_init_17 : decode cX3_init 17 = .ok (.return_, 1) := by decide +kernel
theorem dX3_length_0 : decode cX3_length 0 = .ok (.aload_n 0, 1) := by decide +kernel
theorem dX3_length_1 : decode cX3_length 1 = .ok (.getfield 15, 3) := by decide +kernel
theorem dX3_length_4 : decode cX3_length 4 = .ok (.ireturn, 1) := by decide +kernel
theorem dX3_clear_0 : decode cX3_clear 0 = .ok (.aload_n 0, 1) := by decide +kernel
theorem dX3_clear_1 : decode cX3_clear 1 = .ok (.iconst 0, 1) := by decide +kernel
theorem dX3_clear_2 : decode cX3_clear 2 = .ok (.putfield 15, 3) := by decide +kernel
theorem dX3_clear_5 : decode cX3_clear 5 = .ok (.return_, 1) := by decide +kernel
theorem dX3_add_0 : decode cX3_add 0 = .ok (.aload_n 0, 1) := by decide +kernel
theorem dX3_add_1 : decode cX3_add 1 = .ok (.getfield 15, 3) := by decide +kernel
theorem dX3_add_4 : decode cX3_add 4 = .ok (.ifCond .lt 35, 3) := by decide +kernel
theorem dX3_add_7 : decode cX3_add 7 = .ok (.aload_n 0, 1) := by decide +kernel
theorem dX3_add_8 : decode cX3_add 8 = .ok (.getfield 15, 3) := by decide +kernel
theorem dX3_add_11 : decode cX3_add 11 = .ok (.aload_n 0, 1) := by decide +kernel
theorem dX3_add_12 : decode cX3_add 12 = .ok (.getfield 9, 3) := by decide +kernel
theorem dX3_add_15 : decode cX3_add 15 = .ok (.arraylength, 1) := by decide +kernel
theorem dX3_add_16 : decode cX3_add 16 = .ok (.if_icmp .ge 23, 3) := by decide +kernel
theorem dX3_add_19 : decode cX3_add 19 = .ok (.aload_n 0, 1) := by decide +kernel
theorem dX3_add_20 : decode cX3_add 20 = .ok (.getfield 9, 3) := by decide +kernel
theorem dX3_add_23 : decode cX3_add 23 = .ok (.aload_n 0, 1) := by decide +kernel
theorem dX3_add_24 : decode cX3_add 24 = .ok (.getfield 15, 3) := by decide +kernel
theorem dX3_add_27 : decode cX3_add 27 = .ok (.iload_n 1, 1) := by decide +kernel
theorem dX3_add_28 : decode cX3_add 28 = .ok (.castore, 1) := by decide +kernel
theorem dX3_add_29 : decode cX3_add 29 = .ok (.aload_n 0, 1) := by decide +kernel
theorem dX3_add_30 : decode cX3_add 30 = .ok (.dup, 1) := by decide +kernel
theorem dX3_add_31 : decode cX3_add 31 = .ok (.getfield 15, 3) := by decide +kernel
theorem dX3_add_34 : decode cX3_add 34 = .ok (.iconst 1, 1) := by decide +kernel
theorem dX3_add_35 : decode cX3_add 35 = .ok (.iadd, 1) := by decide +kernel
theorem dX3_add_36 : decode cX3_add 36 = .ok (.putfield 15, 3) := by decide +kernel
theorem dX3_add_39 : decode cX3_add 39 = .ok (.return_, 1) := by decide +kernel
theorem dX3_addNumber_0 : decode cX3_addNumber 0 = .ok (.iload_n 1, 1) := by decide +kernel
theorem dX3_addNumber_1 : decode cX3_addNumber 1 = .ok (.bipush 10, 2) := by decide +kernel
theorem dX3_addNumber_3 : decode cX3_addNumber 3 = .ok (.if_icmp .lt 15, 3) := by decide +kernel
theorem dX3_addNumber_6 : decode cX3_addNumber 6 = .ok (.aload_n 0, 1) := by decide +kernel
theorem dX3_addNumber_7 : decode cX3_addNumber 7 = .ok (.bipush 48, 2) := by decide +kernel
theorem dX3_addNumber_9 : decode cX3_addNumber 9 = .ok (.iload_n 1, 1) := by decide +kernel
theorem dX3_addNumber_10 : decode cX3_addNumber 10 = .ok (.bipush 10, 2) := by decide +kernel
theorem dX3_addNumber_12 : decode cX3_addNumber 12 = .ok (.idiv, 1) := by decide +kernel
theorem dX3_addNumber_13 : decode cX3_addNumber 13 = .ok (.iadd, 1) := by decide +kernel
theorem dX3_addNumber_14 : decode cX3_addNumber 14 = .ok (.i2c, 1) := by decide +kernel
theorem dX3_addNumber_15 : decode cX3_addNumber 15 = .ok (.invokevirtual 19, 3) := by decide +kernel
theorem dX3_addNumber_18 : decode cX3_addNumber 18 = .ok (.aload_n 0, 1) := by decide +kernel
theorem dX3_addNumber_19 : decode cX3_addNumber 19 = .ok (.bipush 48, 2) := by decide +kernel
theorem dX3_addNumber_21 : decode cX3_addNumber 21 = .ok (.iload_n 1, 1) := by decide +kernel
theorem dX3_addNumber_22 : decode cX3_addNumber 22 = .ok (.bipush 10, 2) := by decide +kernel
theorem dX3_addNumber_24 : decode cX3_addNumber 24 = .ok (.irem, 1) := by decide +kernel
theorem dX3_addNumber_25 : decode cX3_addNumber 25 = .ok (.iadd, 1) := by decide +kernel
theorem dX3_addNumber_26 : decode cX3_addNumber 26 = .ok (.i2c, 1) := by decide +kernel
theorem dX3_addNumber_27 : decode cX3_addNumber 27 = .ok (.invokevirtual 19, 3) := by decide +kernel
theorem dX3_addNumber_30 : decode cX3_addNumber 30 = .ok (.return_, 1) := by decide +kernel
theorem dX3_addSigned_0 : decode cX3_addSigned 0 = .ok (.aload_n 0, 1) := by decide +kernel
theorem dX3_addSigned_1 : decode cX3_addSigned 1 = .ok (.iload_n 1, 1) := by decide +kernel
theorem dX3_addSigned_2 : decode cX3_addSigned 2 = .ok (.invokevirtual 19, 3) := by decide +kernel
theorem dX3_addSigned_5 : decode cX3_addSigned 5 = .ok (.aload_n 0, 1) := by decide +kernel
theorem dX3_addSigned_6 : decode cX3_addSigned 6 = .ok (.iload_n 2, 1) := by decide +kernel
theorem dX3_addSigned_7 : decode cX3_addSigned 7 = .ok (.invokevirtual 23, 3) := by decide +kernel
theorem dX3_addSigned_10 : decode cX3_addSigned 10 = .ok (.return_, 1) := by decide +kernel
theorem dX4_init_0 : decode cX4_init 0 = .ok (.aload_n 0, 1) := by decide +kernel
theorem dX4_init_1 : decode cX4_init 1 = .ok (.invokespecial 3, 3) := by decide +kernel
theorem dX4_init_4 : decode cX4_init 4 = .ok (.aload_n 0, 1) := by decide +kernel
theorem dX4_init_5 : decode cX4_init 5 = .ok (.bipush 45, 2) := by decide +kernel
theorem dX4_init_7 : decode cX4_init 7 = .ok (.newarray .int, 2) := by decide +kernel
theorem dX4_init_9 : decode cX4_init 9 = .ok (.putfield 9, 3) := by decide +kernel
theorem dX4_init_12 : decode cX4_init 12 = .ok (.aload_n 0, 1) := by decide +kernel
theorem dX4_init_13 : decode cX4_init 13 = .ok (.bipush 45, 2) := by decide +kernel
theorem dX4_init_15 : decode cX4_init 15 = .ok (.newarray .int, 2) := by decide +kernel
theorem dX4_init_17 : decode cX4_init 17 = .ok (.putfield 15, 3) := by decide +kernel
theorem dX4_init_20 : decode cX4_init 20 = .ok (.aload_n 0, 1) := by decide +kernel
theorem dX4_init_21 : decode cX4_init 21 = .ok (.bipush 45, 2) := by decide +kernel
theorem dX4_init_23 : decode cX4_init 23 = .ok (.newarray .boolean, 2) := by decide +kernel
theorem dX4_init_25 : decode cX4_init 25 = .ok (.putfield 18, 3) := by decide +kernel
theorem dX4_init_28 : decode cX4_init 28 = .ok (.aload_n 0, 1) := by decide +kernel
theorem dX4_init_29 : decode cX4_init 29 = .ok (.aload_n 1, 1) := by decide +kernel
theorem dX4_init_30 : decode cX4_init 30 = .ok (.putfield 22, 3) := by decide +kernel
theorem dX4_init_33 : decode cX4_init 33 = .ok (.return_, 1) := by decide +kernel
theorem dX4_spreadTo_0 : decode cX4_spreadTo 0 = .ok (.iload_n 1, 1) := by decide +kernel
theorem dX4_spreadTo_1 : decode cX4_spreadTo 1 = .ok (.invokestatic 26, 3) := by decide +kernel
theorem dX4_spreadTo_4 : decode cX4_spreadTo 4 = .ok (.ifCond .eq 24, 3) := by decide +kernel
theorem dX4_spreadTo_7 : decode cX4_spreadTo 7 = .ok (.aload_n 0, 1) := by decide +kernel
theorem dX4_spreadTo_8 : decode cX4_spreadTo 8 = .ok (.getfield 9, 3) := by decide +kernel
theorem dX4_spreadTo_11 : decode cX4_spreadTo 11 = .ok (.iload_n 1, 1) := by decide +kernel
theorem dX4_spreadTo_12 : decode cX4_spreadTo 12 = .ok (.iaload, 1) := by decide +kernel
theorem dX4_spreadTo_13 : decode cX4_spreadTo 13 = .ok (.sipush 1000, 3) := by decide +kernel
theorem dX4_spreadTo_16 : decode cX4_spreadTo 16 = .ok (.if_icmp .ge 12, 3) := by decide +kernel
theorem dX4_spreadTo_19 : decode cX4_spreadTo 19 = .ok (.aload_n 0, 1) := by decide +kernel
theorem dX4_spreadTo_20 : decode cX4_spreadTo 20 = .ok (.getfield 9, 3) := by decide +kernel
theorem dX4_spreadTo_23 : decode cX4_spreadTo 23 = .ok (.iload_n 1, 1) := by decide +kernel
theorem dX4_spreadTo_24 : decode cX4_spreadTo 24 = .ok (.iaload, 1) := by decide +kernel
theorem dX4_spreadTo_25 : decode cX4_spreadTo 25 = .ok (.goto 4, 3) := by decide +kernel
theorem dX4_spreadTo_28 : decode cX4_spreadTo 28 = .ok (.iconst (-1), 1) := by decide +kernel
theorem dX4_spreadTo_29 : decode cX4_spreadTo 29 = .ok (.ireturn, 1) := by decide +kernel
theorem dX4_loweredTo_0 : decode cX4_loweredTo 0 = .ok (.iload_n 1, 1) := by decide +kernel
theorem dX4_loweredTo_1 : decode cX4_loweredTo 1 = .ok (.invokestatic 26, 3) := by decide +kernel
theorem dX4_loweredTo_4 : decode cX4_loweredTo 4 = .ok (.ifCond .eq 24, 3) := by decide +kernel
theorem dX4_loweredTo_7 : decode cX4_loweredTo 7 = .ok (.aload_n 0, 1) := by decide +kernel
theorem dX4_loweredTo_8 : decode cX4_loweredTo 8 = .ok (.getfield 15, 3) := by decide +kernel
theorem dX4_loweredTo_11 : decode cX4_loweredTo 11 = .ok (.iload_n 1, 1) := by decide +kernel
theorem dX4_loweredTo_12 : decode cX4_loweredTo 12 = .ok (.iaload, 1) := by decide +kernel
theorem dX4_loweredTo_13 : decode cX4_loweredTo 13 = .ok (.sipush 1000, 3) := by decide +kernel
theorem dX4_loweredTo_16 : decode cX4_loweredTo 16 = .ok (.if_icmp .ge 12, 3) := by decide +kernel
theorem dX4_loweredTo_19 : decode cX4_loweredTo 19 = .ok (.aload_n 0, 1) := by decide +kernel
theorem dX4_loweredTo_20 : decode cX4_loweredTo 20 = .ok (.getfield 15, 3) := by decide +kernel
theorem dX4_loweredTo_23 : decode cX4_loweredTo 23 = .ok (.iload_n 1, 1) := by decide +kernel
theorem dX4_loweredTo_24 : decode cX4_loweredTo 24 = .ok (.iaload, 1) := by decide +kernel
theorem dX4_loweredTo_25 : decode cX4_loweredTo 25 = .ok (.goto 4, 3) := by decide +kernel
theorem dX4_loweredTo_28 : decode cX4_loweredTo 28 = .ok (.iconst (-1), 1) := by decide +kernel
theorem dX4_loweredTo_29 : decode cX4_loweredTo 29 = .ok (.ireturn, 1) := by decide +kernel
theorem dX4_areAlike_0 : decode cX4_areAlike 0 = .ok (.iconst 0, 1) := by decide +kernel
theorem dX4_areAlike_1 : decode cX4_areAlike 1 = .ok (.istore_n 1, 1) := by decide +kernel
theorem dX4_areAlike_2 : decode cX4_areAlike 2 = .ok (.iload_n 1, 1) := by decide +kernel
theorem dX4_areAlike_3 : decode cX4_areAlike 3 = .ok (.bipush 45, 2) := by decide +kernel
theorem dX4_areAlike_5 : decode cX4_areAlike 5 = .ok (.if_icmp .ge 24, 3) := by decide +kernel
theorem dX4_areAlike_8 : decode cX4_areAlike 8 = .ok (.aload_n 0, 1) := by decide +kernel
theorem dX4_areAlike_9 : decode cX4_areAlike 9 = .ok (.iload_n 1, 1) := by decide +kernel
theorem dX4_areAlike_10 : decode cX4_areAlike 10 = .ok (.invokevirtual 30, 3) := by decide +kernel
theorem dX4_areAlike_13 : decode cX4_areAlike 13 = .ok (.aload_n 0, 1) := by decide +kernel
theorem dX4_areAlike_14 : decode cX4_areAlike 14 = .ok (.iload_n 1, 1) := by decide +kernel
theorem dX4_areAlike_15 : decode cX4_areAlike 15 = .ok (.invokevirtual 34, 3) := by decide +kernel
theorem dX4_areAlike_18 : decode cX4_areAlike 18 = .ok (.if_icmp .eq 5, 3) := by decide +kernel
theorem dX4_areAlike_21 : decode cX4_areAlike 21 = .ok (.iconst 0, 1) := by decide +kernel
theorem dX4_areAlike_22 : decode cX4_areAlike 22 = .ok (.ireturn, 1) := by decide +kernel
theorem dX4_areAlike_23 : decode cX4_areAlike 23 = .ok (.iinc 1 1, 3) := by decide +kernel
theorem dX4_areAlike_26 : decode cX4_areAlike 26 = .ok (.goto (-24), 3) := by decide +kernel
theorem dX4_areAlike_29 : decode cX4_areAlike 29 = .ok (.iconst 1, 1) := by decide +kernel
theorem dX4_areAlike_30 : decode cX4_areAlike 30 = .ok (.ireturn, 1) := by decide +kernel
theorem dX4_countWithin_0 : decode cX4_countWithin 0 = .ok (.iconst 0, 1) := by decide +kernel
theorem dX4_countWithin_1 : decode cX4_countWithin 1 = .ok (.istore_n 2, 1) := by decide +kernel
theorem dX4_countWithin_2 : decode cX4_countWithin 2 = .ok (.iconst 0, 1) := by decide +kernel
theorem dX4_countWithin_3 : decode cX4_countWithin 3 = .ok (.istore_n 3, 1) := by decide +kernel
theorem dX4_countWithin_4 : decode cX4_countWithin 4 = .ok (.iload_n 3, 1) := by decide +kernel
theorem dX4_countWithin_5 : decode cX4_countWithin 5 = .ok (.aload_n 0, 1) := by decide +kernel
theorem dX4_countWithin_6 : decode cX4_countWithin 6 = .ok (.getfield 9, 3) := by decide +kernel
theorem dX4_countWithin_9 : decode cX4_countWithin 9 = .ok (.arraylength, 1) := by decide +kernel
theorem dX4_countWithin_10 : decode cX4_countWithin 10 = .ok (.if_icmp .ge 36, 3) := by decide +kernel
theorem dX4_countWithin_13 : decode cX4_countWithin 13 = .ok (.iload_n 2, 1) := by decide +kernel
theorem dX4_countWithin_14 : decode cX4_countWithin 14 = .ok (.aload_n 0, 1) := by decide +kernel
theorem dX4_countWithin_15 : decode cX4_countWithin 15 = .ok (.getfield 9, 3) := by decide +kernel
theorem dX4_countWithin_18 : decode cX4_countWithin 18 = .ok (.iload_n 3, 1) := by decide +kernel
theorem dX4_countWithin_19 : decode cX4_countWithin 19 = .ok (.iaload, 1) := by decide +kernel
theorem dX4_countWithin_20 : decode cX4_countWithin 20 = .ok (.ifCond .le 17, 3) := by decide +kernel
theorem dX4_countWithin_23 : decode cX4_countWithin 23 = .ok (.aload_n 0, 1) := by decide +kernel
theorem dX4_countWithin_24 : decode cX4_countWithin 24 = .ok (.getfield 9, 3) := by decide +kernel
theorem dX4_countWithin_27 : decode cX4_countWithin 27 = .ok (.iload_n 3, 1) := by decide +kernel
theorem dX4_countWithin_28 : decode cX4_countWithin 28 = .ok (.iaload, 1) := by decide +kernel
theorem dX4_countWithin_29 : decode cX4_countWithin 29 = .ok (.iload_n 1, 1) := by decide +kernel
theorem dX4_countWithin_30 : decode cX4_countWithin 30 = .ok (.if_icmp .gt 7, 3) := by decide +kernel
theorem dX4_countWithin_33 : decode cX4_countWithin 33 = .ok (.iconst 1, 1) := by decide +kernel
theorem dX4_countWithin_34 : decode cX4_countWithin 34 = .ok (.goto 4, 3) := by decide +kernel
theorem dX4_countWithin_37 : decode cX4_countWithin 37 = .ok (.iconst 0, 1) := by decide +kernel
theorem dX4_countWithin_38 : decode cX4_countWithin 38 = .ok (.iadd, 1) := by decide +kernel
theorem dX4_countWithin_39 : decode cX4_countWithin 39 = .ok (.istore_n 2, 1) := by decide +kernel
theorem dX4_countWithin_40 : decode cX4_countWithin 40 = .ok (.iinc 3 1, 3) := by decide +kernel
theorem dX4_countWithin_43 : decode cX4_countWithin 43 = .ok (.goto (-39), 3) := by decide +kernel
theorem dX4_countWithin_46 : decode cX4_countWithin 46 = .ok (.iload_n 2, 1) := by decide +kernel
theorem dX4_countWithin_47 : decode cX4_countWithin 47 = .ok (.ireturn, 1) := by decide +kernel
theorem dX4_findBySpreading_0 : decode cX4_findBySpreading 0 = .ok (.aload_n 0, 1) := by decide +kernel
theorem dX4_findBySpreading_1 : decode cX4_findBySpreading 1 = .ok (.aload_n 0, 1) := by decide +kernel
theorem dX4_findBySpreading_2 : decode cX4_findBySpreading 2 = .ok (.getfield 9, 3) := by decide +kernel
theorem dX4_findBySpreading_5 : decode cX4_findBySpreading 5 = .ok (.iload_n 1, 1) := by decide +kernel
theorem dX4_findBySpreading_6 : decode cX4_findBySpreading 6 = .ok (.invokevirtual 37, 3) := by decide +kernel
theorem dX4_findBySpreading_9 : decode cX4_findBySpreading 9 = .ok (.iconst 1, 1) := by decide +kernel
theorem dX4_findBySpreading_10 : decode cX4_findBySpreading 10 = .ok (.istore_n 2, 1) := by decide +kernel
theorem dX4_findBySpreading_11 : decode cX4_findBySpreading 11 = .ok (.iconst 0, 1) := by decide +kernel
theorem dX4_findBySpreading_12 : decode cX4_findBySpreading 12 = .ok (.istore_n 3, 1) := by decide +kernel
theorem dX4_findBySpreading_13 : decode cX4_findBySpreading 13 = .ok (.iload_n 3, 1) := by decide +kernel
theorem dX4_findBySpreading_14 : decode cX4_findBySpreading 14 = .ok (.bipush 45, 2) := by decide +kernel
theorem dX4_findBySpreading_16 : decode cX4_findBySpreading 16 = .ok (.if_icmp .ge 59, 3) := by decide +kernel
theorem dX4_findBySpreading_19 : decode cX4_findBySpreading 19 = .ok (.iload_n 2, 1) := by decide +kernel
theorem dX4_findBySpreading_20 : decode cX4_findBySpreading 20 = .ok (.ifCond .eq 55, 3) := by decide +kernel
theorem dX4_findBySpreading_23 : decode cX4_findBySpreading 23 = .ok (.iconst 0, 1) := by decide +kernel
theorem dX4_findBySpreading_24 : decode cX4_findBySpreading 24 = .ok (.istore_n 2, 1) := by decide +kernel
theorem dX4_findBySpreading_25 : decode cX4_findBySpreading 25 = .ok (.iconst 0, 1) := by decide +kernel
theorem dX4_findBySpreading_26 : decode cX4_findBySpreading 26 = .ok (.istore 4, 2) := by decide +kernel
theorem dX4_findBySpreading_28 : decode cX4_findBySpreading 28 = .ok (.iload 4, 2) := by decide +kernel
theorem dX4_findBySpreading_30 : decode cX4_findBySpreading 30 = .ok (.aload_n 0, 1) := by decide +kernel
theorem dX4_findBySpreading_31 : decode cX4_findBySpreading 31 = .ok (.getfield 9, 3) := by decide +kernel
theorem dX4_findBySpreading_34 : decode cX4_findBySpreading 34 = .ok (.arraylength, 1) := by decide +kernel
theorem dX4_findBySpreading_35 : decode cX4_findBySpreading 35 = .ok (.if_icmp .ge 34, 3) := by decide +kernel
theorem dX4_findBySpreading_38 : decode cX4_findBySpreading 38 = .ok (.aload_n 0, 1) := by decide +kernel
theorem dX4_findBySpreading_39 : decode cX4_findBySpreading 39 = .ok (.getfield 9, 3) := by decide +kernel
theorem dX4_findBySpreading_42 : decode cX4_findBySpreading 42 = .ok (.iload 4, 2) := by decide +kernel
theorem dX4_findBySpreading_44 : decode cX4_findBySpreading 44 = .ok (.iaload, 1) := by decide +kernel
theorem dX4_findBySpreading_45 : decode cX4_findBySpreading 45 = .ok (.iload_n 3, 1) := by decide +kernel
theorem dX4_findBySpreading_46 : decode cX4_findBySpreading 46 = .ok (.if_icmp .ne 17, 3) := by decide +kernel
theorem dX4_findBySpreading_49 : decode cX4_findBySpreading 49 = .ok (.aload_n 0, 1) := by decide +kernel
theorem dX4_findBySpreading_50 : decode cX4_findBySpreading 50 = .ok (.iload 4, 2) := by decide +kernel
theorem dX4_findBySpreading_52 : decode cX4_findBySpreading 52 = .ok (.iload_n 3, 1) := by decide +kernel
theorem dX4_findBySpreading_53 : decode cX4_findBySpreading 53 = .ok (.iconst 1, 1) := by decide +kernel
theorem dX4_findBySpreading_54 : decode cX4_findBySpreading 54 = .ok (.iadd, 1) := by decide +kernel
theorem dX4_findBySpreading_55 : decode cX4_findBySpreading 55 = .ok (.invokevirtual 41, 3) := by decide +kernel
theorem dX4_findBySpreading_58 : decode cX4_findBySpreading 58 = .ok (.ifCond .eq 5, 3) := by decide +kernel
theorem dX4_findBySpreading_61 : decode cX4_findBySpreading 61 = .ok (.iconst 1, 1) := by decide +kernel
theorem dX4_findBySpreading_62 : decode cX4_findBySpreading 62 = .ok (.istore_n 2, 1) := by decide +kernel
theorem dX4_findBySpreading_63 : decode cX4_findBySpreading 63 = .ok (.iinc 4 1, 3) := by decide +kernel
theorem dX4_findBySpreading_66 : decode cX4_findBySpreading 66 = .ok (.goto (-38), 3) := by decide +kernel
theorem dX4_findBySpreading_69 : decode cX4_findBySpreading 69 = .ok (.iinc 3 1, 3) := by decide +kernel
theorem dX4_findBySpreading_72 : decode cX4_findBySpreading 72 = .ok (.goto (-59), 3) := by decide +kernel
theorem dX4_findBySpreading_75 : decode cX4_findBySpreading 75 = .ok (.return_, 1) := by decide +kernel
theorem dX4_spreadFrom_0 : decode cX4_spreadFrom 0 = .ok (.iconst 0, 1) := by decide +kernel
theorem dX4_spreadFrom_1 : decode cX4_spreadFrom 1 = .ok (.istore_n 3, 1) := by decide +kernel
theorem dX4_spreadFrom_2 : decode cX4_spreadFrom 2 = .ok (.iconst 0, 1) := by decide +kernel
theorem dX4_spreadFrom_3 : decode cX4_spreadFrom 3 = .ok (.istore 4, 2) := by decide +kernel
theorem dX4_spreadFrom_5 : decode cX4_spreadFrom 5 = .ok (.iload 4, 2) := by decide +kernel
theorem dX4_spreadFrom_7 : decode cX4_spreadFrom 7 = .ok (.iconst 4, 1) := by decide +kernel
theorem dX4_spreadFrom_8 : decode cX4_spreadFrom 8 = .ok (.if_icmp .ge 58, 3) := by decide +kernel
theorem dX4_spreadFrom_11 : decode cX4_spreadFrom 11 = .ok (.iload_n 1, 1) := by decide +kernel
theorem dX4_spreadFrom_12 : decode cX4_spreadFrom 12 = .ok (.iload 4, 2) := by decide +kernel
theorem dX4_spreadFrom_14 : decode cX4_spreadFrom 14 = .ok (.invokestatic 45, 3) := by decide +kernel
theorem dX4_spreadFrom_17 : decode cX4_spreadFrom 17 = .ok (.istore 5, 2) := by decide +kernel
theorem dX4_spreadFrom_19 : decode cX4_spreadFrom 19 = .ok (.iload 5, 2) := by decide +kernel
theorem dX4_spreadFrom_21 : decode cX4_spreadFrom 21 = .ok (.invokestatic 26, 3) := by decide +kernel
theorem dX4_spreadFrom_24 : decode cX4_spreadFrom 24 = .ok (.ifCond .eq 36, 3) := by decide +kernel
theorem dX4_spreadFrom_27 : decode cX4_spreadFrom 27 = .ok (.aload_n 0, 1) := by decide +kernel
theorem dX4_spreadFrom_28 : decode cX4_spreadFrom 28 = .ok (.getfield 18, 3) := by decide +kernel
theorem dX4_spreadFrom_31 : decode cX4_spreadFrom 31 = .ok (.iload 5, 2) := by decide +kernel
theorem dX4_spreadFrom_33 : decode cX4_spreadFrom 33 = .ok (.baload, 1) := by decide +kernel
theorem dX4_spreadFrom_34 : decode cX4_spreadFrom 34 = .ok (.ifCond .eq 26, 3) := by decide +kernel
theorem dX4_spreadFrom_37 : decode cX4_spreadFrom 37 = .ok (.aload_n 0, 1) := by decide +kernel
theorem dX4_spreadFrom_38 : decode cX4_spreadFrom 38 = .ok (.getfield 9, 3) := by decide +kernel
theorem dX4_spreadFrom_41 : decode cX4_spreadFrom 41 = .ok (.iload 5, 2) := by decide +kernel
theorem dX4_spreadFrom_43 : decode cX4_spreadFrom 43 = .ok (.iaload, 1) := by decide +kernel
theorem dX4_spreadFrom_44 : decode cX4_spreadFrom 44 = .ok (.sipush 1000, 3) := by decide +kernel
theorem dX4_spreadFrom_47 : decode cX4_spreadFrom 47 = .ok (.if_icmp .ne 13, 3) := by decide +kernel
theorem dX4_spreadFrom_50 : decode cX4_spreadFrom 50 = .ok (.aload_n 0, 1) := by decide +kernel
theorem dX4_spreadFrom_51 : decode cX4_spreadFrom 51 = .ok (.getfield 9, 3) := by decide +kernel
theorem dX4_spreadFrom_54 : decode cX4_spreadFrom 54 = .ok (.iload 5, 2) := by decide +kernel
theorem dX4_spreadFrom_56 : decode cX4_spreadFrom 56 = .ok (.iload_n 2, 1) := by decide +kernel
theorem dX4_spreadFrom_57 : decode cX4_spreadFrom 57 = .ok (.iastore, 1) := by decide +kernel
theorem dX4_spreadFrom_58 : decode cX4_spreadFrom 58 = .ok (.iconst 1, 1) := by decide +kernel
theorem dX4_spreadFrom_59 : decode cX4_spreadFrom 59 = .ok (.istore_n 3, 1) := by decide +kernel
theorem dX4_spreadFrom_60 : decode cX4_spreadFrom 60 = .ok (.iinc 4 1, 3) := by decide +kernel
theorem dX4_spreadFrom_63 : decode cX4_spreadFrom 63 = .ok (.goto (-58), 3) := by decide +kernel
theorem dX4_spreadFrom_66 : decode cX4_spreadFrom 66 = .ok (.iload_n 3, 1) := by decide +kernel
theorem dX4_spreadFrom_67 : decode cX4_spreadFrom 67 = .ok (.ireturn, 1) := by decide +kernel
theorem dX4_findByLowering_0 : decode cX4_findByLowering 0 = .ok (.aload_n 0, 1) := by decide +kernel
theorem dX4_findByLowering_1 : decode cX4_findByLowering 1 = .ok (.aload_n 0, 1) := by decide +kernel
theorem dX4_findByLowering_2 : decode cX4_findByLowering 2 = .ok (.getfield 15, 3) := by decide +kernel
theorem dX4_findByLowering_5 : decode cX4_findByLowering 5 = .ok (.iload_n 1, 1) := by decide +kernel
theorem dX4_findByLowering_6 : decode cX4_findByLowering 6 = .ok (.invokevirtual 37, 3) := by decide +kernel
theorem dX4_findByLowering_9 : decode cX4_findByLowering 9 = .ok (.iconst 1, 1) := by decide +kernel
theorem dX4_findByLowering_10 : decode cX4_findByLowering 10 = .ok (.istore_n 2, 1) := by decide +kernel
theorem dX4_findByLowering_11 : decode cX4_findByLowering 11 = .ok (.iconst 0, 1) := by decide +kernel
theorem dX4_findByLowering_12 : decode cX4_findByLowering 12 = .ok (.istore_n 3, 1) := by decide +kernel
theorem dX4_findByLowering_13 : decode cX4_findByLowering 13 = .ok (.iload_n 3, 1) := by decide +kernel
theorem dX4_findByLowering_14 : decode cX4_findByLowering 14 = .ok (.bipush 45, 2) := by decide +kernel
theorem dX4_findByLowering_16 : decode cX4_findByLowering 16 = .ok (.if_icmp .ge 55, 3) := by decide +kernel
theorem dX4_findByLowering_19 : decode cX4_findByLowering 19 = .ok (.iload_n 2, 1) := by decide +kernel
theorem dX4_findByLowering_20 : decode cX4_findByLowering 20 = .ok (.ifCond .eq 51, 3) := by decide +kernel
theorem dX4_findByLowering_23 : decode cX4_findByLowering 23 = .ok (.iconst 0, 1) := by decide +kernel
theorem dX4_findByLowering_24 : decode cX4_findByLowering 24 = .ok (.istore_n 2, 1) := by decide +kernel
theorem dX4_findByLowering_25 : decode cX4_findByLowering 25 = .ok (.iconst 0, 1) := by decide +kernel
theorem dX4_findByLowering_26 : decode cX4_findByLowering 26 = .ok (.istore 4, 2) := by decide +kernel
theorem dX4_findByLowering_28 : decode cX4_findByLowering 28 = .ok (.iload 4, 2) := by decide +kernel
theorem dX4_findByLowering_30 : decode cX4_findByLowering 30 = .ok (.aload_n 0, 1) := by decide +kernel
theorem dX4_findByLowering_31 : decode cX4_findByLowering 31 = .ok (.getfield 18, 3) := by decide +kernel
theorem dX4_findByLowering_34 : decode cX4_findByLowering 34 = .ok (.arraylength, 1) := by decide +kernel
theorem dX4_findByLowering_35 : decode cX4_findByLowering 35 = .ok (.if_icmp .ge 30, 3) := by decide +kernel
theorem dX4_findByLowering_38 : decode cX4_findByLowering 38 = .ok (.aload_n 0, 1) := by decide +kernel
theorem dX4_findByLowering_39 : decode cX4_findByLowering 39 = .ok (.getfield 18, 3) := by decide +kernel
theorem dX4_findByLowering_42 : decode cX4_findByLowering 42 = .ok (.iload 4, 2) := by decide +kernel
theorem dX4_findByLowering_44 : decode cX4_findByLowering 44 = .ok (.baload, 1) := by decide +kernel
theorem dX4_findByLowering_45 : decode cX4_findByLowering 45 = .ok (.ifCond .eq 14, 3) := by decide +kernel
theorem dX4_findByLowering_48 : decode cX4_findByLowering 48 = .ok (.aload_n 0, 1) := by decide +kernel
theorem dX4_findByLowering_49 : decode cX4_findByLowering 49 = .ok (.iload 4, 2) := by decide +kernel
theorem dX4_findByLowering_51 : decode cX4_findByLowering 51 = .ok (.invokevirtual 49, 3) := by decide +kernel
theorem dX4_findByLowering_54 : decode cX4_findByLowering 54 = .ok (.ifCond .eq 5, 3) := by decide +kernel
theorem dX4_findByLowering_57 : decode cX4_findByLowering 57 = .ok (.iconst 1, 1) := by decide +kernel
theorem dX4_findByLowering_58 : decode cX4_findByLowering 58 = .ok (.istore_n 2, 1) := by decide +kernel
theorem dX4_findByLowering_59 : decode cX4_findByLowering 59 = .ok (.iinc 4 1, 3) := by decide +kernel
theorem dX4_findByLowering_62 : decode cX4_findByLowering 62 = .ok (.goto (-34), 3) := by decide +kernel
theorem dX4_findByLowering_65 : decode cX4_findByLowering 65 = .ok (.iinc 3 1, 3) := by decide +kernel
theorem dX4_findByLowering_68 : decode cX4_findByLowering 68 = .ok (.goto (-55), 3) := by decide +kernel
theorem dX4_findByLowering_71 : decode cX4_findByLowering 71 = .ok (.return_, 1) := by decide +kernel
theorem dX4_lowerAt_0 : decode cX4_lowerAt 0 = .ok (.iconst 0, 1) := by decide +kernel
theorem dX4_lowerAt_1 : decode cX4_lowerAt 1 = .ok (.istore_n 2, 1) := by decide +kernel
theorem dX4_lowerAt_2 : decode cX4_lowerAt 2 = .ok (.iconst 0, 1) := by decide +kernel
theorem dX4_lowerAt_3 : decode cX4_lowerAt 3 = .ok (.istore_n 3, 1) := by decide +kernel
theorem dX4_lowerAt_4 : decode cX4_lowerAt 4 = .ok (.iload_n 3, 1) := by decide +kernel
theorem dX4_lowerAt_5 : decode cX4_lowerAt 5 = .ok (.iconst 4, 1) := by decide +kernel
theorem dX4_lowerAt_6 : decode cX4_lowerAt 6 = .ok (.if_icmp .ge 66, 3) := by decide +kernel
theorem dX4_lowerAt_9 : decode cX4_lowerAt 9 = .ok (.iload_n 1, 1) := by decide +kernel
theorem dX4_lowerAt_10 : decode cX4_lowerAt 10 = .ok (.iload_n 3, 1) := by decide +kernel
theorem dX4_lowerAt_11 : decode cX4_lowerAt 11 = .ok (.invokestatic 45, 3) := by decide +kernel
theorem dX4_lowerAt_14 : decode cX4_lowerAt 14 = .ok (.istore 4, 2) := by decide +kernel
theorem dX4_lowerAt_16 : decode cX4_lowerAt 16 = .ok (.iload_n 1, 1) := by decide +kernel
theorem dX4_lowerAt_17 : decode cX4_lowerAt 17 = .ok (.invokestatic 26, 3) := by decide +kernel
theorem dX4_lowerAt_20 : decode cX4_lowerAt 20 = .ok (.ifCond .eq 46, 3) := by decide +kernel
theorem dX4_lowerAt_23 : decode cX4_lowerAt 23 = .ok (.iload 4, 2) := by decide +kernel
theorem dX4_lowerAt_25 : decode cX4_lowerAt 25 = .ok (.invokestatic 26, 3) := by decide +kernel
theorem dX4_lowerAt_28 : decode cX4_lowerAt 28 = .ok (.ifCond .eq 38, 3) := by decide +kernel
theorem dX4_lowerAt_31 : decode cX4_lowerAt 31 = .ok (.aload_n 0, 1) := by decide +kernel
theorem dX4_lowerAt_32 : decode cX4_lowerAt 32 = .ok (.getfield 15, 3) := by decide +kernel
theorem dX4_lowerAt_35 : decode cX4_lowerAt 35 = .ok (.iload 4, 2) := by decide +kernel
theorem dX4_lowerAt_37 : decode cX4_lowerAt 37 = .ok (.iaload, 1) := by decide +kernel
theorem dX4_lowerAt_38 : decode cX4_lowerAt 38 = .ok (.iconst 1, 1) := by decide +kernel
theorem dX4_lowerAt_39 : decode cX4_lowerAt 39 = .ok (.iadd, 1) := by decide +kernel
theorem dX4_lowerAt_40 : decode cX4_lowerAt 40 = .ok (.aload_n 0, 1) := by decide +kernel
theorem dX4_lowerAt_41 : decode cX4_lowerAt 41 = .ok (.getfield 15, 3) := by decide +kernel
theorem dX4_lowerAt_44 : decode cX4_lowerAt 44 = .ok (.iload_n 1, 1) := by decide +kernel
theorem dX4_lowerAt_45 : decode cX4_lowerAt 45 = .ok (.iaload, 1) := by decide +kernel
theorem dX4_lowerAt_46 : decode cX4_lowerAt 46 = .ok (.if_icmp .ge 20, 3) := by decide +kernel
theorem dX4_lowerAt_49 : decode cX4_lowerAt 49 = .ok (.aload_n 0, 1) := by decide +kernel
theorem dX4_lowerAt_50 : decode cX4_lowerAt 50 = .ok (.getfield 15, 3) := by decide +kernel
theorem dX4_lowerAt_53 : decode cX4_lowerAt 53 = .ok (.iload_n 1, 1) := by decide +kernel
theorem dX4_lowerAt_54 : decode cX4_lowerAt 54 = .ok (.aload_n 0, 1) := by decide +kernel
theorem dX4_lowerAt_55 : decode cX4_lowerAt 55 = .ok (.getfield 15, 3) := by decide +kernel
theorem dX4_lowerAt_58 : decode cX4_lowerAt 58 = .ok (.iload 4, 2) := by decide +kernel
theorem dX4_lowerAt_60 : decode cX4_lowerAt 60 = .ok (.iaload, 1) := by decide +kernel
theorem dX4_lowerAt_61 : decode cX4_lowerAt 61 = .ok (.iconst 1, 1) := by decide +kernel
theorem dX4_lowerAt_62 : decode cX4_lowerAt 62 = .ok (.iadd, 1) := by decide +kernel
theorem dX4_lowerAt_63 : decode cX4_lowerAt 63 = .ok (.iastore, 1) := by decide +kernel
theorem dX4_lowerAt_64 : decode cX4_lowerAt 64 = .ok (.iconst 1, 1) := by decide +kernel
theorem dX4_lowerAt_65 : decode cX4_lowerAt 65 = .ok (.istore_n 2, 1) := by decide +kernel
theorem dX4_lowerAt_66 : decode cX4_lowerAt 66 = .ok (.iinc 3 1, 3) := by decide +kernel
theorem dX4_lowerAt_69 : decode cX4_lowerAt 69 = .ok (.goto (-65), 3) := by decide +kernel
theorem dX4_lowerAt_72 : decode cX4_lowerAt 72 = .ok (.iload_n 2, 1) := by decide +kernel
theorem dX4_lowerAt_73 : decode cX4_lowerAt 73 = .ok (.ireturn, 1) := by decide +kernel
theorem dX4_begin_0 : decode cX4_begin 0 = .ok (.iconst 0, 1) := by decide +kernel
theorem dX4_begin_1 : decode cX4_begin 1 = .ok (.istore_n 3, 1) := by decide +kernel
theorem dX4_begin_2 : decode cX4_begin 2 = .ok (.iload_n 3, 1) := by decide +kernel
theorem dX4_begin_3 : decode cX4_begin 3 = .ok (.aload_n 0, 1) := by decide +kernel
theorem dX4_begin_4 : decode cX4_begin 4 = .ok (.getfield 18, 3) := by decide +kernel
theorem dX4_begin_7 : decode cX4_begin 7 = .ok (.arraylength, 1) := by decide +kernel
theorem dX4_begin_8 : decode cX4_begin 8 = .ok (.if_icmp .ge 31, 3) := by decide +kernel
theorem dX4_begin_11 : decode cX4_begin 11 = .ok (.aload_n 0, 1) := by decide +kernel
theorem dX4_begin_12 : decode cX4_begin 12 = .ok (.getfield 18, 3) := by decide +kernel
theorem dX4_begin_15 : decode cX4_begin 15 = .ok (.iload_n 3, 1) := by decide +kernel
theorem dX4_begin_16 : decode cX4_begin 16 = .ok (.aload_n 0, 1) := by decide +kernel
theorem dX4_begin_17 : decode cX4_begin 17 = .ok (.getfield 22, 3) := by decide +kernel
theorem dX4_begin_20 : decode cX4_begin 20 = .ok (.iload_n 3, 1) := by decide +kernel
theorem dX4_begin_21 : decode cX4_begin 21 = .ok (.invokevirtual 52, 3) := by decide +kernel
theorem dX4_begin_24 : decode cX4_begin 24 = .ok (.ifCond .ne 7, 3) := by decide +kernel
theorem dX4_begin_27 : decode cX4_begin 27 = .ok (.iconst 1, 1) := by decide +kernel
theorem dX4_begin_28 : decode cX4_begin 28 = .ok (.goto 4, 3) := by decide +kernel
theorem dX4_begin_31 : decode cX4_begin 31 = .ok (.iconst 0, 1) := by decide +kernel
theorem dX4_begin_32 : decode cX4_begin 32 = .ok (.bastore, 1) := by decide +kernel
theorem dX4_begin_33 : decode cX4_begin 33 = .ok (.iinc 3 1, 3) := by decide +kernel
theorem dX4_begin_36 : decode cX4_begin 36 = .ok (.goto (-34), 3) := by decide +kernel
theorem dX4_begin_39 : decode cX4_begin 39 = .ok (.iconst 0, 1) := by decide +kernel
theorem dX4_begin_40 : decode cX4_begin 40 = .ok (.istore_n 3, 1) := by decide +kernel
theorem dX4_begin_41 : decode cX4_begin 41 = .ok (.iload_n 3, 1) := by decide +kernel
theorem dX4_begin_42 : decode cX4_begin 42 = .ok (.aload_n 0, 1) := by decide +kernel
theorem dX4_begin_43 : decode cX4_begin 43 = .ok (.getfield 22, 3) := by decide +kernel
theorem dX4_begin_46 : decode cX4_begin 46 = .ok (.iconst 0, 1) := by decide +kernel
theorem dX4_begin_47 : decode cX4_begin 47 = .ok (.invokevirtual 57, 3) := by decide +kernel
theorem dX4_begin_50 : decode cX4_begin 50 = .ok (.if_icmp .ge 36, 3) := by decide +kernel
theorem dX4_begin_53 : decode cX4_begin 53 = .ok (.aload_n 0, 1) := by decide +kernel
theorem dX4_begin_54 : decode cX4_begin 54 = .ok (.getfield 22, 3) := by decide +kernel
theorem dX4_begin_57 : decode cX4_begin 57 = .ok (.iload_n 3, 1) := by decide +kernel
theorem dX4_begin_58 : decode cX4_begin 58 = .ok (.iconst 4, 1) := by decide +kernel
theorem dX4_begin_59 : decode cX4_begin 59 = .ok (.invokevirtual 60, 3) := by decide +kernel
theorem dX4_begin_62 : decode cX4_begin 62 = .ok (.istore 4, 2) := by decide +kernel
theorem dX4_begin_64 : decode cX4_begin 64 = .ok (.iload 4, 2) := by decide +kernel
theorem dX4_begin_66 : decode cX4_begin 66 = .ok (.invokestatic 26, 3) := by decide +kernel
theorem dX4_begin_69 : decode cX4_begin 69 = .ok (.ifCond .eq 11, 3) := by decide +kernel
theorem dX4_begin_72 : decode cX4_begin 72 = .ok (.aload_n 0, 1) := by decide +kernel
theorem dX4_begin_73 : decode cX4_begin 73 = .ok (.getfield 18, 3) := by decide +kernel
theorem dX4_begin_76 : decode cX4_begin 76 = .ok (.iload 4, 2) := by decide +kernel
theorem dX4_begin_78 : decode cX4_begin 78 = .ok (.iconst 0, 1) := by decide +kernel
theorem dX4_begin_79 : decode cX4_begin 79 = .ok (.bastore, 1) := by decide +kernel
theorem dX4_begin_80 : decode cX4_begin 80 = .ok (.iinc 3 1, 3) := by decide +kernel
theorem dX4_begin_83 : decode cX4_begin 83 = .ok (.goto (-42), 3) := by decide +kernel
theorem dX4_begin_86 : decode cX4_begin 86 = .ok (.iconst 0, 1) := by decide +kernel
theorem dX4_begin_87 : decode cX4_begin 87 = .ok (.istore_n 3, 1) := by decide +kernel
theorem dX4_begin_88 : decode cX4_begin 88 = .ok (.iload_n 3, 1) := by decide +kernel
theorem dX4_begin_89 : decode cX4_begin 89 = .ok (.aload_n 1, 1) := by decide +kernel
theorem dX4_begin_90 : decode cX4_begin 90 = .ok (.arraylength, 1) := by decide +kernel
theorem dX4_begin_91 : decode cX4_begin 91 = .ok (.if_icmp .ge 15, 3) := by decide +kernel
theorem dX4_begin_94 : decode cX4_begin 94 = .ok (.aload_n 1, 1) := by decide +kernel
theorem dX4_begin_95 : decode cX4_begin 95 = .ok (.iload_n 3, 1) := by decide +kernel
theorem dX4_begin_96 : decode cX4_begin 96 = .ok (.sipush 1000, 3) := by decide +kernel
theorem dX4_begin_99 : decode cX4_begin 99 = .ok (.iastore, 1) := by decide +kernel
theorem dX4_begin_100 : decode cX4_begin 100 = .ok (.iinc 3 1, 3) := by decide +kernel
theorem dX4_begin_103 : decode cX4_begin 103 = .ok (.goto (-15), 3) := by decide +kernel
theorem dX4_begin_106 : decode cX4_begin 106 = .ok (.aload_n 0, 1) := by decide +kernel
theorem dX4_begin_107 : decode cX4_begin 107 = .ok (.getfield 22, 3) := by decide +kernel
theorem dX4_begin_110 : decode cX4_begin 110 = .ok (.iload_n 2, 1) := by decide +kernel
theorem dX4_begin_111 : decode cX4_begin 111 = .ok (.iconst 4, 1) := by decide +kernel
theorem dX4_begin_112 : decode cX4_begin 112 = .ok (.invokevirtual 60, 3) := by decide +kernel
theorem dX4_begin_115 : decode cX4_begin 115 = .ok (.istore_n 3, 1) := by decide +kernel
theorem dX4_begin_116 : decode cX4_begin 116 = .ok (.iload_n 3, 1) := by decide +kernel
theorem dX4_begin_117 : decode cX4_begin 117 = .ok (.ifCond .lt 13, 3) := by decide +kernel
theorem dX4_begin_120 : decode cX4_begin 120 = .ok (.iload_n 3, 1) := by decide +kernel
theorem dX4_begin_121 : decode cX4_begin 121 = .ok (.aload_n 1, 1) := by decide +kernel
theorem dX4_begin_122 : decode cX4_begin 122 = .ok (.arraylength, 1) := by decide +kernel
theorem dX4_begin_123 : decode cX4_begin 123 = .ok (.if_icmp .ge 7, 3) := by decide +kernel
theorem dX4_begin_126 : decode cX4_begin 126 = .ok (.aload_n 1, 1) := by decide +kernel
theorem dX4_begin_127 : decode cX4_begin 127 = .ok (.iload_n 3, 1) := by decide +kernel
theorem dX4_begin_128 : decode cX4_begin 128 = .ok (.iconst 0, 1) := by decide +kernel
theorem dX4_begin_129 : decode cX4_begin 129 = .ok (.iastore, 1) := by decide +kernel
theorem dX4_begin_130 : decode cX4_begin 130 = .ok (.return_, 1) := by decide +kernel
theorem dX5_init_0 : decode cX5_init 0 = .ok (.aload_n 0, 1) := by decide +kernel
theorem dX5_init_1 : decode cX5_init 1 = .ok (.invokespecial 3, 3) := by decide +kernel
theorem dX5_init_4 : decode cX5_init 4 = .ok (.aload_n 0, 1) := by decide +kernel
theorem dX5_init_5 : decode cX5_init 5 = .ok (.bipush 60, 2) := by decide +kernel
theorem dX5_init_7 : decode cX5_init 7 = .ok (.newarray .char, 2) := by decide +kernel
theorem dX5_init_9 : decode cX5_init 9 = .ok (.putfield 9, 3) := by decide +kernel
theorem dX5_init_12 : decode cX5_init 12 = .ok (.aload_n 0, 1) := by decide +kernel
theorem dX5_init_13 : decode cX5_init 13 = .ok (.iconst 3, 1) := by decide +kernel
theorem dX5_init_14 : decode cX5_init 14 = .ok (.newarray .int, 2) := by decide +kernel
theorem dX5_init_16 : decode cX5_init 16 = .ok (.putfield 15, 3) := by decide +kernel
theorem dX5_init_19 : decode cX5_init 19 = .ok (.aload_n 0, 1) := by decide +kernel
theorem dX5_init_20 : decode cX5_init 20 = .ok (.iconst 0, 1) := by decide +kernel
theorem dX5_init_21 : decode cX5_init 21 = .ok (.putfield 19, 3) := by decide +kernel
theorem dX5_init_24 : decode cX5_init 24 = .ok (.aload_n 0, 1) := by decide +kernel
theorem dX5_init_25 : decode cX5_init 25 = .ok (.iconst 0, 1) := by decide +kernel
theorem dX5_init_26 : decode cX5_init 26 = .ok (.putfield 23, 3) := by decide +kernel
theorem dX5_init_29 : decode cX5_init 29 = .ok (.aload_n 0, 1) := by decide +kernel
theorem dX5_init_30 : decode cX5_init 30 = .ok (.iconst (-1), 1) := by decide +kernel
theorem dX5_init_31 : decode cX5_init 31 = .ok (.putfield 26, 3) := by decide +kernel
theorem dX5_init_34 : decode cX5_init 34 = .ok (.aload_n 0, 1) := by decide +kernel
theorem dX5_init_35 : decode cX5_init 35 = .ok (.iconst 0, 1) := by decide +kernel
theorem dX5_init_36 : decode cX5_init 36 = .ok (.putfield 29, 3) := by decide +kernel
theorem dX5_init_39 : decode cX5_init 39 = .ok (.aload_n 0, 1) := by decide +kernel
theorem dX5_init_40 : decode cX5_init 40 = .ok (.iconst 0, 1) := by decide +kernel
theorem dX5_init_41 : decode cX5_init 41 = .ok (.putfield 32, 3) := by decide +kernel
theorem dX5_init_44 : decode cX5_init 44 = .ok (.return_, 1) := by decide +kernel
theorem dX5_length_0 : decode cX5_length 0 = .ok (.aload_n 0, 1) := by decide +kernel
theorem dX5_length_1 : decode cX5_length 1 = .ok (.getfield 19, 3) := by decide +kernel
theorem dX5_length_4 : decode cX5_length 4 = .ok (.ireturn, 1) := by decide +kernel
theorem dX5_add_0 : decode cX5_add 0 = .ok (.aload_n 0, 1) := by decide +kernel
theorem dX5_add_1 : decode cX5_add 1 = .ok (.getfield 19, 3) := by decide +kernel
theorem dX5_add_4 : decode cX5_add 4 = .ok (.ifCond .lt 35, 3) := by decide +kernel
theorem dX5_add_7 : decode cX5_add 7 = .ok (.aload_n 0, 1) := by decide +kernel
theorem dX5_add_8 : decode cX5_add 8 = .ok (.getfield 19, 3) := by decide +kernel
theorem dX5_add_11 : decode cX5_add 11 = .ok (.aload_n 0, 1) := by decide +kernel
theorem dX5_add_12 : decode cX5_add 12 = .ok (.getfield 9, 3) := by decide +kernel
theorem dX5_add_15 : decode cX5_add 15 = .ok (.arraylength, 1) := by decide +kernel
theorem dX5_add_16 : decode cX5_add 16 = .ok (.if_icmp .ge 23, 3) := by decide +kernel
theorem dX5_add_19 : decode cX5_add 19 = .ok (.aload_n 0, 1) := by decide +kernel
theorem dX5_add_20 : decode cX5_add 20 = .ok (.getfield 9, 3) := by decide +kernel
theorem dX5_add_23 : decode cX5_add 23 = .ok (.aload_n 0, 1) := by decide +kernel
theorem dX5_add_24 : decode cX5_add 24 = .ok (.getfield 19, 3) := by decide +kernel
theorem dX5_add_27 : decode cX5_add 27 = .ok (.iload_n 1, 1) := by decide +kernel
theorem dX5_add_28 : decode cX5_add 28 = .ok (.castore, 1) := by decide +kernel
theorem dX5_add_29 : decode cX5_add 29 = .ok (.aload_n 0, 1) := by decide +kernel
theorem dX5_add_30 : decode cX5_add 30 = .ok (.dup, 1) := by decide +kernel
theorem dX5_add_31 : decode cX5_add 31 = .ok (.getfield 19, 3) := by decide +kernel
theorem dX5_add_34 : decode cX5_add 34 = .ok (.iconst 1, 1) := by decide +kernel
theorem dX5_add_35 : decode cX5_add 35 = .ok (.iadd, 1) := by decide +kernel
theorem dX5_add_36 : decode cX5_add 36 = .ok (.putfield 19, 3) := by decide +kernel
theorem dX5_add_39 : decode cX5_add 39 = .ok (.aload_n 0, 1) := by decide +kernel
theorem dX5_add_40 : decode cX5_add 40 = .ok (.getfield 19, 3) := by decide +kernel
theorem dX5_add_43 : decode cX5_add 43 = .ok (.ireturn, 1) := by decide +kernel
theorem dX5_clear_0 : decode cX5_clear 0 = .ok (.aload_n 0, 1) := by decide +kernel
theorem dX5_clear_1 : decode cX5_clear 1 = .ok (.iconst 0, 1) := by decide +kernel
theorem dX5_clear_2 : decode cX5_clear 2 = .ok (.putfield 19, 3) := by decide +kernel
theorem dX5_clear_5 : decode cX5_clear 5 = .ok (.return_, 1) := by decide +kernel
theorem dX5_rewind_0 : decode cX5_rewind 0 = .ok (.aload_n 0, 1) := by decide +kernel
theorem dX5_rewind_1 : decode cX5_rewind 1 = .ok (.iconst 0, 1) := by decide +kernel
theorem dX5_rewind_2 : decode cX5_rewind 2 = .ok (.putfield 23, 3) := by decide +kernel
theorem dX5_rewind_5 : decode cX5_rewind 5 = .ok (.aload_n 0, 1) := by decide +kernel
theorem dX5_rewind_6 : decode cX5_rewind 6 = .ok (.iconst 0, 1) := by decide +kernel
theorem dX5_rewind_7 : decode cX5_rewind 7 = .ok (.putfield 32, 3) := by decide +kernel
theorem dX5_rewind_10 : decode cX5_rewind 10 = .ok (.return_, 1) := by decide +kernel
theorem dX5_countDone_0 : decode cX5_countDone 0 = .ok (.aload_n 0, 1) := by decide +kernel
theorem dX5_countDone_1 : decode cX5_countDone 1 = .ok (.dup, 1) := by decide +kernel
theorem dX5_countDone_2 : decode cX5_countDone 2 = .ok (.getfield 32, 3) := by decide +kernel
theorem dX5_countDone_5 : decode cX5_countDone 5 = .ok (.iconst 1, 1) := by decide +kernel
theorem dX5_countDone_6 : decode cX5_countDone 6 = .ok (.iadd, 1) := by decide +kernel
theorem dX5_countDone_7 : decode cX5_countDone 7 = .ok (.putfield 32, 3) := by decide +kernel
theorem dX5_countDone_10 : decode cX5_countDone 10 = .ok (.return_, 1) := by decide +kernel
theorem dX5_doneCommands_0 : decode cX5_doneCommands 0 = .ok (.aload_n 0, 1) := by decide +kernel
theorem dX5_doneCommands_1 : decode cX5_doneCommands 1 = .ok (.getfield 32, 3) := by decide +kernel
theorem dX5_doneCommands_4 : decode cX5_doneCommands 4 = .ok (.ireturn, 1) := by decide +kernel
theorem dX5_kind_0 : decode cX5_kind 0 = .ok (.aload_n 0, 1) := by decide +kernel
theorem dX5_kind_1 : decode cX5_kind 1 = .ok (.getfield 26, 3) := by decide +kernel
theorem dX5_kind_4 : decode cX5_kind 4 = .ok (.ireturn, 1) := by decide +kernel
theorem dX5_number_0 : decode cX5_number 0 = .ok (.iload_n 1, 1) := by decide +kernel
theorem dX5_number_1 : decode cX5_number 1 = .ok (.ifCond .lt 21, 3) := by decide +kernel
theorem dX5_number_4 : decode cX5_number 4 = .ok (.iload_n 1, 1) := by decide +kernel
theorem dX5_number_5 : decode cX5_number 5 = .ok (.aload_n 0, 1) := by decide +kernel
theorem dX5_number_6 : decode cX5_number 6 = .ok (.getfield 15, 3) := by decide +kernel
theorem dX5_number_9 : decode cX5_number 9 = .ok (.arraylength, 1) := by decide +kernel
theorem dX5_number_10 : decode cX5_number 10 = .ok (.if_icmp .ge 12, 3) := by decide +kernel
theorem dX5_number_13 : decode cX5_number 13 = .ok (.aload_n 0, 1) := by decide +kernel
theorem dX5_number_14 : decode cX5_number 14 = .ok (.getfield 15, 3) := by decide +kernel
theorem dX5_number_17 : decode cX5_number 17 = .ok (.iload_n 1, 1) := by decide +kernel
theorem dX5_number_18 : decode cX5_number 18 = .ok (.iaload, 1) := by decide +kernel
theorem dX5_number_19 : decode cX5_number 19 = .ok (.goto 4, 3) := by decide +kernel
theorem dX5_number_22 : decode cX5_number 22 = .ok (.iconst 0, 1) := by decide +kernel
theorem dX5_number_23 : decode cX5_number 23 = .ok (.ireturn, 1) := by decide +kernel
theorem dX5_errorAt_0 : decode cX5_errorAt 0 = .ok (.aload_n 0, 1) := by decide +kernel
theorem dX5_errorAt_1 : decode cX5_errorAt 1 = .ok (.invokevirtual 35, 3) := by decide +kernel
theorem dX5_errorAt_4 : decode cX5_errorAt 4 = .ok (.iconst 0, 1) := by decide +kernel
theorem dX5_errorAt_5 : decode cX5_errorAt 5 = .ok (.istore_n 1, 1) := by decide +kernel
theorem dX5_errorAt_6 : decode cX5_errorAt 6 = .ok (.iload_n 1, 1) := by decide +kernel
theorem dX5_errorAt_7 : decode cX5_errorAt 7 = .ok (.bipush 60, 2) := by decide +kernel
theorem dX5_errorAt_9 : decode cX5_errorAt 9 = .ok (.if_icmp .gt 58, 3) := by decide +kernel
theorem dX5_errorAt_12 : decode cX5_errorAt 12 = .ok (.aload_n 0, 1) := by decide +kernel
theorem dX5_errorAt_13 : decode cX5_errorAt 13 = .ok (.invokevirtual 38, 3) := by decide +kernel
theorem dX5_errorAt_16 : decode cX5_errorAt 16 = .ok (.ifCond .ne 8, 3) := by decide +kernel
theorem dX5_errorAt_19 : decode cX5_errorAt 19 = .ok (.aload_n 0, 1) := by decide +kernel
theorem dX5_errorAt_20 : decode cX5_errorAt 20 = .ok (.getfield 23, 3) := by decide +kernel
theorem dX5_errorAt_23 : decode cX5_errorAt 23 = .ok (.ireturn, 1) := by decide +kernel
theorem dX5_errorAt_24 : decode cX5_errorAt 24 = .ok (.aload_n 0, 1) := by decide +kernel
theorem dX5_errorAt_25 : decode cX5_errorAt 25 = .ok (.getfield 23, 3) := by decide +kernel
theorem dX5_errorAt_28 : decode cX5_errorAt 28 = .ok (.aload_n 0, 1) := by decide +kernel
theorem dX5_errorAt_29 : decode cX5_errorAt 29 = .ok (.getfield 19, 3) := by decide +kernel
theorem dX5_errorAt_32 : decode cX5_errorAt 32 = .ok (.if_icmp .lt 5, 3) := by decide +kernel
theorem dX5_errorAt_35 : decode cX5_errorAt 35 = .ok (.iconst (-1), 1) := by decide +kernel
theorem dX5_errorAt_36 : decode cX5_errorAt 36 = .ok (.ireturn, 1) := by decide +kernel
theorem dX5_errorAt_37 : decode cX5_errorAt 37 = .ok (.aload_n 0, 1) := by decide +kernel
theorem dX5_errorAt_38 : decode cX5_errorAt 38 = .ok (.invokevirtual 42, 3) := by decide +kernel
theorem dX5_errorAt_41 : decode cX5_errorAt 41 = .ok (.bipush 59, 2) := by decide +kernel
theorem dX5_errorAt_43 : decode cX5_errorAt 43 = .ok (.if_icmp .eq 8, 3) := by decide +kernel
theorem dX5_errorAt_46 : decode cX5_errorAt 46 = .ok (.aload_n 0, 1) := by decide +kernel
theorem dX5_errorAt_47 : decode cX5_errorAt 47 = .ok (.getfield 23, 3) := by decide +kernel
theorem dX5_errorAt_50 : decode cX5_errorAt 50 = .ok (.ireturn, 1) := by decide +kernel
theorem dX5_errorAt_51 : decode cX5_errorAt 51 = .ok (.aload_n 0, 1) := by decide +kernel
theorem dX5_errorAt_52 : decode cX5_errorAt 52 = .ok (.dup, 1) := by decide +kernel
theorem dX5_errorAt_53 : decode cX5_errorAt 53 = .ok (.getfield 23, 3) := by decide +kernel
theorem dX5_errorAt_56 : decode cX5_errorAt 56 = .ok (.iconst 1, 1) := by decide +kernel
theorem dX5_errorAt_57 : decode cX5_errorAt 57 = .ok (.iadd, 1) := by decide +kernel
theorem dX5_errorAt_58 : decode cX5_errorAt 58 = .ok (.putfield 23, 3) := by decide +kernel
theorem dX5_errorAt_61 : decode cX5_errorAt 61 = .ok (.iinc 1 1, 3) := by decide +kernel
theorem dX5_errorAt_64 : decode cX5_errorAt 64 = .ok (.goto (-58), 3) := by decide +kernel
theorem dX5_errorAt_67 : decode cX5_errorAt 67 = .ok (.aload_n 0, 1) := by decide +kernel
theorem dX5_errorAt_68 : decode cX5_errorAt 68 = .ok (.getfield 23, 3) := by decide +kernel
theorem dX5_errorAt_71 : decode cX5_errorAt 71 = .ok (.ireturn, 1) := by decide +kernel
theorem dX5_takeNext_0 : decode cX5_takeNext 0 = .ok (.aload_n 0, 1) := by decide +kernel
theorem dX5_takeNext_1 : decode cX5_takeNext 1 = .ok (.getfield 23, 3) := by decide +kernel
theorem dX5_takeNext_4 : decode cX5_takeNext 4 = .ok (.aload_n 0, 1) := by decide +kernel
theorem dX5_takeNext_5 : decode cX5_takeNext 5 = .ok (.getfield 19, 3) := by decide +kernel
theorem dX5_takeNext_8 : decode cX5_takeNext 8 = .ok (.if_icmp .lt 5, 3) := by decide +kernel
theorem dX5_takeNext_11 : decode cX5_takeNext 11 = .ok (.iconst 0, 1) := by decide +kernel
theorem dX5_takeNext_12 : decode cX5_takeNext 12 = .ok (.ireturn, 1) := by decide +kernel
theorem dX5_takeNext_13 : decode cX5_takeNext 13 = .ok (.aload_n 0, 1) := by decide +kernel
theorem dX5_takeNext_14 : decode cX5_takeNext 14 = .ok (.invokevirtual 42, 3) := by decide +kernel
theorem dX5_takeNext_17 : decode cX5_takeNext 17 = .ok (.bipush 59, 2) := by decide +kernel
theorem dX5_takeNext_19 : decode cX5_takeNext 19 = .ok (.if_icmp .ne 13, 3) := by decide +kernel
theorem dX5_takeNext_22 : decode cX5_takeNext 22 = .ok (.aload_n 0, 1) := by decide +kernel
theorem dX5_takeNext_23 : decode cX5_takeNext 23 = .ok (.dup, 1) := by decide +kernel
theorem dX5_takeNext_24 : decode cX5_takeNext 24 = .ok (.getfield 23, 3) := by decide +kernel
theorem dX5_takeNext_27 : decode cX5_takeNext 27 = .ok (.iconst 1, 1) := by decide +kernel
theorem dX5_takeNext_28 : decode cX5_takeNext 28 = .ok (.iadd, 1) := by decide +kernel
theorem dX5_takeNext_29 : decode cX5_takeNext 29 = .ok (.putfield 23, 3) := by decide +kernel
theorem dX5_takeNext_32 : decode cX5_takeNext 32 = .ok (.aload_n 0, 1) := by decide +kernel
theorem dX5_takeNext_33 : decode cX5_takeNext 33 = .ok (.invokevirtual 38, 3) := by decide +kernel
theorem dX5_takeNext_36 : decode cX5_takeNext 36 = .ok (.ireturn, 1) := by decide +kernel
theorem dX5_takeCommand_0 : decode cX5_takeCommand 0 = .ok (.aload_n 0, 1) := by decide +kernel
theorem dX5_takeCommand_1 : decode cX5_takeCommand 1 = .ok (.ldc 46, 2) := by decide +kernel
theorem dX5_takeCommand_3 : decode cX5_takeCommand 3 = .ok (.aload_n 0, 1) := by decide +kernel
theorem dX5_takeCommand_4 : decode cX5_takeCommand 4 = .ok (.invokevirtual 42, 3) := by decide +kernel
theorem dX5_takeCommand_7 : decode cX5_takeCommand 7 = .ok (.invokevirtual 48, 3) := by decide +kernel
theorem dX5_takeCommand_10 : decode cX5_takeCommand 10 = .ok (.putfield 26, 3) := by decide +kernel
theorem dX5_takeCommand_13 : decode cX5_takeCommand 13 = .ok (.aload_n 0, 1) := by decide +kernel
theorem dX5_takeCommand_14 : decode cX5_takeCommand 14 = .ok (.iconst 0, 1) := by decide +kernel
theorem dX5_takeCommand_15 : decode cX5_takeCommand 15 = .ok (.putfield 29, 3) := by decide +kernel
theorem dX5_takeCommand_18 : decode cX5_takeCommand 18 = .ok (.aload_n 0, 1) := by decide +kernel
theorem dX5_takeCommand_19 : decode cX5_takeCommand 19 = .ok (.getfield 26, 3) := by decide +kernel
theorem dX5_takeCommand_22 : decode cX5_takeCommand 22 = .ok (.iconst (-1), 1) := by decide +kernel
theorem dX5_takeCommand_23 : decode cX5_takeCommand 23 = .ok (.if_icmp .ne 5, 3) := by decide +kernel
theorem dX5_takeCommand_26 : decode cX5_takeCommand 26 = .ok (.iconst 0, 1) := by decide +kernel
theorem dX5_takeCommand_27 : decode cX5_takeCommand 27 = .ok (.ireturn, 1) := by decide +kernel
theorem dX5_takeCommand_28 : decode cX5_takeCommand 28 = .ok (.aload_n 0, 1) := by decide +kernel
theorem dX5_takeCommand_29 : decode cX5_takeCommand 29 = .ok (.dup, 1) := by decide +kernel
theorem dX5_takeCommand_30 : decode cX5_takeCommand 30 = .ok (.getfield 23, 3) := by decide +kernel
theorem dX5_takeCommand_33 : decode cX5_takeCommand 33 = .ok (.iconst 1, 1) := by decide +kernel
theorem dX5_takeCommand_34 : decode cX5_takeCommand 34 = .ok (.iadd, 1) := by decide +kernel
theorem dX5_takeCommand_35 : decode cX5_takeCommand 35 = .ok (.putfield 23, 3) := by decide +kernel
theorem dX5_takeCommand_38 : decode cX5_takeCommand 38 = .ok (.aload_n 0, 1) := by decide +kernel
theorem dX5_takeCommand_39 : decode cX5_takeCommand 39 = .ok (.getfield 26, 3) := by decide +kernel
theorem dX5_takeCommand_42 : decode cX5_takeCommand 42 = .ok (.invokestatic 54, 3) := by decide +kernel
theorem dX5_takeCommand_45 : decode cX5_takeCommand 45 = .ok (.astore_n 1, 1) := by decide +kernel
theorem dX5_takeCommand_46 : decode cX5_takeCommand 46 = .ok (.iconst 0, 1) := by decide +kernel
theorem dX5_takeCommand_47 : decode cX5_takeCommand 47 = .ok (.istore_n 2, 1) := by decide +kernel
theorem dX5_takeCommand_48 : decode cX5_takeCommand 48 = .ok (.iload_n 2, 1) := by decide +kernel
theorem dX5_takeCommand_49 : decode cX5_takeCommand 49 = .ok (.aload_n 1, 1) := by decide +kernel
theorem dX5_takeCommand_50 : decode cX5_takeCommand 50 = .ok (.invokevirtual 58, 3) := by decide +kernel
theorem dX5_takeCommand_53 : decode cX5_takeCommand 53 = .ok (.if_icmp .ge 23, 3) := by decide +kernel
theorem dX5_takeCommand_56 : decode cX5_takeCommand 56 = .ok (.aload_n 0, 1) := by decide +kernel
theorem dX5_takeCommand_57 : decode cX5_takeCommand 57 = .ok (.aload_n 1, 1) := by decide +kernel
theorem dX5_takeCommand_58 : decode cX5_takeCommand 58 = .ok (.iload_n 2, 1) := by decide +kernel
theorem dX5_takeCommand_59 : decode cX5_takeCommand 59 = .ok (.invokevirtual 61, 3) := by decide +kernel
theorem dX5_takeCommand_62 : decode cX5_takeCommand 62 = .ok (.invokevirtual 65, 3) := by decide +kernel
theorem dX5_takeCommand_65 : decode cX5_takeCommand 65 = .ok (.ifCond .ne 5, 3) := by decide +kernel
theorem dX5_takeCommand_68 : decode cX5_takeCommand 68 = .ok (.iconst 0, 1) := by decide +kernel
theorem dX5_takeCommand_69 : decode cX5_takeCommand 69 = .ok (.ireturn, 1) := by decide +kernel
theorem dX5_takeCommand_70 : decode cX5_takeCommand 70 = .ok (.iinc 2 1, 3) := by decide +kernel
theorem dX5_takeCommand_73 : decode cX5_takeCommand 73 = .ok (.goto (-25), 3) := by decide +kernel
theorem dX5_takeCommand_76 : decode cX5_takeCommand 76 = .ok (.aload_n 0, 1) := by decide +kernel
theorem dX5_takeCommand_77 : decode cX5_takeCommand 77 = .ok (.getfield 26, 3) := by decide +kernel
theorem dX5_takeCommand_80 : decode cX5_takeCommand 80 = .ok (.iconst 1, 1) := by decide +kernel
theorem dX5_takeCommand_81 : decode cX5_takeCommand 81 = .ok (.if_icmp .ne 7, 3) := by decide +kernel
theorem dX5_takeCommand_84 : decode cX5_takeCommand 84 = .ok (.aload_n 0, 1) := by decide +kernel
theorem dX5_takeCommand_85 : decode cX5_takeCommand 85 = .ok (.invokevirtual 69, 3) := by decide +kernel
theorem dX5_takeCommand_88 : decode cX5_takeCommand 88 = .ok (.iconst 1, 1) := by decide +kernel
theorem dX5_takeCommand_89 : decode cX5_takeCommand 89 = .ok (.ireturn, 1) := by decide +kernel
theorem dX5_signsOf_0 : decode cX5_signsOf 0 = .ok (.iload_n 0, 1) := by decide +kernel
theorem dX5_signsOf_1 : decode cX5_signsOf 1 = .ok (.tableswitch 50 0 4 #[35, 38, 41, 44, 47], 35) := by decide +kernel
theorem dX5_signsOf_36 : decode cX5_signsOf 36 = .ok (.ldc 72, 2) := by decide +kernel
theorem dX5_signsOf_38 : decode cX5_signsOf 38 = .ok (.areturn, 1) := by decide +kernel
theorem dX5_signsOf_39 : decode cX5_signsOf 39 = .ok (.ldc 74, 2) := by decide +kernel
theorem dX5_signsOf_41 : decode cX5_signsOf 41 = .ok (.areturn, 1) := by decide +kernel
theorem dX5_signsOf_42 : decode cX5_signsOf 42 = .ok (.ldc 76, 2) := by decide +kernel
theorem dX5_signsOf_44 : decode cX5_signsOf 44 = .ok (.areturn, 1) := by decide +kernel
theorem dX5_signsOf_45 : decode cX5_signsOf 45 = .ok (.ldc 78, 2) := by decide +kernel
theorem dX5_signsOf_47 : decode cX5_signsOf 47 = .ok (.areturn, 1) := by decide +kernel
theorem dX5_signsOf_48 : decode cX5_signsOf 48 = .ok (.ldc 80, 2) := by decide +kernel
theorem dX5_signsOf_50 : decode cX5_signsOf 50 = .ok (.areturn, 1) := by decide +kernel
theorem dX5_signsOf_51 : decode cX5_signsOf 51 = .ok (.ldc 82, 2) := by decide +kernel
theorem dX5_signsOf_53 : decode cX5_signsOf 53 = .ok (.areturn, 1) := by decide +kernel
theorem dX5_takeSign_0 : decode cX5_takeSign 0 = .ok (.iload_n 1, 1) := by decide +kernel
theorem dX5_takeSign_1 : decode cX5_takeSign 1 = .ok (.bipush 64, 2) := by decide +kernel
theorem dX5_takeSign_3 : decode cX5_takeSign 3 = .ok (.if_icmp .ne 38, 3) := by decide +kernel
theorem dX5_takeSign_6 : decode cX5_takeSign 6 = .ok (.aload_n 0, 1) := by decide +kernel
theorem dX5_takeSign_7 : decode cX5_takeSign 7 = .ok (.invokevirtual 42, 3) := by decide +kernel
theorem dX5_takeSign_10 : decode cX5_takeSign 10 = .ok (.bipush 64, 2) := by decide +kernel
theorem dX5_takeSign_12 : decode cX5_takeSign 12 = .ok (.if_icmp .ne 7, 3) := by decide +kernel
theorem dX5_takeSign_15 : decode cX5_takeSign 15 = .ok (.iconst 1, 1) := by decide +kernel
theorem dX5_takeSign_16 : decode cX5_takeSign 16 = .ok (.goto 4, 3) := by decide +kernel
theorem dX5_takeSign_19 : decode cX5_takeSign 19 = .ok (.iconst 0, 1) := by decide +kernel
theorem dX5_takeSign_20 : decode cX5_takeSign 20 = .ok (.istore_n 2, 1) := by decide +kernel
theorem dX5_takeSign_21 : decode cX5_takeSign 21 = .ok (.aload_n 0, 1) := by decide +kernel
theorem dX5_takeSign_22 : decode cX5_takeSign 22 = .ok (.dup, 1) := by decide +kernel
theorem dX5_takeSign_23 : decode cX5_takeSign 23 = .ok (.getfield 23, 3) := by decide +kernel
theorem dX5_takeSign_26 : decode cX5_takeSign 26 = .ok (.iload_n 2, 1) := by decide +kernel
theorem dX5_takeSign_27 : decode cX5_takeSign 27 = .ok (.ifCond .eq 7, 3) := by decide +kernel
theorem dX5_takeSign_30 : decode cX5_takeSign 30 = .ok (.iconst 1, 1) := by decide +kernel
theorem dX5_takeSign_31 : decode cX5_takeSign 31 = .ok (.goto 4, 3) := by decide +kernel
theorem dX5_takeSign_34 : decode cX5_takeSign 34 = .ok (.iconst 0, 1) := by decide +kernel
theorem dX5_takeSign_35 : decode cX5_takeSign 35 = .ok (.iadd, 1) := by decide +kernel
theorem dX5_takeSign_36 : decode cX5_takeSign 36 = .ok (.putfield 23, 3) := by decide +kernel
theorem dX5_takeSign_39 : decode cX5_takeSign 39 = .ok (.iload_n 2, 1) := by decide +kernel
theorem dX5_takeSign_40 : decode cX5_takeSign 40 = .ok (.ireturn, 1) := by decide +kernel
theorem dX5_takeSign_41 : decode cX5_takeSign 41 = .ok (.iload_n 1, 1) := by decide +kernel
theorem dX5_takeSign_42 : decode cX5_takeSign 42 = .ok (.bipush 110, 2) := by decide +kernel
theorem dX5_takeSign_44 : decode cX5_takeSign 44 = .ok (.if_icmp .ne 15, 3) := by decide +kernel
theorem dX5_takeSign_47 : decode cX5_takeSign 47 = .ok (.ldc 84, 2) := by decide +kernel
theorem dX5_takeSign_49 : decode cX5_takeSign 49 = .ok (.aload_n 0, 1) := by decide +kernel
theorem dX5_takeSign_50 : decode cX5_takeSign 50 = .ok (.invokevirtual 42, 3) := by decide +kernel
theorem dX5_takeSign_53 : decode cX5_takeSign 53 = .ok (.invokevirtual 48, 3) := by decide +kernel
theorem dX5_takeSign_56 : decode cX5_takeSign 56 = .ok (.goto 7, 3) := by decide +kernel
theorem dX5_takeSign_59 : decode cX5_takeSign 59 = .ok (.aload_n 0, 1) := by decide +kernel
theorem dX5_takeSign_60 : decode cX5_takeSign 60 = .ok (.invokevirtual 86, 3) := by decide +kernel
theorem dX5_takeSign_63 : decode cX5_takeSign 63 = .ok (.istore_n 2, 1) := by decide +kernel
theorem dX5_takeSign_64 : decode cX5_takeSign 64 = .ok (.iload_n 2, 1) := by decide +kernel
theorem dX5_takeSign_65 : decode cX5_takeSign 65 = .ok (.ifCond .ge 5, 3) := by decide +kernel
theorem dX5_takeSign_68 : decode cX5_takeSign 68 = .ok (.iconst 0, 1) := by decide +kernel
theorem dX5_takeSign_69 : decode cX5_takeSign 69 = .ok (.ireturn, 1) := by decide +kernel
theorem dX5_takeSign_70 : decode cX5_takeSign 70 = .ok (.aload_n 0, 1) := by decide +kernel
theorem dX5_takeSign_71 : decode cX5_takeSign 71 = .ok (.getfield 29, 3) := by decide +kernel
theorem dX5_takeSign_74 : decode cX5_takeSign 74 = .ok (.ifCond .lt 35, 3) := by decide +kernel
theorem dX5_takeSign_77 : decode cX5_takeSign 77 = .ok (.aload_n 0, 1) := by decide +kernel
theorem dX5_takeSign_78 : decode cX5_takeSign 78 = .ok (.getfield 29, 3) := by decide +kernel
theorem dX5_takeSign_81 : decode cX5_takeSign 81 = .ok (.aload_n 0, 1) := by decide +kernel
theorem dX5_takeSign_82 : decode cX5_takeSign 82 = .ok (.getfield 15, 3) := by decide +kernel
theorem dX5_takeSign_85 : decode cX5_takeSign 85 = .ok (.arraylength, 1) := by decide +kernel
theorem dX5_takeSign_86 : decode cX5_takeSign 86 = .ok (.if_icmp .ge 23, 3) := by decide +kernel
theorem dX5_takeSign_89 : decode cX5_takeSign 89 = .ok (.aload_n 0, 1) := by decide +kernel
theorem dX5_takeSign_90 : decode cX5_takeSign 90 = .ok (.getfield 15, 3) := by decide +kernel
theorem dX5_takeSign_93 : decode cX5_takeSign 93 = .ok (.aload_n 0, 1) := by decide +kernel
theorem dX5_takeSign_94 : decode cX5_takeSign 94 = .ok (.getfield 29, 3) := by decide +kernel
theorem dX5_takeSign_97 : decode cX5_takeSign 97 = .ok (.iload_n 2, 1) := by decide +kernel
theorem dX5_takeSign_98 : decode cX5_takeSign 98 = .ok (.iastore, 1) := by decide +kernel
theorem dX5_takeSign_99 : decode cX5_takeSign 99 = .ok (.aload_n 0, 1) := by decide +kernel
theorem dX5_takeSign_100 : decode cX5_takeSign 100 = .ok (.dup, 1) := by decide +kernel
theorem dX5_takeSign_101 : decode cX5_takeSign 101 = .ok (.getfield 29, 3) := by decide +kernel
theorem dX5_takeSign_104 : decode cX5_takeSign 104 = .ok (.iconst 1, 1) := by decide +kernel
theorem dX5_takeSign_105 : decode cX5_takeSign 105 = .ok (.iadd, 1) := by decide +kernel
theorem dX5_takeSign_106 : decode cX5_takeSign 106 = .ok (.putfield 29, 3) := by decide +kernel
theorem dX5_takeSign_109 : decode cX5_takeSign 109 = .ok (.aload_n 0, 1) := by decide +kernel
theorem dX5_takeSign_110 : decode cX5_takeSign 110 = .ok (.dup, 1) := by decide +kernel
theorem dX5_takeSign_111 : decode cX5_takeSign 111 = .ok (.getfield 23, 3) := by decide +kernel
theorem dX5_takeSign_114 : decode cX5_takeSign 114 = .ok (.iconst 1, 1) := by decide +kernel
theorem dX5_takeSign_115 : decode cX5_takeSign 115 = .ok (.iadd, 1) := by decide +kernel
theorem dX5_takeSign_116 : decode cX5_takeSign 116 = .ok (.putfield 23, 3) := by decide +kernel
theorem dX5_takeSign_119 : decode cX5_takeSign 119 = .ok (.iconst 1, 1) := by decide +kernel
theorem dX5_takeSign_120 : decode cX5_takeSign 120 = .ok (.ireturn, 1) := by decide +kernel
theorem dX5_takeSecondDigit_0 : decode cX5_takeSecondDigit 0 = .ok (.aload_n 0, 1) := by decide +kernel
theorem dX5_takeSecondDigit_1 : decode cX5_takeSecondDigit 1 = .ok (.invokevirtual 86, 3) := by decide +kernel
theorem dX5_takeSecondDigit_4 : decode cX5_takeSecondDigit 4 = .ok (.istore_n 1, 1) := by decide +kernel
theorem dX5_takeSecondDigit_5 : decode cX5_takeSecondDigit 5 = .ok (.aload_n 0, 1) := by decide +kernel
theorem dX5_takeSecondDigit_6 : decode cX5_takeSecondDigit 6 = .ok (.getfield 29, 3) := by decide +kernel
theorem dX5_takeSecondDigit_9 : decode cX5_takeSecondDigit 9 = .ok (.iconst 1, 1) := by decide +kernel
theorem dX5_takeSecondDigit_10 : decode cX5_takeSecondDigit 10 = .ok (.isub, 1) := by decide +kernel
theorem dX5_takeSecondDigit_11 : decode cX5_takeSecondDigit 11 = .ok (.istore_n 2, 1) := by decide +kernel
theorem dX5_takeSecondDigit_12 : decode cX5_takeSecondDigit 12 = .ok (.iload_n 1, 1) := by decide +kernel
theorem dX5_takeSecondDigit_13 : decode cX5_takeSecondDigit 13 = .ok (.ifCond .lt 43, 3) := by decide +kernel
theorem dX5_takeSecondDigit_16 : decode cX5_takeSecondDigit 16 = .ok (.iload_n 2, 1) := by decide +kernel
theorem dX5_takeSecondDigit_17 : decode cX5_takeSecondDigit 17 = .ok (.ifCond .lt 39, 3) := by decide +kernel
theorem dX5_takeSecondDigit_20 : decode cX5_takeSecondDigit 20 = .ok (.iload_n 2, 1) := by decide +kernel
theorem dX5_takeSecondDigit_21 : decode cX5_takeSecondDigit 21 = .ok (.aload_n 0, 1) := by decide +kernel
theorem dX5_takeSecondDigit_22 : decode cX5_takeSecondDigit 22 = .ok (.getfield 15, 3) := by decide +kernel
theorem dX5_takeSecondDigit_25 : decode cX5_takeSecondDigit 25 = .ok (.arraylength, 1) := by decide +kernel
theorem dX5_takeSecondDigit_26 : decode cX5_takeSecondDigit 26 = .ok (.if_icmp .ge 30, 3) := by decide +kernel
theorem dX5_takeSecondDigit_29 : decode cX5_takeSecondDigit 29 = .ok (.aload_n 0, 1) := by decide +kernel
theorem dX5_takeSecondDigit_30 : decode cX5_takeSecondDigit 30 = .ok (.getfield 15, 3) := by decide +kernel
theorem dX5_takeSecondDigit_33 : decode cX5_takeSecondDigit 33 = .ok (.iload_n 2, 1) := by decide +kernel
theorem dX5_takeSecondDigit_34 : decode cX5_takeSecondDigit 34 = .ok (.bipush 10, 2) := by decide +kernel
theorem dX5_takeSecondDigit_36 : decode cX5_takeSecondDigit 36 = .ok (.aload_n 0, 1) := by decide +kernel
theorem dX5_takeSecondDigit_37 : decode cX5_takeSecondDigit 37 = .ok (.getfield 15, 3) := by decide +kernel
theorem dX5_takeSecondDigit_40 : decode cX5_takeSecondDigit 40 = .ok (.iload_n 2, 1) := by decide +kernel
theorem dX5_takeSecondDigit_41 : decode cX5_takeSecondDigit 41 = .ok (.iaload, 1) := by decide +kernel
theorem dX5_takeSecondDigit_42 : decode cX5_takeSecondDigit 42 = .ok (.imul, 1) := by decide +kernel
theorem dX5_takeSecondDigit_43 : decode cX5_takeSecondDigit 43 = .ok (.iload_n 1, 1) := by decide +kernel
theorem dX5_takeSecondDigit_44 : decode cX5_takeSecondDigit 44 = .ok (.iadd, 1) := by decide +kernel
theorem dX5_takeSecondDigit_45 : decode cX5_takeSecondDigit 45 = .ok (.iastore, 1) := by decide +kernel
theorem dX5_takeSecondDigit_46 : decode cX5_takeSecondDigit 46 = .ok (.aload_n 0, 1) := by decide +kernel
theorem dX5_takeSecondDigit_47 : decode cX5_takeSecondDigit 47 = .ok (.dup, 1) := by decide +kernel
theorem dX5_takeSecondDigit_48 : decode cX5_takeSecondDigit 48 = .ok (.getfield 23, 3) := by decide +kernel
theorem dX5_takeSecondDigit_51 : decode cX5_takeSecondDigit 51 = .ok (.iconst 1, 1) := by decide +kernel
theorem dX5_takeSecondDigit_52 : decode cX5_takeSecondDigit 52 = .ok (.iadd, 1) := by decide +kernel
theorem dX5_takeSecondDigit_53 : decode cX5_takeSecondDigit 53 = .ok (.putfield 23, 3) := by decide +kernel
theorem dX5_takeSecondDigit_56 : decode cX5_takeSecondDigit 56 = .ok (.return_, 1) := by decide +kernel
theorem dX5_digitHere_0 : decode cX5_digitHere 0 = .ok (.aload_n 0, 1) := by decide +kernel
theorem dX5_digitHere_1 : decode cX5_digitHere 1 = .ok (.invokevirtual 42, 3) := by decide +kernel
theorem dX5_digitHere_4 : decode cX5_digitHere 4 = .ok (.istore_n 1, 1) := by decide +kernel
theorem dX5_digitHere_5 : decode cX5_digitHere 5 = .ok (.iload_n 1, 1) := by decide +kernel
theorem dX5_digitHere_6 : decode cX5_digitHere 6 = .ok (.bipush 48, 2) := by decide +kernel
theorem dX5_digitHere_8 : decode cX5_digitHere 8 = .ok (.if_icmp .lt 16, 3) := by decide +kernel
theorem dX5_digitHere_11 : decode cX5_digitHere 11 = .ok (.iload_n 1, 1) := by decide +kernel
theorem dX5_digitHere_12 : decode cX5_digitHere 12 = .ok (.bipush 57, 2) := by decide +kernel
theorem dX5_digitHere_14 : decode cX5_digitHere 14 = .ok (.if_icmp .gt 10, 3) := by decide +kernel
theorem dX5_digitHere_17 : decode cX5_digitHere 17 = .ok (.iload_n 1, 1) := by decide +kernel
theorem dX5_digitHere_18 : decode cX5_digitHere 18 = .ok (.bipush 48, 2) := by decide +kernel
theorem dX5_digitHere_20 : decode cX5_digitHere 20 = .ok (.isub, 1) := by decide +kernel
theorem dX5_digitHere_21 : decode cX5_digitHere 21 = .ok (.goto 4, 3) := by decide +kernel
theorem dX5_digitHere_24 : decode cX5_digitHere 24 = .ok (.iconst (-1), 1) := by decide +kernel
theorem dX5_digitHere_25 : decode cX5_digitHere 25 = .ok (.ireturn, 1) := by decide +kernel
theorem dX5_here_0 : decode cX5_here 0 = .ok (.aload_n 0, 1) := by decide +kernel
theorem dX5_here_1 : decode cX5_here 1 = .ok (.getfield 23, 3) := by decide +kernel
theorem dX5_here_4 : decode cX5_here 4 = .ok (.ifCond .lt 38, 3) := by decide +kernel
theorem dX5_here_7 : decode cX5_here 7 = .ok (.aload_n 0, 1) := by decide +kernel
theorem dX5_here_8 : decode cX5_here 8 = .ok (.getfield 23, 3) := by decide +kernel
theorem dX5_here_11 : decode cX5_here 11 = .ok (.aload_n 0, 1) := by decide +kernel
theorem dX5_here_12 : decode cX5_here 12 = .ok (.getfield 19, 3) := by decide +kernel
theorem dX5_here_15 : decode cX5_here 15 = .ok (.if_icmp .ge 27, 3) := by decide +kernel
theorem dX5_here_18 : decode cX5_here 18 = .ok (.aload_n 0, 1) := by decide +kernel
theorem dX5_here_19 : decode cX5_here 19 = .ok (.getfield 23, 3) := by decide +kernel
theorem dX5_here_22 : decode cX5_here 22 = .ok (.aload_n 0, 1) := by decide +kernel
theorem dX5_here_23 : decode cX5_here 23 = .ok (.getfield 9, 3) := by decide +kernel
theorem dX5_here_26 : decode cX5_here 26 = .ok (.arraylength, 1) := by decide +kernel
theorem dX5_here_27 : decode cX5_here 27 = .ok (.if_icmp .ge 15, 3) := by decide +kernel
theorem dX5_here_30 : decode cX5_here 30 = .ok (.aload_n 0, 1) := by decide +kernel
theorem dX5_here_31 : decode cX5_here 31 = .ok (.getfield 9, 3) := by decide +kernel
theorem dX5_here_34 : decode cX5_here 34 = .ok (.aload_n 0, 1) := by decide +kernel
theorem dX5_here_35 : decode cX5_here 35 = .ok (.getfield 23, 3) := by decide +kernel
theorem dX5_here_38 : decode cX5_here 38 = .ok (.caload, 1) := by decide +kernel
theorem dX5_here_39 : decode cX5_here 39 = .ok (.goto 4, 3) := by decide +kernel
theorem dX5_here_42 : decode cX5_here 42 = .ok (.iconst 0, 1) := by decide +kernel
theorem dX5_here_43 : decode cX5_here 43 = .ok (.ireturn, 1) := by decide +kernel
theorem dX6_init_0 : decode cX6_init 0 = .ok (.aload_n 0, 1) := by decide +kernel
theorem dX6_init_1 : decode cX6_init 1 = .ok (.invokespecial 3, 3) := by decide +kernel
theorem dX6_init_4 : decode cX6_init 4 = .ok (.aload_n 0, 1) := by decide +kernel
theorem dX6_init_5 : decode cX6_init 5 = .ok (.iconst 0, 1) := by decide +kernel
theorem dX6_init_6 : decode cX6_init 6 = .ok (.putfield 9, 3) := by decide +kernel
theorem dX6_init_9 : decode cX6_init 9 = .ok (.aload_n 0, 1) := by decide +kernel
theorem dX6_init_10 : decode cX6_init 10 = .ok (.aload_n 1, 1) := by decide +kernel
theorem dX6_init_11 : decode cX6_init 11 = .ok (.putfield 15, 3) := by decide +kernel
theorem dX6_init_14 : decode cX6_init 14 = .ok (.aload_n 0, 1) := by decide +kernel
theorem dX6_init_15 : decode cX6_init 15 = .ok (.aload_n 2, 1) := by decide +kernel
theorem dX6_init_16 : decode cX6_init 16 = .ok (.putfield 19, 3) := by decide +kernel
theorem dX6_init_19 : decode cX6_init 19 = .ok (.return_, 1) := by decide +kernel
theorem dX6_detail_0 : decode cX6_detail 0 = .ok (.aload_n 0, 1) := by decide +kernel
theorem dX6_detail_1 : decode cX6_detail 1 = .ok (.getfield 9, 3) := by decide +kernel
theorem dX6_detail_4 : decode cX6_detail 4 = .ok (.ireturn, 1) := by decide +kernel
theorem dX6_refuse_0 : decode cX6_refuse 0 = .ok (.aload_n 0, 1) := by decide +kernel
theorem dX6_refuse_1 : decode cX6_refuse 1 = .ok (.iload_n 2, 1) := by decide +kernel
theorem dX6_refuse_2 : decode cX6_refuse 2 = .ok (.putfield 9, 3) := by decide +kernel
theorem dX6_refuse_5 : decode cX6_refuse 5 = .ok (.iload_n 1, 1) := by decide +kernel
theorem dX6_refuse_6 : decode cX6_refuse 6 = .ok (.ireturn, 1) := by decide +kernel
theorem dX6_comeFault_0 : decode cX6_comeFault 0 = .ok (.iload_n 2, 1) := by decide +kernel
theorem dX6_comeFault_1 : decode cX6_comeFault 1 = .ok (.iconst 1, 1) := by decide +kernel
theorem dX6_comeFault_2 : decode cX6_comeFault 2 = .ok (.if_icmp .lt 12, 3) := by decide +kernel
theorem dX6_comeFault_5 : decode cX6_comeFault 5 = .ok (.iload_n 2, 1) := by decide +kernel
theorem dX6_comeFault_6 : decode cX6_comeFault 6 = .ok (.iconst 5, 1) := by decide +kernel
theorem dX6_comeFault_7 : decode cX6_comeFault 7 = .ok (.if_icmp .gt 7, 3) := by decide +kernel
theorem dX6_comeFault_10 : decode cX6_comeFault 10 = .ok (.iconst 1, 1) := by decide +kernel
theorem dX6_comeFault_11 : decode cX6_comeFault 11 = .ok (.goto 4, 3) := by decide +kernel
theorem dX6_comeFault_14 : decode cX6_comeFault 14 = .ok (.iconst 0, 1) := by decide +kernel
theorem dX6_comeFault_15 : decode cX6_comeFault 15 = .ok (.istore 4, 2) := by decide +kernel
theorem dX6_comeFault_17 : decode cX6_comeFault 17 = .ok (.iload_n 3, 1) := by decide +kernel
theorem dX6_comeFault_18 : decode cX6_comeFault 18 = .ok (.iconst 1, 1) := by decide +kernel
theorem dX6_comeFault_19 : decode cX6_comeFault 19 = .ok (.if_icmp .lt 12, 3) := by decide +kernel
theorem dX6_comeFault_22 : decode cX6_comeFault 22 = .ok (.iload_n 3, 1) := by decide +kernel
theorem dX6_comeFault_23 : decode cX6_comeFault 23 = .ok (.iconst 4, 1) := by decide +kernel
theorem dX6_comeFault_24 : decode cX6_comeFault 24 = .ok (.if_icmp .gt 7, 3) := by decide +kernel
theorem dX6_comeFault_27 : decode cX6_comeFault 27 = .ok (.iconst 1, 1) := by decide +kernel
theorem dX6_comeFault_28 : decode cX6_comeFault 28 = .ok (.goto 4, 3) := by decide +kernel
theorem dX6_comeFault_31 : decode cX6_comeFault 31 = .ok (.iconst 0, 1) := by decide +kernel
theorem dX6_comeFault_32 : decode cX6_comeFault 32 = .ok (.istore 5, 2) := by decide +kernel
theorem dX6_comeFault_34 : decode cX6_comeFault 34 = .ok (.iload_n 1, 1) := by decide +kernel
theorem dX6_comeFault_35 : decode cX6_comeFault 35 = .ok (.invokestatic 23, 3) := by decide +kernel
theorem dX6_comeFault_38 : decode cX6_comeFault 38 = .ok (.ifCond .eq 13, 3) := by decide +kernel
theorem dX6_comeFault_41 : decode cX6_comeFault 41 = .ok (.iload 4, 2) := by decide +kernel
theorem dX6_comeFault_43 : decode cX6_comeFault 43 = .ok (.ifCond .eq 8, 3) := by decide +kernel
theorem dX6_comeFault_46 : decode cX6_comeFault 46 = .ok (.iload 5, 2) := by decide +kernel
theorem dX6_comeFault_48 : decode cX6_comeFault 48 = .ok (.ifCond .ne 6, 3) := by decide +kernel
theorem dX6_comeFault_51 : decode cX6_comeFault 51 = .ok (.bipush (-2), 2) := by decide +kernel
theorem dX6_comeFault_53 : decode cX6_comeFault 53 = .ok (.ireturn, 1) := by decide +kernel
theorem dX6_comeFault_54 : decode cX6_comeFault 54 = .ok (.aload_n 0, 1) := by decide +kernel
theorem dX6_comeFault_55 : decode cX6_comeFault 55 = .ok (.getfield 15, 3) := by decide +kernel
theorem dX6_comeFault_58 : decode cX6_comeFault 58 = .ok (.iload_n 1, 1) := by decide +kernel
theorem dX6_comeFault_59 : decode cX6_comeFault 59 = .ok (.invokevirtual 27, 3) := by decide +kernel
theorem dX6_comeFault_62 : decode cX6_comeFault 62 = .ok (.iconst 5, 1) := by decide +kernel
theorem dX6_comeFault_63 : decode cX6_comeFault 63 = .ok (.if_icmp .lt 10, 3) := by decide +kernel
theorem dX6_comeFault_66 : decode cX6_comeFault 66 = .ok (.aload_n 0, 1) := by decide +kernel
theorem dX6_comeFault_67 : decode cX6_comeFault 67 = .ok (.iconst 1, 1) := by decide +kernel
theorem dX6_comeFault_68 : decode cX6_comeFault 68 = .ok (.iconst 5, 1) := by decide +kernel
theorem dX6_comeFault_69 : decode cX6_comeFault 69 = .ok (.invokevirtual 33, 3) := by decide +kernel
theorem dX6_comeFault_72 : decode cX6_comeFault 72 = .ok (.ireturn, 1) := by decide +kernel
theorem dX6_comeFault_73 : decode cX6_comeFault 73 = .ok (.aload_n 0, 1) := by decide +kernel
theorem dX6_comeFault_74 : decode cX6_comeFault 74 = .ok (.getfield 15, 3) := by decide +kernel
theorem dX6_comeFault_77 : decode cX6_comeFault 77 = .ok (.iload_n 1, 1) := by decide +kernel
theorem dX6_comeFault_78 : decode cX6_comeFault 78 = .ok (.invokevirtual 37, 3) := by decide +kernel
theorem dX6_comeFault_81 : decode cX6_comeFault 81 = .ok (.istore 6, 2) := by decide +kernel
theorem dX6_comeFault_83 : decode cX6_comeFault 83 = .ok (.iload 6, 2) := by decide +kernel
theorem dX6_comeFault_85 : decode cX6_comeFault 85 = .ok (.iconst (-1), 1) := by decide +kernel
theorem dX6_comeFault_86 : decode cX6_comeFault 86 = .ok (.if_icmp .ne 7, 3) := by decide +kernel
theorem dX6_comeFault_89 : decode cX6_comeFault 89 = .ok (.iconst (-1), 1) := by decide +kernel
theorem dX6_comeFault_90 : decode cX6_comeFault 90 = .ok (.goto 12, 3) := by decide +kernel
theorem dX6_comeFault_93 : decode cX6_comeFault 93 = .ok (.aload_n 0, 1) := by decide +kernel
theorem dX6_comeFault_94 : decode cX6_comeFault 94 = .ok (.getfield 15, 3) := by decide +kernel
theorem dX6_comeFault_97 : decode cX6_comeFault 97 = .ok (.iload 6, 2) := by decide +kernel
theorem dX6_comeFault_99 : decode cX6_comeFault 99 = .ok (.invokevirtual 40, 3) := by decide +kernel
theorem dX6_comeFault_102 : decode cX6_comeFault 102 = .ok (.istore 7, 2) := by decide +kernel
theorem dX6_comeFault_104 : decode cX6_comeFault 104 = .ok (.iload 7, 2) := by decide +kernel
theorem dX6_comeFault_106 : decode cX6_comeFault 106 = .ok (.iconst (-1), 1) := by decide +kernel
theorem dX6_comeFault_107 : decode cX6_comeFault 107 = .ok (.if_icmp .ne 7, 3) := by decide +kernel
theorem dX6_comeFault_110 : decode cX6_comeFault 110 = .ok (.iconst 0, 1) := by decide +kernel
theorem dX6_comeFault_111 : decode cX6_comeFault 111 = .ok (.goto 11, 3) := by decide +kernel
theorem dX6_comeFault_114 : decode cX6_comeFault 114 = .ok (.aload_n 0, 1) := by decide +kernel
theorem dX6_comeFault_115 : decode cX6_comeFault 115 = .ok (.bipush 7, 2) := by decide +kernel
theorem dX6_comeFault_117 : decode cX6_comeFault 117 = .ok (.iload 7, 2) := by decide +kernel
theorem dX6_comeFault_119 : decode cX6_comeFault 119 = .ok (.invokevirtual 33, 3) := by decide +kernel
theorem dX6_comeFault_122 : decode cX6_comeFault 122 = .ok (.ireturn, 1) := by decide +kernel
theorem dX6_passFault_0 : decode cX6_passFault 0 = .ok (.aload_n 0, 1) := by decide +kernel
theorem dX6_passFault_1 : decode cX6_passFault 1 = .ok (.getfield 15, 3) := by decide +kernel
theorem dX6_passFault_4 : decode cX6_passFault 4 = .ok (.invokevirtual 43, 3) := by decide +kernel
theorem dX6_passFault_7 : decode cX6_passFault 7 = .ok (.ifCond .eq 19, 3) := by decide +kernel
theorem dX6_passFault_10 : decode cX6_passFault 10 = .ok (.aload_n 0, 1) := by decide +kernel
theorem dX6_passFault_11 : decode cX6_passFault 11 = .ok (.iconst 2, 1) := by decide +kernel
theorem dX6_passFault_12 : decode cX6_passFault 12 = .ok (.aload_n 0, 1) := by decide +kernel
theorem dX6_passFault_13 : decode cX6_passFault 13 = .ok (.getfield 15, 3) := by decide +kernel
theorem dX6_passFault_16 : decode cX6_passFault 16 = .ok (.iconst 1, 1) := by decide +kernel
theorem dX6_passFault_17 : decode cX6_passFault 17 = .ok (.invokevirtual 47, 3) := by decide +kernel
theorem dX6_passFault_20 : decode cX6_passFault 20 = .ok (.invokevirtual 33, 3) := by decide +kernel
theorem dX6_passFault_23 : decode cX6_passFault 23 = .ok (.goto 4, 3) := by decide +kernel
theorem dX6_passFault_26 : decode cX6_passFault 26 = .ok (.iconst 0, 1) := by decide +kernel
theorem dX6_passFault_27 : decode cX6_passFault 27 = .ok (.ireturn, 1) := by decide +kernel
theorem dX6_playFault_0 : decode cX6_playFault 0 = .ok (.aload_n 0, 1) := by decide +kernel
theorem dX6_playFault_1 : decode cX6_playFault 1 = .ok (.getfield 15, 3) := by decide +kernel
theorem dX6_playFault_4 : decode cX6_playFault 4 = .ok (.iload_n 1, 1) := by decide +kernel
theorem dX6_playFault_5 : decode cX6_playFault 5 = .ok (.invokevirtual 50, 3) := by decide +kernel
theorem dX6_playFault_8 : decode cX6_playFault 8 = .ok (.ifCond .ne 5, 3) := by decide +kernel
theorem dX6_playFault_11 : decode cX6_playFault 11 = .ok (.iconst (-1), 1) := by decide +kernel
theorem dX6_playFault_12 : decode cX6_playFault 12 = .ok (.ireturn, 1) := by decide +kernel
theorem dX6_playFault_13 : decode cX6_playFault 13 = .ok (.aload_n 0, 1) := by decide +kernel
theorem dX6_playFault_14 : decode cX6_playFault 14 = .ok (.getfield 15, 3) := by decide +kernel
theorem dX6_playFault_17 : decode cX6_playFault 17 = .ok (.invokevirtual 43, 3) := by decide +kernel
theorem dX6_playFault_20 : decode cX6_playFault 20 = .ok (.ifCond .eq 17, 3) := by decide +kernel
theorem dX6_playFault_23 : decode cX6_playFault 23 = .ok (.aload_n 0, 1) := by decide +kernel
theorem dX6_playFault_24 : decode cX6_playFault 24 = .ok (.iconst 2, 1) := by decide +kernel
theorem dX6_playFault_25 : decode cX6_playFault 25 = .ok (.aload_n 0, 1) := by decide +kernel
theorem dX6_playFault_26 : decode cX6_playFault 26 = .ok (.getfield 15, 3) := by decide +kernel
theorem dX6_playFault_29 : decode cX6_playFault 29 = .ok (.iconst 1, 1) := by decide +kernel
theorem dX6_playFault_30 : decode cX6_playFault 30 = .ok (.invokevirtual 47, 3) := by decide +kernel
theorem dX6_playFault_33 : decode cX6_playFault 33 = .ok (.invokevirtual 33, 3) := by decide +kernel
theorem dX6_playFault_36 : decode cX6_playFault 36 = .ok (.ireturn, 1) := by decide +kernel
theorem dX6_playFault_37 : decode cX6_playFault 37 = .ok (.aload_n 0, 1) := by decide +kernel
theorem dX6_playFault_38 : decode cX6_playFault 38 = .ok (.getfield 15, 3) := by decide +kernel
theorem dX6_playFault_41 : decode cX6_playFault 41 = .ok (.iload_n 1, 1) := by decide +kernel
theorem dX6_playFault_42 : decode cX6_playFault 42 = .ok (.invokevirtual 53, 3) := by decide +kernel
theorem dX6_playFault_45 : decode cX6_playFault 45 = .ok (.ifCond .eq 7, 3) := by decide +kernel
theorem dX6_playFault_48 : decode cX6_playFault 48 = .ok (.iconst 0, 1) := by decide +kernel
theorem dX6_playFault_49 : decode cX6_playFault 49 = .ok (.goto 9, 3) := by decide +kernel
theorem dX6_playFault_52 : decode cX6_playFault 52 = .ok (.aload_n 0, 1) := by decide +kernel
theorem dX6_playFault_53 : decode cX6_playFault 53 = .ok (.iconst 3, 1) := by decide +kernel
theorem dX6_playFault_54 : decode cX6_playFault 54 = .ok (.iload_n 1, 1) := by decide +kernel
theorem dX6_playFault_55 : decode cX6_playFault 55 = .ok (.invokevirtual 33, 3) := by decide +kernel
theorem dX6_playFault_58 : decode cX6_playFault 58 = .ok (.ireturn, 1) := by decide +kernel
theorem dX6_freeFault_0 : decode cX6_freeFault 0 = .ok (.aload_n 0, 1) := by decide +kernel
theorem dX6_freeFault_1 : decode cX6_freeFault 1 = .ok (.iload_n 1, 1) := by decide +kernel
theorem dX6_freeFault_2 : decode cX6_freeFault 2 = .ok (.invokevirtual 56, 3) := by decide +kernel
theorem dX6_freeFault_5 : decode cX6_freeFault 5 = .ok (.istore_n 2, 1) := by decide +kernel
theorem dX6_freeFault_6 : decode cX6_freeFault 6 = .ok (.iload_n 2, 1) := by decide +kernel
theorem dX6_freeFault_7 : decode cX6_freeFault 7 = .ok (.ifCond .eq 5, 3) := by decide +kernel
theorem dX6_freeFault_10 : decode cX6_freeFault 10 = .ok (.iload_n 2, 1) := by decide +kernel
theorem dX6_freeFault_11 : decode cX6_freeFault 11 = .ok (.ireturn, 1) := by decide +kernel
theorem dX6_freeFault_12 : decode cX6_freeFault 12 = .ok (.aload_n 0, 1) := by decide +kernel
theorem dX6_freeFault_13 : decode cX6_freeFault 13 = .ok (.getfield 15, 3) := by decide +kernel
theorem dX6_freeFault_16 : decode cX6_freeFault 16 = .ok (.iload_n 1, 1) := by decide +kernel
theorem dX6_freeFault_17 : decode cX6_freeFault 17 = .ok (.invokevirtual 59, 3) := by decide +kernel
theorem dX6_freeFault_20 : decode cX6_freeFault 20 = .ok (.ifCond .eq 20, 3) := by decide +kernel
theorem dX6_freeFault_23 : decode cX6_freeFault 23 = .ok (.aload_n 0, 1) := by decide +kernel
theorem dX6_freeFault_24 : decode cX6_freeFault 24 = .ok (.iconst 4, 1) := by decide +kernel
theorem dX6_freeFault_25 : decode cX6_freeFault 25 = .ok (.aload_n 0, 1) := by decide +kernel
theorem dX6_freeFault_26 : decode cX6_freeFault 26 = .ok (.getfield 15, 3) := by decide +kernel
theorem dX6_freeFault_29 : decode cX6_freeFault 29 = .ok (.iload_n 1, 1) := by decide +kernel
theorem dX6_freeFault_30 : decode cX6_freeFault 30 = .ok (.iconst 4, 1) := by decide +kernel
theorem dX6_freeFault_31 : decode cX6_freeFault 31 = .ok (.invokevirtual 62, 3) := by decide +kernel
theorem dX6_freeFault_34 : decode cX6_freeFault 34 = .ok (.invokevirtual 33, 3) := by decide +kernel
theorem dX6_freeFault_37 : decode cX6_freeFault 37 = .ok (.goto 4, 3) := by decide +kernel
theorem dX6_freeFault_40 : decode cX6_freeFault 40 = .ok (.iconst 0, 1) := by decide +kernel
theorem dX6_freeFault_41 : decode cX6_freeFault 41 = .ok (.ireturn, 1) := by decide +kernel
theorem dX6_breathFault_0 : decode cX6_breathFault 0 = .ok (.aload_n 0, 1) := by decide +kernel
theorem dX6_breathFault_1 : decode cX6_breathFault 1 = .ok (.getfield 15, 3) := by decide +kernel
theorem dX6_breathFault_4 : decode cX6_breathFault 4 = .ok (.iload_n 1, 1) := by decide +kernel
theorem dX6_breathFault_5 : decode cX6_breathFault 5 = .ok (.iconst 3, 1) := by decide +kernel
theorem dX6_breathFault_6 : decode cX6_breathFault 6 = .ok (.invokevirtual 62, 3) := by decide +kernel
theorem dX6_breathFault_9 : decode cX6_breathFault 9 = .ok (.istore_n 3, 1) := by decide +kernel
theorem dX6_breathFault_10 : decode cX6_breathFault 10 = .ok (.iload_n 3, 1) := by decide +kernel
theorem dX6_breathFault_11 : decode cX6_breathFault 11 = .ok (.iload_n 2, 1) := by decide +kernel
theorem dX6_breathFault_12 : decode cX6_breathFault 12 = .ok (.if_icmp .ge 13, 3) := by decide +kernel
theorem dX6_breathFault_15 : decode cX6_breathFault 15 = .ok (.aload_n 0, 1) := by decide +kernel
theorem dX6_breathFault_16 : decode cX6_breathFault 16 = .ok (.bipush 6, 2) := by decide +kernel
theorem dX6_breathFault_18 : decode cX6_breathFault 18 = .ok (.iload_n 3, 1) := by decide +kernel
theorem dX6_breathFault_19 : decode cX6_breathFault 19 = .ok (.invokevirtual 33, 3) := by decide +kernel
theorem dX6_breathFault_22 : decode cX6_breathFault 22 = .ok (.goto 4, 3) := by decide +kernel
theorem dX6_breathFault_25 : decode cX6_breathFault 25 = .ok (.iconst 0, 1) := by decide +kernel
theorem dX6_breathFault_26 : decode cX6_breathFault 26 = .ok (.ireturn, 1) := by decide +kernel
theorem dX6_substituteFault_0 : decode cX6_substituteFault 0 = .ok (.aload_n 0, 1) := by decide +kernel
theorem dX6_substituteFault_1 : decode cX6_substituteFault 1 = .ok (.getfield 15, 3) := by decide +kernel
theorem dX6_substituteFault_4 : decode cX6_substituteFault 4 = .ok (.iload_n 2, 1) := by decide +kernel
theorem dX6_substituteFault_5 : decode cX6_substituteFault 5 = .ok (.invokevirtual 50, 3) := by decide +kernel
theorem dX6_substituteFault_8 : decode cX6_substituteFault 8 = .ok (.ifCond .ne 5, 3) := by decide +kernel
theorem dX6_substituteFault_11 : decode cX6_substituteFault 11 = .ok (.iconst (-1), 1) := by decide +kernel
theorem dX6_substituteFault_12 : decode cX6_substituteFault 12 = .ok (.ireturn, 1) := by decide +kernel
theorem dX6_substituteFault_13 : decode cX6_substituteFault 13 = .ok (.aload_n 0, 1) := by decide +kernel
theorem dX6_substituteFault_14 : decode cX6_substituteFault 14 = .ok (.iload_n 1, 1) := by decide +kernel
theorem dX6_substituteFault_15 : decode cX6_substituteFault 15 = .ok (.invokevirtual 56, 3) := by decide +kernel
theorem dX6_substituteFault_18 : decode cX6_substituteFault 18 = .ok (.istore_n 3, 1) := by decide +kernel
theorem dX6_substituteFault_19 : decode cX6_substituteFault 19 = .ok (.iload_n 3, 1) := by decide +kernel
theorem dX6_substituteFault_20 : decode cX6_substituteFault 20 = .ok (.ifCond .eq 5, 3) := by decide +kernel
theorem dX6_substituteFault_23 : decode cX6_substituteFault 23 = .ok (.iload_n 3, 1) := by decide +kernel
theorem dX6_substituteFault_24 : decode cX6_substituteFault 24 = .ok (.ireturn, 1) := by decide +kernel
theorem dX6_substituteFault_25 : decode cX6_substituteFault 25 = .ok (.aload_n 0, 1) := by decide +kernel
theorem dX6_substituteFault_26 : decode cX6_substituteFault 26 = .ok (.getfield 15, 3) := by decide +kernel
theorem dX6_substituteFault_29 : decode cX6_substituteFault 29 = .ok (.iload_n 2, 1) := by decide +kernel
theorem dX6_substituteFault_30 : decode cX6_substituteFault 30 = .ok (.iconst 0, 1) := by decide +kernel
theorem dX6_substituteFault_31 : decode cX6_substituteFault 31 = .ok (.invokevirtual 62, 3) := by decide +kernel
theorem dX6_substituteFault_34 : decode cX6_substituteFault 34 = .ok (.istore 4, 2) := by decide +kernel
theorem dX6_substituteFault_36 : decode cX6_substituteFault 36 = .ok (.aload_n 0, 1) := by decide +kernel
theorem dX6_substituteFault_37 : decode cX6_substituteFault 37 = .ok (.getfield 15, 3) := by decide +kernel
theorem dX6_substituteFault_40 : decode cX6_substituteFault 40 = .ok (.iload_n 1, 1) := by decide +kernel
theorem dX6_substituteFault_41 : decode cX6_substituteFault 41 = .ok (.iconst 0, 1) := by decide +kernel
theorem dX6_substituteFault_42 : decode cX6_substituteFault 42 = .ok (.invokevirtual 62, 3) := by decide +kernel
theorem dX6_substituteFault_45 : decode cX6_substituteFault 45 = .ok (.iload 4, 2) := by decide +kernel
theorem dX6_substituteFault_47 : decode cX6_substituteFault 47 = .ok (.if_icmp .eq 12, 3) := by decide +kernel
theorem dX6_substituteFault_50 : decode cX6_substituteFault 50 = .ok (.aload_n 0, 1) := by decide +kernel
theorem dX6_substituteFault_51 : decode cX6_substituteFault 51 = .ok (.bipush 12, 2) := by decide +kernel
theorem dX6_substituteFault_53 : decode cX6_substituteFault 53 = .ok (.iload 4, 2) := by decide +kernel
theorem dX6_substituteFault_55 : decode cX6_substituteFault 55 = .ok (.invokevirtual 33, 3) := by decide +kernel
theorem dX6_substituteFault_58 : decode cX6_substituteFault 58 = .ok (.ireturn, 1) := by decide +kernel
theorem dX6_substituteFault_59 : decode cX6_substituteFault 59 = .ok (.aload_n 0, 1) := by decide +kernel
theorem dX6_substituteFault_60 : decode cX6_substituteFault 60 = .ok (.getfield 15, 3) := by decide +kernel
theorem dX6_substituteFault_63 : decode cX6_substituteFault 63 = .ok (.iload_n 2, 1) := by decide +kernel
theorem dX6_substituteFault_64 : decode cX6_substituteFault 64 = .ok (.invokevirtual 53, 3) := by decide +kernel
theorem dX6_substituteFault_67 : decode cX6_substituteFault 67 = .ok (.ifCond .eq 19, 3) := by decide +kernel
theorem dX6_substituteFault_70 : decode cX6_substituteFault 70 = .ok (.aload_n 0, 1) := by decide +kernel
theorem dX6_substituteFault_71 : decode cX6_substituteFault 71 = .ok (.bipush 13, 2) := by decide +kernel
theorem dX6_substituteFault_73 : decode cX6_substituteFault 73 = .ok (.aload_n 0, 1) := by decide +kernel
theorem dX6_substituteFault_74 : decode cX6_substituteFault 74 = .ok (.getfield 15, 3) := by decide +kernel
theorem dX6_substituteFault_77 : decode cX6_substituteFault 77 = .ok (.iload_n 2, 1) := by decide +kernel
theorem dX6_substituteFault_78 : decode cX6_substituteFault 78 = .ok (.iconst 4, 1) := by decide +kernel
theorem dX6_substituteFault_79 : decode cX6_substituteFault 79 = .ok (.invokevirtual 62, 3) := by decide +kernel
theorem dX6_substituteFault_82 : decode cX6_substituteFault 82 = .ok (.invokevirtual 33, 3) := by decide +kernel
theorem dX6_substituteFault_85 : decode cX6_substituteFault 85 = .ok (.ireturn, 1) := by decide +kernel
theorem dX6_substituteFault_86 : decode cX6_substituteFault 86 = .ok (.aload_n 0, 1) := by decide +kernel
theorem dX6_substituteFault_87 : decode cX6_substituteFault 87 = .ok (.getfield 15, 3) := by decide +kernel
theorem dX6_substituteFault_90 : decode cX6_substituteFault 90 = .ok (.bipush 16, 2) := by decide +kernel
theorem dX6_substituteFault_92 : decode cX6_substituteFault 92 = .ok (.iload 4, 2) := by decide +kernel
theorem dX6_substituteFault_94 : decode cX6_substituteFault 94 = .ok (.iadd, 1) := by decide +kernel
theorem dX6_substituteFault_95 : decode cX6_substituteFault 95 = .ok (.invokevirtual 47, 3) := by decide +kernel
theorem dX6_substituteFault_98 : decode cX6_substituteFault 98 = .ok (.iconst 2, 1) := by decide +kernel
theorem dX6_substituteFault_99 : decode cX6_substituteFault 99 = .ok (.if_icmp .lt 22, 3) := by decide +kernel
theorem dX6_substituteFault_102 : decode cX6_substituteFault 102 = .ok (.aload_n 0, 1) := by decide +kernel
theorem dX6_substituteFault_103 : decode cX6_substituteFault 103 = .ok (.bipush 14, 2) := by decide +kernel
theorem dX6_substituteFault_105 : decode cX6_substituteFault 105 = .ok (.aload_n 0, 1) := by decide +kernel
theorem dX6_substituteFault_106 : decode cX6_substituteFault 106 = .ok (.getfield 15, 3) := by decide +kernel
theorem dX6_substituteFault_109 : decode cX6_substituteFault 109 = .ok (.bipush 14, 2) := by decide +kernel
theorem dX6_substituteFault_111 : decode cX6_substituteFault 111 = .ok (.iload 4, 2) := by decide +kernel
theorem dX6_substituteFault_113 : decode cX6_substituteFault 113 = .ok (.iadd, 1) := by decide +kernel
theorem dX6_substituteFault_114 : decode cX6_substituteFault 114 = .ok (.invokevirtual 47, 3) := by decide +kernel
theorem dX6_substituteFault_117 : decode cX6_substituteFault 117 = .ok (.invokevirtual 33, 3) := by decide +kernel
theorem dX6_substituteFault_120 : decode cX6_substituteFault 120 = .ok (.ireturn, 1) := by decide +kernel
theorem dX6_substituteFault_121 : decode cX6_substituteFault 121 = .ok (.iconst 0, 1) := by decide +kernel
theorem dX6_substituteFault_122 : decode cX6_substituteFault 122 = .ok (.ireturn, 1) := by decide +kernel
theorem dX6_moveFault_0 : decode cX6_moveFault 0 = .ok (.iload_n 2, 1) := by decide +kernel
theorem dX6_moveFault_1 : decode cX6_moveFault 1 = .ok (.invokestatic 65, 3) := by decide +kernel
theorem dX6_moveFault_4 : decode cX6_moveFault 4 = .ok (.ifCond .ne 5, 3) := by decide +kernel
theorem dX6_moveFault_7 : decode cX6_moveFault 7 = .ok (.iconst (-1), 1) := by decide +kernel
theorem dX6_moveFault_8 : decode cX6_moveFault 8 = .ok (.ireturn, 1) := by decide +kernel
theorem dX6_moveFault_9 : decode cX6_moveFault 9 = .ok (.aload_n 0, 1) := by decide +kernel
theorem dX6_moveFault_10 : decode cX6_moveFault 10 = .ok (.iload_n 1, 1) := by decide +kernel
theorem dX6_moveFault_11 : decode cX6_moveFault 11 = .ok (.invokevirtual 68, 3) := by decide +kernel
theorem dX6_moveFault_14 : decode cX6_moveFault 14 = .ok (.istore_n 3, 1) := by decide +kernel
theorem dX6_moveFault_15 : decode cX6_moveFault 15 = .ok (.iload_n 3, 1) := by decide +kernel
theorem dX6_moveFault_16 : decode cX6_moveFault 16 = .ok (.ifCond .eq 5, 3) := by decide +kernel
theorem dX6_moveFault_19 : decode cX6_moveFault 19 = .ok (.iload_n 3, 1) := by decide +kernel
theorem dX6_moveFault_20 : decode cX6_moveFault 20 = .ok (.ireturn, 1) := by decide +kernel
theorem dX6_moveFault_21 : decode cX6_moveFault 21 = .ok (.aload_n 0, 1) := by decide +kernel
theorem dX6_moveFault_22 : decode cX6_moveFault 22 = .ok (.getfield 15, 3) := by decide +kernel
theorem dX6_moveFault_25 : decode cX6_moveFault 25 = .ok (.iload_n 2, 1) := by decide +kernel
theorem dX6_moveFault_26 : decode cX6_moveFault 26 = .ok (.invokevirtual 40, 3) := by decide +kernel
theorem dX6_moveFault_29 : decode cX6_moveFault 29 = .ok (.istore 4, 2) := by decide +kernel
theorem dX6_moveFault_31 : decode cX6_moveFault 31 = .ok (.iload 4, 2) := by decide +kernel
theorem dX6_moveFault_33 : decode cX6_moveFault 33 = .ok (.iconst (-1), 1) := by decide +kernel
theorem dX6_moveFault_34 : decode cX6_moveFault 34 = .ok (.if_icmp .eq 12, 3) := by decide +kernel
theorem dX6_moveFault_37 : decode cX6_moveFault 37 = .ok (.aload_n 0, 1) := by decide +kernel
theorem dX6_moveFault_38 : decode cX6_moveFault 38 = .ok (.bipush 7, 2) := by decide +kernel
theorem dX6_moveFault_40 : decode cX6_moveFault 40 = .ok (.iload 4, 2) := by decide +kernel
theorem dX6_moveFault_42 : decode cX6_moveFault 42 = .ok (.invokevirtual 33, 3) := by decide +kernel
theorem dX6_moveFault_45 : decode cX6_moveFault 45 = .ok (.ireturn, 1) := by decide +kernel
theorem dX6_moveFault_46 : decode cX6_moveFault 46 = .ok (.aload_n 0, 1) := by decide +kernel
theorem dX6_moveFault_47 : decode cX6_moveFault 47 = .ok (.getfield 15, 3) := by decide +kernel
theorem dX6_moveFault_50 : decode cX6_moveFault 50 = .ok (.iload_n 2, 1) := by decide +kernel
theorem dX6_moveFault_51 : decode cX6_moveFault 51 = .ok (.invokevirtual 71, 3) := by decide +kernel
theorem dX6_moveFault_54 : decode cX6_moveFault 54 = .ok (.ifCond .eq 21, 3) := by decide +kernel
theorem dX6_moveFault_57 : decode cX6_moveFault 57 = .ok (.aload_n 0, 1) := by decide +kernel
theorem dX6_moveFault_58 : decode cX6_moveFault 58 = .ok (.bipush 8, 2) := by decide +kernel
theorem dX6_moveFault_60 : decode cX6_moveFault 60 = .ok (.aload_n 0, 1) := by decide +kernel
theorem dX6_moveFault_61 : decode cX6_moveFault 61 = .ok (.getfield 15, 3) := by decide +kernel
theorem dX6_moveFault_64 : decode cX6_moveFault 64 = .ok (.iconst 1, 1) := by decide +kernel
theorem dX6_moveFault_65 : decode cX6_moveFault 65 = .ok (.invokevirtual 47, 3) := by decide +kernel
theorem dX6_moveFault_68 : decode cX6_moveFault 68 = .ok (.invokestatic 74, 3) := by decide +kernel
theorem dX6_moveFault_71 : decode cX6_moveFault 71 = .ok (.invokevirtual 33, 3) := by decide +kernel
theorem dX6_moveFault_74 : decode cX6_moveFault 74 = .ok (.ireturn, 1) := by decide +kernel
theorem dX6_moveFault_75 : decode cX6_moveFault 75 = .ok (.aload_n 0, 1) := by decide +kernel
theorem dX6_moveFault_76 : decode cX6_moveFault 76 = .ok (.getfield 19, 3) := by decide +kernel
theorem dX6_moveFault_79 : decode cX6_moveFault 79 = .ok (.iload_n 1, 1) := by decide +kernel
theorem dX6_moveFault_80 : decode cX6_moveFault 80 = .ok (.invokevirtual 77, 3) := by decide +kernel
theorem dX6_moveFault_83 : decode cX6_moveFault 83 = .ok (.aload_n 0, 1) := by decide +kernel
theorem dX6_moveFault_84 : decode cX6_moveFault 84 = .ok (.getfield 19, 3) := by decide +kernel
theorem dX6_moveFault_87 : decode cX6_moveFault 87 = .ok (.iload_n 2, 1) := by decide +kernel
theorem dX6_moveFault_88 : decode cX6_moveFault 88 = .ok (.invokevirtual 83, 3) := by decide +kernel
theorem dX6_moveFault_91 : decode cX6_moveFault 91 = .ok (.istore 5, 2) := by decide +kernel
theorem dX6_moveFault_93 : decode cX6_moveFault 93 = .ok (.iload 5, 2) := by decide +kernel
theorem dX6_moveFault_95 : decode cX6_moveFault 95 = .ok (.iconst (-1), 1) := by decide +kernel
theorem dX6_moveFault_96 : decode cX6_moveFault 96 = .ok (.if_icmp .eq 17, 3) := by decide +kernel
theorem dX6_moveFault_99 : decode cX6_moveFault 99 = .ok (.iload 5, 2) := by decide +kernel
theorem dX6_moveFault_101 : decode cX6_moveFault 101 = .ok (.aload_n 0, 1) := by decide +kernel
theorem dX6_moveFault_102 : decode cX6_moveFault 102 = .ok (.getfield 15, 3) := by decide +kernel
theorem dX6_moveFault_105 : decode cX6_moveFault 105 = .ok (.iload_n 1, 1) := by decide +kernel
theorem dX6_moveFault_106 : decode cX6_moveFault 106 = .ok (.iconst 2, 1) := by decide +kernel
theorem dX6_moveFault_107 : decode cX6_moveFault 107 = .ok (.invokevirtual 62, 3) := by decide +kernel
theorem dX6_moveFault_110 : decode cX6_moveFault 110 = .ok (.if_icmp .le 11, 3) := by decide +kernel
theorem dX6_moveFault_113 : decode cX6_moveFault 113 = .ok (.aload_n 0, 1) := by decide +kernel
theorem dX6_moveFault_114 : decode cX6_moveFault 114 = .ok (.iconst 5, 1) := by decide +kernel
theorem dX6_moveFault_115 : decode cX6_moveFault 115 = .ok (.iload 5, 2) := by decide +kernel
theorem dX6_moveFault_117 : decode cX6_moveFault 117 = .ok (.invokevirtual 33, 3) := by decide +kernel
theorem dX6_moveFault_120 : decode cX6_moveFault 120 = .ok (.ireturn, 1) := by decide +kernel
theorem dX6_moveFault_121 : decode cX6_moveFault 121 = .ok (.aload_n 0, 1) := by decide +kernel
theorem dX6_moveFault_122 : decode cX6_moveFault 122 = .ok (.iload_n 1, 1) := by decide +kernel
theorem dX6_moveFault_123 : decode cX6_moveFault 123 = .ok (.iload 5, 2) := by decide +kernel
theorem dX6_moveFault_125 : decode cX6_moveFault 125 = .ok (.invokevirtual 86, 3) := by decide +kernel
theorem dX6_moveFault_128 : decode cX6_moveFault 128 = .ok (.ireturn, 1) := by decide +kernel
theorem dX6_hitFault_0 : decode cX6_hitFault 0 = .ok (.aload_n 0, 1) := by decide +kernel
theorem dX6_hitFault_1 : decode cX6_hitFault 1 = .ok (.getfield 15, 3) := by decide +kernel
theorem dX6_hitFault_4 : decode cX6_hitFault 4 = .ok (.iload_n 1, 1) := by decide +kernel
theorem dX6_hitFault_5 : decode cX6_hitFault 5 = .ok (.invokevirtual 50, 3) := by decide +kernel
theorem dX6_hitFault_8 : decode cX6_hitFault 8 = .ok (.ifCond .ne 5, 3) := by decide +kernel
theorem dX6_hitFault_11 : decode cX6_hitFault 11 = .ok (.iconst (-1), 1) := by decide +kernel
theorem dX6_hitFault_12 : decode cX6_hitFault 12 = .ok (.ireturn, 1) := by decide +kernel
theorem dX6_hitFault_13 : decode cX6_hitFault 13 = .ok (.iload_n 2, 1) := by decide +kernel
theorem dX6_hitFault_14 : decode cX6_hitFault 14 = .ok (.invokestatic 89, 3) := by decide +kernel
theorem dX6_hitFault_17 : decode cX6_hitFault 17 = .ok (.ifCond .eq 10, 3) := by decide +kernel
theorem dX6_hitFault_20 : decode cX6_hitFault 20 = .ok (.iload_n 3, 1) := by decide +kernel
theorem dX6_hitFault_21 : decode cX6_hitFault 21 = .ok (.invokestatic 92, 3) := by decide +kernel
theorem dX6_hitFault_24 : decode cX6_hitFault 24 = .ok (.ifCond .ne 6, 3) := by decide +kernel
theorem dX6_hitFault_27 : decode cX6_hitFault 27 = .ok (.bipush (-2), 2) := by decide +kernel
theorem dX6_hitFault_29 : decode cX6_hitFault 29 = .ok (.ireturn, 1) := by decide +kernel
theorem dX6_hitFault_30 : decode cX6_hitFault 30 = .ok (.aload_n 0, 1) := by decide +kernel
theorem dX6_hitFault_31 : decode cX6_hitFault 31 = .ok (.iload_n 1, 1) := by decide +kernel
theorem dX6_hitFault_32 : decode cX6_hitFault 32 = .ok (.invokevirtual 68, 3) := by decide +kernel
theorem dX6_hitFault_35 : decode cX6_hitFault 35 = .ok (.istore 4, 2) := by decide +kernel
theorem dX6_hitFault_37 : decode cX6_hitFault 37 = .ok (.iload 4, 2) := by decide +kernel
theorem dX6_hitFault_39 : decode cX6_hitFault 39 = .ok (.ifCond .eq 6, 3) := by decide +kernel
theorem dX6_hitFault_42 : decode cX6_hitFault 42 = .ok (.iload 4, 2) := by decide +kernel
theorem dX6_hitFault_44 : decode cX6_hitFault 44 = .ok (.ireturn, 1) := by decide +kernel
theorem dX6_hitFault_45 : decode cX6_hitFault 45 = .ok (.aload_n 0, 1) := by decide +kernel
theorem dX6_hitFault_46 : decode cX6_hitFault 46 = .ok (.getfield 15, 3) := by decide +kernel
theorem dX6_hitFault_49 : decode cX6_hitFault 49 = .ok (.iload_n 1, 1) := by decide +kernel
theorem dX6_hitFault_50 : decode cX6_hitFault 50 = .ok (.invokevirtual 95, 3) := by decide +kernel
theorem dX6_hitFault_53 : decode cX6_hitFault 53 = .ok (.ifCond .ne 30, 3) := by decide +kernel
theorem dX6_hitFault_56 : decode cX6_hitFault 56 = .ok (.aload_n 0, 1) := by decide +kernel
theorem dX6_hitFault_57 : decode cX6_hitFault 57 = .ok (.bipush 9, 2) := by decide +kernel
theorem dX6_hitFault_59 : decode cX6_hitFault 59 = .ok (.aload_n 0, 1) := by decide +kernel
theorem dX6_hitFault_60 : decode cX6_hitFault 60 = .ok (.getfield 15, 3) := by decide +kernel
theorem dX6_hitFault_63 : decode cX6_hitFault 63 = .ok (.iload_n 1, 1) := by decide +kernel
theorem dX6_hitFault_64 : decode cX6_hitFault 64 = .ok (.iconst 4, 1) := by decide +kernel
theorem dX6_hitFault_65 : decode cX6_hitFault 65 = .ok (.invokevirtual 62, 3) := by decide +kernel
theorem dX6_hitFault_68 : decode cX6_hitFault 68 = .ok (.aload_n 0, 1) := by decide +kernel
theorem dX6_hitFault_69 : decode cX6_hitFault 69 = .ok (.getfield 15, 3) := by decide +kernel
theorem dX6_hitFault_72 : decode cX6_hitFault 72 = .ok (.iconst 5, 1) := by decide +kernel
theorem dX6_hitFault_73 : decode cX6_hitFault 73 = .ok (.invokevirtual 47, 3) := by decide +kernel
theorem dX6_hitFault_76 : decode cX6_hitFault 76 = .ok (.invokestatic 98, 3) := by decide +kernel
theorem dX6_hitFault_79 : decode cX6_hitFault 79 = .ok (.invokevirtual 33, 3) := by decide +kernel
theorem dX6_hitFault_82 : decode cX6_hitFault 82 = .ok (.ireturn, 1) := by decide +kernel
theorem dX6_hitFault_83 : decode cX6_hitFault 83 = .ok (.iload_n 3, 1) := by decide +kernel
theorem dX6_hitFault_84 : decode cX6_hitFault 84 = .ok (.aload_n 0, 1) := by decide +kernel
theorem dX6_hitFault_85 : decode cX6_hitFault 85 = .ok (.getfield 15, 3) := by decide +kernel
theorem dX6_hitFault_88 : decode cX6_hitFault 88 = .ok (.iload_n 1, 1) := by decide +kernel
theorem dX6_hitFault_89 : decode cX6_hitFault 89 = .ok (.iconst 1, 1) := by decide +kernel
theorem dX6_hitFault_90 : decode cX6_hitFault 90 = .ok (.invokevirtual 62, 3) := by decide +kernel
theorem dX6_hitFault_93 : decode cX6_hitFault 93 = .ok (.if_icmp .le 19, 3) := by decide +kernel
theorem dX6_hitFault_96 : decode cX6_hitFault 96 = .ok (.aload_n 0, 1) := by decide +kernel
theorem dX6_hitFault_97 : decode cX6_hitFault 97 = .ok (.bipush 10, 2) := by decide +kernel
theorem dX6_hitFault_99 : decode cX6_hitFault 99 = .ok (.aload_n 0, 1) := by decide +kernel
theorem dX6_hitFault_100 : decode cX6_hitFault 100 = .ok (.getfield 15, 3) := by decide +kernel
theorem dX6_hitFault_103 : decode cX6_hitFault 103 = .ok (.iload_n 1, 1) := by decide +kernel
theorem dX6_hitFault_104 : decode cX6_hitFault 104 = .ok (.iconst 1, 1) := by decide +kernel
theorem dX6_hitFault_105 : decode cX6_hitFault 105 = .ok (.invokevirtual 62, 3) := by decide +kernel
theorem dX6_hitFault_108 : decode cX6_hitFault 108 = .ok (.invokevirtual 33, 3) := by decide +kernel
theorem dX6_hitFault_111 : decode cX6_hitFault 111 = .ok (.ireturn, 1) := by decide +kernel
theorem dX6_hitFault_112 : decode cX6_hitFault 112 = .ok (.aload_n 0, 1) := by decide +kernel
theorem dX6_hitFault_113 : decode cX6_hitFault 113 = .ok (.iload_n 1, 1) := by decide +kernel
theorem dX6_hitFault_114 : decode cX6_hitFault 114 = .ok (.iconst 1, 1) := by decide +kernel
theorem dX6_hitFault_115 : decode cX6_hitFault 115 = .ok (.invokevirtual 86, 3) := by decide +kernel
theorem dX6_hitFault_118 : decode cX6_hitFault 118 = .ok (.ireturn, 1) := by decide +kernel
theorem dX6_songFault_0 : decode cX6_songFault 0 = .ok (.aload_n 0, 1) := by decide +kernel
theorem dX6_songFault_1 : decode cX6_songFault 1 = .ok (.iload_n 1, 1) := by decide +kernel
theorem dX6_songFault_2 : decode cX6_songFault 2 = .ok (.invokevirtual 56, 3) := by decide +kernel
theorem dX6_songFault_5 : decode cX6_songFault 5 = .ok (.istore_n 2, 1) := by decide +kernel
theorem dX6_songFault_6 : decode cX6_songFault 6 = .ok (.iload_n 2, 1) := by decide +kernel
theorem dX6_songFault_7 : decode cX6_songFault 7 = .ok (.ifCond .eq 5, 3) := by decide +kernel
theorem dX6_songFault_10 : decode cX6_songFault 10 = .ok (.iload_n 2, 1) := by decide +kernel
theorem dX6_songFault_11 : decode cX6_songFault 11 = .ok (.ireturn, 1) := by decide +kernel
theorem dX6_songFault_12 : decode cX6_songFault 12 = .ok (.aload_n 0, 1) := by decide +kernel
theorem dX6_songFault_13 : decode cX6_songFault 13 = .ok (.getfield 15, 3) := by decide +kernel
theorem dX6_songFault_16 : decode cX6_songFault 16 = .ok (.iload_n 1, 1) := by decide +kernel
theorem dX6_songFault_17 : decode cX6_songFault 17 = .ok (.iconst 5, 1) := by decide +kernel
theorem dX6_songFault_18 : decode cX6_songFault 18 = .ok (.invokevirtual 62, 3) := by decide +kernel
theorem dX6_songFault_21 : decode cX6_songFault 21 = .ok (.iconst 1, 1) := by decide +kernel
theorem dX6_songFault_22 : decode cX6_songFault 22 = .ok (.if_icmp .ne 13, 3) := by decide +kernel
theorem dX6_songFault_25 : decode cX6_songFault 25 = .ok (.aload_n 0, 1) := by decide +kernel
theorem dX6_songFault_26 : decode cX6_songFault 26 = .ok (.bipush 11, 2) := by decide +kernel
theorem dX6_songFault_28 : decode cX6_songFault 28 = .ok (.iload_n 1, 1) := by decide +kernel
theorem dX6_songFault_29 : decode cX6_songFault 29 = .ok (.invokevirtual 33, 3) := by decide +kernel
theorem dX6_songFault_32 : decode cX6_songFault 32 = .ok (.goto 9, 3) := by decide +kernel
theorem dX6_songFault_35 : decode cX6_songFault 35 = .ok (.aload_n 0, 1) := by decide +kernel
theorem dX6_songFault_36 : decode cX6_songFault 36 = .ok (.iload_n 1, 1) := by decide +kernel
theorem dX6_songFault_37 : decode cX6_songFault 37 = .ok (.iconst 1, 1) := by decide +kernel
theorem dX6_songFault_38 : decode cX6_songFault 38 = .ok (.invokevirtual 86, 3) := by decide +kernel
theorem dX6_songFault_41 : decode cX6_songFault 41 = .ok (.ireturn, 1) := by decide +kernel
theorem dX7_init_0 : decode cX7_init 0 = .ok (.aload_n 0, 1) := by decide +kernel
theorem dX7_init_1 : decode cX7_init 1 = .ok (.invokespecial 1, 3) := by decide +kernel
theorem dX7_init_4 : decode cX7_init 4 = .ok (.aload_n 0, 1) := by decide +kernel
theorem dX7_init_5 : decode cX7_init 5 = .ok (.new 7, 3) := by decide +kernel
theorem dX7_init_8 : decode cX7_init 8 = .ok (.dup, 1) := by decide +kernel
theorem dX7_init_9 : decode cX7_init 9 = .ok (.invokespecial 9, 3) := by decide +kernel
theorem dX7_init_12 : decode cX7_init 12 = .ok (.putfield 10, 3) := by decide +kernel
theorem dX7_init_15 : decode cX7_init 15 = .ok (.aload_n 0, 1) := by decide +kernel
theorem dX7_init_16 : decode cX7_init 16 = .ok (.new 7, 3) := by decide +kernel
theorem dX7_init_19 : decode cX7_init 19 = .ok (.dup, 1) := by decide +kernel
theorem dX7_init_20 : decode cX7_init 20 = .ok (.invokespecial 9, 3) := by decide +kernel
theorem dX7_init_23 : decode cX7_init 23 = .ok (.putfield 16, 3) := by decide +kernel
theorem dX7_init_26 : decode cX7_init 26 = .ok (.aload_n 0, 1) := by decide +kernel
theorem dX7_init_27 : decode cX7_init 27 = .ok (.new 7, 3) := by decide +kernel
theorem dX7_init_30 : decode cX7_init 30 = .ok (.dup, 1) := by decide +kernel
theorem dX7_init_31 : decode cX7_init 31 = .ok (.invokespecial 9, 3) := by decide +kernel
theorem dX7_init_34 : decode cX7_init 34 = .ok (.putfield 19, 3) := by decide +kernel
theorem dX7_init_37 : decode cX7_init 37 = .ok (.aload_n 0, 1) := by decide +kernel
theorem dX7_init_38 : decode cX7_init 38 = .ok (.new 22, 3) := by decide +kernel
theorem dX7_init_41 : decode cX7_init 41 = .ok (.dup, 1) := by decide +kernel
theorem dX7_init_42 : decode cX7_init 42 = .ok (.invokespecial 24, 3) := by decide +kernel
theorem dX7_init_45 : decode cX7_init 45 = .ok (.putfield 25, 3) := by decide +kernel
theorem dX7_init_48 : decode cX7_init 48 = .ok (.aload_n 0, 1) := by decide +kernel
theorem dX7_init_49 : decode cX7_init 49 = .ok (.new 29, 3) := by decide +kernel
theorem dX7_init_52 : decode cX7_init 52 = .ok (.dup, 1) := by decide +kernel
theorem dX7_init_53 : decode cX7_init 53 = .ok (.aload_n 0, 1) := by decide +kernel
theorem dX7_init_54 : decode cX7_init 54 = .ok (.getfield 10, 3) := by decide +kernel
theorem dX7_init_57 : decode cX7_init 57 = .ok (.invokespecial 31, 3) := by decide +kernel
theorem dX7_init_60 : decode cX7_init 60 = .ok (.putfield 34, 3) := by decide +kernel
theorem dX7_init_63 : decode cX7_init 63 = .ok (.aload_n 0, 1) := by decide +kernel
theorem dX7_init_64 : decode cX7_init 64 = .ok (.new 38, 3) := by decide +kernel
theorem dX7_init_67 : decode cX7_init 67 = .ok (.dup, 1) := by decide +kernel
theorem dX7_init_68 : decode cX7_init 68 = .ok (.aload_n 0, 1) := by decide +kernel
theorem dX7_init_69 : decode cX7_init 69 = .ok (.getfield 10, 3) := by decide +kernel
theorem dX7_init_72 : decode cX7_init 72 = .ok (.invokespecial 40, 3) := by decide +kernel
theorem dX7_init_75 : decode cX7_init 75 = .ok (.putfield 41, 3) := by decide +kernel
theorem dX7_init_78 : decode cX7_init 78 = .ok (.aload_n 0, 1) := by decide +kernel
theorem dX7_init_79 : decode cX7_init 79 = .ok (.new 45, 3) := by decide +kernel
theorem dX7_init_82 : decode cX7_init 82 = .ok (.dup, 1) := by decide +kernel
theorem dX7_init_83 : decode cX7_init 83 = .ok (.aload_n 0, 1) := by decide +kernel
theorem dX7_init_84 : decode cX7_init 84 = .ok (.getfield 10, 3) := by decide +kernel
theorem dX7_init_87 : decode cX7_init 87 = .ok (.aload_n 0, 1) := by decide +kernel
theorem dX7_init_88 : decode cX7_init 88 = .ok (.getfield 34, 3) := by decide +kernel
theorem dX7_init_91 : decode cX7_init 91 = .ok (.invokespecial 47, 3) := by decide +kernel
theorem dX7_init_94 : decode cX7_init 94 = .ok (.putfield 50, 3) := by decide +kernel
theorem dX7_init_97 : decode cX7_init 97 = .ok (.aload_n 0, 1) := by decide +kernel
theorem dX7_init_98 : decode cX7_init 98 = .ok (.new 54, 3) := by decide +kernel
theorem dX7_init_101 : decode cX7_init 101 = .ok (.dup, 1) := by decide +kernel
theorem dX7_init_102 : decode cX7_init 102 = .ok (.invokespecial 56, 3) := by decide +kernel
theorem dX7_init_105 : decode cX7_init 105 = .ok (.putfield 57, 3) := by decide +kernel
theorem dX7_init_108 : decode cX7_init 108 = .ok (.aload_n 0, 1) := by decide +kernel
theorem dX7_init_109 : decode cX7_init 109 = .ok (.new 61, 3) := by decide +kernel
theorem dX7_init_112 : decode cX7_init 112 = .ok (.dup, 1) := by decide +kernel
theorem dX7_init_113 : decode cX7_init 113 = .ok (.invokespecial 63, 3) := by decide +kernel
theorem dX7_init_116 : decode cX7_init 116 = .ok (.putfield 64, 3) := by decide +kernel
theorem dX7_init_119 : decode cX7_init 119 = .ok (.aload_n 0, 1) := by decide +kernel
theorem dX7_init_120 : decode cX7_init 120 = .ok (.iconst 0, 1) := by decide +kernel
theorem dX7_init_121 : decode cX7_init 121 = .ok (.putfield 68, 3) := by decide +kernel
theorem dX7_init_124 : decode cX7_init 124 = .ok (.aload_n 0, 1) := by decide +kernel
theorem dX7_init_125 : decode cX7_init 125 = .ok (.iconst (-1), 1) := by decide +kernel
theorem dX7_init_126 : decode cX7_init 126 = .ok (.putfield 72, 3) := by decide +kernel
theorem dX7_init_129 : decode cX7_init 129 = .ok (.aload_n 0, 1) := by decide +kernel
theorem dX7_init_130 : decode cX7_init 130 = .ok (.iconst 0, 1) := by decide +kernel
theorem dX7_init_131 : decode cX7_init 131 = .ok (.putfield 76, 3) := by decide +kernel
theorem dX7_init_134 : decode cX7_init 134 = .ok (.aload_n 0, 1) := by decide +kernel
theorem dX7_init_135 : decode cX7_init 135 = .ok (.iconst 0, 1) := by decide +kernel
theorem dX7_init_136 : decode cX7_init 136 = .ok (.putfield 79, 3) := by decide +kernel
theorem dX7_init_139 : decode cX7_init 139 = .ok (.aload_n 0, 1) := by decide +kernel
theorem dX7_init_140 : decode cX7_init 140 = .ok (.iconst (-1), 1) := by decide +kernel
theorem dX7_init_141 : decode cX7_init 141 = .ok (.putfield 82, 3) := by decide +kernel
theorem dX7_init_144 : decode cX7_init 144 = .ok (.return_, 1) := by decide +kernel
theorem dX7_whale_0 : decode cX7_whale 0 = .ok (.aload_n 0, 1) := by decide +kernel
theorem dX7_whale_1 : decode cX7_whale 1 = .ok (.getfield 50, 3) := by decide +kernel
theorem dX7_whale_4 : decode cX7_whale 4 = .ok (.iload_n 1, 1) := by decide +kernel
theorem dX7_whale_5 : decode cX7_whale 5 = .ok (.iload_n 2, 1) := by decide +kernel
theorem dX7_whale_6 : decode cX7_whale 6 = .ok (.iload_n 3, 1) := by decide +kernel
theorem dX7_whale_7 : decode cX7_whale 7 = .ok (.invokevirtual 85, 3) := by decide +kernel
theorem dX7_whale_10 : decode cX7_whale 10 = .ok (.istore 4, 2) := by decide +kernel
theorem dX7_whale_12 : decode cX7_whale 12 = .ok (.aload_n 0, 1) := by decide +kernel
theorem dX7_whale_13 : decode cX7_whale 13 = .ok (.iload 4, 2) := by decide +kernel
theorem dX7_whale_15 : decode cX7_whale 15 = .ok (.invokevirtual 89, 3) := by decide +kernel
theorem dX7_whale_18 : decode cX7_whale 18 = .ok (.aload_n 0, 1) := by decide +kernel
theorem dX7_whale_19 : decode cX7_whale 19 = .ok (.iload 4, 2) := by decide +kernel
theorem dX7_whale_21 : decode cX7_whale 21 = .ok (.invokevirtual 93, 3) := by decide +kernel
theorem dX7_whale_24 : decode cX7_whale 24 = .ok (.aload_n 0, 1) := by decide +kernel
theorem dX7_whale_25 : decode cX7_whale 25 = .ok (.getfield 25, 3) := by decide +kernel
theorem dX7_whale_28 : decode cX7_whale 28 = .ok (.aload_n 0, 1) := by decide +kernel
theorem dX7_whale_29 : decode cX7_whale 29 = .ok (.getfield 10, 3) := by decide +kernel
theorem dX7_whale_32 : decode cX7_whale 32 = .ok (.invokevirtual 96, 3) := by decide +kernel
theorem dX7_whale_35 : decode cX7_whale 35 = .ok (.aload_n 0, 1) := by decide +kernel
theorem dX7_whale_36 : decode cX7_whale 36 = .ok (.getfield 10, 3) := by decide +kernel
theorem dX7_whale_39 : decode cX7_whale 39 = .ok (.iload_n 1, 1) := by decide +kernel
theorem dX7_whale_40 : decode cX7_whale 40 = .ok (.iload_n 2, 1) := by decide +kernel
theorem dX7_whale_41 : decode cX7_whale 41 = .ok (.iload_n 3, 1) := by decide +kernel
theorem dX7_whale_42 : decode cX7_whale 42 = .ok (.invokevirtual 99, 3) := by decide +kernel
theorem dX7_whale_45 : decode cX7_whale 45 = .ok (.ireturn, 1) := by decide +kernel
theorem dX7_swap_0 : decode cX7_swap 0 = .ok (.aload_n 0, 1) := by decide +kernel
theorem dX7_swap_1 : decode cX7_swap 1 = .ok (.getfield 50, 3) := by decide +kernel
theorem dX7_swap_4 : decode cX7_swap 4 = .ok (.iload_n 1, 1) := by decide +kernel
theorem dX7_swap_5 : decode cX7_swap 5 = .ok (.iload_n 2, 1) := by decide +kernel
theorem dX7_swap_6 : decode cX7_swap 6 = .ok (.invokevirtual 102, 3) := by decide +kernel
theorem dX7_swap_9 : decode cX7_swap 9 = .ok (.istore_n 3, 1) := by decide +kernel
theorem dX7_swap_10 : decode cX7_swap 10 = .ok (.aload_n 0, 1) := by decide +kernel
theorem dX7_swap_11 : decode cX7_swap 11 = .ok (.iload_n 3, 1) := by decide +kernel
theorem dX7_swap_12 : decode cX7_swap 12 = .ok (.invokevirtual 106, 3) := by decide +kernel
theorem dX7_swap_15 : decode cX7_swap 15 = .ok (.aload_n 0, 1) := by decide +kernel
theorem dX7_swap_16 : decode cX7_swap 16 = .ok (.iload_n 3, 1) := by decide +kernel
theorem dX7_swap_17 : decode cX7_swap 17 = .ok (.invokevirtual 93, 3) := by decide +kernel
theorem dX7_swap_20 : decode cX7_swap 20 = .ok (.aload_n 0, 1) := by decide +kernel
theorem dX7_swap_21 : decode cX7_swap 21 = .ok (.getfield 25, 3) := by decide +kernel
theorem dX7_swap_24 : decode cX7_swap 24 = .ok (.aload_n 0, 1) := by decide +kernel
theorem dX7_swap_25 : decode cX7_swap 25 = .ok (.getfield 10, 3) := by decide +kernel
theorem dX7_swap_28 : decode cX7_swap 28 = .ok (.invokevirtual 96, 3) := by decide +kernel
theorem dX7_swap_31 : decode cX7_swap 31 = .ok (.aload_n 0, 1) := by decide +kernel
theorem dX7_swap_32 : decode cX7_swap 32 = .ok (.getfield 10, 3) := by decide +kernel
theorem dX7_swap_35 : decode cX7_swap 35 = .ok (.iload_n 1, 1) := by decide +kernel
theorem dX7_swap_36 : decode cX7_swap 36 = .ok (.iload_n 2, 1) := by decide +kernel
theorem dX7_swap_37 : decode cX7_swap 37 = .ok (.invokevirtual 109, 3) := by decide +kernel
theorem dX7_swap_40 : decode cX7_swap 40 = .ok (.ireturn, 1) := by decide +kernel
theorem dX7_swim_0 : decode cX7_swim 0 = .ok (.aload_n 0, 1) := by decide +kernel
theorem dX7_swim_1 : decode cX7_swim 1 = .ok (.getfield 50, 3) := by decide +kernel
theorem dX7_swim_4 : decode cX7_swim 4 = .ok (.iload_n 1, 1) := by decide +kernel
theorem dX7_swim_5 : decode cX7_swim 5 = .ok (.iload_n 2, 1) := by decide +kernel
theorem dX7_swim_6 : decode cX7_swim 6 = .ok (.invokevirtual 112, 3) := by decide +kernel
theorem dX7_swim_9 : decode cX7_swim 9 = .ok (.istore_n 3, 1) := by decide +kernel
theorem dX7_swim_10 : decode cX7_swim 10 = .ok (.aload_n 0, 1) := by decide +kernel
theorem dX7_swim_11 : decode cX7_swim 11 = .ok (.iload_n 3, 1) := by decide +kernel
theorem dX7_swim_12 : decode cX7_swim 12 = .ok (.invokevirtual 106, 3) := by decide +kernel
theorem dX7_swim_15 : decode cX7_swim 15 = .ok (.aload_n 0, 1) := by decide +kernel
theorem dX7_swim_16 : decode cX7_swim 16 = .ok (.iload_n 3, 1) := by decide +kernel
theorem dX7_swim_17 : decode cX7_swim 17 = .ok (.invokevirtual 93, 3) := by decide +kernel
theorem dX7_swim_20 : decode cX7_swim 20 = .ok (.aload_n 0, 1) := by decide +kernel
theorem dX7_swim_21 : decode cX7_swim 21 = .ok (.getfield 25, 3) := by decide +kernel
theorem dX7_swim_24 : decode cX7_swim 24 = .ok (.aload_n 0, 1) := by decide +kernel
theorem dX7_swim_25 : decode cX7_swim 25 = .ok (.getfield 10, 3) := by decide +kernel
theorem dX7_swim_28 : decode cX7_swim 28 = .ok (.invokevirtual 96, 3) := by decide +kernel
theorem dX7_swim_31 : decode cX7_swim 31 = .ok (.aload_n 0, 1) := by decide +kernel
theorem dX7_swim_32 : decode cX7_swim 32 = .ok (.iload_n 1, 1) := by decide +kernel
theorem dX7_swim_33 : decode cX7_swim 33 = .ok (.iload_n 2, 1) := by decide +kernel
theorem dX7_swim_34 : decode cX7_swim 34 = .ok (.invokevirtual 115, 3) := by decide +kernel
theorem dX7_swim_37 : decode cX7_swim 37 = .ok (.ireturn, 1) := by decide +kernel
theorem dX7_strike_0 : decode cX7_strike 0 = .ok (.aload_n 0, 1) := by decide +kernel
theorem dX7_strike_1 : decode cX7_strike 1 = .ok (.getfield 50, 3) := by decide +kernel
theorem dX7_strike_4 : decode cX7_strike 4 = .ok (.iload_n 1, 1) := by decide +kernel
theorem dX7_strike_5 : decode cX7_strike 5 = .ok (.iload_n 2, 1) := by decide +kernel
theorem dX7_strike_6 : decode cX7_strike 6 = .ok (.iload_n 3, 1) := by decide +kernel
theorem dX7_strike_7 : decode cX7_strike 7 = .ok (.invokevirtual 118, 3) := by decide +kernel
theorem dX7_strike_10 : decode cX7_strike 10 = .ok (.istore 4, 2) := by decide +kernel
theorem dX7_strike_12 : decode cX7_strike 12 = .ok (.aload_n 0, 1) := by decide +kernel
theorem dX7_strike_13 : decode cX7_strike 13 = .ok (.iload 4, 2) := by decide +kernel
theorem dX7_strike_15 : decode cX7_strike 15 = .ok (.invokevirtual 106, 3) := by decide +kernel
theorem dX7_strike_18 : decode cX7_strike 18 = .ok (.aload_n 0, 1) := by decide +kernel
theorem dX7_strike_19 : decode cX7_strike 19 = .ok (.iload 4, 2) := by decide +kernel
theorem dX7_strike_21 : decode cX7_strike 21 = .ok (.invokevirtual 89, 3) := by decide +kernel
theorem dX7_strike_24 : decode cX7_strike 24 = .ok (.aload_n 0, 1) := by decide +kernel
theorem dX7_strike_25 : decode cX7_strike 25 = .ok (.iload 4, 2) := by decide +kernel
theorem dX7_strike_27 : decode cX7_strike 27 = .ok (.invokevirtual 93, 3) := by decide +kernel
theorem dX7_strike_30 : decode cX7_strike 30 = .ok (.aload_n 0, 1) := by decide +kernel
theorem dX7_strike_31 : decode cX7_strike 31 = .ok (.getfield 25, 3) := by decide +kernel
theorem dX7_strike_34 : decode cX7_strike 34 = .ok (.aload_n 0, 1) := by decide +kernel
theorem dX7_strike_35 : decode cX7_strike 35 = .ok (.getfield 10, 3) := by decide +kernel
theorem dX7_strike_38 : decode cX7_strike 38 = .ok (.invokevirtual 96, 3) := by decide +kernel
theorem dX7_strike_41 : decode cX7_strike 41 = .ok (.aload_n 0, 1) := by decide +kernel
theorem dX7_strike_42 : decode cX7_strike 42 = .ok (.iload_n 1, 1) := by decide +kernel
theorem dX7_strike_43 : decode cX7_strike 43 = .ok (.iload_n 2, 1) := by decide +kernel
theorem dX7_strike_44 : decode cX7_strike 44 = .ok (.iload_n 3, 1) := by decide +kernel
theorem dX7_strike_45 : decode cX7_strike 45 = .ok (.invokevirtual 121, 3) := by decide +kernel
theorem dX7_strike_48 : decode cX7_strike 48 = .ok (.ireturn, 1) := by decide +kernel
theorem dX7_sing_0 : decode cX7_sing 0 = .ok (.aload_n 0, 1) := by decide +kernel
theorem dX7_sing_1 : decode cX7_sing 1 = .ok (.getfield 50, 3) := by decide +kernel
theorem dX7_sing_4 : decode cX7_sing 4 = .ok (.iload_n 1, 1) := by decide +kernel
theorem dX7_sing_5 : decode cX7_sing 5 = .ok (.invokevirtual 124, 3) := by decide +kernel
theorem dX7_sing_8 : decode cX7_sing 8 = .ok (.istore_n 2, 1) := by decide +kernel
theorem dX7_sing_9 : decode cX7_sing 9 = .ok (.aload_n 0, 1) := by decide +kernel
theorem dX7_sing_10 : decode cX7_sing 10 = .ok (.iload_n 2, 1) := by decide +kernel
theorem dX7_sing_11 : decode cX7_sing 11 = .ok (.invokevirtual 106, 3) := by decide +kernel
theorem dX7_sing_14 : decode cX7_sing 14 = .ok (.aload_n 0, 1) := by decide +kernel
theorem dX7_sing_15 : decode cX7_sing 15 = .ok (.iload_n 2, 1) := by decide +kernel
theorem dX7_sing_16 : decode cX7_sing 16 = .ok (.invokevirtual 93, 3) := by decide +kernel
theorem dX7_sing_19 : decode cX7_sing 19 = .ok (.aload_n 0, 1) := by decide +kernel
theorem dX7_sing_20 : decode cX7_sing 20 = .ok (.getfield 25, 3) := by decide +kernel
theorem dX7_sing_23 : decode cX7_sing 23 = .ok (.aload_n 0, 1) := by decide +kernel
theorem dX7_sing_24 : decode cX7_sing 24 = .ok (.getfield 10, 3) := by decide +kernel
theorem dX7_sing_27 : decode cX7_sing 27 = .ok (.invokevirtual 96, 3) := by decide +kernel
theorem dX7_sing_30 : decode cX7_sing 30 = .ok (.aload_n 0, 1) := by decide +kernel
theorem dX7_sing_31 : decode cX7_sing 31 = .ok (.getfield 10, 3) := by decide +kernel
theorem dX7_sing_34 : decode cX7_sing 34 = .ok (.iload_n 1, 1) := by decide +kernel
theorem dX7_sing_35 : decode cX7_sing 35 = .ok (.invokevirtual 128, 3) := by decide +kernel
theorem dX7_sing_38 : decode cX7_sing 38 = .ok (.ireturn, 1) := by decide +kernel
theorem dX7_drift_0 : decode cX7_drift 0 = .ok (.aload_n 0, 1) := by decide +kernel
theorem dX7_drift_1 : decode cX7_drift 1 = .ok (.getfield 50, 3) := by decide +kernel
theorem dX7_drift_4 : decode cX7_drift 4 = .ok (.invokevirtual 131, 3) := by decide +kernel
theorem dX7_drift_7 : decode cX7_drift 7 = .ok (.istore_n 1, 1) := by decide +kernel
theorem dX7_drift_8 : decode cX7_drift 8 = .ok (.aload_n 0, 1) := by decide +kernel
theorem dX7_drift_9 : decode cX7_drift 9 = .ok (.iload_n 1, 1) := by decide +kernel
theorem dX7_drift_10 : decode cX7_drift 10 = .ok (.invokevirtual 93, 3) := by decide +kernel
theorem dX7_drift_13 : decode cX7_drift 13 = .ok (.aload_n 0, 1) := by decide +kernel
theorem dX7_drift_14 : decode cX7_drift 14 = .ok (.getfield 25, 3) := by decide +kernel
theorem dX7_drift_17 : decode cX7_drift 17 = .ok (.aload_n 0, 1) := by decide +kernel
theorem dX7_drift_18 : decode cX7_drift 18 = .ok (.getfield 10, 3) := by decide +kernel
theorem dX7_drift_21 : decode cX7_drift 21 = .ok (.invokevirtual 96, 3) := by decide +kernel
theorem dX7_drift_24 : decode cX7_drift 24 = .ok (.aload_n 0, 1) := by decide +kernel
theorem dX7_drift_25 : decode cX7_drift 25 = .ok (.getfield 10, 3) := by decide +kernel
theorem dX7_drift_28 : decode cX7_drift 28 = .ok (.invokevirtual 135, 3) := by decide +kernel
theorem dX7_drift_31 : decode cX7_drift 31 = .ok (.ireturn, 1) := by decide +kernel
theorem dX7_whaleOf_0 : decode cX7_whaleOf 0 = .ok (.aload_n 0, 1) := by decide +kernel
theorem dX7_whaleOf_1 : decode cX7_whaleOf 1 = .ok (.iload_n 1, 1) := by decide +kernel
theorem dX7_whaleOf_2 : decode cX7_whaleOf 2 = .ok (.invokevirtual 138, 3) := by decide +kernel
theorem dX7_whaleOf_5 : decode cX7_whaleOf 5 = .ok (.iload_n 2, 1) := by decide +kernel
theorem dX7_whaleOf_6 : decode cX7_whaleOf 6 = .ok (.ifCond .lt 9, 3) := by decide +kernel
theorem dX7_whaleOf_9 : decode cX7_whaleOf 9 = .ok (.iload_n 2, 1) := by decide +kernel
theorem dX7_whaleOf_10 : decode cX7_whaleOf 10 = .ok (.bipush 9, 2) := by decide +kernel
theorem dX7_whaleOf_12 : decode cX7_whaleOf 12 = .ok (.if_icmp .lt 13, 3) := by decide +kernel
theorem dX7_whaleOf_15 : decode cX7_whaleOf 15 = .ok (.new 141, 3) := by decide +kernel
theorem dX7_whaleOf_18 : decode cX7_whaleOf 18 = .ok (.dup, 1) := by decide +kernel
theorem dX7_whaleOf_19 : decode cX7_whaleOf 19 = .ok (.ldc 143, 2) := by decide +kernel
theorem dX7_whaleOf_21 : decode cX7_whaleOf 21 = .ok (.invokespecial 145, 3) := by decide +kernel
theorem dX7_whaleOf_24 : decode cX7_whaleOf 24 = .ok (.athrow, 1) := by decide +kernel
theorem dX7_whaleOf_25 : decode cX7_whaleOf 25 = .ok (.aload_n 0, 1) := by decide +kernel
theorem dX7_whaleOf_26 : decode cX7_whaleOf 26 = .ok (.getfield 10, 3) := by decide +kernel
theorem dX7_whaleOf_29 : decode cX7_whaleOf 29 = .ok (.iload_n 1, 1) := by decide +kernel
theorem dX7_whaleOf_30 : decode cX7_whaleOf 30 = .ok (.iload_n 2, 1) := by decide +kernel
theorem dX7_whaleOf_31 : decode cX7_whaleOf 31 = .ok (.invokevirtual 148, 3) := by decide +kernel
theorem dX7_whaleOf_34 : decode cX7_whaleOf 34 = .ok (.ireturn, 1) := by decide +kernel
theorem dX7_at_0 : decode cX7_at 0 = .ok (.aload_n 0, 1) := by decide +kernel
theorem dX7_at_1 : decode cX7_at 1 = .ok (.iload_n 1, 1) := by decide +kernel
theorem dX7_at_2 : decode cX7_at 2 = .ok (.invokevirtual 151, 3) := by decide +kernel
theorem dX7_at_5 : decode cX7_at 5 = .ok (.aload_n 0, 1) := by decide +kernel
theorem dX7_at_6 : decode cX7_at 6 = .ok (.getfield 10, 3) := by decide +kernel
theorem dX7_at_9 : decode cX7_at 9 = .ok (.iload_n 1, 1) := by decide +kernel
theorem dX7_at_10 : decode cX7_at 10 = .ok (.invokevirtual 154, 3) := by decide +kernel
theorem dX7_at_13 : decode cX7_at 13 = .ok (.ireturn, 1) := by decide +kernel
theorem dX7_isDry_0 : decode cX7_isDry 0 = .ok (.aload_n 0, 1) := by decide +kernel
theorem dX7_isDry_1 : decode cX7_isDry 1 = .ok (.iload_n 1, 1) := by decide +kernel
theorem dX7_isDry_2 : decode cX7_isDry 2 = .ok (.invokevirtual 151, 3) := by decide +kernel
theorem dX7_isDry_5 : decode cX7_isDry 5 = .ok (.aload_n 0, 1) := by decide +kernel
theorem dX7_isDry_6 : decode cX7_isDry 6 = .ok (.getfield 10, 3) := by decide +kernel
theorem dX7_isDry_9 : decode cX7_isDry 9 = .ok (.iload_n 1, 1) := by decide +kernel
theorem dX7_isDry_10 : decode cX7_isDry 10 = .ok (.invokevirtual 157, 3) := by decide +kernel
theorem dX7_isDry_13 : decode cX7_isDry 13 = .ok (.ireturn, 1) := by decide +kernel
theorem dX7_tide_0 : decode cX7_tide 0 = .ok (.aload_n 0, 1) := by decide +kernel
theorem dX7_tide_1 : decode cX7_tide 1 = .ok (.iload_n 1, 1) := by decide +kernel
theorem dX7_tide_2 : decode cX7_tide 2 = .ok (.invokevirtual 161, 3) := by decide +kernel
theorem dX7_tide_5 : decode cX7_tide 5 = .ok (.iload_n 1, 1) := by decide +kernel
theorem dX7_tide_6 : decode cX7_tide 6 = .ok (.invokestatic 164, 3) := by decide +kernel
theorem dX7_tide_9 : decode cX7_tide 9 = .ok (.ireturn, 1) := by decide +kernel
theorem dX7_tideAgain_0 : decode cX7_tideAgain 0 = .ok (.aload_n 0, 1) := by decide +kernel
theorem dX7_tideAgain_1 : decode cX7_tideAgain 1 = .ok (.iload_n 1, 1) := by decide +kernel
theorem dX7_tideAgain_2 : decode cX7_tideAgain 2 = .ok (.invokevirtual 161, 3) := by decide +kernel
theorem dX7_tideAgain_5 : decode cX7_tideAgain 5 = .ok (.iload_n 1, 1) := by decide +kernel
theorem dX7_tideAgain_6 : decode cX7_tideAgain 6 = .ok (.invokestatic 167, 3) := by decide +kernel
theorem dX7_tideAgain_9 : decode cX7_tideAgain 9 = .ok (.ireturn, 1) := by decide +kernel
theorem dX7_turnsIn_0 : decode cX7_turnsIn 0 = .ok (.aload_n 0, 1) := by decide +kernel
theorem dX7_turnsIn_1 : decode cX7_turnsIn 1 = .ok (.iload_n 1, 1) := by decide +kernel
theorem dX7_turnsIn_2 : decode cX7_turnsIn 2 = .ok (.invokevirtual 151, 3) := by decide +kernel
theorem dX7_turnsIn_5 : decode cX7_turnsIn 5 = .ok (.iload_n 1, 1) := by decide +kernel
theorem dX7_turnsIn_6 : decode cX7_turnsIn 6 = .ok (.invokestatic 170, 3) := by decide +kernel
theorem dX7_turnsIn_9 : decode cX7_turnsIn 9 = .ok (.ifCond .ne 13, 3) := by decide +kernel
theorem dX7_turnsIn_12 : decode cX7_turnsIn 12 = .ok (.new 173, 3) := by decide +kernel
theorem dX7_turnsIn_15 : decode cX7_turnsIn 15 = .ok (.dup, 1) := by decide +kernel
theorem dX7_turnsIn_16 : decode cX7_turnsIn 16 = .ok (.ldc 175, 2) := by decide +kernel
theorem dX7_turnsIn_18 : decode cX7_turnsIn 18 = .ok (.invokespecial 177, 3) := by decide +kernel
theorem dX7_turnsIn_21 : decode cX7_turnsIn 21 = .ok (.athrow, 1) := by decide +kernel
theorem dX7_turnsIn_22 : decode cX7_turnsIn 22 = .ok (.aload_n 0, 1) := by decide +kernel
theorem dX7_turnsIn_23 : decode cX7_turnsIn 23 = .ok (.getfield 10, 3) := by decide +kernel
theorem dX7_turnsIn_26 : decode cX7_turnsIn 26 = .ok (.invokevirtual 178, 3) := by decide +kernel
theorem dX7_turnsIn_29 : decode cX7_turnsIn 29 = .ok (.ireturn, 1) := by decide +kernel
theorem dX7_reach_0 : decode cX7_reach 0 = .ok (.aload_n 0, 1) := by decide +kernel
theorem dX7_reach_1 : decode cX7_reach 1 = .ok (.iload_n 1, 1) := by decide +kernel
theorem dX7_reach_2 : decode cX7_reach 2 = .ok (.invokevirtual 138, 3) := by decide +kernel
theorem dX7_reach_5 : decode cX7_reach 5 = .ok (.aload_n 0, 1) := by decide +kernel
theorem dX7_reach_6 : decode cX7_reach 6 = .ok (.getfield 10, 3) := by decide +kernel
theorem dX7_reach_9 : decode cX7_reach 9 = .ok (.invokevirtual 196, 3) := by decide +kernel
theorem dX7_reach_12 : decode cX7_reach 12 = .ok (.ifCond .ne 25, 3) := by decide +kernel
theorem dX7_reach_15 : decode cX7_reach 15 = .ok (.aload_n 0, 1) := by decide +kernel
theorem dX7_reach_16 : decode cX7_reach 16 = .ok (.getfield 10, 3) := by decide +kernel
theorem dX7_reach_19 : decode cX7_reach 19 = .ok (.iload_n 1, 1) := by decide +kernel
theorem dX7_reach_20 : decode cX7_reach 20 = .ok (.invokevirtual 200, 3) := by decide +kernel
theorem dX7_reach_23 : decode cX7_reach 23 = .ok (.ifCond .eq 14, 3) := by decide +kernel
theorem dX7_reach_26 : decode cX7_reach 26 = .ok (.aload_n 0, 1) := by decide +kernel
theorem dX7_reach_27 : decode cX7_reach 27 = .ok (.getfield 10, 3) := by decide +kernel
theorem dX7_reach_30 : decode cX7_reach 30 = .ok (.iload_n 1, 1) := by decide +kernel
theorem dX7_reach_31 : decode cX7_reach 31 = .ok (.invokevirtual 203, 3) := by decide +kernel
theorem dX7_reach_34 : decode cX7_reach 34 = .ok (.ifCond .eq 5, 3) := by decide +kernel
theorem dX7_reach_37 : decode cX7_reach 37 = .ok (.iconst 0, 1) := by decide +kernel
theorem dX7_reach_38 : decode cX7_reach 38 = .ok (.ireturn, 1) := by decide +kernel
theorem dX7_reach_39 : decode cX7_reach 39 = .ok (.aload_n 0, 1) := by decide +kernel
theorem dX7_reach_40 : decode cX7_reach 40 = .ok (.getfield 34, 3) := by decide +kernel
theorem dX7_reach_43 : decode cX7_reach 43 = .ok (.iload_n 1, 1) := by decide +kernel
theorem dX7_reach_44 : decode cX7_reach 44 = .ok (.invokevirtual 181, 3) := by decide +kernel
theorem dX7_reach_47 : decode cX7_reach 47 = .ok (.aload_n 0, 1) := by decide +kernel
theorem dX7_reach_48 : decode cX7_reach 48 = .ok (.getfield 34, 3) := by decide +kernel
theorem dX7_reach_51 : decode cX7_reach 51 = .ok (.aload_n 0, 1) := by decide +kernel
theorem dX7_reach_52 : decode cX7_reach 52 = .ok (.getfield 10, 3) := by decide +kernel
theorem dX7_reach_55 : decode cX7_reach 55 = .ok (.iload_n 1, 1) := by decide +kernel
theorem dX7_reach_56 : decode cX7_reach 56 = .ok (.iconst 2, 1) := by decide +kernel
theorem dX7_reach_57 : decode cX7_reach 57 = .ok (.invokevirtual 148, 3) := by decide +kernel
theorem dX7_reach_60 : decode cX7_reach 60 = .ok (.aload_n 0, 1) := by decide +kernel
theorem dX7_reach_61 : decode cX7_reach 61 = .ok (.getfield 10, 3) := by decide +kernel
theorem dX7_reach_64 : decode cX7_reach 64 = .ok (.iload_n 1, 1) := by decide +kernel
theorem dX7_reach_65 : decode cX7_reach 65 = .ok (.iconst 3, 1) := by decide +kernel
theorem dX7_reach_66 : decode cX7_reach 66 = .ok (.invokevirtual 148, 3) := by decide +kernel
theorem dX7_reach_69 : decode cX7_reach 69 = .ok (.invokestatic 206, 3) := by decide +kernel
theorem dX7_reach_72 : decode cX7_reach 72 = .ok (.invokevirtual 211, 3) := by decide +kernel
theorem dX7_reach_75 : decode cX7_reach 75 = .ok (.ireturn, 1) := by decide +kernel
theorem dX7_would_0 : decode cX7_would 0 = .ok (.aload_n 0, 1) := by decide +kernel
theorem dX7_would_1 : decode cX7_would 1 = .ok (.iload_n 1, 1) := by decide +kernel
theorem dX7_would_2 : decode cX7_would 2 = .ok (.invokevirtual 138, 3) := by decide +kernel
theorem dX7_would_5 : decode cX7_would 5 = .ok (.aload_n 0, 1) := by decide +kernel
theorem dX7_would_6 : decode cX7_would 6 = .ok (.iload_n 2, 1) := by decide +kernel
theorem dX7_would_7 : decode cX7_would 7 = .ok (.iload_n 3, 1) := by decide +kernel
theorem dX7_would_8 : decode cX7_would 8 = .ok (.invokevirtual 214, 3) := by decide +kernel
theorem dX7_would_11 : decode cX7_would 11 = .ok (.aload_n 0, 1) := by decide +kernel
theorem dX7_would_12 : decode cX7_would 12 = .ok (.getfield 41, 3) := by decide +kernel
theorem dX7_would_15 : decode cX7_would 15 = .ok (.iload_n 1, 1) := by decide +kernel
theorem dX7_would_16 : decode cX7_would 16 = .ok (.iload_n 2, 1) := by decide +kernel
theorem dX7_would_17 : decode cX7_would 17 = .ok (.iload_n 3, 1) := by decide +kernel
theorem dX7_would_18 : decode cX7_would 18 = .ok (.invokevirtual 218, 3) := by decide +kernel
theorem dX7_would_21 : decode cX7_would 21 = .ok (.ireturn, 1) := by decide +kernel
theorem dX7_wouldFoul_0 : decode cX7_wouldFoul 0 = .ok (.aload_n 0, 1) := by decide +kernel
theorem dX7_wouldFoul_1 : decode cX7_wouldFoul 1 = .ok (.iload_n 1, 1) := by decide +kernel
theorem dX7_wouldFoul_2 : decode cX7_wouldFoul 2 = .ok (.invokevirtual 138, 3) := by decide +kernel
theorem dX7_wouldFoul_5 : decode cX7_wouldFoul 5 = .ok (.aload_n 0, 1) := by decide +kernel
theorem dX7_wouldFoul_6 : decode cX7_wouldFoul 6 = .ok (.getfield 10, 3) := by decide +kernel
theorem dX7_wouldFoul_9 : decode cX7_wouldFoul 9 = .ok (.iload_n 1, 1) := by decide +kernel
theorem dX7_wouldFoul_10 : decode cX7_wouldFoul 10 = .ok (.invokevirtual 224, 3) := by decide +kernel
theorem dX7_wouldFoul_13 : decode cX7_wouldFoul 13 = .ok (.ireturn, 1) := by decide +kernel
theorem dX7_best_0 : decode cX7_best 0 = .ok (.aload_n 0, 1) := by decide +kernel
theorem dX7_best_1 : decode cX7_best 1 = .ok (.iload_n 1, 1) := by decide +kernel
theorem dX7_best_2 : decode cX7_best 2 = .ok (.invokevirtual 138, 3) := by decide +kernel
theorem dX7_best_5 : decode cX7_best 5 = .ok (.aload_n 0, 1) := by decide +kernel
theorem dX7_best_6 : decode cX7_best 6 = .ok (.getfield 50, 3) := by decide +kernel
theorem dX7_best_9 : decode cX7_best 9 = .ok (.iload_n 1, 1) := by decide +kernel
theorem dX7_best_10 : decode cX7_best 10 = .ok (.iconst 0, 1) := by decide +kernel
theorem dX7_best_11 : decode cX7_best 11 = .ok (.iconst 1, 1) := by decide +kernel
theorem dX7_best_12 : decode cX7_best 12 = .ok (.invokevirtual 118, 3) := by decide +kernel
theorem dX7_best_15 : decode cX7_best 15 = .ok (.ifCond .ne 11, 3) := by decide +kernel
theorem dX7_best_18 : decode cX7_best 18 = .ok (.aload_n 0, 1) := by decide +kernel
theorem dX7_best_19 : decode cX7_best 19 = .ok (.iload_n 1, 1) := by decide +kernel
theorem dX7_best_20 : decode cX7_best 20 = .ok (.invokevirtual 227, 3) := by decide +kernel
theorem dX7_best_23 : decode cX7_best 23 = .ok (.goto 4, 3) := by decide +kernel
theorem dX7_best_26 : decode cX7_best 26 = .ok (.iconst (-1), 1) := by decide +kernel
theorem dX7_best_27 : decode cX7_best 27 = .ok (.istore_n 2, 1) := by decide +kernel
theorem dX7_best_28 : decode cX7_best 28 = .ok (.iload_n 2, 1) := by decide +kernel
theorem dX7_best_29 : decode cX7_best 29 = .ok (.iconst (-1), 1) := by decide +kernel
theorem dX7_best_30 : decode cX7_best 30 = .ok (.if_icmp .ne 13, 3) := by decide +kernel
theorem dX7_best_33 : decode cX7_best 33 = .ok (.new 173, 3) := by decide +kernel
theorem dX7_best_36 : decode cX7_best 36 = .ok (.dup, 1) := by decide +kernel
theorem dX7_best_37 : decode cX7_best 37 = .ok (.ldc 230, 2) := by decide +kernel
theorem dX7_best_39 : decode cX7_best 39 = .ok (.invokespecial 177, 3) := by decide +kernel
theorem dX7_best_42 : decode cX7_best 42 = .ok (.athrow, 1) := by decide +kernel
theorem dX7_best_43 : decode cX7_best 43 = .ok (.iload_n 2, 1) := by decide +kernel
theorem dX7_best_44 : decode cX7_best 44 = .ok (.ireturn, 1) := by decide +kernel
theorem dX7_beside_0 : decode cX7_beside 0 = .ok (.aload_n 0, 1) := by decide +kernel
theorem dX7_beside_1 : decode cX7_beside 1 = .ok (.iload_n 1, 1) := by decide +kernel
theorem dX7_beside_2 : decode cX7_beside 2 = .ok (.invokevirtual 232, 3) := by decide +kernel
theorem dX7_beside_5 : decode cX7_beside 5 = .ok (.iconst 0, 1) := by decide +kernel
theorem dX7_beside_6 : decode cX7_beside 6 = .ok (.istore_n 2, 1) := by decide +kernel
theorem dX7_beside_7 : decode cX7_beside 7 = .ok (.iconst 0, 1) := by decide +kernel
theorem dX7_beside_8 : decode cX7_beside 8 = .ok (.istore_n 3, 1) := by decide +kernel
theorem dX7_beside_9 : decode cX7_beside 9 = .ok (.iload_n 3, 1) := by decide +kernel
theorem dX7_beside_10 : decode cX7_beside 10 = .ok (.aload_n 0, 1) := by decide +kernel
theorem dX7_beside_11 : decode cX7_beside 11 = .ok (.getfield 10, 3) := by decide +kernel
theorem dX7_beside_14 : decode cX7_beside 14 = .ok (.iconst 0, 1) := by decide +kernel
theorem dX7_beside_15 : decode cX7_beside 15 = .ok (.invokevirtual 235, 3) := by decide +kernel
theorem dX7_beside_18 : decode cX7_beside 18 = .ok (.if_icmp .ge 36, 3) := by decide +kernel
theorem dX7_beside_21 : decode cX7_beside 21 = .ok (.aload_n 0, 1) := by decide +kernel
theorem dX7_beside_22 : decode cX7_beside 22 = .ok (.getfield 10, 3) := by decide +kernel
theorem dX7_beside_25 : decode cX7_beside 25 = .ok (.iload_n 3, 1) := by decide +kernel
theorem dX7_beside_26 : decode cX7_beside 26 = .ok (.iconst 0, 1) := by decide +kernel
theorem dX7_beside_27 : decode cX7_beside 27 = .ok (.invokevirtual 148, 3) := by decide +kernel
theorem dX7_beside_30 : decode cX7_beside 30 = .ok (.iload_n 1, 1) := by decide +kernel
theorem dX7_beside_31 : decode cX7_beside 31 = .ok (.if_icmp .ne 17, 3) := by decide +kernel
theorem dX7_beside_34 : decode cX7_beside 34 = .ok (.aload_n 0, 1) := by decide +kernel
theorem dX7_beside_35 : decode cX7_beside 35 = .ok (.getfield 10, 3) := by decide +kernel
theorem dX7_beside_38 : decode cX7_beside 38 = .ok (.iload_n 3, 1) := by decide +kernel
theorem dX7_beside_39 : decode cX7_beside 39 = .ok (.invokevirtual 238, 3) := by decide +kernel
theorem dX7_beside_42 : decode cX7_beside 42 = .ok (.ifCond .eq 6, 3) := by decide +kernel
theorem dX7_beside_45 : decode cX7_beside 45 = .ok (.iinc 2 1, 3) := by decide +kernel
theorem dX7_beside_48 : decode cX7_beside 48 = .ok (.iinc 3 1, 3) := by decide +kernel
theorem dX7_beside_51 : decode cX7_beside 51 = .ok (.goto (-42), 3) := by decide +kernel
theorem dX7_beside_54 : decode cX7_beside 54 = .ok (.iload_n 2, 1) := by decide +kernel
theorem dX7_beside_55 : decode cX7_beside 55 = .ok (.ireturn, 1) := by decide +kernel
theorem dX7_ranked_0 : decode cX7_ranked 0 = .ok (.iload_n 1, 1) := by decide +kernel
theorem dX7_ranked_1 : decode cX7_ranked 1 = .ok (.ifCond .lt 8, 3) := by decide +kernel
theorem dX7_ranked_4 : decode cX7_ranked 4 = .ok (.iload_n 1, 1) := by decide +kernel
theorem dX7_ranked_5 : decode cX7_ranked 5 = .ok (.iconst 5, 1) := by decide +kernel
theorem dX7_ranked_6 : decode cX7_ranked 6 = .ok (.if_icmp .lt 13, 3) := by decide +kernel
theorem dX7_ranked_9 : decode cX7_ranked 9 = .ok (.new 141, 3) := by decide +kernel
theorem dX7_ranked_12 : decode cX7_ranked 12 = .ok (.dup, 1) := by decide +kernel
theorem dX7_ranked_13 : decode cX7_ranked 13 = .ok (.ldc 241, 2) := by decide +kernel
theorem dX7_ranked_15 : decode cX7_ranked 15 = .ok (.invokespecial 145, 3) := by decide +kernel
theorem dX7_ranked_18 : decode cX7_ranked 18 = .ok (.athrow, 1) := by decide +kernel
theorem dX7_ranked_19 : decode cX7_ranked 19 = .ok (.iconst 0, 1) := by decide +kernel
theorem dX7_ranked_20 : decode cX7_ranked 20 = .ok (.istore_n 3, 1) := by decide +kernel
theorem dX7_ranked_21 : decode cX7_ranked 21 = .ok (.iload_n 3, 1) := by decide +kernel
theorem dX7_ranked_22 : decode cX7_ranked 22 = .ok (.aload_n 0, 1) := by decide +kernel
theorem dX7_ranked_23 : decode cX7_ranked 23 = .ok (.getfield 10, 3) := by decide +kernel
theorem dX7_ranked_26 : decode cX7_ranked 26 = .ok (.iconst 0, 1) := by decide +kernel
theorem dX7_ranked_27 : decode cX7_ranked 27 = .ok (.invokevirtual 235, 3) := by decide +kernel
theorem dX7_ranked_30 : decode cX7_ranked 30 = .ok (.if_icmp .ge 21, 3) := by decide +kernel
theorem dX7_ranked_33 : decode cX7_ranked 33 = .ok (.aload_n 0, 1) := by decide +kernel
theorem dX7_ranked_34 : decode cX7_ranked 34 = .ok (.iload_n 1, 1) := by decide +kernel
theorem dX7_ranked_35 : decode cX7_ranked 35 = .ok (.iload_n 3, 1) := by decide +kernel
theorem dX7_ranked_36 : decode cX7_ranked 36 = .ok (.invokevirtual 243, 3) := by decide +kernel
theorem dX7_ranked_39 : decode cX7_ranked 39 = .ok (.iload_n 2, 1) := by decide +kernel
theorem dX7_ranked_40 : decode cX7_ranked 40 = .ok (.if_icmp .ne 5, 3) := by decide +kernel
theorem dX7_ranked_43 : decode cX7_ranked 43 = .ok (.iload_n 3, 1) := by decide +kernel
theorem dX7_ranked_44 : decode cX7_ranked 44 = .ok (.ireturn, 1) := by decide +kernel
theorem dX7_ranked_45 : decode cX7_ranked 45 = .ok (.iinc 3 1, 3) := by decide +kernel
theorem dX7_ranked_48 : decode cX7_ranked 48 = .ok (.goto (-27), 3) := by decide +kernel
theorem dX7_ranked_51 : decode cX7_ranked 51 = .ok (.new 173, 3) := by decide +kernel
theorem dX7_ranked_54 : decode cX7_ranked 54 = .ok (.dup, 1) := by decide +kernel
theorem dX7_ranked_55 : decode cX7_ranked 55 = .ok (.ldc 246, 2) := by decide +kernel
theorem dX7_ranked_57 : decode cX7_ranked 57 = .ok (.invokespecial 177, 3) := by decide +kernel
theorem dX7_ranked_60 : decode cX7_ranked 60 = .ok (.athrow, 1) := by decide +kernel
theorem dX7_calf_0 : decode cX7_calf 0 = .ok (.aload_n 0, 1) := by decide +kernel
theorem dX7_calf_1 : decode cX7_calf 1 = .ok (.iload_n 1, 1) := by decide +kernel
theorem dX7_calf_2 : decode cX7_calf 2 = .ok (.invokevirtual 232, 3) := by decide +kernel
theorem dX7_calf_5 : decode cX7_calf 5 = .ok (.aload_n 0, 1) := by decide +kernel
theorem dX7_calf_6 : decode cX7_calf 6 = .ok (.iload_n 1, 1) := by decide +kernel
theorem dX7_calf_7 : decode cX7_calf 7 = .ok (.invokevirtual 248, 3) := by decide +kernel
theorem dX7_calf_10 : decode cX7_calf 10 = .ok (.istore_n 2, 1) := by decide +kernel
theorem dX7_calf_11 : decode cX7_calf 11 = .ok (.iload_n 2, 1) := by decide +kernel
theorem dX7_calf_12 : decode cX7_calf 12 = .ok (.iconst (-1), 1) := by decide +kernel
theorem dX7_calf_13 : decode cX7_calf 13 = .ok (.if_icmp .ne 13, 3) := by decide +kernel
theorem dX7_calf_16 : decode cX7_calf 16 = .ok (.new 173, 3) := by decide +kernel
theorem dX7_calf_19 : decode cX7_calf 19 = .ok (.dup, 1) := by decide +kernel
theorem dX7_calf_20 : decode cX7_calf 20 = .ok (.ldc 251, 2) := by decide +kernel
theorem dX7_calf_22 : decode cX7_calf 22 = .ok (.invokespecial 177, 3) := by decide +kernel
theorem dX7_calf_25 : decode cX7_calf 25 = .ok (.athrow, 1) := by decide +kernel
theorem dX7_calf_26 : decode cX7_calf 26 = .ok (.iload_n 2, 1) := by decide +kernel
theorem dX7_calf_27 : decode cX7_calf 27 = .ok (.ireturn, 1) := by decide +kernel
theorem dX7_leader_0 : decode cX7_leader 0 = .ok (.aload_n 0, 1) := by decide +kernel
theorem dX7_leader_1 : decode cX7_leader 1 = .ok (.getfield 10, 3) := by decide +kernel
theorem dX7_leader_4 : decode cX7_leader 4 = .ok (.iconst 3, 1) := by decide +kernel
theorem dX7_leader_5 : decode cX7_leader 5 = .ok (.invokevirtual 235, 3) := by decide +kernel
theorem dX7_leader_8 : decode cX7_leader 8 = .ok (.aload_n 0, 1) := by decide +kernel
theorem dX7_leader_9 : decode cX7_leader 9 = .ok (.getfield 10, 3) := by decide +kernel
theorem dX7_leader_12 : decode cX7_leader 12 = .ok (.iconst 4, 1) := by decide +kernel
theorem dX7_leader_13 : decode cX7_leader 13 = .ok (.invokevirtual 235, 3) := by decide +kernel
theorem dX7_leader_16 : decode cX7_leader 16 = .ok (.isub, 1) := by decide +kernel
theorem dX7_leader_17 : decode cX7_leader 17 = .ok (.istore_n 1, 1) := by decide +kernel
theorem dX7_leader_18 : decode cX7_leader 18 = .ok (.iload_n 1, 1) := by decide +kernel
theorem dX7_leader_19 : decode cX7_leader 19 = .ok (.ifCond .ne 5, 3) := by decide +kernel
theorem dX7_leader_22 : decode cX7_leader 22 = .ok (.iconst (-1), 1) := by decide +kernel
theorem dX7_leader_23 : decode cX7_leader 23 = .ok (.ireturn, 1) := by decide +kernel
theorem dX7_leader_24 : decode cX7_leader 24 = .ok (.iload_n 1, 1) := by decide +kernel
theorem dX7_leader_25 : decode cX7_leader 25 = .ok (.ifCond .le 7, 3) := by decide +kernel
theorem dX7_leader_28 : decode cX7_leader 28 = .ok (.iconst 0, 1) := by decide +kernel
theorem dX7_leader_29 : decode cX7_leader 29 = .ok (.goto 4, 3) := by decide +kernel
theorem dX7_leader_32 : decode cX7_leader 32 = .ok (.iconst 1, 1) := by decide +kernel
theorem dX7_leader_33 : decode cX7_leader 33 = .ok (.ireturn, 1) := by decide +kernel
theorem dX7_isFair_0 : decode cX7_isFair 0 = .ok (.aload_n 0, 1) := by decide +kernel
theorem dX7_isFair_1 : decode cX7_isFair 1 = .ok (.invokevirtual 253, 3) := by decide +kernel
theorem dX7_isFair_4 : decode cX7_isFair 4 = .ok (.ifCond .eq 28, 3) := by decide +kernel
theorem dX7_isFair_7 : decode cX7_isFair 7 = .ok (.aload_n 0, 1) := by decide +kernel
theorem dX7_isFair_8 : decode cX7_isFair 8 = .ok (.invokevirtual 256, 3) := by decide +kernel
theorem dX7_isFair_11 : decode cX7_isFair 11 = .ok (.ifCond .eq 21, 3) := by decide +kernel
theorem dX7_isFair_14 : decode cX7_isFair 14 = .ok (.aload_n 0, 1) := by decide +kernel
theorem dX7_isFair_15 : decode cX7_isFair 15 = .ok (.invokevirtual 259, 3) := by decide +kernel
theorem dX7_isFair_18 : decode cX7_isFair 18 = .ok (.ifCond .eq 14, 3) := by decide +kernel
theorem dX7_isFair_21 : decode cX7_isFair 21 = .ok (.aload_n 0, 1) := by decide +kernel
theorem dX7_isFair_22 : decode cX7_isFair 22 = .ok (.invokevirtual 262, 3) := by decide +kernel
theorem dX7_isFair_25 : decode cX7_isFair 25 = .ok (.ifCond .eq 7, 3) := by decide +kernel
theorem dX7_isFair_28 : decode cX7_isFair 28 = .ok (.iconst 1, 1) := by decide +kernel
theorem dX7_isFair_29 : decode cX7_isFair 29 = .ok (.goto 4, 3) := by decide +kernel
theorem dX7_isFair_32 : decode cX7_isFair 32 = .ok (.iconst 0, 1) := by decide +kernel
theorem dX7_isFair_33 : decode cX7_isFair 33 = .ok (.ireturn, 1) := by decide +kernel
theorem dX7_row_0 : decode cX7_row 0 = .ok (.iload_n 1, 1) := by decide +kernel
theorem dX7_row_1 : decode cX7_row 1 = .ok (.ifCond .lt 8, 3) := by decide +kernel
theorem dX7_row_4 : decode cX7_row 4 = .ok (.iload_n 1, 1) := by decide +kernel
theorem dX7_row_5 : decode cX7_row 5 = .ok (.iconst 5, 1) := by decide +kernel
theorem dX7_row_6 : decode cX7_row 6 = .ok (.if_icmp .lt 14, 3) := by decide +kernel
theorem dX7_row_9 : decode cX7_row 9 = .ok (.new 265, 3) := by decide +kernel
theorem dX7_row_12 : decode cX7_row 12 = .ok (.dup, 1) := by decide +kernel
theorem dX7_row_13 : decode cX7_row 13 = .ok (.ldc_w 267, 3) := by decide +kernel
theorem dX7_row_16 : decode cX7_row 16 = .ok (.invokespecial 269, 3) := by decide +kernel
theorem dX7_row_19 : decode cX7_row 19 = .ok (.athrow, 1) := by decide +kernel
theorem dX7_row_20 : decode cX7_row 20 = .ok (.aload_n 0, 1) := by decide +kernel
theorem dX7_row_21 : decode cX7_row 21 = .ok (.getfield 64, 3) := by decide +kernel
theorem dX7_row_24 : decode cX7_row 24 = .ok (.invokevirtual 270, 3) := by decide +kernel
theorem dX7_row_27 : decode cX7_row 27 = .ok (.iconst 0, 1) := by decide +kernel
theorem dX7_row_28 : decode cX7_row 28 = .ok (.istore_n 2, 1) := by decide +kernel
theorem dX7_row_29 : decode cX7_row 29 = .ok (.iload_n 2, 1) := by decide +kernel
theorem dX7_row_30 : decode cX7_row 30 = .ok (.bipush 9, 2) := by decide +kernel
theorem dX7_row_32 : decode cX7_row 32 = .ok (.if_icmp .ge 19, 3) := by decide +kernel
theorem dX7_row_35 : decode cX7_row 35 = .ok (.aload_n 0, 1) := by decide +kernel
theorem dX7_row_36 : decode cX7_row 36 = .ok (.iload_n 1, 1) := by decide +kernel
theorem dX7_row_37 : decode cX7_row 37 = .ok (.bipush 9, 2) := by decide +kernel
theorem dX7_row_39 : decode cX7_row 39 = .ok (.imul, 1) := by decide +kernel
theorem dX7_row_40 : decode cX7_row 40 = .ok (.iload_n 2, 1) := by decide +kernel
theorem dX7_row_41 : decode cX7_row 41 = .ok (.iadd, 1) := by decide +kernel
theorem dX7_row_42 : decode cX7_row 42 = .ok (.invokevirtual 273, 3) := by decide +kernel
theorem dX7_row_45 : decode cX7_row 45 = .ok (.iinc 2 1, 3) := by decide +kernel
theorem dX7_row_48 : decode cX7_row 48 = .ok (.goto (-19), 3) := by decide +kernel
theorem dX7_row_51 : decode cX7_row 51 = .ok (.aload_n 0, 1) := by decide +kernel
theorem dX7_row_52 : decode cX7_row 52 = .ok (.getfield 64, 3) := by decide +kernel
theorem dX7_row_55 : decode cX7_row 55 = .ok (.invokevirtual 276, 3) := by decide +kernel
theorem dX7_row_58 : decode cX7_row 58 = .ok (.ireturn, 1) := by decide +kernel
theorem dX7_tell_0 : decode cX7_tell 0 = .ok (.aload_n 0, 1) := by decide +kernel
theorem dX7_tell_1 : decode cX7_tell 1 = .ok (.iload_n 1, 1) := by decide +kernel
theorem dX7_tell_2 : decode cX7_tell 2 = .ok (.invokevirtual 138, 3) := by decide +kernel
theorem dX7_tell_5 : decode cX7_tell 5 = .ok (.aload_n 0, 1) := by decide +kernel
theorem dX7_tell_6 : decode cX7_tell 6 = .ok (.getfield 64, 3) := by decide +kernel
theorem dX7_tell_9 : decode cX7_tell 9 = .ok (.invokevirtual 270, 3) := by decide +kernel
theorem dX7_tell_12 : decode cX7_tell 12 = .ok (.aload_n 0, 1) := by decide +kernel
theorem dX7_tell_13 : decode cX7_tell 13 = .ok (.getfield 64, 3) := by decide +kernel
theorem dX7_tell_16 : decode cX7_tell 16 = .ok (.iload_n 1, 1) := by decide +kernel
theorem dX7_tell_17 : decode cX7_tell 17 = .ok (.invokevirtual 279, 3) := by decide +kernel
theorem dX7_tell_20 : decode cX7_tell 20 = .ok (.aload_n 0, 1) := by decide +kernel
theorem dX7_tell_21 : decode cX7_tell 21 = .ok (.getfield 64, 3) := by decide +kernel
theorem dX7_tell_24 : decode cX7_tell 24 = .ok (.bipush 58, 2) := by decide +kernel
theorem dX7_tell_26 : decode cX7_tell 26 = .ok (.aload_n 0, 1) := by decide +kernel
theorem dX7_tell_27 : decode cX7_tell 27 = .ok (.getfield 10, 3) := by decide +kernel
theorem dX7_tell_30 : decode cX7_tell 30 = .ok (.iload_n 1, 1) := by decide +kernel
theorem dX7_tell_31 : decode cX7_tell 31 = .ok (.iconst 0, 1) := by decide +kernel
theorem dX7_tell_32 : decode cX7_tell 32 = .ok (.invokevirtual 148, 3) := by decide +kernel
theorem dX7_tell_35 : decode cX7_tell 35 = .ok (.invokevirtual 282, 3) := by decide +kernel
theorem dX7_tell_38 : decode cX7_tell 38 = .ok (.aload_n 0, 1) := by decide +kernel
theorem dX7_tell_39 : decode cX7_tell 39 = .ok (.getfield 64, 3) := by decide +kernel
theorem dX7_tell_42 : decode cX7_tell 42 = .ok (.bipush 94, 2) := by decide +kernel
theorem dX7_tell_44 : decode cX7_tell 44 = .ok (.aload_n 0, 1) := by decide +kernel
theorem dX7_tell_45 : decode cX7_tell 45 = .ok (.getfield 10, 3) := by decide +kernel
theorem dX7_tell_48 : decode cX7_tell 48 = .ok (.iload_n 1, 1) := by decide +kernel
theorem dX7_tell_49 : decode cX7_tell 49 = .ok (.iconst 1, 1) := by decide +kernel
theorem dX7_tell_50 : decode cX7_tell 50 = .ok (.invokevirtual 148, 3) := by decide +kernel
theorem dX7_tell_53 : decode cX7_tell 53 = .ok (.invokevirtual 282, 3) := by decide +kernel
theorem dX7_tell_56 : decode cX7_tell 56 = .ok (.aload_n 0, 1) := by decide +kernel
theorem dX7_tell_57 : decode cX7_tell 57 = .ok (.getfield 64, 3) := by decide +kernel
theorem dX7_tell_60 : decode cX7_tell 60 = .ok (.bipush 47, 2) := by decide +kernel
theorem dX7_tell_62 : decode cX7_tell 62 = .ok (.aload_n 0, 1) := by decide +kernel
theorem dX7_tell_63 : decode cX7_tell 63 = .ok (.getfield 10, 3) := by decide +kernel
theorem dX7_tell_66 : decode cX7_tell 66 = .ok (.iload_n 1, 1) := by decide +kernel
theorem dX7_tell_67 : decode cX7_tell 67 = .ok (.iconst 2, 1) := by decide +kernel
theorem dX7_tell_68 : decode cX7_tell 68 = .ok (.invokevirtual 148, 3) := by decide +kernel
theorem dX7_tell_71 : decode cX7_tell 71 = .ok (.invokevirtual 282, 3) := by decide +kernel
theorem dX7_tell_74 : decode cX7_tell 74 = .ok (.aload_n 0, 1) := by decide +kernel
theorem dX7_tell_75 : decode cX7_tell 75 = .ok (.getfield 64, 3) := by decide +kernel
theorem dX7_tell_78 : decode cX7_tell 78 = .ok (.bipush 37, 2) := by decide +kernel
theorem dX7_tell_80 : decode cX7_tell 80 = .ok (.aload_n 0, 1) := by decide +kernel
theorem dX7_tell_81 : decode cX7_tell 81 = .ok (.getfield 10, 3) := by decide +kernel
theorem dX7_tell_84 : decode cX7_tell 84 = .ok (.iload_n 1, 1) := by decide +kernel
theorem dX7_tell_85 : decode cX7_tell 85 = .ok (.iconst 3, 1) := by decide +kernel
theorem dX7_tell_86 : decode cX7_tell 86 = .ok (.invokevirtual 148, 3) := by decide +kernel
theorem dX7_tell_89 : decode cX7_tell 89 = .ok (.invokevirtual 282, 3) := by decide +kernel
theorem dX7_tell_92 : decode cX7_tell 92 = .ok (.aload_n 0, 1) := by decide +kernel
theorem dX7_tell_93 : decode cX7_tell 93 = .ok (.getfield 10, 3) := by decide +kernel
theorem dX7_tell_96 : decode cX7_tell 96 = .ok (.iload_n 1, 1) := by decide +kernel
theorem dX7_tell_97 : decode cX7_tell 97 = .ok (.invokevirtual 200, 3) := by decide +kernel
theorem dX7_tell_100 : decode cX7_tell 100 = .ok (.ifCond .eq 21, 3) := by decide +kernel
theorem dX7_tell_103 : decode cX7_tell 103 = .ok (.aload_n 0, 1) := by decide +kernel
theorem dX7_tell_104 : decode cX7_tell 104 = .ok (.getfield 64, 3) := by decide +kernel
theorem dX7_tell_107 : decode cX7_tell 107 = .ok (.bipush 64, 2) := by decide +kernel
theorem dX7_tell_109 : decode cX7_tell 109 = .ok (.aload_n 0, 1) := by decide +kernel
theorem dX7_tell_110 : decode cX7_tell 110 = .ok (.getfield 10, 3) := by decide +kernel
theorem dX7_tell_113 : decode cX7_tell 113 = .ok (.iload_n 1, 1) := by decide +kernel
theorem dX7_tell_114 : decode cX7_tell 114 = .ok (.iconst 4, 1) := by decide +kernel
theorem dX7_tell_115 : decode cX7_tell 115 = .ok (.invokevirtual 148, 3) := by decide +kernel
theorem dX7_tell_118 : decode cX7_tell 118 = .ok (.invokevirtual 282, 3) := by decide +kernel
theorem dX7_tell_121 : decode cX7_tell 121 = .ok (.aload_n 0, 1) := by decide +kernel
theorem dX7_tell_122 : decode cX7_tell 122 = .ok (.getfield 10, 3) := by decide +kernel
theorem dX7_tell_125 : decode cX7_tell 125 = .ok (.iload_n 1, 1) := by decide +kernel
theorem dX7_tell_126 : decode cX7_tell 126 = .ok (.iconst 5, 1) := by decide +kernel
theorem dX7_tell_127 : decode cX7_tell 127 = .ok (.invokevirtual 148, 3) := by decide +kernel
theorem dX7_tell_130 : decode cX7_tell 130 = .ok (.iconst 1, 1) := by decide +kernel
theorem dX7_tell_131 : decode cX7_tell 131 = .ok (.if_icmp .ne 12, 3) := by decide +kernel
theorem dX7_tell_134 : decode cX7_tell 134 = .ok (.aload_n 0, 1) := by decide +kernel
theorem dX7_tell_135 : decode cX7_tell 135 = .ok (.getfield 64, 3) := by decide +kernel
theorem dX7_tell_138 : decode cX7_tell 138 = .ok (.bipush 33, 2) := by decide +kernel
theorem dX7_tell_140 : decode cX7_tell 140 = .ok (.invokevirtual 286, 3) := by decide +kernel
theorem dX7_tell_143 : decode cX7_tell 143 = .ok (.aload_n 0, 1) := by decide +kernel
theorem dX7_tell_144 : decode cX7_tell 144 = .ok (.getfield 64, 3) := by decide +kernel
theorem dX7_tell_147 : decode cX7_tell 147 = .ok (.invokevirtual 276, 3) := by decide +kernel
theorem dX7_tell_150 : decode cX7_tell 150 = .ok (.ireturn, 1) := by decide +kernel
theorem dX7_account_0 : decode cX7_account 0 = .ok (.iload_n 1, 1) := by decide +kernel
theorem dX7_account_1 : decode cX7_account 1 = .ok (.ifCond .lt 9, 3) := by decide +kernel
theorem dX7_account_4 : decode cX7_account 4 = .ok (.iload_n 1, 1) := by decide +kernel
theorem dX7_account_5 : decode cX7_account 5 = .ok (.bipush 14, 2) := by decide +kernel
theorem dX7_account_7 : decode cX7_account 7 = .ok (.if_icmp .lt 14, 3) := by decide +kernel
theorem dX7_account_10 : decode cX7_account 10 = .ok (.new 141, 3) := by decide +kernel
theorem dX7_account_13 : decode cX7_account 13 = .ok (.dup, 1) := by decide +kernel
theorem dX7_account_14 : decode cX7_account 14 = .ok (.ldc_w 303, 3) := by decide +kernel
theorem dX7_account_17 : decode cX7_account 17 = .ok (.invokespecial 145, 3) := by decide +kernel
theorem dX7_account_20 : decode cX7_account 20 = .ok (.athrow, 1) := by decide +kernel
theorem dX7_account_21 : decode cX7_account 21 = .ok (.iload_n 1, 1) := by decide +kernel
theorem dX7_account_22 : decode cX7_account 22 = .ok (.lookupswitch 88 #[(2, 42), (10, 54), (12, 72), (13, 80)], 42) := by decide +kernel
theorem dX7_account_64 : decode cX7_account 64 = .ok (.aload_n 0, 1) := by decide +kernel
theorem dX7_account_65 : decode cX7_account 65 = .ok (.getfield 10, 3) := by decide +kernel
theorem dX7_account_68 : decode cX7_account 68 = .ok (.iconst 1, 1) := by decide +kernel
theorem dX7_account_69 : decode cX7_account 69 = .ok (.invokevirtual 235, 3) := by decide +kernel
theorem dX7_account_72 : decode cX7_account 72 = .ok (.bipush 12, 2) := by decide +kernel
theorem dX7_account_74 : decode cX7_account 74 = .ok (.idiv, 1) := by decide +kernel
theorem dX7_account_75 : decode cX7_account 75 = .ok (.ireturn, 1) := by decide +kernel
theorem dX7_account_76 : decode cX7_account 76 = .ok (.aload_n 0, 1) := by decide +kernel
theorem dX7_account_77 : decode cX7_account 77 = .ok (.getfield 10, 3) := by decide +kernel
theorem dX7_account_80 : decode cX7_account 80 = .ok (.iconst 0, 1) := by decide +kernel
theorem dX7_account_81 : decode cX7_account 81 = .ok (.invokevirtual 305, 3) := by decide +kernel
theorem dX7_account_84 : decode cX7_account 84 = .ok (.aload_n 0, 1) := by decide +kernel
theorem dX7_account_85 : decode cX7_account 85 = .ok (.getfield 10, 3) := by decide +kernel
theorem dX7_account_88 : decode cX7_account 88 = .ok (.iconst 1, 1) := by decide +kernel
theorem dX7_account_89 : decode cX7_account 89 = .ok (.invokevirtual 305, 3) := by decide +kernel
theorem dX7_account_92 : decode cX7_account 92 = .ok (.iadd, 1) := by decide +kernel
theorem dX7_account_93 : decode cX7_account 93 = .ok (.ireturn, 1) := by decide +kernel
theorem dX7_account_94 : decode cX7_account 94 = .ok (.aload_n 0, 1) := by decide +kernel
theorem dX7_account_95 : decode cX7_account 95 = .ok (.getfield 57, 3) := by decide +kernel
theorem dX7_account_98 : decode cX7_account 98 = .ok (.invokevirtual 308, 3) := by decide +kernel
theorem dX7_account_101 : decode cX7_account 101 = .ok (.ireturn, 1) := by decide +kernel
theorem dX7_account_102 : decode cX7_account 102 = .ok (.aload_n 0, 1) := by decide +kernel
theorem dX7_account_103 : decode cX7_account 103 = .ok (.getfield 25, 3) := by decide +kernel
theorem dX7_account_106 : decode cX7_account 106 = .ok (.invokevirtual 309, 3) := by decide +kernel
theorem dX7_account_109 : decode cX7_account 109 = .ok (.ireturn, 1) := by decide +kernel
theorem dX7_account_110 : decode cX7_account 110 = .ok (.aload_n 0, 1) := by decide +kernel
theorem dX7_account_111 : decode cX7_account 111 = .ok (.getfield 10, 3) := by decide +kernel
theorem dX7_account_114 : decode cX7_account 114 = .ok (.iload_n 1, 1) := by decide +kernel
theorem dX7_account_115 : decode cX7_account 115 = .ok (.invokevirtual 235, 3) := by decide +kernel
theorem dX7_account_118 : decode cX7_account 118 = .ok (.ireturn, 1) := by decide +kernel
theorem dX7_append_0 : decode cX7_append 0 = .ok (.iload_n 1, 1) := by decide +kernel
theorem dX7_append_1 : decode cX7_append 1 = .ok (.bipush 32, 2) := by decide +kernel
theorem dX7_append_3 : decode cX7_append 3 = .ok (.if_icmp .lt 9, 3) := by decide +kernel
theorem dX7_append_6 : decode cX7_append 6 = .ok (.iload_n 1, 1) := by decide +kernel
theorem dX7_append_7 : decode cX7_append 7 = .ok (.bipush 126, 2) := by decide +kernel
theorem dX7_append_9 : decode cX7_append 9 = .ok (.if_icmp .le 14, 3) := by decide +kernel
theorem dX7_append_12 : decode cX7_append 12 = .ok (.new 141, 3) := by decide +kernel
theorem dX7_append_15 : decode cX7_append 15 = .ok (.dup, 1) := by decide +kernel
theorem dX7_append_16 : decode cX7_append 16 = .ok (.ldc_w 312, 3) := by decide +kernel
theorem dX7_append_19 : decode cX7_append 19 = .ok (.invokespecial 145, 3) := by decide +kernel
theorem dX7_append_22 : decode cX7_append 22 = .ok (.athrow, 1) := by decide +kernel
theorem dX7_append_23 : decode cX7_append 23 = .ok (.aload_n 0, 1) := by decide +kernel
theorem dX7_append_24 : decode cX7_append 24 = .ok (.getfield 57, 3) := by decide +kernel
theorem dX7_append_27 : decode cX7_append 27 = .ok (.invokevirtual 308, 3) := by decide +kernel
theorem dX7_append_30 : decode cX7_append 30 = .ok (.bipush 60, 2) := by decide +kernel
theorem dX7_append_32 : decode cX7_append 32 = .ok (.if_icmp .lt 14, 3) := by decide +kernel
theorem dX7_append_35 : decode cX7_append 35 = .ok (.new 314, 3) := by decide +kernel
theorem dX7_append_38 : decode cX7_append 38 = .ok (.dup, 1) := by decide +kernel
theorem dX7_append_39 : decode cX7_append 39 = .ok (.ldc_w 316, 3) := by decide +kernel
theorem dX7_append_42 : decode cX7_append 42 = .ok (.invokespecial 318, 3) := by decide +kernel
theorem dX7_append_45 : decode cX7_append 45 = .ok (.athrow, 1) := by decide +kernel
theorem dX7_append_46 : decode cX7_append 46 = .ok (.aload_n 0, 1) := by decide +kernel
theorem dX7_append_47 : decode cX7_append 47 = .ok (.getfield 57, 3) := by decide +kernel
theorem dX7_append_50 : decode cX7_append 50 = .ok (.iload_n 1, 1) := by decide +kernel
theorem dX7_append_51 : decode cX7_append 51 = .ok (.invokevirtual 319, 3) := by decide +kernel
theorem dX7_append_54 : decode cX7_append 54 = .ok (.ireturn, 1) := by decide +kernel
theorem dX7_read_0 : decode cX7_read 0 = .ok (.aload_n 0, 1) := by decide +kernel
theorem dX7_read_1 : decode cX7_read 1 = .ok (.getfield 57, 3) := by decide +kernel
theorem dX7_read_4 : decode cX7_read 4 = .ok (.invokevirtual 322, 3) := by decide +kernel
theorem dX7_read_7 : decode cX7_read 7 = .ok (.istore_n 1, 1) := by decide +kernel
theorem dX7_read_8 : decode cX7_read 8 = .ok (.iload_n 1, 1) := by decide +kernel
theorem dX7_read_9 : decode cX7_read 9 = .ok (.iconst (-1), 1) := by decide +kernel
theorem dX7_read_10 : decode cX7_read 10 = .ok (.if_icmp .eq 26, 3) := by decide +kernel
theorem dX7_read_13 : decode cX7_read 13 = .ok (.aload_n 0, 1) := by decide +kernel
theorem dX7_read_14 : decode cX7_read 14 = .ok (.getfield 57, 3) := by decide +kernel
theorem dX7_read_17 : decode cX7_read 17 = .ok (.invokevirtual 325, 3) := by decide +kernel
theorem dX7_read_20 : decode cX7_read 20 = .ok (.aload_n 0, 1) := by decide +kernel
theorem dX7_read_21 : decode cX7_read 21 = .ok (.iload_n 1, 1) := by decide +kernel
theorem dX7_read_22 : decode cX7_read 22 = .ok (.putfield 72, 3) := by decide +kernel
theorem dX7_read_25 : decode cX7_read 25 = .ok (.new 141, 3) := by decide +kernel
theorem dX7_read_28 : decode cX7_read 28 = .ok (.dup, 1) := by decide +kernel
theorem dX7_read_29 : decode cX7_read 29 = .ok (.ldc_w 326, 3) := by decide +kernel
theorem dX7_read_32 : decode cX7_read 32 = .ok (.invokespecial 145, 3) := by decide +kernel
theorem dX7_read_35 : decode cX7_read 35 = .ok (.athrow, 1) := by decide +kernel
theorem dX7_read_36 : decode cX7_read 36 = .ok (.aload_n 0, 1) := by decide +kernel
theorem dX7_read_37 : decode cX7_read 37 = .ok (.getfield 16, 3) := by decide +kernel
theorem dX7_read_40 : decode cX7_read 40 = .ok (.aload_n 0, 1) := by decide +kernel
theorem dX7_read_41 : decode cX7_read 41 = .ok (.getfield 10, 3) := by decide +kernel
theorem dX7_read_44 : decode cX7_read 44 = .ok (.invokevirtual 328, 3) := by decide +kernel
theorem dX7_read_47 : decode cX7_read 47 = .ok (.iconst 0, 1) := by decide +kernel
theorem dX7_read_48 : decode cX7_read 48 = .ok (.istore_n 2, 1) := by decide +kernel
theorem dX7_read_49 : decode cX7_read 49 = .ok (.aload_n 0, 1) := by decide +kernel
theorem dX7_read_50 : decode cX7_read 50 = .ok (.getfield 57, 3) := by decide +kernel
theorem dX7_read_53 : decode cX7_read 53 = .ok (.invokevirtual 331, 3) := by decide +kernel
theorem dX7_read_56 : decode cX7_read 56 = .ok (.iconst 0, 1) := by decide +kernel
theorem dX7_read_57 : decode cX7_read 57 = .ok (.istore_n 3, 1) := by decide +kernel
theorem dX7_read_58 : decode cX7_read 58 = .ok (.iload_n 3, 1) := by decide +kernel
theorem dX7_read_59 : decode cX7_read 59 = .ok (.bipush 60, 2) := by decide +kernel
theorem dX7_read_61 : decode cX7_read 61 = .ok (.if_icmp .ge 43, 3) := by decide +kernel
theorem dX7_read_64 : decode cX7_read 64 = .ok (.iload_n 2, 1) := by decide +kernel
theorem dX7_read_65 : decode cX7_read 65 = .ok (.ifCond .ne 39, 3) := by decide +kernel
theorem dX7_read_68 : decode cX7_read 68 = .ok (.aload_n 0, 1) := by decide +kernel
theorem dX7_read_69 : decode cX7_read 69 = .ok (.getfield 57, 3) := by decide +kernel
theorem dX7_read_72 : decode cX7_read 72 = .ok (.invokevirtual 334, 3) := by decide +kernel
theorem dX7_read_75 : decode cX7_read 75 = .ok (.ifCond .eq 29, 3) := by decide +kernel
theorem dX7_read_78 : decode cX7_read 78 = .ok (.aload_n 0, 1) := by decide +kernel
theorem dX7_read_79 : decode cX7_read 79 = .ok (.invokevirtual 337, 3) := by decide +kernel
theorem dX7_read_82 : decode cX7_read 82 = .ok (.istore_n 2, 1) := by decide +kernel
theorem dX7_read_83 : decode cX7_read 83 = .ok (.iload_n 2, 1) := by decide +kernel
theorem dX7_read_84 : decode cX7_read 84 = .ok (.ifCond .ne 14, 3) := by decide +kernel
theorem dX7_read_87 : decode cX7_read 87 = .ok (.aload_n 0, 1) := by decide +kernel
theorem dX7_read_88 : decode cX7_read 88 = .ok (.invokevirtual 340, 3) := by decide +kernel
theorem dX7_read_91 : decode cX7_read 91 = .ok (.aload_n 0, 1) := by decide +kernel
theorem dX7_read_92 : decode cX7_read 92 = .ok (.getfield 57, 3) := by decide +kernel
theorem dX7_read_95 : decode cX7_read 95 = .ok (.invokevirtual 343, 3) := by decide +kernel
theorem dX7_read_98 : decode cX7_read 98 = .ok (.iinc 3 1, 3) := by decide +kernel
theorem dX7_read_101 : decode cX7_read 101 = .ok (.goto (-43), 3) := by decide +kernel
theorem dX7_read_104 : decode cX7_read 104 = .ok (.aload_n 0, 1) := by decide +kernel
theorem dX7_read_105 : decode cX7_read 105 = .ok (.getfield 57, 3) := by decide +kernel
theorem dX7_read_108 : decode cX7_read 108 = .ok (.invokevirtual 325, 3) := by decide +kernel
theorem dX7_read_111 : decode cX7_read 111 = .ok (.iload_n 2, 1) := by decide +kernel
theorem dX7_read_112 : decode cX7_read 112 = .ok (.ifCond .eq 42, 3) := by decide +kernel
theorem dX7_read_115 : decode cX7_read 115 = .ok (.aload_n 0, 1) := by decide +kernel
theorem dX7_read_116 : decode cX7_read 116 = .ok (.getfield 10, 3) := by decide +kernel
theorem dX7_read_119 : decode cX7_read 119 = .ok (.aload_n 0, 1) := by decide +kernel
theorem dX7_read_120 : decode cX7_read 120 = .ok (.getfield 16, 3) := by decide +kernel
theorem dX7_read_123 : decode cX7_read 123 = .ok (.invokevirtual 328, 3) := by decide +kernel
theorem dX7_read_126 : decode cX7_read 126 = .ok (.aload_n 0, 1) := by decide +kernel
theorem dX7_read_127 : decode cX7_read 127 = .ok (.iload_n 2, 1) := by decide +kernel
theorem dX7_read_128 : decode cX7_read 128 = .ok (.invokevirtual 346, 3) := by decide +kernel
theorem dX7_read_131 : decode cX7_read 131 = .ok (.aload_n 0, 1) := by decide +kernel
theorem dX7_read_132 : decode cX7_read 132 = .ok (.iload_n 2, 1) := by decide +kernel
theorem dX7_read_133 : decode cX7_read 133 = .ok (.aload_n 0, 1) := by decide +kernel
theorem dX7_read_134 : decode cX7_read 134 = .ok (.getfield 57, 3) := by decide +kernel
theorem dX7_read_137 : decode cX7_read 137 = .ok (.invokevirtual 349, 3) := by decide +kernel
theorem dX7_read_140 : decode cX7_read 140 = .ok (.invokevirtual 352, 3) := by decide +kernel
theorem dX7_read_143 : decode cX7_read 143 = .ok (.new 355, 3) := by decide +kernel
theorem dX7_read_146 : decode cX7_read 146 = .ok (.dup, 1) := by decide +kernel
theorem dX7_read_147 : decode cX7_read 147 = .ok (.ldc_w 357, 3) := by decide +kernel
theorem dX7_read_150 : decode cX7_read 150 = .ok (.invokespecial 359, 3) := by decide +kernel
theorem dX7_read_153 : decode cX7_read 153 = .ok (.athrow, 1) := by decide +kernel
theorem dX7_read_154 : decode cX7_read 154 = .ok (.aload_n 0, 1) := by decide +kernel
theorem dX7_read_155 : decode cX7_read 155 = .ok (.getfield 25, 3) := by decide +kernel
theorem dX7_read_158 : decode cX7_read 158 = .ok (.aload_n 0, 1) := by decide +kernel
theorem dX7_read_159 : decode cX7_read 159 = .ok (.getfield 16, 3) := by decide +kernel
theorem dX7_read_162 : decode cX7_read 162 = .ok (.invokevirtual 96, 3) := by decide +kernel
theorem dX7_read_165 : decode cX7_read 165 = .ok (.aload_n 0, 1) := by decide +kernel
theorem dX7_read_166 : decode cX7_read 166 = .ok (.getfield 57, 3) := by decide +kernel
theorem dX7_read_169 : decode cX7_read 169 = .ok (.invokevirtual 349, 3) := by decide +kernel
theorem dX7_read_172 : decode cX7_read 172 = .ok (.ireturn, 1) := by decide +kernel
theorem dX7_undo_0 : decode cX7_undo 0 = .ok (.aload_n 0, 1) := by decide +kernel
theorem dX7_undo_1 : decode cX7_undo 1 = .ok (.getfield 25, 3) := by decide +kernel
theorem dX7_undo_4 : decode cX7_undo 4 = .ok (.invokevirtual 309, 3) := by decide +kernel
theorem dX7_undo_7 : decode cX7_undo 7 = .ok (.ifCond .ne 14, 3) := by decide +kernel
theorem dX7_undo_10 : decode cX7_undo 10 = .ok (.new 173, 3) := by decide +kernel
theorem dX7_undo_13 : decode cX7_undo 13 = .ok (.dup, 1) := by decide +kernel
theorem dX7_undo_14 : decode cX7_undo 14 = .ok (.ldc_w 366, 3) := by decide +kernel
theorem dX7_undo_17 : decode cX7_undo 17 = .ok (.invokespecial 177, 3) := by decide +kernel
theorem dX7_undo_20 : decode cX7_undo 20 = .ok (.athrow, 1) := by decide +kernel
theorem dX7_undo_21 : decode cX7_undo 21 = .ok (.aload_n 0, 1) := by decide +kernel
theorem dX7_undo_22 : decode cX7_undo 22 = .ok (.getfield 25, 3) := by decide +kernel
theorem dX7_undo_25 : decode cX7_undo 25 = .ok (.aload_n 0, 1) := by decide +kernel
theorem dX7_undo_26 : decode cX7_undo 26 = .ok (.getfield 10, 3) := by decide +kernel
theorem dX7_undo_29 : decode cX7_undo 29 = .ok (.invokevirtual 368, 3) := by decide +kernel
theorem dX7_undo_32 : decode cX7_undo 32 = .ok (.aload_n 0, 1) := by decide +kernel
theorem dX7_undo_33 : decode cX7_undo 33 = .ok (.getfield 25, 3) := by decide +kernel
theorem dX7_undo_36 : decode cX7_undo 36 = .ok (.invokevirtual 309, 3) := by decide +kernel
theorem dX7_undo_39 : decode cX7_undo 39 = .ok (.ireturn, 1) := by decide +kernel
theorem dX7_save_0 : decode cX7_save 0 = .ok (.aload_n 0, 1) := by decide +kernel
theorem dX7_save_1 : decode cX7_save 1 = .ok (.getfield 19, 3) := by decide +kernel
theorem dX7_save_4 : decode cX7_save 4 = .ok (.aload_n 0, 1) := by decide +kernel
theorem dX7_save_5 : decode cX7_save 5 = .ok (.getfield 10, 3) := by decide +kernel
theorem dX7_save_8 : decode cX7_save 8 = .ok (.invokevirtual 328, 3) := by decide +kernel
theorem dX7_save_11 : decode cX7_save 11 = .ok (.aload_n 0, 1) := by decide +kernel
theorem dX7_save_12 : decode cX7_save 12 = .ok (.iconst 1, 1) := by decide +kernel
theorem dX7_save_13 : decode cX7_save 13 = .ok (.putfield 68, 3) := by decide +kernel
theorem dX7_save_16 : decode cX7_save 16 = .ok (.aload_n 0, 1) := by decide +kernel
theorem dX7_save_17 : decode cX7_save 17 = .ok (.getfield 10, 3) := by decide +kernel
theorem dX7_save_20 : decode cX7_save 20 = .ok (.iconst 1, 1) := by decide +kernel
theorem dX7_save_21 : decode cX7_save 21 = .ok (.invokevirtual 235, 3) := by decide +kernel
theorem dX7_save_24 : decode cX7_save 24 = .ok (.ireturn, 1) := by decide +kernel
theorem dX7_restore_0 : decode cX7_restore 0 = .ok (.aload_n 0, 1) := by decide +kernel
theorem dX7_restore_1 : decode cX7_restore 1 = .ok (.getfield 68, 3) := by decide +kernel
theorem dX7_restore_4 : decode cX7_restore 4 = .ok (.ifCond .ne 14, 3) := by decide +kernel
theorem dX7_restore_7 : decode cX7_restore 7 = .ok (.new 314, 3) := by decide +kernel
theorem dX7_restore_10 : decode cX7_restore 10 = .ok (.dup, 1) := by decide +kernel
theorem dX7_restore_11 : decode cX7_restore 11 = .ok (.ldc_w 371, 3) := by decide +kernel
theorem dX7_restore_14 : decode cX7_restore 14 = .ok (.invokespecial 318, 3) := by decide +kernel
theorem dX7_restore_17 : decode cX7_restore 17 = .ok (.athrow, 1) := by decide +kernel
theorem dX7_restore_18 : decode cX7_restore 18 = .ok (.aload_n 0, 1) := by decide +kernel
theorem dX7_restore_19 : decode cX7_restore 19 = .ok (.getfield 10, 3) := by decide +kernel
theorem dX7_restore_22 : decode cX7_restore 22 = .ok (.aload_n 0, 1) := by decide +kernel
theorem dX7_restore_23 : decode cX7_restore 23 = .ok (.getfield 19, 3) := by decide +kernel
theorem dX7_restore_26 : decode cX7_restore 26 = .ok (.invokevirtual 328, 3) := by decide +kernel
theorem dX7_restore_29 : decode cX7_restore 29 = .ok (.aload_n 0, 1) := by decide +kernel
theorem dX7_restore_30 : decode cX7_restore 30 = .ok (.getfield 25, 3) := by decide +kernel
theorem dX7_restore_33 : decode cX7_restore 33 = .ok (.invokevirtual 373, 3) := by decide +kernel
theorem dX7_restore_36 : decode cX7_restore 36 = .ok (.aload_n 0, 1) := by decide +kernel
theorem dX7_restore_37 : decode cX7_restore 37 = .ok (.getfield 10, 3) := by decide +kernel
theorem dX7_restore_40 : decode cX7_restore 40 = .ok (.iconst 1, 1) := by decide +kernel
theorem dX7_restore_41 : decode cX7_restore 41 = .ok (.invokevirtual 235, 3) := by decide +kernel
theorem dX7_restore_44 : decode cX7_restore 44 = .ok (.ireturn, 1) := by decide +kernel
theorem dX7_demandThere_0 : decode cX7_demandThere 0 = .ok (.iload_n 1, 1) := by decide +kernel
theorem dX7_demandThere_1 : decode cX7_demandThere 1 = .ok (.iconst (-1), 1) := by decide +kernel
theorem dX7_demandThere_2 : decode cX7_demandThere 2 = .ok (.if_icmp .ne 14, 3) := by decide +kernel
theorem dX7_demandThere_5 : decode cX7_demandThere 5 = .ok (.new 265, 3) := by decide +kernel
theorem dX7_demandThere_8 : decode cX7_demandThere 8 = .ok (.dup, 1) := by decide +kernel
theorem dX7_demandThere_9 : decode cX7_demandThere 9 = .ok (.ldc_w 376, 3) := by decide +kernel
theorem dX7_demandThere_12 : decode cX7_demandThere 12 = .ok (.invokespecial 269, 3) := by decide +kernel
theorem dX7_demandThere_15 : decode cX7_demandThere 15 = .ok (.athrow, 1) := by decide +kernel
theorem dX7_demandThere_16 : decode cX7_demandThere 16 = .ok (.return_, 1) := by decide +kernel
theorem dX7_demandRange_0 : decode cX7_demandRange 0 = .ok (.iload_n 1, 1) := by decide +kernel
theorem dX7_demandRange_1 : decode cX7_demandRange 1 = .ok (.bipush (-2), 2) := by decide +kernel
theorem dX7_demandRange_3 : decode cX7_demandRange 3 = .ok (.if_icmp .ne 14, 3) := by decide +kernel
theorem dX7_demandRange_6 : decode cX7_demandRange 6 = .ok (.new 141, 3) := by decide +kernel
theorem dX7_demandRange_9 : decode cX7_demandRange 9 = .ok (.dup, 1) := by decide +kernel
theorem dX7_demandRange_10 : decode cX7_demandRange 10 = .ok (.ldc_w 378, 3) := by decide +kernel
theorem dX7_demandRange_13 : decode cX7_demandRange 13 = .ok (.invokespecial 145, 3) := by decide +kernel
theorem dX7_demandRange_16 : decode cX7_demandRange 16 = .ok (.athrow, 1) := by decide +kernel
theorem dX7_demandRange_17 : decode cX7_demandRange 17 = .ok (.return_, 1) := by decide +kernel
theorem dX7_demandAllowed_0 : decode cX7_demandAllowed 0 = .ok (.iload_n 1, 1) := by decide +kernel
theorem dX7_demandAllowed_1 : decode cX7_demandAllowed 1 = .ok (.ifCond .le 20, 3) := by decide +kernel
theorem dX7_demandAllowed_4 : decode cX7_demandAllowed 4 = .ok (.aload_n 0, 1) := by decide +kernel
theorem dX7_demandAllowed_5 : decode cX7_demandAllowed 5 = .ok (.iload_n 1, 1) := by decide +kernel
theorem dX7_demandAllowed_6 : decode cX7_demandAllowed 6 = .ok (.iconst (-1), 1) := by decide +kernel
theorem dX7_demandAllowed_7 : decode cX7_demandAllowed 7 = .ok (.invokevirtual 352, 3) := by decide +kernel
theorem dX7_demandAllowed_10 : decode cX7_demandAllowed 10 = .ok (.new 355, 3) := by decide +kernel
theorem dX7_demandAllowed_13 : decode cX7_demandAllowed 13 = .ok (.dup, 1) := by decide +kernel
theorem dX7_demandAllowed_14 : decode cX7_demandAllowed 14 = .ok (.ldc_w 380, 3) := by decide +kernel
theorem dX7_demandAllowed_17 : decode cX7_demandAllowed 17 = .ok (.invokespecial 359, 3) := by decide +kernel
theorem dX7_demandAllowed_20 : decode cX7_demandAllowed 20 = .ok (.athrow, 1) := by decide +kernel
theorem dX7_demandAllowed_21 : decode cX7_demandAllowed 21 = .ok (.return_, 1) := by decide +kernel
theorem dX7_demandKnown_0 : decode cX7_demandKnown 0 = .ok (.iload_n 1, 1) := by decide +kernel
theorem dX7_demandKnown_1 : decode cX7_demandKnown 1 = .ok (.iconst (-1), 1) := by decide +kernel
theorem dX7_demandKnown_2 : decode cX7_demandKnown 2 = .ok (.if_icmp .eq 9, 3) := by decide +kernel
theorem dX7_demandKnown_5 : decode cX7_demandKnown 5 = .ok (.iload_n 1, 1) := by decide +kernel
theorem dX7_demandKnown_6 : decode cX7_demandKnown 6 = .ok (.bipush (-2), 2) := by decide +kernel
theorem dX7_demandKnown_8 : decode cX7_demandKnown 8 = .ok (.if_icmp .ne 14, 3) := by decide +kernel
theorem dX7_demandKnown_11 : decode cX7_demandKnown 11 = .ok (.new 314, 3) := by decide +kernel
theorem dX7_demandKnown_14 : decode cX7_demandKnown 14 = .ok (.dup, 1) := by decide +kernel
theorem dX7_demandKnown_15 : decode cX7_demandKnown 15 = .ok (.ldc_w 382, 3) := by decide +kernel
theorem dX7_demandKnown_18 : decode cX7_demandKnown 18 = .ok (.invokespecial 318, 3) := by decide +kernel
theorem dX7_demandKnown_21 : decode cX7_demandKnown 21 = .ok (.athrow, 1) := by decide +kernel
theorem dX7_demandKnown_22 : decode cX7_demandKnown 22 = .ok (.return_, 1) := by decide +kernel
theorem dX7_demandWhale_0 : decode cX7_demandWhale 0 = .ok (.aload_n 0, 1) := by decide +kernel
theorem dX7_demandWhale_1 : decode cX7_demandWhale 1 = .ok (.getfield 10, 3) := by decide +kernel
theorem dX7_demandWhale_4 : decode cX7_demandWhale 4 = .ok (.iload_n 1, 1) := by decide +kernel
theorem dX7_demandWhale_5 : decode cX7_demandWhale 5 = .ok (.invokevirtual 384, 3) := by decide +kernel
theorem dX7_demandWhale_8 : decode cX7_demandWhale 8 = .ok (.ifCond .ne 14, 3) := by decide +kernel
theorem dX7_demandWhale_11 : decode cX7_demandWhale 11 = .ok (.new 265, 3) := by decide +kernel
theorem dX7_demandWhale_14 : decode cX7_demandWhale 14 = .ok (.dup, 1) := by decide +kernel
theorem dX7_demandWhale_15 : decode cX7_demandWhale 15 = .ok (.ldc_w 387, 3) := by decide +kernel
theorem dX7_demandWhale_18 : decode cX7_demandWhale 18 = .ok (.invokespecial 269, 3) := by decide +kernel
theorem dX7_demandWhale_21 : decode cX7_demandWhale 21 = .ok (.athrow, 1) := by decide +kernel
theorem dX7_demandWhale_22 : decode cX7_demandWhale 22 = .ok (.return_, 1) := by decide +kernel
theorem dX7_demandCell_0 : decode cX7_demandCell 0 = .ok (.iload_n 1, 1) := by decide +kernel
theorem dX7_demandCell_1 : decode cX7_demandCell 1 = .ok (.invokestatic 389, 3) := by decide +kernel
theorem dX7_demandCell_4 : decode cX7_demandCell 4 = .ok (.ifCond .ne 14, 3) := by decide +kernel
theorem dX7_demandCell_7 : decode cX7_demandCell 7 = .ok (.new 265, 3) := by decide +kernel
theorem dX7_demandCell_10 : decode cX7_demandCell 10 = .ok (.dup, 1) := by decide +kernel
theorem dX7_demandCell_11 : decode cX7_demandCell 11 = .ok (.ldc_w 392, 3) := by decide +kernel
theorem dX7_demandCell_14 : decode cX7_demandCell 14 = .ok (.invokespecial 269, 3) := by decide +kernel
theorem dX7_demandCell_17 : decode cX7_demandCell 17 = .ok (.athrow, 1) := by decide +kernel
theorem dX7_demandCell_18 : decode cX7_demandCell 18 = .ok (.return_, 1) := by decide +kernel
theorem dX7_demandClock_0 : decode cX7_demandClock 0 = .ok (.iload_n 1, 1) := by decide +kernel
theorem dX7_demandClock_1 : decode cX7_demandClock 1 = .ok (.ifCond .lt 10, 3) := by decide +kernel
theorem dX7_demandClock_4 : decode cX7_demandClock 4 = .ok (.iload_n 1, 1) := by decide +kernel
theorem dX7_demandClock_5 : decode cX7_demandClock 5 = .ok (.sipush 999, 3) := by decide +kernel
theorem dX7_demandClock_8 : decode cX7_demandClock 8 = .ok (.if_icmp .le 14, 3) := by decide +kernel
theorem dX7_demandClock_11 : decode cX7_demandClock 11 = .ok (.new 141, 3) := by decide +kernel
theorem dX7_demandClock_14 : decode cX7_demandClock 14 = .ok (.dup, 1) := by decide +kernel
theorem dX7_demandClock_15 : decode cX7_demandClock 15 = .ok (.ldc_w 394, 3) := by decide +kernel
theorem dX7_demandClock_18 : decode cX7_demandClock 18 = .ok (.invokespecial 145, 3) := by decide +kernel
theorem dX7_demandClock_21 : decode cX7_demandClock 21 = .ok (.athrow, 1) := by decide +kernel
theorem dX7_demandClock_22 : decode cX7_demandClock 22 = .ok (.return_, 1) := by decide +kernel
theorem dX7_demandTeam_0 : decode cX7_demandTeam 0 = .ok (.iload_n 1, 1) := by decide +kernel
theorem dX7_demandTeam_1 : decode cX7_demandTeam 1 = .ok (.invokestatic 396, 3) := by decide +kernel
theorem dX7_demandTeam_4 : decode cX7_demandTeam 4 = .ok (.ifCond .ne 14, 3) := by decide +kernel
theorem dX7_demandTeam_7 : decode cX7_demandTeam 7 = .ok (.new 141, 3) := by decide +kernel
theorem dX7_demandTeam_10 : decode cX7_demandTeam 10 = .ok (.dup, 1) := by decide +kernel
theorem dX7_demandTeam_11 : decode cX7_demandTeam 11 = .ok (.ldc_w 399, 3) := by decide +kernel
theorem dX7_demandTeam_14 : decode cX7_demandTeam 14 = .ok (.invokespecial 145, 3) := by decide +kernel
theorem dX7_demandTeam_17 : decode cX7_demandTeam 17 = .ok (.athrow, 1) := by decide +kernel
theorem dX7_demandTeam_18 : decode cX7_demandTeam 18 = .ok (.return_, 1) := by decide +kernel
theorem dX7_demandStrike_0 : decode cX7_demandStrike 0 = .ok (.iload_n 1, 1) := by decide +kernel
theorem dX7_demandStrike_1 : decode cX7_demandStrike 1 = .ok (.invokestatic 401, 3) := by decide +kernel
theorem dX7_demandStrike_4 : decode cX7_demandStrike 4 = .ok (.ifCond .eq 10, 3) := by decide +kernel
theorem dX7_demandStrike_7 : decode cX7_demandStrike 7 = .ok (.iload_n 2, 1) := by decide +kernel
theorem dX7_demandStrike_8 : decode cX7_demandStrike 8 = .ok (.invokestatic 404, 3) := by decide +kernel
theorem dX7_demandStrike_11 : decode cX7_demandStrike 11 = .ok (.ifCond .ne 14, 3) := by decide +kernel
theorem dX7_demandStrike_14 : decode cX7_demandStrike 14 = .ok (.new 141, 3) := by decide +kernel
theorem dX7_demandStrike_17 : decode cX7_demandStrike 17 = .ok (.dup, 1) := by decide +kernel
theorem dX7_demandStrike_18 : decode cX7_demandStrike 18 = .ok (.ldc_w 407, 3) := by decide +kernel
theorem dX7_demandStrike_21 : decode cX7_demandStrike 21 = .ok (.invokespecial 145, 3) := by decide +kernel
theorem dX7_demandStrike_24 : decode cX7_demandStrike 24 = .ok (.athrow, 1) := by decide +kernel
theorem dX7_demandStrike_25 : decode cX7_demandStrike 25 = .ok (.return_, 1) := by decide +kernel
theorem dX7_keepReason_0 : decode cX7_keepReason 0 = .ok (.aload_n 0, 1) := by decide +kernel
theorem dX7_keepReason_1 : decode cX7_keepReason 1 = .ok (.iload_n 1, 1) := by decide +kernel
theorem dX7_keepReason_2 : decode cX7_keepReason 2 = .ok (.putfield 76, 3) := by decide +kernel
theorem dX7_keepReason_5 : decode cX7_keepReason 5 = .ok (.aload_n 0, 1) := by decide +kernel
theorem dX7_keepReason_6 : decode cX7_keepReason 6 = .ok (.aload_n 0, 1) := by decide +kernel
theorem dX7_keepReason_7 : decode cX7_keepReason 7 = .ok (.getfield 50, 3) := by decide +kernel
theorem dX7_keepReason_10 : decode cX7_keepReason 10 = .ok (.invokevirtual 411, 3) := by decide +kernel
theorem dX7_keepReason_13 : decode cX7_keepReason 13 = .ok (.putfield 79, 3) := by decide +kernel
theorem dX7_keepReason_16 : decode cX7_keepReason 16 = .ok (.aload_n 0, 1) := by decide +kernel
theorem dX7_keepReason_17 : decode cX7_keepReason 17 = .ok (.iload_n 2, 1) := by decide +kernel
theorem dX7_keepReason_18 : decode cX7_keepReason 18 = .ok (.putfield 82, 3) := by decide +kernel
theorem dX7_keepReason_21 : decode cX7_keepReason 21 = .ok (.return_, 1) := by decide +kernel
theorem dX7_moveWhale_0 : decode cX7_moveWhale 0 = .ok (.aload_n 0, 1) := by decide +kernel
theorem dX7_moveWhale_1 : decode cX7_moveWhale 1 = .ok (.getfield 34, 3) := by decide +kernel
theorem dX7_moveWhale_4 : decode cX7_moveWhale 4 = .ok (.iload_n 1, 1) := by decide +kernel
theorem dX7_moveWhale_5 : decode cX7_moveWhale 5 = .ok (.invokevirtual 181, 3) := by decide +kernel
theorem dX7_moveWhale_8 : decode cX7_moveWhale 8 = .ok (.aload_n 0, 1) := by decide +kernel
theorem dX7_moveWhale_9 : decode cX7_moveWhale 9 = .ok (.getfield 10, 3) := by decide +kernel
theorem dX7_moveWhale_12 : decode cX7_moveWhale 12 = .ok (.iload_n 1, 1) := by decide +kernel
theorem dX7_moveWhale_13 : decode cX7_moveWhale 13 = .ok (.iload_n 2, 1) := by decide +kernel
theorem dX7_moveWhale_14 : decode cX7_moveWhale 14 = .ok (.aload_n 0, 1) := by decide +kernel
theorem dX7_moveWhale_15 : decode cX7_moveWhale 15 = .ok (.getfield 34, 3) := by decide +kernel
theorem dX7_moveWhale_18 : decode cX7_moveWhale 18 = .ok (.iload_n 2, 1) := by decide +kernel
theorem dX7_moveWhale_19 : decode cX7_moveWhale 19 = .ok (.invokevirtual 184, 3) := by decide +kernel
theorem dX7_moveWhale_22 : decode cX7_moveWhale 22 = .ok (.invokevirtual 414, 3) := by decide +kernel
theorem dX7_moveWhale_25 : decode cX7_moveWhale 25 = .ok (.ireturn, 1) := by decide +kernel
theorem dX7_hitBuoy_0 : decode cX7_hitBuoy 0 = .ok (.aload_n 0, 1) := by decide +kernel
theorem dX7_hitBuoy_1 : decode cX7_hitBuoy 1 = .ok (.getfield 10, 3) := by decide +kernel
theorem dX7_hitBuoy_4 : decode cX7_hitBuoy 4 = .ok (.iload_n 1, 1) := by decide +kernel
theorem dX7_hitBuoy_5 : decode cX7_hitBuoy 5 = .ok (.invokevirtual 224, 3) := by decide +kernel
theorem dX7_hitBuoy_8 : decode cX7_hitBuoy 8 = .ok (.istore 4, 2) := by decide +kernel
theorem dX7_hitBuoy_10 : decode cX7_hitBuoy 10 = .ok (.aload_n 0, 1) := by decide +kernel
theorem dX7_hitBuoy_11 : decode cX7_hitBuoy 11 = .ok (.getfield 41, 3) := by decide +kernel
theorem dX7_hitBuoy_14 : decode cX7_hitBuoy 14 = .ok (.iload_n 1, 1) := by decide +kernel
theorem dX7_hitBuoy_15 : decode cX7_hitBuoy 15 = .ok (.iload_n 2, 1) := by decide +kernel
theorem dX7_hitBuoy_16 : decode cX7_hitBuoy 16 = .ok (.iload_n 3, 1) := by decide +kernel
theorem dX7_hitBuoy_17 : decode cX7_hitBuoy 17 = .ok (.invokevirtual 417, 3) := by decide +kernel
theorem dX7_hitBuoy_20 : decode cX7_hitBuoy 20 = .ok (.istore 5, 2) := by decide +kernel
theorem dX7_hitBuoy_22 : decode cX7_hitBuoy 22 = .ok (.aload_n 0, 1) := by decide +kernel
theorem dX7_hitBuoy_23 : decode cX7_hitBuoy 23 = .ok (.getfield 10, 3) := by decide +kernel
theorem dX7_hitBuoy_26 : decode cX7_hitBuoy 26 = .ok (.iload_n 1, 1) := by decide +kernel
theorem dX7_hitBuoy_27 : decode cX7_hitBuoy 27 = .ok (.iload 5, 2) := by decide +kernel
theorem dX7_hitBuoy_29 : decode cX7_hitBuoy 29 = .ok (.aload_n 0, 1) := by decide +kernel
theorem dX7_hitBuoy_30 : decode cX7_hitBuoy 30 = .ok (.getfield 41, 3) := by decide +kernel
theorem dX7_hitBuoy_33 : decode cX7_hitBuoy 33 = .ok (.invokevirtual 420, 3) := by decide +kernel
theorem dX7_hitBuoy_36 : decode cX7_hitBuoy 36 = .ok (.iload 4, 2) := by decide +kernel
theorem dX7_hitBuoy_38 : decode cX7_hitBuoy 38 = .ok (.invokevirtual 423, 3) := by decide +kernel
theorem dX7_hitBuoy_41 : decode cX7_hitBuoy 41 = .ok (.ireturn, 1) := by decide +kernel
theorem dX7_faultOfCommand_0 : decode cX7_faultOfCommand 0 = .ok (.aload_n 0, 1) := by decide +kernel
theorem dX7_faultOfCommand_1 : decode cX7_faultOfCommand 1 = .ok (.getfield 57, 3) := by decide +kernel
theorem dX7_faultOfCommand_4 : decode cX7_faultOfCommand 4 = .ok (.iconst 0, 1) := by decide +kernel
theorem dX7_faultOfCommand_5 : decode cX7_faultOfCommand 5 = .ok (.invokevirtual 427, 3) := by decide +kernel
theorem dX7_faultOfCommand_8 : decode cX7_faultOfCommand 8 = .ok (.istore_n 1, 1) := by decide +kernel
theorem dX7_faultOfCommand_9 : decode cX7_faultOfCommand 9 = .ok (.aload_n 0, 1) := by decide +kernel
theorem dX7_faultOfCommand_10 : decode cX7_faultOfCommand 10 = .ok (.getfield 57, 3) := by decide +kernel
theorem dX7_faultOfCommand_13 : decode cX7_faultOfCommand 13 = .ok (.iconst 1, 1) := by decide +kernel
theorem dX7_faultOfCommand_14 : decode cX7_faultOfCommand 14 = .ok (.invokevirtual 427, 3) := by decide +kernel
theorem dX7_faultOfCommand_17 : decode cX7_faultOfCommand 17 = .ok (.istore_n 2, 1) := by decide +kernel
theorem dX7_faultOfCommand_18 : decode cX7_faultOfCommand 18 = .ok (.aload_n 0, 1) := by decide +kernel
theorem dX7_faultOfCommand_19 : decode cX7_faultOfCommand 19 = .ok (.getfield 57, 3) := by decide +kernel
theorem dX7_faultOfCommand_22 : decode cX7_faultOfCommand 22 = .ok (.iconst 2, 1) := by decide +kernel
theorem dX7_faultOfCommand_23 : decode cX7_faultOfCommand 23 = .ok (.invokevirtual 427, 3) := by decide +kernel
theorem dX7_faultOfCommand_26 : decode cX7_faultOfCommand 26 = .ok (.istore_n 3, 1) := by decide +kernel
theorem dX7_faultOfCommand_27 : decode cX7_faultOfCommand 27 = .ok (.aload_n 0, 1) := by decide +kernel
theorem dX7_faultOfCommand_28 : decode cX7_faultOfCommand 28 = .ok (.getfield 57, 3) := by decide +kernel
theorem dX7_faultOfCommand_31 : decode cX7_faultOfCommand 31 = .ok (.invokevirtual 430, 3) := by decide +kernel
theorem dX7_faultOfCommand_34 : decode cX7_faultOfCommand 34 = .ok (.tableswitch 97 0 5 #[38, 49, 59, 70, 79, 89], 38) := by decide +kernel
theorem dX7_faultOfCommand_72 : decode cX7_faultOfCommand 72 = .ok (.aload_n 0, 1) := by decide +kernel
theorem dX7_faultOfCommand_73 : decode cX7_faultOfCommand 73 = .ok (.getfield 50, 3) := by decide +kernel
theorem dX7_faultOfCommand_76 : decode cX7_faultOfCommand 76 = .ok (.iload_n 1, 1) := by decide +kernel
theorem dX7_faultOfCommand_77 : decode cX7_faultOfCommand 77 = .ok (.iload_n 2, 1) := by decide +kernel
theorem dX7_faultOfCommand_78 : decode cX7_faultOfCommand 78 = .ok (.iload_n 3, 1) := by decide +kernel
theorem dX7_faultOfCommand_79 : decode cX7_faultOfCommand 79 = .ok (.invokevirtual 85, 3) := by decide +kernel
theorem dX7_faultOfCommand_82 : decode cX7_faultOfCommand 82 = .ok (.ireturn, 1) := by decide +kernel
theorem dX7_faultOfCommand_83 : decode cX7_faultOfCommand 83 = .ok (.aload_n 0, 1) := by decide +kernel
theorem dX7_faultOfCommand_84 : decode cX7_faultOfCommand 84 = .ok (.getfield 50, 3) := by decide +kernel
theorem dX7_faultOfCommand_87 : decode cX7_faultOfCommand 87 = .ok (.iload_n 1, 1) := by decide +kernel
theorem dX7_faultOfCommand_88 : decode cX7_faultOfCommand 88 = .ok (.iload_n 2, 1) := by decide +kernel
theorem dX7_faultOfCommand_89 : decode cX7_faultOfCommand 89 = .ok (.invokevirtual 112, 3) := by decide +kernel
theorem dX7_faultOfCommand_92 : decode cX7_faultOfCommand 92 = .ok (.ireturn, 1) := by decide +kernel
theorem dX7_faultOfCommand_93 : decode cX7_faultOfCommand 93 = .ok (.aload_n 0, 1) := by decide +kernel
theorem dX7_faultOfCommand_94 : decode cX7_faultOfCommand 94 = .ok (.getfield 50, 3) := by decide +kernel
theorem dX7_faultOfCommand_97 : decode cX7_faultOfCommand 97 = .ok (.iload_n 1, 1) := by decide +kernel
theorem dX7_faultOfCommand_98 : decode cX7_faultOfCommand 98 = .ok (.iload_n 2, 1) := by decide +kernel
theorem dX7_faultOfCommand_99 : decode cX7_faultOfCommand 99 = .ok (.iload_n 3, 1) := by decide +kernel
theorem dX7_faultOfCommand_100 : decode cX7_faultOfCommand 100 = .ok (.invokevirtual 118, 3) := by decide +kernel
theorem dX7_faultOfCommand_103 : decode cX7_faultOfCommand 103 = .ok (.ireturn, 1) := by decide +kernel
theorem dX7_faultOfCommand_104 : decode cX7_faultOfCommand 104 = .ok (.aload_n 0, 1) := by decide +kernel
theorem dX7_faultOfCommand_105 : decode cX7_faultOfCommand 105 = .ok (.getfield 50, 3) := by decide +kernel
theorem dX7_faultOfCommand_108 : decode cX7_faultOfCommand 108 = .ok (.iload_n 1, 1) := by decide +kernel
theorem dX7_faultOfCommand_109 : decode cX7_faultOfCommand 109 = .ok (.invokevirtual 124, 3) := by decide +kernel
theorem dX7_faultOfCommand_112 : decode cX7_faultOfCommand 112 = .ok (.ireturn, 1) := by decide +kernel
theorem dX7_faultOfCommand_113 : decode cX7_faultOfCommand 113 = .ok (.aload_n 0, 1) := by decide +kernel
theorem dX7_faultOfCommand_114 : decode cX7_faultOfCommand 114 = .ok (.getfield 50, 3) := by decide +kernel
theorem dX7_faultOfCommand_117 : decode cX7_faultOfCommand 117 = .ok (.iload_n 1, 1) := by decide +kernel
theorem dX7_faultOfCommand_118 : decode cX7_faultOfCommand 118 = .ok (.iload_n 2, 1) := by decide +kernel
theorem dX7_faultOfCommand_119 : decode cX7_faultOfCommand 119 = .ok (.invokevirtual 102, 3) := by decide +kernel
theorem dX7_faultOfCommand_122 : decode cX7_faultOfCommand 122 = .ok (.ireturn, 1) := by decide +kernel
theorem dX7_faultOfCommand_123 : decode cX7_faultOfCommand 123 = .ok (.aload_n 0, 1) := by decide +kernel
theorem dX7_faultOfCommand_124 : decode cX7_faultOfCommand 124 = .ok (.getfield 50, 3) := by decide +kernel
theorem dX7_faultOfCommand_127 : decode cX7_faultOfCommand 127 = .ok (.invokevirtual 131, 3) := by decide +kernel
theorem dX7_faultOfCommand_130 : decode cX7_faultOfCommand 130 = .ok (.ireturn, 1) := by decide +kernel
theorem dX7_faultOfCommand_131 : decode cX7_faultOfCommand 131 = .ok (.iconst (-1), 1) := by decide +kernel
theorem dX7_faultOfCommand_132 : decode cX7_faultOfCommand 132 = .ok (.ireturn, 1) := by decide +kernel
theorem dX7_performCommand_0 : decode cX7_performCommand 0 = .ok (.aload_n 0, 1) := by decide +kernel
theorem dX7_performCommand_1 : decode cX7_performCommand 1 = .ok (.getfield 57, 3) := by decide +kernel
theorem dX7_performCommand_4 : decode cX7_performCommand 4 = .ok (.iconst 0, 1) := by decide +kernel
theorem dX7_performCommand_5 : decode cX7_performCommand 5 = .ok (.invokevirtual 427, 3) := by decide +kernel
theorem dX7_performCommand_8 : decode cX7_performCommand 8 = .ok (.istore_n 1, 1) := by decide +kernel
theorem dX7_performCommand_9 : decode cX7_performCommand 9 = .ok (.aload_n 0, 1) := by decide +kernel
theorem dX7_performCommand_10 : decode cX7_performCommand 10 = .ok (.getfield 57, 3) := by decide +kernel
theorem dX7_performCommand_13 : decode cX7_performCommand 13 = .ok (.iconst 1, 1) := by decide +kernel
theorem dX7_performCommand_14 : decode cX7_performCommand 14 = .ok (.invokevirtual 427, 3) := by decide +kernel
theorem dX7_performCommand_17 : decode cX7_performCommand 17 = .ok (.istore_n 2, 1) := by decide +kernel
theorem dX7_performCommand_18 : decode cX7_performCommand 18 = .ok (.aload_n 0, 1) := by decide +kernel
theorem dX7_performCommand_19 : decode cX7_performCommand 19 = .ok (.getfield 57, 3) := by decide +kernel
theorem dX7_performCommand_22 : decode cX7_performCommand 22 = .ok (.iconst 2, 1) := by decide +kernel
theorem dX7_performCommand_23 : decode cX7_performCommand 23 = .ok (.invokevirtual 427, 3) := by decide +kernel
theorem dX7_performCommand_26 : decode cX7_performCommand 26 = .ok (.istore_n 3, 1) := by decide +kernel
theorem dX7_performCommand_27 : decode cX7_performCommand 27 = .ok (.aload_n 0, 1) := by decide +kernel
theorem dX7_performCommand_28 : decode cX7_performCommand 28 = .ok (.getfield 57, 3) := by decide +kernel
theorem dX7_performCommand_31 : decode cX7_performCommand 31 = .ok (.invokevirtual 430, 3) := by decide +kernel
theorem dX7_performCommand_34 : decode cX7_performCommand 34 = .ok (.tableswitch 94 0 4 #[34, 48, 58, 69, 81], 34) := by decide +kernel
theorem dX7_performCommand_68 : decode cX7_performCommand 68 = .ok (.aload_n 0, 1) := by decide +kernel
theorem dX7_performCommand_69 : decode cX7_performCommand 69 = .ok (.getfield 10, 3) := by decide +kernel
theorem dX7_performCommand_72 : decode cX7_performCommand 72 = .ok (.iload_n 1, 1) := by decide +kernel
theorem dX7_performCommand_73 : decode cX7_performCommand 73 = .ok (.iload_n 2, 1) := by decide +kernel
theorem dX7_performCommand_74 : decode cX7_performCommand 74 = .ok (.iload_n 3, 1) := by decide +kernel
theorem dX7_performCommand_75 : decode cX7_performCommand 75 = .ok (.invokevirtual 99, 3) := by decide +kernel
theorem dX7_performCommand_78 : decode cX7_performCommand 78 = .ok (.pop, 1) := by decide +kernel
theorem dX7_performCommand_79 : decode cX7_performCommand 79 = .ok (.goto 57, 3) := by decide +kernel
theorem dX7_performCommand_82 : decode cX7_performCommand 82 = .ok (.aload_n 0, 1) := by decide +kernel
theorem dX7_performCommand_83 : decode cX7_performCommand 83 = .ok (.iload_n 1, 1) := by decide +kernel
theorem dX7_performCommand_84 : decode cX7_performCommand 84 = .ok (.iload_n 2, 1) := by decide +kernel
theorem dX7_performCommand_85 : decode cX7_performCommand 85 = .ok (.invokevirtual 115, 3) := by decide +kernel
theorem dX7_performCommand_88 : decode cX7_performCommand 88 = .ok (.pop, 1) := by decide +kernel
theorem dX7_performCommand_89 : decode cX7_performCommand 89 = .ok (.goto 47, 3) := by decide +kernel
theorem dX7_performCommand_92 : decode cX7_performCommand 92 = .ok (.aload_n 0, 1) := by decide +kernel
theorem dX7_performCommand_93 : decode cX7_performCommand 93 = .ok (.iload_n 1, 1) := by decide +kernel
theorem dX7_performCommand_94 : decode cX7_performCommand 94 = .ok (.iload_n 2, 1) := by decide +kernel
theorem dX7_performCommand_95 : decode cX7_performCommand 95 = .ok (.iload_n 3, 1) := by decide +kernel
theorem dX7_performCommand_96 : decode cX7_performCommand 96 = .ok (.invokevirtual 121, 3) := by decide +kernel
theorem dX7_performCommand_99 : decode cX7_performCommand 99 = .ok (.pop, 1) := by decide +kernel
theorem dX7_performCommand_100 : decode cX7_performCommand 100 = .ok (.goto 36, 3) := by decide +kernel
theorem dX7_performCommand_103 : decode cX7_performCommand 103 = .ok (.aload_n 0, 1) := by decide +kernel
theorem dX7_performCommand_104 : decode cX7_performCommand 104 = .ok (.getfield 10, 3) := by decide +kernel
theorem dX7_performCommand_107 : decode cX7_performCommand 107 = .ok (.iload_n 1, 1) := by decide +kernel
theorem dX7_performCommand_108 : decode cX7_performCommand 108 = .ok (.invokevirtual 128, 3) := by decide +kernel
theorem dX7_performCommand_111 : decode cX7_performCommand 111 = .ok (.pop, 1) := by decide +kernel
theorem dX7_performCommand_112 : decode cX7_performCommand 112 = .ok (.goto 24, 3) := by decide +kernel
theorem dX7_performCommand_115 : decode cX7_performCommand 115 = .ok (.aload_n 0, 1) := by decide +kernel
theorem dX7_performCommand_116 : decode cX7_performCommand 116 = .ok (.getfield 10, 3) := by decide +kernel
theorem dX7_performCommand_119 : decode cX7_performCommand 119 = .ok (.iload_n 1, 1) := by decide +kernel
theorem dX7_performCommand_120 : decode cX7_performCommand 120 = .ok (.iload_n 2, 1) := by decide +kernel
theorem dX7_performCommand_121 : decode cX7_performCommand 121 = .ok (.invokevirtual 109, 3) := by decide +kernel
theorem dX7_performCommand_124 : decode cX7_performCommand 124 = .ok (.pop, 1) := by decide +kernel
theorem dX7_performCommand_125 : decode cX7_performCommand 125 = .ok (.goto 11, 3) := by decide +kernel
theorem dX7_performCommand_128 : decode cX7_performCommand 128 = .ok (.aload_n 0, 1) := by decide +kernel
theorem dX7_performCommand_129 : decode cX7_performCommand 129 = .ok (.getfield 10, 3) := by decide +kernel
theorem dX7_performCommand_132 : decode cX7_performCommand 132 = .ok (.invokevirtual 135, 3) := by decide +kernel
theorem dX7_performCommand_135 : decode cX7_performCommand 135 = .ok (.pop, 1) := by decide +kernel
theorem dX7_performCommand_136 : decode cX7_performCommand 136 = .ok (.return_, 1) := by decide +kernel
theorem dX7_bestStrike_0 : decode cX7_bestStrike 0 = .ok (.aload_n 0, 1) := by decide +kernel
theorem dX7_bestStrike_1 : decode cX7_bestStrike 1 = .ok (.getfield 10, 3) := by decide +kernel
theorem dX7_bestStrike_4 : decode cX7_bestStrike 4 = .ok (.iload_n 1, 1) := by decide +kernel
theorem dX7_bestStrike_5 : decode cX7_bestStrike 5 = .ok (.iconst 0, 1) := by decide +kernel
theorem dX7_bestStrike_6 : decode cX7_bestStrike 6 = .ok (.invokevirtual 148, 3) := by decide +kernel
theorem dX7_bestStrike_9 : decode cX7_bestStrike 9 = .ok (.istore_n 2, 1) := by decide +kernel
theorem dX7_bestStrike_10 : decode cX7_bestStrike 10 = .ok (.iconst (-1), 1) := by decide +kernel
theorem dX7_bestStrike_11 : decode cX7_bestStrike 11 = .ok (.istore_n 3, 1) := by decide +kernel
theorem dX7_bestStrike_12 : decode cX7_bestStrike 12 = .ok (.bipush 9, 2) := by decide +kernel
theorem dX7_bestStrike_14 : decode cX7_bestStrike 14 = .ok (.istore 4, 2) := by decide +kernel
theorem dX7_bestStrike_16 : decode cX7_bestStrike 16 = .ok (.iconst 0, 1) := by decide +kernel
theorem dX7_bestStrike_17 : decode cX7_bestStrike 17 = .ok (.istore 5, 2) := by decide +kernel
theorem dX7_bestStrike_19 : decode cX7_bestStrike 19 = .ok (.iload 5, 2) := by decide +kernel
theorem dX7_bestStrike_21 : decode cX7_bestStrike 21 = .ok (.iconst 4, 1) := by decide +kernel
theorem dX7_bestStrike_22 : decode cX7_bestStrike 22 = .ok (.if_icmp .ge 70, 3) := by decide +kernel
theorem dX7_bestStrike_25 : decode cX7_bestStrike 25 = .ok (.iconst 1, 1) := by decide +kernel
theorem dX7_bestStrike_26 : decode cX7_bestStrike 26 = .ok (.istore 6, 2) := by decide +kernel
theorem dX7_bestStrike_28 : decode cX7_bestStrike 28 = .ok (.iload 6, 2) := by decide +kernel
theorem dX7_bestStrike_30 : decode cX7_bestStrike 30 = .ok (.aload_n 0, 1) := by decide +kernel
theorem dX7_bestStrike_31 : decode cX7_bestStrike 31 = .ok (.getfield 10, 3) := by decide +kernel
theorem dX7_bestStrike_34 : decode cX7_bestStrike 34 = .ok (.iload_n 1, 1) := by decide +kernel
theorem dX7_bestStrike_35 : decode cX7_bestStrike 35 = .ok (.iconst 1, 1) := by decide +kernel
theorem dX7_bestStrike_36 : decode cX7_bestStrike 36 = .ok (.invokevirtual 148, 3) := by decide +kernel
theorem dX7_bestStrike_39 : decode cX7_bestStrike 39 = .ok (.if_icmp .gt 47, 3) := by decide +kernel
theorem dX7_bestStrike_42 : decode cX7_bestStrike 42 = .ok (.aload_n 0, 1) := by decide +kernel
theorem dX7_bestStrike_43 : decode cX7_bestStrike 43 = .ok (.getfield 41, 3) := by decide +kernel
theorem dX7_bestStrike_46 : decode cX7_bestStrike 46 = .ok (.iload_n 1, 1) := by decide +kernel
theorem dX7_bestStrike_47 : decode cX7_bestStrike 47 = .ok (.iload 5, 2) := by decide +kernel
theorem dX7_bestStrike_49 : decode cX7_bestStrike 49 = .ok (.iload 6, 2) := by decide +kernel
theorem dX7_bestStrike_51 : decode cX7_bestStrike 51 = .ok (.invokevirtual 218, 3) := by decide +kernel
theorem dX7_bestStrike_54 : decode cX7_bestStrike 54 = .ok (.iload_n 2, 1) := by decide +kernel
theorem dX7_bestStrike_55 : decode cX7_bestStrike 55 = .ok (.invokestatic 433, 3) := by decide +kernel
theorem dX7_bestStrike_58 : decode cX7_bestStrike 58 = .ok (.istore 7, 2) := by decide +kernel
theorem dX7_bestStrike_60 : decode cX7_bestStrike 60 = .ok (.iload 7, 2) := by decide +kernel
theorem dX7_bestStrike_62 : decode cX7_bestStrike 62 = .ok (.iload 4, 2) := by decide +kernel
theorem dX7_bestStrike_64 : decode cX7_bestStrike 64 = .ok (.if_icmp .ge 16, 3) := by decide +kernel
theorem dX7_bestStrike_67 : decode cX7_bestStrike 67 = .ok (.iload 7, 2) := by decide +kernel
theorem dX7_bestStrike_69 : decode cX7_bestStrike 69 = .ok (.istore 4, 2) := by decide +kernel
theorem dX7_bestStrike_71 : decode cX7_bestStrike 71 = .ok (.bipush 10, 2) := by decide +kernel
theorem dX7_bestStrike_73 : decode cX7_bestStrike 73 = .ok (.iload 5, 2) := by decide +kernel
theorem dX7_bestStrike_75 : decode cX7_bestStrike 75 = .ok (.imul, 1) := by decide +kernel
theorem dX7_bestStrike_76 : decode cX7_bestStrike 76 = .ok (.iload 6, 2) := by decide +kernel
theorem dX7_bestStrike_78 : decode cX7_bestStrike 78 = .ok (.iadd, 1) := by decide +kernel
theorem dX7_bestStrike_79 : decode cX7_bestStrike 79 = .ok (.istore_n 3, 1) := by decide +kernel
theorem dX7_bestStrike_80 : decode cX7_bestStrike 80 = .ok (.iinc 6 1, 3) := by decide +kernel
theorem dX7_bestStrike_83 : decode cX7_bestStrike 83 = .ok (.goto (-55), 3) := by decide +kernel
theorem dX7_bestStrike_86 : decode cX7_bestStrike 86 = .ok (.iinc 5 1, 3) := by decide +kernel
theorem dX7_bestStrike_89 : decode cX7_bestStrike 89 = .ok (.goto (-70), 3) := by decide +kernel
theorem dX7_bestStrike_92 : decode cX7_bestStrike 92 = .ok (.iload_n 3, 1) := by decide +kernel
theorem dX7_bestStrike_93 : decode cX7_bestStrike 93 = .ok (.ireturn, 1) := by decide +kernel
theorem dX7_columnsToGoal_0 : decode cX7_columnsToGoal 0 = .ok (.iload_n 0, 1) := by decide +kernel
theorem dX7_columnsToGoal_1 : decode cX7_columnsToGoal 1 = .ok (.bipush 45, 2) := by decide +kernel
theorem dX7_columnsToGoal_3 : decode cX7_columnsToGoal 3 = .ok (.if_icmp .lt 18, 3) := by decide +kernel
theorem dX7_columnsToGoal_6 : decode cX7_columnsToGoal 6 = .ok (.iload_n 0, 1) := by decide +kernel
theorem dX7_columnsToGoal_7 : decode cX7_columnsToGoal 7 = .ok (.bipush 45, 2) := by decide +kernel
theorem dX7_columnsToGoal_9 : decode cX7_columnsToGoal 9 = .ok (.iload_n 1, 1) := by decide +kernel
theorem dX7_columnsToGoal_10 : decode cX7_columnsToGoal 10 = .ok (.iadd, 1) := by decide +kernel
theorem dX7_columnsToGoal_11 : decode cX7_columnsToGoal 11 = .ok (.if_icmp .ne 7, 3) := by decide +kernel
theorem dX7_columnsToGoal_14 : decode cX7_columnsToGoal 14 = .ok (.iconst (-1), 1) := by decide +kernel
theorem dX7_columnsToGoal_15 : decode cX7_columnsToGoal 15 = .ok (.goto 5, 3) := by decide +kernel
theorem dX7_columnsToGoal_18 : decode cX7_columnsToGoal 18 = .ok (.bipush 9, 2) := by decide +kernel
theorem dX7_columnsToGoal_20 : decode cX7_columnsToGoal 20 = .ok (.ireturn, 1) := by decide +kernel
theorem dX7_columnsToGoal_21 : decode cX7_columnsToGoal 21 = .ok (.iload_n 0, 1) := by decide +kernel
theorem dX7_columnsToGoal_22 : decode cX7_columnsToGoal 22 = .ok (.bipush 9, 2) := by decide +kernel
theorem dX7_columnsToGoal_24 : decode cX7_columnsToGoal 24 = .ok (.irem, 1) := by decide +kernel
theorem dX7_columnsToGoal_25 : decode cX7_columnsToGoal 25 = .ok (.istore_n 2, 1) := by decide +kernel
theorem dX7_columnsToGoal_26 : decode cX7_columnsToGoal 26 = .ok (.iload_n 1, 1) := by decide +kernel
theorem dX7_columnsToGoal_27 : decode cX7_columnsToGoal 27 = .ok (.ifCond .ne 10, 3) := by decide +kernel
theorem dX7_columnsToGoal_30 : decode cX7_columnsToGoal 30 = .ok (.bipush 8, 2) := by decide +kernel
theorem dX7_columnsToGoal_32 : decode cX7_columnsToGoal 32 = .ok (.iload_n 2, 1) := by decide +kernel
theorem dX7_columnsToGoal_33 : decode cX7_columnsToGoal 33 = .ok (.isub, 1) := by decide +kernel
theorem dX7_columnsToGoal_34 : decode cX7_columnsToGoal 34 = .ok (.goto 4, 3) := by decide +kernel
theorem dX7_columnsToGoal_37 : decode cX7_columnsToGoal 37 = .ok (.iload_n 2, 1) := by decide +kernel
theorem dX7_columnsToGoal_38 : decode cX7_columnsToGoal 38 = .ok (.ireturn, 1) := by decide +kernel
theorem dX7_countAhead_0 : decode cX7_countAhead 0 = .ok (.aload_n 0, 1) := by decide +kernel
theorem dX7_countAhead_1 : decode cX7_countAhead 1 = .ok (.iload_n 1, 1) := by decide +kernel
theorem dX7_countAhead_2 : decode cX7_countAhead 2 = .ok (.iload_n 2, 1) := by decide +kernel
theorem dX7_countAhead_3 : decode cX7_countAhead 3 = .ok (.invokevirtual 436, 3) := by decide +kernel
theorem dX7_countAhead_6 : decode cX7_countAhead 6 = .ok (.istore_n 3, 1) := by decide +kernel
theorem dX7_countAhead_7 : decode cX7_countAhead 7 = .ok (.iconst 0, 1) := by decide +kernel
theorem dX7_countAhead_8 : decode cX7_countAhead 8 = .ok (.istore 4, 2) := by decide +kernel
theorem dX7_countAhead_10 : decode cX7_countAhead 10 = .ok (.iconst 0, 1) := by decide +kernel
theorem dX7_countAhead_11 : decode cX7_countAhead 11 = .ok (.istore 5, 2) := by decide +kernel
theorem dX7_countAhead_13 : decode cX7_countAhead 13 = .ok (.iload 5, 2) := by decide +kernel
theorem dX7_countAhead_15 : decode cX7_countAhead 15 = .ok (.aload_n 0, 1) := by decide +kernel
theorem dX7_countAhead_16 : decode cX7_countAhead 16 = .ok (.getfield 10, 3) := by decide +kernel
theorem dX7_countAhead_19 : decode cX7_countAhead 19 = .ok (.iconst 0, 1) := by decide +kernel
theorem dX7_countAhead_20 : decode cX7_countAhead 20 = .ok (.invokevirtual 235, 3) := by decide +kernel
theorem dX7_countAhead_23 : decode cX7_countAhead 23 = .ok (.if_icmp .ge 39, 3) := by decide +kernel
theorem dX7_countAhead_26 : decode cX7_countAhead 26 = .ok (.aload_n 0, 1) := by decide +kernel
theorem dX7_countAhead_27 : decode cX7_countAhead 27 = .ok (.iload_n 1, 1) := by decide +kernel
theorem dX7_countAhead_28 : decode cX7_countAhead 28 = .ok (.iload 5, 2) := by decide +kernel
theorem dX7_countAhead_30 : decode cX7_countAhead 30 = .ok (.invokevirtual 436, 3) := by decide +kernel
theorem dX7_countAhead_33 : decode cX7_countAhead 33 = .ok (.istore 6, 2) := by decide +kernel
theorem dX7_countAhead_35 : decode cX7_countAhead 35 = .ok (.iload 6, 2) := by decide +kernel
theorem dX7_countAhead_37 : decode cX7_countAhead 37 = .ok (.iload_n 3, 1) := by decide +kernel
theorem dX7_countAhead_38 : decode cX7_countAhead 38 = .ok (.if_icmp .gt 15, 3) := by decide +kernel
theorem dX7_countAhead_41 : decode cX7_countAhead 41 = .ok (.iload 6, 2) := by decide +kernel
theorem dX7_countAhead_43 : decode cX7_countAhead 43 = .ok (.iload_n 3, 1) := by decide +kernel
theorem dX7_countAhead_44 : decode cX7_countAhead 44 = .ok (.if_icmp .ne 12, 3) := by decide +kernel
theorem dX7_countAhead_47 : decode cX7_countAhead 47 = .ok (.iload 5, 2) := by decide +kernel
theorem dX7_countAhead_49 : decode cX7_countAhead 49 = .ok (.iload_n 2, 1) := by decide +kernel
theorem dX7_countAhead_50 : decode cX7_countAhead 50 = .ok (.if_icmp .ge 6, 3) := by decide +kernel
theorem dX7_countAhead_53 : decode cX7_countAhead 53 = .ok (.iinc 4 1, 3) := by decide +kernel
theorem dX7_countAhead_56 : decode cX7_countAhead 56 = .ok (.iinc 5 1, 3) := by decide +kernel
theorem dX7_countAhead_59 : decode cX7_countAhead 59 = .ok (.goto (-46), 3) := by decide +kernel
theorem dX7_countAhead_62 : decode cX7_countAhead 62 = .ok (.iload 4, 2) := by decide +kernel
theorem dX7_countAhead_64 : decode cX7_countAhead 64 = .ok (.ireturn, 1) := by decide +kernel
theorem dX7_measure_0 : decode cX7_measure 0 = .ok (.iload_n 1, 1) := by decide +kernel
theorem dX7_measure_1 : decode cX7_measure 1 = .ok (.tableswitch 74 0 3 #[31, 41, 52, 63], 31) := by decide +kernel
theorem dX7_measure_32 : decode cX7_measure 32 = .ok (.aload_n 0, 1) := by decide +kernel
theorem dX7_measure_33 : decode cX7_measure 33 = .ok (.getfield 10, 3) := by decide +kernel
theorem dX7_measure_36 : decode cX7_measure 36 = .ok (.iload_n 2, 1) := by decide +kernel
theorem dX7_measure_37 : decode cX7_measure 37 = .ok (.iconst 3, 1) := by decide +kernel
theorem dX7_measure_38 : decode cX7_measure 38 = .ok (.invokevirtual 148, 3) := by decide +kernel
theorem dX7_measure_41 : decode cX7_measure 41 = .ok (.ireturn, 1) := by decide +kernel
theorem dX7_measure_42 : decode cX7_measure 42 = .ok (.aload_n 0, 1) := by decide +kernel
theorem dX7_measure_43 : decode cX7_measure 43 = .ok (.getfield 10, 3) := by decide +kernel
theorem dX7_measure_46 : decode cX7_measure 46 = .ok (.iload_n 2, 1) := by decide +kernel
theorem dX7_measure_47 : decode cX7_measure 47 = .ok (.bipush 6, 2) := by decide +kernel
theorem dX7_measure_49 : decode cX7_measure 49 = .ok (.invokevirtual 148, 3) := by decide +kernel
theorem dX7_measure_52 : decode cX7_measure 52 = .ok (.ireturn, 1) := by decide +kernel
theorem dX7_measure_53 : decode cX7_measure 53 = .ok (.aload_n 0, 1) := by decide +kernel
theorem dX7_measure_54 : decode cX7_measure 54 = .ok (.getfield 10, 3) := by decide +kernel
theorem dX7_measure_57 : decode cX7_measure 57 = .ok (.iload_n 2, 1) := by decide +kernel
theorem dX7_measure_58 : decode cX7_measure 58 = .ok (.bipush 7, 2) := by decide +kernel
theorem dX7_measure_60 : decode cX7_measure 60 = .ok (.invokevirtual 148, 3) := by decide +kernel
theorem dX7_measure_63 : decode cX7_measure 63 = .ok (.ireturn, 1) := by decide +kernel
theorem dX7_measure_64 : decode cX7_measure 64 = .ok (.aload_n 0, 1) := by decide +kernel
theorem dX7_measure_65 : decode cX7_measure 65 = .ok (.getfield 10, 3) := by decide +kernel
theorem dX7_measure_68 : decode cX7_measure 68 = .ok (.iload_n 2, 1) := by decide +kernel
theorem dX7_measure_69 : decode cX7_measure 69 = .ok (.bipush 8, 2) := by decide +kernel
theorem dX7_measure_71 : decode cX7_measure 71 = .ok (.invokevirtual 148, 3) := by decide +kernel
theorem dX7_measure_74 : decode cX7_measure 74 = .ok (.ireturn, 1) := by decide +kernel
theorem dX7_measure_75 : decode cX7_measure 75 = .ok (.aload_n 0, 1) := by decide +kernel
theorem dX7_measure_76 : decode cX7_measure 76 = .ok (.getfield 10, 3) := by decide +kernel
theorem dX7_measure_79 : decode cX7_measure 79 = .ok (.iload_n 2, 1) := by decide +kernel
theorem dX7_measure_80 : decode cX7_measure 80 = .ok (.iconst 1, 1) := by decide +kernel
theorem dX7_measure_81 : decode cX7_measure 81 = .ok (.invokevirtual 148, 3) := by decide +kernel
theorem dX7_measure_84 : decode cX7_measure 84 = .ok (.aload_n 0, 1) := by decide +kernel
theorem dX7_measure_85 : decode cX7_measure 85 = .ok (.getfield 10, 3) := by decide +kernel
theorem dX7_measure_88 : decode cX7_measure 88 = .ok (.iload_n 2, 1) := by decide +kernel
theorem dX7_measure_89 : decode cX7_measure 89 = .ok (.iconst 2, 1) := by decide +kernel
theorem dX7_measure_90 : decode cX7_measure 90 = .ok (.invokevirtual 148, 3) := by decide +kernel
theorem dX7_measure_93 : decode cX7_measure 93 = .ok (.iadd, 1) := by decide +kernel
theorem dX7_measure_94 : decode cX7_measure 94 = .ok (.ireturn, 1) := by decide +kernel
theorem dX7_bestCalf_0 : decode cX7_bestCalf 0 = .ok (.iconst (-1), 1) := by decide +kernel
theorem dX7_bestCalf_1 : decode cX7_bestCalf 1 = .ok (.istore_n 2, 1) := by decide +kernel
theorem dX7_bestCalf_2 : decode cX7_bestCalf 2 = .ok (.iconst 0, 1) := by decide +kernel
theorem dX7_bestCalf_3 : decode cX7_bestCalf 3 = .ok (.istore_n 3, 1) := by decide +kernel
theorem dX7_bestCalf_4 : decode cX7_bestCalf 4 = .ok (.iload_n 3, 1) := by decide +kernel
theorem dX7_bestCalf_5 : decode cX7_bestCalf 5 = .ok (.aload_n 0, 1) := by decide +kernel
theorem dX7_bestCalf_6 : decode cX7_bestCalf 6 = .ok (.getfield 10, 3) := by decide +kernel
theorem dX7_bestCalf_9 : decode cX7_bestCalf 9 = .ok (.iconst 0, 1) := by decide +kernel
theorem dX7_bestCalf_10 : decode cX7_bestCalf 10 = .ok (.invokevirtual 235, 3) := by decide +kernel
theorem dX7_bestCalf_13 : decode cX7_bestCalf 13 = .ok (.if_icmp .ge 61, 3) := by decide +kernel
theorem dX7_bestCalf_16 : decode cX7_bestCalf 16 = .ok (.aload_n 0, 1) := by decide +kernel
theorem dX7_bestCalf_17 : decode cX7_bestCalf 17 = .ok (.getfield 10, 3) := by decide +kernel
theorem dX7_bestCalf_20 : decode cX7_bestCalf 20 = .ok (.iload_n 3, 1) := by decide +kernel
theorem dX7_bestCalf_21 : decode cX7_bestCalf 21 = .ok (.iconst 0, 1) := by decide +kernel
theorem dX7_bestCalf_22 : decode cX7_bestCalf 22 = .ok (.invokevirtual 148, 3) := by decide +kernel
theorem dX7_bestCalf_25 : decode cX7_bestCalf 25 = .ok (.iload_n 1, 1) := by decide +kernel
theorem dX7_bestCalf_26 : decode cX7_bestCalf 26 = .ok (.if_icmp .ne 18, 3) := by decide +kernel
theorem dX7_bestCalf_29 : decode cX7_bestCalf 29 = .ok (.aload_n 0, 1) := by decide +kernel
theorem dX7_bestCalf_30 : decode cX7_bestCalf 30 = .ok (.getfield 10, 3) := by decide +kernel
theorem dX7_bestCalf_33 : decode cX7_bestCalf 33 = .ok (.iload_n 3, 1) := by decide +kernel
theorem dX7_bestCalf_34 : decode cX7_bestCalf 34 = .ok (.invokevirtual 200, 3) := by decide +kernel
theorem dX7_bestCalf_37 : decode cX7_bestCalf 37 = .ok (.ifCond .ne 7, 3) := by decide +kernel
theorem dX7_bestCalf_40 : decode cX7_bestCalf 40 = .ok (.iconst 1, 1) := by decide +kernel
theorem dX7_bestCalf_41 : decode cX7_bestCalf 41 = .ok (.goto 4, 3) := by decide +kernel
theorem dX7_bestCalf_44 : decode cX7_bestCalf 44 = .ok (.iconst 0, 1) := by decide +kernel
theorem dX7_bestCalf_45 : decode cX7_bestCalf 45 = .ok (.istore 4, 2) := by decide +kernel
theorem dX7_bestCalf_47 : decode cX7_bestCalf 47 = .ok (.iload 4, 2) := by decide +kernel
theorem dX7_bestCalf_49 : decode cX7_bestCalf 49 = .ok (.ifCond .eq 19, 3) := by decide +kernel
theorem dX7_bestCalf_52 : decode cX7_bestCalf 52 = .ok (.iload_n 2, 1) := by decide +kernel
theorem dX7_bestCalf_53 : decode cX7_bestCalf 53 = .ok (.iconst (-1), 1) := by decide +kernel
theorem dX7_bestCalf_54 : decode cX7_bestCalf 54 = .ok (.if_icmp .eq 12, 3) := by decide +kernel
theorem dX7_bestCalf_57 : decode cX7_bestCalf 57 = .ok (.aload_n 0, 1) := by decide +kernel
theorem dX7_bestCalf_58 : decode cX7_bestCalf 58 = .ok (.iload_n 3, 1) := by decide +kernel
theorem dX7_bestCalf_59 : decode cX7_bestCalf 59 = .ok (.iload_n 2, 1) := by decide +kernel
theorem dX7_bestCalf_60 : decode cX7_bestCalf 60 = .ok (.invokevirtual 439, 3) := by decide +kernel
theorem dX7_bestCalf_63 : decode cX7_bestCalf 63 = .ok (.ifCond .eq 5, 3) := by decide +kernel
theorem dX7_bestCalf_66 : decode cX7_bestCalf 66 = .ok (.iload_n 3, 1) := by decide +kernel
theorem dX7_bestCalf_67 : decode cX7_bestCalf 67 = .ok (.istore_n 2, 1) := by decide +kernel
theorem dX7_bestCalf_68 : decode cX7_bestCalf 68 = .ok (.iinc 3 1, 3) := by decide +kernel
theorem dX7_bestCalf_71 : decode cX7_bestCalf 71 = .ok (.goto (-67), 3) := by decide +kernel
theorem dX7_bestCalf_74 : decode cX7_bestCalf 74 = .ok (.iload_n 2, 1) := by decide +kernel
theorem dX7_bestCalf_75 : decode cX7_bestCalf 75 = .ok (.ireturn, 1) := by decide +kernel
theorem dX7_isFresher_0 : decode cX7_isFresher 0 = .ok (.aload_n 0, 1) := by decide +kernel
theorem dX7_isFresher_1 : decode cX7_isFresher 1 = .ok (.getfield 10, 3) := by decide +kernel
theorem dX7_isFresher_4 : decode cX7_isFresher 4 = .ok (.iload_n 1, 1) := by decide +kernel
theorem dX7_isFresher_5 : decode cX7_isFresher 5 = .ok (.iconst 3, 1) := by decide +kernel
theorem dX7_isFresher_6 : decode cX7_isFresher 6 = .ok (.invokevirtual 148, 3) := by decide +kernel
theorem dX7_isFresher_9 : decode cX7_isFresher 9 = .ok (.aload_n 0, 1) := by decide +kernel
theorem dX7_isFresher_10 : decode cX7_isFresher 10 = .ok (.getfield 10, 3) := by decide +kernel
theorem dX7_isFresher_13 : decode cX7_isFresher 13 = .ok (.iload_n 2, 1) := by decide +kernel
theorem dX7_isFresher_14 : decode cX7_isFresher 14 = .ok (.iconst 3, 1) := by decide +kernel
theorem dX7_isFresher_15 : decode cX7_isFresher 15 = .ok (.invokevirtual 148, 3) := by decide +kernel
theorem dX7_isFresher_18 : decode cX7_isFresher 18 = .ok (.isub, 1) := by decide +kernel
theorem dX7_isFresher_19 : decode cX7_isFresher 19 = .ok (.istore_n 3, 1) := by decide +kernel
theorem dX7_isFresher_20 : decode cX7_isFresher 20 = .ok (.iload_n 3, 1) := by decide +kernel
theorem dX7_isFresher_21 : decode cX7_isFresher 21 = .ok (.ifCond .gt 28, 3) := by decide +kernel
theorem dX7_isFresher_24 : decode cX7_isFresher 24 = .ok (.iload_n 3, 1) := by decide +kernel
theorem dX7_isFresher_25 : decode cX7_isFresher 25 = .ok (.ifCond .ne 28, 3) := by decide +kernel
theorem dX7_isFresher_28 : decode cX7_isFresher 28 = .ok (.aload_n 0, 1) := by decide +kernel
theorem dX7_isFresher_29 : decode cX7_isFresher 29 = .ok (.getfield 10, 3) := by decide +kernel
theorem dX7_isFresher_32 : decode cX7_isFresher 32 = .ok (.iload_n 1, 1) := by decide +kernel
theorem dX7_isFresher_33 : decode cX7_isFresher 33 = .ok (.iconst 1, 1) := by decide +kernel
theorem dX7_isFresher_34 : decode cX7_isFresher 34 = .ok (.invokevirtual 148, 3) := by decide +kernel
theorem dX7_isFresher_37 : decode cX7_isFresher 37 = .ok (.aload_n 0, 1) := by decide +kernel
theorem dX7_isFresher_38 : decode cX7_isFresher 38 = .ok (.getfield 10, 3) := by decide +kernel
theorem dX7_isFresher_41 : decode cX7_isFresher 41 = .ok (.iload_n 2, 1) := by decide +kernel
theorem dX7_isFresher_42 : decode cX7_isFresher 42 = .ok (.iconst 1, 1) := by decide +kernel
theorem dX7_isFresher_43 : decode cX7_isFresher 43 = .ok (.invokevirtual 148, 3) := by decide +kernel
theorem dX7_isFresher_46 : decode cX7_isFresher 46 = .ok (.if_icmp .le 7, 3) := by decide +kernel
theorem dX7_isFresher_49 : decode cX7_isFresher 49 = .ok (.iconst 1, 1) := by decide +kernel
theorem dX7_isFresher_50 : decode cX7_isFresher 50 = .ok (.goto 4, 3) := by decide +kernel
theorem dX7_isFresher_53 : decode cX7_isFresher 53 = .ok (.iconst 0, 1) := by decide +kernel
theorem dX7_isFresher_54 : decode cX7_isFresher 54 = .ok (.ireturn, 1) := by decide +kernel
theorem dX7_areTidesAlike_0 : decode cX7_areTidesAlike 0 = .ok (.aload_n 0, 1) := by decide +kernel
theorem dX7_areTidesAlike_1 : decode cX7_areTidesAlike 1 = .ok (.getfield 10, 3) := by decide +kernel
theorem dX7_areTidesAlike_4 : decode cX7_areTidesAlike 4 = .ok (.iconst 1, 1) := by decide +kernel
theorem dX7_areTidesAlike_5 : decode cX7_areTidesAlike 5 = .ok (.invokevirtual 235, 3) := by decide +kernel
theorem dX7_areTidesAlike_8 : decode cX7_areTidesAlike 8 = .ok (.istore_n 1, 1) := by decide +kernel
theorem dX7_areTidesAlike_9 : decode cX7_areTidesAlike 9 = .ok (.iload_n 1, 1) := by decide +kernel
theorem dX7_areTidesAlike_10 : decode cX7_areTidesAlike 10 = .ok (.istore_n 2, 1) := by decide +kernel
theorem dX7_areTidesAlike_11 : decode cX7_areTidesAlike 11 = .ok (.iload_n 2, 1) := by decide +kernel
theorem dX7_areTidesAlike_12 : decode cX7_areTidesAlike 12 = .ok (.iload_n 1, 1) := by decide +kernel
theorem dX7_areTidesAlike_13 : decode cX7_areTidesAlike 13 = .ok (.bipush 20, 2) := by decide +kernel
theorem dX7_areTidesAlike_15 : decode cX7_areTidesAlike 15 = .ok (.iadd, 1) := by decide +kernel
theorem dX7_areTidesAlike_16 : decode cX7_areTidesAlike 16 = .ok (.if_icmp .gt 22, 3) := by decide +kernel
theorem dX7_areTidesAlike_19 : decode cX7_areTidesAlike 19 = .ok (.iload_n 2, 1) := by decide +kernel
theorem dX7_areTidesAlike_20 : decode cX7_areTidesAlike 20 = .ok (.invokestatic 164, 3) := by decide +kernel
theorem dX7_areTidesAlike_23 : decode cX7_areTidesAlike 23 = .ok (.iload_n 2, 1) := by decide +kernel
theorem dX7_areTidesAlike_24 : decode cX7_areTidesAlike 24 = .ok (.invokestatic 167, 3) := by decide +kernel
theorem dX7_areTidesAlike_27 : decode cX7_areTidesAlike 27 = .ok (.if_icmp .eq 5, 3) := by decide +kernel
theorem dX7_areTidesAlike_30 : decode cX7_areTidesAlike 30 = .ok (.iconst 0, 1) := by decide +kernel
theorem dX7_areTidesAlike_31 : decode cX7_areTidesAlike 31 = .ok (.ireturn, 1) := by decide +kernel
theorem dX7_areTidesAlike_32 : decode cX7_areTidesAlike 32 = .ok (.iinc 2 1, 3) := by decide +kernel
theorem dX7_areTidesAlike_35 : decode cX7_areTidesAlike 35 = .ok (.goto (-24), 3) := by decide +kernel
theorem dX7_areTidesAlike_38 : decode cX7_areTidesAlike 38 = .ok (.iconst 1, 1) := by decide +kernel
theorem dX7_areTidesAlike_39 : decode cX7_areTidesAlike 39 = .ok (.ireturn, 1) := by decide +kernel
theorem dX7_areStepsAlike_0 : decode cX7_areStepsAlike 0 = .ok (.iconst 0, 1) := by decide +kernel
theorem dX7_areStepsAlike_1 : decode cX7_areStepsAlike 1 = .ok (.istore_n 1, 1) := by decide +kernel
theorem dX7_areStepsAlike_2 : decode cX7_areStepsAlike 2 = .ok (.iload_n 1, 1) := by decide +kernel
theorem dX7_areStepsAlike_3 : decode cX7_areStepsAlike 3 = .ok (.aload_n 0, 1) := by decide +kernel
theorem dX7_areStepsAlike_4 : decode cX7_areStepsAlike 4 = .ok (.getfield 10, 3) := by decide +kernel
theorem dX7_areStepsAlike_7 : decode cX7_areStepsAlike 7 = .ok (.iconst 0, 1) := by decide +kernel
theorem dX7_areStepsAlike_8 : decode cX7_areStepsAlike 8 = .ok (.invokevirtual 235, 3) := by decide +kernel
theorem dX7_areStepsAlike_11 : decode cX7_areStepsAlike 11 = .ok (.if_icmp .ge 48, 3) := by decide +kernel
theorem dX7_areStepsAlike_14 : decode cX7_areStepsAlike 14 = .ok (.aload_n 0, 1) := by decide +kernel
theorem dX7_areStepsAlike_15 : decode cX7_areStepsAlike 15 = .ok (.getfield 10, 3) := by decide +kernel
theorem dX7_areStepsAlike_18 : decode cX7_areStepsAlike 18 = .ok (.iload_n 1, 1) := by decide +kernel
theorem dX7_areStepsAlike_19 : decode cX7_areStepsAlike 19 = .ok (.invokevirtual 200, 3) := by decide +kernel
theorem dX7_areStepsAlike_22 : decode cX7_areStepsAlike 22 = .ok (.ifCond .eq 31, 3) := by decide +kernel
theorem dX7_areStepsAlike_25 : decode cX7_areStepsAlike 25 = .ok (.aload_n 0, 1) := by decide +kernel
theorem dX7_areStepsAlike_26 : decode cX7_areStepsAlike 26 = .ok (.getfield 34, 3) := by decide +kernel
theorem dX7_areStepsAlike_29 : decode cX7_areStepsAlike 29 = .ok (.iload_n 1, 1) := by decide +kernel
theorem dX7_areStepsAlike_30 : decode cX7_areStepsAlike 30 = .ok (.invokevirtual 181, 3) := by decide +kernel
theorem dX7_areStepsAlike_33 : decode cX7_areStepsAlike 33 = .ok (.aload_n 0, 1) := by decide +kernel
theorem dX7_areStepsAlike_34 : decode cX7_areStepsAlike 34 = .ok (.getfield 34, 3) := by decide +kernel
theorem dX7_areStepsAlike_37 : decode cX7_areStepsAlike 37 = .ok (.iload_n 1, 1) := by decide +kernel
theorem dX7_areStepsAlike_38 : decode cX7_areStepsAlike 38 = .ok (.invokevirtual 190, 3) := by decide +kernel
theorem dX7_areStepsAlike_41 : decode cX7_areStepsAlike 41 = .ok (.aload_n 0, 1) := by decide +kernel
theorem dX7_areStepsAlike_42 : decode cX7_areStepsAlike 42 = .ok (.getfield 34, 3) := by decide +kernel
theorem dX7_areStepsAlike_45 : decode cX7_areStepsAlike 45 = .ok (.invokevirtual 443, 3) := by decide +kernel
theorem dX7_areStepsAlike_48 : decode cX7_areStepsAlike 48 = .ok (.ifCond .ne 5, 3) := by decide +kernel
theorem dX7_areStepsAlike_51 : decode cX7_areStepsAlike 51 = .ok (.iconst 0, 1) := by decide +kernel
theorem dX7_areStepsAlike_52 : decode cX7_areStepsAlike 52 = .ok (.ireturn, 1) := by decide +kernel
theorem dX7_areStepsAlike_53 : decode cX7_areStepsAlike 53 = .ok (.iinc 1 1, 3) := by decide +kernel
theorem dX7_areStepsAlike_56 : decode cX7_areStepsAlike 56 = .ok (.goto (-54), 3) := by decide +kernel
theorem dX7_areStepsAlike_59 : decode cX7_areStepsAlike 59 = .ok (.iconst 1, 1) := by decide +kernel
theorem dX7_areStepsAlike_60 : decode cX7_areStepsAlike 60 = .ok (.ireturn, 1) := by decide +kernel
theorem dX7_areFlightsAlike_0 : decode cX7_areFlightsAlike 0 = .ok (.iconst 0, 1) := by decide +kernel
theorem dX7_areFlightsAlike_1 : decode cX7_areFlightsAlike 1 = .ok (.istore_n 1, 1) := by decide +kernel
theorem dX7_areFlightsAlike_2 : decode cX7_areFlightsAlike 2 = .ok (.iload_n 1, 1) := by decide +kernel
theorem dX7_areFlightsAlike_3 : decode cX7_areFlightsAlike 3 = .ok (.aload_n 0, 1) := by decide +kernel
theorem dX7_areFlightsAlike_4 : decode cX7_areFlightsAlike 4 = .ok (.getfield 10, 3) := by decide +kernel
theorem dX7_areFlightsAlike_7 : decode cX7_areFlightsAlike 7 = .ok (.iconst 0, 1) := by decide +kernel
theorem dX7_areFlightsAlike_8 : decode cX7_areFlightsAlike 8 = .ok (.invokevirtual 235, 3) := by decide +kernel
theorem dX7_areFlightsAlike_11 : decode cX7_areFlightsAlike 11 = .ok (.if_icmp .ge 60, 3) := by decide +kernel
theorem dX7_areFlightsAlike_14 : decode cX7_areFlightsAlike 14 = .ok (.iconst 0, 1) := by decide +kernel
theorem dX7_areFlightsAlike_15 : decode cX7_areFlightsAlike 15 = .ok (.istore_n 2, 1) := by decide +kernel
theorem dX7_areFlightsAlike_16 : decode cX7_areFlightsAlike 16 = .ok (.iload_n 2, 1) := by decide +kernel
theorem dX7_areFlightsAlike_17 : decode cX7_areFlightsAlike 17 = .ok (.iconst 4, 1) := by decide +kernel
theorem dX7_areFlightsAlike_18 : decode cX7_areFlightsAlike 18 = .ok (.if_icmp .ge 47, 3) := by decide +kernel
theorem dX7_areFlightsAlike_21 : decode cX7_areFlightsAlike 21 = .ok (.iconst 1, 1) := by decide +kernel
theorem dX7_areFlightsAlike_22 : decode cX7_areFlightsAlike 22 = .ok (.istore_n 3, 1) := by decide +kernel
theorem dX7_areFlightsAlike_23 : decode cX7_areFlightsAlike 23 = .ok (.iload_n 3, 1) := by decide +kernel
theorem dX7_areFlightsAlike_24 : decode cX7_areFlightsAlike 24 = .ok (.iconst 5, 1) := by decide +kernel
theorem dX7_areFlightsAlike_25 : decode cX7_areFlightsAlike 25 = .ok (.if_icmp .gt 34, 3) := by decide +kernel
theorem dX7_areFlightsAlike_28 : decode cX7_areFlightsAlike 28 = .ok (.aload_n 0, 1) := by decide +kernel
theorem dX7_areFlightsAlike_29 : decode cX7_areFlightsAlike 29 = .ok (.getfield 41, 3) := by decide +kernel
theorem dX7_areFlightsAlike_32 : decode cX7_areFlightsAlike 32 = .ok (.iload_n 1, 1) := by decide +kernel
theorem dX7_areFlightsAlike_33 : decode cX7_areFlightsAlike 33 = .ok (.iload_n 2, 1) := by decide +kernel
theorem dX7_areFlightsAlike_34 : decode cX7_areFlightsAlike 34 = .ok (.iload_n 3, 1) := by decide +kernel
theorem dX7_areFlightsAlike_35 : decode cX7_areFlightsAlike 35 = .ok (.invokevirtual 218, 3) := by decide +kernel
theorem dX7_areFlightsAlike_38 : decode cX7_areFlightsAlike 38 = .ok (.aload_n 0, 1) := by decide +kernel
theorem dX7_areFlightsAlike_39 : decode cX7_areFlightsAlike 39 = .ok (.getfield 41, 3) := by decide +kernel
theorem dX7_areFlightsAlike_42 : decode cX7_areFlightsAlike 42 = .ok (.iload_n 1, 1) := by decide +kernel
theorem dX7_areFlightsAlike_43 : decode cX7_areFlightsAlike 43 = .ok (.iload_n 2, 1) := by decide +kernel
theorem dX7_areFlightsAlike_44 : decode cX7_areFlightsAlike 44 = .ok (.iload_n 3, 1) := by decide +kernel
theorem dX7_areFlightsAlike_45 : decode cX7_areFlightsAlike 45 = .ok (.invokevirtual 221, 3) := by decide +kernel
theorem dX7_areFlightsAlike_48 : decode cX7_areFlightsAlike 48 = .ok (.if_icmp .eq 5, 3) := by decide +kernel
theorem dX7_areFlightsAlike_51 : decode cX7_areFlightsAlike 51 = .ok (.iconst 0, 1) := by decide +kernel
theorem dX7_areFlightsAlike_52 : decode cX7_areFlightsAlike 52 = .ok (.ireturn, 1) := by decide +kernel
theorem dX7_areFlightsAlike_53 : decode cX7_areFlightsAlike 53 = .ok (.iinc 3 1, 3) := by decide +kernel
theorem dX7_areFlightsAlike_56 : decode cX7_areFlightsAlike 56 = .ok (.goto (-33), 3) := by decide +kernel
theorem dX7_areFlightsAlike_59 : decode cX7_areFlightsAlike 59 = .ok (.iinc 2 1, 3) := by decide +kernel
theorem dX7_areFlightsAlike_62 : decode cX7_areFlightsAlike 62 = .ok (.goto (-46), 3) := by decide +kernel
theorem dX7_areFlightsAlike_65 : decode cX7_areFlightsAlike 65 = .ok (.iinc 1 1, 3) := by decide +kernel
theorem dX7_areFlightsAlike_68 : decode cX7_areFlightsAlike 68 = .ok (.goto (-66), 3) := by decide +kernel
theorem dX7_areFlightsAlike_71 : decode cX7_areFlightsAlike 71 = .ok (.iconst 1, 1) := by decide +kernel
theorem dX7_areFlightsAlike_72 : decode cX7_areFlightsAlike 72 = .ok (.ireturn, 1) := by decide +kernel
theorem dX7_isPlaced_0 : decode cX7_isPlaced 0 = .ok (.iconst 0, 1) := by decide +kernel
theorem dX7_isPlaced_1 : decode cX7_isPlaced 1 = .ok (.istore_n 1, 1) := by decide +kernel
theorem dX7_isPlaced_2 : decode cX7_isPlaced 2 = .ok (.iload_n 1, 1) := by decide +kernel
theorem dX7_isPlaced_3 : decode cX7_isPlaced 3 = .ok (.aload_n 0, 1) := by decide +kernel
theorem dX7_isPlaced_4 : decode cX7_isPlaced 4 = .ok (.getfield 10, 3) := by decide +kernel
theorem dX7_isPlaced_7 : decode cX7_isPlaced 7 = .ok (.iconst 0, 1) := by decide +kernel
theorem dX7_isPlaced_8 : decode cX7_isPlaced 8 = .ok (.invokevirtual 235, 3) := by decide +kernel
theorem dX7_isPlaced_11 : decode cX7_isPlaced 11 = .ok (.if_icmp .ge 42, 3) := by decide +kernel
theorem dX7_isPlaced_14 : decode cX7_isPlaced 14 = .ok (.aload_n 0, 1) := by decide +kernel
theorem dX7_isPlaced_15 : decode cX7_isPlaced 15 = .ok (.getfield 10, 3) := by decide +kernel
theorem dX7_isPlaced_18 : decode cX7_isPlaced 18 = .ok (.iload_n 1, 1) := by decide +kernel
theorem dX7_isPlaced_19 : decode cX7_isPlaced 19 = .ok (.invokevirtual 200, 3) := by decide +kernel
theorem dX7_isPlaced_22 : decode cX7_isPlaced 22 = .ok (.ifCond .eq 25, 3) := by decide +kernel
theorem dX7_isPlaced_25 : decode cX7_isPlaced 25 = .ok (.aload_n 0, 1) := by decide +kernel
theorem dX7_isPlaced_26 : decode cX7_isPlaced 26 = .ok (.getfield 10, 3) := by decide +kernel
theorem dX7_isPlaced_29 : decode cX7_isPlaced 29 = .ok (.aload_n 0, 1) := by decide +kernel
theorem dX7_isPlaced_30 : decode cX7_isPlaced 30 = .ok (.getfield 10, 3) := by decide +kernel
theorem dX7_isPlaced_33 : decode cX7_isPlaced 33 = .ok (.iload_n 1, 1) := by decide +kernel
theorem dX7_isPlaced_34 : decode cX7_isPlaced 34 = .ok (.iconst 4, 1) := by decide +kernel
theorem dX7_isPlaced_35 : decode cX7_isPlaced 35 = .ok (.invokevirtual 148, 3) := by decide +kernel
theorem dX7_isPlaced_38 : decode cX7_isPlaced 38 = .ok (.invokevirtual 154, 3) := by decide +kernel
theorem dX7_isPlaced_41 : decode cX7_isPlaced 41 = .ok (.iload_n 1, 1) := by decide +kernel
theorem dX7_isPlaced_42 : decode cX7_isPlaced 42 = .ok (.if_icmp .eq 5, 3) := by decide +kernel
theorem dX7_isPlaced_45 : decode cX7_isPlaced 45 = .ok (.iconst 0, 1) := by decide +kernel
theorem dX7_isPlaced_46 : decode cX7_isPlaced 46 = .ok (.ireturn, 1) := by decide +kernel
theorem dX7_isPlaced_47 : decode cX7_isPlaced 47 = .ok (.iinc 1 1, 3) := by decide +kernel
theorem dX7_isPlaced_50 : decode cX7_isPlaced 50 = .ok (.goto (-48), 3) := by decide +kernel
theorem dX7_isPlaced_53 : decode cX7_isPlaced 53 = .ok (.aload_n 0, 1) := by decide +kernel
theorem dX7_isPlaced_54 : decode cX7_isPlaced 54 = .ok (.getfield 10, 3) := by decide +kernel
theorem dX7_isPlaced_57 : decode cX7_isPlaced 57 = .ok (.iconst 0, 1) := by decide +kernel
theorem dX7_isPlaced_58 : decode cX7_isPlaced 58 = .ok (.invokevirtual 305, 3) := by decide +kernel
theorem dX7_isPlaced_61 : decode cX7_isPlaced 61 = .ok (.iconst 3, 1) := by decide +kernel
theorem dX7_isPlaced_62 : decode cX7_isPlaced 62 = .ok (.if_icmp .gt 19, 3) := by decide +kernel
theorem dX7_isPlaced_65 : decode cX7_isPlaced 65 = .ok (.aload_n 0, 1) := by decide +kernel
theorem dX7_isPlaced_66 : decode cX7_isPlaced 66 = .ok (.getfield 10, 3) := by decide +kernel
theorem dX7_isPlaced_69 : decode cX7_isPlaced 69 = .ok (.iconst 1, 1) := by decide +kernel
theorem dX7_isPlaced_70 : decode cX7_isPlaced 70 = .ok (.invokevirtual 305, 3) := by decide +kernel
theorem dX7_isPlaced_73 : decode cX7_isPlaced 73 = .ok (.iconst 3, 1) := by decide +kernel
theorem dX7_isPlaced_74 : decode cX7_isPlaced 74 = .ok (.if_icmp .gt 7, 3) := by decide +kernel
theorem dX7_isPlaced_77 : decode cX7_isPlaced 77 = .ok (.iconst 1, 1) := by decide +kernel
theorem dX7_isPlaced_78 : decode cX7_isPlaced 78 = .ok (.goto 4, 3) := by decide +kernel
theorem dX7_isPlaced_81 : decode cX7_isPlaced 81 = .ok (.iconst 0, 1) := by decide +kernel
theorem dX7_isPlaced_82 : decode cX7_isPlaced 82 = .ok (.ireturn, 1) := by decide +kernel
theorem dX7_writeCell_0 : decode cX7_writeCell 0 = .ok (.aload_n 0, 1) := by decide +kernel
theorem dX7_writeCell_1 : decode cX7_writeCell 1 = .ok (.getfield 10, 3) := by decide +kernel
theorem dX7_writeCell_4 : decode cX7_writeCell 4 = .ok (.iload_n 1, 1) := by decide +kernel
theorem dX7_writeCell_5 : decode cX7_writeCell 5 = .ok (.invokevirtual 154, 3) := by decide +kernel
theorem dX7_writeCell_8 : decode cX7_writeCell 8 = .ok (.istore_n 2, 1) := by decide +kernel
theorem dX7_writeCell_9 : decode cX7_writeCell 9 = .ok (.iload_n 2, 1) := by decide +kernel
theorem dX7_writeCell_10 : decode cX7_writeCell 10 = .ok (.iconst (-1), 1) := by decide +kernel
theorem dX7_writeCell_11 : decode cX7_writeCell 11 = .ok (.if_icmp .eq 14, 3) := by decide +kernel
theorem dX7_writeCell_14 : decode cX7_writeCell 14 = .ok (.aload_n 0, 1) := by decide +kernel
theorem dX7_writeCell_15 : decode cX7_writeCell 15 = .ok (.getfield 64, 3) := by decide +kernel
theorem dX7_writeCell_18 : decode cX7_writeCell 18 = .ok (.iload_n 2, 1) := by decide +kernel
theorem dX7_writeCell_19 : decode cX7_writeCell 19 = .ok (.invokevirtual 279, 3) := by decide +kernel
theorem dX7_writeCell_22 : decode cX7_writeCell 22 = .ok (.goto 52, 3) := by decide +kernel
theorem dX7_writeCell_25 : decode cX7_writeCell 25 = .ok (.iload_n 1, 1) := by decide +kernel
theorem dX7_writeCell_26 : decode cX7_writeCell 26 = .ok (.aload_n 0, 1) := by decide +kernel
theorem dX7_writeCell_27 : decode cX7_writeCell 27 = .ok (.getfield 10, 3) := by decide +kernel
theorem dX7_writeCell_30 : decode cX7_writeCell 30 = .ok (.iconst 5, 1) := by decide +kernel
theorem dX7_writeCell_31 : decode cX7_writeCell 31 = .ok (.invokevirtual 235, 3) := by decide +kernel
theorem dX7_writeCell_34 : decode cX7_writeCell 34 = .ok (.if_icmp .ne 15, 3) := by decide +kernel
theorem dX7_writeCell_37 : decode cX7_writeCell 37 = .ok (.aload_n 0, 1) := by decide +kernel
theorem dX7_writeCell_38 : decode cX7_writeCell 38 = .ok (.getfield 64, 3) := by decide +kernel
theorem dX7_writeCell_41 : decode cX7_writeCell 41 = .ok (.bipush 111, 2) := by decide +kernel
theorem dX7_writeCell_43 : decode cX7_writeCell 43 = .ok (.invokevirtual 286, 3) := by decide +kernel
theorem dX7_writeCell_46 : decode cX7_writeCell 46 = .ok (.goto 28, 3) := by decide +kernel
theorem dX7_writeCell_49 : decode cX7_writeCell 49 = .ok (.aload_n 0, 1) := by decide +kernel
theorem dX7_writeCell_50 : decode cX7_writeCell 50 = .ok (.getfield 64, 3) := by decide +kernel
theorem dX7_writeCell_53 : decode cX7_writeCell 53 = .ok (.aload_n 0, 1) := by decide +kernel
theorem dX7_writeCell_54 : decode cX7_writeCell 54 = .ok (.getfield 10, 3) := by decide +kernel
theorem dX7_writeCell_57 : decode cX7_writeCell 57 = .ok (.iload_n 1, 1) := by decide +kernel
theorem dX7_writeCell_58 : decode cX7_writeCell 58 = .ok (.invokevirtual 157, 3) := by decide +kernel
theorem dX7_writeCell_61 : decode cX7_writeCell 61 = .ok (.ifCond .eq 8, 3) := by decide +kernel
theorem dX7_writeCell_64 : decode cX7_writeCell 64 = .ok (.bipush 95, 2) := by decide +kernel
theorem dX7_writeCell_66 : decode cX7_writeCell 66 = .ok (.goto 5, 3) := by decide +kernel
theorem dX7_writeCell_69 : decode cX7_writeCell 69 = .ok (.bipush 46, 2) := by decide +kernel
theorem dX7_writeCell_71 : decode cX7_writeCell 71 = .ok (.invokevirtual 286, 3) := by decide +kernel
theorem dX7_writeCell_74 : decode cX7_writeCell 74 = .ok (.return_, 1) := by decide +kernel
theorem dX7_isCell_0 : decode cX7_isCell 0 = .ok (.iload_n 0, 1) := by decide +kernel
theorem dX7_isCell_1 : decode cX7_isCell 1 = .ok (.ifCond .lt 13, 3) := by decide +kernel
theorem dX7_isCell_4 : decode cX7_isCell 4 = .ok (.iload_n 0, 1) := by decide +kernel
theorem dX7_isCell_5 : decode cX7_isCell 5 = .ok (.bipush 45, 2) := by decide +kernel
theorem dX7_isCell_7 : decode cX7_isCell 7 = .ok (.if_icmp .ge 7, 3) := by decide +kernel
theorem dX7_isCell_10 : decode cX7_isCell 10 = .ok (.iconst 1, 1) := by decide +kernel
theorem dX7_isCell_11 : decode cX7_isCell 11 = .ok (.goto 4, 3) := by decide +kernel
theorem dX7_isCell_14 : decode cX7_isCell 14 = .ok (.iconst 0, 1) := by decide +kernel
theorem dX7_isCell_15 : decode cX7_isCell 15 = .ok (.ireturn, 1) := by decide +kernel
theorem dX7_isTeam_0 : decode cX7_isTeam 0 = .ok (.iload_n 0, 1) := by decide +kernel
theorem dX7_isTeam_1 : decode cX7_isTeam 1 = .ok (.ifCond .lt 12, 3) := by decide +kernel
theorem dX7_isTeam_4 : decode cX7_isTeam 4 = .ok (.iload_n 0, 1) := by decide +kernel
theorem dX7_isTeam_5 : decode cX7_isTeam 5 = .ok (.iconst 2, 1) := by decide +kernel
theorem dX7_isTeam_6 : decode cX7_isTeam 6 = .ok (.if_icmp .ge 7, 3) := by decide +kernel
theorem dX7_isTeam_9 : decode cX7_isTeam 9 = .ok (.iconst 1, 1) := by decide +kernel
theorem dX7_isTeam_10 : decode cX7_isTeam 10 = .ok (.goto 4, 3) := by decide +kernel
theorem dX7_isTeam_13 : decode cX7_isTeam 13 = .ok (.iconst 0, 1) := by decide +kernel
theorem dX7_isTeam_14 : decode cX7_isTeam 14 = .ok (.ireturn, 1) := by decide +kernel
theorem dX7_isWay_0 : decode cX7_isWay 0 = .ok (.iload_n 0, 1) := by decide +kernel
theorem dX7_isWay_1 : decode cX7_isWay 1 = .ok (.ifCond .lt 12, 3) := by decide +kernel
theorem dX7_isWay_4 : decode cX7_isWay 4 = .ok (.iload_n 0, 1) := by decide +kernel
theorem dX7_isWay_5 : decode cX7_isWay 5 = .ok (.iconst 4, 1) := by decide +kernel
theorem dX7_isWay_6 : decode cX7_isWay 6 = .ok (.if_icmp .ge 7, 3) := by decide +kernel
theorem dX7_isWay_9 : decode cX7_isWay 9 = .ok (.iconst 1, 1) := by decide +kernel
theorem dX7_isWay_10 : decode cX7_isWay 10 = .ok (.goto 4, 3) := by decide +kernel
theorem dX7_isWay_13 : decode cX7_isWay 13 = .ok (.iconst 0, 1) := by decide +kernel
theorem dX7_isWay_14 : decode cX7_isWay 14 = .ok (.ireturn, 1) := by decide +kernel
theorem dX7_isForce_0 : decode cX7_isForce 0 = .ok (.iload_n 0, 1) := by decide +kernel
theorem dX7_isForce_1 : decode cX7_isForce 1 = .ok (.iconst 1, 1) := by decide +kernel
theorem dX7_isForce_2 : decode cX7_isForce 2 = .ok (.if_icmp .lt 12, 3) := by decide +kernel
theorem dX7_isForce_5 : decode cX7_isForce 5 = .ok (.iload_n 0, 1) := by decide +kernel
theorem dX7_isForce_6 : decode cX7_isForce 6 = .ok (.iconst 5, 1) := by decide +kernel
theorem dX7_isForce_7 : decode cX7_isForce 7 = .ok (.if_icmp .gt 7, 3) := by decide +kernel
theorem dX7_isForce_10 : decode cX7_isForce 10 = .ok (.iconst 1, 1) := by decide +kernel
theorem dX7_isForce_11 : decode cX7_isForce 11 = .ok (.goto 4, 3) := by decide +kernel
theorem dX7_isForce_14 : decode cX7_isForce 14 = .ok (.iconst 0, 1) := by decide +kernel
theorem dX7_isForce_15 : decode cX7_isForce 15 = .ok (.ireturn, 1) := by decide +kernel
theorem dX7_isEdge_0 : decode cX7_isEdge 0 = .ok (.iload_n 0, 1) := by decide +kernel
theorem dX7_isEdge_1 : decode cX7_isEdge 1 = .ok (.bipush 9, 2) := by decide +kernel
theorem dX7_isEdge_3 : decode cX7_isEdge 3 = .ok (.idiv, 1) := by decide +kernel
theorem dX7_isEdge_4 : decode cX7_isEdge 4 = .ok (.istore_n 1, 1) := by decide +kernel
theorem dX7_isEdge_5 : decode cX7_isEdge 5 = .ok (.iload_n 1, 1) := by decide +kernel
theorem dX7_isEdge_6 : decode cX7_isEdge 6 = .ok (.ifCond .eq 8, 3) := by decide +kernel
theorem dX7_isEdge_9 : decode cX7_isEdge 9 = .ok (.iload_n 1, 1) := by decide +kernel
theorem dX7_isEdge_10 : decode cX7_isEdge 10 = .ok (.iconst 4, 1) := by decide +kernel
theorem dX7_isEdge_11 : decode cX7_isEdge 11 = .ok (.if_icmp .ne 7, 3) := by decide +kernel
theorem dX7_isEdge_14 : decode cX7_isEdge 14 = .ok (.iconst 1, 1) := by decide +kernel
theorem dX7_isEdge_15 : decode cX7_isEdge 15 = .ok (.goto 4, 3) := by decide +kernel
theorem dX7_isEdge_18 : decode cX7_isEdge 18 = .ok (.iconst 0, 1) := by decide +kernel
theorem dX7_isEdge_19 : decode cX7_isEdge 19 = .ok (.ireturn, 1) := by decide +kernel
theorem dX7_cellsAhead_0 : decode cX7_cellsAhead 0 = .ok (.iload_n 0, 1) := by decide +kernel
theorem dX7_cellsAhead_1 : decode cX7_cellsAhead 1 = .ok (.bipush 9, 2) := by decide +kernel
theorem dX7_cellsAhead_3 : decode cX7_cellsAhead 3 = .ok (.idiv, 1) := by decide +kernel
theorem dX7_cellsAhead_4 : decode cX7_cellsAhead 4 = .ok (.istore_n 2, 1) := by decide +kernel
theorem dX7_cellsAhead_5 : decode cX7_cellsAhead 5 = .ok (.iload_n 0, 1) := by decide +kernel
theorem dX7_cellsAhead_6 : decode cX7_cellsAhead 6 = .ok (.bipush 9, 2) := by decide +kernel
theorem dX7_cellsAhead_8 : decode cX7_cellsAhead 8 = .ok (.irem, 1) := by decide +kernel
theorem dX7_cellsAhead_9 : decode cX7_cellsAhead 9 = .ok (.istore_n 3, 1) := by decide +kernel
theorem dX7_cellsAhead_10 : decode cX7_cellsAhead 10 = .ok (.iload_n 1, 1) := by decide +kernel
theorem dX7_cellsAhead_11 : decode cX7_cellsAhead 11 = .ok (.ifCond .ne 5, 3) := by decide +kernel
theorem dX7_cellsAhead_14 : decode cX7_cellsAhead 14 = .ok (.iload_n 2, 1) := by decide +kernel
theorem dX7_cellsAhead_15 : decode cX7_cellsAhead 15 = .ok (.ireturn, 1) := by decide +kernel
theorem dX7_cellsAhead_16 : decode cX7_cellsAhead 16 = .ok (.iload_n 1, 1) := by decide +kernel
theorem dX7_cellsAhead_17 : decode cX7_cellsAhead 17 = .ok (.iconst 1, 1) := by decide +kernel
theorem dX7_cellsAhead_18 : decode cX7_cellsAhead 18 = .ok (.if_icmp .ne 8, 3) := by decide +kernel
theorem dX7_cellsAhead_21 : decode cX7_cellsAhead 21 = .ok (.bipush 8, 2) := by decide +kernel
theorem dX7_cellsAhead_23 : decode cX7_cellsAhead 23 = .ok (.iload_n 3, 1) := by decide +kernel
theorem dX7_cellsAhead_24 : decode cX7_cellsAhead 24 = .ok (.isub, 1) := by decide +kernel
theorem dX7_cellsAhead_25 : decode cX7_cellsAhead 25 = .ok (.ireturn, 1) := by decide +kernel
theorem dX7_cellsAhead_26 : decode cX7_cellsAhead 26 = .ok (.iload_n 1, 1) := by decide +kernel
theorem dX7_cellsAhead_27 : decode cX7_cellsAhead 27 = .ok (.iconst 2, 1) := by decide +kernel
theorem dX7_cellsAhead_28 : decode cX7_cellsAhead 28 = .ok (.if_icmp .ne 9, 3) := by decide +kernel
theorem dX7_cellsAhead_31 : decode cX7_cellsAhead 31 = .ok (.iconst 4, 1) := by decide +kernel
theorem dX7_cellsAhead_32 : decode cX7_cellsAhead 32 = .ok (.iload_n 2, 1) := by decide +kernel
theorem dX7_cellsAhead_33 : decode cX7_cellsAhead 33 = .ok (.isub, 1) := by decide +kernel
theorem dX7_cellsAhead_34 : decode cX7_cellsAhead 34 = .ok (.goto 4, 3) := by decide +kernel
theorem dX7_cellsAhead_37 : decode cX7_cellsAhead 37 = .ok (.iload_n 3, 1) := by decide +kernel
theorem dX7_cellsAhead_38 : decode cX7_cellsAhead 38 = .ok (.ireturn, 1) := by decide +kernel
theorem dX7_stride_0 : decode cX7_stride 0 = .ok (.iload_n 0, 1) := by decide +kernel
theorem dX7_stride_1 : decode cX7_stride 1 = .ok (.ifCond .ne 6, 3) := by decide +kernel
theorem dX7_stride_4 : decode cX7_stride 4 = .ok (.bipush (-9), 2) := by decide +kernel
theorem dX7_stride_6 : decode cX7_stride 6 = .ok (.ireturn, 1) := by decide +kernel
theorem dX7_stride_7 : decode cX7_stride 7 = .ok (.iload_n 0, 1) := by decide +kernel
theorem dX7_stride_8 : decode cX7_stride 8 = .ok (.iconst 1, 1) := by decide +kernel
theorem dX7_stride_9 : decode cX7_stride 9 = .ok (.if_icmp .ne 5, 3) := by decide +kernel
theorem dX7_stride_12 : decode cX7_stride 12 = .ok (.iconst 1, 1) := by decide +kernel
theorem dX7_stride_13 : decode cX7_stride 13 = .ok (.ireturn, 1) := by decide +kernel
theorem dX7_stride_14 : decode cX7_stride 14 = .ok (.iload_n 0, 1) := by decide +kernel
theorem dX7_stride_15 : decode cX7_stride 15 = .ok (.iconst 2, 1) := by decide +kernel
theorem dX7_stride_16 : decode cX7_stride 16 = .ok (.if_icmp .ne 8, 3) := by decide +kernel
theorem dX7_stride_19 : decode cX7_stride 19 = .ok (.bipush 9, 2) := by decide +kernel
theorem dX7_stride_21 : decode cX7_stride 21 = .ok (.goto 4, 3) := by decide +kernel
theorem dX7_stride_24 : decode cX7_stride 24 = .ok (.iconst (-1), 1) := by decide +kernel
theorem dX7_stride_25 : decode cX7_stride 25 = .ok (.ireturn, 1) := by decide +kernel
theorem dX7_nextCell_0 : decode cX7_nextCell 0 = .ok (.iload_n 0, 1) := by decide +kernel
theorem dX7_nextCell_1 : decode cX7_nextCell 1 = .ok (.iload_n 1, 1) := by decide +kernel
theorem dX7_nextCell_2 : decode cX7_nextCell 2 = .ok (.invokestatic 446, 3) := by decide +kernel
theorem dX7_nextCell_5 : decode cX7_nextCell 5 = .ok (.ifCond .le 12, 3) := by decide +kernel
theorem dX7_nextCell_8 : decode cX7_nextCell 8 = .ok (.iload_n 0, 1) := by decide +kernel
theorem dX7_nextCell_9 : decode cX7_nextCell 9 = .ok (.iload_n 1, 1) := by decide +kernel
theorem dX7_nextCell_10 : decode cX7_nextCell 10 = .ok (.invokestatic 449, 3) := by decide +kernel
theorem dX7_nextCell_13 : decode cX7_nextCell 13 = .ok (.iadd, 1) := by decide +kernel
theorem dX7_nextCell_14 : decode cX7_nextCell 14 = .ok (.goto 4, 3) := by decide +kernel
theorem dX7_nextCell_17 : decode cX7_nextCell 17 = .ok (.iconst (-1), 1) := by decide +kernel
theorem dX7_nextCell_18 : decode cX7_nextCell 18 = .ok (.ireturn, 1) := by decide +kernel
theorem dX7_between_0 : decode cX7_between 0 = .ok (.iload_n 0, 1) := by decide +kernel
theorem dX7_between_1 : decode cX7_between 1 = .ok (.bipush 9, 2) := by decide +kernel
theorem dX7_between_3 : decode cX7_between 3 = .ok (.idiv, 1) := by decide +kernel
theorem dX7_between_4 : decode cX7_between 4 = .ok (.iload_n 1, 1) := by decide +kernel
theorem dX7_between_5 : decode cX7_between 5 = .ok (.bipush 9, 2) := by decide +kernel
theorem dX7_between_7 : decode cX7_between 7 = .ok (.idiv, 1) := by decide +kernel
theorem dX7_between_8 : decode cX7_between 8 = .ok (.isub, 1) := by decide +kernel
theorem dX7_between_9 : decode cX7_between 9 = .ok (.invokestatic 452, 3) := by decide +kernel
theorem dX7_between_12 : decode cX7_between 12 = .ok (.istore_n 2, 1) := by decide +kernel
theorem dX7_between_13 : decode cX7_between 13 = .ok (.iload_n 0, 1) := by decide +kernel
theorem dX7_between_14 : decode cX7_between 14 = .ok (.bipush 9, 2) := by decide +kernel
theorem dX7_between_16 : decode cX7_between 16 = .ok (.irem, 1) := by decide +kernel
theorem dX7_between_17 : decode cX7_between 17 = .ok (.iload_n 1, 1) := by decide +kernel
theorem dX7_between_18 : decode cX7_between 18 = .ok (.bipush 9, 2) := by decide +kernel
theorem dX7_between_20 : decode cX7_between 20 = .ok (.irem, 1) := by decide +kernel
theorem dX7_between_21 : decode cX7_between 21 = .ok (.isub, 1) := by decide +kernel
theorem dX7_between_22 : decode cX7_between 22 = .ok (.invokestatic 452, 3) := by decide +kernel
theorem dX7_between_25 : decode cX7_between 25 = .ok (.istore_n 3, 1) := by decide +kernel
theorem dX7_between_26 : decode cX7_between 26 = .ok (.iload_n 2, 1) := by decide +kernel
theorem dX7_between_27 : decode cX7_between 27 = .ok (.iload_n 3, 1) := by decide +kernel
theorem dX7_between_28 : decode cX7_between 28 = .ok (.iadd, 1) := by decide +kernel
theorem dX7_between_29 : decode cX7_between 29 = .ok (.ireturn, 1) := by decide +kernel
theorem dX7_isGoalEnd_0 : decode cX7_isGoalEnd 0 = .ok (.iload_n 1, 1) := by decide +kernel
theorem dX7_isGoalEnd_1 : decode cX7_isGoalEnd 1 = .ok (.iconst 1, 1) := by decide +kernel
theorem dX7_isGoalEnd_2 : decode cX7_isGoalEnd 2 = .ok (.if_icmp .eq 8, 3) := by decide +kernel
theorem dX7_isGoalEnd_5 : decode cX7_isGoalEnd 5 = .ok (.iload_n 1, 1) := by decide +kernel
theorem dX7_isGoalEnd_6 : decode cX7_isGoalEnd 6 = .ok (.iconst 3, 1) := by decide +kernel
theorem dX7_isGoalEnd_7 : decode cX7_isGoalEnd 7 = .ok (.if_icmp .ne 14, 3) := by decide +kernel
theorem dX7_isGoalEnd_10 : decode cX7_isGoalEnd 10 = .ok (.iload_n 0, 1) := by decide +kernel
theorem dX7_isGoalEnd_11 : decode cX7_isGoalEnd 11 = .ok (.invokestatic 170, 3) := by decide +kernel
theorem dX7_isGoalEnd_14 : decode cX7_isGoalEnd 14 = .ok (.ifCond .ne 7, 3) := by decide +kernel
theorem dX7_isGoalEnd_17 : decode cX7_isGoalEnd 17 = .ok (.iconst 1, 1) := by decide +kernel
theorem dX7_isGoalEnd_18 : decode cX7_isGoalEnd 18 = .ok (.goto 4, 3) := by decide +kernel
theorem dX7_isGoalEnd_21 : decode cX7_isGoalEnd 21 = .ok (.iconst 0, 1) := by decide +kernel
theorem dX7_isGoalEnd_22 : decode cX7_isGoalEnd 22 = .ok (.ireturn, 1) := by decide +kernel
theorem dX7_goalAt_0 : decode cX7_goalAt 0 = .ok (.iload_n 0, 1) := by decide +kernel
theorem dX7_goalAt_1 : decode cX7_goalAt 1 = .ok (.iconst 1, 1) := by decide +kernel
theorem dX7_goalAt_2 : decode cX7_goalAt 2 = .ok (.if_icmp .ne 8, 3) := by decide +kernel
theorem dX7_goalAt_5 : decode cX7_goalAt 5 = .ok (.bipush 45, 2) := by decide +kernel
theorem dX7_goalAt_7 : decode cX7_goalAt 7 = .ok (.goto 5, 3) := by decide +kernel
theorem dX7_goalAt_10 : decode cX7_goalAt 10 = .ok (.bipush 46, 2) := by decide +kernel
theorem dX7_goalAt_12 : decode cX7_goalAt 12 = .ok (.ireturn, 1) := by decide +kernel
theorem dX7_tideByStrokes_0 : decode cX7_tideByStrokes 0 = .ok (.bipush 8, 2) := by decide +kernel
theorem dX7_tideByStrokes_2 : decode cX7_tideByStrokes 2 = .ok (.istore_n 1, 1) := by decide +kernel
theorem dX7_tideByStrokes_3 : decode cX7_tideByStrokes 3 = .ok (.iconst 1, 1) := by decide +kernel
theorem dX7_tideByStrokes_4 : decode cX7_tideByStrokes 4 = .ok (.istore_n 2, 1) := by decide +kernel
theorem dX7_tideByStrokes_5 : decode cX7_tideByStrokes 5 = .ok (.iconst 0, 1) := by decide +kernel
theorem dX7_tideByStrokes_6 : decode cX7_tideByStrokes 6 = .ok (.istore_n 3, 1) := by decide +kernel
theorem dX7_tideByStrokes_7 : decode cX7_tideByStrokes 7 = .ok (.iload_n 3, 1) := by decide +kernel
theorem dX7_tideByStrokes_8 : decode cX7_tideByStrokes 8 = .ok (.iload_n 0, 1) := by decide +kernel
theorem dX7_tideByStrokes_9 : decode cX7_tideByStrokes 9 = .ok (.if_icmp .ge 43, 3) := by decide +kernel
theorem dX7_tideByStrokes_12 : decode cX7_tideByStrokes 12 = .ok (.iload_n 1, 1) := by decide +kernel
theorem dX7_tideByStrokes_13 : decode cX7_tideByStrokes 13 = .ok (.iload_n 2, 1) := by decide +kernel
theorem dX7_tideByStrokes_14 : decode cX7_tideByStrokes 14 = .ok (.ifCond .eq 7, 3) := by decide +kernel
theorem dX7_tideByStrokes_17 : decode cX7_tideByStrokes 17 = .ok (.iconst (-1), 1) := by decide +kernel
theorem dX7_tideByStrokes_18 : decode cX7_tideByStrokes 18 = .ok (.goto 4, 3) := by decide +kernel
theorem dX7_tideByStrokes_21 : decode cX7_tideByStrokes 21 = .ok (.iconst 1, 1) := by decide +kernel
theorem dX7_tideByStrokes_22 : decode cX7_tideByStrokes 22 = .ok (.iadd, 1) := by decide +kernel
theorem dX7_tideByStrokes_23 : decode cX7_tideByStrokes 23 = .ok (.istore_n 1, 1) := by decide +kernel
theorem dX7_tideByStrokes_24 : decode cX7_tideByStrokes 24 = .ok (.iload_n 1, 1) := by decide +kernel
theorem dX7_tideByStrokes_25 : decode cX7_tideByStrokes 25 = .ok (.ifCond .eq 9, 3) := by decide +kernel
theorem dX7_tideByStrokes_28 : decode cX7_tideByStrokes 28 = .ok (.iload_n 1, 1) := by decide +kernel
theorem dX7_tideByStrokes_29 : decode cX7_tideByStrokes 29 = .ok (.bipush 8, 2) := by decide +kernel
theorem dX7_tideByStrokes_31 : decode cX7_tideByStrokes 31 = .ok (.if_icmp .ne 15, 3) := by decide +kernel
theorem dX7_tideByStrokes_34 : decode cX7_tideByStrokes 34 = .ok (.iload_n 1, 1) := by decide +kernel
theorem dX7_tideByStrokes_35 : decode cX7_tideByStrokes 35 = .ok (.bipush 8, 2) := by decide +kernel
theorem dX7_tideByStrokes_37 : decode cX7_tideByStrokes 37 = .ok (.if_icmp .ne 7, 3) := by decide +kernel
theorem dX7_tideByStrokes_40 : decode cX7_tideByStrokes 40 = .ok (.iconst 1, 1) := by decide +kernel
theorem dX7_tideByStrokes_41 : decode cX7_tideByStrokes 41 = .ok (.goto 4, 3) := by decide +kernel
theorem dX7_tideByStrokes_44 : decode cX7_tideByStrokes 44 = .ok (.iconst 0, 1) := by decide +kernel
theorem dX7_tideByStrokes_45 : decode cX7_tideByStrokes 45 = .ok (.istore_n 2, 1) := by decide +kernel
theorem dX7_tideByStrokes_46 : decode cX7_tideByStrokes 46 = .ok (.iinc 3 1, 3) := by decide +kernel
theorem dX7_tideByStrokes_49 : decode cX7_tideByStrokes 49 = .ok (.goto (-42), 3) := by decide +kernel
theorem dX7_tideByStrokes_52 : decode cX7_tideByStrokes 52 = .ok (.iload_n 1, 1) := by decide +kernel
theorem dX7_tideByStrokes_53 : decode cX7_tideByStrokes 53 = .ok (.ireturn, 1) := by decide +kernel
theorem dX7_tideByDividing_0 : decode cX7_tideByDividing 0 = .ok (.iload_n 0, 1) := by decide +kernel
theorem dX7_tideByDividing_1 : decode cX7_tideByDividing 1 = .ok (.bipush 16, 2) := by decide +kernel
theorem dX7_tideByDividing_3 : decode cX7_tideByDividing 3 = .ok (.irem, 1) := by decide +kernel
theorem dX7_tideByDividing_4 : decode cX7_tideByDividing 4 = .ok (.istore_n 1, 1) := by decide +kernel
theorem dX7_tideByDividing_5 : decode cX7_tideByDividing 5 = .ok (.iload_n 1, 1) := by decide +kernel
theorem dX7_tideByDividing_6 : decode cX7_tideByDividing 6 = .ok (.bipush 8, 2) := by decide +kernel
theorem dX7_tideByDividing_8 : decode cX7_tideByDividing 8 = .ok (.if_icmp .gt 10, 3) := by decide +kernel
theorem dX7_tideByDividing_11 : decode cX7_tideByDividing 11 = .ok (.bipush 8, 2) := by decide +kernel
theorem dX7_tideByDividing_13 : decode cX7_tideByDividing 13 = .ok (.iload_n 1, 1) := by decide +kernel
theorem dX7_tideByDividing_14 : decode cX7_tideByDividing 14 = .ok (.isub, 1) := by decide +kernel
theorem dX7_tideByDividing_15 : decode cX7_tideByDividing 15 = .ok (.goto 7, 3) := by decide +kernel
theorem dX7_tideByDividing_18 : decode cX7_tideByDividing 18 = .ok (.iload_n 1, 1) := by decide +kernel
theorem dX7_tideByDividing_19 : decode cX7_tideByDividing 19 = .ok (.bipush 8, 2) := by decide +kernel
theorem dX7_tideByDividing_21 : decode cX7_tideByDividing 21 = .ok (.isub, 1) := by decide +kernel
theorem dX7_tideByDividing_22 : decode cX7_tideByDividing 22 = .ok (.ireturn, 1) := by decide +kernel
