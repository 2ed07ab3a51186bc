theorem dX8_init_0 : decode cX8_init 0 = .ok (.aload_n 0, 1) := by decide +kernel
theorem dX8_init_1 : decode cX8_init 1 = .ok (.invokespecial 3, 3) := by decide +kernel
theorem dX8_init_4 : decode cX8_init 4 = .ok (.aload_n 0, 1) := by decide +kernel
theorem dX8_init_5 : decode cX8_init 5 = .ok (.bipush 103, 2) := by decide +kernel
theorem dX8_init_7 : decode cX8_init 7 = .ok (.newarray .int, 2) := by decide +kernel
theorem dX8_init_9 : decode cX8_init 9 = .ok (.putfield 9, 3) := by decide +kernel
theorem dX8_init_12 : decode cX8_init 12 = .ok (.aload_n 0, 1) := by decide +kernel
theorem dX8_init_13 : decode cX8_init 13 = .ok (.bipush 103, 2) := by decide +kernel
theorem dX8_init_15 : decode cX8_init 15 = .ok (.newarray .int, 2) := by decide +kernel
theorem dX8_init_17 : decode cX8_init 17 = .ok (.putfield 13, 3) := by decide +kernel
theorem dX8_init_20 : decode cX8_init 20 = .ok (.aload_n 0, 1) := by decide +kernel
theorem dX8_init_21 : decode cX8_init 21 = .ok (.bipush 103, 2) := by decide +kernel
theorem dX8_init_23 : decode cX8_init 23 = .ok (.newarray .int, 2) := by decide +kernel
theorem dX8_init_25 : decode cX8_init 25 = .ok (.putfield 16, 3) := by decide +kernel
theorem dX8_init_28 : decode cX8_init 28 = .ok (.aload_n 0, 1) := by decide +kernel
theorem dX8_init_29 : decode cX8_init 29 = .ok (.sipush 618, 3) := by decide +kernel
theorem dX8_init_32 : decode cX8_init 32 = .ok (.newarray .int, 2) := by decide +kernel
theorem dX8_init_34 : decode cX8_init 34 = .ok (.putfield 19, 3) := by decide +kernel
theorem dX8_init_37 : decode cX8_init 37 = .ok (.aload_n 0, 1) := by decide +kernel
theorem dX8_init_38 : decode cX8_init 38 = .ok (.bipush 45, 2) := by decide +kernel
theorem dX8_init_40 : decode cX8_init 40 = .ok (.newarray .int, 2) := by decide +kernel
theorem dX8_init_42 : decode cX8_init 42 = .ok (.putfield 22, 3) := by decide +kernel
theorem dX8_init_45 : decode cX8_init 45 = .ok (.aload_n 0, 1) := by decide +kernel
theorem dX8_init_46 : decode cX8_init 46 = .ok (.iconst (-1), 1) := by decide +kernel
theorem dX8_init_47 : decode cX8_init 47 = .ok (.putfield 25, 3) := by decide +kernel
theorem dX8_init_50 : decode cX8_init 50 = .ok (.aload_n 0, 1) := by decide +kernel
theorem dX8_init_51 : decode cX8_init 51 = .ok (.iconst (-1), 1) := by decide +kernel
theorem dX8_init_52 : decode cX8_init 52 = .ok (.putfield 29, 3) := by decide +kernel
theorem dX8_init_55 : decode cX8_init 55 = .ok (.aload_n 0, 1) := by decide +kernel
theorem dX8_init_56 : decode cX8_init 56 = .ok (.bipush 40, 2) := by decide +kernel
theorem dX8_init_58 : decode cX8_init 58 = .ok (.newarray .int, 2) := by decide +kernel
theorem dX8_init_60 : decode cX8_init 60 = .ok (.putfield 32, 3) := by decide +kernel
theorem dX8_init_63 : decode cX8_init 63 = .ok (.aload_n 0, 1) := by decide +kernel
theorem dX8_init_64 : decode cX8_init 64 = .ok (.bipush 60, 2) := by decide +kernel
theorem dX8_init_66 : decode cX8_init 66 = .ok (.newarray .int, 2) := by decide +kernel
theorem dX8_init_68 : decode cX8_init 68 = .ok (.putfield 35, 3) := by decide +kernel
theorem dX8_init_71 : decode cX8_init 71 = .ok (.aload_n 0, 1) := by decide +kernel
theorem dX8_init_72 : decode cX8_init 72 = .ok (.bipush 124, 2) := by decide +kernel
theorem dX8_init_74 : decode cX8_init 74 = .ok (.newarray .int, 2) := by decide +kernel
theorem dX8_init_76 : decode cX8_init 76 = .ok (.putfield 38, 3) := by decide +kernel
theorem dX8_init_79 : decode cX8_init 79 = .ok (.aload_n 0, 1) := by decide +kernel
theorem dX8_init_80 : decode cX8_init 80 = .ok (.getfield 9, 3) := by decide +kernel
theorem dX8_init_83 : decode cX8_init 83 = .ok (.iconst 2, 1) := by decide +kernel
theorem dX8_init_84 : decode cX8_init 84 = .ok (.bipush 22, 2) := by decide +kernel
theorem dX8_init_86 : decode cX8_init 86 = .ok (.iastore, 1) := by decide +kernel
theorem dX8_init_87 : decode cX8_init 87 = .ok (.aload_n 0, 1) := by decide +kernel
theorem dX8_init_88 : decode cX8_init 88 = .ok (.getfield 9, 3) := by decide +kernel
theorem dX8_init_91 : decode cX8_init 91 = .ok (.iconst 3, 1) := by decide +kernel
theorem dX8_init_92 : decode cX8_init 92 = .ok (.iconst (-1), 1) := by decide +kernel
theorem dX8_init_93 : decode cX8_init 93 = .ok (.iastore, 1) := by decide +kernel
theorem dX8_init_94 : decode cX8_init 94 = .ok (.return_, 1) := by decide +kernel
theorem dX8_thrown_0 : decode cX8_thrown 0 = .ok (.aload_n 0, 1) := by decide +kernel
theorem dX8_thrown_1 : decode cX8_thrown 1 = .ok (.getfield 41, 3) := by decide +kernel
theorem dX8_thrown_4 : decode cX8_thrown 4 = .ok (.ireturn, 1) := by decide +kernel
theorem dX8_isIn_0 : decode cX8_isIn 0 = .ok (.iload_n 0, 1) := by decide +kernel
theorem dX8_isIn_1 : decode cX8_isIn 1 = .ok (.iload_n 1, 1) := by decide +kernel
theorem dX8_isIn_2 : decode cX8_isIn 2 = .ok (.if_icmp .lt 12, 3) := by decide +kernel
theorem dX8_isIn_5 : decode cX8_isIn 5 = .ok (.iload_n 0, 1) := by decide +kernel
theorem dX8_isIn_6 : decode cX8_isIn 6 = .ok (.iload_n 2, 1) := by decide +kernel
theorem dX8_isIn_7 : decode cX8_isIn 7 = .ok (.if_icmp .gt 7, 3) := by decide +kernel
theorem dX8_isIn_10 : decode cX8_isIn 10 = .ok (.iconst 1, 1) := by decide +kernel
theorem dX8_isIn_11 : decode cX8_isIn 11 = .ok (.goto 4, 3) := by decide +kernel
theorem dX8_isIn_14 : decode cX8_isIn 14 = .ok (.iconst 0, 1) := by decide +kernel
theorem dX8_isIn_15 : decode cX8_isIn 15 = .ok (.ireturn, 1) := by decide +kernel
theorem dX8_lesser_0 : decode cX8_lesser 0 = .ok (.iload_n 0, 1) := by decide +kernel
theorem dX8_lesser_1 : decode cX8_lesser 1 = .ok (.iload_n 1, 1) := by decide +kernel
theorem dX8_lesser_2 : decode cX8_lesser 2 = .ok (.if_icmp .ge 7, 3) := by decide +kernel
theorem dX8_lesser_5 : decode cX8_lesser 5 = .ok (.iload_n 0, 1) := by decide +kernel
theorem dX8_lesser_6 : decode cX8_lesser 6 = .ok (.goto 4, 3) := by decide +kernel
theorem dX8_lesser_9 : decode cX8_lesser 9 = .ok (.iload_n 1, 1) := by decide +kernel
theorem dX8_lesser_10 : decode cX8_lesser 10 = .ok (.ireturn, 1) := by decide +kernel
theorem dX8_between_0 : decode cX8_between 0 = .ok (.iload_n 0, 1) := by decide +kernel
theorem dX8_between_1 : decode cX8_between 1 = .ok (.iload_n 1, 1) := by decide +kernel
theorem dX8_between_2 : decode cX8_between 2 = .ok (.if_icmp .le 9, 3) := by decide +kernel
theorem dX8_between_5 : decode cX8_between 5 = .ok (.iload_n 0, 1) := by decide +kernel
theorem dX8_between_6 : decode cX8_between 6 = .ok (.iload_n 1, 1) := by decide +kernel
theorem dX8_between_7 : decode cX8_between 7 = .ok (.isub, 1) := by decide +kernel
theorem dX8_between_8 : decode cX8_between 8 = .ok (.goto 6, 3) := by decide +kernel
theorem dX8_between_11 : decode cX8_between 11 = .ok (.iload_n 1, 1) := by decide +kernel
theorem dX8_between_12 : decode cX8_between 12 = .ok (.iload_n 0, 1) := by decide +kernel
theorem dX8_between_13 : decode cX8_between 13 = .ok (.isub, 1) := by decide +kernel
theorem dX8_between_14 : decode cX8_between 14 = .ok (.ireturn, 1) := by decide +kernel
theorem dX8_copies_0 : decode cX8_copies 0 = .ok (.iconst 0, 1) := by decide +kernel
theorem dX8_copies_1 : decode cX8_copies 1 = .ok (.istore 4, 2) := by decide +kernel
theorem dX8_copies_3 : decode cX8_copies 3 = .ok (.iload 4, 2) := by decide +kernel
theorem dX8_copies_5 : decode cX8_copies 5 = .ok (.bipush 103, 2) := by decide +kernel
theorem dX8_copies_7 : decode cX8_copies 7 = .ok (.if_icmp .ge 21, 3) := by decide +kernel
theorem dX8_copies_10 : decode cX8_copies 10 = .ok (.aload_n 2, 1) := by decide +kernel
theorem dX8_copies_11 : decode cX8_copies 11 = .ok (.iload_n 3, 1) := by decide +kernel
theorem dX8_copies_12 : decode cX8_copies 12 = .ok (.iload 4, 2) := by decide +kernel
theorem dX8_copies_14 : decode cX8_copies 14 = .ok (.iadd, 1) := by decide +kernel
theorem dX8_copies_15 : decode cX8_copies 15 = .ok (.aload_n 0, 1) := by decide +kernel
theorem dX8_copies_16 : decode cX8_copies 16 = .ok (.iload_n 1, 1) := by decide +kernel
theorem dX8_copies_17 : decode cX8_copies 17 = .ok (.iload 4, 2) := by decide +kernel
theorem dX8_copies_19 : decode cX8_copies 19 = .ok (.iadd, 1) := by decide +kernel
theorem dX8_copies_20 : decode cX8_copies 20 = .ok (.iaload, 1) := by decide +kernel
theorem dX8_copies_21 : decode cX8_copies 21 = .ok (.iastore, 1) := by decide +kernel
theorem dX8_copies_22 : decode cX8_copies 22 = .ok (.iinc 4 1, 3) := by decide +kernel
theorem dX8_copies_25 : decode cX8_copies 25 = .ok (.goto (-22), 3) := by decide +kernel
theorem dX8_copies_28 : decode cX8_copies 28 = .ok (.return_, 1) := by decide +kernel
theorem dX8_keeps_0 : decode cX8_keeps 0 = .ok (.aload_n 0, 1) := by decide +kernel
theorem dX8_keeps_1 : decode cX8_keeps 1 = .ok (.getfield 9, 3) := by decide +kernel
theorem dX8_keeps_4 : decode cX8_keeps 4 = .ok (.iconst 0, 1) := by decide +kernel
theorem dX8_keeps_5 : decode cX8_keeps 5 = .ok (.aload_n 0, 1) := by decide +kernel
theorem dX8_keeps_6 : decode cX8_keeps 6 = .ok (.getfield 13, 3) := by decide +kernel
theorem dX8_keeps_9 : decode cX8_keeps 9 = .ok (.iconst 0, 1) := by decide +kernel
theorem dX8_keeps_10 : decode cX8_keeps 10 = .ok (.invokestatic 44, 3) := by decide +kernel
theorem dX8_keeps_13 : decode cX8_keeps 13 = .ok (.aload_n 0, 1) := by decide +kernel
theorem dX8_keeps_14 : decode cX8_keeps 14 = .ok (.iconst 0, 1) := by decide +kernel
theorem dX8_keeps_15 : decode cX8_keeps 15 = .ok (.putfield 41, 3) := by decide +kernel
theorem dX8_keeps_18 : decode cX8_keeps 18 = .ok (.return_, 1) := by decide +kernel
theorem dX8_changed_0 : decode cX8_changed 0 = .ok (.aload_n 0, 1) := by decide +kernel
theorem dX8_changed_1 : decode cX8_changed 1 = .ok (.getfield 48, 3) := by decide +kernel
theorem dX8_changed_4 : decode cX8_changed 4 = .ok (.bipush 6, 2) := by decide +kernel
theorem dX8_changed_6 : decode cX8_changed 6 = .ok (.if_icmp .ne 48, 3) := by decide +kernel
theorem dX8_changed_9 : decode cX8_changed 9 = .ok (.iconst 1, 1) := by decide +kernel
theorem dX8_changed_10 : decode cX8_changed 10 = .ok (.istore_n 1, 1) := by decide +kernel
theorem dX8_changed_11 : decode cX8_changed 11 = .ok (.iload_n 1, 1) := by decide +kernel
theorem dX8_changed_12 : decode cX8_changed 12 = .ok (.bipush 6, 2) := by decide +kernel
theorem dX8_changed_14 : decode cX8_changed 14 = .ok (.if_icmp .ge 30, 3) := by decide +kernel
theorem dX8_changed_17 : decode cX8_changed 17 = .ok (.aload_n 0, 1) := by decide +kernel
theorem dX8_changed_18 : decode cX8_changed 18 = .ok (.getfield 19, 3) := by decide +kernel
theorem dX8_changed_21 : decode cX8_changed 21 = .ok (.bipush 103, 2) := by decide +kernel
theorem dX8_changed_23 : decode cX8_changed 23 = .ok (.iload_n 1, 1) := by decide +kernel
theorem dX8_changed_24 : decode cX8_changed 24 = .ok (.imul, 1) := by decide +kernel
theorem dX8_changed_25 : decode cX8_changed 25 = .ok (.aload_n 0, 1) := by decide +kernel
theorem dX8_changed_26 : decode cX8_changed 26 = .ok (.getfield 19, 3) := by decide +kernel
theorem dX8_changed_29 : decode cX8_changed 29 = .ok (.bipush 103, 2) := by decide +kernel
theorem dX8_changed_31 : decode cX8_changed 31 = .ok (.iload_n 1, 1) := by decide +kernel
theorem dX8_changed_32 : decode cX8_changed 32 = .ok (.iconst 1, 1) := by decide +kernel
theorem dX8_changed_33 : decode cX8_changed 33 = .ok (.isub, 1) := by decide +kernel
theorem dX8_changed_34 : decode cX8_changed 34 = .ok (.imul, 1) := by decide +kernel
theorem dX8_changed_35 : decode cX8_changed 35 = .ok (.invokestatic 44, 3) := by decide +kernel
theorem dX8_changed_38 : decode cX8_changed 38 = .ok (.iinc 1 1, 3) := by decide +kernel
theorem dX8_changed_41 : decode cX8_changed 41 = .ok (.goto (-30), 3) := by decide +kernel
theorem dX8_changed_44 : decode cX8_changed 44 = .ok (.aload_n 0, 1) := by decide +kernel
theorem dX8_changed_45 : decode cX8_changed 45 = .ok (.dup, 1) := by decide +kernel
theorem dX8_changed_46 : decode cX8_changed 46 = .ok (.getfield 48, 3) := by decide +kernel
theorem dX8_changed_49 : decode cX8_changed 49 = .ok (.iconst 1, 1) := by decide +kernel
theorem dX8_changed_50 : decode cX8_changed 50 = .ok (.isub, 1) := by decide +kernel
theorem dX8_changed_51 : decode cX8_changed 51 = .ok (.putfield 48, 3) := by decide +kernel
theorem dX8_changed_54 : decode cX8_changed 54 = .ok (.aload_n 0, 1) := by decide +kernel
theorem dX8_changed_55 : decode cX8_changed 55 = .ok (.getfield 13, 3) := by decide +kernel
theorem dX8_changed_58 : decode cX8_changed 58 = .ok (.iconst 0, 1) := by decide +kernel
theorem dX8_changed_59 : decode cX8_changed 59 = .ok (.aload_n 0, 1) := by decide +kernel
theorem dX8_changed_60 : decode cX8_changed 60 = .ok (.getfield 19, 3) := by decide +kernel
theorem dX8_changed_63 : decode cX8_changed 63 = .ok (.bipush 103, 2) := by decide +kernel
theorem dX8_changed_65 : decode cX8_changed 65 = .ok (.aload_n 0, 1) := by decide +kernel
theorem dX8_changed_66 : decode cX8_changed 66 = .ok (.getfield 48, 3) := by decide +kernel
theorem dX8_changed_69 : decode cX8_changed 69 = .ok (.imul, 1) := by decide +kernel
theorem dX8_changed_70 : decode cX8_changed 70 = .ok (.invokestatic 44, 3) := by decide +kernel
theorem dX8_changed_73 : decode cX8_changed 73 = .ok (.aload_n 0, 1) := by decide +kernel
theorem dX8_changed_74 : decode cX8_changed 74 = .ok (.dup, 1) := by decide +kernel
theorem dX8_changed_75 : decode cX8_changed 75 = .ok (.getfield 48, 3) := by decide +kernel
theorem dX8_changed_78 : decode cX8_changed 78 = .ok (.iconst 1, 1) := by decide +kernel
theorem dX8_changed_79 : decode cX8_changed 79 = .ok (.iadd, 1) := by decide +kernel
theorem dX8_changed_80 : decode cX8_changed 80 = .ok (.putfield 48, 3) := by decide +kernel
theorem dX8_changed_83 : decode cX8_changed 83 = .ok (.return_, 1) := by decide +kernel
theorem dX8_ends_0 : decode cX8_ends 0 = .ok (.aload_n 0, 1) := by decide +kernel
theorem dX8_ends_1 : decode cX8_ends 1 = .ok (.getfield 41, 3) := by decide +kernel
theorem dX8_ends_4 : decode cX8_ends 4 = .ok (.ifCond .eq 26, 3) := by decide +kernel
theorem dX8_ends_7 : decode cX8_ends 7 = .ok (.aload_n 0, 1) := by decide +kernel
theorem dX8_ends_8 : decode cX8_ends 8 = .ok (.aload_n 0, 1) := by decide +kernel
theorem dX8_ends_9 : decode cX8_ends 9 = .ok (.getfield 41, 3) := by decide +kernel
theorem dX8_ends_12 : decode cX8_ends 12 = .ok (.bipush 9, 2) := by decide +kernel
theorem dX8_ends_14 : decode cX8_ends 14 = .ok (.if_icmp .ne 7, 3) := by decide +kernel
theorem dX8_ends_17 : decode cX8_ends 17 = .ok (.iload_n 2, 1) := by decide +kernel
theorem dX8_ends_18 : decode cX8_ends 18 = .ok (.goto 7, 3) := by decide +kernel
theorem dX8_ends_21 : decode cX8_ends 21 = .ok (.aload_n 0, 1) := by decide +kernel
theorem dX8_ends_22 : decode cX8_ends 22 = .ok (.getfield 41, 3) := by decide +kernel
theorem dX8_ends_25 : decode cX8_ends 25 = .ok (.putfield 41, 3) := by decide +kernel
theorem dX8_ends_28 : decode cX8_ends 28 = .ok (.iconst 0, 1) := by decide +kernel
theorem dX8_ends_29 : decode cX8_ends 29 = .ok (.ireturn, 1) := by decide +kernel
theorem dX8_ends_30 : decode cX8_ends 30 = .ok (.aload_n 0, 1) := by decide +kernel
theorem dX8_ends_31 : decode cX8_ends 31 = .ok (.invokevirtual 51, 3) := by decide +kernel
theorem dX8_ends_34 : decode cX8_ends 34 = .ok (.iload_n 1, 1) := by decide +kernel
theorem dX8_ends_35 : decode cX8_ends 35 = .ok (.ireturn, 1) := by decide +kernel
theorem dX8_isThrown_0 : decode cX8_isThrown 0 = .ok (.aload_n 0, 1) := by decide +kernel
theorem dX8_isThrown_1 : decode cX8_isThrown 1 = .ok (.iload_n 1, 1) := by decide +kernel
theorem dX8_isThrown_2 : decode cX8_isThrown 2 = .ok (.ifCond .eq 7, 3) := by decide +kernel
theorem dX8_isThrown_5 : decode cX8_isThrown 5 = .ok (.iload_n 2, 1) := by decide +kernel
theorem dX8_isThrown_6 : decode cX8_isThrown 6 = .ok (.goto 4, 3) := by decide +kernel
theorem dX8_isThrown_9 : decode cX8_isThrown 9 = .ok (.iconst 0, 1) := by decide +kernel
theorem dX8_isThrown_10 : decode cX8_isThrown 10 = .ok (.putfield 41, 3) := by decide +kernel
theorem dX8_isThrown_13 : decode cX8_isThrown 13 = .ok (.iload_n 1, 1) := by decide +kernel
theorem dX8_isThrown_14 : decode cX8_isThrown 14 = .ok (.ireturn, 1) := by decide +kernel
theorem dX8_isRefused_0 : decode cX8_isRefused 0 = .ok (.iload_n 1, 1) := by decide +kernel
theorem dX8_isRefused_1 : decode cX8_isRefused 1 = .ok (.ifCond .eq 24, 3) := by decide +kernel
theorem dX8_isRefused_4 : decode cX8_isRefused 4 = .ok (.aload_n 0, 1) := by decide +kernel
theorem dX8_isRefused_5 : decode cX8_isRefused 5 = .ok (.iload_n 2, 1) := by decide +kernel
theorem dX8_isRefused_6 : decode cX8_isRefused 6 = .ok (.putfield 54, 3) := by decide +kernel
theorem dX8_isRefused_9 : decode cX8_isRefused 9 = .ok (.aload_n 0, 1) := by decide +kernel
theorem dX8_isRefused_10 : decode cX8_isRefused 10 = .ok (.iload_n 3, 1) := by decide +kernel
theorem dX8_isRefused_11 : decode cX8_isRefused 11 = .ok (.putfield 57, 3) := by decide +kernel
theorem dX8_isRefused_14 : decode cX8_isRefused 14 = .ok (.aload_n 0, 1) := by decide +kernel
theorem dX8_isRefused_15 : decode cX8_isRefused 15 = .ok (.iconst (-1), 1) := by decide +kernel
theorem dX8_isRefused_16 : decode cX8_isRefused 16 = .ok (.putfield 25, 3) := by decide +kernel
theorem dX8_isRefused_19 : decode cX8_isRefused 19 = .ok (.aload_n 0, 1) := by decide +kernel
theorem dX8_isRefused_20 : decode cX8_isRefused 20 = .ok (.bipush 9, 2) := by decide +kernel
theorem dX8_isRefused_22 : decode cX8_isRefused 22 = .ok (.putfield 41, 3) := by decide +kernel
theorem dX8_isRefused_25 : decode cX8_isRefused 25 = .ok (.iload_n 1, 1) := by decide +kernel
theorem dX8_isRefused_26 : decode cX8_isRefused 26 = .ok (.ireturn, 1) := by decide +kernel
theorem dX8_of_0 : decode cX8_of 0 = .ok (.aload_n 0, 1) := by decide +kernel
theorem dX8_of_1 : decode cX8_of 1 = .ok (.getfield 9, 3) := by decide +kernel
theorem dX8_of_4 : decode cX8_of 4 = .ok (.bipush 13, 2) := by decide +kernel
theorem dX8_of_6 : decode cX8_of 6 = .ok (.bipush 9, 2) := by decide +kernel
theorem dX8_of_8 : decode cX8_of 8 = .ok (.iload_n 1, 1) := by decide +kernel
theorem dX8_of_9 : decode cX8_of 9 = .ok (.imul, 1) := by decide +kernel
theorem dX8_of_10 : decode cX8_of 10 = .ok (.iadd, 1) := by decide +kernel
theorem dX8_of_11 : decode cX8_of 11 = .ok (.iload_n 2, 1) := by decide +kernel
theorem dX8_of_12 : decode cX8_of 12 = .ok (.iadd, 1) := by decide +kernel
theorem dX8_of_13 : decode cX8_of 13 = .ok (.iaload, 1) := by decide +kernel
theorem dX8_of_14 : decode cX8_of 14 = .ok (.ireturn, 1) := by decide +kernel
theorem dX8_sets_0 : decode cX8_sets 0 = .ok (.aload_n 0, 1) := by decide +kernel
theorem dX8_sets_1 : decode cX8_sets 1 = .ok (.getfield 9, 3) := by decide +kernel
theorem dX8_sets_4 : decode cX8_sets 4 = .ok (.bipush 13, 2) := by decide +kernel
theorem dX8_sets_6 : decode cX8_sets 6 = .ok (.bipush 9, 2) := by decide +kernel
theorem dX8_sets_8 : decode cX8_sets 8 = .ok (.iload_n 1, 1) := by decide +kernel
theorem dX8_sets_9 : decode cX8_sets 9 = .ok (.imul, 1) := by decide +kernel
theorem dX8_sets_10 : decode cX8_sets 10 = .ok (.iadd, 1) := by decide +kernel
theorem dX8_sets_11 : decode cX8_sets 11 = .ok (.iload_n 2, 1) := by decide +kernel
theorem dX8_sets_12 : decode cX8_sets 12 = .ok (.iadd, 1) := by decide +kernel
theorem dX8_sets_13 : decode cX8_sets 13 = .ok (.iload_n 3, 1) := by decide +kernel
theorem dX8_sets_14 : decode cX8_sets 14 = .ok (.iastore, 1) := by decide +kernel
theorem dX8_sets_15 : decode cX8_sets 15 = .ok (.return_, 1) := by decide +kernel
theorem dX8_isWhale_0 : decode cX8_isWhale 0 = .ok (.iload_n 1, 1) := by decide +kernel
theorem dX8_isWhale_1 : decode cX8_isWhale 1 = .ok (.iconst 0, 1) := by decide +kernel
theorem dX8_isWhale_2 : decode cX8_isWhale 2 = .ok (.aload_n 0, 1) := by decide +kernel
theorem dX8_isWhale_3 : decode cX8_isWhale 3 = .ok (.getfield 9, 3) := by decide +kernel
theorem dX8_isWhale_6 : decode cX8_isWhale 6 = .ok (.iconst 0, 1) := by decide +kernel
theorem dX8_isWhale_7 : decode cX8_isWhale 7 = .ok (.iaload, 1) := by decide +kernel
theorem dX8_isWhale_8 : decode cX8_isWhale 8 = .ok (.iconst 1, 1) := by decide +kernel
theorem dX8_isWhale_9 : decode cX8_isWhale 9 = .ok (.isub, 1) := by decide +kernel
theorem dX8_isWhale_10 : decode cX8_isWhale 10 = .ok (.invokestatic 60, 3) := by decide +kernel
theorem dX8_isWhale_13 : decode cX8_isWhale 13 = .ok (.ireturn, 1) := by decide +kernel
theorem dX8_isCell_0 : decode cX8_isCell 0 = .ok (.iload_n 0, 1) := by decide +kernel
theorem dX8_isCell_1 : decode cX8_isCell 1 = .ok (.iconst 0, 1) := by decide +kernel
theorem dX8_isCell_2 : decode cX8_isCell 2 = .ok (.bipush 44, 2) := by decide +kernel
theorem dX8_isCell_4 : decode cX8_isCell 4 = .ok (.invokestatic 60, 3) := by decide +kernel
theorem dX8_isCell_7 : decode cX8_isCell 7 = .ok (.ireturn, 1) := by decide +kernel
theorem dX8_apart_0 : decode cX8_apart 0 = .ok (.iload_n 0, 1) := by decide +kernel
theorem dX8_apart_1 : decode cX8_apart 1 = .ok (.bipush 9, 2) := by decide +kernel
theorem dX8_apart_3 : decode cX8_apart 3 = .ok (.idiv, 1) := by decide +kernel
theorem dX8_apart_4 : decode cX8_apart 4 = .ok (.iload_n 1, 1) := by decide +kernel
theorem dX8_apart_5 : decode cX8_apart 5 = .ok (.bipush 9, 2) := by decide +kernel
theorem dX8_apart_7 : decode cX8_apart 7 = .ok (.idiv, 1) := by decide +kernel
theorem dX8_apart_8 : decode cX8_apart 8 = .ok (.invokestatic 64, 3) := by decide +kernel
theorem dX8_apart_11 : decode cX8_apart 11 = .ok (.iload_n 0, 1) := by decide +kernel
theorem dX8_apart_12 : decode cX8_apart 12 = .ok (.bipush 9, 2) := by decide +kernel
theorem dX8_apart_14 : decode cX8_apart 14 = .ok (.irem, 1) := by decide +kernel
theorem dX8_apart_15 : decode cX8_apart 15 = .ok (.iload_n 1, 1) := by decide +kernel
theorem dX8_apart_16 : decode cX8_apart 16 = .ok (.bipush 9, 2) := by decide +kernel
theorem dX8_apart_18 : decode cX8_apart 18 = .ok (.irem, 1) := by decide +kernel
theorem dX8_apart_19 : decode cX8_apart 19 = .ok (.invokestatic 64, 3) := by decide +kernel
theorem dX8_apart_22 : decode cX8_apart 22 = .ok (.iadd, 1) := by decide +kernel
theorem dX8_apart_23 : decode cX8_apart 23 = .ok (.ireturn, 1) := by decide +kernel
theorem dX8_tideAt_0 : decode cX8_tideAt 0 = .ok (.bipush 8, 2) := by decide +kernel
theorem dX8_tideAt_2 : decode cX8_tideAt 2 = .ok (.iload_n 0, 1) := by decide +kernel
theorem dX8_tideAt_3 : decode cX8_tideAt 3 = .ok (.bipush 16, 2) := by decide +kernel
theorem dX8_tideAt_5 : decode cX8_tideAt 5 = .ok (.irem, 1) := by decide +kernel
theorem dX8_tideAt_6 : decode cX8_tideAt 6 = .ok (.invokestatic 64, 3) := by decide +kernel
theorem dX8_tideAt_9 : decode cX8_tideAt 9 = .ok (.ireturn, 1) := by decide +kernel
theorem dX8_isDryAt_0 : decode cX8_isDryAt 0 = .ok (.iload_n 2, 1) := by decide +kernel
theorem dX8_isDryAt_1 : decode cX8_isDryAt 1 = .ok (.invokestatic 68, 3) := by decide +kernel
theorem dX8_isDryAt_4 : decode cX8_isDryAt 4 = .ok (.iconst 2, 1) := by decide +kernel
theorem dX8_isDryAt_5 : decode cX8_isDryAt 5 = .ok (.if_icmp .gt 19, 3) := by decide +kernel
theorem dX8_isDryAt_8 : decode cX8_isDryAt 8 = .ok (.iload_n 1, 1) := by decide +kernel
theorem dX8_isDryAt_9 : decode cX8_isDryAt 9 = .ok (.bipush 9, 2) := by decide +kernel
theorem dX8_isDryAt_11 : decode cX8_isDryAt 11 = .ok (.if_icmp .lt 9, 3) := by decide +kernel
theorem dX8_isDryAt_14 : decode cX8_isDryAt 14 = .ok (.iload_n 1, 1) := by decide +kernel
theorem dX8_isDryAt_15 : decode cX8_isDryAt 15 = .ok (.bipush 36, 2) := by decide +kernel
theorem dX8_isDryAt_17 : decode cX8_isDryAt 17 = .ok (.if_icmp .lt 7, 3) := by decide +kernel
theorem dX8_isDryAt_20 : decode cX8_isDryAt 20 = .ok (.iconst 1, 1) := by decide +kernel
theorem dX8_isDryAt_21 : decode cX8_isDryAt 21 = .ok (.goto 4, 3) := by decide +kernel
theorem dX8_isDryAt_24 : decode cX8_isDryAt 24 = .ok (.iconst 0, 1) := by decide +kernel
theorem dX8_isDryAt_25 : decode cX8_isDryAt 25 = .ok (.ireturn, 1) := by decide +kernel
theorem dX8_isDryNow_0 : decode cX8_isDryNow 0 = .ok (.aload_n 0, 1) := by decide +kernel
theorem dX8_isDryNow_1 : decode cX8_isDryNow 1 = .ok (.iload_n 1, 1) := by decide +kernel
theorem dX8_isDryNow_2 : decode cX8_isDryNow 2 = .ok (.aload_n 0, 1) := by decide +kernel
theorem dX8_isDryNow_3 : decode cX8_isDryNow 3 = .ok (.getfield 9, 3) := by decide +kernel
theorem dX8_isDryNow_6 : decode cX8_isDryNow 6 = .ok (.iconst 1, 1) := by decide +kernel
theorem dX8_isDryNow_7 : decode cX8_isDryNow 7 = .ok (.iaload, 1) := by decide +kernel
theorem dX8_isDryNow_8 : decode cX8_isDryNow 8 = .ok (.invokevirtual 72, 3) := by decide +kernel
theorem dX8_isDryNow_11 : decode cX8_isDryNow 11 = .ok (.ireturn, 1) := by decide +kernel
theorem dX8_isDry_0 : decode cX8_isDry 0 = .ok (.aload_n 0, 1) := by decide +kernel
theorem dX8_isDry_1 : decode cX8_isDry 1 = .ok (.iload_n 1, 1) := by decide +kernel
theorem dX8_isDry_2 : decode cX8_isDry 2 = .ok (.invokestatic 76, 3) := by decide +kernel
theorem dX8_isDry_5 : decode cX8_isDry 5 = .ok (.ifCond .ne 7, 3) := by decide +kernel
theorem dX8_isDry_8 : decode cX8_isDry 8 = .ok (.iconst 1, 1) := by decide +kernel
theorem dX8_isDry_9 : decode cX8_isDry 9 = .ok (.goto 4, 3) := by decide +kernel
theorem dX8_isDry_12 : decode cX8_isDry 12 = .ok (.iconst 0, 1) := by decide +kernel
theorem dX8_isDry_13 : decode cX8_isDry 13 = .ok (.iconst 1, 1) := by decide +kernel
theorem dX8_isDry_14 : decode cX8_isDry 14 = .ok (.invokevirtual 80, 3) := by decide +kernel
theorem dX8_isDry_17 : decode cX8_isDry 17 = .ok (.ifCond .ne 15, 3) := by decide +kernel
theorem dX8_isDry_20 : decode cX8_isDry 20 = .ok (.aload_n 0, 1) := by decide +kernel
theorem dX8_isDry_21 : decode cX8_isDry 21 = .ok (.iload_n 1, 1) := by decide +kernel
theorem dX8_isDry_22 : decode cX8_isDry 22 = .ok (.invokevirtual 84, 3) := by decide +kernel
theorem dX8_isDry_25 : decode cX8_isDry 25 = .ok (.ifCond .eq 7, 3) := by decide +kernel
theorem dX8_isDry_28 : decode cX8_isDry 28 = .ok (.iconst 1, 1) := by decide +kernel
theorem dX8_isDry_29 : decode cX8_isDry 29 = .ok (.goto 4, 3) := by decide +kernel
theorem dX8_isDry_32 : decode cX8_isDry 32 = .ok (.iconst 0, 1) := by decide +kernel
theorem dX8_isDry_33 : decode cX8_isDry 33 = .ok (.ireturn, 1) := by decide +kernel
theorem dX8_tide_0 : decode cX8_tide 0 = .ok (.aload_n 0, 1) := by decide +kernel
theorem dX8_tide_1 : decode cX8_tide 1 = .ok (.iload_n 1, 1) := by decide +kernel
theorem dX8_tide_2 : decode cX8_tide 2 = .ok (.iconst 0, 1) := by decide +kernel
theorem dX8_tide_3 : decode cX8_tide 3 = .ok (.sipush 999, 3) := by decide +kernel
theorem dX8_tide_6 : decode cX8_tide 6 = .ok (.invokestatic 60, 3) := by decide +kernel
theorem dX8_tide_9 : decode cX8_tide 9 = .ok (.ifCond .ne 7, 3) := by decide +kernel
theorem dX8_tide_12 : decode cX8_tide 12 = .ok (.iconst 1, 1) := by decide +kernel
theorem dX8_tide_13 : decode cX8_tide 13 = .ok (.goto 4, 3) := by decide +kernel
theorem dX8_tide_16 : decode cX8_tide 16 = .ok (.iconst 0, 1) := by decide +kernel
theorem dX8_tide_17 : decode cX8_tide 17 = .ok (.iconst 1, 1) := by decide +kernel
theorem dX8_tide_18 : decode cX8_tide 18 = .ok (.invokevirtual 80, 3) := by decide +kernel
theorem dX8_tide_21 : decode cX8_tide 21 = .ok (.ifCond .eq 7, 3) := by decide +kernel
theorem dX8_tide_24 : decode cX8_tide 24 = .ok (.iconst 0, 1) := by decide +kernel
theorem dX8_tide_25 : decode cX8_tide 25 = .ok (.goto 7, 3) := by decide +kernel
theorem dX8_tide_28 : decode cX8_tide 28 = .ok (.iload_n 1, 1) := by decide +kernel
theorem dX8_tide_29 : decode cX8_tide 29 = .ok (.invokestatic 68, 3) := by decide +kernel
theorem dX8_tide_32 : decode cX8_tide 32 = .ok (.ireturn, 1) := by decide +kernel
theorem dX8_tideAgain_0 : decode cX8_tideAgain 0 = .ok (.aload_n 0, 1) := by decide +kernel
theorem dX8_tideAgain_1 : decode cX8_tideAgain 1 = .ok (.iload_n 1, 1) := by decide +kernel
theorem dX8_tideAgain_2 : decode cX8_tideAgain 2 = .ok (.invokevirtual 87, 3) := by decide +kernel
theorem dX8_tideAgain_5 : decode cX8_tideAgain 5 = .ok (.ireturn, 1) := by decide +kernel
theorem dX8_turnsIn_0 : decode cX8_turnsIn 0 = .ok (.aload_n 0, 1) := by decide +kernel
theorem dX8_turnsIn_1 : decode cX8_turnsIn 1 = .ok (.iload_n 1, 1) := by decide +kernel
theorem dX8_turnsIn_2 : decode cX8_turnsIn 2 = .ok (.invokestatic 76, 3) := by decide +kernel
theorem dX8_turnsIn_5 : decode cX8_turnsIn 5 = .ok (.ifCond .ne 7, 3) := by decide +kernel
theorem dX8_turnsIn_8 : decode cX8_turnsIn 8 = .ok (.iconst 1, 1) := by decide +kernel
theorem dX8_turnsIn_9 : decode cX8_turnsIn 9 = .ok (.goto 4, 3) := by decide +kernel
theorem dX8_turnsIn_12 : decode cX8_turnsIn 12 = .ok (.iconst 0, 1) := by decide +kernel
theorem dX8_turnsIn_13 : decode cX8_turnsIn 13 = .ok (.iconst 1, 1) := by decide +kernel
theorem dX8_turnsIn_14 : decode cX8_turnsIn 14 = .ok (.invokevirtual 80, 3) := by decide +kernel
theorem dX8_turnsIn_17 : decode cX8_turnsIn 17 = .ok (.ifCond .ne 19, 3) := by decide +kernel
theorem dX8_turnsIn_20 : decode cX8_turnsIn 20 = .ok (.aload_n 0, 1) := by decide +kernel
theorem dX8_turnsIn_21 : decode cX8_turnsIn 21 = .ok (.iload_n 1, 1) := by decide +kernel
theorem dX8_turnsIn_22 : decode cX8_turnsIn 22 = .ok (.bipush 9, 2) := by decide +kernel
theorem dX8_turnsIn_24 : decode cX8_turnsIn 24 = .ok (.bipush 35, 2) := by decide +kernel
theorem dX8_turnsIn_26 : decode cX8_turnsIn 26 = .ok (.invokestatic 60, 3) := by decide +kernel
theorem dX8_turnsIn_29 : decode cX8_turnsIn 29 = .ok (.iconst 2, 1) := by decide +kernel
theorem dX8_turnsIn_30 : decode cX8_turnsIn 30 = .ok (.invokevirtual 80, 3) := by decide +kernel
theorem dX8_turnsIn_33 : decode cX8_turnsIn 33 = .ok (.ifCond .eq 5, 3) := by decide +kernel
theorem dX8_turnsIn_36 : decode cX8_turnsIn 36 = .ok (.iconst 0, 1) := by decide +kernel
theorem dX8_turnsIn_37 : decode cX8_turnsIn 37 = .ok (.ireturn, 1) := by decide +kernel
theorem dX8_turnsIn_38 : decode cX8_turnsIn 38 = .ok (.iconst 0, 1) := by decide +kernel
theorem dX8_turnsIn_39 : decode cX8_turnsIn 39 = .ok (.istore_n 2, 1) := by decide +kernel
theorem dX8_turnsIn_40 : decode cX8_turnsIn 40 = .ok (.aload_n 0, 1) := by decide +kernel
theorem dX8_turnsIn_41 : decode cX8_turnsIn 41 = .ok (.iload_n 1, 1) := by decide +kernel
theorem dX8_turnsIn_42 : decode cX8_turnsIn 42 = .ok (.aload_n 0, 1) := by decide +kernel
theorem dX8_turnsIn_43 : decode cX8_turnsIn 43 = .ok (.getfield 9, 3) := by decide +kernel
theorem dX8_turnsIn_46 : decode cX8_turnsIn 46 = .ok (.iconst 1, 1) := by decide +kernel
theorem dX8_turnsIn_47 : decode cX8_turnsIn 47 = .ok (.iaload, 1) := by decide +kernel
theorem dX8_turnsIn_48 : decode cX8_turnsIn 48 = .ok (.iload_n 2, 1) := by decide +kernel
theorem dX8_turnsIn_49 : decode cX8_turnsIn 49 = .ok (.iadd, 1) := by decide +kernel
theorem dX8_turnsIn_50 : decode cX8_turnsIn 50 = .ok (.invokevirtual 72, 3) := by decide +kernel
theorem dX8_turnsIn_53 : decode cX8_turnsIn 53 = .ok (.aload_n 0, 1) := by decide +kernel
theorem dX8_turnsIn_54 : decode cX8_turnsIn 54 = .ok (.iload_n 1, 1) := by decide +kernel
theorem dX8_turnsIn_55 : decode cX8_turnsIn 55 = .ok (.invokevirtual 84, 3) := by decide +kernel
theorem dX8_turnsIn_58 : decode cX8_turnsIn 58 = .ok (.if_icmp .ne 9, 3) := by decide +kernel
theorem dX8_turnsIn_61 : decode cX8_turnsIn 61 = .ok (.iinc 2 1, 3) := by decide +kernel
theorem dX8_turnsIn_64 : decode cX8_turnsIn 64 = .ok (.goto (-24), 3) := by decide +kernel
theorem dX8_turnsIn_67 : decode cX8_turnsIn 67 = .ok (.iload_n 2, 1) := by decide +kernel
theorem dX8_turnsIn_68 : decode cX8_turnsIn 68 = .ok (.ireturn, 1) := by decide +kernel
theorem dX8_whaleAt_0 : decode cX8_whaleAt 0 = .ok (.iconst 0, 1) := by decide +kernel
theorem dX8_whaleAt_1 : decode cX8_whaleAt 1 = .ok (.istore_n 2, 1) := by decide +kernel
theorem dX8_whaleAt_2 : decode cX8_whaleAt 2 = .ok (.iload_n 2, 1) := by decide +kernel
theorem dX8_whaleAt_3 : decode cX8_whaleAt 3 = .ok (.aload_n 0, 1) := by decide +kernel
theorem dX8_whaleAt_4 : decode cX8_whaleAt 4 = .ok (.getfield 9, 3) := by decide +kernel
theorem dX8_whaleAt_7 : decode cX8_whaleAt 7 = .ok (.iconst 0, 1) := by decide +kernel
theorem dX8_whaleAt_8 : decode cX8_whaleAt 8 = .ok (.iaload, 1) := by decide +kernel
theorem dX8_whaleAt_9 : decode cX8_whaleAt 9 = .ok (.if_icmp .ge 21, 3) := by decide +kernel
theorem dX8_whaleAt_12 : decode cX8_whaleAt 12 = .ok (.aload_n 0, 1) := by decide +kernel
theorem dX8_whaleAt_13 : decode cX8_whaleAt 13 = .ok (.iload_n 2, 1) := by decide +kernel
theorem dX8_whaleAt_14 : decode cX8_whaleAt 14 = .ok (.iconst 4, 1) := by decide +kernel
theorem dX8_whaleAt_15 : decode cX8_whaleAt 15 = .ok (.invokevirtual 90, 3) := by decide +kernel
theorem dX8_whaleAt_18 : decode cX8_whaleAt 18 = .ok (.iload_n 1, 1) := by decide +kernel
theorem dX8_whaleAt_19 : decode cX8_whaleAt 19 = .ok (.if_icmp .ne 5, 3) := by decide +kernel
theorem dX8_whaleAt_22 : decode cX8_whaleAt 22 = .ok (.iload_n 2, 1) := by decide +kernel
theorem dX8_whaleAt_23 : decode cX8_whaleAt 23 = .ok (.ireturn, 1) := by decide +kernel
theorem dX8_whaleAt_24 : decode cX8_whaleAt 24 = .ok (.iinc 2 1, 3) := by decide +kernel
theorem dX8_whaleAt_27 : decode cX8_whaleAt 27 = .ok (.goto (-25), 3) := by decide +kernel
theorem dX8_whaleAt_30 : decode cX8_whaleAt 30 = .ok (.iconst (-1), 1) := by decide +kernel
theorem dX8_whaleAt_31 : decode cX8_whaleAt 31 = .ok (.ireturn, 1) := by decide +kernel
theorem dX8_at_0 : decode cX8_at 0 = .ok (.aload_n 0, 1) := by decide +kernel
theorem dX8_at_1 : decode cX8_at 1 = .ok (.iload_n 1, 1) := by decide +kernel
theorem dX8_at_2 : decode cX8_at 2 = .ok (.invokestatic 76, 3) := by decide +kernel
theorem dX8_at_5 : decode cX8_at 5 = .ok (.ifCond .ne 7, 3) := by decide +kernel
theorem dX8_at_8 : decode cX8_at 8 = .ok (.iconst 1, 1) := by decide +kernel
theorem dX8_at_9 : decode cX8_at 9 = .ok (.goto 4, 3) := by decide +kernel
theorem dX8_at_12 : decode cX8_at 12 = .ok (.iconst 0, 1) := by decide +kernel
theorem dX8_at_13 : decode cX8_at 13 = .ok (.iconst 1, 1) := by decide +kernel
theorem dX8_at_14 : decode cX8_at 14 = .ok (.invokevirtual 80, 3) := by decide +kernel
theorem dX8_at_17 : decode cX8_at 17 = .ok (.ifCond .eq 7, 3) := by decide +kernel
theorem dX8_at_20 : decode cX8_at 20 = .ok (.iconst 0, 1) := by decide +kernel
theorem dX8_at_21 : decode cX8_at 21 = .ok (.goto 8, 3) := by decide +kernel
theorem dX8_at_24 : decode cX8_at 24 = .ok (.aload_n 0, 1) := by decide +kernel
theorem dX8_at_25 : decode cX8_at 25 = .ok (.iload_n 1, 1) := by decide +kernel
theorem dX8_at_26 : decode cX8_at 26 = .ok (.invokevirtual 93, 3) := by decide +kernel
theorem dX8_at_29 : decode cX8_at 29 = .ok (.ireturn, 1) := by decide +kernel
theorem dX8_ofTeam_0 : decode cX8_ofTeam 0 = .ok (.iconst 0, 1) := by decide +kernel
theorem dX8_ofTeam_1 : decode cX8_ofTeam 1 = .ok (.istore_n 2, 1) := by decide +kernel
theorem dX8_ofTeam_2 : decode cX8_ofTeam 2 = .ok (.iconst 0, 1) := by decide +kernel
theorem dX8_ofTeam_3 : decode cX8_ofTeam 3 = .ok (.istore_n 3, 1) := by decide +kernel
theorem dX8_ofTeam_4 : decode cX8_ofTeam 4 = .ok (.iload_n 3, 1) := by decide +kernel
theorem dX8_ofTeam_5 : decode cX8_ofTeam 5 = .ok (.aload_n 0, 1) := by decide +kernel
theorem dX8_ofTeam_6 : decode cX8_ofTeam 6 = .ok (.getfield 9, 3) := by decide +kernel
theorem dX8_ofTeam_9 : decode cX8_ofTeam 9 = .ok (.iconst 0, 1) := by decide +kernel
theorem dX8_ofTeam_10 : decode cX8_ofTeam 10 = .ok (.iaload, 1) := by decide +kernel
theorem dX8_ofTeam_11 : decode cX8_ofTeam 11 = .ok (.if_icmp .ge 27, 3) := by decide +kernel
theorem dX8_ofTeam_14 : decode cX8_ofTeam 14 = .ok (.iload_n 2, 1) := by decide +kernel
theorem dX8_ofTeam_15 : decode cX8_ofTeam 15 = .ok (.aload_n 0, 1) := by decide +kernel
theorem dX8_ofTeam_16 : decode cX8_ofTeam 16 = .ok (.iload_n 3, 1) := by decide +kernel
theorem dX8_ofTeam_17 : decode cX8_ofTeam 17 = .ok (.iconst 0, 1) := by decide +kernel
theorem dX8_ofTeam_18 : decode cX8_ofTeam 18 = .ok (.invokevirtual 90, 3) := by decide +kernel
theorem dX8_ofTeam_21 : decode cX8_ofTeam 21 = .ok (.iload_n 1, 1) := by decide +kernel
theorem dX8_ofTeam_22 : decode cX8_ofTeam 22 = .ok (.if_icmp .ne 7, 3) := by decide +kernel
theorem dX8_ofTeam_25 : decode cX8_ofTeam 25 = .ok (.iconst 1, 1) := by decide +kernel
theorem dX8_ofTeam_26 : decode cX8_ofTeam 26 = .ok (.goto 4, 3) := by decide +kernel
theorem dX8_ofTeam_29 : decode cX8_ofTeam 29 = .ok (.iconst 0, 1) := by decide +kernel
theorem dX8_ofTeam_30 : decode cX8_ofTeam 30 = .ok (.iadd, 1) := by decide +kernel
theorem dX8_ofTeam_31 : decode cX8_ofTeam 31 = .ok (.istore_n 2, 1) := by decide +kernel
theorem dX8_ofTeam_32 : decode cX8_ofTeam 32 = .ok (.iinc 3 1, 3) := by decide +kernel
theorem dX8_ofTeam_35 : decode cX8_ofTeam 35 = .ok (.goto (-31), 3) := by decide +kernel
theorem dX8_ofTeam_38 : decode cX8_ofTeam 38 = .ok (.iload_n 2, 1) := by decide +kernel
theorem dX8_ofTeam_39 : decode cX8_ofTeam 39 = .ok (.ireturn, 1) := by decide +kernel
theorem dX8_comes_0 : decode cX8_comes 0 = .ok (.aload_n 0, 1) := by decide +kernel
theorem dX8_comes_1 : decode cX8_comes 1 = .ok (.iload_n 1, 1) := by decide +kernel
theorem dX8_comes_2 : decode cX8_comes 2 = .ok (.iconst 0, 1) := by decide +kernel
theorem dX8_comes_3 : decode cX8_comes 3 = .ok (.iconst 1, 1) := by decide +kernel
theorem dX8_comes_4 : decode cX8_comes 4 = .ok (.invokestatic 60, 3) := by decide +kernel
theorem dX8_comes_7 : decode cX8_comes 7 = .ok (.ifCond .eq 21, 3) := by decide +kernel
theorem dX8_comes_10 : decode cX8_comes 10 = .ok (.iload_n 2, 1) := by decide +kernel
theorem dX8_comes_11 : decode cX8_comes 11 = .ok (.iconst 1, 1) := by decide +kernel
theorem dX8_comes_12 : decode cX8_comes 12 = .ok (.iconst 5, 1) := by decide +kernel
theorem dX8_comes_13 : decode cX8_comes 13 = .ok (.invokestatic 60, 3) := by decide +kernel
theorem dX8_comes_16 : decode cX8_comes 16 = .ok (.ifCond .eq 12, 3) := by decide +kernel
theorem dX8_comes_19 : decode cX8_comes 19 = .ok (.iload_n 3, 1) := by decide +kernel
theorem dX8_comes_20 : decode cX8_comes 20 = .ok (.iconst 1, 1) := by decide +kernel
theorem dX8_comes_21 : decode cX8_comes 21 = .ok (.iconst 4, 1) := by decide +kernel
theorem dX8_comes_22 : decode cX8_comes 22 = .ok (.invokestatic 60, 3) := by decide +kernel
theorem dX8_comes_25 : decode cX8_comes 25 = .ok (.ifCond .ne 7, 3) := by decide +kernel
theorem dX8_comes_28 : decode cX8_comes 28 = .ok (.iconst 1, 1) := by decide +kernel
theorem dX8_comes_29 : decode cX8_comes 29 = .ok (.goto 4, 3) := by decide +kernel
theorem dX8_comes_32 : decode cX8_comes 32 = .ok (.iconst 0, 1) := by decide +kernel
theorem dX8_comes_33 : decode cX8_comes 33 = .ok (.iconst 1, 1) := by decide +kernel
theorem dX8_comes_34 : decode cX8_comes 34 = .ok (.invokevirtual 80, 3) := by decide +kernel
theorem dX8_comes_37 : decode cX8_comes 37 = .ok (.ifCond .eq 5, 3) := by decide +kernel
theorem dX8_comes_40 : decode cX8_comes 40 = .ok (.iconst 0, 1) := by decide +kernel
theorem dX8_comes_41 : decode cX8_comes 41 = .ok (.ireturn, 1) := by decide +kernel
theorem dX8_comes_42 : decode cX8_comes 42 = .ok (.aload_n 0, 1) := by decide +kernel
theorem dX8_comes_43 : decode cX8_comes 43 = .ok (.iload_n 1, 1) := by decide +kernel
theorem dX8_comes_44 : decode cX8_comes 44 = .ok (.invokevirtual 96, 3) := by decide +kernel
theorem dX8_comes_47 : decode cX8_comes 47 = .ok (.istore 4, 2) := by decide +kernel
theorem dX8_comes_49 : decode cX8_comes 49 = .ok (.iload 4, 2) := by decide +kernel
theorem dX8_comes_51 : decode cX8_comes 51 = .ok (.iconst 3, 1) := by decide +kernel
theorem dX8_comes_52 : decode cX8_comes 52 = .ok (.if_icmp .ge 23, 3) := by decide +kernel
theorem dX8_comes_55 : decode cX8_comes 55 = .ok (.iload_n 1, 1) := by decide +kernel
theorem dX8_comes_56 : decode cX8_comes 56 = .ok (.ifCond .ne 8, 3) := by decide +kernel
theorem dX8_comes_59 : decode cX8_comes 59 = .ok (.bipush 10, 2) := by decide +kernel
theorem dX8_comes_61 : decode cX8_comes 61 = .ok (.goto 5, 3) := by decide +kernel
theorem dX8_comes_64 : decode cX8_comes 64 = .ok (.bipush 16, 2) := by decide +kernel
theorem dX8_comes_66 : decode cX8_comes 66 = .ok (.bipush 9, 2) := by decide +kernel
theorem dX8_comes_68 : decode cX8_comes 68 = .ok (.iload 4, 2) := by decide +kernel
theorem dX8_comes_70 : decode cX8_comes 70 = .ok (.imul, 1) := by decide +kernel
theorem dX8_comes_71 : decode cX8_comes 71 = .ok (.iadd, 1) := by decide +kernel
theorem dX8_comes_72 : decode cX8_comes 72 = .ok (.goto 4, 3) := by decide +kernel
theorem dX8_comes_75 : decode cX8_comes 75 = .ok (.iconst (-1), 1) := by decide +kernel
theorem dX8_comes_76 : decode cX8_comes 76 = .ok (.istore 5, 2) := by decide +kernel
theorem dX8_comes_78 : decode cX8_comes 78 = .ok (.iload 5, 2) := by decide +kernel
theorem dX8_comes_80 : decode cX8_comes 80 = .ok (.ifCond .ge 7, 3) := by decide +kernel
theorem dX8_comes_83 : decode cX8_comes 83 = .ok (.iconst (-1), 1) := by decide +kernel
theorem dX8_comes_84 : decode cX8_comes 84 = .ok (.goto 9, 3) := by decide +kernel
theorem dX8_comes_87 : decode cX8_comes 87 = .ok (.aload_n 0, 1) := by decide +kernel
theorem dX8_comes_88 : decode cX8_comes 88 = .ok (.iload 5, 2) := by decide +kernel
theorem dX8_comes_90 : decode cX8_comes 90 = .ok (.invokevirtual 93, 3) := by decide +kernel
theorem dX8_comes_93 : decode cX8_comes 93 = .ok (.istore 6, 2) := by decide +kernel
theorem dX8_comes_95 : decode cX8_comes 95 = .ok (.aload_n 0, 1) := by decide +kernel
theorem dX8_comes_96 : decode cX8_comes 96 = .ok (.iload 4, 2) := by decide +kernel
theorem dX8_comes_98 : decode cX8_comes 98 = .ok (.iconst 5, 1) := by decide +kernel
theorem dX8_comes_99 : decode cX8_comes 99 = .ok (.if_icmp .ne 7, 3) := by decide +kernel
theorem dX8_comes_102 : decode cX8_comes 102 = .ok (.iconst 1, 1) := by decide +kernel
theorem dX8_comes_103 : decode cX8_comes 103 = .ok (.goto 4, 3) := by decide +kernel
theorem dX8_comes_106 : decode cX8_comes 106 = .ok (.iconst 0, 1) := by decide +kernel
theorem dX8_comes_107 : decode cX8_comes 107 = .ok (.iconst 1, 1) := by decide +kernel
theorem dX8_comes_108 : decode cX8_comes 108 = .ok (.iconst 5, 1) := by decide +kernel
theorem dX8_comes_109 : decode cX8_comes 109 = .ok (.invokevirtual 99, 3) := by decide +kernel
theorem dX8_comes_112 : decode cX8_comes 112 = .ok (.ifCond .ne 24, 3) := by decide +kernel
theorem dX8_comes_115 : decode cX8_comes 115 = .ok (.aload_n 0, 1) := by decide +kernel
theorem dX8_comes_116 : decode cX8_comes 116 = .ok (.iload 6, 2) := by decide +kernel
theorem dX8_comes_118 : decode cX8_comes 118 = .ok (.ifCond .lt 7, 3) := by decide +kernel
theorem dX8_comes_121 : decode cX8_comes 121 = .ok (.iconst 1, 1) := by decide +kernel
theorem dX8_comes_122 : decode cX8_comes 122 = .ok (.goto 4, 3) := by decide +kernel
theorem dX8_comes_125 : decode cX8_comes 125 = .ok (.iconst 0, 1) := by decide +kernel
theorem dX8_comes_126 : decode cX8_comes 126 = .ok (.bipush 7, 2) := by decide +kernel
theorem dX8_comes_128 : decode cX8_comes 128 = .ok (.iload 6, 2) := by decide +kernel
theorem dX8_comes_130 : decode cX8_comes 130 = .ok (.invokevirtual 99, 3) := by decide +kernel
theorem dX8_comes_133 : decode cX8_comes 133 = .ok (.ifCond .eq 5, 3) := by decide +kernel
theorem dX8_comes_136 : decode cX8_comes 136 = .ok (.iconst 0, 1) := by decide +kernel
theorem dX8_comes_137 : decode cX8_comes 137 = .ok (.ireturn, 1) := by decide +kernel
theorem dX8_comes_138 : decode cX8_comes 138 = .ok (.aload_n 0, 1) := by decide +kernel
theorem dX8_comes_139 : decode cX8_comes 139 = .ok (.getfield 9, 3) := by decide +kernel
theorem dX8_comes_142 : decode cX8_comes 142 = .ok (.iconst 0, 1) := by decide +kernel
theorem dX8_comes_143 : decode cX8_comes 143 = .ok (.iaload, 1) := by decide +kernel
theorem dX8_comes_144 : decode cX8_comes 144 = .ok (.istore 7, 2) := by decide +kernel
theorem dX8_comes_146 : decode cX8_comes 146 = .ok (.aload_n 0, 1) := by decide +kernel
theorem dX8_comes_147 : decode cX8_comes 147 = .ok (.iload 7, 2) := by decide +kernel
theorem dX8_comes_149 : decode cX8_comes 149 = .ok (.iconst 0, 1) := by decide +kernel
theorem dX8_comes_150 : decode cX8_comes 150 = .ok (.iload_n 1, 1) := by decide +kernel
theorem dX8_comes_151 : decode cX8_comes 151 = .ok (.invokevirtual 103, 3) := by decide +kernel
theorem dX8_comes_154 : decode cX8_comes 154 = .ok (.aload_n 0, 1) := by decide +kernel
theorem dX8_comes_155 : decode cX8_comes 155 = .ok (.iload 7, 2) := by decide +kernel
theorem dX8_comes_157 : decode cX8_comes 157 = .ok (.iconst 1, 1) := by decide +kernel
theorem dX8_comes_158 : decode cX8_comes 158 = .ok (.iload_n 2, 1) := by decide +kernel
theorem dX8_comes_159 : decode cX8_comes 159 = .ok (.invokevirtual 103, 3) := by decide +kernel
theorem dX8_comes_162 : decode cX8_comes 162 = .ok (.aload_n 0, 1) := by decide +kernel
theorem dX8_comes_163 : decode cX8_comes 163 = .ok (.iload 7, 2) := by decide +kernel
theorem dX8_comes_165 : decode cX8_comes 165 = .ok (.iconst 2, 1) := by decide +kernel
theorem dX8_comes_166 : decode cX8_comes 166 = .ok (.iload_n 3, 1) := by decide +kernel
theorem dX8_comes_167 : decode cX8_comes 167 = .ok (.invokevirtual 103, 3) := by decide +kernel
theorem dX8_comes_170 : decode cX8_comes 170 = .ok (.aload_n 0, 1) := by decide +kernel
theorem dX8_comes_171 : decode cX8_comes 171 = .ok (.iload 7, 2) := by decide +kernel
theorem dX8_comes_173 : decode cX8_comes 173 = .ok (.iconst 3, 1) := by decide +kernel
theorem dX8_comes_174 : decode cX8_comes 174 = .ok (.bipush 20, 2) := by decide +kernel
theorem dX8_comes_176 : decode cX8_comes 176 = .ok (.invokevirtual 103, 3) := by decide +kernel
theorem dX8_comes_179 : decode cX8_comes 179 = .ok (.aload_n 0, 1) := by decide +kernel
theorem dX8_comes_180 : decode cX8_comes 180 = .ok (.iload 7, 2) := by decide +kernel
theorem dX8_comes_182 : decode cX8_comes 182 = .ok (.iconst 4, 1) := by decide +kernel
theorem dX8_comes_183 : decode cX8_comes 183 = .ok (.iload 5, 2) := by decide +kernel
theorem dX8_comes_185 : decode cX8_comes 185 = .ok (.invokevirtual 103, 3) := by decide +kernel
theorem dX8_comes_188 : decode cX8_comes 188 = .ok (.aload_n 0, 1) := by decide +kernel
theorem dX8_comes_189 : decode cX8_comes 189 = .ok (.getfield 9, 3) := by decide +kernel
theorem dX8_comes_192 : decode cX8_comes 192 = .ok (.iconst 0, 1) := by decide +kernel
theorem dX8_comes_193 : decode cX8_comes 193 = .ok (.dup2, 1) := by decide +kernel
theorem dX8_comes_194 : decode cX8_comes 194 = .ok (.iaload, 1) := by decide +kernel
theorem dX8_comes_195 : decode cX8_comes 195 = .ok (.iconst 1, 1) := by decide +kernel
theorem dX8_comes_196 : decode cX8_comes 196 = .ok (.iadd, 1) := by decide +kernel
theorem dX8_comes_197 : decode cX8_comes 197 = .ok (.iastore, 1) := by decide +kernel
theorem dX8_comes_198 : decode cX8_comes 198 = .ok (.iload 7, 2) := by decide +kernel
theorem dX8_comes_200 : decode cX8_comes 200 = .ok (.ireturn, 1) := by decide +kernel
theorem dX8_whale_0 : decode cX8_whale 0 = .ok (.aload_n 0, 1) := by decide +kernel
theorem dX8_whale_1 : decode cX8_whale 1 = .ok (.invokevirtual 107, 3) := by decide +kernel
theorem dX8_whale_4 : decode cX8_whale 4 = .ok (.aload_n 0, 1) := by decide +kernel
theorem dX8_whale_5 : decode cX8_whale 5 = .ok (.aload_n 0, 1) := by decide +kernel
theorem dX8_whale_6 : decode cX8_whale 6 = .ok (.iload_n 1, 1) := by decide +kernel
theorem dX8_whale_7 : decode cX8_whale 7 = .ok (.iload_n 2, 1) := by decide +kernel
theorem dX8_whale_8 : decode cX8_whale 8 = .ok (.iload_n 3, 1) := by decide +kernel
theorem dX8_whale_9 : decode cX8_whale 9 = .ok (.invokevirtual 110, 3) := by decide +kernel
theorem dX8_whale_12 : decode cX8_whale 12 = .ok (.iconst 2, 1) := by decide +kernel
theorem dX8_whale_13 : decode cX8_whale 13 = .ok (.invokevirtual 114, 3) := by decide +kernel
theorem dX8_whale_16 : decode cX8_whale 16 = .ok (.ireturn, 1) := by decide +kernel
theorem dX8_strokes_0 : decode cX8_strokes 0 = .ok (.aload_n 0, 1) := by decide +kernel
theorem dX8_strokes_1 : decode cX8_strokes 1 = .ok (.getfield 9, 3) := by decide +kernel
theorem dX8_strokes_4 : decode cX8_strokes 4 = .ok (.iconst 1, 1) := by decide +kernel
theorem dX8_strokes_5 : decode cX8_strokes 5 = .ok (.dup2, 1) := by decide +kernel
theorem dX8_strokes_6 : decode cX8_strokes 6 = .ok (.iaload, 1) := by decide +kernel
theorem dX8_strokes_7 : decode cX8_strokes 7 = .ok (.iconst 1, 1) := by decide +kernel
theorem dX8_strokes_8 : decode cX8_strokes 8 = .ok (.iadd, 1) := by decide +kernel
theorem dX8_strokes_9 : decode cX8_strokes 9 = .ok (.iastore, 1) := by decide +kernel
theorem dX8_strokes_10 : decode cX8_strokes 10 = .ok (.aload_n 0, 1) := by decide +kernel
theorem dX8_strokes_11 : decode cX8_strokes 11 = .ok (.getfield 9, 3) := by decide +kernel
theorem dX8_strokes_14 : decode cX8_strokes 14 = .ok (.iconst 1, 1) := by decide +kernel
theorem dX8_strokes_15 : decode cX8_strokes 15 = .ok (.iaload, 1) := by decide +kernel
theorem dX8_strokes_16 : decode cX8_strokes 16 = .ok (.bipush 12, 2) := by decide +kernel
theorem dX8_strokes_18 : decode cX8_strokes 18 = .ok (.irem, 1) := by decide +kernel
theorem dX8_strokes_19 : decode cX8_strokes 19 = .ok (.ifCond .eq 5, 3) := by decide +kernel
theorem dX8_strokes_22 : decode cX8_strokes 22 = .ok (.iload_n 1, 1) := by decide +kernel
theorem dX8_strokes_23 : decode cX8_strokes 23 = .ok (.ireturn, 1) := by decide +kernel
theorem dX8_strokes_24 : decode cX8_strokes 24 = .ok (.aload_n 0, 1) := by decide +kernel
theorem dX8_strokes_25 : decode cX8_strokes 25 = .ok (.getfield 9, 3) := by decide +kernel
theorem dX8_strokes_28 : decode cX8_strokes 28 = .ok (.iconst 2, 1) := by decide +kernel
theorem dX8_strokes_29 : decode cX8_strokes 29 = .ok (.bipush 22, 2) := by decide +kernel
theorem dX8_strokes_31 : decode cX8_strokes 31 = .ok (.iastore, 1) := by decide +kernel
theorem dX8_strokes_32 : decode cX8_strokes 32 = .ok (.aload_n 0, 1) := by decide +kernel
theorem dX8_strokes_33 : decode cX8_strokes 33 = .ok (.getfield 9, 3) := by decide +kernel
theorem dX8_strokes_36 : decode cX8_strokes 36 = .ok (.iconst 3, 1) := by decide +kernel
theorem dX8_strokes_37 : decode cX8_strokes 37 = .ok (.iconst (-1), 1) := by decide +kernel
theorem dX8_strokes_38 : decode cX8_strokes 38 = .ok (.iastore, 1) := by decide +kernel
theorem dX8_strokes_39 : decode cX8_strokes 39 = .ok (.aload_n 0, 1) := by decide +kernel
theorem dX8_strokes_40 : decode cX8_strokes 40 = .ok (.getfield 9, 3) := by decide +kernel
theorem dX8_strokes_43 : decode cX8_strokes 43 = .ok (.bipush 11, 2) := by decide +kernel
theorem dX8_strokes_45 : decode cX8_strokes 45 = .ok (.iconst 0, 1) := by decide +kernel
theorem dX8_strokes_46 : decode cX8_strokes 46 = .ok (.iastore, 1) := by decide +kernel
theorem dX8_strokes_47 : decode cX8_strokes 47 = .ok (.aload_n 0, 1) := by decide +kernel
theorem dX8_strokes_48 : decode cX8_strokes 48 = .ok (.getfield 9, 3) := by decide +kernel
theorem dX8_strokes_51 : decode cX8_strokes 51 = .ok (.bipush 12, 2) := by decide +kernel
theorem dX8_strokes_53 : decode cX8_strokes 53 = .ok (.iconst 0, 1) := by decide +kernel
theorem dX8_strokes_54 : decode cX8_strokes 54 = .ok (.iastore, 1) := by decide +kernel
theorem dX8_strokes_55 : decode cX8_strokes 55 = .ok (.iconst 0, 1) := by decide +kernel
theorem dX8_strokes_56 : decode cX8_strokes 56 = .ok (.istore_n 2, 1) := by decide +kernel
theorem dX8_strokes_57 : decode cX8_strokes 57 = .ok (.iload_n 2, 1) := by decide +kernel
theorem dX8_strokes_58 : decode cX8_strokes 58 = .ok (.aload_n 0, 1) := by decide +kernel
theorem dX8_strokes_59 : decode cX8_strokes 59 = .ok (.getfield 9, 3) := by decide +kernel
theorem dX8_strokes_62 : decode cX8_strokes 62 = .ok (.iconst 0, 1) := by decide +kernel
theorem dX8_strokes_63 : decode cX8_strokes 63 = .ok (.iaload, 1) := by decide +kernel
theorem dX8_strokes_64 : decode cX8_strokes 64 = .ok (.if_icmp .ge 35, 3) := by decide +kernel
theorem dX8_strokes_67 : decode cX8_strokes 67 = .ok (.aload_n 0, 1) := by decide +kernel
theorem dX8_strokes_68 : decode cX8_strokes 68 = .ok (.iload_n 2, 1) := by decide +kernel
theorem dX8_strokes_69 : decode cX8_strokes 69 = .ok (.iconst 5, 1) := by decide +kernel
theorem dX8_strokes_70 : decode cX8_strokes 70 = .ok (.iconst 0, 1) := by decide +kernel
theorem dX8_strokes_71 : decode cX8_strokes 71 = .ok (.invokevirtual 103, 3) := by decide +kernel
theorem dX8_strokes_74 : decode cX8_strokes 74 = .ok (.aload_n 0, 1) := by decide +kernel
theorem dX8_strokes_75 : decode cX8_strokes 75 = .ok (.iload_n 2, 1) := by decide +kernel
theorem dX8_strokes_76 : decode cX8_strokes 76 = .ok (.iconst 3, 1) := by decide +kernel
theorem dX8_strokes_77 : decode cX8_strokes 77 = .ok (.bipush 20, 2) := by decide +kernel
theorem dX8_strokes_79 : decode cX8_strokes 79 = .ok (.aload_n 0, 1) := by decide +kernel
theorem dX8_strokes_80 : decode cX8_strokes 80 = .ok (.iload_n 2, 1) := by decide +kernel
theorem dX8_strokes_81 : decode cX8_strokes 81 = .ok (.iconst 3, 1) := by decide +kernel
theorem dX8_strokes_82 : decode cX8_strokes 82 = .ok (.invokevirtual 90, 3) := by decide +kernel
theorem dX8_strokes_85 : decode cX8_strokes 85 = .ok (.iconst 5, 1) := by decide +kernel
theorem dX8_strokes_86 : decode cX8_strokes 86 = .ok (.iadd, 1) := by decide +kernel
theorem dX8_strokes_87 : decode cX8_strokes 87 = .ok (.invokestatic 117, 3) := by decide +kernel
theorem dX8_strokes_90 : decode cX8_strokes 90 = .ok (.invokevirtual 103, 3) := by decide +kernel
theorem dX8_strokes_93 : decode cX8_strokes 93 = .ok (.iinc 2 1, 3) := by decide +kernel
theorem dX8_strokes_96 : decode cX8_strokes 96 = .ok (.goto (-39), 3) := by decide +kernel
theorem dX8_strokes_99 : decode cX8_strokes 99 = .ok (.iload_n 1, 1) := by decide +kernel
theorem dX8_strokes_100 : decode cX8_strokes 100 = .ok (.ireturn, 1) := by decide +kernel
theorem dX8_isOver_0 : decode cX8_isOver 0 = .ok (.aload_n 0, 1) := by decide +kernel
theorem dX8_isOver_1 : decode cX8_isOver 1 = .ok (.aload_n 0, 1) := by decide +kernel
theorem dX8_isOver_2 : decode cX8_isOver 2 = .ok (.getfield 9, 3) := by decide +kernel
theorem dX8_isOver_5 : decode cX8_isOver 5 = .ok (.iconst 1, 1) := by decide +kernel
theorem dX8_isOver_6 : decode cX8_isOver 6 = .ok (.iaload, 1) := by decide +kernel
theorem dX8_isOver_7 : decode cX8_isOver 7 = .ok (.bipush 48, 2) := by decide +kernel
theorem dX8_isOver_9 : decode cX8_isOver 9 = .ok (.if_icmp .ne 7, 3) := by decide +kernel
theorem dX8_isOver_12 : decode cX8_isOver 12 = .ok (.iconst 1, 1) := by decide +kernel
theorem dX8_isOver_13 : decode cX8_isOver 13 = .ok (.goto 4, 3) := by decide +kernel
theorem dX8_isOver_16 : decode cX8_isOver 16 = .ok (.iconst 0, 1) := by decide +kernel
theorem dX8_isOver_17 : decode cX8_isOver 17 = .ok (.iconst 2, 1) := by decide +kernel
theorem dX8_isOver_18 : decode cX8_isOver 18 = .ok (.bipush 48, 2) := by decide +kernel
theorem dX8_isOver_20 : decode cX8_isOver 20 = .ok (.invokevirtual 99, 3) := by decide +kernel
theorem dX8_isOver_23 : decode cX8_isOver 23 = .ok (.ireturn, 1) := by decide +kernel
theorem dX8_isOnBench_0 : decode cX8_isOnBench 0 = .ok (.aload_n 0, 1) := by decide +kernel
theorem dX8_isOnBench_1 : decode cX8_isOnBench 1 = .ok (.aload_n 0, 1) := by decide +kernel
theorem dX8_isOnBench_2 : decode cX8_isOnBench 2 = .ok (.iload_n 1, 1) := by decide +kernel
theorem dX8_isOnBench_3 : decode cX8_isOnBench 3 = .ok (.iconst 4, 1) := by decide +kernel
theorem dX8_isOnBench_4 : decode cX8_isOnBench 4 = .ok (.invokevirtual 90, 3) := by decide +kernel
theorem dX8_isOnBench_7 : decode cX8_isOnBench 7 = .ok (.ifCond .ge 7, 3) := by decide +kernel
theorem dX8_isOnBench_10 : decode cX8_isOnBench 10 = .ok (.iconst 1, 1) := by decide +kernel
theorem dX8_isOnBench_11 : decode cX8_isOnBench 11 = .ok (.goto 4, 3) := by decide +kernel
theorem dX8_isOnBench_14 : decode cX8_isOnBench 14 = .ok (.iconst 0, 1) := by decide +kernel
theorem dX8_isOnBench_15 : decode cX8_isOnBench 15 = .ok (.iconst 3, 1) := by decide +kernel
theorem dX8_isOnBench_16 : decode cX8_isOnBench 16 = .ok (.iload_n 1, 1) := by decide +kernel
theorem dX8_isOnBench_17 : decode cX8_isOnBench 17 = .ok (.invokevirtual 99, 3) := by decide +kernel
theorem dX8_isOnBench_20 : decode cX8_isOnBench 20 = .ok (.ireturn, 1) := by decide +kernel
theorem dX8_isStrandedNow_0 : decode cX8_isStrandedNow 0 = .ok (.aload_n 0, 1) := by decide +kernel
theorem dX8_isStrandedNow_1 : decode cX8_isStrandedNow 1 = .ok (.iload_n 1, 1) := by decide +kernel
theorem dX8_isStrandedNow_2 : decode cX8_isStrandedNow 2 = .ok (.iconst 4, 1) := by decide +kernel
theorem dX8_isStrandedNow_3 : decode cX8_isStrandedNow 3 = .ok (.invokevirtual 90, 3) := by decide +kernel
theorem dX8_isStrandedNow_6 : decode cX8_isStrandedNow 6 = .ok (.ifCond .lt 20, 3) := by decide +kernel
theorem dX8_isStrandedNow_9 : decode cX8_isStrandedNow 9 = .ok (.aload_n 0, 1) := by decide +kernel
theorem dX8_isStrandedNow_10 : decode cX8_isStrandedNow 10 = .ok (.aload_n 0, 1) := by decide +kernel
theorem dX8_isStrandedNow_11 : decode cX8_isStrandedNow 11 = .ok (.iload_n 1, 1) := by decide +kernel
theorem dX8_isStrandedNow_12 : decode cX8_isStrandedNow 12 = .ok (.iconst 4, 1) := by decide +kernel
theorem dX8_isStrandedNow_13 : decode cX8_isStrandedNow 13 = .ok (.invokevirtual 90, 3) := by decide +kernel
theorem dX8_isStrandedNow_16 : decode cX8_isStrandedNow 16 = .ok (.invokevirtual 84, 3) := by decide +kernel
theorem dX8_isStrandedNow_19 : decode cX8_isStrandedNow 19 = .ok (.ifCond .eq 7, 3) := by decide +kernel
theorem dX8_isStrandedNow_22 : decode cX8_isStrandedNow 22 = .ok (.iconst 1, 1) := by decide +kernel
theorem dX8_isStrandedNow_23 : decode cX8_isStrandedNow 23 = .ok (.goto 4, 3) := by decide +kernel
theorem dX8_isStrandedNow_26 : decode cX8_isStrandedNow 26 = .ok (.iconst 0, 1) := by decide +kernel
theorem dX8_isStrandedNow_27 : decode cX8_isStrandedNow 27 = .ok (.ireturn, 1) := by decide +kernel
theorem dX8_swaps_0 : decode cX8_swaps 0 = .ok (.aload_n 0, 1) := by decide +kernel
theorem dX8_swaps_1 : decode cX8_swaps 1 = .ok (.aload_n 0, 1) := by decide +kernel
theorem dX8_swaps_2 : decode cX8_swaps 2 = .ok (.iload_n 1, 1) := by decide +kernel
theorem dX8_swaps_3 : decode cX8_swaps 3 = .ok (.invokevirtual 120, 3) := by decide +kernel
theorem dX8_swaps_6 : decode cX8_swaps 6 = .ok (.ifCond .eq 11, 3) := by decide +kernel
theorem dX8_swaps_9 : decode cX8_swaps 9 = .ok (.aload_n 0, 1) := by decide +kernel
theorem dX8_swaps_10 : decode cX8_swaps 10 = .ok (.iload_n 2, 1) := by decide +kernel
theorem dX8_swaps_11 : decode cX8_swaps 11 = .ok (.invokevirtual 120, 3) := by decide +kernel
theorem dX8_swaps_14 : decode cX8_swaps 14 = .ok (.ifCond .ne 7, 3) := by decide +kernel
theorem dX8_swaps_17 : decode cX8_swaps 17 = .ok (.iconst 1, 1) := by decide +kernel
theorem dX8_swaps_18 : decode cX8_swaps 18 = .ok (.goto 4, 3) := by decide +kernel
theorem dX8_swaps_21 : decode cX8_swaps 21 = .ok (.iconst 0, 1) := by decide +kernel
theorem dX8_swaps_22 : decode cX8_swaps 22 = .ok (.iconst 1, 1) := by decide +kernel
theorem dX8_swaps_23 : decode cX8_swaps 23 = .ok (.invokevirtual 80, 3) := by decide +kernel
theorem dX8_swaps_26 : decode cX8_swaps 26 = .ok (.ifCond .ne 18, 3) := by decide +kernel
theorem dX8_swaps_29 : decode cX8_swaps 29 = .ok (.aload_n 0, 1) := by decide +kernel
theorem dX8_swaps_30 : decode cX8_swaps 30 = .ok (.invokevirtual 123, 3) := by decide +kernel
theorem dX8_swaps_33 : decode cX8_swaps 33 = .ok (.ifCond .ne 11, 3) := by decide +kernel
theorem dX8_swaps_36 : decode cX8_swaps 36 = .ok (.aload_n 0, 1) := by decide +kernel
theorem dX8_swaps_37 : decode cX8_swaps 37 = .ok (.iload_n 1, 1) := by decide +kernel
theorem dX8_swaps_38 : decode cX8_swaps 38 = .ok (.invokevirtual 127, 3) := by decide +kernel
theorem dX8_swaps_41 : decode cX8_swaps 41 = .ok (.ifCond .eq 5, 3) := by decide +kernel
theorem dX8_swaps_44 : decode cX8_swaps 44 = .ok (.iconst 0, 1) := by decide +kernel
theorem dX8_swaps_45 : decode cX8_swaps 45 = .ok (.ireturn, 1) := by decide +kernel
theorem dX8_swaps_46 : decode cX8_swaps 46 = .ok (.aload_n 0, 1) := by decide +kernel
theorem dX8_swaps_47 : decode cX8_swaps 47 = .ok (.iload_n 1, 1) := by decide +kernel
theorem dX8_swaps_48 : decode cX8_swaps 48 = .ok (.iconst 0, 1) := by decide +kernel
theorem dX8_swaps_49 : decode cX8_swaps 49 = .ok (.invokevirtual 90, 3) := by decide +kernel
theorem dX8_swaps_52 : decode cX8_swaps 52 = .ok (.istore_n 3, 1) := by decide +kernel
theorem dX8_swaps_53 : decode cX8_swaps 53 = .ok (.aload_n 0, 1) := by decide +kernel
theorem dX8_swaps_54 : decode cX8_swaps 54 = .ok (.aload_n 0, 1) := by decide +kernel
theorem dX8_swaps_55 : decode cX8_swaps 55 = .ok (.iload_n 2, 1) := by decide +kernel
theorem dX8_swaps_56 : decode cX8_swaps 56 = .ok (.iconst 0, 1) := by decide +kernel
theorem dX8_swaps_57 : decode cX8_swaps 57 = .ok (.invokevirtual 90, 3) := by decide +kernel
theorem dX8_swaps_60 : decode cX8_swaps 60 = .ok (.iload_n 3, 1) := by decide +kernel
theorem dX8_swaps_61 : decode cX8_swaps 61 = .ok (.if_icmp .eq 7, 3) := by decide +kernel
theorem dX8_swaps_64 : decode cX8_swaps 64 = .ok (.iconst 1, 1) := by decide +kernel
theorem dX8_swaps_65 : decode cX8_swaps 65 = .ok (.goto 4, 3) := by decide +kernel
theorem dX8_swaps_68 : decode cX8_swaps 68 = .ok (.iconst 0, 1) := by decide +kernel
theorem dX8_swaps_69 : decode cX8_swaps 69 = .ok (.bipush 12, 2) := by decide +kernel
theorem dX8_swaps_71 : decode cX8_swaps 71 = .ok (.aload_n 0, 1) := by decide +kernel
theorem dX8_swaps_72 : decode cX8_swaps 72 = .ok (.iload_n 2, 1) := by decide +kernel
theorem dX8_swaps_73 : decode cX8_swaps 73 = .ok (.iconst 0, 1) := by decide +kernel
theorem dX8_swaps_74 : decode cX8_swaps 74 = .ok (.invokevirtual 90, 3) := by decide +kernel
theorem dX8_swaps_77 : decode cX8_swaps 77 = .ok (.invokevirtual 99, 3) := by decide +kernel
theorem dX8_swaps_80 : decode cX8_swaps 80 = .ok (.ifCond .ne 68, 3) := by decide +kernel
theorem dX8_swaps_83 : decode cX8_swaps 83 = .ok (.aload_n 0, 1) := by decide +kernel
theorem dX8_swaps_84 : decode cX8_swaps 84 = .ok (.aload_n 0, 1) := by decide +kernel
theorem dX8_swaps_85 : decode cX8_swaps 85 = .ok (.iload_n 2, 1) := by decide +kernel
theorem dX8_swaps_86 : decode cX8_swaps 86 = .ok (.iconst 4, 1) := by decide +kernel
theorem dX8_swaps_87 : decode cX8_swaps 87 = .ok (.invokevirtual 90, 3) := by decide +kernel
theorem dX8_swaps_90 : decode cX8_swaps 90 = .ok (.ifCond .lt 7, 3) := by decide +kernel
theorem dX8_swaps_93 : decode cX8_swaps 93 = .ok (.iconst 1, 1) := by decide +kernel
theorem dX8_swaps_94 : decode cX8_swaps 94 = .ok (.goto 4, 3) := by decide +kernel
theorem dX8_swaps_97 : decode cX8_swaps 97 = .ok (.iconst 0, 1) := by decide +kernel
theorem dX8_swaps_98 : decode cX8_swaps 98 = .ok (.bipush 13, 2) := by decide +kernel
theorem dX8_swaps_100 : decode cX8_swaps 100 = .ok (.aload_n 0, 1) := by decide +kernel
theorem dX8_swaps_101 : decode cX8_swaps 101 = .ok (.iload_n 2, 1) := by decide +kernel
theorem dX8_swaps_102 : decode cX8_swaps 102 = .ok (.iconst 4, 1) := by decide +kernel
theorem dX8_swaps_103 : decode cX8_swaps 103 = .ok (.invokevirtual 90, 3) := by decide +kernel
theorem dX8_swaps_106 : decode cX8_swaps 106 = .ok (.invokevirtual 99, 3) := by decide +kernel
theorem dX8_swaps_109 : decode cX8_swaps 109 = .ok (.ifCond .ne 39, 3) := by decide +kernel
theorem dX8_swaps_112 : decode cX8_swaps 112 = .ok (.aload_n 0, 1) := by decide +kernel
theorem dX8_swaps_113 : decode cX8_swaps 113 = .ok (.aload_n 0, 1) := by decide +kernel
theorem dX8_swaps_114 : decode cX8_swaps 114 = .ok (.getfield 9, 3) := by decide +kernel
theorem dX8_swaps_117 : decode cX8_swaps 117 = .ok (.bipush 11, 2) := by decide +kernel
theorem dX8_swaps_119 : decode cX8_swaps 119 = .ok (.iload_n 3, 1) := by decide +kernel
theorem dX8_swaps_120 : decode cX8_swaps 120 = .ok (.iadd, 1) := by decide +kernel
theorem dX8_swaps_121 : decode cX8_swaps 121 = .ok (.iaload, 1) := by decide +kernel
theorem dX8_swaps_122 : decode cX8_swaps 122 = .ok (.iconst 2, 1) := by decide +kernel
theorem dX8_swaps_123 : decode cX8_swaps 123 = .ok (.if_icmp .ne 7, 3) := by decide +kernel
theorem dX8_swaps_126 : decode cX8_swaps 126 = .ok (.iconst 1, 1) := by decide +kernel
theorem dX8_swaps_127 : decode cX8_swaps 127 = .ok (.goto 4, 3) := by decide +kernel
theorem dX8_swaps_130 : decode cX8_swaps 130 = .ok (.iconst 0, 1) := by decide +kernel
theorem dX8_swaps_131 : decode cX8_swaps 131 = .ok (.bipush 14, 2) := by decide +kernel
theorem dX8_swaps_133 : decode cX8_swaps 133 = .ok (.aload_n 0, 1) := by decide +kernel
theorem dX8_swaps_134 : decode cX8_swaps 134 = .ok (.getfield 9, 3) := by decide +kernel
theorem dX8_swaps_137 : decode cX8_swaps 137 = .ok (.bipush 9, 2) := by decide +kernel
theorem dX8_swaps_139 : decode cX8_swaps 139 = .ok (.iload_n 3, 1) := by decide +kernel
theorem dX8_swaps_140 : decode cX8_swaps 140 = .ok (.iadd, 1) := by decide +kernel
theorem dX8_swaps_141 : decode cX8_swaps 141 = .ok (.iaload, 1) := by decide +kernel
theorem dX8_swaps_142 : decode cX8_swaps 142 = .ok (.invokevirtual 99, 3) := by decide +kernel
theorem dX8_swaps_145 : decode cX8_swaps 145 = .ok (.ifCond .eq 5, 3) := by decide +kernel
theorem dX8_swaps_148 : decode cX8_swaps 148 = .ok (.iconst 0, 1) := by decide +kernel
theorem dX8_swaps_149 : decode cX8_swaps 149 = .ok (.ireturn, 1) := by decide +kernel
theorem dX8_swaps_150 : decode cX8_swaps 150 = .ok (.aload_n 0, 1) := by decide +kernel
theorem dX8_swaps_151 : decode cX8_swaps 151 = .ok (.iload_n 2, 1) := by decide +kernel
theorem dX8_swaps_152 : decode cX8_swaps 152 = .ok (.iconst 4, 1) := by decide +kernel
theorem dX8_swaps_153 : decode cX8_swaps 153 = .ok (.aload_n 0, 1) := by decide +kernel
theorem dX8_swaps_154 : decode cX8_swaps 154 = .ok (.iload_n 1, 1) := by decide +kernel
theorem dX8_swaps_155 : decode cX8_swaps 155 = .ok (.iconst 4, 1) := by decide +kernel
theorem dX8_swaps_156 : decode cX8_swaps 156 = .ok (.invokevirtual 90, 3) := by decide +kernel
theorem dX8_swaps_159 : decode cX8_swaps 159 = .ok (.invokevirtual 103, 3) := by decide +kernel
theorem dX8_swaps_162 : decode cX8_swaps 162 = .ok (.aload_n 0, 1) := by decide +kernel
theorem dX8_swaps_163 : decode cX8_swaps 163 = .ok (.iload_n 2, 1) := by decide +kernel
theorem dX8_swaps_164 : decode cX8_swaps 164 = .ok (.iconst 5, 1) := by decide +kernel
theorem dX8_swaps_165 : decode cX8_swaps 165 = .ok (.iconst 0, 1) := by decide +kernel
theorem dX8_swaps_166 : decode cX8_swaps 166 = .ok (.invokevirtual 103, 3) := by decide +kernel
theorem dX8_swaps_169 : decode cX8_swaps 169 = .ok (.aload_n 0, 1) := by decide +kernel
theorem dX8_swaps_170 : decode cX8_swaps 170 = .ok (.iload_n 1, 1) := by decide +kernel
theorem dX8_swaps_171 : decode cX8_swaps 171 = .ok (.iconst 4, 1) := by decide +kernel
theorem dX8_swaps_172 : decode cX8_swaps 172 = .ok (.iconst (-1), 1) := by decide +kernel
theorem dX8_swaps_173 : decode cX8_swaps 173 = .ok (.invokevirtual 103, 3) := by decide +kernel
theorem dX8_swaps_176 : decode cX8_swaps 176 = .ok (.aload_n 0, 1) := by decide +kernel
theorem dX8_swaps_177 : decode cX8_swaps 177 = .ok (.iload_n 1, 1) := by decide +kernel
theorem dX8_swaps_178 : decode cX8_swaps 178 = .ok (.iconst 5, 1) := by decide +kernel
theorem dX8_swaps_179 : decode cX8_swaps 179 = .ok (.iconst 0, 1) := by decide +kernel
theorem dX8_swaps_180 : decode cX8_swaps 180 = .ok (.invokevirtual 103, 3) := by decide +kernel
theorem dX8_swaps_183 : decode cX8_swaps 183 = .ok (.aload_n 0, 1) := by decide +kernel
theorem dX8_swaps_184 : decode cX8_swaps 184 = .ok (.getfield 9, 3) := by decide +kernel
theorem dX8_swaps_187 : decode cX8_swaps 187 = .ok (.bipush 11, 2) := by decide +kernel
theorem dX8_swaps_189 : decode cX8_swaps 189 = .ok (.iload_n 3, 1) := by decide +kernel
theorem dX8_swaps_190 : decode cX8_swaps 190 = .ok (.iadd, 1) := by decide +kernel
theorem dX8_swaps_191 : decode cX8_swaps 191 = .ok (.dup2, 1) := by decide +kernel
theorem dX8_swaps_192 : decode cX8_swaps 192 = .ok (.iaload, 1) := by decide +kernel
theorem dX8_swaps_193 : decode cX8_swaps 193 = .ok (.iconst 1, 1) := by decide +kernel
theorem dX8_swaps_194 : decode cX8_swaps 194 = .ok (.iadd, 1) := by decide +kernel
theorem dX8_swaps_195 : decode cX8_swaps 195 = .ok (.iastore, 1) := by decide +kernel
theorem dX8_swaps_196 : decode cX8_swaps 196 = .ok (.aload_n 0, 1) := by decide +kernel
theorem dX8_swaps_197 : decode cX8_swaps 197 = .ok (.getfield 9, 3) := by decide +kernel
theorem dX8_swaps_200 : decode cX8_swaps 200 = .ok (.bipush 9, 2) := by decide +kernel
theorem dX8_swaps_202 : decode cX8_swaps 202 = .ok (.iload_n 3, 1) := by decide +kernel
theorem dX8_swaps_203 : decode cX8_swaps 203 = .ok (.iadd, 1) := by decide +kernel
theorem dX8_swaps_204 : decode cX8_swaps 204 = .ok (.dup2, 1) := by decide +kernel
theorem dX8_swaps_205 : decode cX8_swaps 205 = .ok (.iaload, 1) := by decide +kernel
theorem dX8_swaps_206 : decode cX8_swaps 206 = .ok (.iconst 1, 1) := by decide +kernel
theorem dX8_swaps_207 : decode cX8_swaps 207 = .ok (.iadd, 1) := by decide +kernel
theorem dX8_swaps_208 : decode cX8_swaps 208 = .ok (.iastore, 1) := by decide +kernel
theorem dX8_swaps_209 : decode cX8_swaps 209 = .ok (.aload_n 0, 1) := by decide +kernel
theorem dX8_swaps_210 : decode cX8_swaps 210 = .ok (.iconst 2, 1) := by decide +kernel
theorem dX8_swaps_211 : decode cX8_swaps 211 = .ok (.aload_n 0, 1) := by decide +kernel
theorem dX8_swaps_212 : decode cX8_swaps 212 = .ok (.getfield 9, 3) := by decide +kernel
theorem dX8_swaps_215 : decode cX8_swaps 215 = .ok (.bipush 11, 2) := by decide +kernel
theorem dX8_swaps_217 : decode cX8_swaps 217 = .ok (.iload_n 3, 1) := by decide +kernel
theorem dX8_swaps_218 : decode cX8_swaps 218 = .ok (.iadd, 1) := by decide +kernel
theorem dX8_swaps_219 : decode cX8_swaps 219 = .ok (.iaload, 1) := by decide +kernel
theorem dX8_swaps_220 : decode cX8_swaps 220 = .ok (.isub, 1) := by decide +kernel
theorem dX8_swaps_221 : decode cX8_swaps 221 = .ok (.invokevirtual 130, 3) := by decide +kernel
theorem dX8_swaps_224 : decode cX8_swaps 224 = .ok (.ireturn, 1) := by decide +kernel
theorem dX8_swap_0 : decode cX8_swap 0 = .ok (.aload_n 0, 1) := by decide +kernel
theorem dX8_swap_1 : decode cX8_swap 1 = .ok (.invokevirtual 107, 3) := by decide +kernel
theorem dX8_swap_4 : decode cX8_swap 4 = .ok (.aload_n 0, 1) := by decide +kernel
theorem dX8_swap_5 : decode cX8_swap 5 = .ok (.aload_n 0, 1) := by decide +kernel
theorem dX8_swap_6 : decode cX8_swap 6 = .ok (.iload_n 1, 1) := by decide +kernel
theorem dX8_swap_7 : decode cX8_swap 7 = .ok (.iload_n 2, 1) := by decide +kernel
theorem dX8_swap_8 : decode cX8_swap 8 = .ok (.invokevirtual 133, 3) := by decide +kernel
theorem dX8_swap_11 : decode cX8_swap 11 = .ok (.iconst 2, 1) := by decide +kernel
theorem dX8_swap_12 : decode cX8_swap 12 = .ok (.invokevirtual 114, 3) := by decide +kernel
theorem dX8_swap_15 : decode cX8_swap 15 = .ok (.ireturn, 1) := by decide +kernel
theorem dX8_next_0 : decode cX8_next 0 = .ok (.iload_n 1, 1) := by decide +kernel
theorem dX8_next_1 : decode cX8_next 1 = .ok (.tableswitch 77 0 2 #[27, 42, 59], 27) := by decide +kernel
theorem dX8_next_28 : decode cX8_next 28 = .ok (.iload_n 0, 1) := by decide +kernel
theorem dX8_next_29 : decode cX8_next 29 = .ok (.bipush 9, 2) := by decide +kernel
theorem dX8_next_31 : decode cX8_next 31 = .ok (.if_icmp .ge 7, 3) := by decide +kernel
theorem dX8_next_34 : decode cX8_next 34 = .ok (.iconst (-1), 1) := by decide +kernel
theorem dX8_next_35 : decode cX8_next 35 = .ok (.goto 7, 3) := by decide +kernel
theorem dX8_next_38 : decode cX8_next 38 = .ok (.iload_n 0, 1) := by decide +kernel
theorem dX8_next_39 : decode cX8_next 39 = .ok (.bipush 9, 2) := by decide +kernel
theorem dX8_next_41 : decode cX8_next 41 = .ok (.isub, 1) := by decide +kernel
theorem dX8_next_42 : decode cX8_next 42 = .ok (.ireturn, 1) := by decide +kernel
theorem dX8_next_43 : decode cX8_next 43 = .ok (.iload_n 0, 1) := by decide +kernel
theorem dX8_next_44 : decode cX8_next 44 = .ok (.bipush 9, 2) := by decide +kernel
theorem dX8_next_46 : decode cX8_next 46 = .ok (.irem, 1) := by decide +kernel
theorem dX8_next_47 : decode cX8_next 47 = .ok (.bipush 8, 2) := by decide +kernel
theorem dX8_next_49 : decode cX8_next 49 = .ok (.if_icmp .ne 7, 3) := by decide +kernel
theorem dX8_next_52 : decode cX8_next 52 = .ok (.iconst (-1), 1) := by decide +kernel
theorem dX8_next_53 : decode cX8_next 53 = .ok (.goto 6, 3) := by decide +kernel
theorem dX8_next_56 : decode cX8_next 56 = .ok (.iload_n 0, 1) := by decide +kernel
theorem dX8_next_57 : decode cX8_next 57 = .ok (.iconst 1, 1) := by decide +kernel
theorem dX8_next_58 : decode cX8_next 58 = .ok (.iadd, 1) := by decide +kernel
theorem dX8_next_59 : decode cX8_next 59 = .ok (.ireturn, 1) := by decide +kernel
theorem dX8_next_60 : decode cX8_next 60 = .ok (.iload_n 0, 1) := by decide +kernel
theorem dX8_next_61 : decode cX8_next 61 = .ok (.bipush 9, 2) := by decide +kernel
theorem dX8_next_63 : decode cX8_next 63 = .ok (.iadd, 1) := by decide +kernel
theorem dX8_next_64 : decode cX8_next 64 = .ok (.bipush 45, 2) := by decide +kernel
theorem dX8_next_66 : decode cX8_next 66 = .ok (.if_icmp .lt 7, 3) := by decide +kernel
theorem dX8_next_69 : decode cX8_next 69 = .ok (.iconst (-1), 1) := by decide +kernel
theorem dX8_next_70 : decode cX8_next 70 = .ok (.goto 7, 3) := by decide +kernel
theorem dX8_next_73 : decode cX8_next 73 = .ok (.iload_n 0, 1) := by decide +kernel
theorem dX8_next_74 : decode cX8_next 74 = .ok (.bipush 9, 2) := by decide +kernel
theorem dX8_next_76 : decode cX8_next 76 = .ok (.iadd, 1) := by decide +kernel
theorem dX8_next_77 : decode cX8_next 77 = .ok (.ireturn, 1) := by decide +kernel
theorem dX8_next_78 : decode cX8_next 78 = .ok (.iload_n 0, 1) := by decide +kernel
theorem dX8_next_79 : decode cX8_next 79 = .ok (.bipush 9, 2) := by decide +kernel
theorem dX8_next_81 : decode cX8_next 81 = .ok (.irem, 1) := by decide +kernel
theorem dX8_next_82 : decode cX8_next 82 = .ok (.ifCond .ne 7, 3) := by decide +kernel
theorem dX8_next_85 : decode cX8_next 85 = .ok (.iconst (-1), 1) := by decide +kernel
theorem dX8_next_86 : decode cX8_next 86 = .ok (.goto 6, 3) := by decide +kernel
theorem dX8_next_89 : decode cX8_next 89 = .ok (.iload_n 0, 1) := by decide +kernel
theorem dX8_next_90 : decode cX8_next 90 = .ok (.iconst 1, 1) := by decide +kernel
theorem dX8_next_91 : decode cX8_next 91 = .ok (.isub, 1) := by decide +kernel
theorem dX8_next_92 : decode cX8_next 92 = .ok (.ireturn, 1) := by decide +kernel
theorem dX8_finds_0 : decode cX8_finds 0 = .ok (.iconst 0, 1) := by decide +kernel
theorem dX8_finds_1 : decode cX8_finds 1 = .ok (.istore_n 2, 1) := by decide +kernel
theorem dX8_finds_2 : decode cX8_finds 2 = .ok (.iload_n 2, 1) := by decide +kernel
theorem dX8_finds_3 : decode cX8_finds 3 = .ok (.bipush 45, 2) := by decide +kernel
theorem dX8_finds_5 : decode cX8_finds 5 = .ok (.if_icmp .ge 31, 3) := by decide +kernel
theorem dX8_finds_8 : decode cX8_finds 8 = .ok (.aload_n 0, 1) := by decide +kernel
theorem dX8_finds_9 : decode cX8_finds 9 = .ok (.getfield 22, 3) := by decide +kernel
theorem dX8_finds_12 : decode cX8_finds 12 = .ok (.iload_n 2, 1) := by decide +kernel
theorem dX8_finds_13 : decode cX8_finds 13 = .ok (.iload_n 2, 1) := by decide +kernel
theorem dX8_finds_14 : decode cX8_finds 14 = .ok (.aload_n 0, 1) := by decide +kernel
theorem dX8_finds_15 : decode cX8_finds 15 = .ok (.iload_n 1, 1) := by decide +kernel
theorem dX8_finds_16 : decode cX8_finds 16 = .ok (.iconst 4, 1) := by decide +kernel
theorem dX8_finds_17 : decode cX8_finds 17 = .ok (.invokevirtual 90, 3) := by decide +kernel
theorem dX8_finds_20 : decode cX8_finds 20 = .ok (.if_icmp .ne 7, 3) := by decide +kernel
theorem dX8_finds_23 : decode cX8_finds 23 = .ok (.iconst 0, 1) := by decide +kernel
theorem dX8_finds_24 : decode cX8_finds 24 = .ok (.goto 5, 3) := by decide +kernel
theorem dX8_finds_27 : decode cX8_finds 27 = .ok (.bipush 99, 2) := by decide +kernel
theorem dX8_finds_29 : decode cX8_finds 29 = .ok (.iastore, 1) := by decide +kernel
theorem dX8_finds_30 : decode cX8_finds 30 = .ok (.iinc 2 1, 3) := by decide +kernel
theorem dX8_finds_33 : decode cX8_finds 33 = .ok (.goto (-31), 3) := by decide +kernel
theorem dX8_finds_36 : decode cX8_finds 36 = .ok (.iconst 1, 1) := by decide +kernel
theorem dX8_finds_37 : decode cX8_finds 37 = .ok (.istore_n 2, 1) := by decide +kernel
theorem dX8_finds_38 : decode cX8_finds 38 = .ok (.iload_n 2, 1) := by decide +kernel
theorem dX8_finds_39 : decode cX8_finds 39 = .ok (.ifCond .eq 110, 3) := by decide +kernel
theorem dX8_finds_42 : decode cX8_finds 42 = .ok (.iconst 0, 1) := by decide +kernel
theorem dX8_finds_43 : decode cX8_finds 43 = .ok (.istore_n 2, 1) := by decide +kernel
theorem dX8_finds_44 : decode cX8_finds 44 = .ok (.iconst 0, 1) := by decide +kernel
theorem dX8_finds_45 : decode cX8_finds 45 = .ok (.istore_n 3, 1) := by decide +kernel
theorem dX8_finds_46 : decode cX8_finds 46 = .ok (.iload_n 3, 1) := by decide +kernel
theorem dX8_finds_47 : decode cX8_finds 47 = .ok (.sipush 180, 3) := by decide +kernel
theorem dX8_finds_50 : decode cX8_finds 50 = .ok (.if_icmp .ge 96, 3) := by decide +kernel
theorem dX8_finds_53 : decode cX8_finds 53 = .ok (.iload_n 3, 1) := by decide +kernel
theorem dX8_finds_54 : decode cX8_finds 54 = .ok (.iconst 4, 1) := by decide +kernel
theorem dX8_finds_55 : decode cX8_finds 55 = .ok (.idiv, 1) := by decide +kernel
theorem dX8_finds_56 : decode cX8_finds 56 = .ok (.istore 4, 2) := by decide +kernel
theorem dX8_finds_58 : decode cX8_finds 58 = .ok (.iload 4, 2) := by decide +kernel
theorem dX8_finds_60 : decode cX8_finds 60 = .ok (.iload_n 3, 1) := by decide +kernel
theorem dX8_finds_61 : decode cX8_finds 61 = .ok (.iconst 4, 1) := by decide +kernel
theorem dX8_finds_62 : decode cX8_finds 62 = .ok (.irem, 1) := by decide +kernel
theorem dX8_finds_63 : decode cX8_finds 63 = .ok (.invokestatic 136, 3) := by decide +kernel
theorem dX8_finds_66 : decode cX8_finds 66 = .ok (.istore 5, 2) := by decide +kernel
theorem dX8_finds_68 : decode cX8_finds 68 = .ok (.iload 5, 2) := by decide +kernel
theorem dX8_finds_70 : decode cX8_finds 70 = .ok (.ifCond .lt 44, 3) := by decide +kernel
theorem dX8_finds_73 : decode cX8_finds 73 = .ok (.aload_n 0, 1) := by decide +kernel
theorem dX8_finds_74 : decode cX8_finds 74 = .ok (.getfield 22, 3) := by decide +kernel
theorem dX8_finds_77 : decode cX8_finds 77 = .ok (.iload 4, 2) := by decide +kernel
theorem dX8_finds_79 : decode cX8_finds 79 = .ok (.iaload, 1) := by decide +kernel
theorem dX8_finds_80 : decode cX8_finds 80 = .ok (.iconst 1, 1) := by decide +kernel
theorem dX8_finds_81 : decode cX8_finds 81 = .ok (.iadd, 1) := by decide +kernel
theorem dX8_finds_82 : decode cX8_finds 82 = .ok (.aload_n 0, 1) := by decide +kernel
theorem dX8_finds_83 : decode cX8_finds 83 = .ok (.getfield 22, 3) := by decide +kernel
theorem dX8_finds_86 : decode cX8_finds 86 = .ok (.iload 5, 2) := by decide +kernel
theorem dX8_finds_88 : decode cX8_finds 88 = .ok (.iaload, 1) := by decide +kernel
theorem dX8_finds_89 : decode cX8_finds 89 = .ok (.if_icmp .ge 25, 3) := by decide +kernel
theorem dX8_finds_92 : decode cX8_finds 92 = .ok (.aload_n 0, 1) := by decide +kernel
theorem dX8_finds_93 : decode cX8_finds 93 = .ok (.iload 5, 2) := by decide +kernel
theorem dX8_finds_95 : decode cX8_finds 95 = .ok (.invokevirtual 84, 3) := by decide +kernel
theorem dX8_finds_98 : decode cX8_finds 98 = .ok (.ifCond .ne 16, 3) := by decide +kernel
theorem dX8_finds_101 : decode cX8_finds 101 = .ok (.aload_n 0, 1) := by decide +kernel
theorem dX8_finds_102 : decode cX8_finds 102 = .ok (.iload 5, 2) := by decide +kernel
theorem dX8_finds_104 : decode cX8_finds 104 = .ok (.invokevirtual 93, 3) := by decide +kernel
theorem dX8_finds_107 : decode cX8_finds 107 = .ok (.ifCond .ge 7, 3) := by decide +kernel
theorem dX8_finds_110 : decode cX8_finds 110 = .ok (.iconst 1, 1) := by decide +kernel
theorem dX8_finds_111 : decode cX8_finds 111 = .ok (.goto 4, 3) := by decide +kernel
theorem dX8_finds_114 : decode cX8_finds 114 = .ok (.iconst 0, 1) := by decide +kernel
theorem dX8_finds_115 : decode cX8_finds 115 = .ok (.istore 6, 2) := by decide +kernel
theorem dX8_finds_117 : decode cX8_finds 117 = .ok (.iload 6, 2) := by decide +kernel
theorem dX8_finds_119 : decode cX8_finds 119 = .ok (.ifCond .eq 21, 3) := by decide +kernel
theorem dX8_finds_122 : decode cX8_finds 122 = .ok (.aload_n 0, 1) := by decide +kernel
theorem dX8_finds_123 : decode cX8_finds 123 = .ok (.getfield 22, 3) := by decide +kernel
theorem dX8_finds_126 : decode cX8_finds 126 = .ok (.iload 5, 2) := by decide +kernel
theorem dX8_finds_128 : decode cX8_finds 128 = .ok (.aload_n 0, 1) := by decide +kernel
theorem dX8_finds_129 : decode cX8_finds 129 = .ok (.getfield 22, 3) := by decide +kernel
theorem dX8_finds_132 : decode cX8_finds 132 = .ok (.iload 4, 2) := by decide +kernel
theorem dX8_finds_134 : decode cX8_finds 134 = .ok (.iaload, 1) := by decide +kernel
theorem dX8_finds_135 : decode cX8_finds 135 = .ok (.iconst 1, 1) := by decide +kernel
theorem dX8_finds_136 : decode cX8_finds 136 = .ok (.iadd, 1) := by decide +kernel
theorem dX8_finds_137 : decode cX8_finds 137 = .ok (.iastore, 1) := by decide +kernel
theorem dX8_finds_138 : decode cX8_finds 138 = .ok (.iconst 1, 1) := by decide +kernel
theorem dX8_finds_139 : decode cX8_finds 139 = .ok (.istore_n 2, 1) := by decide +kernel
theorem dX8_finds_140 : decode cX8_finds 140 = .ok (.iinc 3 1, 3) := by decide +kernel
theorem dX8_finds_143 : decode cX8_finds 143 = .ok (.goto (-97), 3) := by decide +kernel
theorem dX8_finds_146 : decode cX8_finds 146 = .ok (.goto (-108), 3) := by decide +kernel
theorem dX8_finds_149 : decode cX8_finds 149 = .ok (.return_, 1) := by decide +kernel
theorem dX8_steps_0 : decode cX8_steps 0 = .ok (.aload_n 0, 1) := by decide +kernel
theorem dX8_steps_1 : decode cX8_steps 1 = .ok (.aload_n 0, 1) := by decide +kernel
theorem dX8_steps_2 : decode cX8_steps 2 = .ok (.iload_n 1, 1) := by decide +kernel
theorem dX8_steps_3 : decode cX8_steps 3 = .ok (.invokevirtual 120, 3) := by decide +kernel
theorem dX8_steps_6 : decode cX8_steps 6 = .ok (.ifCond .eq 10, 3) := by decide +kernel
theorem dX8_steps_9 : decode cX8_steps 9 = .ok (.iload_n 2, 1) := by decide +kernel
theorem dX8_steps_10 : decode cX8_steps 10 = .ok (.invokestatic 76, 3) := by decide +kernel
theorem dX8_steps_13 : decode cX8_steps 13 = .ok (.ifCond .ne 7, 3) := by decide +kernel
theorem dX8_steps_16 : decode cX8_steps 16 = .ok (.iconst 1, 1) := by decide +kernel
theorem dX8_steps_17 : decode cX8_steps 17 = .ok (.goto 4, 3) := by decide +kernel
theorem dX8_steps_20 : decode cX8_steps 20 = .ok (.iconst 0, 1) := by decide +kernel
theorem dX8_steps_21 : decode cX8_steps 21 = .ok (.iconst 1, 1) := by decide +kernel
theorem dX8_steps_22 : decode cX8_steps 22 = .ok (.invokevirtual 80, 3) := by decide +kernel
theorem dX8_steps_25 : decode cX8_steps 25 = .ok (.ifCond .ne 25, 3) := by decide +kernel
theorem dX8_steps_28 : decode cX8_steps 28 = .ok (.aload_n 0, 1) := by decide +kernel
theorem dX8_steps_29 : decode cX8_steps 29 = .ok (.aload_n 0, 1) := by decide +kernel
theorem dX8_steps_30 : decode cX8_steps 30 = .ok (.iload_n 1, 1) := by decide +kernel
theorem dX8_steps_31 : decode cX8_steps 31 = .ok (.iconst 4, 1) := by decide +kernel
theorem dX8_steps_32 : decode cX8_steps 32 = .ok (.invokevirtual 90, 3) := by decide +kernel
theorem dX8_steps_35 : decode cX8_steps 35 = .ok (.ifCond .ge 7, 3) := by decide +kernel
theorem dX8_steps_38 : decode cX8_steps 38 = .ok (.iconst 1, 1) := by decide +kernel
theorem dX8_steps_39 : decode cX8_steps 39 = .ok (.goto 4, 3) := by decide +kernel
theorem dX8_steps_42 : decode cX8_steps 42 = .ok (.iconst 0, 1) := by decide +kernel
theorem dX8_steps_43 : decode cX8_steps 43 = .ok (.iconst 2, 1) := by decide +kernel
theorem dX8_steps_44 : decode cX8_steps 44 = .ok (.invokevirtual 80, 3) := by decide +kernel
theorem dX8_steps_47 : decode cX8_steps 47 = .ok (.ifCond .eq 5, 3) := by decide +kernel
theorem dX8_steps_50 : decode cX8_steps 50 = .ok (.iconst 0, 1) := by decide +kernel
theorem dX8_steps_51 : decode cX8_steps 51 = .ok (.ireturn, 1) := by decide +kernel
theorem dX8_steps_52 : decode cX8_steps 52 = .ok (.aload_n 0, 1) := by decide +kernel
theorem dX8_steps_53 : decode cX8_steps 53 = .ok (.iload_n 1, 1) := by decide +kernel
theorem dX8_steps_54 : decode cX8_steps 54 = .ok (.invokevirtual 139, 3) := by decide +kernel
theorem dX8_steps_57 : decode cX8_steps 57 = .ok (.aload_n 0, 1) := by decide +kernel
theorem dX8_steps_58 : decode cX8_steps 58 = .ok (.aload_n 0, 1) := by decide +kernel
theorem dX8_steps_59 : decode cX8_steps 59 = .ok (.getfield 22, 3) := by decide +kernel
theorem dX8_steps_62 : decode cX8_steps 62 = .ok (.iload_n 2, 1) := by decide +kernel
theorem dX8_steps_63 : decode cX8_steps 63 = .ok (.iaload, 1) := by decide +kernel
theorem dX8_steps_64 : decode cX8_steps 64 = .ok (.bipush 99, 2) := by decide +kernel
theorem dX8_steps_66 : decode cX8_steps 66 = .ok (.if_icmp .ne 7, 3) := by decide +kernel
theorem dX8_steps_69 : decode cX8_steps 69 = .ok (.iconst 1, 1) := by decide +kernel
theorem dX8_steps_70 : decode cX8_steps 70 = .ok (.goto 4, 3) := by decide +kernel
theorem dX8_steps_73 : decode cX8_steps 73 = .ok (.iconst 0, 1) := by decide +kernel
theorem dX8_steps_74 : decode cX8_steps 74 = .ok (.iconst 2, 1) := by decide +kernel
theorem dX8_steps_75 : decode cX8_steps 75 = .ok (.invokevirtual 80, 3) := by decide +kernel
theorem dX8_steps_78 : decode cX8_steps 78 = .ok (.ifCond .eq 7, 3) := by decide +kernel
theorem dX8_steps_81 : decode cX8_steps 81 = .ok (.iconst 0, 1) := by decide +kernel
theorem dX8_steps_82 : decode cX8_steps 82 = .ok (.goto 9, 3) := by decide +kernel
theorem dX8_steps_85 : decode cX8_steps 85 = .ok (.aload_n 0, 1) := by decide +kernel
theorem dX8_steps_86 : decode cX8_steps 86 = .ok (.getfield 22, 3) := by decide +kernel
theorem dX8_steps_89 : decode cX8_steps 89 = .ok (.iload_n 2, 1) := by decide +kernel
theorem dX8_steps_90 : decode cX8_steps 90 = .ok (.iaload, 1) := by decide +kernel
theorem dX8_steps_91 : decode cX8_steps 91 = .ok (.ireturn, 1) := by decide +kernel
theorem dX8_stepsAgain_0 : decode cX8_stepsAgain 0 = .ok (.aload_n 0, 1) := by decide +kernel
theorem dX8_stepsAgain_1 : decode cX8_stepsAgain 1 = .ok (.iload_n 1, 1) := by decide +kernel
theorem dX8_stepsAgain_2 : decode cX8_stepsAgain 2 = .ok (.iload_n 2, 1) := by decide +kernel
theorem dX8_stepsAgain_3 : decode cX8_stepsAgain 3 = .ok (.invokevirtual 143, 3) := by decide +kernel
theorem dX8_stepsAgain_6 : decode cX8_stepsAgain 6 = .ok (.ireturn, 1) := by decide +kernel
theorem dX8_reach_0 : decode cX8_reach 0 = .ok (.aload_n 0, 1) := by decide +kernel
theorem dX8_reach_1 : decode cX8_reach 1 = .ok (.aload_n 0, 1) := by decide +kernel
theorem dX8_reach_2 : decode cX8_reach 2 = .ok (.iload_n 1, 1) := by decide +kernel
theorem dX8_reach_3 : decode cX8_reach 3 = .ok (.invokevirtual 120, 3) := by decide +kernel
theorem dX8_reach_6 : decode cX8_reach 6 = .ok (.ifCond .ne 7, 3) := by decide +kernel
theorem dX8_reach_9 : decode cX8_reach 9 = .ok (.iconst 1, 1) := by decide +kernel
theorem dX8_reach_10 : decode cX8_reach 10 = .ok (.goto 4, 3) := by decide +kernel
theorem dX8_reach_13 : decode cX8_reach 13 = .ok (.iconst 0, 1) := by decide +kernel
theorem dX8_reach_14 : decode cX8_reach 14 = .ok (.iconst 1, 1) := by decide +kernel
theorem dX8_reach_15 : decode cX8_reach 15 = .ok (.invokevirtual 80, 3) := by decide +kernel
theorem dX8_reach_18 : decode cX8_reach 18 = .ok (.ifCond .ne 31, 3) := by decide +kernel
theorem dX8_reach_21 : decode cX8_reach 21 = .ok (.aload_n 0, 1) := by decide +kernel
theorem dX8_reach_22 : decode cX8_reach 22 = .ok (.iload_n 1, 1) := by decide +kernel
theorem dX8_reach_23 : decode cX8_reach 23 = .ok (.iconst 4, 1) := by decide +kernel
theorem dX8_reach_24 : decode cX8_reach 24 = .ok (.invokevirtual 90, 3) := by decide +kernel
theorem dX8_reach_27 : decode cX8_reach 27 = .ok (.ifCond .lt 22, 3) := by decide +kernel
theorem dX8_reach_30 : decode cX8_reach 30 = .ok (.aload_n 0, 1) := by decide +kernel
theorem dX8_reach_31 : decode cX8_reach 31 = .ok (.iload_n 1, 1) := by decide +kernel
theorem dX8_reach_32 : decode cX8_reach 32 = .ok (.invokevirtual 146, 3) := by decide +kernel
theorem dX8_reach_35 : decode cX8_reach 35 = .ok (.ifCond .ne 14, 3) := by decide +kernel
theorem dX8_reach_38 : decode cX8_reach 38 = .ok (.aload_n 0, 1) := by decide +kernel
theorem dX8_reach_39 : decode cX8_reach 39 = .ok (.getfield 9, 3) := by decide +kernel
theorem dX8_reach_42 : decode cX8_reach 42 = .ok (.iconst 1, 1) := by decide +kernel
theorem dX8_reach_43 : decode cX8_reach 43 = .ok (.iaload, 1) := by decide +kernel
theorem dX8_reach_44 : decode cX8_reach 44 = .ok (.bipush 48, 2) := by decide +kernel
theorem dX8_reach_46 : decode cX8_reach 46 = .ok (.if_icmp .ne 5, 3) := by decide +kernel
theorem dX8_reach_49 : decode cX8_reach 49 = .ok (.iconst 0, 1) := by decide +kernel
theorem dX8_reach_50 : decode cX8_reach 50 = .ok (.ireturn, 1) := by decide +kernel
theorem dX8_reach_51 : decode cX8_reach 51 = .ok (.aload_n 0, 1) := by decide +kernel
theorem dX8_reach_52 : decode cX8_reach 52 = .ok (.iload_n 1, 1) := by decide +kernel
theorem dX8_reach_53 : decode cX8_reach 53 = .ok (.invokevirtual 139, 3) := by decide +kernel
theorem dX8_reach_56 : decode cX8_reach 56 = .ok (.iconst 0, 1) := by decide +kernel
theorem dX8_reach_57 : decode cX8_reach 57 = .ok (.istore_n 2, 1) := by decide +kernel
theorem dX8_reach_58 : decode cX8_reach 58 = .ok (.iconst 0, 1) := by decide +kernel
theorem dX8_reach_59 : decode cX8_reach 59 = .ok (.istore_n 3, 1) := by decide +kernel
theorem dX8_reach_60 : decode cX8_reach 60 = .ok (.iload_n 3, 1) := by decide +kernel
theorem dX8_reach_61 : decode cX8_reach 61 = .ok (.bipush 45, 2) := by decide +kernel
theorem dX8_reach_63 : decode cX8_reach 63 = .ok (.if_icmp .ge 50, 3) := by decide +kernel
theorem dX8_reach_66 : decode cX8_reach 66 = .ok (.iload_n 2, 1) := by decide +kernel
theorem dX8_reach_67 : decode cX8_reach 67 = .ok (.aload_n 0, 1) := by decide +kernel
theorem dX8_reach_68 : decode cX8_reach 68 = .ok (.getfield 22, 3) := by decide +kernel
theorem dX8_reach_71 : decode cX8_reach 71 = .ok (.iload_n 3, 1) := by decide +kernel
theorem dX8_reach_72 : decode cX8_reach 72 = .ok (.iaload, 1) := by decide +kernel
theorem dX8_reach_73 : decode cX8_reach 73 = .ok (.ifCond .le 31, 3) := by decide +kernel
theorem dX8_reach_76 : decode cX8_reach 76 = .ok (.aload_n 0, 1) := by decide +kernel
theorem dX8_reach_77 : decode cX8_reach 77 = .ok (.getfield 22, 3) := by decide +kernel
theorem dX8_reach_80 : decode cX8_reach 80 = .ok (.iload_n 3, 1) := by decide +kernel
theorem dX8_reach_81 : decode cX8_reach 81 = .ok (.iaload, 1) := by decide +kernel
theorem dX8_reach_82 : decode cX8_reach 82 = .ok (.aload_n 0, 1) := by decide +kernel
theorem dX8_reach_83 : decode cX8_reach 83 = .ok (.iload_n 1, 1) := by decide +kernel
theorem dX8_reach_84 : decode cX8_reach 84 = .ok (.iconst 2, 1) := by decide +kernel
theorem dX8_reach_85 : decode cX8_reach 85 = .ok (.invokevirtual 90, 3) := by decide +kernel
theorem dX8_reach_88 : decode cX8_reach 88 = .ok (.aload_n 0, 1) := by decide +kernel
theorem dX8_reach_89 : decode cX8_reach 89 = .ok (.iload_n 1, 1) := by decide +kernel
theorem dX8_reach_90 : decode cX8_reach 90 = .ok (.iconst 3, 1) := by decide +kernel
theorem dX8_reach_91 : decode cX8_reach 91 = .ok (.invokevirtual 90, 3) := by decide +kernel
theorem dX8_reach_94 : decode cX8_reach 94 = .ok (.invokestatic 117, 3) := by decide +kernel
theorem dX8_reach_97 : decode cX8_reach 97 = .ok (.if_icmp .gt 7, 3) := by decide +kernel
theorem dX8_reach_100 : decode cX8_reach 100 = .ok (.iconst 1, 1) := by decide +kernel
theorem dX8_reach_101 : decode cX8_reach 101 = .ok (.goto 4, 3) := by decide +kernel
theorem dX8_reach_104 : decode cX8_reach 104 = .ok (.iconst 0, 1) := by decide +kernel
theorem dX8_reach_105 : decode cX8_reach 105 = .ok (.iadd, 1) := by decide +kernel
theorem dX8_reach_106 : decode cX8_reach 106 = .ok (.istore_n 2, 1) := by decide +kernel
theorem dX8_reach_107 : decode cX8_reach 107 = .ok (.iinc 3 1, 3) := by decide +kernel
theorem dX8_reach_110 : decode cX8_reach 110 = .ok (.goto (-50), 3) := by decide +kernel
theorem dX8_reach_113 : decode cX8_reach 113 = .ok (.iload_n 2, 1) := by decide +kernel
theorem dX8_reach_114 : decode cX8_reach 114 = .ok (.ireturn, 1) := by decide +kernel
theorem dX8_swims_0 : decode cX8_swims 0 = .ok (.aload_n 0, 1) := by decide +kernel
theorem dX8_swims_1 : decode cX8_swims 1 = .ok (.aload_n 0, 1) := by decide +kernel
theorem dX8_swims_2 : decode cX8_swims 2 = .ok (.iload_n 1, 1) := by decide +kernel
theorem dX8_swims_3 : decode cX8_swims 3 = .ok (.invokevirtual 120, 3) := by decide +kernel
theorem dX8_swims_6 : decode cX8_swims 6 = .ok (.ifCond .eq 10, 3) := by decide +kernel
theorem dX8_swims_9 : decode cX8_swims 9 = .ok (.iload_n 2, 1) := by decide +kernel
theorem dX8_swims_10 : decode cX8_swims 10 = .ok (.invokestatic 76, 3) := by decide +kernel
theorem dX8_swims_13 : decode cX8_swims 13 = .ok (.ifCond .ne 7, 3) := by decide +kernel
theorem dX8_swims_16 : decode cX8_swims 16 = .ok (.iconst 1, 1) := by decide +kernel
theorem dX8_swims_17 : decode cX8_swims 17 = .ok (.goto 4, 3) := by decide +kernel
theorem dX8_swims_20 : decode cX8_swims 20 = .ok (.iconst 0, 1) := by decide +kernel
theorem dX8_swims_21 : decode cX8_swims 21 = .ok (.iconst 1, 1) := by decide +kernel
theorem dX8_swims_22 : decode cX8_swims 22 = .ok (.invokevirtual 80, 3) := by decide +kernel
theorem dX8_swims_25 : decode cX8_swims 25 = .ok (.ifCond .ne 18, 3) := by decide +kernel
theorem dX8_swims_28 : decode cX8_swims 28 = .ok (.aload_n 0, 1) := by decide +kernel
theorem dX8_swims_29 : decode cX8_swims 29 = .ok (.invokevirtual 123, 3) := by decide +kernel
theorem dX8_swims_32 : decode cX8_swims 32 = .ok (.ifCond .ne 11, 3) := by decide +kernel
theorem dX8_swims_35 : decode cX8_swims 35 = .ok (.aload_n 0, 1) := by decide +kernel
theorem dX8_swims_36 : decode cX8_swims 36 = .ok (.iload_n 1, 1) := by decide +kernel
theorem dX8_swims_37 : decode cX8_swims 37 = .ok (.invokevirtual 127, 3) := by decide +kernel
theorem dX8_swims_40 : decode cX8_swims 40 = .ok (.ifCond .eq 5, 3) := by decide +kernel
theorem dX8_swims_43 : decode cX8_swims 43 = .ok (.iconst 0, 1) := by decide +kernel
theorem dX8_swims_44 : decode cX8_swims 44 = .ok (.ireturn, 1) := by decide +kernel
theorem dX8_swims_45 : decode cX8_swims 45 = .ok (.aload_n 0, 1) := by decide +kernel
theorem dX8_swims_46 : decode cX8_swims 46 = .ok (.iload_n 2, 1) := by decide +kernel
theorem dX8_swims_47 : decode cX8_swims 47 = .ok (.invokevirtual 93, 3) := by decide +kernel
theorem dX8_swims_50 : decode cX8_swims 50 = .ok (.istore_n 3, 1) := by decide +kernel
theorem dX8_swims_51 : decode cX8_swims 51 = .ok (.aload_n 0, 1) := by decide +kernel
theorem dX8_swims_52 : decode cX8_swims 52 = .ok (.aload_n 0, 1) := by decide +kernel
theorem dX8_swims_53 : decode cX8_swims 53 = .ok (.iload_n 1, 1) := by decide +kernel
theorem dX8_swims_54 : decode cX8_swims 54 = .ok (.invokevirtual 146, 3) := by decide +kernel
theorem dX8_swims_57 : decode cX8_swims 57 = .ok (.iconst 4, 1) := by decide +kernel
theorem dX8_swims_58 : decode cX8_swims 58 = .ok (.aload_n 0, 1) := by decide +kernel
theorem dX8_swims_59 : decode cX8_swims 59 = .ok (.iload_n 1, 1) := by decide +kernel
theorem dX8_swims_60 : decode cX8_swims 60 = .ok (.iconst 4, 1) := by decide +kernel
theorem dX8_swims_61 : decode cX8_swims 61 = .ok (.invokevirtual 90, 3) := by decide +kernel
theorem dX8_swims_64 : decode cX8_swims 64 = .ok (.invokevirtual 99, 3) := by decide +kernel
theorem dX8_swims_67 : decode cX8_swims 67 = .ok (.ifCond .ne 45, 3) := by decide +kernel
theorem dX8_swims_70 : decode cX8_swims 70 = .ok (.aload_n 0, 1) := by decide +kernel
theorem dX8_swims_71 : decode cX8_swims 71 = .ok (.iload_n 3, 1) := by decide +kernel
theorem dX8_swims_72 : decode cX8_swims 72 = .ok (.ifCond .lt 7, 3) := by decide +kernel
theorem dX8_swims_75 : decode cX8_swims 75 = .ok (.iconst 1, 1) := by decide +kernel
theorem dX8_swims_76 : decode cX8_swims 76 = .ok (.goto 4, 3) := by decide +kernel
theorem dX8_swims_79 : decode cX8_swims 79 = .ok (.iconst 0, 1) := by decide +kernel
theorem dX8_swims_80 : decode cX8_swims 80 = .ok (.bipush 7, 2) := by decide +kernel
theorem dX8_swims_82 : decode cX8_swims 82 = .ok (.iload_n 3, 1) := by decide +kernel
theorem dX8_swims_83 : decode cX8_swims 83 = .ok (.invokevirtual 99, 3) := by decide +kernel
theorem dX8_swims_86 : decode cX8_swims 86 = .ok (.ifCond .ne 26, 3) := by decide +kernel
theorem dX8_swims_89 : decode cX8_swims 89 = .ok (.aload_n 0, 1) := by decide +kernel
theorem dX8_swims_90 : decode cX8_swims 90 = .ok (.aload_n 0, 1) := by decide +kernel
theorem dX8_swims_91 : decode cX8_swims 91 = .ok (.iload_n 2, 1) := by decide +kernel
theorem dX8_swims_92 : decode cX8_swims 92 = .ok (.invokevirtual 84, 3) := by decide +kernel
theorem dX8_swims_95 : decode cX8_swims 95 = .ok (.bipush 8, 2) := by decide +kernel
theorem dX8_swims_97 : decode cX8_swims 97 = .ok (.aload_n 0, 1) := by decide +kernel
theorem dX8_swims_98 : decode cX8_swims 98 = .ok (.getfield 9, 3) := by decide +kernel
theorem dX8_swims_101 : decode cX8_swims 101 = .ok (.iconst 1, 1) := by decide +kernel
theorem dX8_swims_102 : decode cX8_swims 102 = .ok (.iaload, 1) := by decide +kernel
theorem dX8_swims_103 : decode cX8_swims 103 = .ok (.invokestatic 68, 3) := by decide +kernel
theorem dX8_swims_106 : decode cX8_swims 106 = .ok (.invokevirtual 99, 3) := by decide +kernel
theorem dX8_swims_109 : decode cX8_swims 109 = .ok (.ifCond .eq 5, 3) := by decide +kernel
theorem dX8_swims_112 : decode cX8_swims 112 = .ok (.iconst 0, 1) := by decide +kernel
theorem dX8_swims_113 : decode cX8_swims 113 = .ok (.ireturn, 1) := by decide +kernel
theorem dX8_swims_114 : decode cX8_swims 114 = .ok (.aload_n 0, 1) := by decide +kernel
theorem dX8_swims_115 : decode cX8_swims 115 = .ok (.iload_n 1, 1) := by decide +kernel
theorem dX8_swims_116 : decode cX8_swims 116 = .ok (.invokevirtual 139, 3) := by decide +kernel
theorem dX8_swims_119 : decode cX8_swims 119 = .ok (.aload_n 0, 1) := by decide +kernel
theorem dX8_swims_120 : decode cX8_swims 120 = .ok (.getfield 22, 3) := by decide +kernel
theorem dX8_swims_123 : decode cX8_swims 123 = .ok (.iload_n 2, 1) := by decide +kernel
theorem dX8_swims_124 : decode cX8_swims 124 = .ok (.iaload, 1) := by decide +kernel
theorem dX8_swims_125 : decode cX8_swims 125 = .ok (.istore 4, 2) := by decide +kernel
theorem dX8_swims_127 : decode cX8_swims 127 = .ok (.aload_n 0, 1) := by decide +kernel
theorem dX8_swims_128 : decode cX8_swims 128 = .ok (.iload_n 1, 1) := by decide +kernel
theorem dX8_swims_129 : decode cX8_swims 129 = .ok (.iconst 3, 1) := by decide +kernel
theorem dX8_swims_130 : decode cX8_swims 130 = .ok (.invokevirtual 90, 3) := by decide +kernel
theorem dX8_swims_133 : decode cX8_swims 133 = .ok (.istore 5, 2) := by decide +kernel
theorem dX8_swims_135 : decode cX8_swims 135 = .ok (.aload_n 0, 1) := by decide +kernel
theorem dX8_swims_136 : decode cX8_swims 136 = .ok (.iload 4, 2) := by decide +kernel
theorem dX8_swims_138 : decode cX8_swims 138 = .ok (.aload_n 0, 1) := by decide +kernel
theorem dX8_swims_139 : decode cX8_swims 139 = .ok (.iload_n 1, 1) := by decide +kernel
theorem dX8_swims_140 : decode cX8_swims 140 = .ok (.iconst 2, 1) := by decide +kernel
theorem dX8_swims_141 : decode cX8_swims 141 = .ok (.invokevirtual 90, 3) := by decide +kernel
theorem dX8_swims_144 : decode cX8_swims 144 = .ok (.if_icmp .le 7, 3) := by decide +kernel
theorem dX8_swims_147 : decode cX8_swims 147 = .ok (.iconst 1, 1) := by decide +kernel
theorem dX8_swims_148 : decode cX8_swims 148 = .ok (.goto 4, 3) := by decide +kernel
theorem dX8_swims_151 : decode cX8_swims 151 = .ok (.iconst 0, 1) := by decide +kernel
theorem dX8_swims_152 : decode cX8_swims 152 = .ok (.iconst 5, 1) := by decide +kernel
theorem dX8_swims_153 : decode cX8_swims 153 = .ok (.iload 4, 2) := by decide +kernel
theorem dX8_swims_155 : decode cX8_swims 155 = .ok (.bipush 99, 2) := by decide +kernel
theorem dX8_swims_157 : decode cX8_swims 157 = .ok (.if_icmp .ne 7, 3) := by decide +kernel
theorem dX8_swims_160 : decode cX8_swims 160 = .ok (.iconst (-1), 1) := by decide +kernel
theorem dX8_swims_161 : decode cX8_swims 161 = .ok (.goto 5, 3) := by decide +kernel
theorem dX8_swims_164 : decode cX8_swims 164 = .ok (.iload 4, 2) := by decide +kernel
theorem dX8_swims_166 : decode cX8_swims 166 = .ok (.invokevirtual 99, 3) := by decide +kernel
theorem dX8_swims_169 : decode cX8_swims 169 = .ok (.ifCond .ne 26, 3) := by decide +kernel
theorem dX8_swims_172 : decode cX8_swims 172 = .ok (.aload_n 0, 1) := by decide +kernel
theorem dX8_swims_173 : decode cX8_swims 173 = .ok (.iload 5, 2) := by decide +kernel
theorem dX8_swims_175 : decode cX8_swims 175 = .ok (.iload 4, 2) := by decide +kernel
theorem dX8_swims_177 : decode cX8_swims 177 = .ok (.if_icmp .ge 7, 3) := by decide +kernel
theorem dX8_swims_180 : decode cX8_swims 180 = .ok (.iconst 1, 1) := by decide +kernel
theorem dX8_swims_181 : decode cX8_swims 181 = .ok (.goto 4, 3) := by decide +kernel
theorem dX8_swims_184 : decode cX8_swims 184 = .ok (.iconst 0, 1) := by decide +kernel
theorem dX8_swims_185 : decode cX8_swims 185 = .ok (.bipush 6, 2) := by decide +kernel
theorem dX8_swims_187 : decode cX8_swims 187 = .ok (.iload 5, 2) := by decide +kernel
theorem dX8_swims_189 : decode cX8_swims 189 = .ok (.invokevirtual 99, 3) := by decide +kernel
theorem dX8_swims_192 : decode cX8_swims 192 = .ok (.ifCond .eq 5, 3) := by decide +kernel
theorem dX8_swims_195 : decode cX8_swims 195 = .ok (.iconst 0, 1) := by decide +kernel
theorem dX8_swims_196 : decode cX8_swims 196 = .ok (.ireturn, 1) := by decide +kernel
theorem dX8_swims_197 : decode cX8_swims 197 = .ok (.aload_n 0, 1) := by decide +kernel
theorem dX8_swims_198 : decode cX8_swims 198 = .ok (.iload_n 1, 1) := by decide +kernel
theorem dX8_swims_199 : decode cX8_swims 199 = .ok (.iconst 4, 1) := by decide +kernel
theorem dX8_swims_200 : decode cX8_swims 200 = .ok (.iload_n 2, 1) := by decide +kernel
theorem dX8_swims_201 : decode cX8_swims 201 = .ok (.invokevirtual 103, 3) := by decide +kernel
theorem dX8_swims_204 : decode cX8_swims 204 = .ok (.aload_n 0, 1) := by decide +kernel
theorem dX8_swims_205 : decode cX8_swims 205 = .ok (.iload_n 1, 1) := by decide +kernel
theorem dX8_swims_206 : decode cX8_swims 206 = .ok (.iconst 3, 1) := by decide +kernel
theorem dX8_swims_207 : decode cX8_swims 207 = .ok (.iload 5, 2) := by decide +kernel
theorem dX8_swims_209 : decode cX8_swims 209 = .ok (.iload 4, 2) := by decide +kernel
theorem dX8_swims_211 : decode cX8_swims 211 = .ok (.isub, 1) := by decide +kernel
theorem dX8_swims_212 : decode cX8_swims 212 = .ok (.invokevirtual 103, 3) := by decide +kernel
theorem dX8_swims_215 : decode cX8_swims 215 = .ok (.aload_n 0, 1) := by decide +kernel
theorem dX8_swims_216 : decode cX8_swims 216 = .ok (.iload_n 1, 1) := by decide +kernel
theorem dX8_swims_217 : decode cX8_swims 217 = .ok (.iconst 5, 1) := by decide +kernel
theorem dX8_swims_218 : decode cX8_swims 218 = .ok (.iconst 0, 1) := by decide +kernel
theorem dX8_swims_219 : decode cX8_swims 219 = .ok (.invokevirtual 103, 3) := by decide +kernel
theorem dX8_swims_222 : decode cX8_swims 222 = .ok (.aload_n 0, 1) := by decide +kernel
theorem dX8_swims_223 : decode cX8_swims 223 = .ok (.iload 4, 2) := by decide +kernel
theorem dX8_swims_225 : decode cX8_swims 225 = .ok (.invokevirtual 130, 3) := by decide +kernel
theorem dX8_swims_228 : decode cX8_swims 228 = .ok (.ireturn, 1) := by decide +kernel
theorem dX8_swim_0 : decode cX8_swim 0 = .ok (.aload_n 0, 1) := by decide +kernel
theorem dX8_swim_1 : decode cX8_swim 1 = .ok (.invokevirtual 107, 3) := by decide +kernel
theorem dX8_swim_4 : decode cX8_swim 4 = .ok (.aload_n 0, 1) := by decide +kernel
theorem dX8_swim_5 : decode cX8_swim 5 = .ok (.aload_n 0, 1) := by decide +kernel
theorem dX8_swim_6 : decode cX8_swim 6 = .ok (.iload_n 1, 1) := by decide +kernel
theorem dX8_swim_7 : decode cX8_swim 7 = .ok (.iload_n 2, 1) := by decide +kernel
theorem dX8_swim_8 : decode cX8_swim 8 = .ok (.invokevirtual 149, 3) := by decide +kernel
theorem dX8_swim_11 : decode cX8_swim 11 = .ok (.iconst 2, 1) := by decide +kernel
theorem dX8_swim_12 : decode cX8_swim 12 = .ok (.invokevirtual 114, 3) := by decide +kernel
theorem dX8_swim_15 : decode cX8_swim 15 = .ok (.ireturn, 1) := by decide +kernel
theorem dX8_isFoul_0 : decode cX8_isFoul 0 = .ok (.iconst 1, 1) := by decide +kernel
theorem dX8_isFoul_1 : decode cX8_isFoul 1 = .ok (.aload_n 0, 1) := by decide +kernel
theorem dX8_isFoul_2 : decode cX8_isFoul 2 = .ok (.iload_n 1, 1) := by decide +kernel
theorem dX8_isFoul_3 : decode cX8_isFoul 3 = .ok (.iconst 0, 1) := by decide +kernel
theorem dX8_isFoul_4 : decode cX8_isFoul 4 = .ok (.invokevirtual 90, 3) := by decide +kernel
theorem dX8_isFoul_7 : decode cX8_isFoul 7 = .ok (.isub, 1) := by decide +kernel
theorem dX8_isFoul_8 : decode cX8_isFoul 8 = .ok (.istore_n 2, 1) := by decide +kernel
theorem dX8_isFoul_9 : decode cX8_isFoul 9 = .ok (.iconst 0, 1) := by decide +kernel
theorem dX8_isFoul_10 : decode cX8_isFoul 10 = .ok (.istore_n 3, 1) := by decide +kernel
theorem dX8_isFoul_11 : decode cX8_isFoul 11 = .ok (.iconst 0, 1) := by decide +kernel
theorem dX8_isFoul_12 : decode cX8_isFoul 12 = .ok (.istore 4, 2) := by decide +kernel
theorem dX8_isFoul_14 : decode cX8_isFoul 14 = .ok (.iload 4, 2) := by decide +kernel
theorem dX8_isFoul_16 : decode cX8_isFoul 16 = .ok (.aload_n 0, 1) := by decide +kernel
theorem dX8_isFoul_17 : decode cX8_isFoul 17 = .ok (.getfield 9, 3) := by decide +kernel
theorem dX8_isFoul_20 : decode cX8_isFoul 20 = .ok (.iconst 0, 1) := by decide +kernel
theorem dX8_isFoul_21 : decode cX8_isFoul 21 = .ok (.iaload, 1) := by decide +kernel
theorem dX8_isFoul_22 : decode cX8_isFoul 22 = .ok (.if_icmp .ge 69, 3) := by decide +kernel
theorem dX8_isFoul_25 : decode cX8_isFoul 25 = .ok (.iload_n 3, 1) := by decide +kernel
theorem dX8_isFoul_26 : decode cX8_isFoul 26 = .ok (.aload_n 0, 1) := by decide +kernel
theorem dX8_isFoul_27 : decode cX8_isFoul 27 = .ok (.iload 4, 2) := by decide +kernel
theorem dX8_isFoul_29 : decode cX8_isFoul 29 = .ok (.iconst 0, 1) := by decide +kernel
theorem dX8_isFoul_30 : decode cX8_isFoul 30 = .ok (.invokevirtual 90, 3) := by decide +kernel
theorem dX8_isFoul_33 : decode cX8_isFoul 33 = .ok (.iload_n 2, 1) := by decide +kernel
theorem dX8_isFoul_34 : decode cX8_isFoul 34 = .ok (.if_icmp .ne 48, 3) := by decide +kernel
theorem dX8_isFoul_37 : decode cX8_isFoul 37 = .ok (.aload_n 0, 1) := by decide +kernel
theorem dX8_isFoul_38 : decode cX8_isFoul 38 = .ok (.iload 4, 2) := by decide +kernel
theorem dX8_isFoul_40 : decode cX8_isFoul 40 = .ok (.iconst 5, 1) := by decide +kernel
theorem dX8_isFoul_41 : decode cX8_isFoul 41 = .ok (.invokevirtual 90, 3) := by decide +kernel
theorem dX8_isFoul_44 : decode cX8_isFoul 44 = .ok (.iconst 1, 1) := by decide +kernel
theorem dX8_isFoul_45 : decode cX8_isFoul 45 = .ok (.if_icmp .ne 37, 3) := by decide +kernel
theorem dX8_isFoul_48 : decode cX8_isFoul 48 = .ok (.aload_n 0, 1) := by decide +kernel
theorem dX8_isFoul_49 : decode cX8_isFoul 49 = .ok (.iload 4, 2) := by decide +kernel
theorem dX8_isFoul_51 : decode cX8_isFoul 51 = .ok (.iconst 4, 1) := by decide +kernel
theorem dX8_isFoul_52 : decode cX8_isFoul 52 = .ok (.invokevirtual 90, 3) := by decide +kernel
theorem dX8_isFoul_55 : decode cX8_isFoul 55 = .ok (.ifCond .lt 27, 3) := by decide +kernel
theorem dX8_isFoul_58 : decode cX8_isFoul 58 = .ok (.aload_n 0, 1) := by decide +kernel
theorem dX8_isFoul_59 : decode cX8_isFoul 59 = .ok (.iload 4, 2) := by decide +kernel
theorem dX8_isFoul_61 : decode cX8_isFoul 61 = .ok (.iconst 4, 1) := by decide +kernel
theorem dX8_isFoul_62 : decode cX8_isFoul 62 = .ok (.invokevirtual 90, 3) := by decide +kernel
theorem dX8_isFoul_65 : decode cX8_isFoul 65 = .ok (.aload_n 0, 1) := by decide +kernel
theorem dX8_isFoul_66 : decode cX8_isFoul 66 = .ok (.getfield 9, 3) := by decide +kernel
theorem dX8_isFoul_69 : decode cX8_isFoul 69 = .ok (.iconst 2, 1) := by decide +kernel
theorem dX8_isFoul_70 : decode cX8_isFoul 70 = .ok (.iaload, 1) := by decide +kernel
theorem dX8_isFoul_71 : decode cX8_isFoul 71 = .ok (.invokestatic 152, 3) := by decide +kernel
theorem dX8_isFoul_74 : decode cX8_isFoul 74 = .ok (.iconst 1, 1) := by decide +kernel
theorem dX8_isFoul_75 : decode cX8_isFoul 75 = .ok (.if_icmp .gt 7, 3) := by decide +kernel
theorem dX8_isFoul_78 : decode cX8_isFoul 78 = .ok (.iconst 1, 1) := by decide +kernel
theorem dX8_isFoul_79 : decode cX8_isFoul 79 = .ok (.goto 4, 3) := by decide +kernel
theorem dX8_isFoul_82 : decode cX8_isFoul 82 = .ok (.iconst 0, 1) := by decide +kernel
theorem dX8_isFoul_83 : decode cX8_isFoul 83 = .ok (.ior, 1) := by decide +kernel
theorem dX8_isFoul_84 : decode cX8_isFoul 84 = .ok (.istore_n 3, 1) := by decide +kernel
theorem dX8_isFoul_85 : decode cX8_isFoul 85 = .ok (.iinc 4 1, 3) := by decide +kernel
theorem dX8_isFoul_88 : decode cX8_isFoul 88 = .ok (.goto (-74), 3) := by decide +kernel
theorem dX8_isFoul_91 : decode cX8_isFoul 91 = .ok (.iload_n 3, 1) := by decide +kernel
theorem dX8_isFoul_92 : decode cX8_isFoul 92 = .ok (.ifCond .eq 17, 3) := by decide +kernel
theorem dX8_isFoul_95 : decode cX8_isFoul 95 = .ok (.aload_n 0, 1) := by decide +kernel
theorem dX8_isFoul_96 : decode cX8_isFoul 96 = .ok (.getfield 9, 3) := by decide +kernel
theorem dX8_isFoul_99 : decode cX8_isFoul 99 = .ok (.iconst 3, 1) := by decide +kernel
theorem dX8_isFoul_100 : decode cX8_isFoul 100 = .ok (.iaload, 1) := by decide +kernel
theorem dX8_isFoul_101 : decode cX8_isFoul 101 = .ok (.iload_n 2, 1) := by decide +kernel
theorem dX8_isFoul_102 : decode cX8_isFoul 102 = .ok (.if_icmp .ne 7, 3) := by decide +kernel
theorem dX8_isFoul_105 : decode cX8_isFoul 105 = .ok (.iconst 1, 1) := by decide +kernel
theorem dX8_isFoul_106 : decode cX8_isFoul 106 = .ok (.goto 4, 3) := by decide +kernel
theorem dX8_isFoul_109 : decode cX8_isFoul 109 = .ok (.iconst 0, 1) := by decide +kernel
theorem dX8_isFoul_110 : decode cX8_isFoul 110 = .ok (.ireturn, 1) := by decide +kernel
theorem dX8_goes_0 : decode cX8_goes 0 = .ok (.aload_n 0, 1) := by decide +kernel
theorem dX8_goes_1 : decode cX8_goes 1 = .ok (.getfield 9, 3) := by decide +kernel
theorem dX8_goes_4 : decode cX8_goes 4 = .ok (.iconst 2, 1) := by decide +kernel
theorem dX8_goes_5 : decode cX8_goes 5 = .ok (.iaload, 1) := by decide +kernel
theorem dX8_goes_6 : decode cX8_goes 6 = .ok (.istore 4, 2) := by decide +kernel
theorem dX8_goes_8 : decode cX8_goes 8 = .ok (.aload_n 0, 1) := by decide +kernel
theorem dX8_goes_9 : decode cX8_goes 9 = .ok (.iconst 0, 1) := by decide +kernel
theorem dX8_goes_10 : decode cX8_goes 10 = .ok (.putfield 155, 3) := by decide +kernel
theorem dX8_goes_13 : decode cX8_goes 13 = .ok (.iconst 0, 1) := by decide +kernel
theorem dX8_goes_14 : decode cX8_goes 14 = .ok (.istore 5, 2) := by decide +kernel
theorem dX8_goes_16 : decode cX8_goes 16 = .ok (.iload 5, 2) := by decide +kernel
theorem dX8_goes_18 : decode cX8_goes 18 = .ok (.iload_n 3, 1) := by decide +kernel
theorem dX8_goes_19 : decode cX8_goes 19 = .ok (.if_icmp .ge 130, 3) := by decide +kernel
theorem dX8_goes_22 : decode cX8_goes 22 = .ok (.iload 4, 2) := by decide +kernel
theorem dX8_goes_24 : decode cX8_goes 24 = .ok (.iload_n 2, 1) := by decide +kernel
theorem dX8_goes_25 : decode cX8_goes 25 = .ok (.invokestatic 136, 3) := by decide +kernel
theorem dX8_goes_28 : decode cX8_goes 28 = .ok (.istore 6, 2) := by decide +kernel
theorem dX8_goes_30 : decode cX8_goes 30 = .ok (.iload 6, 2) := by decide +kernel
theorem dX8_goes_32 : decode cX8_goes 32 = .ok (.ifCond .ge 68, 3) := by decide +kernel
theorem dX8_goes_35 : decode cX8_goes 35 = .ok (.iload_n 2, 1) := by decide +kernel
theorem dX8_goes_36 : decode cX8_goes 36 = .ok (.iconst 2, 1) := by decide +kernel
theorem dX8_goes_37 : decode cX8_goes 37 = .ok (.irem, 1) := by decide +kernel
theorem dX8_goes_38 : decode cX8_goes 38 = .ok (.iconst 1, 1) := by decide +kernel
theorem dX8_goes_39 : decode cX8_goes 39 = .ok (.if_icmp .ne 20, 3) := by decide +kernel
theorem dX8_goes_42 : decode cX8_goes 42 = .ok (.iload 4, 2) := by decide +kernel
theorem dX8_goes_44 : decode cX8_goes 44 = .ok (.bipush 9, 2) := by decide +kernel
theorem dX8_goes_46 : decode cX8_goes 46 = .ok (.idiv, 1) := by decide +kernel
theorem dX8_goes_47 : decode cX8_goes 47 = .ok (.iconst 1, 1) := by decide +kernel
theorem dX8_goes_48 : decode cX8_goes 48 = .ok (.iconst 3, 1) := by decide +kernel
theorem dX8_goes_49 : decode cX8_goes 49 = .ok (.invokestatic 60, 3) := by decide +kernel
theorem dX8_goes_52 : decode cX8_goes 52 = .ok (.ifCond .eq 7, 3) := by decide +kernel
theorem dX8_goes_55 : decode cX8_goes 55 = .ok (.iconst 1, 1) := by decide +kernel
theorem dX8_goes_56 : decode cX8_goes 56 = .ok (.goto 4, 3) := by decide +kernel
theorem dX8_goes_59 : decode cX8_goes 59 = .ok (.iconst 0, 1) := by decide +kernel
theorem dX8_goes_60 : decode cX8_goes 60 = .ok (.istore 7, 2) := by decide +kernel
theorem dX8_goes_62 : decode cX8_goes 62 = .ok (.aload_n 0, 1) := by decide +kernel
theorem dX8_goes_63 : decode cX8_goes 63 = .ok (.iload 7, 2) := by decide +kernel
theorem dX8_goes_65 : decode cX8_goes 65 = .ok (.ifCond .ne 7, 3) := by decide +kernel
theorem dX8_goes_68 : decode cX8_goes 68 = .ok (.iconst 1, 1) := by decide +kernel
theorem dX8_goes_69 : decode cX8_goes 69 = .ok (.goto 4, 3) := by decide +kernel
theorem dX8_goes_72 : decode cX8_goes 72 = .ok (.iconst 0, 1) := by decide +kernel
theorem dX8_goes_73 : decode cX8_goes 73 = .ok (.putfield 155, 3) := by decide +kernel
theorem dX8_goes_76 : decode cX8_goes 76 = .ok (.iload 7, 2) := by decide +kernel
theorem dX8_goes_78 : decode cX8_goes 78 = .ok (.ifCond .eq 19, 3) := by decide +kernel
theorem dX8_goes_81 : decode cX8_goes 81 = .ok (.bipush 45, 2) := by decide +kernel
theorem dX8_goes_83 : decode cX8_goes 83 = .ok (.iload_n 2, 1) := by decide +kernel
theorem dX8_goes_84 : decode cX8_goes 84 = .ok (.iconst 1, 1) := by decide +kernel
theorem dX8_goes_85 : decode cX8_goes 85 = .ok (.if_icmp .ne 7, 3) := by decide +kernel
theorem dX8_goes_88 : decode cX8_goes 88 = .ok (.iconst 0, 1) := by decide +kernel
theorem dX8_goes_89 : decode cX8_goes 89 = .ok (.goto 4, 3) := by decide +kernel
theorem dX8_goes_92 : decode cX8_goes 92 = .ok (.iconst 1, 1) := by decide +kernel
theorem dX8_goes_93 : decode cX8_goes 93 = .ok (.iadd, 1) := by decide +kernel
theorem dX8_goes_94 : decode cX8_goes 94 = .ok (.goto 5, 3) := by decide +kernel
theorem dX8_goes_97 : decode cX8_goes 97 = .ok (.iload 4, 2) := by decide +kernel
theorem dX8_goes_99 : decode cX8_goes 99 = .ok (.ireturn, 1) := by decide +kernel
theorem dX8_goes_100 : decode cX8_goes 100 = .ok (.aload_n 0, 1) := by decide +kernel
theorem dX8_goes_101 : decode cX8_goes 101 = .ok (.iload 6, 2) := by decide +kernel
theorem dX8_goes_103 : decode cX8_goes 103 = .ok (.invokevirtual 93, 3) := by decide +kernel
theorem dX8_goes_106 : decode cX8_goes 106 = .ok (.istore 7, 2) := by decide +kernel
theorem dX8_goes_108 : decode cX8_goes 108 = .ok (.iload 7, 2) := by decide +kernel
theorem dX8_goes_110 : decode cX8_goes 110 = .ok (.ifCond .lt 12, 3) := by decide +kernel
theorem dX8_goes_113 : decode cX8_goes 113 = .ok (.iload 7, 2) := by decide +kernel
theorem dX8_goes_115 : decode cX8_goes 115 = .ok (.iload_n 1, 1) := by decide +kernel
theorem dX8_goes_116 : decode cX8_goes 116 = .ok (.if_icmp .eq 6, 3) := by decide +kernel
theorem dX8_goes_119 : decode cX8_goes 119 = .ok (.iload 4, 2) := by decide +kernel
theorem dX8_goes_121 : decode cX8_goes 121 = .ok (.ireturn, 1) := by decide +kernel
theorem dX8_goes_122 : decode cX8_goes 122 = .ok (.aload_n 0, 1) := by decide +kernel
theorem dX8_goes_123 : decode cX8_goes 123 = .ok (.iload 6, 2) := by decide +kernel
theorem dX8_goes_125 : decode cX8_goes 125 = .ok (.invokevirtual 84, 3) := by decide +kernel
theorem dX8_goes_128 : decode cX8_goes 128 = .ok (.ifCond .eq 11, 3) := by decide +kernel
theorem dX8_goes_131 : decode cX8_goes 131 = .ok (.aload_n 0, 1) := by decide +kernel
theorem dX8_goes_132 : decode cX8_goes 132 = .ok (.iconst 1, 1) := by decide +kernel
theorem dX8_goes_133 : decode cX8_goes 133 = .ok (.putfield 155, 3) := by decide +kernel
theorem dX8_goes_136 : decode cX8_goes 136 = .ok (.iload 4, 2) := by decide +kernel
theorem dX8_goes_138 : decode cX8_goes 138 = .ok (.ireturn, 1) := by decide +kernel
theorem dX8_goes_139 : decode cX8_goes 139 = .ok (.iload 6, 2) := by decide +kernel
theorem dX8_goes_141 : decode cX8_goes 141 = .ok (.istore 4, 2) := by decide +kernel
theorem dX8_goes_143 : decode cX8_goes 143 = .ok (.iinc 5 1, 3) := by decide +kernel
theorem dX8_goes_146 : decode cX8_goes 146 = .ok (.goto (-130), 3) := by decide +kernel
theorem dX8_goes_149 : decode cX8_goes 149 = .ok (.iload 4, 2) := by decide +kernel
theorem dX8_goes_151 : decode cX8_goes 151 = .ok (.ireturn, 1) := by decide +kernel
theorem dX8_wouldCome_0 : decode cX8_wouldCome 0 = .ok (.aload_n 0, 1) := by decide +kernel
theorem dX8_wouldCome_1 : decode cX8_wouldCome 1 = .ok (.iload_n 1, 1) := by decide +kernel
theorem dX8_wouldCome_2 : decode cX8_wouldCome 2 = .ok (.iload_n 2, 1) := by decide +kernel
theorem dX8_wouldCome_3 : decode cX8_wouldCome 3 = .ok (.iload_n 3, 1) := by decide +kernel
theorem dX8_wouldCome_4 : decode cX8_wouldCome 4 = .ok (.invokevirtual 159, 3) := by decide +kernel
theorem dX8_wouldCome_7 : decode cX8_wouldCome 7 = .ok (.istore 4, 2) := by decide +kernel
theorem dX8_wouldCome_9 : decode cX8_wouldCome 9 = .ok (.iload 4, 2) := by decide +kernel
theorem dX8_wouldCome_11 : decode cX8_wouldCome 11 = .ok (.bipush 45, 2) := by decide +kernel
theorem dX8_wouldCome_13 : decode cX8_wouldCome 13 = .ok (.if_icmp .lt 16, 3) := by decide +kernel
theorem dX8_wouldCome_16 : decode cX8_wouldCome 16 = .ok (.aload_n 0, 1) := by decide +kernel
theorem dX8_wouldCome_17 : decode cX8_wouldCome 17 = .ok (.iload_n 1, 1) := by decide +kernel
theorem dX8_wouldCome_18 : decode cX8_wouldCome 18 = .ok (.invokevirtual 162, 3) := by decide +kernel
theorem dX8_wouldCome_21 : decode cX8_wouldCome 21 = .ok (.ifCond .eq 8, 3) := by decide +kernel
theorem dX8_wouldCome_24 : decode cX8_wouldCome 24 = .ok (.bipush 22, 2) := by decide +kernel
theorem dX8_wouldCome_26 : decode cX8_wouldCome 26 = .ok (.goto 5, 3) := by decide +kernel
theorem dX8_wouldCome_29 : decode cX8_wouldCome 29 = .ok (.iload 4, 2) := by decide +kernel
theorem dX8_wouldCome_31 : decode cX8_wouldCome 31 = .ok (.ireturn, 1) := by decide +kernel
theorem dX8_isStrike_0 : decode cX8_isStrike 0 = .ok (.iload_n 0, 1) := by decide +kernel
theorem dX8_isStrike_1 : decode cX8_isStrike 1 = .ok (.iconst 0, 1) := by decide +kernel
theorem dX8_isStrike_2 : decode cX8_isStrike 2 = .ok (.iconst 3, 1) := by decide +kernel
theorem dX8_isStrike_3 : decode cX8_isStrike 3 = .ok (.invokestatic 60, 3) := by decide +kernel
theorem dX8_isStrike_6 : decode cX8_isStrike 6 = .ok (.ifCond .eq 16, 3) := by decide +kernel
theorem dX8_isStrike_9 : decode cX8_isStrike 9 = .ok (.iload_n 1, 1) := by decide +kernel
theorem dX8_isStrike_10 : decode cX8_isStrike 10 = .ok (.iconst 1, 1) := by decide +kernel
theorem dX8_isStrike_11 : decode cX8_isStrike 11 = .ok (.iconst 5, 1) := by decide +kernel
theorem dX8_isStrike_12 : decode cX8_isStrike 12 = .ok (.invokestatic 60, 3) := by decide +kernel
theorem dX8_isStrike_15 : decode cX8_isStrike 15 = .ok (.ifCond .eq 7, 3) := by decide +kernel
theorem dX8_isStrike_18 : decode cX8_isStrike 18 = .ok (.iconst 1, 1) := by decide +kernel
theorem dX8_isStrike_19 : decode cX8_isStrike 19 = .ok (.goto 4, 3) := by decide +kernel
theorem dX8_isStrike_22 : decode cX8_isStrike 22 = .ok (.iconst 0, 1) := by decide +kernel
theorem dX8_isStrike_23 : decode cX8_isStrike 23 = .ok (.ireturn, 1) := by decide +kernel
theorem dX8_strikesBuoy_0 : decode cX8_strikesBuoy 0 = .ok (.aload_n 0, 1) := by decide +kernel
theorem dX8_strikesBuoy_1 : decode cX8_strikesBuoy 1 = .ok (.aload_n 0, 1) := by decide +kernel
theorem dX8_strikesBuoy_2 : decode cX8_strikesBuoy 2 = .ok (.iload_n 1, 1) := by decide +kernel
theorem dX8_strikesBuoy_3 : decode cX8_strikesBuoy 3 = .ok (.invokevirtual 120, 3) := by decide +kernel
theorem dX8_strikesBuoy_6 : decode cX8_strikesBuoy 6 = .ok (.ifCond .ne 7, 3) := by decide +kernel
theorem dX8_strikesBuoy_9 : decode cX8_strikesBuoy 9 = .ok (.iconst 1, 1) := by decide +kernel
theorem dX8_strikesBuoy_10 : decode cX8_strikesBuoy 10 = .ok (.goto 4, 3) := by decide +kernel
theorem dX8_strikesBuoy_13 : decode cX8_strikesBuoy 13 = .ok (.iconst 0, 1) := by decide +kernel
theorem dX8_strikesBuoy_14 : decode cX8_strikesBuoy 14 = .ok (.iconst 1, 1) := by decide +kernel
theorem dX8_strikesBuoy_15 : decode cX8_strikesBuoy 15 = .ok (.invokevirtual 80, 3) := by decide +kernel
theorem dX8_strikesBuoy_18 : decode cX8_strikesBuoy 18 = .ok (.ifCond .ne 39, 3) := by decide +kernel
theorem dX8_strikesBuoy_21 : decode cX8_strikesBuoy 21 = .ok (.aload_n 0, 1) := by decide +kernel
theorem dX8_strikesBuoy_22 : decode cX8_strikesBuoy 22 = .ok (.iload_n 2, 1) := by decide +kernel
theorem dX8_strikesBuoy_23 : decode cX8_strikesBuoy 23 = .ok (.iload_n 3, 1) := by decide +kernel
theorem dX8_strikesBuoy_24 : decode cX8_strikesBuoy 24 = .ok (.invokestatic 165, 3) := by decide +kernel
theorem dX8_strikesBuoy_27 : decode cX8_strikesBuoy 27 = .ok (.ifCond .ne 7, 3) := by decide +kernel
theorem dX8_strikesBuoy_30 : decode cX8_strikesBuoy 30 = .ok (.iconst 1, 1) := by decide +kernel
theorem dX8_strikesBuoy_31 : decode cX8_strikesBuoy 31 = .ok (.goto 4, 3) := by decide +kernel
theorem dX8_strikesBuoy_34 : decode cX8_strikesBuoy 34 = .ok (.iconst 0, 1) := by decide +kernel
theorem dX8_strikesBuoy_35 : decode cX8_strikesBuoy 35 = .ok (.iconst 2, 1) := by decide +kernel
theorem dX8_strikesBuoy_36 : decode cX8_strikesBuoy 36 = .ok (.invokevirtual 80, 3) := by decide +kernel
theorem dX8_strikesBuoy_39 : decode cX8_strikesBuoy 39 = .ok (.ifCond .ne 18, 3) := by decide +kernel
theorem dX8_strikesBuoy_42 : decode cX8_strikesBuoy 42 = .ok (.aload_n 0, 1) := by decide +kernel
theorem dX8_strikesBuoy_43 : decode cX8_strikesBuoy 43 = .ok (.invokevirtual 123, 3) := by decide +kernel
theorem dX8_strikesBuoy_46 : decode cX8_strikesBuoy 46 = .ok (.ifCond .ne 11, 3) := by decide +kernel
theorem dX8_strikesBuoy_49 : decode cX8_strikesBuoy 49 = .ok (.aload_n 0, 1) := by decide +kernel
theorem dX8_strikesBuoy_50 : decode cX8_strikesBuoy 50 = .ok (.iload_n 1, 1) := by decide +kernel
theorem dX8_strikesBuoy_51 : decode cX8_strikesBuoy 51 = .ok (.invokevirtual 127, 3) := by decide +kernel
theorem dX8_strikesBuoy_54 : decode cX8_strikesBuoy 54 = .ok (.ifCond .eq 5, 3) := by decide +kernel
theorem dX8_strikesBuoy_57 : decode cX8_strikesBuoy 57 = .ok (.iconst 0, 1) := by decide +kernel
theorem dX8_strikesBuoy_58 : decode cX8_strikesBuoy 58 = .ok (.ireturn, 1) := by decide +kernel
theorem dX8_strikesBuoy_59 : decode cX8_strikesBuoy 59 = .ok (.aload_n 0, 1) := by decide +kernel
theorem dX8_strikesBuoy_60 : decode cX8_strikesBuoy 60 = .ok (.iload_n 1, 1) := by decide +kernel
theorem dX8_strikesBuoy_61 : decode cX8_strikesBuoy 61 = .ok (.iconst 4, 1) := by decide +kernel
theorem dX8_strikesBuoy_62 : decode cX8_strikesBuoy 62 = .ok (.invokevirtual 90, 3) := by decide +kernel
theorem dX8_strikesBuoy_65 : decode cX8_strikesBuoy 65 = .ok (.istore 4, 2) := by decide +kernel
theorem dX8_strikesBuoy_67 : decode cX8_strikesBuoy 67 = .ok (.iload 4, 2) := by decide +kernel
theorem dX8_strikesBuoy_69 : decode cX8_strikesBuoy 69 = .ok (.aload_n 0, 1) := by decide +kernel
theorem dX8_strikesBuoy_70 : decode cX8_strikesBuoy 70 = .ok (.getfield 9, 3) := by decide +kernel
theorem dX8_strikesBuoy_73 : decode cX8_strikesBuoy 73 = .ok (.iconst 2, 1) := by decide +kernel
theorem dX8_strikesBuoy_74 : decode cX8_strikesBuoy 74 = .ok (.iaload, 1) := by decide +kernel
theorem dX8_strikesBuoy_75 : decode cX8_strikesBuoy 75 = .ok (.invokestatic 152, 3) := by decide +kernel
theorem dX8_strikesBuoy_78 : decode cX8_strikesBuoy 78 = .ok (.istore 5, 2) := by decide +kernel
theorem dX8_strikesBuoy_80 : decode cX8_strikesBuoy 80 = .ok (.aload_n 0, 1) := by decide +kernel
theorem dX8_strikesBuoy_81 : decode cX8_strikesBuoy 81 = .ok (.iload_n 1, 1) := by decide +kernel
theorem dX8_strikesBuoy_82 : decode cX8_strikesBuoy 82 = .ok (.iconst 3, 1) := by decide +kernel
theorem dX8_strikesBuoy_83 : decode cX8_strikesBuoy 83 = .ok (.invokevirtual 90, 3) := by decide +kernel
theorem dX8_strikesBuoy_86 : decode cX8_strikesBuoy 86 = .ok (.istore 6, 2) := by decide +kernel
theorem dX8_strikesBuoy_88 : decode cX8_strikesBuoy 88 = .ok (.aload_n 0, 1) := by decide +kernel
theorem dX8_strikesBuoy_89 : decode cX8_strikesBuoy 89 = .ok (.aload_n 0, 1) := by decide +kernel
theorem dX8_strikesBuoy_90 : decode cX8_strikesBuoy 90 = .ok (.iload 4, 2) := by decide +kernel
theorem dX8_strikesBuoy_92 : decode cX8_strikesBuoy 92 = .ok (.invokevirtual 84, 3) := by decide +kernel
theorem dX8_strikesBuoy_95 : decode cX8_strikesBuoy 95 = .ok (.iconst 4, 1) := by decide +kernel
theorem dX8_strikesBuoy_96 : decode cX8_strikesBuoy 96 = .ok (.iload 4, 2) := by decide +kernel
theorem dX8_strikesBuoy_98 : decode cX8_strikesBuoy 98 = .ok (.invokevirtual 99, 3) := by decide +kernel
theorem dX8_strikesBuoy_101 : decode cX8_strikesBuoy 101 = .ok (.ifCond .ne 77, 3) := by decide +kernel
theorem dX8_strikesBuoy_104 : decode cX8_strikesBuoy 104 = .ok (.aload_n 0, 1) := by decide +kernel
theorem dX8_strikesBuoy_105 : decode cX8_strikesBuoy 105 = .ok (.iload 5, 2) := by decide +kernel
theorem dX8_strikesBuoy_107 : decode cX8_strikesBuoy 107 = .ok (.iconst 1, 1) := by decide +kernel
theorem dX8_strikesBuoy_108 : decode cX8_strikesBuoy 108 = .ok (.if_icmp .le 7, 3) := by decide +kernel
theorem dX8_strikesBuoy_111 : decode cX8_strikesBuoy 111 = .ok (.iconst 1, 1) := by decide +kernel
theorem dX8_strikesBuoy_112 : decode cX8_strikesBuoy 112 = .ok (.goto 4, 3) := by decide +kernel
theorem dX8_strikesBuoy_115 : decode cX8_strikesBuoy 115 = .ok (.iconst 0, 1) := by decide +kernel
theorem dX8_strikesBuoy_116 : decode cX8_strikesBuoy 116 = .ok (.bipush 9, 2) := by decide +kernel
theorem dX8_strikesBuoy_118 : decode cX8_strikesBuoy 118 = .ok (.iload 5, 2) := by decide +kernel
theorem dX8_strikesBuoy_120 : decode cX8_strikesBuoy 120 = .ok (.invokevirtual 99, 3) := by decide +kernel
theorem dX8_strikesBuoy_123 : decode cX8_strikesBuoy 123 = .ok (.ifCond .ne 55, 3) := by decide +kernel
theorem dX8_strikesBuoy_126 : decode cX8_strikesBuoy 126 = .ok (.aload_n 0, 1) := by decide +kernel
theorem dX8_strikesBuoy_127 : decode cX8_strikesBuoy 127 = .ok (.iload_n 3, 1) := by decide +kernel
theorem dX8_strikesBuoy_128 : decode cX8_strikesBuoy 128 = .ok (.aload_n 0, 1) := by decide +kernel
theorem dX8_strikesBuoy_129 : decode cX8_strikesBuoy 129 = .ok (.iload_n 1, 1) := by decide +kernel
theorem dX8_strikesBuoy_130 : decode cX8_strikesBuoy 130 = .ok (.iconst 1, 1) := by decide +kernel
theorem dX8_strikesBuoy_131 : decode cX8_strikesBuoy 131 = .ok (.invokevirtual 90, 3) := by decide +kernel
theorem dX8_strikesBuoy_134 : decode cX8_strikesBuoy 134 = .ok (.if_icmp .le 7, 3) := by decide +kernel
theorem dX8_strikesBuoy_137 : decode cX8_strikesBuoy 137 = .ok (.iconst 1, 1) := by decide +kernel
theorem dX8_strikesBuoy_138 : decode cX8_strikesBuoy 138 = .ok (.goto 4, 3) := by decide +kernel
theorem dX8_strikesBuoy_141 : decode cX8_strikesBuoy 141 = .ok (.iconst 0, 1) := by decide +kernel
theorem dX8_strikesBuoy_142 : decode cX8_strikesBuoy 142 = .ok (.bipush 10, 2) := by decide +kernel
theorem dX8_strikesBuoy_144 : decode cX8_strikesBuoy 144 = .ok (.aload_n 0, 1) := by decide +kernel
theorem dX8_strikesBuoy_145 : decode cX8_strikesBuoy 145 = .ok (.iload_n 1, 1) := by decide +kernel
theorem dX8_strikesBuoy_146 : decode cX8_strikesBuoy 146 = .ok (.iconst 1, 1) := by decide +kernel
theorem dX8_strikesBuoy_147 : decode cX8_strikesBuoy 147 = .ok (.invokevirtual 90, 3) := by decide +kernel
theorem dX8_strikesBuoy_150 : decode cX8_strikesBuoy 150 = .ok (.invokevirtual 99, 3) := by decide +kernel
theorem dX8_strikesBuoy_153 : decode cX8_strikesBuoy 153 = .ok (.ifCond .ne 25, 3) := by decide +kernel
theorem dX8_strikesBuoy_156 : decode cX8_strikesBuoy 156 = .ok (.aload_n 0, 1) := by decide +kernel
theorem dX8_strikesBuoy_157 : decode cX8_strikesBuoy 157 = .ok (.iload 6, 2) := by decide +kernel
theorem dX8_strikesBuoy_159 : decode cX8_strikesBuoy 159 = .ok (.iconst 1, 1) := by decide +kernel
theorem dX8_strikesBuoy_160 : decode cX8_strikesBuoy 160 = .ok (.if_icmp .ge 7, 3) := by decide +kernel
theorem dX8_strikesBuoy_163 : decode cX8_strikesBuoy 163 = .ok (.iconst 1, 1) := by decide +kernel
theorem dX8_strikesBuoy_164 : decode cX8_strikesBuoy 164 = .ok (.goto 4, 3) := by decide +kernel
theorem dX8_strikesBuoy_167 : decode cX8_strikesBuoy 167 = .ok (.iconst 0, 1) := by decide +kernel
theorem dX8_strikesBuoy_168 : decode cX8_strikesBuoy 168 = .ok (.bipush 6, 2) := by decide +kernel
theorem dX8_strikesBuoy_170 : decode cX8_strikesBuoy 170 = .ok (.iload 6, 2) := by decide +kernel
theorem dX8_strikesBuoy_172 : decode cX8_strikesBuoy 172 = .ok (.invokevirtual 99, 3) := by decide +kernel
theorem dX8_strikesBuoy_175 : decode cX8_strikesBuoy 175 = .ok (.ifCond .eq 5, 3) := by decide +kernel
theorem dX8_strikesBuoy_178 : decode cX8_strikesBuoy 178 = .ok (.iconst 0, 1) := by decide +kernel
theorem dX8_strikesBuoy_179 : decode cX8_strikesBuoy 179 = .ok (.ireturn, 1) := by decide +kernel
theorem dX8_strikesBuoy_180 : decode cX8_strikesBuoy 180 = .ok (.aload_n 0, 1) := by decide +kernel
theorem dX8_strikesBuoy_181 : decode cX8_strikesBuoy 181 = .ok (.iload_n 1, 1) := by decide +kernel
theorem dX8_strikesBuoy_182 : decode cX8_strikesBuoy 182 = .ok (.iconst 0, 1) := by decide +kernel
theorem dX8_strikesBuoy_183 : decode cX8_strikesBuoy 183 = .ok (.invokevirtual 90, 3) := by decide +kernel
theorem dX8_strikesBuoy_186 : decode cX8_strikesBuoy 186 = .ok (.istore 7, 2) := by decide +kernel
theorem dX8_strikesBuoy_188 : decode cX8_strikesBuoy 188 = .ok (.aload_n 0, 1) := by decide +kernel
theorem dX8_strikesBuoy_189 : decode cX8_strikesBuoy 189 = .ok (.iload_n 1, 1) := by decide +kernel
theorem dX8_strikesBuoy_190 : decode cX8_strikesBuoy 190 = .ok (.invokevirtual 162, 3) := by decide +kernel
theorem dX8_strikesBuoy_193 : decode cX8_strikesBuoy 193 = .ok (.istore 8, 2) := by decide +kernel
theorem dX8_strikesBuoy_195 : decode cX8_strikesBuoy 195 = .ok (.aload_n 0, 1) := by decide +kernel
theorem dX8_strikesBuoy_196 : decode cX8_strikesBuoy 196 = .ok (.iload_n 1, 1) := by decide +kernel
theorem dX8_strikesBuoy_197 : decode cX8_strikesBuoy 197 = .ok (.iload_n 2, 1) := by decide +kernel
theorem dX8_strikesBuoy_198 : decode cX8_strikesBuoy 198 = .ok (.iload_n 3, 1) := by decide +kernel
theorem dX8_strikesBuoy_199 : decode cX8_strikesBuoy 199 = .ok (.invokevirtual 159, 3) := by decide +kernel
theorem dX8_strikesBuoy_202 : decode cX8_strikesBuoy 202 = .ok (.istore 9, 2) := by decide +kernel
theorem dX8_strikesBuoy_204 : decode cX8_strikesBuoy 204 = .ok (.iload 9, 2) := by decide +kernel
theorem dX8_strikesBuoy_206 : decode cX8_strikesBuoy 206 = .ok (.bipush 45, 2) := by decide +kernel
theorem dX8_strikesBuoy_208 : decode cX8_strikesBuoy 208 = .ok (.if_icmp .lt 7, 3) := by decide +kernel
theorem dX8_strikesBuoy_211 : decode cX8_strikesBuoy 211 = .ok (.iconst 1, 1) := by decide +kernel
theorem dX8_strikesBuoy_212 : decode cX8_strikesBuoy 212 = .ok (.goto 4, 3) := by decide +kernel
theorem dX8_strikesBuoy_215 : decode cX8_strikesBuoy 215 = .ok (.iconst 0, 1) := by decide +kernel
theorem dX8_strikesBuoy_216 : decode cX8_strikesBuoy 216 = .ok (.istore 10, 2) := by decide +kernel
theorem dX8_strikesBuoy_218 : decode cX8_strikesBuoy 218 = .ok (.aload_n 0, 1) := by decide +kernel
theorem dX8_strikesBuoy_219 : decode cX8_strikesBuoy 219 = .ok (.iload_n 1, 1) := by decide +kernel
theorem dX8_strikesBuoy_220 : decode cX8_strikesBuoy 220 = .ok (.iconst 3, 1) := by decide +kernel
theorem dX8_strikesBuoy_221 : decode cX8_strikesBuoy 221 = .ok (.iload 6, 2) := by decide +kernel
theorem dX8_strikesBuoy_223 : decode cX8_strikesBuoy 223 = .ok (.iconst 1, 1) := by decide +kernel
theorem dX8_strikesBuoy_224 : decode cX8_strikesBuoy 224 = .ok (.isub, 1) := by decide +kernel
theorem dX8_strikesBuoy_225 : decode cX8_strikesBuoy 225 = .ok (.invokevirtual 103, 3) := by decide +kernel
theorem dX8_strikesBuoy_228 : decode cX8_strikesBuoy 228 = .ok (.aload_n 0, 1) := by decide +kernel
theorem dX8_strikesBuoy_229 : decode cX8_strikesBuoy 229 = .ok (.iload_n 1, 1) := by decide +kernel
theorem dX8_strikesBuoy_230 : decode cX8_strikesBuoy 230 = .ok (.bipush 8, 2) := by decide +kernel
theorem dX8_strikesBuoy_232 : decode cX8_strikesBuoy 232 = .ok (.aload_n 0, 1) := by decide +kernel
theorem dX8_strikesBuoy_233 : decode cX8_strikesBuoy 233 = .ok (.iload_n 1, 1) := by decide +kernel
theorem dX8_strikesBuoy_234 : decode cX8_strikesBuoy 234 = .ok (.bipush 8, 2) := by decide +kernel
theorem dX8_strikesBuoy_236 : decode cX8_strikesBuoy 236 = .ok (.invokevirtual 90, 3) := by decide +kernel
theorem dX8_strikesBuoy_239 : decode cX8_strikesBuoy 239 = .ok (.iconst 1, 1) := by decide +kernel
theorem dX8_strikesBuoy_240 : decode cX8_strikesBuoy 240 = .ok (.iadd, 1) := by decide +kernel
theorem dX8_strikesBuoy_241 : decode cX8_strikesBuoy 241 = .ok (.invokevirtual 103, 3) := by decide +kernel
theorem dX8_strikesBuoy_244 : decode cX8_strikesBuoy 244 = .ok (.aload_n 0, 1) := by decide +kernel
theorem dX8_strikesBuoy_245 : decode cX8_strikesBuoy 245 = .ok (.iload_n 1, 1) := by decide +kernel
theorem dX8_strikesBuoy_246 : decode cX8_strikesBuoy 246 = .ok (.bipush 7, 2) := by decide +kernel
theorem dX8_strikesBuoy_248 : decode cX8_strikesBuoy 248 = .ok (.aload_n 0, 1) := by decide +kernel
theorem dX8_strikesBuoy_249 : decode cX8_strikesBuoy 249 = .ok (.iload_n 1, 1) := by decide +kernel
theorem dX8_strikesBuoy_250 : decode cX8_strikesBuoy 250 = .ok (.bipush 7, 2) := by decide +kernel
theorem dX8_strikesBuoy_252 : decode cX8_strikesBuoy 252 = .ok (.invokevirtual 90, 3) := by decide +kernel
theorem dX8_strikesBuoy_255 : decode cX8_strikesBuoy 255 = .ok (.iload 8, 2) := by decide +kernel
theorem dX8_strikesBuoy_257 : decode cX8_strikesBuoy 257 = .ok (.ifCond .eq 7, 3) := by decide +kernel
theorem dX8_strikesBuoy_260 : decode cX8_strikesBuoy 260 = .ok (.iconst 1, 1) := by decide +kernel
theorem dX8_strikesBuoy_261 : decode cX8_strikesBuoy 261 = .ok (.goto 4, 3) := by decide +kernel
theorem dX8_strikesBuoy_264 : decode cX8_strikesBuoy 264 = .ok (.iconst 0, 1) := by decide +kernel
theorem dX8_strikesBuoy_265 : decode cX8_strikesBuoy 265 = .ok (.iadd, 1) := by decide +kernel
theorem dX8_strikesBuoy_266 : decode cX8_strikesBuoy 266 = .ok (.invokevirtual 103, 3) := by decide +kernel
theorem dX8_strikesBuoy_269 : decode cX8_strikesBuoy 269 = .ok (.aload_n 0, 1) := by decide +kernel
theorem dX8_strikesBuoy_270 : decode cX8_strikesBuoy 270 = .ok (.iload_n 1, 1) := by decide +kernel
theorem dX8_strikesBuoy_271 : decode cX8_strikesBuoy 271 = .ok (.bipush 6, 2) := by decide +kernel
theorem dX8_strikesBuoy_273 : decode cX8_strikesBuoy 273 = .ok (.aload_n 0, 1) := by decide +kernel
theorem dX8_strikesBuoy_274 : decode cX8_strikesBuoy 274 = .ok (.iload_n 1, 1) := by decide +kernel
theorem dX8_strikesBuoy_275 : decode cX8_strikesBuoy 275 = .ok (.bipush 6, 2) := by decide +kernel
theorem dX8_strikesBuoy_277 : decode cX8_strikesBuoy 277 = .ok (.invokevirtual 90, 3) := by decide +kernel
theorem dX8_strikesBuoy_280 : decode cX8_strikesBuoy 280 = .ok (.iload 8, 2) := by decide +kernel
theorem dX8_strikesBuoy_282 : decode cX8_strikesBuoy 282 = .ok (.ifCond .ne 17, 3) := by decide +kernel
theorem dX8_strikesBuoy_285 : decode cX8_strikesBuoy 285 = .ok (.iload 9, 2) := by decide +kernel
theorem dX8_strikesBuoy_287 : decode cX8_strikesBuoy 287 = .ok (.bipush 45, 2) := by decide +kernel
theorem dX8_strikesBuoy_289 : decode cX8_strikesBuoy 289 = .ok (.iload 7, 2) := by decide +kernel
theorem dX8_strikesBuoy_291 : decode cX8_strikesBuoy 291 = .ok (.iadd, 1) := by decide +kernel
theorem dX8_strikesBuoy_292 : decode cX8_strikesBuoy 292 = .ok (.if_icmp .ne 7, 3) := by decide +kernel
theorem dX8_strikesBuoy_295 : decode cX8_strikesBuoy 295 = .ok (.iconst 1, 1) := by decide +kernel
theorem dX8_strikesBuoy_296 : decode cX8_strikesBuoy 296 = .ok (.goto 4, 3) := by decide +kernel
theorem dX8_strikesBuoy_299 : decode cX8_strikesBuoy 299 = .ok (.iconst 0, 1) := by decide +kernel
theorem dX8_strikesBuoy_300 : decode cX8_strikesBuoy 300 = .ok (.iadd, 1) := by decide +kernel
theorem dX8_strikesBuoy_301 : decode cX8_strikesBuoy 301 = .ok (.invokevirtual 103, 3) := by decide +kernel
theorem dX8_strikesBuoy_304 : decode cX8_strikesBuoy 304 = .ok (.aload_n 0, 1) := by decide +kernel
theorem dX8_strikesBuoy_305 : decode cX8_strikesBuoy 305 = .ok (.getfield 9, 3) := by decide +kernel
theorem dX8_strikesBuoy_308 : decode cX8_strikesBuoy 308 = .ok (.bipush 6, 2) := by decide +kernel
theorem dX8_strikesBuoy_310 : decode cX8_strikesBuoy 310 = .ok (.dup2, 1) := by decide +kernel
theorem dX8_strikesBuoy_311 : decode cX8_strikesBuoy 311 = .ok (.iaload, 1) := by decide +kernel
theorem dX8_strikesBuoy_312 : decode cX8_strikesBuoy 312 = .ok (.iconst 1, 1) := by decide +kernel
theorem dX8_strikesBuoy_313 : decode cX8_strikesBuoy 313 = .ok (.iadd, 1) := by decide +kernel
theorem dX8_strikesBuoy_314 : decode cX8_strikesBuoy 314 = .ok (.iastore, 1) := by decide +kernel
theorem dX8_strikesBuoy_315 : decode cX8_strikesBuoy 315 = .ok (.aload_n 0, 1) := by decide +kernel
theorem dX8_strikesBuoy_316 : decode cX8_strikesBuoy 316 = .ok (.getfield 9, 3) := by decide +kernel
theorem dX8_strikesBuoy_319 : decode cX8_strikesBuoy 319 = .ok (.bipush 7, 2) := by decide +kernel
theorem dX8_strikesBuoy_321 : decode cX8_strikesBuoy 321 = .ok (.dup2, 1) := by decide +kernel
theorem dX8_strikesBuoy_322 : decode cX8_strikesBuoy 322 = .ok (.iaload, 1) := by decide +kernel
theorem dX8_strikesBuoy_323 : decode cX8_strikesBuoy 323 = .ok (.iload 8, 2) := by decide +kernel
theorem dX8_strikesBuoy_325 : decode cX8_strikesBuoy 325 = .ok (.ifCond .eq 7, 3) := by decide +kernel
theorem dX8_strikesBuoy_328 : decode cX8_strikesBuoy 328 = .ok (.iconst 1, 1) := by decide +kernel
theorem dX8_strikesBuoy_329 : decode cX8_strikesBuoy 329 = .ok (.goto 4, 3) := by decide +kernel
theorem dX8_strikesBuoy_332 : decode cX8_strikesBuoy 332 = .ok (.iconst 0, 1) := by decide +kernel
theorem dX8_strikesBuoy_333 : decode cX8_strikesBuoy 333 = .ok (.iadd, 1) := by decide +kernel
theorem dX8_strikesBuoy_334 : decode cX8_strikesBuoy 334 = .ok (.iastore, 1) := by decide +kernel
theorem dX8_strikesBuoy_335 : decode cX8_strikesBuoy 335 = .ok (.aload_n 0, 1) := by decide +kernel
theorem dX8_strikesBuoy_336 : decode cX8_strikesBuoy 336 = .ok (.getfield 9, 3) := by decide +kernel
theorem dX8_strikesBuoy_339 : decode cX8_strikesBuoy 339 = .ok (.bipush 8, 2) := by decide +kernel
theorem dX8_strikesBuoy_341 : decode cX8_strikesBuoy 341 = .ok (.dup2, 1) := by decide +kernel
theorem dX8_strikesBuoy_342 : decode cX8_strikesBuoy 342 = .ok (.iaload, 1) := by decide +kernel
theorem dX8_strikesBuoy_343 : decode cX8_strikesBuoy 343 = .ok (.aload_n 0, 1) := by decide +kernel
theorem dX8_strikesBuoy_344 : decode cX8_strikesBuoy 344 = .ok (.getfield 155, 3) := by decide +kernel
theorem dX8_strikesBuoy_347 : decode cX8_strikesBuoy 347 = .ok (.ifCond .eq 7, 3) := by decide +kernel
theorem dX8_strikesBuoy_350 : decode cX8_strikesBuoy 350 = .ok (.iconst 1, 1) := by decide +kernel
theorem dX8_strikesBuoy_351 : decode cX8_strikesBuoy 351 = .ok (.goto 4, 3) := by decide +kernel
theorem dX8_strikesBuoy_354 : decode cX8_strikesBuoy 354 = .ok (.iconst 0, 1) := by decide +kernel
theorem dX8_strikesBuoy_355 : decode cX8_strikesBuoy 355 = .ok (.iadd, 1) := by decide +kernel
theorem dX8_strikesBuoy_356 : decode cX8_strikesBuoy 356 = .ok (.iastore, 1) := by decide +kernel
theorem dX8_strikesBuoy_357 : decode cX8_strikesBuoy 357 = .ok (.iload 10, 2) := by decide +kernel
theorem dX8_strikesBuoy_359 : decode cX8_strikesBuoy 359 = .ok (.ifCond .eq 24, 3) := by decide +kernel
theorem dX8_strikesBuoy_362 : decode cX8_strikesBuoy 362 = .ok (.iload 8, 2) := by decide +kernel
theorem dX8_strikesBuoy_364 : decode cX8_strikesBuoy 364 = .ok (.ifCond .ne 19, 3) := by decide +kernel
theorem dX8_strikesBuoy_367 : decode cX8_strikesBuoy 367 = .ok (.aload_n 0, 1) := by decide +kernel
theorem dX8_strikesBuoy_368 : decode cX8_strikesBuoy 368 = .ok (.getfield 9, 3) := by decide +kernel
theorem dX8_strikesBuoy_371 : decode cX8_strikesBuoy 371 = .ok (.iconst 4, 1) := by decide +kernel
theorem dX8_strikesBuoy_372 : decode cX8_strikesBuoy 372 = .ok (.iload 9, 2) := by decide +kernel
theorem dX8_strikesBuoy_374 : decode cX8_strikesBuoy 374 = .ok (.iadd, 1) := by decide +kernel
theorem dX8_strikesBuoy_375 : decode cX8_strikesBuoy 375 = .ok (.bipush 45, 2) := by decide +kernel
theorem dX8_strikesBuoy_377 : decode cX8_strikesBuoy 377 = .ok (.isub, 1) := by decide +kernel
theorem dX8_strikesBuoy_378 : decode cX8_strikesBuoy 378 = .ok (.dup2, 1) := by decide +kernel
theorem dX8_strikesBuoy_379 : decode cX8_strikesBuoy 379 = .ok (.iaload, 1) := by decide +kernel
theorem dX8_strikesBuoy_380 : decode cX8_strikesBuoy 380 = .ok (.iconst 1, 1) := by decide +kernel
theorem dX8_strikesBuoy_381 : decode cX8_strikesBuoy 381 = .ok (.iadd, 1) := by decide +kernel
theorem dX8_strikesBuoy_382 : decode cX8_strikesBuoy 382 = .ok (.iastore, 1) := by decide +kernel
theorem dX8_strikesBuoy_383 : decode cX8_strikesBuoy 383 = .ok (.aload_n 0, 1) := by decide +kernel
theorem dX8_strikesBuoy_384 : decode cX8_strikesBuoy 384 = .ok (.getfield 9, 3) := by decide +kernel
theorem dX8_strikesBuoy_387 : decode cX8_strikesBuoy 387 = .ok (.iconst 2, 1) := by decide +kernel
theorem dX8_strikesBuoy_388 : decode cX8_strikesBuoy 388 = .ok (.iload 10, 2) := by decide +kernel
theorem dX8_strikesBuoy_390 : decode cX8_strikesBuoy 390 = .ok (.ifCond .eq 8, 3) := by decide +kernel
theorem dX8_strikesBuoy_393 : decode cX8_strikesBuoy 393 = .ok (.bipush 22, 2) := by decide +kernel
theorem dX8_strikesBuoy_395 : decode cX8_strikesBuoy 395 = .ok (.goto 5, 3) := by decide +kernel
theorem dX8_strikesBuoy_398 : decode cX8_strikesBuoy 398 = .ok (.iload 9, 2) := by decide +kernel
theorem dX8_strikesBuoy_400 : decode cX8_strikesBuoy 400 = .ok (.iastore, 1) := by decide +kernel
theorem dX8_strikesBuoy_401 : decode cX8_strikesBuoy 401 = .ok (.aload_n 0, 1) := by decide +kernel
theorem dX8_strikesBuoy_402 : decode cX8_strikesBuoy 402 = .ok (.getfield 9, 3) := by decide +kernel
theorem dX8_strikesBuoy_405 : decode cX8_strikesBuoy 405 = .ok (.iconst 3, 1) := by decide +kernel
theorem dX8_strikesBuoy_406 : decode cX8_strikesBuoy 406 = .ok (.iload 8, 2) := by decide +kernel
theorem dX8_strikesBuoy_408 : decode cX8_strikesBuoy 408 = .ok (.ifCond .ne 10, 3) := by decide +kernel
theorem dX8_strikesBuoy_411 : decode cX8_strikesBuoy 411 = .ok (.aload_n 0, 1) := by decide +kernel
theorem dX8_strikesBuoy_412 : decode cX8_strikesBuoy 412 = .ok (.getfield 155, 3) := by decide +kernel
theorem dX8_strikesBuoy_415 : decode cX8_strikesBuoy 415 = .ok (.ifCond .eq 10, 3) := by decide +kernel
theorem dX8_strikesBuoy_418 : decode cX8_strikesBuoy 418 = .ok (.iconst 1, 1) := by decide +kernel
theorem dX8_strikesBuoy_419 : decode cX8_strikesBuoy 419 = .ok (.iload 7, 2) := by decide +kernel
theorem dX8_strikesBuoy_421 : decode cX8_strikesBuoy 421 = .ok (.isub, 1) := by decide +kernel
theorem dX8_strikesBuoy_422 : decode cX8_strikesBuoy 422 = .ok (.goto 14, 3) := by decide +kernel
theorem dX8_strikesBuoy_425 : decode cX8_strikesBuoy 425 = .ok (.iload 10, 2) := by decide +kernel
theorem dX8_strikesBuoy_427 : decode cX8_strikesBuoy 427 = .ok (.ifCond .eq 7, 3) := by decide +kernel
theorem dX8_strikesBuoy_430 : decode cX8_strikesBuoy 430 = .ok (.iconst (-1), 1) := by decide +kernel
theorem dX8_strikesBuoy_431 : decode cX8_strikesBuoy 431 = .ok (.goto 5, 3) := by decide +kernel
theorem dX8_strikesBuoy_434 : decode cX8_strikesBuoy 434 = .ok (.iload 7, 2) := by decide +kernel
theorem dX8_strikesBuoy_436 : decode cX8_strikesBuoy 436 = .ok (.iastore, 1) := by decide +kernel
theorem dX8_strikesBuoy_437 : decode cX8_strikesBuoy 437 = .ok (.aload_n 0, 1) := by decide +kernel
theorem dX8_strikesBuoy_438 : decode cX8_strikesBuoy 438 = .ok (.iload 10, 2) := by decide +kernel
theorem dX8_strikesBuoy_440 : decode cX8_strikesBuoy 440 = .ok (.ifCond .eq 13, 3) := by decide +kernel
theorem dX8_strikesBuoy_443 : decode cX8_strikesBuoy 443 = .ok (.iload 8, 2) := by decide +kernel
theorem dX8_strikesBuoy_445 : decode cX8_strikesBuoy 445 = .ok (.ifCond .eq 8, 3) := by decide +kernel
theorem dX8_strikesBuoy_448 : decode cX8_strikesBuoy 448 = .ok (.bipush 22, 2) := by decide +kernel
theorem dX8_strikesBuoy_450 : decode cX8_strikesBuoy 450 = .ok (.goto 5, 3) := by decide +kernel
theorem dX8_strikesBuoy_453 : decode cX8_strikesBuoy 453 = .ok (.iload 9, 2) := by decide +kernel
theorem dX8_strikesBuoy_455 : decode cX8_strikesBuoy 455 = .ok (.invokevirtual 130, 3) := by decide +kernel
theorem dX8_strikesBuoy_458 : decode cX8_strikesBuoy 458 = .ok (.ireturn, 1) := by decide +kernel
theorem dX8_strike_0 : decode cX8_strike 0 = .ok (.aload_n 0, 1) := by decide +kernel
theorem dX8_strike_1 : decode cX8_strike 1 = .ok (.invokevirtual 107, 3) := by decide +kernel
theorem dX8_strike_4 : decode cX8_strike 4 = .ok (.aload_n 0, 1) := by decide +kernel
theorem dX8_strike_5 : decode cX8_strike 5 = .ok (.aload_n 0, 1) := by decide +kernel
theorem dX8_strike_6 : decode cX8_strike 6 = .ok (.iload_n 1, 1) := by decide +kernel
theorem dX8_strike_7 : decode cX8_strike 7 = .ok (.iload_n 2, 1) := by decide +kernel
theorem dX8_strike_8 : decode cX8_strike 8 = .ok (.iload_n 3, 1) := by decide +kernel
theorem dX8_strike_9 : decode cX8_strike 9 = .ok (.invokevirtual 168, 3) := by decide +kernel
theorem dX8_strike_12 : decode cX8_strike 12 = .ok (.iconst 3, 1) := by decide +kernel
theorem dX8_strike_13 : decode cX8_strike 13 = .ok (.invokevirtual 114, 3) := by decide +kernel
theorem dX8_strike_16 : decode cX8_strike 16 = .ok (.ireturn, 1) := by decide +kernel
theorem dX8_would_0 : decode cX8_would 0 = .ok (.aload_n 0, 1) := by decide +kernel
theorem dX8_would_1 : decode cX8_would 1 = .ok (.aload_n 0, 1) := by decide +kernel
theorem dX8_would_2 : decode cX8_would 2 = .ok (.iload_n 1, 1) := by decide +kernel
theorem dX8_would_3 : decode cX8_would 3 = .ok (.invokevirtual 120, 3) := by decide +kernel
theorem dX8_would_6 : decode cX8_would 6 = .ok (.ifCond .ne 7, 3) := by decide +kernel
theorem dX8_would_9 : decode cX8_would 9 = .ok (.iconst 1, 1) := by decide +kernel
theorem dX8_would_10 : decode cX8_would 10 = .ok (.goto 4, 3) := by decide +kernel
theorem dX8_would_13 : decode cX8_would 13 = .ok (.iconst 0, 1) := by decide +kernel
theorem dX8_would_14 : decode cX8_would 14 = .ok (.iconst 1, 1) := by decide +kernel
theorem dX8_would_15 : decode cX8_would 15 = .ok (.invokevirtual 80, 3) := by decide +kernel
theorem dX8_would_18 : decode cX8_would 18 = .ok (.ifCond .ne 24, 3) := by decide +kernel
theorem dX8_would_21 : decode cX8_would 21 = .ok (.aload_n 0, 1) := by decide +kernel
theorem dX8_would_22 : decode cX8_would 22 = .ok (.iload_n 2, 1) := by decide +kernel
theorem dX8_would_23 : decode cX8_would 23 = .ok (.iload_n 3, 1) := by decide +kernel
theorem dX8_would_24 : decode cX8_would 24 = .ok (.invokestatic 165, 3) := by decide +kernel
theorem dX8_would_27 : decode cX8_would 27 = .ok (.ifCond .ne 7, 3) := by decide +kernel
theorem dX8_would_30 : decode cX8_would 30 = .ok (.iconst 1, 1) := by decide +kernel
theorem dX8_would_31 : decode cX8_would 31 = .ok (.goto 4, 3) := by decide +kernel
theorem dX8_would_34 : decode cX8_would 34 = .ok (.iconst 0, 1) := by decide +kernel
theorem dX8_would_35 : decode cX8_would 35 = .ok (.iconst 2, 1) := by decide +kernel
theorem dX8_would_36 : decode cX8_would 36 = .ok (.invokevirtual 80, 3) := by decide +kernel
theorem dX8_would_39 : decode cX8_would 39 = .ok (.ifCond .eq 7, 3) := by decide +kernel
theorem dX8_would_42 : decode cX8_would 42 = .ok (.iconst 0, 1) := by decide +kernel
theorem dX8_would_43 : decode cX8_would 43 = .ok (.goto 10, 3) := by decide +kernel
theorem dX8_would_46 : decode cX8_would 46 = .ok (.aload_n 0, 1) := by decide +kernel
theorem dX8_would_47 : decode cX8_would 47 = .ok (.iload_n 1, 1) := by decide +kernel
theorem dX8_would_48 : decode cX8_would 48 = .ok (.iload_n 2, 1) := by decide +kernel
theorem dX8_would_49 : decode cX8_would 49 = .ok (.iload_n 3, 1) := by decide +kernel
theorem dX8_would_50 : decode cX8_would 50 = .ok (.invokevirtual 171, 3) := by decide +kernel
theorem dX8_would_53 : decode cX8_would 53 = .ok (.ireturn, 1) := by decide +kernel
theorem dX8_wouldAgain_0 : decode cX8_wouldAgain 0 = .ok (.aload_n 0, 1) := by decide +kernel
theorem dX8_wouldAgain_1 : decode cX8_wouldAgain 1 = .ok (.iload_n 1, 1) := by decide +kernel
theorem dX8_wouldAgain_2 : decode cX8_wouldAgain 2 = .ok (.iload_n 2, 1) := by decide +kernel
theorem dX8_wouldAgain_3 : decode cX8_wouldAgain 3 = .ok (.iload_n 3, 1) := by decide +kernel
theorem dX8_wouldAgain_4 : decode cX8_wouldAgain 4 = .ok (.invokevirtual 174, 3) := by decide +kernel
theorem dX8_wouldAgain_7 : decode cX8_wouldAgain 7 = .ok (.ireturn, 1) := by decide +kernel
theorem dX8_wouldFoul_0 : decode cX8_wouldFoul 0 = .ok (.aload_n 0, 1) := by decide +kernel
theorem dX8_wouldFoul_1 : decode cX8_wouldFoul 1 = .ok (.aload_n 0, 1) := by decide +kernel
theorem dX8_wouldFoul_2 : decode cX8_wouldFoul 2 = .ok (.iload_n 1, 1) := by decide +kernel
theorem dX8_wouldFoul_3 : decode cX8_wouldFoul 3 = .ok (.invokevirtual 120, 3) := by decide +kernel
theorem dX8_wouldFoul_6 : decode cX8_wouldFoul 6 = .ok (.ifCond .ne 7, 3) := by decide +kernel
theorem dX8_wouldFoul_9 : decode cX8_wouldFoul 9 = .ok (.iconst 1, 1) := by decide +kernel
theorem dX8_wouldFoul_10 : decode cX8_wouldFoul 10 = .ok (.goto 4, 3) := by decide +kernel
theorem dX8_wouldFoul_13 : decode cX8_wouldFoul 13 = .ok (.iconst 0, 1) := by decide +kernel
theorem dX8_wouldFoul_14 : decode cX8_wouldFoul 14 = .ok (.iconst 1, 1) := by decide +kernel
theorem dX8_wouldFoul_15 : decode cX8_wouldFoul 15 = .ok (.invokevirtual 80, 3) := by decide +kernel
theorem dX8_wouldFoul_18 : decode cX8_wouldFoul 18 = .ok (.ifCond .ne 15, 3) := by decide +kernel
theorem dX8_wouldFoul_21 : decode cX8_wouldFoul 21 = .ok (.aload_n 0, 1) := by decide +kernel
theorem dX8_wouldFoul_22 : decode cX8_wouldFoul 22 = .ok (.iload_n 1, 1) := by decide +kernel
theorem dX8_wouldFoul_23 : decode cX8_wouldFoul 23 = .ok (.invokevirtual 162, 3) := by decide +kernel
theorem dX8_wouldFoul_26 : decode cX8_wouldFoul 26 = .ok (.ifCond .eq 7, 3) := by decide +kernel
theorem dX8_wouldFoul_29 : decode cX8_wouldFoul 29 = .ok (.iconst 1, 1) := by decide +kernel
theorem dX8_wouldFoul_30 : decode cX8_wouldFoul 30 = .ok (.goto 4, 3) := by decide +kernel
theorem dX8_wouldFoul_33 : decode cX8_wouldFoul 33 = .ok (.iconst 0, 1) := by decide +kernel
theorem dX8_wouldFoul_34 : decode cX8_wouldFoul 34 = .ok (.ireturn, 1) := by decide +kernel
theorem dX8_fromEnd_0 : decode cX8_fromEnd 0 = .ok (.iload_n 1, 1) := by decide +kernel
theorem dX8_fromEnd_1 : decode cX8_fromEnd 1 = .ok (.bipush 45, 2) := by decide +kernel
theorem dX8_fromEnd_3 : decode cX8_fromEnd 3 = .ok (.if_icmp .lt 18, 3) := by decide +kernel
theorem dX8_fromEnd_6 : decode cX8_fromEnd 6 = .ok (.iload_n 1, 1) := by decide +kernel
theorem dX8_fromEnd_7 : decode cX8_fromEnd 7 = .ok (.bipush 45, 2) := by decide +kernel
theorem dX8_fromEnd_9 : decode cX8_fromEnd 9 = .ok (.iload_n 0, 1) := by decide +kernel
theorem dX8_fromEnd_10 : decode cX8_fromEnd 10 = .ok (.iadd, 1) := by decide +kernel
theorem dX8_fromEnd_11 : decode cX8_fromEnd 11 = .ok (.if_icmp .ne 7, 3) := by decide +kernel
theorem dX8_fromEnd_14 : decode cX8_fromEnd 14 = .ok (.iconst (-1), 1) := by decide +kernel
theorem dX8_fromEnd_15 : decode cX8_fromEnd 15 = .ok (.goto 5, 3) := by decide +kernel
theorem dX8_fromEnd_18 : decode cX8_fromEnd 18 = .ok (.bipush 99, 2) := by decide +kernel
theorem dX8_fromEnd_20 : decode cX8_fromEnd 20 = .ok (.ireturn, 1) := by decide +kernel
theorem dX8_fromEnd_21 : decode cX8_fromEnd 21 = .ok (.iload_n 0, 1) := by decide +kernel
theorem dX8_fromEnd_22 : decode cX8_fromEnd 22 = .ok (.ifCond .ne 13, 3) := by decide +kernel
theorem dX8_fromEnd_25 : decode cX8_fromEnd 25 = .ok (.bipush 8, 2) := by decide +kernel
theorem dX8_fromEnd_27 : decode cX8_fromEnd 27 = .ok (.iload_n 1, 1) := by decide +kernel
theorem dX8_fromEnd_28 : decode cX8_fromEnd 28 = .ok (.bipush 9, 2) := by decide +kernel
theorem dX8_fromEnd_30 : decode cX8_fromEnd 30 = .ok (.irem, 1) := by decide +kernel
theorem dX8_fromEnd_31 : decode cX8_fromEnd 31 = .ok (.isub, 1) := by decide +kernel
theorem dX8_fromEnd_32 : decode cX8_fromEnd 32 = .ok (.goto 7, 3) := by decide +kernel
theorem dX8_fromEnd_35 : decode cX8_fromEnd 35 = .ok (.iload_n 1, 1) := by decide +kernel
theorem dX8_fromEnd_36 : decode cX8_fromEnd 36 = .ok (.bipush 9, 2) := by decide +kernel
theorem dX8_fromEnd_38 : decode cX8_fromEnd 38 = .ok (.irem, 1) := by decide +kernel
theorem dX8_fromEnd_39 : decode cX8_fromEnd 39 = .ok (.ireturn, 1) := by decide +kernel
theorem dX8_canStrike_0 : decode cX8_canStrike 0 = .ok (.aload_n 0, 1) := by decide +kernel
theorem dX8_canStrike_1 : decode cX8_canStrike 1 = .ok (.getfield 9, 3) := by decide +kernel
theorem dX8_canStrike_4 : decode cX8_canStrike 4 = .ok (.iconst 1, 1) := by decide +kernel
theorem dX8_canStrike_5 : decode cX8_canStrike 5 = .ok (.iaload, 1) := by decide +kernel
theorem dX8_canStrike_6 : decode cX8_canStrike 6 = .ok (.bipush 48, 2) := by decide +kernel
theorem dX8_canStrike_8 : decode cX8_canStrike 8 = .ok (.if_icmp .ge 52, 3) := by decide +kernel
theorem dX8_canStrike_11 : decode cX8_canStrike 11 = .ok (.aload_n 0, 1) := by decide +kernel
theorem dX8_canStrike_12 : decode cX8_canStrike 12 = .ok (.iload_n 1, 1) := by decide +kernel
theorem dX8_canStrike_13 : decode cX8_canStrike 13 = .ok (.iconst 4, 1) := by decide +kernel
theorem dX8_canStrike_14 : decode cX8_canStrike 14 = .ok (.invokevirtual 90, 3) := by decide +kernel
theorem dX8_canStrike_17 : decode cX8_canStrike 17 = .ok (.ifCond .lt 43, 3) := by decide +kernel
theorem dX8_canStrike_20 : decode cX8_canStrike 20 = .ok (.aload_n 0, 1) := by decide +kernel
theorem dX8_canStrike_21 : decode cX8_canStrike 21 = .ok (.iload_n 1, 1) := by decide +kernel
theorem dX8_canStrike_22 : decode cX8_canStrike 22 = .ok (.invokevirtual 146, 3) := by decide +kernel
theorem dX8_canStrike_25 : decode cX8_canStrike 25 = .ok (.ifCond .ne 35, 3) := by decide +kernel
theorem dX8_canStrike_28 : decode cX8_canStrike 28 = .ok (.aload_n 0, 1) := by decide +kernel
theorem dX8_canStrike_29 : decode cX8_canStrike 29 = .ok (.iload_n 1, 1) := by decide +kernel
theorem dX8_canStrike_30 : decode cX8_canStrike 30 = .ok (.iconst 4, 1) := by decide +kernel
theorem dX8_canStrike_31 : decode cX8_canStrike 31 = .ok (.invokevirtual 90, 3) := by decide +kernel
theorem dX8_canStrike_34 : decode cX8_canStrike 34 = .ok (.aload_n 0, 1) := by decide +kernel
theorem dX8_canStrike_35 : decode cX8_canStrike 35 = .ok (.getfield 9, 3) := by decide +kernel
theorem dX8_canStrike_38 : decode cX8_canStrike 38 = .ok (.iconst 2, 1) := by decide +kernel
theorem dX8_canStrike_39 : decode cX8_canStrike 39 = .ok (.iaload, 1) := by decide +kernel
theorem dX8_canStrike_40 : decode cX8_canStrike 40 = .ok (.invokestatic 152, 3) := by decide +kernel
theorem dX8_canStrike_43 : decode cX8_canStrike 43 = .ok (.iconst 1, 1) := by decide +kernel
theorem dX8_canStrike_44 : decode cX8_canStrike 44 = .ok (.if_icmp .gt 16, 3) := by decide +kernel
theorem dX8_canStrike_47 : decode cX8_canStrike 47 = .ok (.aload_n 0, 1) := by decide +kernel
theorem dX8_canStrike_48 : decode cX8_canStrike 48 = .ok (.iload_n 1, 1) := by decide +kernel
theorem dX8_canStrike_49 : decode cX8_canStrike 49 = .ok (.iconst 3, 1) := by decide +kernel
theorem dX8_canStrike_50 : decode cX8_canStrike 50 = .ok (.invokevirtual 90, 3) := by decide +kernel
theorem dX8_canStrike_53 : decode cX8_canStrike 53 = .ok (.ifCond .le 7, 3) := by decide +kernel
theorem dX8_canStrike_56 : decode cX8_canStrike 56 = .ok (.iconst 1, 1) := by decide +kernel
theorem dX8_canStrike_57 : decode cX8_canStrike 57 = .ok (.goto 4, 3) := by decide +kernel
theorem dX8_canStrike_60 : decode cX8_canStrike 60 = .ok (.iconst 0, 1) := by decide +kernel
theorem dX8_canStrike_61 : decode cX8_canStrike 61 = .ok (.ireturn, 1) := by decide +kernel
theorem dX8_best_0 : decode cX8_best 0 = .ok (.aload_n 0, 1) := by decide +kernel
theorem dX8_best_1 : decode cX8_best 1 = .ok (.aload_n 0, 1) := by decide +kernel
theorem dX8_best_2 : decode cX8_best 2 = .ok (.iload_n 1, 1) := by decide +kernel
theorem dX8_best_3 : decode cX8_best 3 = .ok (.invokevirtual 120, 3) := by decide +kernel
theorem dX8_best_6 : decode cX8_best 6 = .ok (.ifCond .ne 7, 3) := by decide +kernel
theorem dX8_best_9 : decode cX8_best 9 = .ok (.iconst 1, 1) := by decide +kernel
theorem dX8_best_10 : decode cX8_best 10 = .ok (.goto 4, 3) := by decide +kernel
theorem dX8_best_13 : decode cX8_best 13 = .ok (.iconst 0, 1) := by decide +kernel
theorem dX8_best_14 : decode cX8_best 14 = .ok (.iconst 1, 1) := by decide +kernel
theorem dX8_best_15 : decode cX8_best 15 = .ok (.invokevirtual 80, 3) := by decide +kernel
theorem dX8_best_18 : decode cX8_best 18 = .ok (.ifCond .ne 24, 3) := by decide +kernel
theorem dX8_best_21 : decode cX8_best 21 = .ok (.aload_n 0, 1) := by decide +kernel
theorem dX8_best_22 : decode cX8_best 22 = .ok (.aload_n 0, 1) := by decide +kernel
theorem dX8_best_23 : decode cX8_best 23 = .ok (.iload_n 1, 1) := by decide +kernel
theorem dX8_best_24 : decode cX8_best 24 = .ok (.invokevirtual 177, 3) := by decide +kernel
theorem dX8_best_27 : decode cX8_best 27 = .ok (.ifCond .ne 7, 3) := by decide +kernel
theorem dX8_best_30 : decode cX8_best 30 = .ok (.iconst 1, 1) := by decide +kernel
theorem dX8_best_31 : decode cX8_best 31 = .ok (.goto 4, 3) := by decide +kernel
theorem dX8_best_34 : decode cX8_best 34 = .ok (.iconst 0, 1) := by decide +kernel
theorem dX8_best_35 : decode cX8_best 35 = .ok (.iconst 2, 1) := by decide +kernel
theorem dX8_best_36 : decode cX8_best 36 = .ok (.invokevirtual 80, 3) := by decide +kernel
theorem dX8_best_39 : decode cX8_best 39 = .ok (.ifCond .eq 5, 3) := by decide +kernel
theorem dX8_best_42 : decode cX8_best 42 = .ok (.iconst 0, 1) := by decide +kernel
theorem dX8_best_43 : decode cX8_best 43 = .ok (.ireturn, 1) := by decide +kernel
theorem dX8_best_44 : decode cX8_best 44 = .ok (.iconst (-1), 1) := by decide +kernel
theorem dX8_best_45 : decode cX8_best 45 = .ok (.istore_n 2, 1) := by decide +kernel
theorem dX8_best_46 : decode cX8_best 46 = .ok (.bipush 99, 2) := by decide +kernel
theorem dX8_best_48 : decode cX8_best 48 = .ok (.istore_n 3, 1) := by decide +kernel
theorem dX8_best_49 : decode cX8_best 49 = .ok (.iconst 0, 1) := by decide +kernel
theorem dX8_best_50 : decode cX8_best 50 = .ok (.istore 4, 2) := by decide +kernel
theorem dX8_best_52 : decode cX8_best 52 = .ok (.iload 4, 2) := by decide +kernel
theorem dX8_best_54 : decode cX8_best 54 = .ok (.iconst 4, 1) := by decide +kernel
theorem dX8_best_55 : decode cX8_best 55 = .ok (.if_icmp .ge 75, 3) := by decide +kernel
theorem dX8_best_58 : decode cX8_best 58 = .ok (.iconst 1, 1) := by decide +kernel
theorem dX8_best_59 : decode cX8_best 59 = .ok (.istore 5, 2) := by decide +kernel
theorem dX8_best_61 : decode cX8_best 61 = .ok (.iload 5, 2) := by decide +kernel
theorem dX8_best_63 : decode cX8_best 63 = .ok (.aload_n 0, 1) := by decide +kernel
theorem dX8_best_64 : decode cX8_best 64 = .ok (.iload_n 1, 1) := by decide +kernel
theorem dX8_best_65 : decode cX8_best 65 = .ok (.iconst 1, 1) := by decide +kernel
theorem dX8_best_66 : decode cX8_best 66 = .ok (.invokevirtual 90, 3) := by decide +kernel
theorem dX8_best_69 : decode cX8_best 69 = .ok (.if_icmp .gt 55, 3) := by decide +kernel
theorem dX8_best_72 : decode cX8_best 72 = .ok (.aload_n 0, 1) := by decide +kernel
theorem dX8_best_73 : decode cX8_best 73 = .ok (.iload_n 1, 1) := by decide +kernel
theorem dX8_best_74 : decode cX8_best 74 = .ok (.iconst 0, 1) := by decide +kernel
theorem dX8_best_75 : decode cX8_best 75 = .ok (.invokevirtual 90, 3) := by decide +kernel
theorem dX8_best_78 : decode cX8_best 78 = .ok (.aload_n 0, 1) := by decide +kernel
theorem dX8_best_79 : decode cX8_best 79 = .ok (.iload_n 1, 1) := by decide +kernel
theorem dX8_best_80 : decode cX8_best 80 = .ok (.iload 4, 2) := by decide +kernel
theorem dX8_best_82 : decode cX8_best 82 = .ok (.iload 5, 2) := by decide +kernel
theorem dX8_best_84 : decode cX8_best 84 = .ok (.invokevirtual 171, 3) := by decide +kernel
theorem dX8_best_87 : decode cX8_best 87 = .ok (.invokestatic 180, 3) := by decide +kernel
theorem dX8_best_90 : decode cX8_best 90 = .ok (.istore 6, 2) := by decide +kernel
theorem dX8_best_92 : decode cX8_best 92 = .ok (.iload 6, 2) := by decide +kernel
theorem dX8_best_94 : decode cX8_best 94 = .ok (.iload_n 3, 1) := by decide +kernel
theorem dX8_best_95 : decode cX8_best 95 = .ok (.if_icmp .ge 14, 3) := by decide +kernel
theorem dX8_best_98 : decode cX8_best 98 = .ok (.bipush 10, 2) := by decide +kernel
theorem dX8_best_100 : decode cX8_best 100 = .ok (.iload 4, 2) := by decide +kernel
theorem dX8_best_102 : decode cX8_best 102 = .ok (.imul, 1) := by decide +kernel
theorem dX8_best_103 : decode cX8_best 103 = .ok (.iload 5, 2) := by decide +kernel
theorem dX8_best_105 : decode cX8_best 105 = .ok (.iadd, 1) := by decide +kernel
theorem dX8_best_106 : decode cX8_best 106 = .ok (.goto 4, 3) := by decide +kernel
theorem dX8_best_109 : decode cX8_best 109 = .ok (.iload_n 2, 1) := by decide +kernel
theorem dX8_best_110 : decode cX8_best 110 = .ok (.istore_n 2, 1) := by decide +kernel
theorem dX8_best_111 : decode cX8_best 111 = .ok (.iload_n 3, 1) := by decide +kernel
theorem dX8_best_112 : decode cX8_best 112 = .ok (.iload 6, 2) := by decide +kernel
theorem dX8_best_114 : decode cX8_best 114 = .ok (.invokestatic 117, 3) := by decide +kernel
theorem dX8_best_117 : decode cX8_best 117 = .ok (.istore_n 3, 1) := by decide +kernel
theorem dX8_best_118 : decode cX8_best 118 = .ok (.iinc 5 1, 3) := by decide +kernel
theorem dX8_best_121 : decode cX8_best 121 = .ok (.goto (-60), 3) := by decide +kernel
theorem dX8_best_124 : decode cX8_best 124 = .ok (.iinc 4 1, 3) := by decide +kernel
theorem dX8_best_127 : decode cX8_best 127 = .ok (.goto (-75), 3) := by decide +kernel
theorem dX8_best_130 : decode cX8_best 130 = .ok (.aload_n 0, 1) := by decide +kernel
theorem dX8_best_131 : decode cX8_best 131 = .ok (.iload_n 2, 1) := by decide +kernel
theorem dX8_best_132 : decode cX8_best 132 = .ok (.ifCond .ge 7, 3) := by decide +kernel
theorem dX8_best_135 : decode cX8_best 135 = .ok (.iconst 1, 1) := by decide +kernel
theorem dX8_best_136 : decode cX8_best 136 = .ok (.goto 4, 3) := by decide +kernel
theorem dX8_best_139 : decode cX8_best 139 = .ok (.iconst 0, 1) := by decide +kernel
theorem dX8_best_140 : decode cX8_best 140 = .ok (.iconst 2, 1) := by decide +kernel
theorem dX8_best_141 : decode cX8_best 141 = .ok (.invokevirtual 80, 3) := by decide +kernel
theorem dX8_best_144 : decode cX8_best 144 = .ok (.ifCond .eq 7, 3) := by decide +kernel
theorem dX8_best_147 : decode cX8_best 147 = .ok (.iconst 0, 1) := by decide +kernel
theorem dX8_best_148 : decode cX8_best 148 = .ok (.goto 4, 3) := by decide +kernel
theorem dX8_best_151 : decode cX8_best 151 = .ok (.iload_n 2, 1) := by decide +kernel
theorem dX8_best_152 : decode cX8_best 152 = .ok (.ireturn, 1) := by decide +kernel
theorem dX8_sings_0 : decode cX8_sings 0 = .ok (.aload_n 0, 1) := by decide +kernel
theorem dX8_sings_1 : decode cX8_sings 1 = .ok (.aload_n 0, 1) := by decide +kernel
theorem dX8_sings_2 : decode cX8_sings 2 = .ok (.iload_n 1, 1) := by decide +kernel
theorem dX8_sings_3 : decode cX8_sings 3 = .ok (.invokevirtual 120, 3) := by decide +kernel
theorem dX8_sings_6 : decode cX8_sings 6 = .ok (.ifCond .ne 7, 3) := by decide +kernel
theorem dX8_sings_9 : decode cX8_sings 9 = .ok (.iconst 1, 1) := by decide +kernel
theorem dX8_sings_10 : decode cX8_sings 10 = .ok (.goto 4, 3) := by decide +kernel
theorem dX8_sings_13 : decode cX8_sings 13 = .ok (.iconst 0, 1) := by decide +kernel
theorem dX8_sings_14 : decode cX8_sings 14 = .ok (.iconst 1, 1) := by decide +kernel
theorem dX8_sings_15 : decode cX8_sings 15 = .ok (.invokevirtual 80, 3) := by decide +kernel
theorem dX8_sings_18 : decode cX8_sings 18 = .ok (.ifCond .ne 18, 3) := by decide +kernel
theorem dX8_sings_21 : decode cX8_sings 21 = .ok (.aload_n 0, 1) := by decide +kernel
theorem dX8_sings_22 : decode cX8_sings 22 = .ok (.invokevirtual 123, 3) := by decide +kernel
theorem dX8_sings_25 : decode cX8_sings 25 = .ok (.ifCond .ne 11, 3) := by decide +kernel
theorem dX8_sings_28 : decode cX8_sings 28 = .ok (.aload_n 0, 1) := by decide +kernel
theorem dX8_sings_29 : decode cX8_sings 29 = .ok (.iload_n 1, 1) := by decide +kernel
theorem dX8_sings_30 : decode cX8_sings 30 = .ok (.invokevirtual 127, 3) := by decide +kernel
theorem dX8_sings_33 : decode cX8_sings 33 = .ok (.ifCond .eq 5, 3) := by decide +kernel
theorem dX8_sings_36 : decode cX8_sings 36 = .ok (.iconst 0, 1) := by decide +kernel
theorem dX8_sings_37 : decode cX8_sings 37 = .ok (.ireturn, 1) := by decide +kernel
theorem dX8_sings_38 : decode cX8_sings 38 = .ok (.aload_n 0, 1) := by decide +kernel
theorem dX8_sings_39 : decode cX8_sings 39 = .ok (.iload_n 1, 1) := by decide +kernel
theorem dX8_sings_40 : decode cX8_sings 40 = .ok (.iconst 3, 1) := by decide +kernel
theorem dX8_sings_41 : decode cX8_sings 41 = .ok (.invokevirtual 90, 3) := by decide +kernel
theorem dX8_sings_44 : decode cX8_sings 44 = .ok (.istore_n 2, 1) := by decide +kernel
theorem dX8_sings_45 : decode cX8_sings 45 = .ok (.aload_n 0, 1) := by decide +kernel
theorem dX8_sings_46 : decode cX8_sings 46 = .ok (.aload_n 0, 1) := by decide +kernel
theorem dX8_sings_47 : decode cX8_sings 47 = .ok (.iload_n 1, 1) := by decide +kernel
theorem dX8_sings_48 : decode cX8_sings 48 = .ok (.iconst 5, 1) := by decide +kernel
theorem dX8_sings_49 : decode cX8_sings 49 = .ok (.invokevirtual 90, 3) := by decide +kernel
theorem dX8_sings_52 : decode cX8_sings 52 = .ok (.iconst 1, 1) := by decide +kernel
theorem dX8_sings_53 : decode cX8_sings 53 = .ok (.if_icmp .ne 7, 3) := by decide +kernel
theorem dX8_sings_56 : decode cX8_sings 56 = .ok (.iconst 1, 1) := by decide +kernel
theorem dX8_sings_57 : decode cX8_sings 57 = .ok (.goto 4, 3) := by decide +kernel
theorem dX8_sings_60 : decode cX8_sings 60 = .ok (.iconst 0, 1) := by decide +kernel
theorem dX8_sings_61 : decode cX8_sings 61 = .ok (.bipush 11, 2) := by decide +kernel
theorem dX8_sings_63 : decode cX8_sings 63 = .ok (.iload_n 1, 1) := by decide +kernel
theorem dX8_sings_64 : decode cX8_sings 64 = .ok (.invokevirtual 99, 3) := by decide +kernel
theorem dX8_sings_67 : decode cX8_sings 67 = .ok (.ifCond .ne 23, 3) := by decide +kernel
theorem dX8_sings_70 : decode cX8_sings 70 = .ok (.aload_n 0, 1) := by decide +kernel
theorem dX8_sings_71 : decode cX8_sings 71 = .ok (.iload_n 2, 1) := by decide +kernel
theorem dX8_sings_72 : decode cX8_sings 72 = .ok (.iconst 1, 1) := by decide +kernel
theorem dX8_sings_73 : decode cX8_sings 73 = .ok (.if_icmp .ge 7, 3) := by decide +kernel
theorem dX8_sings_76 : decode cX8_sings 76 = .ok (.iconst 1, 1) := by decide +kernel
theorem dX8_sings_77 : decode cX8_sings 77 = .ok (.goto 4, 3) := by decide +kernel
theorem dX8_sings_80 : decode cX8_sings 80 = .ok (.iconst 0, 1) := by decide +kernel
theorem dX8_sings_81 : decode cX8_sings 81 = .ok (.bipush 6, 2) := by decide +kernel
theorem dX8_sings_83 : decode cX8_sings 83 = .ok (.iload_n 2, 1) := by decide +kernel
theorem dX8_sings_84 : decode cX8_sings 84 = .ok (.invokevirtual 99, 3) := by decide +kernel
theorem dX8_sings_87 : decode cX8_sings 87 = .ok (.ifCond .eq 5, 3) := by decide +kernel
theorem dX8_sings_90 : decode cX8_sings 90 = .ok (.iconst 0, 1) := by decide +kernel
theorem dX8_sings_91 : decode cX8_sings 91 = .ok (.ireturn, 1) := by decide +kernel
theorem dX8_sings_92 : decode cX8_sings 92 = .ok (.aload_n 0, 1) := by decide +kernel
theorem dX8_sings_93 : decode cX8_sings 93 = .ok (.iload_n 1, 1) := by decide +kernel
theorem dX8_sings_94 : decode cX8_sings 94 = .ok (.iconst 5, 1) := by decide +kernel
theorem dX8_sings_95 : decode cX8_sings 95 = .ok (.iconst 1, 1) := by decide +kernel
theorem dX8_sings_96 : decode cX8_sings 96 = .ok (.invokevirtual 103, 3) := by decide +kernel
theorem dX8_sings_99 : decode cX8_sings 99 = .ok (.aload_n 0, 1) := by decide +kernel
theorem dX8_sings_100 : decode cX8_sings 100 = .ok (.iload_n 1, 1) := by decide +kernel
theorem dX8_sings_101 : decode cX8_sings 101 = .ok (.iconst 3, 1) := by decide +kernel
theorem dX8_sings_102 : decode cX8_sings 102 = .ok (.iload_n 2, 1) := by decide +kernel
theorem dX8_sings_103 : decode cX8_sings 103 = .ok (.iconst 1, 1) := by decide +kernel
theorem dX8_sings_104 : decode cX8_sings 104 = .ok (.isub, 1) := by decide +kernel
theorem dX8_sings_105 : decode cX8_sings 105 = .ok (.invokevirtual 103, 3) := by decide +kernel
theorem dX8_sings_108 : decode cX8_sings 108 = .ok (.aload_n 0, 1) := by decide +kernel
theorem dX8_sings_109 : decode cX8_sings 109 = .ok (.iload_n 2, 1) := by decide +kernel
theorem dX8_sings_110 : decode cX8_sings 110 = .ok (.iconst 1, 1) := by decide +kernel
theorem dX8_sings_111 : decode cX8_sings 111 = .ok (.isub, 1) := by decide +kernel
theorem dX8_sings_112 : decode cX8_sings 112 = .ok (.invokevirtual 130, 3) := by decide +kernel
theorem dX8_sings_115 : decode cX8_sings 115 = .ok (.ireturn, 1) := by decide +kernel
theorem dX8_sing_0 : decode cX8_sing 0 = .ok (.aload_n 0, 1) := by decide +kernel
theorem dX8_sing_1 : decode cX8_sing 1 = .ok (.invokevirtual 107, 3) := by decide +kernel
theorem dX8_sing_4 : decode cX8_sing 4 = .ok (.aload_n 0, 1) := by decide +kernel
theorem dX8_sing_5 : decode cX8_sing 5 = .ok (.aload_n 0, 1) := by decide +kernel
theorem dX8_sing_6 : decode cX8_sing 6 = .ok (.iload_n 1, 1) := by decide +kernel
theorem dX8_sing_7 : decode cX8_sing 7 = .ok (.invokevirtual 183, 3) := by decide +kernel
theorem dX8_sing_10 : decode cX8_sing 10 = .ok (.iconst 2, 1) := by decide +kernel
theorem dX8_sing_11 : decode cX8_sing 11 = .ok (.invokevirtual 114, 3) := by decide +kernel
theorem dX8_sing_14 : decode cX8_sing 14 = .ok (.ireturn, 1) := by decide +kernel
theorem dX8_drifts_0 : decode cX8_drifts 0 = .ok (.aload_n 0, 1) := by decide +kernel
theorem dX8_drifts_1 : decode cX8_drifts 1 = .ok (.invokevirtual 123, 3) := by decide +kernel
theorem dX8_drifts_4 : decode cX8_drifts 4 = .ok (.ifCond .eq 7, 3) := by decide +kernel
theorem dX8_drifts_7 : decode cX8_drifts 7 = .ok (.iconst 0, 1) := by decide +kernel
theorem dX8_drifts_8 : decode cX8_drifts 8 = .ok (.goto 15, 3) := by decide +kernel
theorem dX8_drifts_11 : decode cX8_drifts 11 = .ok (.aload_n 0, 1) := by decide +kernel
theorem dX8_drifts_12 : decode cX8_drifts 12 = .ok (.aload_n 0, 1) := by decide +kernel
theorem dX8_drifts_13 : decode cX8_drifts 13 = .ok (.getfield 9, 3) := by decide +kernel
theorem dX8_drifts_16 : decode cX8_drifts 16 = .ok (.iconst 1, 1) := by decide +kernel
theorem dX8_drifts_17 : decode cX8_drifts 17 = .ok (.iaload, 1) := by decide +kernel
theorem dX8_drifts_18 : decode cX8_drifts 18 = .ok (.iconst 1, 1) := by decide +kernel
theorem dX8_drifts_19 : decode cX8_drifts 19 = .ok (.iadd, 1) := by decide +kernel
theorem dX8_drifts_20 : decode cX8_drifts 20 = .ok (.invokevirtual 130, 3) := by decide +kernel
theorem dX8_drifts_23 : decode cX8_drifts 23 = .ok (.ireturn, 1) := by decide +kernel
theorem dX8_drift_0 : decode cX8_drift 0 = .ok (.aload_n 0, 1) := by decide +kernel
theorem dX8_drift_1 : decode cX8_drift 1 = .ok (.invokevirtual 107, 3) := by decide +kernel
theorem dX8_drift_4 : decode cX8_drift 4 = .ok (.aload_n 0, 1) := by decide +kernel
theorem dX8_drift_5 : decode cX8_drift 5 = .ok (.aload_n 0, 1) := by decide +kernel
theorem dX8_drift_6 : decode cX8_drift 6 = .ok (.invokevirtual 186, 3) := by decide +kernel
theorem dX8_drift_9 : decode cX8_drift 9 = .ok (.iconst 1, 1) := by decide +kernel
theorem dX8_drift_10 : decode cX8_drift 10 = .ok (.invokevirtual 114, 3) := by decide +kernel
theorem dX8_drift_13 : decode cX8_drift 13 = .ok (.ireturn, 1) := by decide +kernel
theorem dX8_whaleOf_0 : decode cX8_whaleOf 0 = .ok (.aload_n 0, 1) := by decide +kernel
theorem dX8_whaleOf_1 : decode cX8_whaleOf 1 = .ok (.aload_n 0, 1) := by decide +kernel
theorem dX8_whaleOf_2 : decode cX8_whaleOf 2 = .ok (.iload_n 1, 1) := by decide +kernel
theorem dX8_whaleOf_3 : decode cX8_whaleOf 3 = .ok (.invokevirtual 120, 3) := by decide +kernel
theorem dX8_whaleOf_6 : decode cX8_whaleOf 6 = .ok (.ifCond .ne 7, 3) := by decide +kernel
theorem dX8_whaleOf_9 : decode cX8_whaleOf 9 = .ok (.iconst 1, 1) := by decide +kernel
theorem dX8_whaleOf_10 : decode cX8_whaleOf 10 = .ok (.goto 4, 3) := by decide +kernel
theorem dX8_whaleOf_13 : decode cX8_whaleOf 13 = .ok (.iconst 0, 1) := by decide +kernel
theorem dX8_whaleOf_14 : decode cX8_whaleOf 14 = .ok (.iconst 1, 1) := by decide +kernel
theorem dX8_whaleOf_15 : decode cX8_whaleOf 15 = .ok (.invokevirtual 80, 3) := by decide +kernel
theorem dX8_whaleOf_18 : decode cX8_whaleOf 18 = .ok (.ifCond .ne 26, 3) := by decide +kernel
theorem dX8_whaleOf_21 : decode cX8_whaleOf 21 = .ok (.aload_n 0, 1) := by decide +kernel
theorem dX8_whaleOf_22 : decode cX8_whaleOf 22 = .ok (.iload_n 2, 1) := by decide +kernel
theorem dX8_whaleOf_23 : decode cX8_whaleOf 23 = .ok (.iconst 0, 1) := by decide +kernel
theorem dX8_whaleOf_24 : decode cX8_whaleOf 24 = .ok (.bipush 8, 2) := by decide +kernel
theorem dX8_whaleOf_26 : decode cX8_whaleOf 26 = .ok (.invokestatic 60, 3) := by decide +kernel
theorem dX8_whaleOf_29 : decode cX8_whaleOf 29 = .ok (.ifCond .ne 7, 3) := by decide +kernel
theorem dX8_whaleOf_32 : decode cX8_whaleOf 32 = .ok (.iconst 1, 1) := by decide +kernel
theorem dX8_whaleOf_33 : decode cX8_whaleOf 33 = .ok (.goto 4, 3) := by decide +kernel
theorem dX8_whaleOf_36 : decode cX8_whaleOf 36 = .ok (.iconst 0, 1) := by decide +kernel
theorem dX8_whaleOf_37 : decode cX8_whaleOf 37 = .ok (.iconst 2, 1) := by decide +kernel
theorem dX8_whaleOf_38 : decode cX8_whaleOf 38 = .ok (.invokevirtual 80, 3) := by decide +kernel
theorem dX8_whaleOf_41 : decode cX8_whaleOf 41 = .ok (.ifCond .eq 7, 3) := by decide +kernel
theorem dX8_whaleOf_44 : decode cX8_whaleOf 44 = .ok (.iconst 0, 1) := by decide +kernel
theorem dX8_whaleOf_45 : decode cX8_whaleOf 45 = .ok (.goto 9, 3) := by decide +kernel
theorem dX8_whaleOf_48 : decode cX8_whaleOf 48 = .ok (.aload_n 0, 1) := by decide +kernel
theorem dX8_whaleOf_49 : decode cX8_whaleOf 49 = .ok (.iload_n 1, 1) := by decide +kernel
theorem dX8_whaleOf_50 : decode cX8_whaleOf 50 = .ok (.iload_n 2, 1) := by decide +kernel
theorem dX8_whaleOf_51 : decode cX8_whaleOf 51 = .ok (.invokevirtual 90, 3) := by decide +kernel
theorem dX8_whaleOf_54 : decode cX8_whaleOf 54 = .ok (.ireturn, 1) := by decide +kernel
theorem dX8_beside_0 : decode cX8_beside 0 = .ok (.aload_n 0, 1) := by decide +kernel
theorem dX8_beside_1 : decode cX8_beside 1 = .ok (.iload_n 1, 1) := by decide +kernel
theorem dX8_beside_2 : decode cX8_beside 2 = .ok (.iconst 0, 1) := by decide +kernel
theorem dX8_beside_3 : decode cX8_beside 3 = .ok (.iconst 1, 1) := by decide +kernel
theorem dX8_beside_4 : decode cX8_beside 4 = .ok (.invokestatic 60, 3) := by decide +kernel
theorem dX8_beside_7 : decode cX8_beside 7 = .ok (.ifCond .ne 7, 3) := by decide +kernel
theorem dX8_beside_10 : decode cX8_beside 10 = .ok (.iconst 1, 1) := by decide +kernel
theorem dX8_beside_11 : decode cX8_beside 11 = .ok (.goto 4, 3) := by decide +kernel
theorem dX8_beside_14 : decode cX8_beside 14 = .ok (.iconst 0, 1) := by decide +kernel
theorem dX8_beside_15 : decode cX8_beside 15 = .ok (.iconst 1, 1) := by decide +kernel
theorem dX8_beside_16 : decode cX8_beside 16 = .ok (.invokevirtual 80, 3) := by decide +kernel
theorem dX8_beside_19 : decode cX8_beside 19 = .ok (.ifCond .eq 5, 3) := by decide +kernel
theorem dX8_beside_22 : decode cX8_beside 22 = .ok (.iconst 0, 1) := by decide +kernel
theorem dX8_beside_23 : decode cX8_beside 23 = .ok (.ireturn, 1) := by decide +kernel
theorem dX8_beside_24 : decode cX8_beside 24 = .ok (.iconst 0, 1) := by decide +kernel
theorem dX8_beside_25 : decode cX8_beside 25 = .ok (.istore_n 2, 1) := by decide +kernel
theorem dX8_beside_26 : decode cX8_beside 26 = .ok (.iconst 0, 1) := by decide +kernel
theorem dX8_beside_27 : decode cX8_beside 27 = .ok (.istore_n 3, 1) := by decide +kernel
theorem dX8_beside_28 : decode cX8_beside 28 = .ok (.iload_n 3, 1) := by decide +kernel
theorem dX8_beside_29 : decode cX8_beside 29 = .ok (.aload_n 0, 1) := by decide +kernel
theorem dX8_beside_30 : decode cX8_beside 30 = .ok (.getfield 9, 3) := by decide +kernel
theorem dX8_beside_33 : decode cX8_beside 33 = .ok (.iconst 0, 1) := by decide +kernel
theorem dX8_beside_34 : decode cX8_beside 34 = .ok (.iaload, 1) := by decide +kernel
theorem dX8_beside_35 : decode cX8_beside 35 = .ok (.if_icmp .ge 55, 3) := by decide +kernel
theorem dX8_beside_38 : decode cX8_beside 38 = .ok (.iload_n 2, 1) := by decide +kernel
theorem dX8_beside_39 : decode cX8_beside 39 = .ok (.aload_n 0, 1) := by decide +kernel
theorem dX8_beside_40 : decode cX8_beside 40 = .ok (.iload_n 3, 1) := by decide +kernel
theorem dX8_beside_41 : decode cX8_beside 41 = .ok (.iconst 0, 1) := by decide +kernel
theorem dX8_beside_42 : decode cX8_beside 42 = .ok (.invokevirtual 90, 3) := by decide +kernel
theorem dX8_beside_45 : decode cX8_beside 45 = .ok (.iload_n 1, 1) := by decide +kernel
theorem dX8_beside_46 : decode cX8_beside 46 = .ok (.if_icmp .ne 35, 3) := by decide +kernel
theorem dX8_beside_49 : decode cX8_beside 49 = .ok (.aload_n 0, 1) := by decide +kernel
theorem dX8_beside_50 : decode cX8_beside 50 = .ok (.iload_n 3, 1) := by decide +kernel
theorem dX8_beside_51 : decode cX8_beside 51 = .ok (.iconst 4, 1) := by decide +kernel
theorem dX8_beside_52 : decode cX8_beside 52 = .ok (.invokevirtual 90, 3) := by decide +kernel
theorem dX8_beside_55 : decode cX8_beside 55 = .ok (.ifCond .lt 26, 3) := by decide +kernel
theorem dX8_beside_58 : decode cX8_beside 58 = .ok (.aload_n 0, 1) := by decide +kernel
theorem dX8_beside_59 : decode cX8_beside 59 = .ok (.iload_n 3, 1) := by decide +kernel
theorem dX8_beside_60 : decode cX8_beside 60 = .ok (.iconst 4, 1) := by decide +kernel
theorem dX8_beside_61 : decode cX8_beside 61 = .ok (.invokevirtual 90, 3) := by decide +kernel
theorem dX8_beside_64 : decode cX8_beside 64 = .ok (.aload_n 0, 1) := by decide +kernel
theorem dX8_beside_65 : decode cX8_beside 65 = .ok (.getfield 9, 3) := by decide +kernel
theorem dX8_beside_68 : decode cX8_beside 68 = .ok (.iconst 2, 1) := by decide +kernel
theorem dX8_beside_69 : decode cX8_beside 69 = .ok (.iaload, 1) := by decide +kernel
theorem dX8_beside_70 : decode cX8_beside 70 = .ok (.invokestatic 152, 3) := by decide +kernel
theorem dX8_beside_73 : decode cX8_beside 73 = .ok (.iconst 1, 1) := by decide +kernel
theorem dX8_beside_74 : decode cX8_beside 74 = .ok (.if_icmp .gt 7, 3) := by decide +kernel
theorem dX8_beside_77 : decode cX8_beside 77 = .ok (.iconst 1, 1) := by decide +kernel
theorem dX8_beside_78 : decode cX8_beside 78 = .ok (.goto 4, 3) := by decide +kernel
theorem dX8_beside_81 : decode cX8_beside 81 = .ok (.iconst 0, 1) := by decide +kernel
theorem dX8_beside_82 : decode cX8_beside 82 = .ok (.iadd, 1) := by decide +kernel
theorem dX8_beside_83 : decode cX8_beside 83 = .ok (.istore_n 2, 1) := by decide +kernel
theorem dX8_beside_84 : decode cX8_beside 84 = .ok (.iinc 3 1, 3) := by decide +kernel
theorem dX8_beside_87 : decode cX8_beside 87 = .ok (.goto (-59), 3) := by decide +kernel
theorem dX8_beside_90 : decode cX8_beside 90 = .ok (.iload_n 2, 1) := by decide +kernel
theorem dX8_beside_91 : decode cX8_beside 91 = .ok (.ireturn, 1) := by decide +kernel
theorem dX8_valueOf_0 : decode cX8_valueOf 0 = .ok (.iload_n 1, 1) := by decide +kernel
theorem dX8_valueOf_1 : decode cX8_valueOf 1 = .ok (.tableswitch 50 0 3 #[31, 38, 38, 38], 31) := by decide +kernel
theorem dX8_valueOf_32 : decode cX8_valueOf 32 = .ok (.aload_n 0, 1) := by decide +kernel
theorem dX8_valueOf_33 : decode cX8_valueOf 33 = .ok (.iload_n 2, 1) := by decide +kernel
theorem dX8_valueOf_34 : decode cX8_valueOf 34 = .ok (.iconst 3, 1) := by decide +kernel
theorem dX8_valueOf_35 : decode cX8_valueOf 35 = .ok (.invokevirtual 90, 3) := by decide +kernel
theorem dX8_valueOf_38 : decode cX8_valueOf 38 = .ok (.ireturn, 1) := by decide +kernel
theorem dX8_valueOf_39 : decode cX8_valueOf 39 = .ok (.aload_n 0, 1) := by decide +kernel
theorem dX8_valueOf_40 : decode cX8_valueOf 40 = .ok (.iload_n 2, 1) := by decide +kernel
theorem dX8_valueOf_41 : decode cX8_valueOf 41 = .ok (.iload_n 1, 1) := by decide +kernel
theorem dX8_valueOf_42 : decode cX8_valueOf 42 = .ok (.iconst 1, 1) := by decide +kernel
theorem dX8_valueOf_43 : decode cX8_valueOf 43 = .ok (.isub, 1) := by decide +kernel
theorem dX8_valueOf_44 : decode cX8_valueOf 44 = .ok (.bipush 6, 2) := by decide +kernel
theorem dX8_valueOf_46 : decode cX8_valueOf 46 = .ok (.iadd, 1) := by decide +kernel
theorem dX8_valueOf_47 : decode cX8_valueOf 47 = .ok (.invokevirtual 90, 3) := by decide +kernel
theorem dX8_valueOf_50 : decode cX8_valueOf 50 = .ok (.ireturn, 1) := by decide +kernel
theorem dX8_valueOf_51 : decode cX8_valueOf 51 = .ok (.aload_n 0, 1) := by decide +kernel
theorem dX8_valueOf_52 : decode cX8_valueOf 52 = .ok (.iload_n 2, 1) := by decide +kernel
theorem dX8_valueOf_53 : decode cX8_valueOf 53 = .ok (.iconst 1, 1) := by decide +kernel
theorem dX8_valueOf_54 : decode cX8_valueOf 54 = .ok (.invokevirtual 90, 3) := by decide +kernel
theorem dX8_valueOf_57 : decode cX8_valueOf 57 = .ok (.aload_n 0, 1) := by decide +kernel
theorem dX8_valueOf_58 : decode cX8_valueOf 58 = .ok (.iload_n 2, 1) := by decide +kernel
theorem dX8_valueOf_59 : decode cX8_valueOf 59 = .ok (.iconst 2, 1) := by decide +kernel
theorem dX8_valueOf_60 : decode cX8_valueOf 60 = .ok (.invokevirtual 90, 3) := by decide +kernel
theorem dX8_valueOf_63 : decode cX8_valueOf 63 = .ok (.iadd, 1) := by decide +kernel
theorem dX8_valueOf_64 : decode cX8_valueOf 64 = .ok (.ireturn, 1) := by decide +kernel
theorem dX8_ranked_0 : decode cX8_ranked 0 = .ok (.aload_n 0, 1) := by decide +kernel
theorem dX8_ranked_1 : decode cX8_ranked 1 = .ok (.iload_n 1, 1) := by decide +kernel
theorem dX8_ranked_2 : decode cX8_ranked 2 = .ok (.iconst 0, 1) := by decide +kernel
theorem dX8_ranked_3 : decode cX8_ranked 3 = .ok (.iconst 4, 1) := by decide +kernel
theorem dX8_ranked_4 : decode cX8_ranked 4 = .ok (.invokestatic 60, 3) := by decide +kernel
theorem dX8_ranked_7 : decode cX8_ranked 7 = .ok (.ifCond .ne 7, 3) := by decide +kernel
theorem dX8_ranked_10 : decode cX8_ranked 10 = .ok (.iconst 1, 1) := by decide +kernel
theorem dX8_ranked_11 : decode cX8_ranked 11 = .ok (.goto 4, 3) := by decide +kernel
theorem dX8_ranked_14 : decode cX8_ranked 14 = .ok (.iconst 0, 1) := by decide +kernel
theorem dX8_ranked_15 : decode cX8_ranked 15 = .ok (.iconst 1, 1) := by decide +kernel
theorem dX8_ranked_16 : decode cX8_ranked 16 = .ok (.invokevirtual 80, 3) := by decide +kernel
theorem dX8_ranked_19 : decode cX8_ranked 19 = .ok (.ifCond .eq 5, 3) := by decide +kernel
theorem dX8_ranked_22 : decode cX8_ranked 22 = .ok (.iconst 0, 1) := by decide +kernel
theorem dX8_ranked_23 : decode cX8_ranked 23 = .ok (.ireturn, 1) := by decide +kernel
theorem dX8_ranked_24 : decode cX8_ranked 24 = .ok (.iconst 0, 1) := by decide +kernel
theorem dX8_ranked_25 : decode cX8_ranked 25 = .ok (.istore_n 3, 1) := by decide +kernel
theorem dX8_ranked_26 : decode cX8_ranked 26 = .ok (.iload_n 3, 1) := by decide +kernel
theorem dX8_ranked_27 : decode cX8_ranked 27 = .ok (.aload_n 0, 1) := by decide +kernel
theorem dX8_ranked_28 : decode cX8_ranked 28 = .ok (.getfield 9, 3) := by decide +kernel
theorem dX8_ranked_31 : decode cX8_ranked 31 = .ok (.iconst 0, 1) := by decide +kernel
theorem dX8_ranked_32 : decode cX8_ranked 32 = .ok (.iaload, 1) := by decide +kernel
theorem dX8_ranked_33 : decode cX8_ranked 33 = .ok (.if_icmp .ge 82, 3) := by decide +kernel
theorem dX8_ranked_36 : decode cX8_ranked 36 = .ok (.iconst 0, 1) := by decide +kernel
theorem dX8_ranked_37 : decode cX8_ranked 37 = .ok (.istore 4, 2) := by decide +kernel
theorem dX8_ranked_39 : decode cX8_ranked 39 = .ok (.iconst 0, 1) := by decide +kernel
theorem dX8_ranked_40 : decode cX8_ranked 40 = .ok (.istore 5, 2) := by decide +kernel
theorem dX8_ranked_42 : decode cX8_ranked 42 = .ok (.iload 5, 2) := by decide +kernel
theorem dX8_ranked_44 : decode cX8_ranked 44 = .ok (.aload_n 0, 1) := by decide +kernel
theorem dX8_ranked_45 : decode cX8_ranked 45 = .ok (.getfield 9, 3) := by decide +kernel
theorem dX8_ranked_48 : decode cX8_ranked 48 = .ok (.iconst 0, 1) := by decide +kernel
theorem dX8_ranked_49 : decode cX8_ranked 49 = .ok (.iaload, 1) := by decide +kernel
theorem dX8_ranked_50 : decode cX8_ranked 50 = .ok (.if_icmp .ge 51, 3) := by decide +kernel
theorem dX8_ranked_53 : decode cX8_ranked 53 = .ok (.aload_n 0, 1) := by decide +kernel
theorem dX8_ranked_54 : decode cX8_ranked 54 = .ok (.iload_n 1, 1) := by decide +kernel
theorem dX8_ranked_55 : decode cX8_ranked 55 = .ok (.iload 5, 2) := by decide +kernel
theorem dX8_ranked_57 : decode cX8_ranked 57 = .ok (.invokevirtual 190, 3) := by decide +kernel
theorem dX8_ranked_60 : decode cX8_ranked 60 = .ok (.aload_n 0, 1) := by decide +kernel
theorem dX8_ranked_61 : decode cX8_ranked 61 = .ok (.iload_n 1, 1) := by decide +kernel
theorem dX8_ranked_62 : decode cX8_ranked 62 = .ok (.iload_n 3, 1) := by decide +kernel
theorem dX8_ranked_63 : decode cX8_ranked 63 = .ok (.invokevirtual 190, 3) := by decide +kernel
theorem dX8_ranked_66 : decode cX8_ranked 66 = .ok (.isub, 1) := by decide +kernel
theorem dX8_ranked_67 : decode cX8_ranked 67 = .ok (.istore 6, 2) := by decide +kernel
theorem dX8_ranked_69 : decode cX8_ranked 69 = .ok (.iload 4, 2) := by decide +kernel
theorem dX8_ranked_71 : decode cX8_ranked 71 = .ok (.iload 6, 2) := by decide +kernel
theorem dX8_ranked_73 : decode cX8_ranked 73 = .ok (.ifCond .gt 14, 3) := by decide +kernel
theorem dX8_ranked_76 : decode cX8_ranked 76 = .ok (.iload 6, 2) := by decide +kernel
theorem dX8_ranked_78 : decode cX8_ranked 78 = .ok (.ifCond .ne 13, 3) := by decide +kernel
theorem dX8_ranked_81 : decode cX8_ranked 81 = .ok (.iload 5, 2) := by decide +kernel
theorem dX8_ranked_83 : decode cX8_ranked 83 = .ok (.iload_n 3, 1) := by decide +kernel
theorem dX8_ranked_84 : decode cX8_ranked 84 = .ok (.if_icmp .ge 7, 3) := by decide +kernel
theorem dX8_ranked_87 : decode cX8_ranked 87 = .ok (.iconst 1, 1) := by decide +kernel
theorem dX8_ranked_88 : decode cX8_ranked 88 = .ok (.goto 4, 3) := by decide +kernel
theorem dX8_ranked_91 : decode cX8_ranked 91 = .ok (.iconst 0, 1) := by decide +kernel
theorem dX8_ranked_92 : decode cX8_ranked 92 = .ok (.iadd, 1) := by decide +kernel
theorem dX8_ranked_93 : decode cX8_ranked 93 = .ok (.istore 4, 2) := by decide +kernel
theorem dX8_ranked_95 : decode cX8_ranked 95 = .ok (.iinc 5 1, 3) := by decide +kernel
theorem dX8_ranked_98 : decode cX8_ranked 98 = .ok (.goto (-56), 3) := by decide +kernel
theorem dX8_ranked_101 : decode cX8_ranked 101 = .ok (.iload 4, 2) := by decide +kernel
theorem dX8_ranked_103 : decode cX8_ranked 103 = .ok (.iload_n 2, 1) := by decide +kernel
theorem dX8_ranked_104 : decode cX8_ranked 104 = .ok (.if_icmp .ne 5, 3) := by decide +kernel
theorem dX8_ranked_107 : decode cX8_ranked 107 = .ok (.iload_n 3, 1) := by decide +kernel
theorem dX8_ranked_108 : decode cX8_ranked 108 = .ok (.ireturn, 1) := by decide +kernel
theorem dX8_ranked_109 : decode cX8_ranked 109 = .ok (.iinc 3 1, 3) := by decide +kernel
theorem dX8_ranked_112 : decode cX8_ranked 112 = .ok (.goto (-86), 3) := by decide +kernel
theorem dX8_ranked_115 : decode cX8_ranked 115 = .ok (.aload_n 0, 1) := by decide +kernel
theorem dX8_ranked_116 : decode cX8_ranked 116 = .ok (.iconst 2, 1) := by decide +kernel
theorem dX8_ranked_117 : decode cX8_ranked 117 = .ok (.putfield 41, 3) := by decide +kernel
theorem dX8_ranked_120 : decode cX8_ranked 120 = .ok (.iconst 0, 1) := by decide +kernel
theorem dX8_ranked_121 : decode cX8_ranked 121 = .ok (.ireturn, 1) := by decide +kernel
theorem dX8_isBetter_0 : decode cX8_isBetter 0 = .ok (.aload_n 0, 1) := by decide +kernel
theorem dX8_isBetter_1 : decode cX8_isBetter 1 = .ok (.iload_n 1, 1) := by decide +kernel
theorem dX8_isBetter_2 : decode cX8_isBetter 2 = .ok (.iconst 3, 1) := by decide +kernel
theorem dX8_isBetter_3 : decode cX8_isBetter 3 = .ok (.invokevirtual 90, 3) := by decide +kernel
theorem dX8_isBetter_6 : decode cX8_isBetter 6 = .ok (.aload_n 0, 1) := by decide +kernel
theorem dX8_isBetter_7 : decode cX8_isBetter 7 = .ok (.iload_n 2, 1) := by decide +kernel
theorem dX8_isBetter_8 : decode cX8_isBetter 8 = .ok (.iconst 3, 1) := by decide +kernel
theorem dX8_isBetter_9 : decode cX8_isBetter 9 = .ok (.invokevirtual 90, 3) := by decide +kernel
theorem dX8_isBetter_12 : decode cX8_isBetter 12 = .ok (.isub, 1) := by decide +kernel
theorem dX8_isBetter_13 : decode cX8_isBetter 13 = .ok (.istore_n 3, 1) := by decide +kernel
theorem dX8_isBetter_14 : decode cX8_isBetter 14 = .ok (.iload_n 3, 1) := by decide +kernel
theorem dX8_isBetter_15 : decode cX8_isBetter 15 = .ok (.ifCond .eq 15, 3) := by decide +kernel
theorem dX8_isBetter_18 : decode cX8_isBetter 18 = .ok (.iload_n 3, 1) := by decide +kernel
theorem dX8_isBetter_19 : decode cX8_isBetter 19 = .ok (.ifCond .le 7, 3) := by decide +kernel
theorem dX8_isBetter_22 : decode cX8_isBetter 22 = .ok (.iconst 1, 1) := by decide +kernel
theorem dX8_isBetter_23 : decode cX8_isBetter 23 = .ok (.goto 27, 3) := by decide +kernel
theorem dX8_isBetter_26 : decode cX8_isBetter 26 = .ok (.iconst 0, 1) := by decide +kernel
theorem dX8_isBetter_27 : decode cX8_isBetter 27 = .ok (.goto 23, 3) := by decide +kernel
theorem dX8_isBetter_30 : decode cX8_isBetter 30 = .ok (.aload_n 0, 1) := by decide +kernel
theorem dX8_isBetter_31 : decode cX8_isBetter 31 = .ok (.iload_n 1, 1) := by decide +kernel
theorem dX8_isBetter_32 : decode cX8_isBetter 32 = .ok (.iconst 1, 1) := by decide +kernel
theorem dX8_isBetter_33 : decode cX8_isBetter 33 = .ok (.invokevirtual 90, 3) := by decide +kernel
theorem dX8_isBetter_36 : decode cX8_isBetter 36 = .ok (.aload_n 0, 1) := by decide +kernel
theorem dX8_isBetter_37 : decode cX8_isBetter 37 = .ok (.iload_n 2, 1) := by decide +kernel
theorem dX8_isBetter_38 : decode cX8_isBetter 38 = .ok (.iconst 1, 1) := by decide +kernel
theorem dX8_isBetter_39 : decode cX8_isBetter 39 = .ok (.invokevirtual 90, 3) := by decide +kernel
theorem dX8_isBetter_42 : decode cX8_isBetter 42 = .ok (.if_icmp .le 7, 3) := by decide +kernel
theorem dX8_isBetter_45 : decode cX8_isBetter 45 = .ok (.iconst 1, 1) := by decide +kernel
theorem dX8_isBetter_46 : decode cX8_isBetter 46 = .ok (.goto 4, 3) := by decide +kernel
theorem dX8_isBetter_49 : decode cX8_isBetter 49 = .ok (.iconst 0, 1) := by decide +kernel
theorem dX8_isBetter_50 : decode cX8_isBetter 50 = .ok (.ireturn, 1) := by decide +kernel
theorem dX8_calf_0 : decode cX8_calf 0 = .ok (.aload_n 0, 1) := by decide +kernel
theorem dX8_calf_1 : decode cX8_calf 1 = .ok (.iload_n 1, 1) := by decide +kernel
theorem dX8_calf_2 : decode cX8_calf 2 = .ok (.iconst 0, 1) := by decide +kernel
theorem dX8_calf_3 : decode cX8_calf 3 = .ok (.iconst 1, 1) := by decide +kernel
theorem dX8_calf_4 : decode cX8_calf 4 = .ok (.invokestatic 60, 3) := by decide +kernel
theorem dX8_calf_7 : decode cX8_calf 7 = .ok (.ifCond .ne 7, 3) := by decide +kernel
theorem dX8_calf_10 : decode cX8_calf 10 = .ok (.iconst 1, 1) := by decide +kernel
theorem dX8_calf_11 : decode cX8_calf 11 = .ok (.goto 4, 3) := by decide +kernel
theorem dX8_calf_14 : decode cX8_calf 14 = .ok (.iconst 0, 1) := by decide +kernel
theorem dX8_calf_15 : decode cX8_calf 15 = .ok (.iconst 1, 1) := by decide +kernel
theorem dX8_calf_16 : decode cX8_calf 16 = .ok (.invokevirtual 80, 3) := by decide +kernel
theorem dX8_calf_19 : decode cX8_calf 19 = .ok (.ifCond .eq 5, 3) := by decide +kernel
theorem dX8_calf_22 : decode cX8_calf 22 = .ok (.iconst 0, 1) := by decide +kernel
theorem dX8_calf_23 : decode cX8_calf 23 = .ok (.ireturn, 1) := by decide +kernel
theorem dX8_calf_24 : decode cX8_calf 24 = .ok (.iconst (-1), 1) := by decide +kernel
theorem dX8_calf_25 : decode cX8_calf 25 = .ok (.istore_n 2, 1) := by decide +kernel
theorem dX8_calf_26 : decode cX8_calf 26 = .ok (.iconst 0, 1) := by decide +kernel
theorem dX8_calf_27 : decode cX8_calf 27 = .ok (.istore_n 3, 1) := by decide +kernel
theorem dX8_calf_28 : decode cX8_calf 28 = .ok (.iload_n 3, 1) := by decide +kernel
theorem dX8_calf_29 : decode cX8_calf 29 = .ok (.aload_n 0, 1) := by decide +kernel
theorem dX8_calf_30 : decode cX8_calf 30 = .ok (.getfield 9, 3) := by decide +kernel
theorem dX8_calf_33 : decode cX8_calf 33 = .ok (.iconst 0, 1) := by decide +kernel
theorem dX8_calf_34 : decode cX8_calf 34 = .ok (.iaload, 1) := by decide +kernel
theorem dX8_calf_35 : decode cX8_calf 35 = .ok (.if_icmp .ge 59, 3) := by decide +kernel
theorem dX8_calf_38 : decode cX8_calf 38 = .ok (.aload_n 0, 1) := by decide +kernel
theorem dX8_calf_39 : decode cX8_calf 39 = .ok (.iload_n 3, 1) := by decide +kernel
theorem dX8_calf_40 : decode cX8_calf 40 = .ok (.iconst 0, 1) := by decide +kernel
theorem dX8_calf_41 : decode cX8_calf 41 = .ok (.invokevirtual 90, 3) := by decide +kernel
theorem dX8_calf_44 : decode cX8_calf 44 = .ok (.iload_n 1, 1) := by decide +kernel
theorem dX8_calf_45 : decode cX8_calf 45 = .ok (.if_icmp .ne 16, 3) := by decide +kernel
theorem dX8_calf_48 : decode cX8_calf 48 = .ok (.aload_n 0, 1) := by decide +kernel
theorem dX8_calf_49 : decode cX8_calf 49 = .ok (.iload_n 3, 1) := by decide +kernel
theorem dX8_calf_50 : decode cX8_calf 50 = .ok (.iconst 4, 1) := by decide +kernel
theorem dX8_calf_51 : decode cX8_calf 51 = .ok (.invokevirtual 90, 3) := by decide +kernel
theorem dX8_calf_54 : decode cX8_calf 54 = .ok (.ifCond .ge 7, 3) := by decide +kernel
theorem dX8_calf_57 : decode cX8_calf 57 = .ok (.iconst 1, 1) := by decide +kernel
theorem dX8_calf_58 : decode cX8_calf 58 = .ok (.goto 4, 3) := by decide +kernel
theorem dX8_calf_61 : decode cX8_calf 61 = .ok (.iconst 0, 1) := by decide +kernel
theorem dX8_calf_62 : decode cX8_calf 62 = .ok (.istore 4, 2) := by decide +kernel
theorem dX8_calf_64 : decode cX8_calf 64 = .ok (.iload 4, 2) := by decide +kernel
theorem dX8_calf_66 : decode cX8_calf 66 = .ok (.ifCond .eq 20, 3) := by decide +kernel
theorem dX8_calf_69 : decode cX8_calf 69 = .ok (.iload_n 2, 1) := by decide +kernel
theorem dX8_calf_70 : decode cX8_calf 70 = .ok (.ifCond .lt 12, 3) := by decide +kernel
theorem dX8_calf_73 : decode cX8_calf 73 = .ok (.aload_n 0, 1) := by decide +kernel
theorem dX8_calf_74 : decode cX8_calf 74 = .ok (.iload_n 3, 1) := by decide +kernel
theorem dX8_calf_75 : decode cX8_calf 75 = .ok (.iload_n 2, 1) := by decide +kernel
theorem dX8_calf_76 : decode cX8_calf 76 = .ok (.invokevirtual 193, 3) := by decide +kernel
theorem dX8_calf_79 : decode cX8_calf 79 = .ok (.ifCond .eq 7, 3) := by decide +kernel
theorem dX8_calf_82 : decode cX8_calf 82 = .ok (.iload_n 3, 1) := by decide +kernel
theorem dX8_calf_83 : decode cX8_calf 83 = .ok (.goto 4, 3) := by decide +kernel
theorem dX8_calf_86 : decode cX8_calf 86 = .ok (.iload_n 2, 1) := by decide +kernel
theorem dX8_calf_87 : decode cX8_calf 87 = .ok (.istore_n 2, 1) := by decide +kernel
theorem dX8_calf_88 : decode cX8_calf 88 = .ok (.iinc 3 1, 3) := by decide +kernel
theorem dX8_calf_91 : decode cX8_calf 91 = .ok (.goto (-63), 3) := by decide +kernel
theorem dX8_calf_94 : decode cX8_calf 94 = .ok (.aload_n 0, 1) := by decide +kernel
theorem dX8_calf_95 : decode cX8_calf 95 = .ok (.iload_n 2, 1) := by decide +kernel
theorem dX8_calf_96 : decode cX8_calf 96 = .ok (.ifCond .ge 7, 3) := by decide +kernel
theorem dX8_calf_99 : decode cX8_calf 99 = .ok (.iconst 1, 1) := by decide +kernel
theorem dX8_calf_100 : decode cX8_calf 100 = .ok (.goto 4, 3) := by decide +kernel
theorem dX8_calf_103 : decode cX8_calf 103 = .ok (.iconst 0, 1) := by decide +kernel
theorem dX8_calf_104 : decode cX8_calf 104 = .ok (.iconst 2, 1) := by decide +kernel
theorem dX8_calf_105 : decode cX8_calf 105 = .ok (.invokevirtual 80, 3) := by decide +kernel
theorem dX8_calf_108 : decode cX8_calf 108 = .ok (.ifCond .eq 7, 3) := by decide +kernel
theorem dX8_calf_111 : decode cX8_calf 111 = .ok (.iconst 0, 1) := by decide +kernel
theorem dX8_calf_112 : decode cX8_calf 112 = .ok (.goto 4, 3) := by decide +kernel
theorem dX8_calf_115 : decode cX8_calf 115 = .ok (.iload_n 2, 1) := by decide +kernel
theorem dX8_calf_116 : decode cX8_calf 116 = .ok (.ireturn, 1) := by decide +kernel
theorem dX8_leader_0 : decode cX8_leader 0 = .ok (.aload_n 0, 1) := by decide +kernel
theorem dX8_leader_1 : decode cX8_leader 1 = .ok (.iconst 0, 1) := by decide +kernel
theorem dX8_leader_2 : decode cX8_leader 2 = .ok (.putfield 41, 3) := by decide +kernel
theorem dX8_leader_5 : decode cX8_leader 5 = .ok (.aload_n 0, 1) := by decide +kernel
theorem dX8_leader_6 : decode cX8_leader 6 = .ok (.getfield 9, 3) := by decide +kernel
theorem dX8_leader_9 : decode cX8_leader 9 = .ok (.iconst 4, 1) := by decide +kernel
theorem dX8_leader_10 : decode cX8_leader 10 = .ok (.iaload, 1) := by decide +kernel
theorem dX8_leader_11 : decode cX8_leader 11 = .ok (.aload_n 0, 1) := by decide +kernel
theorem dX8_leader_12 : decode cX8_leader 12 = .ok (.getfield 9, 3) := by decide +kernel
theorem dX8_leader_15 : decode cX8_leader 15 = .ok (.iconst 5, 1) := by decide +kernel
theorem dX8_leader_16 : decode cX8_leader 16 = .ok (.iaload, 1) := by decide +kernel
theorem dX8_leader_17 : decode cX8_leader 17 = .ok (.isub, 1) := by decide +kernel
theorem dX8_leader_18 : decode cX8_leader 18 = .ok (.istore_n 1, 1) := by decide +kernel
theorem dX8_leader_19 : decode cX8_leader 19 = .ok (.iload_n 1, 1) := by decide +kernel
theorem dX8_leader_20 : decode cX8_leader 20 = .ok (.ifCond .ne 7, 3) := by decide +kernel
theorem dX8_leader_23 : decode cX8_leader 23 = .ok (.iconst (-1), 1) := by decide +kernel
theorem dX8_leader_24 : decode cX8_leader 24 = .ok (.goto 12, 3) := by decide +kernel
theorem dX8_leader_27 : decode cX8_leader 27 = .ok (.iload_n 1, 1) := by decide +kernel
theorem dX8_leader_28 : decode cX8_leader 28 = .ok (.ifCond .le 7, 3) := by decide +kernel
theorem dX8_leader_31 : decode cX8_leader 31 = .ok (.iconst 0, 1) := by decide +kernel
theorem dX8_leader_32 : decode cX8_leader 32 = .ok (.goto 4, 3) := by decide +kernel
theorem dX8_leader_35 : decode cX8_leader 35 = .ok (.iconst 1, 1) := by decide +kernel
theorem dX8_leader_36 : decode cX8_leader 36 = .ok (.ireturn, 1) := by decide +kernel
theorem dX8_playing_0 : decode cX8_playing 0 = .ok (.iconst 0, 1) := by decide +kernel
theorem dX8_playing_1 : decode cX8_playing 1 = .ok (.istore_n 2, 1) := by decide +kernel
theorem dX8_playing_2 : decode cX8_playing 2 = .ok (.iconst 0, 1) := by decide +kernel
theorem dX8_playing_3 : decode cX8_playing 3 = .ok (.istore_n 3, 1) := by decide +kernel
theorem dX8_playing_4 : decode cX8_playing 4 = .ok (.iload_n 3, 1) := by decide +kernel
theorem dX8_playing_5 : decode cX8_playing 5 = .ok (.aload_n 0, 1) := by decide +kernel
theorem dX8_playing_6 : decode cX8_playing 6 = .ok (.getfield 9, 3) := by decide +kernel
theorem dX8_playing_9 : decode cX8_playing 9 = .ok (.iconst 0, 1) := by decide +kernel
theorem dX8_playing_10 : decode cX8_playing 10 = .ok (.iaload, 1) := by decide +kernel
theorem dX8_playing_11 : decode cX8_playing 11 = .ok (.if_icmp .ge 36, 3) := by decide +kernel
theorem dX8_playing_14 : decode cX8_playing 14 = .ok (.iload_n 2, 1) := by decide +kernel
theorem dX8_playing_15 : decode cX8_playing 15 = .ok (.aload_n 0, 1) := by decide +kernel
theorem dX8_playing_16 : decode cX8_playing 16 = .ok (.iload_n 3, 1) := by decide +kernel
theorem dX8_playing_17 : decode cX8_playing 17 = .ok (.iconst 0, 1) := by decide +kernel
theorem dX8_playing_18 : decode cX8_playing 18 = .ok (.invokevirtual 90, 3) := by decide +kernel
theorem dX8_playing_21 : decode cX8_playing 21 = .ok (.iload_n 1, 1) := by decide +kernel
theorem dX8_playing_22 : decode cX8_playing 22 = .ok (.if_icmp .ne 16, 3) := by decide +kernel
theorem dX8_playing_25 : decode cX8_playing 25 = .ok (.aload_n 0, 1) := by decide +kernel
theorem dX8_playing_26 : decode cX8_playing 26 = .ok (.iload_n 3, 1) := by decide +kernel
theorem dX8_playing_27 : decode cX8_playing 27 = .ok (.iconst 4, 1) := by decide +kernel
theorem dX8_playing_28 : decode cX8_playing 28 = .ok (.invokevirtual 90, 3) := by decide +kernel
theorem dX8_playing_31 : decode cX8_playing 31 = .ok (.ifCond .lt 7, 3) := by decide +kernel
theorem dX8_playing_34 : decode cX8_playing 34 = .ok (.iconst 1, 1) := by decide +kernel
theorem dX8_playing_35 : decode cX8_playing 35 = .ok (.goto 4, 3) := by decide +kernel
theorem dX8_playing_38 : decode cX8_playing 38 = .ok (.iconst 0, 1) := by decide +kernel
theorem dX8_playing_39 : decode cX8_playing 39 = .ok (.iadd, 1) := by decide +kernel
theorem dX8_playing_40 : decode cX8_playing 40 = .ok (.istore_n 2, 1) := by decide +kernel
theorem dX8_playing_41 : decode cX8_playing 41 = .ok (.iinc 3 1, 3) := by decide +kernel
theorem dX8_playing_44 : decode cX8_playing 44 = .ok (.goto (-40), 3) := by decide +kernel
theorem dX8_playing_47 : decode cX8_playing 47 = .ok (.iload_n 2, 1) := by decide +kernel
theorem dX8_playing_48 : decode cX8_playing 48 = .ok (.ireturn, 1) := by decide +kernel
theorem dX8_isFair_0 : decode cX8_isFair 0 = .ok (.aload_n 0, 1) := by decide +kernel
theorem dX8_isFair_1 : decode cX8_isFair 1 = .ok (.iconst 0, 1) := by decide +kernel
theorem dX8_isFair_2 : decode cX8_isFair 2 = .ok (.putfield 41, 3) := by decide +kernel
theorem dX8_isFair_5 : decode cX8_isFair 5 = .ok (.aload_n 0, 1) := by decide +kernel
theorem dX8_isFair_6 : decode cX8_isFair 6 = .ok (.iconst 0, 1) := by decide +kernel
theorem dX8_isFair_7 : decode cX8_isFair 7 = .ok (.invokevirtual 196, 3) := by decide +kernel
theorem dX8_isFair_10 : decode cX8_isFair 10 = .ok (.iconst 3, 1) := by decide +kernel
theorem dX8_isFair_11 : decode cX8_isFair 11 = .ok (.if_icmp .gt 16, 3) := by decide +kernel
theorem dX8_isFair_14 : decode cX8_isFair 14 = .ok (.aload_n 0, 1) := by decide +kernel
theorem dX8_isFair_15 : decode cX8_isFair 15 = .ok (.iconst 1, 1) := by decide +kernel
theorem dX8_isFair_16 : decode cX8_isFair 16 = .ok (.invokevirtual 196, 3) := by decide +kernel
theorem dX8_isFair_19 : decode cX8_isFair 19 = .ok (.iconst 3, 1) := by decide +kernel
theorem dX8_isFair_20 : decode cX8_isFair 20 = .ok (.if_icmp .gt 7, 3) := by decide +kernel
theorem dX8_isFair_23 : decode cX8_isFair 23 = .ok (.iconst 1, 1) := by decide +kernel
theorem dX8_isFair_24 : decode cX8_isFair 24 = .ok (.goto 4, 3) := by decide +kernel
theorem dX8_isFair_27 : decode cX8_isFair 27 = .ok (.iconst 0, 1) := by decide +kernel
theorem dX8_isFair_28 : decode cX8_isFair 28 = .ok (.istore_n 1, 1) := by decide +kernel
theorem dX8_isFair_29 : decode cX8_isFair 29 = .ok (.iconst 0, 1) := by decide +kernel
theorem dX8_isFair_30 : decode cX8_isFair 30 = .ok (.istore_n 2, 1) := by decide +kernel
theorem dX8_isFair_31 : decode cX8_isFair 31 = .ok (.iload_n 2, 1) := by decide +kernel
theorem dX8_isFair_32 : decode cX8_isFair 32 = .ok (.aload_n 0, 1) := by decide +kernel
theorem dX8_isFair_33 : decode cX8_isFair 33 = .ok (.getfield 9, 3) := by decide +kernel
theorem dX8_isFair_36 : decode cX8_isFair 36 = .ok (.iconst 0, 1) := by decide +kernel
theorem dX8_isFair_37 : decode cX8_isFair 37 = .ok (.iaload, 1) := by decide +kernel
theorem dX8_isFair_38 : decode cX8_isFair 38 = .ok (.if_icmp .ge 40, 3) := by decide +kernel
theorem dX8_isFair_41 : decode cX8_isFair 41 = .ok (.iload_n 1, 1) := by decide +kernel
theorem dX8_isFair_42 : decode cX8_isFair 42 = .ok (.aload_n 0, 1) := by decide +kernel
theorem dX8_isFair_43 : decode cX8_isFair 43 = .ok (.iload_n 2, 1) := by decide +kernel
theorem dX8_isFair_44 : decode cX8_isFair 44 = .ok (.iconst 4, 1) := by decide +kernel
theorem dX8_isFair_45 : decode cX8_isFair 45 = .ok (.invokevirtual 90, 3) := by decide +kernel
theorem dX8_isFair_48 : decode cX8_isFair 48 = .ok (.ifCond .lt 17, 3) := by decide +kernel
theorem dX8_isFair_51 : decode cX8_isFair 51 = .ok (.aload_n 0, 1) := by decide +kernel
theorem dX8_isFair_52 : decode cX8_isFair 52 = .ok (.aload_n 0, 1) := by decide +kernel
theorem dX8_isFair_53 : decode cX8_isFair 53 = .ok (.iload_n 2, 1) := by decide +kernel
theorem dX8_isFair_54 : decode cX8_isFair 54 = .ok (.iconst 4, 1) := by decide +kernel
theorem dX8_isFair_55 : decode cX8_isFair 55 = .ok (.invokevirtual 90, 3) := by decide +kernel
theorem dX8_isFair_58 : decode cX8_isFair 58 = .ok (.invokevirtual 93, 3) := by decide +kernel
theorem dX8_isFair_61 : decode cX8_isFair 61 = .ok (.iload_n 2, 1) := by decide +kernel
theorem dX8_isFair_62 : decode cX8_isFair 62 = .ok (.if_icmp .ne 7, 3) := by decide +kernel
theorem dX8_isFair_65 : decode cX8_isFair 65 = .ok (.iconst 1, 1) := by decide +kernel
theorem dX8_isFair_66 : decode cX8_isFair 66 = .ok (.goto 4, 3) := by decide +kernel
theorem dX8_isFair_69 : decode cX8_isFair 69 = .ok (.iconst 0, 1) := by decide +kernel
theorem dX8_isFair_70 : decode cX8_isFair 70 = .ok (.iand, 1) := by decide +kernel
theorem dX8_isFair_71 : decode cX8_isFair 71 = .ok (.istore_n 1, 1) := by decide +kernel
theorem dX8_isFair_72 : decode cX8_isFair 72 = .ok (.iinc 2 1, 3) := by decide +kernel
theorem dX8_isFair_75 : decode cX8_isFair 75 = .ok (.goto (-44), 3) := by decide +kernel
theorem dX8_isFair_78 : decode cX8_isFair 78 = .ok (.iload_n 1, 1) := by decide +kernel
theorem dX8_isFair_79 : decode cX8_isFair 79 = .ok (.ireturn, 1) := by decide +kernel
theorem dX8_puts_0 : decode cX8_puts 0 = .ok (.aload_n 0, 1) := by decide +kernel
theorem dX8_puts_1 : decode cX8_puts 1 = .ok (.getfield 32, 3) := by decide +kernel
theorem dX8_puts_4 : decode cX8_puts 4 = .ok (.aload_n 0, 1) := by decide +kernel
theorem dX8_puts_5 : decode cX8_puts 5 = .ok (.getfield 199, 3) := by decide +kernel
theorem dX8_puts_8 : decode cX8_puts 8 = .ok (.iload_n 1, 1) := by decide +kernel
theorem dX8_puts_9 : decode cX8_puts 9 = .ok (.iastore, 1) := by decide +kernel
theorem dX8_puts_10 : decode cX8_puts 10 = .ok (.aload_n 0, 1) := by decide +kernel
theorem dX8_puts_11 : decode cX8_puts 11 = .ok (.dup, 1) := by decide +kernel
theorem dX8_puts_12 : decode cX8_puts 12 = .ok (.getfield 199, 3) := by decide +kernel
theorem dX8_puts_15 : decode cX8_puts 15 = .ok (.iconst 1, 1) := by decide +kernel
theorem dX8_puts_16 : decode cX8_puts 16 = .ok (.iadd, 1) := by decide +kernel
theorem dX8_puts_17 : decode cX8_puts 17 = .ok (.putfield 199, 3) := by decide +kernel
theorem dX8_puts_20 : decode cX8_puts 20 = .ok (.return_, 1) := by decide +kernel
theorem dX8_number_0 : decode cX8_number 0 = .ok (.iload_n 1, 1) := by decide +kernel
theorem dX8_number_1 : decode cX8_number 1 = .ok (.bipush 10, 2) := by decide +kernel
theorem dX8_number_3 : decode cX8_number 3 = .ok (.if_icmp .lt 11, 3) := by decide +kernel
theorem dX8_number_6 : decode cX8_number 6 = .ok (.aload_n 0, 1) := by decide +kernel
theorem dX8_number_7 : decode cX8_number 7 = .ok (.iload_n 1, 1) := by decide +kernel
theorem dX8_number_8 : decode cX8_number 8 = .ok (.bipush 10, 2) := by decide +kernel
theorem dX8_number_10 : decode cX8_number 10 = .ok (.idiv, 1) := by decide +kernel
theorem dX8_number_11 : decode cX8_number 11 = .ok (.invokevirtual 202, 3) := by decide +kernel
theorem dX8_number_14 : decode cX8_number 14 = .ok (.aload_n 0, 1) := by decide +kernel
theorem dX8_number_15 : decode cX8_number 15 = .ok (.bipush 48, 2) := by decide +kernel
theorem dX8_number_17 : decode cX8_number 17 = .ok (.iload_n 1, 1) := by decide +kernel
theorem dX8_number_18 : decode cX8_number 18 = .ok (.bipush 10, 2) := by decide +kernel
theorem dX8_number_20 : decode cX8_number 20 = .ok (.irem, 1) := by decide +kernel
theorem dX8_number_21 : decode cX8_number 21 = .ok (.iadd, 1) := by decide +kernel
theorem dX8_number_22 : decode cX8_number 22 = .ok (.invokevirtual 205, 3) := by decide +kernel
theorem dX8_number_25 : decode cX8_number 25 = .ok (.return_, 1) := by decide +kernel
theorem dX8_row_0 : decode cX8_row 0 = .ok (.aload_n 0, 1) := by decide +kernel
theorem dX8_row_1 : decode cX8_row 1 = .ok (.iload_n 1, 1) := by decide +kernel
theorem dX8_row_2 : decode cX8_row 2 = .ok (.iconst 0, 1) := by decide +kernel
theorem dX8_row_3 : decode cX8_row 3 = .ok (.iconst 4, 1) := by decide +kernel
theorem dX8_row_4 : decode cX8_row 4 = .ok (.invokestatic 60, 3) := by decide +kernel
theorem dX8_row_7 : decode cX8_row 7 = .ok (.ifCond .ne 7, 3) := by decide +kernel
theorem dX8_row_10 : decode cX8_row 10 = .ok (.iconst 1, 1) := by decide +kernel
theorem dX8_row_11 : decode cX8_row 11 = .ok (.goto 4, 3) := by decide +kernel
theorem dX8_row_14 : decode cX8_row 14 = .ok (.iconst 0, 1) := by decide +kernel
theorem dX8_row_15 : decode cX8_row 15 = .ok (.iconst 1, 1) := by decide +kernel
theorem dX8_row_16 : decode cX8_row 16 = .ok (.invokevirtual 80, 3) := by decide +kernel
theorem dX8_row_19 : decode cX8_row 19 = .ok (.ifCond .eq 5, 3) := by decide +kernel
theorem dX8_row_22 : decode cX8_row 22 = .ok (.iconst 0, 1) := by decide +kernel
theorem dX8_row_23 : decode cX8_row 23 = .ok (.ireturn, 1) := by decide +kernel
theorem dX8_row_24 : decode cX8_row 24 = .ok (.aload_n 0, 1) := by decide +kernel
theorem dX8_row_25 : decode cX8_row 25 = .ok (.iconst 0, 1) := by decide +kernel
theorem dX8_row_26 : decode cX8_row 26 = .ok (.putfield 199, 3) := by decide +kernel
theorem dX8_row_29 : decode cX8_row 29 = .ok (.bipush 9, 2) := by decide +kernel
theorem dX8_row_31 : decode cX8_row 31 = .ok (.iload_n 1, 1) := by decide +kernel
theorem dX8_row_32 : decode cX8_row 32 = .ok (.imul, 1) := by decide +kernel
theorem dX8_row_33 : decode cX8_row 33 = .ok (.istore_n 2, 1) := by decide +kernel
theorem dX8_row_34 : decode cX8_row 34 = .ok (.iload_n 2, 1) := by decide +kernel
theorem dX8_row_35 : decode cX8_row 35 = .ok (.bipush 9, 2) := by decide +kernel
theorem dX8_row_37 : decode cX8_row 37 = .ok (.iload_n 1, 1) := by decide +kernel
theorem dX8_row_38 : decode cX8_row 38 = .ok (.iconst 1, 1) := by decide +kernel
theorem dX8_row_39 : decode cX8_row 39 = .ok (.iadd, 1) := by decide +kernel
theorem dX8_row_40 : decode cX8_row 40 = .ok (.imul, 1) := by decide +kernel
theorem dX8_row_41 : decode cX8_row 41 = .ok (.if_icmp .ge 60, 3) := by decide +kernel
theorem dX8_row_44 : decode cX8_row 44 = .ok (.aload_n 0, 1) := by decide +kernel
theorem dX8_row_45 : decode cX8_row 45 = .ok (.iload_n 2, 1) := by decide +kernel
theorem dX8_row_46 : decode cX8_row 46 = .ok (.invokevirtual 93, 3) := by decide +kernel
theorem dX8_row_49 : decode cX8_row 49 = .ok (.istore_n 3, 1) := by decide +kernel
theorem dX8_row_50 : decode cX8_row 50 = .ok (.aload_n 0, 1) := by decide +kernel
theorem dX8_row_51 : decode cX8_row 51 = .ok (.iload_n 3, 1) := by decide +kernel
theorem dX8_row_52 : decode cX8_row 52 = .ok (.ifCond .lt 10, 3) := by decide +kernel
theorem dX8_row_55 : decode cX8_row 55 = .ok (.bipush 48, 2) := by decide +kernel
theorem dX8_row_57 : decode cX8_row 57 = .ok (.iload_n 3, 1) := by decide +kernel
theorem dX8_row_58 : decode cX8_row 58 = .ok (.iadd, 1) := by decide +kernel
theorem dX8_row_59 : decode cX8_row 59 = .ok (.goto 33, 3) := by decide +kernel
theorem dX8_row_62 : decode cX8_row 62 = .ok (.iload_n 2, 1) := by decide +kernel
theorem dX8_row_63 : decode cX8_row 63 = .ok (.aload_n 0, 1) := by decide +kernel
theorem dX8_row_64 : decode cX8_row 64 = .ok (.getfield 9, 3) := by decide +kernel
theorem dX8_row_67 : decode cX8_row 67 = .ok (.iconst 2, 1) := by decide +kernel
theorem dX8_row_68 : decode cX8_row 68 = .ok (.iaload, 1) := by decide +kernel
theorem dX8_row_69 : decode cX8_row 69 = .ok (.if_icmp .ne 8, 3) := by decide +kernel
theorem dX8_row_72 : decode cX8_row 72 = .ok (.bipush 111, 2) := by decide +kernel
theorem dX8_row_74 : decode cX8_row 74 = .ok (.goto 18, 3) := by decide +kernel
theorem dX8_row_77 : decode cX8_row 77 = .ok (.aload_n 0, 1) := by decide +kernel
theorem dX8_row_78 : decode cX8_row 78 = .ok (.iload_n 2, 1) := by decide +kernel
theorem dX8_row_79 : decode cX8_row 79 = .ok (.invokevirtual 84, 3) := by decide +kernel
theorem dX8_row_82 : decode cX8_row 82 = .ok (.ifCond .eq 8, 3) := by decide +kernel
theorem dX8_row_85 : decode cX8_row 85 = .ok (.bipush 95, 2) := by decide +kernel
theorem dX8_row_87 : decode cX8_row 87 = .ok (.goto 5, 3) := by decide +kernel
theorem dX8_row_90 : decode cX8_row 90 = .ok (.bipush 46, 2) := by decide +kernel
theorem dX8_row_92 : decode cX8_row 92 = .ok (.invokevirtual 205, 3) := by decide +kernel
theorem dX8_row_95 : decode cX8_row 95 = .ok (.iinc 2 1, 3) := by decide +kernel
theorem dX8_row_98 : decode cX8_row 98 = .ok (.goto (-64), 3) := by decide +kernel
theorem dX8_row_101 : decode cX8_row 101 = .ok (.aload_n 0, 1) := by decide +kernel
theorem dX8_row_102 : decode cX8_row 102 = .ok (.getfield 199, 3) := by decide +kernel
theorem dX8_row_105 : decode cX8_row 105 = .ok (.ireturn, 1) := by decide +kernel
theorem dX8_tell_0 : decode cX8_tell 0 = .ok (.aload_n 0, 1) := by decide +kernel
theorem dX8_tell_1 : decode cX8_tell 1 = .ok (.aload_n 0, 1) := by decide +kernel
theorem dX8_tell_2 : decode cX8_tell 2 = .ok (.iload_n 1, 1) := by decide +kernel
theorem dX8_tell_3 : decode cX8_tell 3 = .ok (.invokevirtual 120, 3) := by decide +kernel
theorem dX8_tell_6 : decode cX8_tell 6 = .ok (.ifCond .ne 7, 3) := by decide +kernel
theorem dX8_tell_9 : decode cX8_tell 9 = .ok (.iconst 1, 1) := by decide +kernel
theorem dX8_tell_10 : decode cX8_tell 10 = .ok (.goto 4, 3) := by decide +kernel
theorem dX8_tell_13 : decode cX8_tell 13 = .ok (.iconst 0, 1) := by decide +kernel
theorem dX8_tell_14 : decode cX8_tell 14 = .ok (.iconst 1, 1) := by decide +kernel
theorem dX8_tell_15 : decode cX8_tell 15 = .ok (.invokevirtual 80, 3) := by decide +kernel
theorem dX8_tell_18 : decode cX8_tell 18 = .ok (.ifCond .eq 5, 3) := by decide +kernel
theorem dX8_tell_21 : decode cX8_tell 21 = .ok (.iconst 0, 1) := by decide +kernel
theorem dX8_tell_22 : decode cX8_tell 22 = .ok (.ireturn, 1) := by decide +kernel
theorem dX8_tell_23 : decode cX8_tell 23 = .ok (.aload_n 0, 1) := by decide +kernel
theorem dX8_tell_24 : decode cX8_tell 24 = .ok (.iconst 0, 1) := by decide +kernel
theorem dX8_tell_25 : decode cX8_tell 25 = .ok (.putfield 199, 3) := by decide +kernel
theorem dX8_tell_28 : decode cX8_tell 28 = .ok (.aload_n 0, 1) := by decide +kernel
theorem dX8_tell_29 : decode cX8_tell 29 = .ok (.iload_n 1, 1) := by decide +kernel
theorem dX8_tell_30 : decode cX8_tell 30 = .ok (.invokevirtual 202, 3) := by decide +kernel
theorem dX8_tell_33 : decode cX8_tell 33 = .ok (.aload_n 0, 1) := by decide +kernel
theorem dX8_tell_34 : decode cX8_tell 34 = .ok (.bipush 58, 2) := by decide +kernel
theorem dX8_tell_36 : decode cX8_tell 36 = .ok (.invokevirtual 205, 3) := by decide +kernel
theorem dX8_tell_39 : decode cX8_tell 39 = .ok (.aload_n 0, 1) := by decide +kernel
theorem dX8_tell_40 : decode cX8_tell 40 = .ok (.aload_n 0, 1) := by decide +kernel
theorem dX8_tell_41 : decode cX8_tell 41 = .ok (.iload_n 1, 1) := by decide +kernel
theorem dX8_tell_42 : decode cX8_tell 42 = .ok (.iconst 0, 1) := by decide +kernel
theorem dX8_tell_43 : decode cX8_tell 43 = .ok (.invokevirtual 90, 3) := by decide +kernel
theorem dX8_tell_46 : decode cX8_tell 46 = .ok (.invokevirtual 202, 3) := by decide +kernel
theorem dX8_tell_49 : decode cX8_tell 49 = .ok (.aload_n 0, 1) := by decide +kernel
theorem dX8_tell_50 : decode cX8_tell 50 = .ok (.bipush 94, 2) := by decide +kernel
theorem dX8_tell_52 : decode cX8_tell 52 = .ok (.invokevirtual 205, 3) := by decide +kernel
theorem dX8_tell_55 : decode cX8_tell 55 = .ok (.aload_n 0, 1) := by decide +kernel
theorem dX8_tell_56 : decode cX8_tell 56 = .ok (.aload_n 0, 1) := by decide +kernel
theorem dX8_tell_57 : decode cX8_tell 57 = .ok (.iload_n 1, 1) := by decide +kernel
theorem dX8_tell_58 : decode cX8_tell 58 = .ok (.iconst 1, 1) := by decide +kernel
theorem dX8_tell_59 : decode cX8_tell 59 = .ok (.invokevirtual 90, 3) := by decide +kernel
theorem dX8_tell_62 : decode cX8_tell 62 = .ok (.invokevirtual 202, 3) := by decide +kernel
theorem dX8_tell_65 : decode cX8_tell 65 = .ok (.aload_n 0, 1) := by decide +kernel
theorem dX8_tell_66 : decode cX8_tell 66 = .ok (.bipush 47, 2) := by decide +kernel
theorem dX8_tell_68 : decode cX8_tell 68 = .ok (.invokevirtual 205, 3) := by decide +kernel
theorem dX8_tell_71 : decode cX8_tell 71 = .ok (.aload_n 0, 1) := by decide +kernel
theorem dX8_tell_72 : decode cX8_tell 72 = .ok (.aload_n 0, 1) := by decide +kernel
theorem dX8_tell_73 : decode cX8_tell 73 = .ok (.iload_n 1, 1) := by decide +kernel
theorem dX8_tell_74 : decode cX8_tell 74 = .ok (.iconst 2, 1) := by decide +kernel
theorem dX8_tell_75 : decode cX8_tell 75 = .ok (.invokevirtual 90, 3) := by decide +kernel
theorem dX8_tell_78 : decode cX8_tell 78 = .ok (.invokevirtual 202, 3) := by decide +kernel
theorem dX8_tell_81 : decode cX8_tell 81 = .ok (.aload_n 0, 1) := by decide +kernel
theorem dX8_tell_82 : decode cX8_tell 82 = .ok (.bipush 37, 2) := by decide +kernel
theorem dX8_tell_84 : decode cX8_tell 84 = .ok (.invokevirtual 205, 3) := by decide +kernel
theorem dX8_tell_87 : decode cX8_tell 87 = .ok (.aload_n 0, 1) := by decide +kernel
theorem dX8_tell_88 : decode cX8_tell 88 = .ok (.aload_n 0, 1) := by decide +kernel
theorem dX8_tell_89 : decode cX8_tell 89 = .ok (.iload_n 1, 1) := by decide +kernel
theorem dX8_tell_90 : decode cX8_tell 90 = .ok (.iconst 3, 1) := by decide +kernel
theorem dX8_tell_91 : decode cX8_tell 91 = .ok (.invokevirtual 90, 3) := by decide +kernel
theorem dX8_tell_94 : decode cX8_tell 94 = .ok (.invokevirtual 202, 3) := by decide +kernel
theorem dX8_tell_97 : decode cX8_tell 97 = .ok (.aload_n 0, 1) := by decide +kernel
theorem dX8_tell_98 : decode cX8_tell 98 = .ok (.iload_n 1, 1) := by decide +kernel
theorem dX8_tell_99 : decode cX8_tell 99 = .ok (.iconst 4, 1) := by decide +kernel
theorem dX8_tell_100 : decode cX8_tell 100 = .ok (.invokevirtual 90, 3) := by decide +kernel
theorem dX8_tell_103 : decode cX8_tell 103 = .ok (.ifCond .lt 19, 3) := by decide +kernel
theorem dX8_tell_106 : decode cX8_tell 106 = .ok (.aload_n 0, 1) := by decide +kernel
theorem dX8_tell_107 : decode cX8_tell 107 = .ok (.bipush 64, 2) := by decide +kernel
theorem dX8_tell_109 : decode cX8_tell 109 = .ok (.invokevirtual 205, 3) := by decide +kernel
theorem dX8_tell_112 : decode cX8_tell 112 = .ok (.aload_n 0, 1) := by decide +kernel
theorem dX8_tell_113 : decode cX8_tell 113 = .ok (.aload_n 0, 1) := by decide +kernel
theorem dX8_tell_114 : decode cX8_tell 114 = .ok (.iload_n 1, 1) := by decide +kernel
theorem dX8_tell_115 : decode cX8_tell 115 = .ok (.iconst 4, 1) := by decide +kernel
theorem dX8_tell_116 : decode cX8_tell 116 = .ok (.invokevirtual 90, 3) := by decide +kernel
theorem dX8_tell_119 : decode cX8_tell 119 = .ok (.invokevirtual 202, 3) := by decide +kernel
theorem dX8_tell_122 : decode cX8_tell 122 = .ok (.aload_n 0, 1) := by decide +kernel
theorem dX8_tell_123 : decode cX8_tell 123 = .ok (.iload_n 1, 1) := by decide +kernel
theorem dX8_tell_124 : decode cX8_tell 124 = .ok (.iconst 5, 1) := by decide +kernel
theorem dX8_tell_125 : decode cX8_tell 125 = .ok (.invokevirtual 90, 3) := by decide +kernel
theorem dX8_tell_128 : decode cX8_tell 128 = .ok (.iconst 1, 1) := by decide +kernel
theorem dX8_tell_129 : decode cX8_tell 129 = .ok (.if_icmp .ne 9, 3) := by decide +kernel
theorem dX8_tell_132 : decode cX8_tell 132 = .ok (.aload_n 0, 1) := by decide +kernel
theorem dX8_tell_133 : decode cX8_tell 133 = .ok (.bipush 33, 2) := by decide +kernel
theorem dX8_tell_135 : decode cX8_tell 135 = .ok (.invokevirtual 205, 3) := by decide +kernel
theorem dX8_tell_138 : decode cX8_tell 138 = .ok (.aload_n 0, 1) := by decide +kernel
theorem dX8_tell_139 : decode cX8_tell 139 = .ok (.getfield 199, 3) := by decide +kernel
theorem dX8_tell_142 : decode cX8_tell 142 = .ok (.ireturn, 1) := by decide +kernel
theorem dX8_character_0 : decode cX8_character 0 = .ok (.aload_n 0, 1) := by decide +kernel
theorem dX8_character_1 : decode cX8_character 1 = .ok (.iload_n 1, 1) := by decide +kernel
theorem dX8_character_2 : decode cX8_character 2 = .ok (.iconst 0, 1) := by decide +kernel
theorem dX8_character_3 : decode cX8_character 3 = .ok (.aload_n 0, 1) := by decide +kernel
theorem dX8_character_4 : decode cX8_character 4 = .ok (.getfield 199, 3) := by decide +kernel
theorem dX8_character_7 : decode cX8_character 7 = .ok (.iconst 1, 1) := by decide +kernel
theorem dX8_character_8 : decode cX8_character 8 = .ok (.isub, 1) := by decide +kernel
theorem dX8_character_9 : decode cX8_character 9 = .ok (.invokestatic 60, 3) := by decide +kernel
theorem dX8_character_12 : decode cX8_character 12 = .ok (.ifCond .ne 7, 3) := by decide +kernel
theorem dX8_character_15 : decode cX8_character 15 = .ok (.iconst 1, 1) := by decide +kernel
theorem dX8_character_16 : decode cX8_character 16 = .ok (.goto 4, 3) := by decide +kernel
theorem dX8_character_19 : decode cX8_character 19 = .ok (.iconst 0, 1) := by decide +kernel
theorem dX8_character_20 : decode cX8_character 20 = .ok (.iconst 1, 1) := by decide +kernel
theorem dX8_character_21 : decode cX8_character 21 = .ok (.invokevirtual 80, 3) := by decide +kernel
theorem dX8_character_24 : decode cX8_character 24 = .ok (.ifCond .eq 7, 3) := by decide +kernel
theorem dX8_character_27 : decode cX8_character 27 = .ok (.iconst 0, 1) := by decide +kernel
theorem dX8_character_28 : decode cX8_character 28 = .ok (.goto 10, 3) := by decide +kernel
theorem dX8_character_31 : decode cX8_character 31 = .ok (.aload_n 0, 1) := by decide +kernel
theorem dX8_character_32 : decode cX8_character 32 = .ok (.getfield 32, 3) := by decide +kernel
theorem dX8_character_35 : decode cX8_character 35 = .ok (.iload_n 1, 1) := by decide +kernel
theorem dX8_character_36 : decode cX8_character 36 = .ok (.iaload, 1) := by decide +kernel
theorem dX8_character_37 : decode cX8_character 37 = .ok (.i2c, 1) := by decide +kernel
theorem dX8_character_38 : decode cX8_character 38 = .ok (.ireturn, 1) := by decide +kernel
theorem dX8_meanBreath_0 : decode cX8_meanBreath 0 = .ok (.iconst 0, 1) := by decide +kernel
theorem dX8_meanBreath_1 : decode cX8_meanBreath 1 = .ok (.istore_n 1, 1) := by decide +kernel
theorem dX8_meanBreath_2 : decode cX8_meanBreath 2 = .ok (.iconst 0, 1) := by decide +kernel
theorem dX8_meanBreath_3 : decode cX8_meanBreath 3 = .ok (.istore_n 2, 1) := by decide +kernel
theorem dX8_meanBreath_4 : decode cX8_meanBreath 4 = .ok (.iload_n 2, 1) := by decide +kernel
theorem dX8_meanBreath_5 : decode cX8_meanBreath 5 = .ok (.aload_n 0, 1) := by decide +kernel
theorem dX8_meanBreath_6 : decode cX8_meanBreath 6 = .ok (.getfield 9, 3) := by decide +kernel
theorem dX8_meanBreath_9 : decode cX8_meanBreath 9 = .ok (.iconst 0, 1) := by decide +kernel
theorem dX8_meanBreath_10 : decode cX8_meanBreath 10 = .ok (.iaload, 1) := by decide +kernel
theorem dX8_meanBreath_11 : decode cX8_meanBreath 11 = .ok (.if_icmp .ge 31, 3) := by decide +kernel
theorem dX8_meanBreath_14 : decode cX8_meanBreath 14 = .ok (.iload_n 1, 1) := by decide +kernel
theorem dX8_meanBreath_15 : decode cX8_meanBreath 15 = .ok (.aload_n 0, 1) := by decide +kernel
theorem dX8_meanBreath_16 : decode cX8_meanBreath 16 = .ok (.iload_n 2, 1) := by decide +kernel
theorem dX8_meanBreath_17 : decode cX8_meanBreath 17 = .ok (.iconst 4, 1) := by decide +kernel
theorem dX8_meanBreath_18 : decode cX8_meanBreath 18 = .ok (.invokevirtual 90, 3) := by decide +kernel
theorem dX8_meanBreath_21 : decode cX8_meanBreath 21 = .ok (.ifCond .lt 12, 3) := by decide +kernel
theorem dX8_meanBreath_24 : decode cX8_meanBreath 24 = .ok (.aload_n 0, 1) := by decide +kernel
theorem dX8_meanBreath_25 : decode cX8_meanBreath 25 = .ok (.iload_n 2, 1) := by decide +kernel
theorem dX8_meanBreath_26 : decode cX8_meanBreath 26 = .ok (.iconst 3, 1) := by decide +kernel
theorem dX8_meanBreath_27 : decode cX8_meanBreath 27 = .ok (.invokevirtual 90, 3) := by decide +kernel
theorem dX8_meanBreath_30 : decode cX8_meanBreath 30 = .ok (.goto 4, 3) := by decide +kernel
theorem dX8_meanBreath_33 : decode cX8_meanBreath 33 = .ok (.iconst 0, 1) := by decide +kernel
theorem dX8_meanBreath_34 : decode cX8_meanBreath 34 = .ok (.iadd, 1) := by decide +kernel
theorem dX8_meanBreath_35 : decode cX8_meanBreath 35 = .ok (.istore_n 1, 1) := by decide +kernel
theorem dX8_meanBreath_36 : decode cX8_meanBreath 36 = .ok (.iinc 2 1, 3) := by decide +kernel
theorem dX8_meanBreath_39 : decode cX8_meanBreath 39 = .ok (.goto (-35), 3) := by decide +kernel
theorem dX8_meanBreath_42 : decode cX8_meanBreath 42 = .ok (.aload_n 0, 1) := by decide +kernel
theorem dX8_meanBreath_43 : decode cX8_meanBreath 43 = .ok (.iconst 0, 1) := by decide +kernel
theorem dX8_meanBreath_44 : decode cX8_meanBreath 44 = .ok (.invokevirtual 196, 3) := by decide +kernel
theorem dX8_meanBreath_47 : decode cX8_meanBreath 47 = .ok (.aload_n 0, 1) := by decide +kernel
theorem dX8_meanBreath_48 : decode cX8_meanBreath 48 = .ok (.iconst 1, 1) := by decide +kernel
theorem dX8_meanBreath_49 : decode cX8_meanBreath 49 = .ok (.invokevirtual 196, 3) := by decide +kernel
theorem dX8_meanBreath_52 : decode cX8_meanBreath 52 = .ok (.iadd, 1) := by decide +kernel
theorem dX8_meanBreath_53 : decode cX8_meanBreath 53 = .ok (.istore_n 2, 1) := by decide +kernel
theorem dX8_meanBreath_54 : decode cX8_meanBreath 54 = .ok (.aload_n 0, 1) := by decide +kernel
theorem dX8_meanBreath_55 : decode cX8_meanBreath 55 = .ok (.iload_n 2, 1) := by decide +kernel
theorem dX8_meanBreath_56 : decode cX8_meanBreath 56 = .ok (.ifCond .ne 7, 3) := by decide +kernel
theorem dX8_meanBreath_59 : decode cX8_meanBreath 59 = .ok (.iconst 1, 1) := by decide +kernel
theorem dX8_meanBreath_60 : decode cX8_meanBreath 60 = .ok (.goto 4, 3) := by decide +kernel
theorem dX8_meanBreath_63 : decode cX8_meanBreath 63 = .ok (.iconst 0, 1) := by decide +kernel
theorem dX8_meanBreath_64 : decode cX8_meanBreath 64 = .ok (.iconst 1, 1) := by decide +kernel
theorem dX8_meanBreath_65 : decode cX8_meanBreath 65 = .ok (.invokevirtual 80, 3) := by decide +kernel
theorem dX8_meanBreath_68 : decode cX8_meanBreath 68 = .ok (.ifCond .eq 7, 3) := by decide +kernel
theorem dX8_meanBreath_71 : decode cX8_meanBreath 71 = .ok (.dconst 0, 1) := by decide +kernel
theorem dX8_meanBreath_72 : decode cX8_meanBreath 72 = .ok (.goto 8, 3) := by decide +kernel
theorem dX8_meanBreath_75 : decode cX8_meanBreath 75 = .ok (.iload_n 1, 1) := by decide +kernel
theorem dX8_meanBreath_76 : decode cX8_meanBreath 76 = .ok (.i2d, 1) := by decide +kernel
theorem dX8_meanBreath_77 : decode cX8_meanBreath 77 = .ok (.iload_n 2, 1) := by decide +kernel
theorem dX8_meanBreath_78 : decode cX8_meanBreath 78 = .ok (.i2d, 1) := by decide +kernel
theorem dX8_meanBreath_79 : decode cX8_meanBreath 79 = .ok (.ddiv, 1) := by decide +kernel
theorem dX8_meanBreath_80 : decode cX8_meanBreath 80 = .ok (.dreturn, 1) := by decide +kernel
theorem dX8_foulShare_0 : decode cX8_foulShare 0 = .ok (.aload_n 0, 1) := by decide +kernel
theorem dX8_foulShare_1 : decode cX8_foulShare 1 = .ok (.aload_n 0, 1) := by decide +kernel
theorem dX8_foulShare_2 : decode cX8_foulShare 2 = .ok (.getfield 9, 3) := by decide +kernel
theorem dX8_foulShare_5 : decode cX8_foulShare 5 = .ok (.bipush 6, 2) := by decide +kernel
theorem dX8_foulShare_7 : decode cX8_foulShare 7 = .ok (.iaload, 1) := by decide +kernel
theorem dX8_foulShare_8 : decode cX8_foulShare 8 = .ok (.ifCond .ne 7, 3) := by decide +kernel
theorem dX8_foulShare_11 : decode cX8_foulShare 11 = .ok (.iconst 1, 1) := by decide +kernel
theorem dX8_foulShare_12 : decode cX8_foulShare 12 = .ok (.goto 4, 3) := by decide +kernel
theorem dX8_foulShare_15 : decode cX8_foulShare 15 = .ok (.iconst 0, 1) := by decide +kernel
theorem dX8_foulShare_16 : decode cX8_foulShare 16 = .ok (.iconst 1, 1) := by decide +kernel
theorem dX8_foulShare_17 : decode cX8_foulShare 17 = .ok (.invokevirtual 80, 3) := by decide +kernel
theorem dX8_foulShare_20 : decode cX8_foulShare 20 = .ok (.ifCond .eq 7, 3) := by decide +kernel
theorem dX8_foulShare_23 : decode cX8_foulShare 23 = .ok (.fconst 0, 1) := by decide +kernel
theorem dX8_foulShare_24 : decode cX8_foulShare 24 = .ok (.goto 20, 3) := by decide +kernel
theorem dX8_foulShare_27 : decode cX8_foulShare 27 = .ok (.aload_n 0, 1) := by decide +kernel
theorem dX8_foulShare_28 : decode cX8_foulShare 28 = .ok (.getfield 9, 3) := by decide +kernel
theorem dX8_foulShare_31 : decode cX8_foulShare 31 = .ok (.bipush 7, 2) := by decide +kernel
theorem dX8_foulShare_33 : decode cX8_foulShare 33 = .ok (.iaload, 1) := by decide +kernel
theorem dX8_foulShare_34 : decode cX8_foulShare 34 = .ok (.i2f, 1) := by decide +kernel
theorem dX8_foulShare_35 : decode cX8_foulShare 35 = .ok (.aload_n 0, 1) := by decide +kernel
theorem dX8_foulShare_36 : decode cX8_foulShare 36 = .ok (.getfield 9, 3) := by decide +kernel
theorem dX8_foulShare_39 : decode cX8_foulShare 39 = .ok (.bipush 6, 2) := by decide +kernel
theorem dX8_foulShare_41 : decode cX8_foulShare 41 = .ok (.iaload, 1) := by decide +kernel
theorem dX8_foulShare_42 : decode cX8_foulShare 42 = .ok (.i2f, 1) := by decide +kernel
theorem dX8_foulShare_43 : decode cX8_foulShare 43 = .ok (.fdiv, 1) := by decide +kernel
theorem dX8_foulShare_44 : decode cX8_foulShare 44 = .ok (.freturn, 1) := by decide +kernel
theorem dX8_account_0 : decode cX8_account 0 = .ok (.aload_n 0, 1) := by decide +kernel
theorem dX8_account_1 : decode cX8_account 1 = .ok (.iload_n 1, 1) := by decide +kernel
theorem dX8_account_2 : decode cX8_account 2 = .ok (.iconst 0, 1) := by decide +kernel
theorem dX8_account_3 : decode cX8_account 3 = .ok (.bipush 13, 2) := by decide +kernel
theorem dX8_account_5 : decode cX8_account 5 = .ok (.invokestatic 60, 3) := by decide +kernel
theorem dX8_account_8 : decode cX8_account 8 = .ok (.ifCond .ne 7, 3) := by decide +kernel
theorem dX8_account_11 : decode cX8_account 11 = .ok (.iconst 1, 1) := by decide +kernel
theorem dX8_account_12 : decode cX8_account 12 = .ok (.goto 4, 3) := by decide +kernel
theorem dX8_account_15 : decode cX8_account 15 = .ok (.iconst 0, 1) := by decide +kernel
theorem dX8_account_16 : decode cX8_account 16 = .ok (.iconst 1, 1) := by decide +kernel
theorem dX8_account_17 : decode cX8_account 17 = .ok (.invokevirtual 80, 3) := by decide +kernel
theorem dX8_account_20 : decode cX8_account 20 = .ok (.ifCond .eq 5, 3) := by decide +kernel
theorem dX8_account_23 : decode cX8_account 23 = .ok (.iconst 0, 1) := by decide +kernel
theorem dX8_account_24 : decode cX8_account 24 = .ok (.ireturn, 1) := by decide +kernel
theorem dX8_account_25 : decode cX8_account 25 = .ok (.iload_n 1, 1) := by decide +kernel
theorem dX8_account_26 : decode cX8_account 26 = .ok (.tableswitch 159 0 12 #[66, 66, 73, 83, 83, 94, 94, 105, 105, 118, 134, 146, 154], 66) := by decide +kernel
theorem dX8_account_92 : decode cX8_account 92 = .ok (.aload_n 0, 1) := by decide +kernel
theorem dX8_account_93 : decode cX8_account 93 = .ok (.getfield 9, 3) := by decide +kernel
theorem dX8_account_96 : decode cX8_account 96 = .ok (.iload_n 1, 1) := by decide +kernel
theorem dX8_account_97 : decode cX8_account 97 = .ok (.iaload, 1) := by decide +kernel
theorem dX8_account_98 : decode cX8_account 98 = .ok (.ireturn, 1) := by decide +kernel
theorem dX8_account_99 : decode cX8_account 99 = .ok (.aload_n 0, 1) := by decide +kernel
theorem dX8_account_100 : decode cX8_account 100 = .ok (.getfield 9, 3) := by decide +kernel
theorem dX8_account_103 : decode cX8_account 103 = .ok (.iconst 1, 1) := by decide +kernel
theorem dX8_account_104 : decode cX8_account 104 = .ok (.iaload, 1) := by decide +kernel
theorem dX8_account_105 : decode cX8_account 105 = .ok (.bipush 12, 2) := by decide +kernel
theorem dX8_account_107 : decode cX8_account 107 = .ok (.idiv, 1) := by decide +kernel
theorem dX8_account_108 : decode cX8_account 108 = .ok (.ireturn, 1) := by decide +kernel
theorem dX8_account_109 : decode cX8_account 109 = .ok (.aload_n 0, 1) := by decide +kernel
theorem dX8_account_110 : decode cX8_account 110 = .ok (.getfield 9, 3) := by decide +kernel
theorem dX8_account_113 : decode cX8_account 113 = .ok (.iconst 4, 1) := by decide +kernel
theorem dX8_account_114 : decode cX8_account 114 = .ok (.iload_n 1, 1) := by decide +kernel
theorem dX8_account_115 : decode cX8_account 115 = .ok (.iadd, 1) := by decide +kernel
theorem dX8_account_116 : decode cX8_account 116 = .ok (.iconst 3, 1) := by decide +kernel
theorem dX8_account_117 : decode cX8_account 117 = .ok (.isub, 1) := by decide +kernel
theorem dX8_account_118 : decode cX8_account 118 = .ok (.iaload, 1) := by decide +kernel
theorem dX8_account_119 : decode cX8_account 119 = .ok (.ireturn, 1) := by decide +kernel
theorem dX8_account_120 : decode cX8_account 120 = .ok (.aload_n 0, 1) := by decide +kernel
theorem dX8_account_121 : decode cX8_account 121 = .ok (.getfield 9, 3) := by decide +kernel
theorem dX8_account_124 : decode cX8_account 124 = .ok (.iconst 2, 1) := by decide +kernel
theorem dX8_account_125 : decode cX8_account 125 = .ok (.iload_n 1, 1) := by decide +kernel
theorem dX8_account_126 : decode cX8_account 126 = .ok (.iadd, 1) := by decide +kernel
theorem dX8_account_127 : decode cX8_account 127 = .ok (.iconst 5, 1) := by decide +kernel
theorem dX8_account_128 : decode cX8_account 128 = .ok (.isub, 1) := by decide +kernel
theorem dX8_account_129 : decode cX8_account 129 = .ok (.iaload, 1) := by decide +kernel
theorem dX8_account_130 : decode cX8_account 130 = .ok (.ireturn, 1) := by decide +kernel
theorem dX8_account_131 : decode cX8_account 131 = .ok (.aload_n 0, 1) := by decide +kernel
theorem dX8_account_132 : decode cX8_account 132 = .ok (.getfield 9, 3) := by decide +kernel
theorem dX8_account_135 : decode cX8_account 135 = .ok (.bipush 6, 2) := by decide +kernel
theorem dX8_account_137 : decode cX8_account 137 = .ok (.iload_n 1, 1) := by decide +kernel
theorem dX8_account_138 : decode cX8_account 138 = .ok (.iadd, 1) := by decide +kernel
theorem dX8_account_139 : decode cX8_account 139 = .ok (.bipush 7, 2) := by decide +kernel
theorem dX8_account_141 : decode cX8_account 141 = .ok (.isub, 1) := by decide +kernel
theorem dX8_account_142 : decode cX8_account 142 = .ok (.iaload, 1) := by decide +kernel
theorem dX8_account_143 : decode cX8_account 143 = .ok (.ireturn, 1) := by decide +kernel
theorem dX8_account_144 : decode cX8_account 144 = .ok (.aload_n 0, 1) := by decide +kernel
theorem dX8_account_145 : decode cX8_account 145 = .ok (.getfield 9, 3) := by decide +kernel
theorem dX8_account_148 : decode cX8_account 148 = .ok (.bipush 9, 2) := by decide +kernel
theorem dX8_account_150 : decode cX8_account 150 = .ok (.iaload, 1) := by decide +kernel
theorem dX8_account_151 : decode cX8_account 151 = .ok (.aload_n 0, 1) := by decide +kernel
theorem dX8_account_152 : decode cX8_account 152 = .ok (.getfield 9, 3) := by decide +kernel
theorem dX8_account_155 : decode cX8_account 155 = .ok (.bipush 10, 2) := by decide +kernel
theorem dX8_account_157 : decode cX8_account 157 = .ok (.iaload, 1) := by decide +kernel
theorem dX8_account_158 : decode cX8_account 158 = .ok (.iadd, 1) := by decide +kernel
theorem dX8_account_159 : decode cX8_account 159 = .ok (.ireturn, 1) := by decide +kernel
theorem dX8_account_160 : decode cX8_account 160 = .ok (.aload_n 0, 1) := by decide +kernel
theorem dX8_account_161 : decode cX8_account 161 = .ok (.iconst 0, 1) := by decide +kernel
theorem dX8_account_162 : decode cX8_account 162 = .ok (.invokevirtual 196, 3) := by decide +kernel
theorem dX8_account_165 : decode cX8_account 165 = .ok (.aload_n 0, 1) := by decide +kernel
theorem dX8_account_166 : decode cX8_account 166 = .ok (.iconst 1, 1) := by decide +kernel
theorem dX8_account_167 : decode cX8_account 167 = .ok (.invokevirtual 196, 3) := by decide +kernel
theorem dX8_account_170 : decode cX8_account 170 = .ok (.iadd, 1) := by decide +kernel
theorem dX8_account_171 : decode cX8_account 171 = .ok (.ireturn, 1) := by decide +kernel
theorem dX8_account_172 : decode cX8_account 172 = .ok (.aload_n 0, 1) := by decide +kernel
theorem dX8_account_173 : decode cX8_account 173 = .ok (.getfield 9, 3) := by decide +kernel
theorem dX8_account_176 : decode cX8_account 176 = .ok (.bipush 8, 2) := by decide +kernel
theorem dX8_account_178 : decode cX8_account 178 = .ok (.iaload, 1) := by decide +kernel
theorem dX8_account_179 : decode cX8_account 179 = .ok (.ireturn, 1) := by decide +kernel
theorem dX8_account_180 : decode cX8_account 180 = .ok (.aload_n 0, 1) := by decide +kernel
theorem dX8_account_181 : decode cX8_account 181 = .ok (.getfield 208, 3) := by decide +kernel
theorem dX8_account_184 : decode cX8_account 184 = .ok (.ireturn, 1) := by decide +kernel
theorem dX8_account_185 : decode cX8_account 185 = .ok (.aload_n 0, 1) := by decide +kernel
theorem dX8_account_186 : decode cX8_account 186 = .ok (.getfield 48, 3) := by decide +kernel
theorem dX8_account_189 : decode cX8_account 189 = .ok (.ireturn, 1) := by decide +kernel
theorem dX8_append_0 : decode cX8_append 0 = .ok (.aload_n 0, 1) := by decide +kernel
theorem dX8_append_1 : decode cX8_append 1 = .ok (.iload_n 1, 1) := by decide +kernel
theorem dX8_append_2 : decode cX8_append 2 = .ok (.bipush 32, 2) := by decide +kernel
theorem dX8_append_4 : decode cX8_append 4 = .ok (.bipush 126, 2) := by decide +kernel
theorem dX8_append_6 : decode cX8_append 6 = .ok (.invokestatic 60, 3) := by decide +kernel
theorem dX8_append_9 : decode cX8_append 9 = .ok (.ifCond .ne 7, 3) := by decide +kernel
theorem dX8_append_12 : decode cX8_append 12 = .ok (.iconst 1, 1) := by decide +kernel
theorem dX8_append_13 : decode cX8_append 13 = .ok (.goto 4, 3) := by decide +kernel
theorem dX8_append_16 : decode cX8_append 16 = .ok (.iconst 0, 1) := by decide +kernel
theorem dX8_append_17 : decode cX8_append 17 = .ok (.iconst 1, 1) := by decide +kernel
theorem dX8_append_18 : decode cX8_append 18 = .ok (.invokevirtual 80, 3) := by decide +kernel
theorem dX8_append_21 : decode cX8_append 21 = .ok (.ifCond .ne 25, 3) := by decide +kernel
theorem dX8_append_24 : decode cX8_append 24 = .ok (.aload_n 0, 1) := by decide +kernel
theorem dX8_append_25 : decode cX8_append 25 = .ok (.aload_n 0, 1) := by decide +kernel
theorem dX8_append_26 : decode cX8_append 26 = .ok (.getfield 208, 3) := by decide +kernel
theorem dX8_append_29 : decode cX8_append 29 = .ok (.bipush 60, 2) := by decide +kernel
theorem dX8_append_31 : decode cX8_append 31 = .ok (.if_icmp .ne 7, 3) := by decide +kernel
theorem dX8_append_34 : decode cX8_append 34 = .ok (.iconst 1, 1) := by decide +kernel
theorem dX8_append_35 : decode cX8_append 35 = .ok (.goto 4, 3) := by decide +kernel
theorem dX8_append_38 : decode cX8_append 38 = .ok (.iconst 0, 1) := by decide +kernel
theorem dX8_append_39 : decode cX8_append 39 = .ok (.iconst 2, 1) := by decide +kernel
theorem dX8_append_40 : decode cX8_append 40 = .ok (.invokevirtual 80, 3) := by decide +kernel
theorem dX8_append_43 : decode cX8_append 43 = .ok (.ifCond .eq 5, 3) := by decide +kernel
theorem dX8_append_46 : decode cX8_append 46 = .ok (.iconst 0, 1) := by decide +kernel
theorem dX8_append_47 : decode cX8_append 47 = .ok (.ireturn, 1) := by decide +kernel
theorem dX8_append_48 : decode cX8_append 48 = .ok (.aload_n 0, 1) := by decide +kernel
theorem dX8_append_49 : decode cX8_append 49 = .ok (.getfield 35, 3) := by decide +kernel
theorem dX8_append_52 : decode cX8_append 52 = .ok (.aload_n 0, 1) := by decide +kernel
theorem dX8_append_53 : decode cX8_append 53 = .ok (.getfield 208, 3) := by decide +kernel
theorem dX8_append_56 : decode cX8_append 56 = .ok (.iload_n 1, 1) := by decide +kernel
theorem dX8_append_57 : decode cX8_append 57 = .ok (.iastore, 1) := by decide +kernel
theorem dX8_append_58 : decode cX8_append 58 = .ok (.aload_n 0, 1) := by decide +kernel
theorem dX8_append_59 : decode cX8_append 59 = .ok (.dup, 1) := by decide +kernel
theorem dX8_append_60 : decode cX8_append 60 = .ok (.getfield 208, 3) := by decide +kernel
theorem dX8_append_63 : decode cX8_append 63 = .ok (.iconst 1, 1) := by decide +kernel
theorem dX8_append_64 : decode cX8_append 64 = .ok (.iadd, 1) := by decide +kernel
theorem dX8_append_65 : decode cX8_append 65 = .ok (.putfield 208, 3) := by decide +kernel
theorem dX8_append_68 : decode cX8_append 68 = .ok (.aload_n 0, 1) := by decide +kernel
theorem dX8_append_69 : decode cX8_append 69 = .ok (.getfield 208, 3) := by decide +kernel
theorem dX8_append_72 : decode cX8_append 72 = .ok (.ireturn, 1) := by decide +kernel
theorem dX8_sign_0 : decode cX8_sign 0 = .ok (.aload_n 0, 1) := by decide +kernel
theorem dX8_sign_1 : decode cX8_sign 1 = .ok (.getfield 211, 3) := by decide +kernel
theorem dX8_sign_4 : decode cX8_sign 4 = .ok (.aload_n 0, 1) := by decide +kernel
theorem dX8_sign_5 : decode cX8_sign 5 = .ok (.getfield 208, 3) := by decide +kernel
theorem dX8_sign_8 : decode cX8_sign 8 = .ok (.if_icmp .ge 15, 3) := by decide +kernel
theorem dX8_sign_11 : decode cX8_sign 11 = .ok (.aload_n 0, 1) := by decide +kernel
theorem dX8_sign_12 : decode cX8_sign 12 = .ok (.getfield 35, 3) := by decide +kernel
theorem dX8_sign_15 : decode cX8_sign 15 = .ok (.aload_n 0, 1) := by decide +kernel
theorem dX8_sign_16 : decode cX8_sign 16 = .ok (.getfield 211, 3) := by decide +kernel
theorem dX8_sign_19 : decode cX8_sign 19 = .ok (.iaload, 1) := by decide +kernel
theorem dX8_sign_20 : decode cX8_sign 20 = .ok (.goto 4, 3) := by decide +kernel
theorem dX8_sign_23 : decode cX8_sign 23 = .ok (.iconst (-1), 1) := by decide +kernel
theorem dX8_sign_24 : decode cX8_sign 24 = .ok (.ireturn, 1) := by decide +kernel
theorem dX8_isSign_0 : decode cX8_isSign 0 = .ok (.aload_n 0, 1) := by decide +kernel
theorem dX8_isSign_1 : decode cX8_isSign 1 = .ok (.invokevirtual 214, 3) := by decide +kernel
theorem dX8_isSign_4 : decode cX8_isSign 4 = .ok (.iload_n 1, 1) := by decide +kernel
theorem dX8_isSign_5 : decode cX8_isSign 5 = .ok (.if_icmp .ne 7, 3) := by decide +kernel
theorem dX8_isSign_8 : decode cX8_isSign 8 = .ok (.iconst 1, 1) := by decide +kernel
theorem dX8_isSign_9 : decode cX8_isSign 9 = .ok (.goto 4, 3) := by decide +kernel
theorem dX8_isSign_12 : decode cX8_isSign 12 = .ok (.iconst 0, 1) := by decide +kernel
theorem dX8_isSign_13 : decode cX8_isSign 13 = .ok (.istore_n 2, 1) := by decide +kernel
theorem dX8_isSign_14 : decode cX8_isSign 14 = .ok (.aload_n 0, 1) := by decide +kernel
theorem dX8_isSign_15 : decode cX8_isSign 15 = .ok (.dup, 1) := by decide +kernel
theorem dX8_isSign_16 : decode cX8_isSign 16 = .ok (.getfield 211, 3) := by decide +kernel
theorem dX8_isSign_19 : decode cX8_isSign 19 = .ok (.iload_n 2, 1) := by decide +kernel
theorem dX8_isSign_20 : decode cX8_isSign 20 = .ok (.ifCond .eq 7, 3) := by decide +kernel
theorem dX8_isSign_23 : decode cX8_isSign 23 = .ok (.iconst 1, 1) := by decide +kernel
theorem dX8_isSign_24 : decode cX8_isSign 24 = .ok (.goto 4, 3) := by decide +kernel
theorem dX8_isSign_27 : decode cX8_isSign 27 = .ok (.iconst 0, 1) := by decide +kernel
theorem dX8_isSign_28 : decode cX8_isSign 28 = .ok (.iadd, 1) := by decide +kernel
theorem dX8_isSign_29 : decode cX8_isSign 29 = .ok (.putfield 211, 3) := by decide +kernel
theorem dX8_isSign_32 : decode cX8_isSign 32 = .ok (.iload_n 2, 1) := by decide +kernel
theorem dX8_isSign_33 : decode cX8_isSign 33 = .ok (.ireturn, 1) := by decide +kernel
theorem dX8_isNumber_0 : decode cX8_isNumber 0 = .ok (.iconst 0, 1) := by decide +kernel
theorem dX8_isNumber_1 : decode cX8_isNumber 1 = .ok (.istore_n 3, 1) := by decide +kernel
theorem dX8_isNumber_2 : decode cX8_isNumber 2 = .ok (.iconst 0, 1) := by decide +kernel
theorem dX8_isNumber_3 : decode cX8_isNumber 3 = .ok (.istore 4, 2) := by decide +kernel
theorem dX8_isNumber_5 : decode cX8_isNumber 5 = .ok (.iload 4, 2) := by decide +kernel
theorem dX8_isNumber_7 : decode cX8_isNumber 7 = .ok (.iload_n 1, 1) := by decide +kernel
theorem dX8_isNumber_8 : decode cX8_isNumber 8 = .ok (.if_icmp .ge 46, 3) := by decide +kernel
theorem dX8_isNumber_11 : decode cX8_isNumber 11 = .ok (.aload_n 0, 1) := by decide +kernel
theorem dX8_isNumber_12 : decode cX8_isNumber 12 = .ok (.invokevirtual 214, 3) := by decide +kernel
theorem dX8_isNumber_15 : decode cX8_isNumber 15 = .ok (.bipush 48, 2) := by decide +kernel
theorem dX8_isNumber_17 : decode cX8_isNumber 17 = .ok (.bipush 57, 2) := by decide +kernel
theorem dX8_isNumber_19 : decode cX8_isNumber 19 = .ok (.invokestatic 60, 3) := by decide +kernel
theorem dX8_isNumber_22 : decode cX8_isNumber 22 = .ok (.ifCond .eq 32, 3) := by decide +kernel
theorem dX8_isNumber_25 : decode cX8_isNumber 25 = .ok (.bipush 10, 2) := by decide +kernel
theorem dX8_isNumber_27 : decode cX8_isNumber 27 = .ok (.iload_n 3, 1) := by decide +kernel
theorem dX8_isNumber_28 : decode cX8_isNumber 28 = .ok (.imul, 1) := by decide +kernel
theorem dX8_isNumber_29 : decode cX8_isNumber 29 = .ok (.aload_n 0, 1) := by decide +kernel
theorem dX8_isNumber_30 : decode cX8_isNumber 30 = .ok (.invokevirtual 214, 3) := by decide +kernel
theorem dX8_isNumber_33 : decode cX8_isNumber 33 = .ok (.iadd, 1) := by decide +kernel
theorem dX8_isNumber_34 : decode cX8_isNumber 34 = .ok (.bipush 48, 2) := by decide +kernel
theorem dX8_isNumber_36 : decode cX8_isNumber 36 = .ok (.isub, 1) := by decide +kernel
theorem dX8_isNumber_37 : decode cX8_isNumber 37 = .ok (.istore_n 3, 1) := by decide +kernel
theorem dX8_isNumber_38 : decode cX8_isNumber 38 = .ok (.aload_n 0, 1) := by decide +kernel
theorem dX8_isNumber_39 : decode cX8_isNumber 39 = .ok (.dup, 1) := by decide +kernel
theorem dX8_isNumber_40 : decode cX8_isNumber 40 = .ok (.getfield 211, 3) := by decide +kernel
theorem dX8_isNumber_43 : decode cX8_isNumber 43 = .ok (.iconst 1, 1) := by decide +kernel
theorem dX8_isNumber_44 : decode cX8_isNumber 44 = .ok (.iadd, 1) := by decide +kernel
theorem dX8_isNumber_45 : decode cX8_isNumber 45 = .ok (.putfield 211, 3) := by decide +kernel
theorem dX8_isNumber_48 : decode cX8_isNumber 48 = .ok (.iinc 4 1, 3) := by decide +kernel
theorem dX8_isNumber_51 : decode cX8_isNumber 51 = .ok (.goto (-46), 3) := by decide +kernel
theorem dX8_isNumber_54 : decode cX8_isNumber 54 = .ok (.aload_n 0, 1) := by decide +kernel
theorem dX8_isNumber_55 : decode cX8_isNumber 55 = .ok (.getfield 38, 3) := by decide +kernel
theorem dX8_isNumber_58 : decode cX8_isNumber 58 = .ok (.iload_n 2, 1) := by decide +kernel
theorem dX8_isNumber_59 : decode cX8_isNumber 59 = .ok (.iload_n 3, 1) := by decide +kernel
theorem dX8_isNumber_60 : decode cX8_isNumber 60 = .ok (.iastore, 1) := by decide +kernel
theorem dX8_isNumber_61 : decode cX8_isNumber 61 = .ok (.iload 4, 2) := by decide +kernel
theorem dX8_isNumber_63 : decode cX8_isNumber 63 = .ok (.ifCond .le 7, 3) := by decide +kernel
theorem dX8_isNumber_66 : decode cX8_isNumber 66 = .ok (.iconst 1, 1) := by decide +kernel
theorem dX8_isNumber_67 : decode cX8_isNumber 67 = .ok (.goto 4, 3) := by decide +kernel
theorem dX8_isNumber_70 : decode cX8_isNumber 70 = .ok (.iconst 0, 1) := by decide +kernel
theorem dX8_isNumber_71 : decode cX8_isNumber 71 = .ok (.ireturn, 1) := by decide +kernel
theorem dX8_isWay_0 : decode cX8_isWay 0 = .ok (.iconst 0, 1) := by decide +kernel
theorem dX8_isWay_1 : decode cX8_isWay 1 = .ok (.istore_n 2, 1) := by decide +kernel
theorem dX8_isWay_2 : decode cX8_isWay 2 = .ok (.iload_n 2, 1) := by decide +kernel
theorem dX8_isWay_3 : decode cX8_isWay 3 = .ok (.iconst 4, 1) := by decide +kernel
theorem dX8_isWay_4 : decode cX8_isWay 4 = .ok (.if_icmp .ge 31, 3) := by decide +kernel
theorem dX8_isWay_7 : decode cX8_isWay 7 = .ok (.aload_n 0, 1) := by decide +kernel
theorem dX8_isWay_8 : decode cX8_isWay 8 = .ok (.ldc 217, 2) := by decide +kernel
theorem dX8_isWay_10 : decode cX8_isWay 10 = .ok (.iload_n 2, 1) := by decide +kernel
theorem dX8_isWay_11 : decode cX8_isWay 11 = .ok (.invokevirtual 219, 3) := by decide +kernel
theorem dX8_isWay_14 : decode cX8_isWay 14 = .ok (.invokevirtual 225, 3) := by decide +kernel
theorem dX8_isWay_17 : decode cX8_isWay 17 = .ok (.ifCond .eq 12, 3) := by decide +kernel
theorem dX8_isWay_20 : decode cX8_isWay 20 = .ok (.aload_n 0, 1) := by decide +kernel
theorem dX8_isWay_21 : decode cX8_isWay 21 = .ok (.getfield 38, 3) := by decide +kernel
theorem dX8_isWay_24 : decode cX8_isWay 24 = .ok (.iload_n 1, 1) := by decide +kernel
theorem dX8_isWay_25 : decode cX8_isWay 25 = .ok (.iload_n 2, 1) := by decide +kernel
theorem dX8_isWay_26 : decode cX8_isWay 26 = .ok (.iastore, 1) := by decide +kernel
theorem dX8_isWay_27 : decode cX8_isWay 27 = .ok (.iconst 1, 1) := by decide +kernel
theorem dX8_isWay_28 : decode cX8_isWay 28 = .ok (.ireturn, 1) := by decide +kernel
theorem dX8_isWay_29 : decode cX8_isWay 29 = .ok (.iinc 2 1, 3) := by decide +kernel
theorem dX8_isWay_32 : decode cX8_isWay 32 = .ok (.goto (-30), 3) := by decide +kernel
theorem dX8_isWay_35 : decode cX8_isWay 35 = .ok (.iconst 0, 1) := by decide +kernel
theorem dX8_isWay_36 : decode cX8_isWay 36 = .ok (.ireturn, 1) := by decide +kernel
theorem dX8_isKind_0 : decode cX8_isKind 0 = .ok (.iload_n 0, 1) := by decide +kernel
theorem dX8_isKind_1 : decode cX8_isKind 1 = .ok (.bipush 119, 2) := by decide +kernel
theorem dX8_isKind_3 : decode cX8_isKind 3 = .ok (.if_icmp .eq 33, 3) := by decide +kernel
theorem dX8_isKind_6 : decode cX8_isKind 6 = .ok (.iload_n 0, 1) := by decide +kernel
theorem dX8_isKind_7 : decode cX8_isKind 7 = .ok (.bipush 109, 2) := by decide +kernel
theorem dX8_isKind_9 : decode cX8_isKind 9 = .ok (.if_icmp .eq 27, 3) := by decide +kernel
theorem dX8_isKind_12 : decode cX8_isKind 12 = .ok (.iload_n 0, 1) := by decide +kernel
theorem dX8_isKind_13 : decode cX8_isKind 13 = .ok (.bipush 107, 2) := by decide +kernel
theorem dX8_isKind_15 : decode cX8_isKind 15 = .ok (.if_icmp .eq 21, 3) := by decide +kernel
theorem dX8_isKind_18 : decode cX8_isKind 18 = .ok (.iload_n 0, 1) := by decide +kernel
theorem dX8_isKind_19 : decode cX8_isKind 19 = .ok (.bipush 111, 2) := by decide +kernel
theorem dX8_isKind_21 : decode cX8_isKind 21 = .ok (.if_icmp .eq 15, 3) := by decide +kernel
theorem dX8_isKind_24 : decode cX8_isKind 24 = .ok (.iload_n 0, 1) := by decide +kernel
theorem dX8_isKind_25 : decode cX8_isKind 25 = .ok (.bipush 98, 2) := by decide +kernel
theorem dX8_isKind_27 : decode cX8_isKind 27 = .ok (.if_icmp .eq 9, 3) := by decide +kernel
theorem dX8_isKind_30 : decode cX8_isKind 30 = .ok (.iload_n 0, 1) := by decide +kernel
theorem dX8_isKind_31 : decode cX8_isKind 31 = .ok (.bipush 100, 2) := by decide +kernel
theorem dX8_isKind_33 : decode cX8_isKind 33 = .ok (.if_icmp .ne 7, 3) := by decide +kernel
theorem dX8_isKind_36 : decode cX8_isKind 36 = .ok (.iconst 1, 1) := by decide +kernel
theorem dX8_isKind_37 : decode cX8_isKind 37 = .ok (.goto 4, 3) := by decide +kernel
theorem dX8_isKind_40 : decode cX8_isKind 40 = .ok (.iconst 0, 1) := by decide +kernel
theorem dX8_isKind_41 : decode cX8_isKind 41 = .ok (.ireturn, 1) := by decide +kernel
theorem dX8_readsCommand_0 : decode cX8_readsCommand 0 = .ok (.iconst 4, 1) := by decide +kernel
theorem dX8_readsCommand_1 : decode cX8_readsCommand 1 = .ok (.aload_n 0, 1) := by decide +kernel
theorem dX8_readsCommand_2 : decode cX8_readsCommand 2 = .ok (.getfield 228, 3) := by decide +kernel
theorem dX8_readsCommand_5 : decode cX8_readsCommand 5 = .ok (.imul, 1) := by decide +kernel
theorem dX8_readsCommand_6 : decode cX8_readsCommand 6 = .ok (.istore_n 1, 1) := by decide +kernel
theorem dX8_readsCommand_7 : decode cX8_readsCommand 7 = .ok (.aload_n 0, 1) := by decide +kernel
theorem dX8_readsCommand_8 : decode cX8_readsCommand 8 = .ok (.invokevirtual 214, 3) := by decide +kernel
theorem dX8_readsCommand_11 : decode cX8_readsCommand 11 = .ok (.istore_n 2, 1) := by decide +kernel
theorem dX8_readsCommand_12 : decode cX8_readsCommand 12 = .ok (.iload_n 2, 1) := by decide +kernel
theorem dX8_readsCommand_13 : decode cX8_readsCommand 13 = .ok (.invokestatic 231, 3) := by decide +kernel
theorem dX8_readsCommand_16 : decode cX8_readsCommand 16 = .ok (.ifCond .ne 5, 3) := by decide +kernel
theorem dX8_readsCommand_19 : decode cX8_readsCommand 19 = .ok (.iconst 0, 1) := by decide +kernel
theorem dX8_readsCommand_20 : decode cX8_readsCommand 20 = .ok (.ireturn, 1) := by decide +kernel
theorem dX8_readsCommand_21 : decode cX8_readsCommand 21 = .ok (.aload_n 0, 1) := by decide +kernel
theorem dX8_readsCommand_22 : decode cX8_readsCommand 22 = .ok (.getfield 38, 3) := by decide +kernel
theorem dX8_readsCommand_25 : decode cX8_readsCommand 25 = .ok (.iload_n 1, 1) := by decide +kernel
theorem dX8_readsCommand_26 : decode cX8_readsCommand 26 = .ok (.iload_n 2, 1) := by decide +kernel
theorem dX8_readsCommand_27 : decode cX8_readsCommand 27 = .ok (.iastore, 1) := by decide +kernel
theorem dX8_readsCommand_28 : decode cX8_readsCommand 28 = .ok (.aload_n 0, 1) := by decide +kernel
theorem dX8_readsCommand_29 : decode cX8_readsCommand 29 = .ok (.dup, 1) := by decide +kernel
theorem dX8_readsCommand_30 : decode cX8_readsCommand 30 = .ok (.getfield 211, 3) := by decide +kernel
theorem dX8_readsCommand_33 : decode cX8_readsCommand 33 = .ok (.iconst 1, 1) := by decide +kernel
theorem dX8_readsCommand_34 : decode cX8_readsCommand 34 = .ok (.iadd, 1) := by decide +kernel
theorem dX8_readsCommand_35 : decode cX8_readsCommand 35 = .ok (.putfield 211, 3) := by decide +kernel
theorem dX8_readsCommand_38 : decode cX8_readsCommand 38 = .ok (.aload_n 0, 1) := by decide +kernel
theorem dX8_readsCommand_39 : decode cX8_readsCommand 39 = .ok (.dup, 1) := by decide +kernel
theorem dX8_readsCommand_40 : decode cX8_readsCommand 40 = .ok (.getfield 228, 3) := by decide +kernel
theorem dX8_readsCommand_43 : decode cX8_readsCommand 43 = .ok (.iconst 1, 1) := by decide +kernel
theorem dX8_readsCommand_44 : decode cX8_readsCommand 44 = .ok (.iadd, 1) := by decide +kernel
theorem dX8_readsCommand_45 : decode cX8_readsCommand 45 = .ok (.putfield 228, 3) := by decide +kernel
theorem dX8_readsCommand_48 : decode cX8_readsCommand 48 = .ok (.iload_n 2, 1) := by decide +kernel
theorem dX8_readsCommand_49 : decode cX8_readsCommand 49 = .ok (.lookupswitch 202 #[(98, 174), (107, 127), (109, 90), (111, 165), (119, 51)], 51) := by decide +kernel
theorem dX8_readsCommand_100 : decode cX8_readsCommand 100 = .ok (.aload_n 0, 1) := by decide +kernel
theorem dX8_readsCommand_101 : decode cX8_readsCommand 101 = .ok (.iconst 1, 1) := by decide +kernel
theorem dX8_readsCommand_102 : decode cX8_readsCommand 102 = .ok (.iload_n 1, 1) := by decide +kernel
theorem dX8_readsCommand_103 : decode cX8_readsCommand 103 = .ok (.iconst 1, 1) := by decide +kernel
theorem dX8_readsCommand_104 : decode cX8_readsCommand 104 = .ok (.iadd, 1) := by decide +kernel
theorem dX8_readsCommand_105 : decode cX8_readsCommand 105 = .ok (.invokevirtual 234, 3) := by decide +kernel
theorem dX8_readsCommand_108 : decode cX8_readsCommand 108 = .ok (.ifCond .eq 29, 3) := by decide +kernel
theorem dX8_readsCommand_111 : decode cX8_readsCommand 111 = .ok (.aload_n 0, 1) := by decide +kernel
theorem dX8_readsCommand_112 : decode cX8_readsCommand 112 = .ok (.iconst 1, 1) := by decide +kernel
theorem dX8_readsCommand_113 : decode cX8_readsCommand 113 = .ok (.iload_n 1, 1) := by decide +kernel
theorem dX8_readsCommand_114 : decode cX8_readsCommand 114 = .ok (.iconst 2, 1) := by decide +kernel
theorem dX8_readsCommand_115 : decode cX8_readsCommand 115 = .ok (.iadd, 1) := by decide +kernel
theorem dX8_readsCommand_116 : decode cX8_readsCommand 116 = .ok (.invokevirtual 234, 3) := by decide +kernel
theorem dX8_readsCommand_119 : decode cX8_readsCommand 119 = .ok (.ifCond .eq 18, 3) := by decide +kernel
theorem dX8_readsCommand_122 : decode cX8_readsCommand 122 = .ok (.aload_n 0, 1) := by decide +kernel
theorem dX8_readsCommand_123 : decode cX8_readsCommand 123 = .ok (.iconst 1, 1) := by decide +kernel
theorem dX8_readsCommand_124 : decode cX8_readsCommand 124 = .ok (.iload_n 1, 1) := by decide +kernel
theorem dX8_readsCommand_125 : decode cX8_readsCommand 125 = .ok (.iconst 3, 1) := by decide +kernel
theorem dX8_readsCommand_126 : decode cX8_readsCommand 126 = .ok (.iadd, 1) := by decide +kernel
theorem dX8_readsCommand_127 : decode cX8_readsCommand 127 = .ok (.invokevirtual 234, 3) := by decide +kernel
theorem dX8_readsCommand_130 : decode cX8_readsCommand 130 = .ok (.ifCond .eq 7, 3) := by decide +kernel
theorem dX8_readsCommand_133 : decode cX8_readsCommand 133 = .ok (.iconst 1, 1) := by decide +kernel
theorem dX8_readsCommand_134 : decode cX8_readsCommand 134 = .ok (.goto 4, 3) := by decide +kernel
theorem dX8_readsCommand_137 : decode cX8_readsCommand 137 = .ok (.iconst 0, 1) := by decide +kernel
theorem dX8_readsCommand_138 : decode cX8_readsCommand 138 = .ok (.ireturn, 1) := by decide +kernel
theorem dX8_readsCommand_139 : decode cX8_readsCommand 139 = .ok (.aload_n 0, 1) := by decide +kernel
theorem dX8_readsCommand_140 : decode cX8_readsCommand 140 = .ok (.iconst 1, 1) := by decide +kernel
theorem dX8_readsCommand_141 : decode cX8_readsCommand 141 = .ok (.iload_n 1, 1) := by decide +kernel
theorem dX8_readsCommand_142 : decode cX8_readsCommand 142 = .ok (.iconst 1, 1) := by decide +kernel
theorem dX8_readsCommand_143 : decode cX8_readsCommand 143 = .ok (.iadd, 1) := by decide +kernel
theorem dX8_readsCommand_144 : decode cX8_readsCommand 144 = .ok (.invokevirtual 234, 3) := by decide +kernel
theorem dX8_readsCommand_147 : decode cX8_readsCommand 147 = .ok (.ifCond .eq 27, 3) := by decide +kernel
theorem dX8_readsCommand_150 : decode cX8_readsCommand 150 = .ok (.aload_n 0, 1) := by decide +kernel
theorem dX8_readsCommand_151 : decode cX8_readsCommand 151 = .ok (.bipush 64, 2) := by decide +kernel
theorem dX8_readsCommand_153 : decode cX8_readsCommand 153 = .ok (.invokevirtual 225, 3) := by decide +kernel
theorem dX8_readsCommand_156 : decode cX8_readsCommand 156 = .ok (.ifCond .eq 18, 3) := by decide +kernel
theorem dX8_readsCommand_159 : decode cX8_readsCommand 159 = .ok (.aload_n 0, 1) := by decide +kernel
theorem dX8_readsCommand_160 : decode cX8_readsCommand 160 = .ok (.iconst 2, 1) := by decide +kernel
theorem dX8_readsCommand_161 : decode cX8_readsCommand 161 = .ok (.iload_n 1, 1) := by decide +kernel
theorem dX8_readsCommand_162 : decode cX8_readsCommand 162 = .ok (.iconst 2, 1) := by decide +kernel
theorem dX8_readsCommand_163 : decode cX8_readsCommand 163 = .ok (.iadd, 1) := by decide +kernel
theorem dX8_readsCommand_164 : decode cX8_readsCommand 164 = .ok (.invokevirtual 234, 3) := by decide +kernel
theorem dX8_readsCommand_167 : decode cX8_readsCommand 167 = .ok (.ifCond .eq 7, 3) := by decide +kernel
theorem dX8_readsCommand_170 : decode cX8_readsCommand 170 = .ok (.iconst 1, 1) := by decide +kernel
theorem dX8_readsCommand_171 : decode cX8_readsCommand 171 = .ok (.goto 4, 3) := by decide +kernel
theorem dX8_readsCommand_174 : decode cX8_readsCommand 174 = .ok (.iconst 0, 1) := by decide +kernel
theorem dX8_readsCommand_175 : decode cX8_readsCommand 175 = .ok (.ireturn, 1) := by decide +kernel
theorem dX8_readsCommand_176 : decode cX8_readsCommand 176 = .ok (.aload_n 0, 1) := by decide +kernel
theorem dX8_readsCommand_177 : decode cX8_readsCommand 177 = .ok (.iconst 1, 1) := by decide +kernel
theorem dX8_readsCommand_178 : decode cX8_readsCommand 178 = .ok (.iload_n 1, 1) := by decide +kernel
theorem dX8_readsCommand_179 : decode cX8_readsCommand 179 = .ok (.iconst 1, 1) := by decide +kernel
theorem dX8_readsCommand_180 : decode cX8_readsCommand 180 = .ok (.iadd, 1) := by decide +kernel
theorem dX8_readsCommand_181 : decode cX8_readsCommand 181 = .ok (.invokevirtual 234, 3) := by decide +kernel
theorem dX8_readsCommand_184 : decode cX8_readsCommand 184 = .ok (.ifCond .eq 28, 3) := by decide +kernel
theorem dX8_readsCommand_187 : decode cX8_readsCommand 187 = .ok (.aload_n 0, 1) := by decide +kernel
theorem dX8_readsCommand_188 : decode cX8_readsCommand 188 = .ok (.iload_n 1, 1) := by decide +kernel
theorem dX8_readsCommand_189 : decode cX8_readsCommand 189 = .ok (.iconst 2, 1) := by decide +kernel
theorem dX8_readsCommand_190 : decode cX8_readsCommand 190 = .ok (.iadd, 1) := by decide +kernel
theorem dX8_readsCommand_191 : decode cX8_readsCommand 191 = .ok (.invokevirtual 237, 3) := by decide +kernel
theorem dX8_readsCommand_194 : decode cX8_readsCommand 194 = .ok (.ifCond .eq 18, 3) := by decide +kernel
theorem dX8_readsCommand_197 : decode cX8_readsCommand 197 = .ok (.aload_n 0, 1) := by decide +kernel
theorem dX8_readsCommand_198 : decode cX8_readsCommand 198 = .ok (.iconst 1, 1) := by decide +kernel
theorem dX8_readsCommand_199 : decode cX8_readsCommand 199 = .ok (.iload_n 1, 1) := by decide +kernel
theorem dX8_readsCommand_200 : decode cX8_readsCommand 200 = .ok (.iconst 3, 1) := by decide +kernel
theorem dX8_readsCommand_201 : decode cX8_readsCommand 201 = .ok (.iadd, 1) := by decide +kernel
theorem dX8_readsCommand_202 : decode cX8_readsCommand 202 = .ok (.invokevirtual 234, 3) := by decide +kernel
theorem dX8_readsCommand_205 : decode cX8_readsCommand 205 = .ok (.ifCond .eq 7, 3) := by decide +kernel
theorem dX8_readsCommand_208 : decode cX8_readsCommand 208 = .ok (.iconst 1, 1) := by decide +kernel
theorem dX8_readsCommand_209 : decode cX8_readsCommand 209 = .ok (.goto 4, 3) := by decide +kernel
theorem dX8_readsCommand_212 : decode cX8_readsCommand 212 = .ok (.iconst 0, 1) := by decide +kernel
theorem dX8_readsCommand_213 : decode cX8_readsCommand 213 = .ok (.ireturn, 1) := by decide +kernel
theorem dX8_readsCommand_214 : decode cX8_readsCommand 214 = .ok (.aload_n 0, 1) := by decide +kernel
theorem dX8_readsCommand_215 : decode cX8_readsCommand 215 = .ok (.iconst 1, 1) := by decide +kernel
theorem dX8_readsCommand_216 : decode cX8_readsCommand 216 = .ok (.iload_n 1, 1) := by decide +kernel
theorem dX8_readsCommand_217 : decode cX8_readsCommand 217 = .ok (.iconst 1, 1) := by decide +kernel
theorem dX8_readsCommand_218 : decode cX8_readsCommand 218 = .ok (.iadd, 1) := by decide +kernel
theorem dX8_readsCommand_219 : decode cX8_readsCommand 219 = .ok (.invokevirtual 234, 3) := by decide +kernel
theorem dX8_readsCommand_222 : decode cX8_readsCommand 222 = .ok (.ireturn, 1) := by decide +kernel
theorem dX8_readsCommand_223 : decode cX8_readsCommand 223 = .ok (.aload_n 0, 1) := by decide +kernel
theorem dX8_readsCommand_224 : decode cX8_readsCommand 224 = .ok (.iconst 1, 1) := by decide +kernel
theorem dX8_readsCommand_225 : decode cX8_readsCommand 225 = .ok (.iload_n 1, 1) := by decide +kernel
theorem dX8_readsCommand_226 : decode cX8_readsCommand 226 = .ok (.iconst 1, 1) := by decide +kernel
theorem dX8_readsCommand_227 : decode cX8_readsCommand 227 = .ok (.iadd, 1) := by decide +kernel
theorem dX8_readsCommand_228 : decode cX8_readsCommand 228 = .ok (.invokevirtual 234, 3) := by decide +kernel
theorem dX8_readsCommand_231 : decode cX8_readsCommand 231 = .ok (.ifCond .eq 18, 3) := by decide +kernel
theorem dX8_readsCommand_234 : decode cX8_readsCommand 234 = .ok (.aload_n 0, 1) := by decide +kernel
theorem dX8_readsCommand_235 : decode cX8_readsCommand 235 = .ok (.iconst 1, 1) := by decide +kernel
theorem dX8_readsCommand_236 : decode cX8_readsCommand 236 = .ok (.iload_n 1, 1) := by decide +kernel
theorem dX8_readsCommand_237 : decode cX8_readsCommand 237 = .ok (.iconst 2, 1) := by decide +kernel
theorem dX8_readsCommand_238 : decode cX8_readsCommand 238 = .ok (.iadd, 1) := by decide +kernel
theorem dX8_readsCommand_239 : decode cX8_readsCommand 239 = .ok (.invokevirtual 234, 3) := by decide +kernel
theorem dX8_readsCommand_242 : decode cX8_readsCommand 242 = .ok (.ifCond .eq 7, 3) := by decide +kernel
theorem dX8_readsCommand_245 : decode cX8_readsCommand 245 = .ok (.iconst 1, 1) := by decide +kernel
theorem dX8_readsCommand_246 : decode cX8_readsCommand 246 = .ok (.goto 4, 3) := by decide +kernel
theorem dX8_readsCommand_249 : decode cX8_readsCommand 249 = .ok (.iconst 0, 1) := by decide +kernel
theorem dX8_readsCommand_250 : decode cX8_readsCommand 250 = .ok (.ireturn, 1) := by decide +kernel
theorem dX8_readsCommand_251 : decode cX8_readsCommand 251 = .ok (.iconst 1, 1) := by decide +kernel
theorem dX8_readsCommand_252 : decode cX8_readsCommand 252 = .ok (.ireturn, 1) := by decide +kernel
theorem dX8_isText_0 : decode cX8_isText 0 = .ok (.aload_n 0, 1) := by decide +kernel
theorem dX8_isText_1 : decode cX8_isText 1 = .ok (.iconst 0, 1) := by decide +kernel
theorem dX8_isText_2 : decode cX8_isText 2 = .ok (.putfield 211, 3) := by decide +kernel
theorem dX8_isText_5 : decode cX8_isText 5 = .ok (.aload_n 0, 1) := by decide +kernel
theorem dX8_isText_6 : decode cX8_isText 6 = .ok (.iconst 0, 1) := by decide +kernel
theorem dX8_isText_7 : decode cX8_isText 7 = .ok (.putfield 228, 3) := by decide +kernel
theorem dX8_isText_10 : decode cX8_isText 10 = .ok (.aload_n 0, 1) := by decide +kernel
theorem dX8_isText_11 : decode cX8_isText 11 = .ok (.invokevirtual 240, 3) := by decide +kernel
theorem dX8_isText_14 : decode cX8_isText 14 = .ok (.istore_n 1, 1) := by decide +kernel
theorem dX8_isText_15 : decode cX8_isText 15 = .ok (.iload_n 1, 1) := by decide +kernel
theorem dX8_isText_16 : decode cX8_isText 16 = .ok (.ifCond .eq 20, 3) := by decide +kernel
theorem dX8_isText_19 : decode cX8_isText 19 = .ok (.aload_n 0, 1) := by decide +kernel
theorem dX8_isText_20 : decode cX8_isText 20 = .ok (.bipush 59, 2) := by decide +kernel
theorem dX8_isText_22 : decode cX8_isText 22 = .ok (.invokevirtual 225, 3) := by decide +kernel
theorem dX8_isText_25 : decode cX8_isText 25 = .ok (.ifCond .eq 11, 3) := by decide +kernel
theorem dX8_isText_28 : decode cX8_isText 28 = .ok (.aload_n 0, 1) := by decide +kernel
theorem dX8_isText_29 : decode cX8_isText 29 = .ok (.invokevirtual 240, 3) := by decide +kernel
theorem dX8_isText_32 : decode cX8_isText 32 = .ok (.istore_n 1, 1) := by decide +kernel
theorem dX8_isText_33 : decode cX8_isText 33 = .ok (.goto (-18), 3) := by decide +kernel
theorem dX8_isText_36 : decode cX8_isText 36 = .ok (.iload_n 1, 1) := by decide +kernel
theorem dX8_isText_37 : decode cX8_isText 37 = .ok (.ifCond .eq 18, 3) := by decide +kernel
theorem dX8_isText_40 : decode cX8_isText 40 = .ok (.aload_n 0, 1) := by decide +kernel
theorem dX8_isText_41 : decode cX8_isText 41 = .ok (.getfield 211, 3) := by decide +kernel
theorem dX8_isText_44 : decode cX8_isText 44 = .ok (.aload_n 0, 1) := by decide +kernel
theorem dX8_isText_45 : decode cX8_isText 45 = .ok (.getfield 208, 3) := by decide +kernel
theorem dX8_isText_48 : decode cX8_isText 48 = .ok (.if_icmp .ne 7, 3) := by decide +kernel
theorem dX8_isText_51 : decode cX8_isText 51 = .ok (.iconst 1, 1) := by decide +kernel
theorem dX8_isText_52 : decode cX8_isText 52 = .ok (.goto 4, 3) := by decide +kernel
theorem dX8_isText_55 : decode cX8_isText 55 = .ok (.iconst 0, 1) := by decide +kernel
theorem dX8_isText_56 : decode cX8_isText 56 = .ok (.ireturn, 1) := by decide +kernel
theorem dX8_does_0 : decode cX8_does 0 = .ok (.aload_n 0, 1) := by decide +kernel
theorem dX8_does_1 : decode cX8_does 1 = .ok (.getfield 38, 3) := by decide +kernel
theorem dX8_does_4 : decode cX8_does 4 = .ok (.iload_n 1, 1) := by decide +kernel
theorem dX8_does_5 : decode cX8_does 5 = .ok (.iconst 1, 1) := by decide +kernel
theorem dX8_does_6 : decode cX8_does 6 = .ok (.iadd, 1) := by decide +kernel
theorem dX8_does_7 : decode cX8_does 7 = .ok (.iaload, 1) := by decide +kernel
theorem dX8_does_8 : decode cX8_does 8 = .ok (.istore_n 2, 1) := by decide +kernel
theorem dX8_does_9 : decode cX8_does 9 = .ok (.aload_n 0, 1) := by decide +kernel
theorem dX8_does_10 : decode cX8_does 10 = .ok (.getfield 38, 3) := by decide +kernel
theorem dX8_does_13 : decode cX8_does 13 = .ok (.iload_n 1, 1) := by decide +kernel
theorem dX8_does_14 : decode cX8_does 14 = .ok (.iconst 2, 1) := by decide +kernel
theorem dX8_does_15 : decode cX8_does 15 = .ok (.iadd, 1) := by decide +kernel
theorem dX8_does_16 : decode cX8_does 16 = .ok (.iaload, 1) := by decide +kernel
theorem dX8_does_17 : decode cX8_does 17 = .ok (.istore_n 3, 1) := by decide +kernel
theorem dX8_does_18 : decode cX8_does 18 = .ok (.aload_n 0, 1) := by decide +kernel
theorem dX8_does_19 : decode cX8_does 19 = .ok (.getfield 38, 3) := by decide +kernel
theorem dX8_does_22 : decode cX8_does 22 = .ok (.iload_n 1, 1) := by decide +kernel
theorem dX8_does_23 : decode cX8_does 23 = .ok (.iconst 3, 1) := by decide +kernel
theorem dX8_does_24 : decode cX8_does 24 = .ok (.iadd, 1) := by decide +kernel
theorem dX8_does_25 : decode cX8_does 25 = .ok (.iaload, 1) := by decide +kernel
theorem dX8_does_26 : decode cX8_does 26 = .ok (.istore 4, 2) := by decide +kernel
theorem dX8_does_28 : decode cX8_does 28 = .ok (.aload_n 0, 1) := by decide +kernel
theorem dX8_does_29 : decode cX8_does 29 = .ok (.getfield 38, 3) := by decide +kernel
theorem dX8_does_32 : decode cX8_does 32 = .ok (.iload_n 1, 1) := by decide +kernel
theorem dX8_does_33 : decode cX8_does 33 = .ok (.iaload, 1) := by decide +kernel
theorem dX8_does_34 : decode cX8_does 34 = .ok (.lookupswitch 88 #[(98, 81), (107, 66), (109, 59), (111, 75), (119, 50)], 50) := by decide +kernel
theorem dX8_does_84 : decode cX8_does 84 = .ok (.aload_n 0, 1) := by decide +kernel
theorem dX8_does_85 : decode cX8_does 85 = .ok (.iload_n 2, 1) := by decide +kernel
theorem dX8_does_86 : decode cX8_does 86 = .ok (.iload_n 3, 1) := by decide +kernel
theorem dX8_does_87 : decode cX8_does 87 = .ok (.iload 4, 2) := by decide +kernel
theorem dX8_does_89 : decode cX8_does 89 = .ok (.invokevirtual 110, 3) := by decide +kernel
theorem dX8_does_92 : decode cX8_does 92 = .ok (.ireturn, 1) := by decide +kernel
theorem dX8_does_93 : decode cX8_does 93 = .ok (.aload_n 0, 1) := by decide +kernel
theorem dX8_does_94 : decode cX8_does 94 = .ok (.iload_n 2, 1) := by decide +kernel
theorem dX8_does_95 : decode cX8_does 95 = .ok (.iload_n 3, 1) := by decide +kernel
theorem dX8_does_96 : decode cX8_does 96 = .ok (.invokevirtual 149, 3) := by decide +kernel
theorem dX8_does_99 : decode cX8_does 99 = .ok (.ireturn, 1) := by decide +kernel
theorem dX8_does_100 : decode cX8_does 100 = .ok (.aload_n 0, 1) := by decide +kernel
theorem dX8_does_101 : decode cX8_does 101 = .ok (.iload_n 2, 1) := by decide +kernel
theorem dX8_does_102 : decode cX8_does 102 = .ok (.iload_n 3, 1) := by decide +kernel
theorem dX8_does_103 : decode cX8_does 103 = .ok (.iload 4, 2) := by decide +kernel
theorem dX8_does_105 : decode cX8_does 105 = .ok (.invokevirtual 168, 3) := by decide +kernel
theorem dX8_does_108 : decode cX8_does 108 = .ok (.ireturn, 1) := by decide +kernel
theorem dX8_does_109 : decode cX8_does 109 = .ok (.aload_n 0, 1) := by decide +kernel
theorem dX8_does_110 : decode cX8_does 110 = .ok (.iload_n 2, 1) := by decide +kernel
theorem dX8_does_111 : decode cX8_does 111 = .ok (.invokevirtual 183, 3) := by decide +kernel
theorem dX8_does_114 : decode cX8_does 114 = .ok (.ireturn, 1) := by decide +kernel
theorem dX8_does_115 : decode cX8_does 115 = .ok (.aload_n 0, 1) := by decide +kernel
theorem dX8_does_116 : decode cX8_does 116 = .ok (.iload_n 2, 1) := by decide +kernel
theorem dX8_does_117 : decode cX8_does 117 = .ok (.iload_n 3, 1) := by decide +kernel
theorem dX8_does_118 : decode cX8_does 118 = .ok (.invokevirtual 133, 3) := by decide +kernel
theorem dX8_does_121 : decode cX8_does 121 = .ok (.ireturn, 1) := by decide +kernel
theorem dX8_does_122 : decode cX8_does 122 = .ok (.aload_n 0, 1) := by decide +kernel
theorem dX8_does_123 : decode cX8_does 123 = .ok (.invokevirtual 186, 3) := by decide +kernel
theorem dX8_does_126 : decode cX8_does 126 = .ok (.ireturn, 1) := by decide +kernel
theorem dX8_read_0 : decode cX8_read 0 = .ok (.aload_n 0, 1) := by decide +kernel
theorem dX8_read_1 : decode cX8_read 1 = .ok (.invokevirtual 243, 3) := by decide +kernel
theorem dX8_read_4 : decode cX8_read 4 = .ok (.istore_n 1, 1) := by decide +kernel
theorem dX8_read_5 : decode cX8_read 5 = .ok (.aload_n 0, 1) := by decide +kernel
theorem dX8_read_6 : decode cX8_read 6 = .ok (.iconst 0, 1) := by decide +kernel
theorem dX8_read_7 : decode cX8_read 7 = .ok (.putfield 208, 3) := by decide +kernel
theorem dX8_read_10 : decode cX8_read 10 = .ok (.aload_n 0, 1) := by decide +kernel
theorem dX8_read_11 : decode cX8_read 11 = .ok (.iload_n 1, 1) := by decide +kernel
theorem dX8_read_12 : decode cX8_read 12 = .ok (.ifCond .ne 7, 3) := by decide +kernel
theorem dX8_read_15 : decode cX8_read 15 = .ok (.iconst 1, 1) := by decide +kernel
theorem dX8_read_16 : decode cX8_read 16 = .ok (.goto 4, 3) := by decide +kernel
theorem dX8_read_19 : decode cX8_read 19 = .ok (.iconst 0, 1) := by decide +kernel
theorem dX8_read_20 : decode cX8_read 20 = .ok (.iconst 1, 1) := by decide +kernel
theorem dX8_read_21 : decode cX8_read 21 = .ok (.invokevirtual 80, 3) := by decide +kernel
theorem dX8_read_24 : decode cX8_read 24 = .ok (.ifCond .eq 13, 3) := by decide +kernel
theorem dX8_read_27 : decode cX8_read 27 = .ok (.aload_n 0, 1) := by decide +kernel
theorem dX8_read_28 : decode cX8_read 28 = .ok (.aload_n 0, 1) := by decide +kernel
theorem dX8_read_29 : decode cX8_read 29 = .ok (.getfield 211, 3) := by decide +kernel
theorem dX8_read_32 : decode cX8_read 32 = .ok (.putfield 29, 3) := by decide +kernel
theorem dX8_read_35 : decode cX8_read 35 = .ok (.iconst 0, 1) := by decide +kernel
theorem dX8_read_36 : decode cX8_read 36 = .ok (.ireturn, 1) := by decide +kernel
theorem dX8_read_37 : decode cX8_read 37 = .ok (.aload_n 0, 1) := by decide +kernel
theorem dX8_read_38 : decode cX8_read 38 = .ok (.invokevirtual 107, 3) := by decide +kernel
theorem dX8_read_41 : decode cX8_read 41 = .ok (.iconst 0, 1) := by decide +kernel
theorem dX8_read_42 : decode cX8_read 42 = .ok (.istore_n 2, 1) := by decide +kernel
theorem dX8_read_43 : decode cX8_read 43 = .ok (.iload_n 2, 1) := by decide +kernel
theorem dX8_read_44 : decode cX8_read 44 = .ok (.aload_n 0, 1) := by decide +kernel
theorem dX8_read_45 : decode cX8_read 45 = .ok (.getfield 228, 3) := by decide +kernel
theorem dX8_read_48 : decode cX8_read 48 = .ok (.if_icmp .ge 86, 3) := by decide +kernel
theorem dX8_read_51 : decode cX8_read 51 = .ok (.aload_n 0, 1) := by decide +kernel
theorem dX8_read_52 : decode cX8_read 52 = .ok (.iconst 0, 1) := by decide +kernel
theorem dX8_read_53 : decode cX8_read 53 = .ok (.putfield 41, 3) := by decide +kernel
theorem dX8_read_56 : decode cX8_read 56 = .ok (.aload_n 0, 1) := by decide +kernel
theorem dX8_read_57 : decode cX8_read 57 = .ok (.aload_n 0, 1) := by decide +kernel
theorem dX8_read_58 : decode cX8_read 58 = .ok (.iconst 4, 1) := by decide +kernel
theorem dX8_read_59 : decode cX8_read 59 = .ok (.iload_n 2, 1) := by decide +kernel
theorem dX8_read_60 : decode cX8_read 60 = .ok (.imul, 1) := by decide +kernel
theorem dX8_read_61 : decode cX8_read 61 = .ok (.invokevirtual 246, 3) := by decide +kernel
theorem dX8_read_64 : decode cX8_read 64 = .ok (.putfield 249, 3) := by decide +kernel
theorem dX8_read_67 : decode cX8_read 67 = .ok (.aload_n 0, 1) := by decide +kernel
theorem dX8_read_68 : decode cX8_read 68 = .ok (.getfield 41, 3) := by decide +kernel
theorem dX8_read_71 : decode cX8_read 71 = .ok (.ifCond .eq 57, 3) := by decide +kernel
theorem dX8_read_74 : decode cX8_read 74 = .ok (.aload_n 0, 1) := by decide +kernel
theorem dX8_read_75 : decode cX8_read 75 = .ok (.getfield 13, 3) := by decide +kernel
theorem dX8_read_78 : decode cX8_read 78 = .ok (.iconst 0, 1) := by decide +kernel
theorem dX8_read_79 : decode cX8_read 79 = .ok (.aload_n 0, 1) := by decide +kernel
theorem dX8_read_80 : decode cX8_read 80 = .ok (.getfield 9, 3) := by decide +kernel
theorem dX8_read_83 : decode cX8_read 83 = .ok (.iconst 0, 1) := by decide +kernel
theorem dX8_read_84 : decode cX8_read 84 = .ok (.invokestatic 44, 3) := by decide +kernel
theorem dX8_read_87 : decode cX8_read 87 = .ok (.aload_n 0, 1) := by decide +kernel
theorem dX8_read_88 : decode cX8_read 88 = .ok (.aload_n 0, 1) := by decide +kernel
theorem dX8_read_89 : decode cX8_read 89 = .ok (.getfield 41, 3) := by decide +kernel
theorem dX8_read_92 : decode cX8_read 92 = .ok (.bipush 9, 2) := by decide +kernel
theorem dX8_read_94 : decode cX8_read 94 = .ok (.if_icmp .ne 7, 3) := by decide +kernel
theorem dX8_read_97 : decode cX8_read 97 = .ok (.iload_n 2, 1) := by decide +kernel
theorem dX8_read_98 : decode cX8_read 98 = .ok (.goto 7, 3) := by decide +kernel
theorem dX8_read_101 : decode cX8_read 101 = .ok (.aload_n 0, 1) := by decide +kernel
theorem dX8_read_102 : decode cX8_read 102 = .ok (.getfield 25, 3) := by decide +kernel
theorem dX8_read_105 : decode cX8_read 105 = .ok (.putfield 25, 3) := by decide +kernel
theorem dX8_read_108 : decode cX8_read 108 = .ok (.aload_n 0, 1) := by decide +kernel
theorem dX8_read_109 : decode cX8_read 109 = .ok (.aload_n 0, 1) := by decide +kernel
theorem dX8_read_110 : decode cX8_read 110 = .ok (.getfield 41, 3) := by decide +kernel
theorem dX8_read_113 : decode cX8_read 113 = .ok (.bipush 9, 2) := by decide +kernel
theorem dX8_read_115 : decode cX8_read 115 = .ok (.if_icmp .ne 7, 3) := by decide +kernel
theorem dX8_read_118 : decode cX8_read 118 = .ok (.iconst 3, 1) := by decide +kernel
theorem dX8_read_119 : decode cX8_read 119 = .ok (.goto 4, 3) := by decide +kernel
theorem dX8_read_122 : decode cX8_read 122 = .ok (.iconst 2, 1) := by decide +kernel
theorem dX8_read_123 : decode cX8_read 123 = .ok (.putfield 41, 3) := by decide +kernel
theorem dX8_read_126 : decode cX8_read 126 = .ok (.iconst 0, 1) := by decide +kernel
theorem dX8_read_127 : decode cX8_read 127 = .ok (.ireturn, 1) := by decide +kernel
theorem dX8_read_128 : decode cX8_read 128 = .ok (.iinc 2 1, 3) := by decide +kernel
theorem dX8_read_131 : decode cX8_read 131 = .ok (.goto (-88), 3) := by decide +kernel
theorem dX8_read_134 : decode cX8_read 134 = .ok (.aload_n 0, 1) := by decide +kernel
theorem dX8_read_135 : decode cX8_read 135 = .ok (.aload_n 0, 1) := by decide +kernel
theorem dX8_read_136 : decode cX8_read 136 = .ok (.getfield 228, 3) := by decide +kernel
theorem dX8_read_139 : decode cX8_read 139 = .ok (.iconst 3, 1) := by decide +kernel
theorem dX8_read_140 : decode cX8_read 140 = .ok (.invokevirtual 114, 3) := by decide +kernel
theorem dX8_read_143 : decode cX8_read 143 = .ok (.ireturn, 1) := by decide +kernel
theorem dX8_errorPosition_0 : decode cX8_errorPosition 0 = .ok (.aload_n 0, 1) := by decide +kernel
theorem dX8_errorPosition_1 : decode cX8_errorPosition 1 = .ok (.aload_n 0, 1) := by decide +kernel
theorem dX8_errorPosition_2 : decode cX8_errorPosition 2 = .ok (.getfield 29, 3) := by decide +kernel
theorem dX8_errorPosition_5 : decode cX8_errorPosition 5 = .ok (.ifCond .ge 7, 3) := by decide +kernel
theorem dX8_errorPosition_8 : decode cX8_errorPosition 8 = .ok (.iconst 1, 1) := by decide +kernel
theorem dX8_errorPosition_9 : decode cX8_errorPosition 9 = .ok (.goto 4, 3) := by decide +kernel
theorem dX8_errorPosition_12 : decode cX8_errorPosition 12 = .ok (.iconst 0, 1) := by decide +kernel
theorem dX8_errorPosition_13 : decode cX8_errorPosition 13 = .ok (.iconst 1, 1) := by decide +kernel
theorem dX8_errorPosition_14 : decode cX8_errorPosition 14 = .ok (.invokevirtual 80, 3) := by decide +kernel
theorem dX8_errorPosition_17 : decode cX8_errorPosition 17 = .ok (.ifCond .eq 7, 3) := by decide +kernel
theorem dX8_errorPosition_20 : decode cX8_errorPosition 20 = .ok (.iconst 0, 1) := by decide +kernel
theorem dX8_errorPosition_21 : decode cX8_errorPosition 21 = .ok (.goto 7, 3) := by decide +kernel
theorem dX8_errorPosition_24 : decode cX8_errorPosition 24 = .ok (.aload_n 0, 1) := by decide +kernel
theorem dX8_errorPosition_25 : decode cX8_errorPosition 25 = .ok (.getfield 29, 3) := by decide +kernel
theorem dX8_errorPosition_28 : decode cX8_errorPosition 28 = .ok (.ireturn, 1) := by decide +kernel
theorem dX8_reason_0 : decode cX8_reason 0 = .ok (.aload_n 0, 1) := by decide +kernel
theorem dX8_reason_1 : decode cX8_reason 1 = .ok (.iload_n 1, 1) := by decide +kernel
theorem dX8_reason_2 : decode cX8_reason 2 = .ok (.iconst 0, 1) := by decide +kernel
theorem dX8_reason_3 : decode cX8_reason 3 = .ok (.iconst 2, 1) := by decide +kernel
theorem dX8_reason_4 : decode cX8_reason 4 = .ok (.invokestatic 60, 3) := by decide +kernel
theorem dX8_reason_7 : decode cX8_reason 7 = .ok (.ifCond .ne 7, 3) := by decide +kernel
theorem dX8_reason_10 : decode cX8_reason 10 = .ok (.iconst 1, 1) := by decide +kernel
theorem dX8_reason_11 : decode cX8_reason 11 = .ok (.goto 4, 3) := by decide +kernel
theorem dX8_reason_14 : decode cX8_reason 14 = .ok (.iconst 0, 1) := by decide +kernel
theorem dX8_reason_15 : decode cX8_reason 15 = .ok (.iconst 1, 1) := by decide +kernel
theorem dX8_reason_16 : decode cX8_reason 16 = .ok (.invokevirtual 80, 3) := by decide +kernel
theorem dX8_reason_19 : decode cX8_reason 19 = .ok (.ifCond .ne 23, 3) := by decide +kernel
theorem dX8_reason_22 : decode cX8_reason 22 = .ok (.aload_n 0, 1) := by decide +kernel
theorem dX8_reason_23 : decode cX8_reason 23 = .ok (.aload_n 0, 1) := by decide +kernel
theorem dX8_reason_24 : decode cX8_reason 24 = .ok (.getfield 54, 3) := by decide +kernel
theorem dX8_reason_27 : decode cX8_reason 27 = .ok (.ifCond .ne 7, 3) := by decide +kernel
theorem dX8_reason_30 : decode cX8_reason 30 = .ok (.iconst 1, 1) := by decide +kernel
theorem dX8_reason_31 : decode cX8_reason 31 = .ok (.goto 4, 3) := by decide +kernel
theorem dX8_reason_34 : decode cX8_reason 34 = .ok (.iconst 0, 1) := by decide +kernel
theorem dX8_reason_35 : decode cX8_reason 35 = .ok (.iconst 2, 1) := by decide +kernel
theorem dX8_reason_36 : decode cX8_reason 36 = .ok (.invokevirtual 80, 3) := by decide +kernel
theorem dX8_reason_39 : decode cX8_reason 39 = .ok (.ifCond .eq 5, 3) := by decide +kernel
theorem dX8_reason_42 : decode cX8_reason 42 = .ok (.iconst 0, 1) := by decide +kernel
theorem dX8_reason_43 : decode cX8_reason 43 = .ok (.ireturn, 1) := by decide +kernel
theorem dX8_reason_44 : decode cX8_reason 44 = .ok (.iload_n 1, 1) := by decide +kernel
theorem dX8_reason_45 : decode cX8_reason 45 = .ok (.ifCond .ne 10, 3) := by decide +kernel
theorem dX8_reason_48 : decode cX8_reason 48 = .ok (.aload_n 0, 1) := by decide +kernel
theorem dX8_reason_49 : decode cX8_reason 49 = .ok (.getfield 54, 3) := by decide +kernel
theorem dX8_reason_52 : decode cX8_reason 52 = .ok (.goto 19, 3) := by decide +kernel
theorem dX8_reason_55 : decode cX8_reason 55 = .ok (.iload_n 1, 1) := by decide +kernel
theorem dX8_reason_56 : decode cX8_reason 56 = .ok (.iconst 1, 1) := by decide +kernel
theorem dX8_reason_57 : decode cX8_reason 57 = .ok (.if_icmp .ne 10, 3) := by decide +kernel
theorem dX8_reason_60 : decode cX8_reason 60 = .ok (.aload_n 0, 1) := by decide +kernel
theorem dX8_reason_61 : decode cX8_reason 61 = .ok (.getfield 57, 3) := by decide +kernel
theorem dX8_reason_64 : decode cX8_reason 64 = .ok (.goto 7, 3) := by decide +kernel
theorem dX8_reason_67 : decode cX8_reason 67 = .ok (.aload_n 0, 1) := by decide +kernel
theorem dX8_reason_68 : decode cX8_reason 68 = .ok (.getfield 25, 3) := by decide +kernel
theorem dX8_reason_71 : decode cX8_reason 71 = .ok (.ireturn, 1) := by decide +kernel
theorem dX8_undo_0 : decode cX8_undo 0 = .ok (.aload_n 0, 1) := by decide +kernel
theorem dX8_undo_1 : decode cX8_undo 1 = .ok (.aload_n 0, 1) := by decide +kernel
theorem dX8_undo_2 : decode cX8_undo 2 = .ok (.getfield 48, 3) := by decide +kernel
theorem dX8_undo_5 : decode cX8_undo 5 = .ok (.ifCond .ne 7, 3) := by decide +kernel
theorem dX8_undo_8 : decode cX8_undo 8 = .ok (.iconst 1, 1) := by decide +kernel
theorem dX8_undo_9 : decode cX8_undo 9 = .ok (.goto 4, 3) := by decide +kernel
theorem dX8_undo_12 : decode cX8_undo 12 = .ok (.iconst 0, 1) := by decide +kernel
theorem dX8_undo_13 : decode cX8_undo 13 = .ok (.iconst 1, 1) := by decide +kernel
theorem dX8_undo_14 : decode cX8_undo 14 = .ok (.invokevirtual 80, 3) := by decide +kernel
theorem dX8_undo_17 : decode cX8_undo 17 = .ok (.ifCond .eq 5, 3) := by decide +kernel
theorem dX8_undo_20 : decode cX8_undo 20 = .ok (.iconst 0, 1) := by decide +kernel
theorem dX8_undo_21 : decode cX8_undo 21 = .ok (.ireturn, 1) := by decide +kernel
theorem dX8_undo_22 : decode cX8_undo 22 = .ok (.aload_n 0, 1) := by decide +kernel
theorem dX8_undo_23 : decode cX8_undo 23 = .ok (.dup, 1) := by decide +kernel
theorem dX8_undo_24 : decode cX8_undo 24 = .ok (.getfield 48, 3) := by decide +kernel
theorem dX8_undo_27 : decode cX8_undo 27 = .ok (.iconst 1, 1) := by decide +kernel
theorem dX8_undo_28 : decode cX8_undo 28 = .ok (.isub, 1) := by decide +kernel
theorem dX8_undo_29 : decode cX8_undo 29 = .ok (.putfield 48, 3) := by decide +kernel
theorem dX8_undo_32 : decode cX8_undo 32 = .ok (.aload_n 0, 1) := by decide +kernel
theorem dX8_undo_33 : decode cX8_undo 33 = .ok (.getfield 19, 3) := by decide +kernel
theorem dX8_undo_36 : decode cX8_undo 36 = .ok (.bipush 103, 2) := by decide +kernel
theorem dX8_undo_38 : decode cX8_undo 38 = .ok (.aload_n 0, 1) := by decide +kernel
theorem dX8_undo_39 : decode cX8_undo 39 = .ok (.getfield 48, 3) := by decide +kernel
theorem dX8_undo_42 : decode cX8_undo 42 = .ok (.imul, 1) := by decide +kernel
theorem dX8_undo_43 : decode cX8_undo 43 = .ok (.aload_n 0, 1) := by decide +kernel
theorem dX8_undo_44 : decode cX8_undo 44 = .ok (.getfield 9, 3) := by decide +kernel
theorem dX8_undo_47 : decode cX8_undo 47 = .ok (.iconst 0, 1) := by decide +kernel
theorem dX8_undo_48 : decode cX8_undo 48 = .ok (.invokestatic 44, 3) := by decide +kernel
theorem dX8_undo_51 : decode cX8_undo 51 = .ok (.aload_n 0, 1) := by decide +kernel
theorem dX8_undo_52 : decode cX8_undo 52 = .ok (.getfield 48, 3) := by decide +kernel
theorem dX8_undo_55 : decode cX8_undo 55 = .ok (.ireturn, 1) := by decide +kernel
theorem dX8_save_0 : decode cX8_save 0 = .ok (.aload_n 0, 1) := by decide +kernel
theorem dX8_save_1 : decode cX8_save 1 = .ok (.iconst 0, 1) := by decide +kernel
theorem dX8_save_2 : decode cX8_save 2 = .ok (.putfield 41, 3) := by decide +kernel
theorem dX8_save_5 : decode cX8_save 5 = .ok (.aload_n 0, 1) := by decide +kernel
theorem dX8_save_6 : decode cX8_save 6 = .ok (.getfield 9, 3) := by decide +kernel
theorem dX8_save_9 : decode cX8_save 9 = .ok (.iconst 0, 1) := by decide +kernel
theorem dX8_save_10 : decode cX8_save 10 = .ok (.aload_n 0, 1) := by decide +kernel
theorem dX8_save_11 : decode cX8_save 11 = .ok (.getfield 16, 3) := by decide +kernel
theorem dX8_save_14 : decode cX8_save 14 = .ok (.iconst 0, 1) := by decide +kernel
theorem dX8_save_15 : decode cX8_save 15 = .ok (.invokestatic 44, 3) := by decide +kernel
theorem dX8_save_18 : decode cX8_save 18 = .ok (.aload_n 0, 1) := by decide +kernel
theorem dX8_save_19 : decode cX8_save 19 = .ok (.iconst 1, 1) := by decide +kernel
theorem dX8_save_20 : decode cX8_save 20 = .ok (.putfield 252, 3) := by decide +kernel
theorem dX8_save_23 : decode cX8_save 23 = .ok (.aload_n 0, 1) := by decide +kernel
theorem dX8_save_24 : decode cX8_save 24 = .ok (.getfield 9, 3) := by decide +kernel
theorem dX8_save_27 : decode cX8_save 27 = .ok (.iconst 1, 1) := by decide +kernel
theorem dX8_save_28 : decode cX8_save 28 = .ok (.iaload, 1) := by decide +kernel
theorem dX8_save_29 : decode cX8_save 29 = .ok (.ireturn, 1) := by decide +kernel
theorem dX8_restore_0 : decode cX8_restore 0 = .ok (.aload_n 0, 1) := by decide +kernel
theorem dX8_restore_1 : decode cX8_restore 1 = .ok (.aload_n 0, 1) := by decide +kernel
theorem dX8_restore_2 : decode cX8_restore 2 = .ok (.getfield 252, 3) := by decide +kernel
theorem dX8_restore_5 : decode cX8_restore 5 = .ok (.ifCond .ne 7, 3) := by decide +kernel
theorem dX8_restore_8 : decode cX8_restore 8 = .ok (.iconst 1, 1) := by decide +kernel
theorem dX8_restore_9 : decode cX8_restore 9 = .ok (.goto 4, 3) := by decide +kernel
theorem dX8_restore_12 : decode cX8_restore 12 = .ok (.iconst 0, 1) := by decide +kernel
theorem dX8_restore_13 : decode cX8_restore 13 = .ok (.iconst 1, 1) := by decide +kernel
theorem dX8_restore_14 : decode cX8_restore 14 = .ok (.invokevirtual 80, 3) := by decide +kernel
theorem dX8_restore_17 : decode cX8_restore 17 = .ok (.ifCond .eq 5, 3) := by decide +kernel
theorem dX8_restore_20 : decode cX8_restore 20 = .ok (.iconst 0, 1) := by decide +kernel
theorem dX8_restore_21 : decode cX8_restore 21 = .ok (.ireturn, 1) := by decide +kernel
theorem dX8_restore_22 : decode cX8_restore 22 = .ok (.aload_n 0, 1) := by decide +kernel
theorem dX8_restore_23 : decode cX8_restore 23 = .ok (.getfield 16, 3) := by decide +kernel
theorem dX8_restore_26 : decode cX8_restore 26 = .ok (.iconst 0, 1) := by decide +kernel
theorem dX8_restore_27 : decode cX8_restore 27 = .ok (.aload_n 0, 1) := by decide +kernel
theorem dX8_restore_28 : decode cX8_restore 28 = .ok (.getfield 9, 3) := by decide +kernel
theorem dX8_restore_31 : decode cX8_restore 31 = .ok (.iconst 0, 1) := by decide +kernel
theorem dX8_restore_32 : decode cX8_restore 32 = .ok (.invokestatic 44, 3) := by decide +kernel
theorem dX8_restore_35 : decode cX8_restore 35 = .ok (.aload_n 0, 1) := by decide +kernel
theorem dX8_restore_36 : decode cX8_restore 36 = .ok (.iconst 0, 1) := by decide +kernel
theorem dX8_restore_37 : decode cX8_restore 37 = .ok (.putfield 48, 3) := by decide +kernel
theorem dX8_restore_40 : decode cX8_restore 40 = .ok (.aload_n 0, 1) := by decide +kernel
theorem dX8_restore_41 : decode cX8_restore 41 = .ok (.getfield 9, 3) := by decide +kernel
theorem dX8_restore_44 : decode cX8_restore 44 = .ok (.iconst 1, 1) := by decide +kernel
theorem dX8_restore_45 : decode cX8_restore 45 = .ok (.iaload, 1) := by decide +kernel
theorem dX8_restore_46 : decode cX8_restore 46 = .ok (.ireturn, 1) := by decide +kernel
