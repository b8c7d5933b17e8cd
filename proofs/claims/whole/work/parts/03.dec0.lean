theorem dX0_init_0 : decode cX0_init 0 = .ok (.aload_n 0, 1) := by decide +kernel
theorem dX0_init_1 : decode cX0_init 1 = .ok (.invokespecial 5, 3) := by decide +kernel
theorem dX0_init_4 : decode cX0_init 4 = .ok (.aload_n 0, 1) := by decide +kernel
theorem dX0_init_5 : decode cX0_init 5 = .ok (.bipush 64, 2) := by decide +kernel
theorem dX0_init_7 : decode cX0_init 7 = .ok (.newarray .int, 2) := by decide +kernel
theorem dX0_init_9 : decode cX0_init 9 = .ok (.putfield 11, 3) := by decide +kernel
theorem dX0_init_12 : decode cX0_init 12 = .ok (.return_, 1) := by decide +kernel
theorem dX0_arrange_0 : decode cX0_arrange 0 = .ok (.aload_n 0, 1) := by decide +kernel
theorem dX0_arrange_1 : decode cX0_arrange 1 = .ok (.aload_n 1, 1) := by decide +kernel
theorem dX0_arrange_2 : decode cX0_arrange 2 = .ok (.invokevirtual 15, 3) := by decide +kernel
theorem dX0_arrange_5 : decode cX0_arrange 5 = .ok (.aload_n 0, 1) := by decide +kernel
theorem dX0_arrange_6 : decode cX0_arrange 6 = .ok (.aload_n 1, 1) := by decide +kernel
theorem dX0_arrange_7 : decode cX0_arrange 7 = .ok (.invokevirtual 19, 3) := by decide +kernel
theorem dX0_arrange_10 : decode cX0_arrange 10 = .ok (.aload_n 1, 1) := by decide +kernel
theorem dX0_arrange_11 : decode cX0_arrange 11 = .ok (.getfield 22, 3) := by decide +kernel
theorem dX0_arrange_14 : decode cX0_arrange 14 = .ok (.invokevirtual 28, 3) := by decide +kernel
theorem dX0_arrange_17 : decode cX0_arrange 17 = .ok (.iconst 0, 1) := by decide +kernel
theorem dX0_arrange_18 : decode cX0_arrange 18 = .ok (.istore_n 2, 1) := by decide +kernel
theorem dX0_arrange_19 : decode cX0_arrange 19 = .ok (.aload_n 1, 1) := by decide +kernel
theorem dX0_arrange_20 : decode cX0_arrange 20 = .ok (.getfield 33, 3) := by decide +kernel
theorem dX0_arrange_23 : decode cX0_arrange 23 = .ok (.getfield 37, 3) := by decide +kernel
theorem dX0_arrange_26 : decode cX0_arrange 26 = .ok (.aload_n 1, 1) := by decide +kernel
theorem dX0_arrange_27 : decode cX0_arrange 27 = .ok (.getfield 43, 3) := by decide +kernel
theorem dX0_arrange_30 : decode cX0_arrange 30 = .ok (.getfield 47, 3) := by decide +kernel
theorem dX0_arrange_33 : decode cX0_arrange 33 = .ok (.isub, 1) := by decide +kernel
theorem dX0_arrange_34 : decode cX0_arrange 34 = .ok (.istore_n 3, 1) := by decide +kernel
theorem dX0_arrange_35 : decode cX0_arrange 35 = .ok (.iconst 0, 1) := by decide +kernel
theorem dX0_arrange_36 : decode cX0_arrange 36 = .ok (.istore 4, 2) := by decide +kernel
theorem dX0_arrange_38 : decode cX0_arrange 38 = .ok (.iload 4, 2) := by decide +kernel
theorem dX0_arrange_40 : decode cX0_arrange 40 = .ok (.iload_n 3, 1) := by decide +kernel
theorem dX0_arrange_41 : decode cX0_arrange 41 = .ok (.if_icmp .ge 59, 3) := by decide +kernel
theorem dX0_arrange_44 : decode cX0_arrange 44 = .ok (.aload_n 0, 1) := by decide +kernel
theorem dX0_arrange_45 : decode cX0_arrange 45 = .ok (.aload_n 1, 1) := by decide +kernel
theorem dX0_arrange_46 : decode cX0_arrange 46 = .ok (.getfield 33, 3) := by decide +kernel
theorem dX0_arrange_49 : decode cX0_arrange 49 = .ok (.getfield 37, 3) := by decide +kernel
theorem dX0_arrange_52 : decode cX0_arrange 52 = .ok (.invokevirtual 52, 3) := by decide +kernel
theorem dX0_arrange_55 : decode cX0_arrange 55 = .ok (.istore 5, 2) := by decide +kernel
theorem dX0_arrange_57 : decode cX0_arrange 57 = .ok (.aload_n 1, 1) := by decide +kernel
theorem dX0_arrange_58 : decode cX0_arrange 58 = .ok (.getfield 22, 3) := by decide +kernel
theorem dX0_arrange_61 : decode cX0_arrange 61 = .ok (.iload 5, 2) := by decide +kernel
theorem dX0_arrange_63 : decode cX0_arrange 63 = .ok (.invokevirtual 56, 3) := by decide +kernel
theorem dX0_arrange_66 : decode cX0_arrange 66 = .ok (.aload_n 0, 1) := by decide +kernel
theorem dX0_arrange_67 : decode cX0_arrange 67 = .ok (.getfield 11, 3) := by decide +kernel
theorem dX0_arrange_70 : decode cX0_arrange 70 = .ok (.iload 5, 2) := by decide +kernel
theorem dX0_arrange_72 : decode cX0_arrange 72 = .ok (.ldc 60, 2) := by decide +kernel
theorem dX0_arrange_74 : decode cX0_arrange 74 = .ok (.iastore, 1) := by decide +kernel
theorem dX0_arrange_75 : decode cX0_arrange 75 = .ok (.aload_n 1, 1) := by decide +kernel
theorem dX0_arrange_76 : decode cX0_arrange 76 = .ok (.iload 5, 2) := by decide +kernel
theorem dX0_arrange_78 : decode cX0_arrange 78 = .ok (.aload_n 1, 1) := by decide +kernel
theorem dX0_arrange_79 : decode cX0_arrange 79 = .ok (.getfield 61, 3) := by decide +kernel
theorem dX0_arrange_82 : decode cX0_arrange 82 = .ok (.iload 4, 2) := by decide +kernel
theorem dX0_arrange_84 : decode cX0_arrange 84 = .ok (.iadd, 1) := by decide +kernel
theorem dX0_arrange_85 : decode cX0_arrange 85 = .ok (.invokevirtual 64, 3) := by decide +kernel
theorem dX0_arrange_88 : decode cX0_arrange 88 = .ok (.ifCond .ne 6, 3) := by decide +kernel
theorem dX0_arrange_91 : decode cX0_arrange 91 = .ok (.iinc 2 1, 3) := by decide +kernel
theorem dX0_arrange_94 : decode cX0_arrange 94 = .ok (.iinc 4 1, 3) := by decide +kernel
theorem dX0_arrange_97 : decode cX0_arrange 97 = .ok (.goto (-59), 3) := by decide +kernel
theorem dX0_arrange_100 : decode cX0_arrange 100 = .ok (.iload_n 2, 1) := by decide +kernel
theorem dX0_arrange_101 : decode cX0_arrange 101 = .ok (.ireturn, 1) := by decide +kernel
theorem dX0_findPress_0 : decode cX0_findPress 0 = .ok (.aload_n 1, 1) := by decide +kernel
theorem dX0_findPress_1 : decode cX0_findPress 1 = .ok (.getfield 33, 3) := by decide +kernel
theorem dX0_findPress_4 : decode cX0_findPress 4 = .ok (.astore_n 2, 1) := by decide +kernel
theorem dX0_findPress_5 : decode cX0_findPress 5 = .ok (.iconst 0, 1) := by decide +kernel
theorem dX0_findPress_6 : decode cX0_findPress 6 = .ok (.istore_n 3, 1) := by decide +kernel
theorem dX0_findPress_7 : decode cX0_findPress 7 = .ok (.iload_n 3, 1) := by decide +kernel
theorem dX0_findPress_8 : decode cX0_findPress 8 = .ok (.aload_n 2, 1) := by decide +kernel
theorem dX0_findPress_9 : decode cX0_findPress 9 = .ok (.getfield 37, 3) := by decide +kernel
theorem dX0_findPress_12 : decode cX0_findPress 12 = .ok (.if_icmp .ge 35, 3) := by decide +kernel
theorem dX0_findPress_15 : decode cX0_findPress 15 = .ok (.aload_n 1, 1) := by decide +kernel
theorem dX0_findPress_16 : decode cX0_findPress 16 = .ok (.iload_n 3, 1) := by decide +kernel
theorem dX0_findPress_17 : decode cX0_findPress 17 = .ok (.invokevirtual 68, 3) := by decide +kernel
theorem dX0_findPress_20 : decode cX0_findPress 20 = .ok (.istore 4, 2) := by decide +kernel
theorem dX0_findPress_22 : decode cX0_findPress 22 = .ok (.aload_n 0, 1) := by decide +kernel
theorem dX0_findPress_23 : decode cX0_findPress 23 = .ok (.getfield 11, 3) := by decide +kernel
theorem dX0_findPress_26 : decode cX0_findPress 26 = .ok (.iload_n 3, 1) := by decide +kernel
theorem dX0_findPress_27 : decode cX0_findPress 27 = .ok (.iload 4, 2) := by decide +kernel
theorem dX0_findPress_29 : decode cX0_findPress 29 = .ok (.iconst (-1), 1) := by decide +kernel
theorem dX0_findPress_30 : decode cX0_findPress 30 = .ok (.if_icmp .ne 8, 3) := by decide +kernel
theorem dX0_findPress_33 : decode cX0_findPress 33 = .ok (.ldc 71, 2) := by decide +kernel
theorem dX0_findPress_35 : decode cX0_findPress 35 = .ok (.goto 5, 3) := by decide +kernel
theorem dX0_findPress_38 : decode cX0_findPress 38 = .ok (.iload 4, 2) := by decide +kernel
theorem dX0_findPress_40 : decode cX0_findPress 40 = .ok (.iastore, 1) := by decide +kernel
theorem dX0_findPress_41 : decode cX0_findPress 41 = .ok (.iinc 3 1, 3) := by decide +kernel
theorem dX0_findPress_44 : decode cX0_findPress 44 = .ok (.goto (-37), 3) := by decide +kernel
theorem dX0_findPress_47 : decode cX0_findPress 47 = .ok (.iconst 1, 1) := by decide +kernel
theorem dX0_findPress_48 : decode cX0_findPress 48 = .ok (.istore_n 3, 1) := by decide +kernel
theorem dX0_findPress_49 : decode cX0_findPress 49 = .ok (.iload_n 3, 1) := by decide +kernel
theorem dX0_findPress_50 : decode cX0_findPress 50 = .ok (.aload_n 1, 1) := by decide +kernel
theorem dX0_findPress_51 : decode cX0_findPress 51 = .ok (.getfield 72, 3) := by decide +kernel
theorem dX0_findPress_54 : decode cX0_findPress 54 = .ok (.getfield 76, 3) := by decide +kernel
theorem dX0_findPress_57 : decode cX0_findPress 57 = .ok (.if_icmp .ge 91, 3) := by decide +kernel
theorem dX0_findPress_60 : decode cX0_findPress 60 = .ok (.iconst 0, 1) := by decide +kernel
theorem dX0_findPress_61 : decode cX0_findPress 61 = .ok (.istore 4, 2) := by decide +kernel
theorem dX0_findPress_63 : decode cX0_findPress 63 = .ok (.iload 4, 2) := by decide +kernel
theorem dX0_findPress_65 : decode cX0_findPress 65 = .ok (.aload_n 1, 1) := by decide +kernel
theorem dX0_findPress_66 : decode cX0_findPress 66 = .ok (.getfield 72, 3) := by decide +kernel
theorem dX0_findPress_69 : decode cX0_findPress 69 = .ok (.getfield 81, 3) := by decide +kernel
theorem dX0_findPress_72 : decode cX0_findPress 72 = .ok (.if_icmp .ge 70, 3) := by decide +kernel
theorem dX0_findPress_75 : decode cX0_findPress 75 = .ok (.aload_n 2, 1) := by decide +kernel
theorem dX0_findPress_76 : decode cX0_findPress 76 = .ok (.getfield 84, 3) := by decide +kernel
theorem dX0_findPress_79 : decode cX0_findPress 79 = .ok (.iload 4, 2) := by decide +kernel
theorem dX0_findPress_81 : decode cX0_findPress 81 = .ok (.iload_n 3, 1) := by decide +kernel
theorem dX0_findPress_82 : decode cX0_findPress 82 = .ok (.invokestatic 87, 3) := by decide +kernel
theorem dX0_findPress_85 : decode cX0_findPress 85 = .ok (.iaload, 1) := by decide +kernel
theorem dX0_findPress_86 : decode cX0_findPress 86 = .ok (.istore 5, 2) := by decide +kernel
theorem dX0_findPress_88 : decode cX0_findPress 88 = .ok (.aload_n 2, 1) := by decide +kernel
theorem dX0_findPress_89 : decode cX0_findPress 89 = .ok (.getfield 84, 3) := by decide +kernel
theorem dX0_findPress_92 : decode cX0_findPress 92 = .ok (.iload 4, 2) := by decide +kernel
theorem dX0_findPress_94 : decode cX0_findPress 94 = .ok (.iload_n 3, 1) := by decide +kernel
theorem dX0_findPress_95 : decode cX0_findPress 95 = .ok (.iconst 1, 1) := by decide +kernel
theorem dX0_findPress_96 : decode cX0_findPress 96 = .ok (.isub, 1) := by decide +kernel
theorem dX0_findPress_97 : decode cX0_findPress 97 = .ok (.invokestatic 87, 3) := by decide +kernel
theorem dX0_findPress_100 : decode cX0_findPress 100 = .ok (.iaload, 1) := by decide +kernel
theorem dX0_findPress_101 : decode cX0_findPress 101 = .ok (.istore 6, 2) := by decide +kernel
theorem dX0_findPress_103 : decode cX0_findPress 103 = .ok (.iload 5, 2) := by decide +kernel
theorem dX0_findPress_105 : decode cX0_findPress 105 = .ok (.iload 6, 2) := by decide +kernel
theorem dX0_findPress_107 : decode cX0_findPress 107 = .ok (.if_icmp .eq 29, 3) := by decide +kernel
theorem dX0_findPress_110 : decode cX0_findPress 110 = .ok (.aload_n 0, 1) := by decide +kernel
theorem dX0_findPress_111 : decode cX0_findPress 111 = .ok (.getfield 11, 3) := by decide +kernel
theorem dX0_findPress_114 : decode cX0_findPress 114 = .ok (.iload 5, 2) := by decide +kernel
theorem dX0_findPress_116 : decode cX0_findPress 116 = .ok (.aload_n 0, 1) := by decide +kernel
theorem dX0_findPress_117 : decode cX0_findPress 117 = .ok (.getfield 11, 3) := by decide +kernel
theorem dX0_findPress_120 : decode cX0_findPress 120 = .ok (.iload 5, 2) := by decide +kernel
theorem dX0_findPress_122 : decode cX0_findPress 122 = .ok (.iaload, 1) := by decide +kernel
theorem dX0_findPress_123 : decode cX0_findPress 123 = .ok (.aload_n 0, 1) := by decide +kernel
theorem dX0_findPress_124 : decode cX0_findPress 124 = .ok (.getfield 11, 3) := by decide +kernel
theorem dX0_findPress_127 : decode cX0_findPress 127 = .ok (.iload 6, 2) := by decide +kernel
theorem dX0_findPress_129 : decode cX0_findPress 129 = .ok (.iaload, 1) := by decide +kernel
theorem dX0_findPress_130 : decode cX0_findPress 130 = .ok (.iconst 1, 1) := by decide +kernel
theorem dX0_findPress_131 : decode cX0_findPress 131 = .ok (.isub, 1) := by decide +kernel
theorem dX0_findPress_132 : decode cX0_findPress 132 = .ok (.invokestatic 91, 3) := by decide +kernel
theorem dX0_findPress_135 : decode cX0_findPress 135 = .ok (.iastore, 1) := by decide +kernel
theorem dX0_findPress_136 : decode cX0_findPress 136 = .ok (.iinc 4 1, 3) := by decide +kernel
theorem dX0_findPress_139 : decode cX0_findPress 139 = .ok (.goto (-76), 3) := by decide +kernel
theorem dX0_findPress_142 : decode cX0_findPress 142 = .ok (.iinc 3 1, 3) := by decide +kernel
theorem dX0_findPress_145 : decode cX0_findPress 145 = .ok (.goto (-96), 3) := by decide +kernel
theorem dX0_findPress_148 : decode cX0_findPress 148 = .ok (.return_, 1) := by decide +kernel
theorem dX0_passOverTaken_0 : decode cX0_passOverTaken 0 = .ok (.iconst 0, 1) := by decide +kernel
theorem dX0_passOverTaken_1 : decode cX0_passOverTaken 1 = .ok (.istore_n 2, 1) := by decide +kernel
theorem dX0_passOverTaken_2 : decode cX0_passOverTaken 2 = .ok (.iload_n 2, 1) := by decide +kernel
theorem dX0_passOverTaken_3 : decode cX0_passOverTaken 3 = .ok (.aload_n 1, 1) := by decide +kernel
theorem dX0_passOverTaken_4 : decode cX0_passOverTaken 4 = .ok (.getfield 33, 3) := by decide +kernel
theorem dX0_passOverTaken_7 : decode cX0_passOverTaken 7 = .ok (.getfield 37, 3) := by decide +kernel
theorem dX0_passOverTaken_10 : decode cX0_passOverTaken 10 = .ok (.if_icmp .ge 28, 3) := by decide +kernel
theorem dX0_passOverTaken_13 : decode cX0_passOverTaken 13 = .ok (.aload_n 1, 1) := by decide +kernel
theorem dX0_passOverTaken_14 : decode cX0_passOverTaken 14 = .ok (.getfield 43, 3) := by decide +kernel
theorem dX0_passOverTaken_17 : decode cX0_passOverTaken 17 = .ok (.iload_n 2, 1) := by decide +kernel
theorem dX0_passOverTaken_18 : decode cX0_passOverTaken 18 = .ok (.invokevirtual 96, 3) := by decide +kernel
theorem dX0_passOverTaken_21 : decode cX0_passOverTaken 21 = .ok (.ifCond .eq 11, 3) := by decide +kernel
theorem dX0_passOverTaken_24 : decode cX0_passOverTaken 24 = .ok (.aload_n 0, 1) := by decide +kernel
theorem dX0_passOverTaken_25 : decode cX0_passOverTaken 25 = .ok (.getfield 11, 3) := by decide +kernel
theorem dX0_passOverTaken_28 : decode cX0_passOverTaken 28 = .ok (.iload_n 2, 1) := by decide +kernel
theorem dX0_passOverTaken_29 : decode cX0_passOverTaken 29 = .ok (.ldc 60, 2) := by decide +kernel
theorem dX0_passOverTaken_31 : decode cX0_passOverTaken 31 = .ok (.iastore, 1) := by decide +kernel
theorem dX0_passOverTaken_32 : decode cX0_passOverTaken 32 = .ok (.iinc 2 1, 3) := by decide +kernel
theorem dX0_passOverTaken_35 : decode cX0_passOverTaken 35 = .ok (.goto (-33), 3) := by decide +kernel
theorem dX0_passOverTaken_38 : decode cX0_passOverTaken 38 = .ok (.return_, 1) := by decide +kernel
theorem dX0_mostPressing_0 : decode cX0_mostPressing 0 = .ok (.iconst 0, 1) := by decide +kernel
theorem dX0_mostPressing_1 : decode cX0_mostPressing 1 = .ok (.istore_n 2, 1) := by decide +kernel
theorem dX0_mostPressing_2 : decode cX0_mostPressing 2 = .ok (.iconst 1, 1) := by decide +kernel
theorem dX0_mostPressing_3 : decode cX0_mostPressing 3 = .ok (.istore_n 3, 1) := by decide +kernel
theorem dX0_mostPressing_4 : decode cX0_mostPressing 4 = .ok (.iload_n 3, 1) := by decide +kernel
theorem dX0_mostPressing_5 : decode cX0_mostPressing 5 = .ok (.iload_n 1, 1) := by decide +kernel
theorem dX0_mostPressing_6 : decode cX0_mostPressing 6 = .ok (.if_icmp .ge 26, 3) := by decide +kernel
theorem dX0_mostPressing_9 : decode cX0_mostPressing 9 = .ok (.aload_n 0, 1) := by decide +kernel
theorem dX0_mostPressing_10 : decode cX0_mostPressing 10 = .ok (.getfield 11, 3) := by decide +kernel
theorem dX0_mostPressing_13 : decode cX0_mostPressing 13 = .ok (.iload_n 3, 1) := by decide +kernel
theorem dX0_mostPressing_14 : decode cX0_mostPressing 14 = .ok (.iaload, 1) := by decide +kernel
theorem dX0_mostPressing_15 : decode cX0_mostPressing 15 = .ok (.aload_n 0, 1) := by decide +kernel
theorem dX0_mostPressing_16 : decode cX0_mostPressing 16 = .ok (.getfield 11, 3) := by decide +kernel
theorem dX0_mostPressing_19 : decode cX0_mostPressing 19 = .ok (.iload_n 2, 1) := by decide +kernel
theorem dX0_mostPressing_20 : decode cX0_mostPressing 20 = .ok (.iaload, 1) := by decide +kernel
theorem dX0_mostPressing_21 : decode cX0_mostPressing 21 = .ok (.if_icmp .ge 5, 3) := by decide +kernel
theorem dX0_mostPressing_24 : decode cX0_mostPressing 24 = .ok (.iload_n 3, 1) := by decide +kernel
theorem dX0_mostPressing_25 : decode cX0_mostPressing 25 = .ok (.istore_n 2, 1) := by decide +kernel
theorem dX0_mostPressing_26 : decode cX0_mostPressing 26 = .ok (.iinc 3 1, 3) := by decide +kernel
theorem dX0_mostPressing_29 : decode cX0_mostPressing 29 = .ok (.goto (-25), 3) := by decide +kernel
theorem dX0_mostPressing_32 : decode cX0_mostPressing 32 = .ok (.iload_n 2, 1) := by decide +kernel
theorem dX0_mostPressing_33 : decode cX0_mostPressing 33 = .ok (.ireturn, 1) := by decide +kernel
theorem dX1_init_0 : decode cX1_init 0 = .ok (.aload_n 0, 1) := by decide +kernel
theorem dX1_init_1 : decode cX1_init 1 = .ok (.invokespecial 3, 3) := by decide +kernel
theorem dX1_init_4 : decode cX1_init 4 = .ok (.aload_n 0, 1) := by decide +kernel
theorem dX1_init_5 : decode cX1_init 5 = .ok (.bipush 64, 2) := by decide +kernel
theorem dX1_init_7 : decode cX1_init 7 = .ok (.newarray .int, 2) := by decide +kernel
theorem dX1_init_9 : decode cX1_init 9 = .ok (.putfield 9, 3) := by decide +kernel
theorem dX1_init_12 : decode cX1_init 12 = .ok (.return_, 1) := by decide +kernel
theorem dX1_clear_0 : decode cX1_clear 0 = .ok (.aload_n 0, 1) := by decide +kernel
theorem dX1_clear_1 : decode cX1_clear 1 = .ok (.iconst 0, 1) := by decide +kernel
theorem dX1_clear_2 : decode cX1_clear 2 = .ok (.putfield 15, 3) := by decide +kernel
theorem dX1_clear_5 : decode cX1_clear 5 = .ok (.return_, 1) := by decide +kernel
theorem dX1_add_0 : decode cX1_add 0 = .ok (.aload_n 0, 1) := by decide +kernel
theorem dX1_add_1 : decode cX1_add 1 = .ok (.getfield 15, 3) := by decide +kernel
theorem dX1_add_4 : decode cX1_add 4 = .ok (.bipush 64, 2) := by decide +kernel
theorem dX1_add_6 : decode cX1_add 6 = .ok (.if_icmp .ge 23, 3) := by decide +kernel
theorem dX1_add_9 : decode cX1_add 9 = .ok (.aload_n 0, 1) := by decide +kernel
theorem dX1_add_10 : decode cX1_add 10 = .ok (.getfield 9, 3) := by decide +kernel
theorem dX1_add_13 : decode cX1_add 13 = .ok (.aload_n 0, 1) := by decide +kernel
theorem dX1_add_14 : decode cX1_add 14 = .ok (.getfield 15, 3) := by decide +kernel
theorem dX1_add_17 : decode cX1_add 17 = .ok (.iload_n 1, 1) := by decide +kernel
theorem dX1_add_18 : decode cX1_add 18 = .ok (.iastore, 1) := by decide +kernel
theorem dX1_add_19 : decode cX1_add 19 = .ok (.aload_n 0, 1) := by decide +kernel
theorem dX1_add_20 : decode cX1_add 20 = .ok (.dup, 1) := by decide +kernel
theorem dX1_add_21 : decode cX1_add 21 = .ok (.getfield 15, 3) := by decide +kernel
theorem dX1_add_24 : decode cX1_add 24 = .ok (.iconst 1, 1) := by decide +kernel
theorem dX1_add_25 : decode cX1_add 25 = .ok (.iadd, 1) := by decide +kernel
theorem dX1_add_26 : decode cX1_add 26 = .ok (.putfield 15, 3) := by decide +kernel
theorem dX1_add_29 : decode cX1_add 29 = .ok (.return_, 1) := by decide +kernel
theorem dX1_become_0 : decode cX1_become 0 = .ok (.aload_n 0, 1) := by decide +kernel
theorem dX1_become_1 : decode cX1_become 1 = .ok (.aload_n 1, 1) := by decide +kernel
theorem dX1_become_2 : decode cX1_become 2 = .ok (.getfield 15, 3) := by decide +kernel
theorem dX1_become_5 : decode cX1_become 5 = .ok (.putfield 15, 3) := by decide +kernel
theorem dX1_become_8 : decode cX1_become 8 = .ok (.aload_n 1, 1) := by decide +kernel
theorem dX1_become_9 : decode cX1_become 9 = .ok (.getfield 9, 3) := by decide +kernel
theorem dX1_become_12 : decode cX1_become 12 = .ok (.aload_n 0, 1) := by decide +kernel
theorem dX1_become_13 : decode cX1_become 13 = .ok (.getfield 9, 3) := by decide +kernel
theorem dX1_become_16 : decode cX1_become 16 = .ok (.invokestatic 19, 3) := by decide +kernel
theorem dX1_become_19 : decode cX1_become 19 = .ok (.return_, 1) := by decide +kernel
theorem dX2_init_0 : decode cX2_init 0 = .ok (.aload_n 0, 1) := by decide +kernel
theorem dX2_init_1 : decode cX2_init 1 = .ok (.invokespecial 3, 3) := by decide +kernel
theorem dX2_init_4 : decode cX2_init 4 = .ok (.aload_n 0, 1) := by decide +kernel
theorem dX2_init_5 : decode cX2_init 5 = .ok (.bipush 64, 2) := by decide +kernel
theorem dX2_init_7 : decode cX2_init 7 = .ok (.newarray .int, 2) := by decide +kernel
theorem dX2_init_9 : decode cX2_init 9 = .ok (.putfield 9, 3) := by decide +kernel
theorem dX2_init_12 : decode cX2_init 12 = .ok (.aload_n 0, 1) := by decide +kernel
theorem dX2_init_13 : decode cX2_init 13 = .ok (.bipush 64, 2) := by decide +kernel
theorem dX2_init_15 : decode cX2_init 15 = .ok (.newarray .int, 2) := by decide +kernel
theorem dX2_init_17 : decode cX2_init 17 = .ok (.putfield 15, 3) := by decide +kernel
theorem dX2_init_20 : decode cX2_init 20 = .ok (.aload_n 0, 1) := by decide +kernel
theorem dX2_init_21 : decode cX2_init 21 = .ok (.bipush 64, 2) := by decide +kernel
theorem dX2_init_23 : decode cX2_init 23 = .ok (.newarray .int, 2) := by decide +kernel
theorem dX2_init_25 : decode cX2_init 25 = .ok (.putfield 18, 3) := by decide +kernel
theorem dX2_init_28 : decode cX2_init 28 = .ok (.aload_n 0, 1) := by decide +kernel
theorem dX2_init_29 : decode cX2_init 29 = .ok (.bipush 64, 2) := by decide +kernel
theorem dX2_init_31 : decode cX2_init 31 = .ok (.newarray .int, 2) := by decide +kernel
theorem dX2_init_33 : decode cX2_init 33 = .ok (.putfield 21, 3) := by decide +kernel
theorem dX2_init_36 : decode cX2_init 36 = .ok (.aload_n 0, 1) := by decide +kernel
theorem dX2_init_37 : decode cX2_init 37 = .ok (.bipush 64, 2) := by decide +kernel
theorem dX2_init_39 : decode cX2_init 39 = .ok (.newarray .int, 2) := by decide +kernel
theorem dX2_init_41 : decode cX2_init 41 = .ok (.putfield 24, 3) := by decide +kernel
theorem dX2_init_44 : decode cX2_init 44 = .ok (.aload_n 0, 1) := by decide +kernel
theorem dX2_init_45 : decode cX2_init 45 = .ok (.bipush 64, 2) := by decide +kernel
theorem dX2_init_47 : decode cX2_init 47 = .ok (.newarray .int, 2) := by decide +kernel
theorem dX2_init_49 : decode cX2_init 49 = .ok (.putfield 27, 3) := by decide +kernel
theorem dX2_init_52 : decode cX2_init 52 = .ok (.return_, 1) := by decide +kernel
theorem dX2_drop_0 : decode cX2_drop 0 = .ok (.aload_n 0, 1) := by decide +kernel
theorem dX2_drop_1 : decode cX2_drop 1 = .ok (.iconst 0, 1) := by decide +kernel
theorem dX2_drop_2 : decode cX2_drop 2 = .ok (.putfield 30, 3) := by decide +kernel
theorem dX2_drop_5 : decode cX2_drop 5 = .ok (.aload_n 0, 1) := by decide +kernel
theorem dX2_drop_6 : decode cX2_drop 6 = .ok (.iconst 0, 1) := by decide +kernel
theorem dX2_drop_7 : decode cX2_drop 7 = .ok (.putfield 34, 3) := by decide +kernel
theorem dX2_drop_10 : decode cX2_drop 10 = .ok (.return_, 1) := by decide +kernel
theorem dX2_has_0 : decode cX2_has 0 = .ok (.iload_n 1, 1) := by decide +kernel
theorem dX2_has_1 : decode cX2_has 1 = .ok (.iconst 0, 1) := by decide +kernel
theorem dX2_has_2 : decode cX2_has 2 = .ok (.aload_n 0, 1) := by decide +kernel
theorem dX2_has_3 : decode cX2_has 3 = .ok (.getfield 30, 3) := by decide +kernel
theorem dX2_has_6 : decode cX2_has 6 = .ok (.iconst 1, 1) := by decide +kernel
theorem dX2_has_7 : decode cX2_has 7 = .ok (.isub, 1) := by decide +kernel
theorem dX2_has_8 : decode cX2_has 8 = .ok (.invokestatic 37, 3) := by decide +kernel
theorem dX2_has_11 : decode cX2_has 11 = .ok (.ireturn, 1) := by decide +kernel
theorem dX2_isAbove_0 : decode cX2_isAbove 0 = .ok (.aload_n 0, 1) := by decide +kernel
theorem dX2_isAbove_1 : decode cX2_isAbove 1 = .ok (.getfield 15, 3) := by decide +kernel
theorem dX2_isAbove_4 : decode cX2_isAbove 4 = .ok (.iload_n 1, 1) := by decide +kernel
theorem dX2_isAbove_5 : decode cX2_isAbove 5 = .ok (.iaload, 1) := by decide +kernel
theorem dX2_isAbove_6 : decode cX2_isAbove 6 = .ok (.aload_n 0, 1) := by decide +kernel
theorem dX2_isAbove_7 : decode cX2_isAbove 7 = .ok (.getfield 15, 3) := by decide +kernel
theorem dX2_isAbove_10 : decode cX2_isAbove 10 = .ok (.iload_n 2, 1) := by decide +kernel
theorem dX2_isAbove_11 : decode cX2_isAbove 11 = .ok (.iaload, 1) := by decide +kernel
theorem dX2_isAbove_12 : decode cX2_isAbove 12 = .ok (.aload_n 0, 1) := by decide +kernel
theorem dX2_isAbove_13 : decode cX2_isAbove 13 = .ok (.getfield 21, 3) := by decide +kernel
theorem dX2_isAbove_16 : decode cX2_isAbove 16 = .ok (.iload_n 2, 1) := by decide +kernel
theorem dX2_isAbove_17 : decode cX2_isAbove 17 = .ok (.iaload, 1) := by decide +kernel
theorem dX2_isAbove_18 : decode cX2_isAbove 18 = .ok (.iadd, 1) := by decide +kernel
theorem dX2_isAbove_19 : decode cX2_isAbove 19 = .ok (.if_icmp .ne 51, 3) := by decide +kernel
theorem dX2_isAbove_22 : decode cX2_isAbove 22 = .ok (.aload_n 0, 1) := by decide +kernel
theorem dX2_isAbove_23 : decode cX2_isAbove 23 = .ok (.getfield 9, 3) := by decide +kernel
theorem dX2_isAbove_26 : decode cX2_isAbove 26 = .ok (.iload_n 1, 1) := by decide +kernel
theorem dX2_isAbove_27 : decode cX2_isAbove 27 = .ok (.iaload, 1) := by decide +kernel
theorem dX2_isAbove_28 : decode cX2_isAbove 28 = .ok (.aload_n 0, 1) := by decide +kernel
theorem dX2_isAbove_29 : decode cX2_isAbove 29 = .ok (.getfield 9, 3) := by decide +kernel
theorem dX2_isAbove_32 : decode cX2_isAbove 32 = .ok (.iload_n 2, 1) := by decide +kernel
theorem dX2_isAbove_33 : decode cX2_isAbove 33 = .ok (.iaload, 1) := by decide +kernel
theorem dX2_isAbove_34 : decode cX2_isAbove 34 = .ok (.aload_n 0, 1) := by decide +kernel
theorem dX2_isAbove_35 : decode cX2_isAbove 35 = .ok (.getfield 18, 3) := by decide +kernel
theorem dX2_isAbove_38 : decode cX2_isAbove 38 = .ok (.iload_n 2, 1) := by decide +kernel
theorem dX2_isAbove_39 : decode cX2_isAbove 39 = .ok (.iaload, 1) := by decide +kernel
theorem dX2_isAbove_40 : decode cX2_isAbove 40 = .ok (.iadd, 1) := by decide +kernel
theorem dX2_isAbove_41 : decode cX2_isAbove 41 = .ok (.if_icmp .ge 29, 3) := by decide +kernel
theorem dX2_isAbove_44 : decode cX2_isAbove 44 = .ok (.aload_n 0, 1) := by decide +kernel
theorem dX2_isAbove_45 : decode cX2_isAbove 45 = .ok (.getfield 9, 3) := by decide +kernel
theorem dX2_isAbove_48 : decode cX2_isAbove 48 = .ok (.iload_n 2, 1) := by decide +kernel
theorem dX2_isAbove_49 : decode cX2_isAbove 49 = .ok (.iaload, 1) := by decide +kernel
theorem dX2_isAbove_50 : decode cX2_isAbove 50 = .ok (.aload_n 0, 1) := by decide +kernel
theorem dX2_isAbove_51 : decode cX2_isAbove 51 = .ok (.getfield 9, 3) := by decide +kernel
theorem dX2_isAbove_54 : decode cX2_isAbove 54 = .ok (.iload_n 1, 1) := by decide +kernel
theorem dX2_isAbove_55 : decode cX2_isAbove 55 = .ok (.iaload, 1) := by decide +kernel
theorem dX2_isAbove_56 : decode cX2_isAbove 56 = .ok (.aload_n 0, 1) := by decide +kernel
theorem dX2_isAbove_57 : decode cX2_isAbove 57 = .ok (.getfield 18, 3) := by decide +kernel
theorem dX2_isAbove_60 : decode cX2_isAbove 60 = .ok (.iload_n 1, 1) := by decide +kernel
theorem dX2_isAbove_61 : decode cX2_isAbove 61 = .ok (.iaload, 1) := by decide +kernel
theorem dX2_isAbove_62 : decode cX2_isAbove 62 = .ok (.iadd, 1) := by decide +kernel
theorem dX2_isAbove_63 : decode cX2_isAbove 63 = .ok (.if_icmp .ge 7, 3) := by decide +kernel
theorem dX2_isAbove_66 : decode cX2_isAbove 66 = .ok (.iconst 1, 1) := by decide +kernel
theorem dX2_isAbove_67 : decode cX2_isAbove 67 = .ok (.goto 4, 3) := by decide +kernel
theorem dX2_isAbove_70 : decode cX2_isAbove 70 = .ok (.iconst 0, 1) := by decide +kernel
theorem dX2_isAbove_71 : decode cX2_isAbove 71 = .ok (.ireturn, 1) := by decide +kernel
theorem dX2_startWith_0 : decode cX2_startWith 0 = .ok (.aload_n 0, 1) := by decide +kernel
theorem dX2_startWith_1 : decode cX2_startWith 1 = .ok (.iconst 1, 1) := by decide +kernel
theorem dX2_startWith_2 : decode cX2_startWith 2 = .ok (.putfield 30, 3) := by decide +kernel
theorem dX2_startWith_5 : decode cX2_startWith 5 = .ok (.aload_n 0, 1) := by decide +kernel
theorem dX2_startWith_6 : decode cX2_startWith 6 = .ok (.iconst 0, 1) := by decide +kernel
theorem dX2_startWith_7 : decode cX2_startWith 7 = .ok (.putfield 34, 3) := by decide +kernel
theorem dX2_startWith_10 : decode cX2_startWith 10 = .ok (.aload_n 0, 1) := by decide +kernel
theorem dX2_startWith_11 : decode cX2_startWith 11 = .ok (.getfield 9, 3) := by decide +kernel
theorem dX2_startWith_14 : decode cX2_startWith 14 = .ok (.iconst 0, 1) := by decide +kernel
theorem dX2_startWith_15 : decode cX2_startWith 15 = .ok (.iconst 0, 1) := by decide +kernel
theorem dX2_startWith_16 : decode cX2_startWith 16 = .ok (.iastore, 1) := by decide +kernel
theorem dX2_startWith_17 : decode cX2_startWith 17 = .ok (.aload_n 0, 1) := by decide +kernel
theorem dX2_startWith_18 : decode cX2_startWith 18 = .ok (.getfield 15, 3) := by decide +kernel
theorem dX2_startWith_21 : decode cX2_startWith 21 = .ok (.iconst 0, 1) := by decide +kernel
theorem dX2_startWith_22 : decode cX2_startWith 22 = .ok (.iconst 0, 1) := by decide +kernel
theorem dX2_startWith_23 : decode cX2_startWith 23 = .ok (.iastore, 1) := by decide +kernel
theorem dX2_startWith_24 : decode cX2_startWith 24 = .ok (.aload_n 0, 1) := by decide +kernel
theorem dX2_startWith_25 : decode cX2_startWith 25 = .ok (.getfield 18, 3) := by decide +kernel
theorem dX2_startWith_28 : decode cX2_startWith 28 = .ok (.iconst 0, 1) := by decide +kernel
theorem dX2_startWith_29 : decode cX2_startWith 29 = .ok (.iload_n 1, 1) := by decide +kernel
theorem dX2_startWith_30 : decode cX2_startWith 30 = .ok (.iastore, 1) := by decide +kernel
theorem dX2_startWith_31 : decode cX2_startWith 31 = .ok (.aload_n 0, 1) := by decide +kernel
theorem dX2_startWith_32 : decode cX2_startWith 32 = .ok (.getfield 21, 3) := by decide +kernel
theorem dX2_startWith_35 : decode cX2_startWith 35 = .ok (.iconst 0, 1) := by decide +kernel
theorem dX2_startWith_36 : decode cX2_startWith 36 = .ok (.iload_n 2, 1) := by decide +kernel
theorem dX2_startWith_37 : decode cX2_startWith 37 = .ok (.iastore, 1) := by decide +kernel
theorem dX2_startWith_38 : decode cX2_startWith 38 = .ok (.return_, 1) := by decide +kernel
theorem dX2_cutUpright_0 : decode cX2_cutUpright 0 = .ok (.aload_n 0, 1) := by decide +kernel
theorem dX2_cutUpright_1 : decode cX2_cutUpright 1 = .ok (.iload_n 1, 1) := by decide +kernel
theorem dX2_cutUpright_2 : decode cX2_cutUpright 2 = .ok (.invokevirtual 41, 3) := by decide +kernel
theorem dX2_cutUpright_5 : decode cX2_cutUpright 5 = .ok (.aload_n 0, 1) := by decide +kernel
theorem dX2_cutUpright_6 : decode cX2_cutUpright 6 = .ok (.getfield 18, 3) := by decide +kernel
theorem dX2_cutUpright_9 : decode cX2_cutUpright 9 = .ok (.iload_n 1, 1) := by decide +kernel
theorem dX2_cutUpright_10 : decode cX2_cutUpright 10 = .ok (.iload_n 2, 1) := by decide +kernel
theorem dX2_cutUpright_11 : decode cX2_cutUpright 11 = .ok (.iconst 1, 1) := by decide +kernel
theorem dX2_cutUpright_12 : decode cX2_cutUpright 12 = .ok (.iadd, 1) := by decide +kernel
theorem dX2_cutUpright_13 : decode cX2_cutUpright 13 = .ok (.aload_n 0, 1) := by decide +kernel
theorem dX2_cutUpright_14 : decode cX2_cutUpright 14 = .ok (.getfield 9, 3) := by decide +kernel
theorem dX2_cutUpright_17 : decode cX2_cutUpright 17 = .ok (.iload_n 1, 1) := by decide +kernel
theorem dX2_cutUpright_18 : decode cX2_cutUpright 18 = .ok (.iaload, 1) := by decide +kernel
theorem dX2_cutUpright_19 : decode cX2_cutUpright 19 = .ok (.isub, 1) := by decide +kernel
theorem dX2_cutUpright_20 : decode cX2_cutUpright 20 = .ok (.iastore, 1) := by decide +kernel
theorem dX2_cutUpright_21 : decode cX2_cutUpright 21 = .ok (.aload_n 0, 1) := by decide +kernel
theorem dX2_cutUpright_22 : decode cX2_cutUpright 22 = .ok (.getfield 9, 3) := by decide +kernel
theorem dX2_cutUpright_25 : decode cX2_cutUpright 25 = .ok (.iload_n 1, 1) := by decide +kernel
theorem dX2_cutUpright_26 : decode cX2_cutUpright 26 = .ok (.iconst 1, 1) := by decide +kernel
theorem dX2_cutUpright_27 : decode cX2_cutUpright 27 = .ok (.iadd, 1) := by decide +kernel
theorem dX2_cutUpright_28 : decode cX2_cutUpright 28 = .ok (.iload_n 2, 1) := by decide +kernel
theorem dX2_cutUpright_29 : decode cX2_cutUpright 29 = .ok (.iconst 1, 1) := by decide +kernel
theorem dX2_cutUpright_30 : decode cX2_cutUpright 30 = .ok (.iadd, 1) := by decide +kernel
theorem dX2_cutUpright_31 : decode cX2_cutUpright 31 = .ok (.iastore, 1) := by decide +kernel
theorem dX2_cutUpright_32 : decode cX2_cutUpright 32 = .ok (.aload_n 0, 1) := by decide +kernel
theorem dX2_cutUpright_33 : decode cX2_cutUpright 33 = .ok (.getfield 18, 3) := by decide +kernel
theorem dX2_cutUpright_36 : decode cX2_cutUpright 36 = .ok (.iload_n 1, 1) := by decide +kernel
theorem dX2_cutUpright_37 : decode cX2_cutUpright 37 = .ok (.iconst 1, 1) := by decide +kernel
theorem dX2_cutUpright_38 : decode cX2_cutUpright 38 = .ok (.iadd, 1) := by decide +kernel
theorem dX2_cutUpright_39 : decode cX2_cutUpright 39 = .ok (.dup2, 1) := by decide +kernel
theorem dX2_cutUpright_40 : decode cX2_cutUpright 40 = .ok (.iaload, 1) := by decide +kernel
theorem dX2_cutUpright_41 : decode cX2_cutUpright 41 = .ok (.aload_n 0, 1) := by decide +kernel
theorem dX2_cutUpright_42 : decode cX2_cutUpright 42 = .ok (.getfield 18, 3) := by decide +kernel
theorem dX2_cutUpright_45 : decode cX2_cutUpright 45 = .ok (.iload_n 1, 1) := by decide +kernel
theorem dX2_cutUpright_46 : decode cX2_cutUpright 46 = .ok (.iaload, 1) := by decide +kernel
theorem dX2_cutUpright_47 : decode cX2_cutUpright 47 = .ok (.isub, 1) := by decide +kernel
theorem dX2_cutUpright_48 : decode cX2_cutUpright 48 = .ok (.iastore, 1) := by decide +kernel
theorem dX2_cutUpright_49 : decode cX2_cutUpright 49 = .ok (.aload_n 0, 1) := by decide +kernel
theorem dX2_cutUpright_50 : decode cX2_cutUpright 50 = .ok (.dup, 1) := by decide +kernel
theorem dX2_cutUpright_51 : decode cX2_cutUpright 51 = .ok (.getfield 34, 3) := by decide +kernel
theorem dX2_cutUpright_54 : decode cX2_cutUpright 54 = .ok (.aload_n 0, 1) := by decide +kernel
theorem dX2_cutUpright_55 : decode cX2_cutUpright 55 = .ok (.getfield 21, 3) := by decide +kernel
theorem dX2_cutUpright_58 : decode cX2_cutUpright 58 = .ok (.iload_n 1, 1) := by decide +kernel
theorem dX2_cutUpright_59 : decode cX2_cutUpright 59 = .ok (.iaload, 1) := by decide +kernel
theorem dX2_cutUpright_60 : decode cX2_cutUpright 60 = .ok (.iadd, 1) := by decide +kernel
theorem dX2_cutUpright_61 : decode cX2_cutUpright 61 = .ok (.putfield 34, 3) := by decide +kernel
theorem dX2_cutUpright_64 : decode cX2_cutUpright 64 = .ok (.return_, 1) := by decide +kernel
theorem dX2_cutLevel_0 : decode cX2_cutLevel 0 = .ok (.aload_n 0, 1) := by decide +kernel
theorem dX2_cutLevel_1 : decode cX2_cutLevel 1 = .ok (.iload_n 1, 1) := by decide +kernel
theorem dX2_cutLevel_2 : decode cX2_cutLevel 2 = .ok (.invokevirtual 41, 3) := by decide +kernel
theorem dX2_cutLevel_5 : decode cX2_cutLevel 5 = .ok (.aload_n 0, 1) := by decide +kernel
theorem dX2_cutLevel_6 : decode cX2_cutLevel 6 = .ok (.getfield 21, 3) := by decide +kernel
theorem dX2_cutLevel_9 : decode cX2_cutLevel 9 = .ok (.iload_n 1, 1) := by decide +kernel
theorem dX2_cutLevel_10 : decode cX2_cutLevel 10 = .ok (.iload_n 2, 1) := by decide +kernel
theorem dX2_cutLevel_11 : decode cX2_cutLevel 11 = .ok (.iconst 1, 1) := by decide +kernel
theorem dX2_cutLevel_12 : decode cX2_cutLevel 12 = .ok (.iadd, 1) := by decide +kernel
theorem dX2_cutLevel_13 : decode cX2_cutLevel 13 = .ok (.aload_n 0, 1) := by decide +kernel
theorem dX2_cutLevel_14 : decode cX2_cutLevel 14 = .ok (.getfield 15, 3) := by decide +kernel
theorem dX2_cutLevel_17 : decode cX2_cutLevel 17 = .ok (.iload_n 1, 1) := by decide +kernel
theorem dX2_cutLevel_18 : decode cX2_cutLevel 18 = .ok (.iaload, 1) := by decide +kernel
theorem dX2_cutLevel_19 : decode cX2_cutLevel 19 = .ok (.isub, 1) := by decide +kernel
theorem dX2_cutLevel_20 : decode cX2_cutLevel 20 = .ok (.iastore, 1) := by decide +kernel
theorem dX2_cutLevel_21 : decode cX2_cutLevel 21 = .ok (.aload_n 0, 1) := by decide +kernel
theorem dX2_cutLevel_22 : decode cX2_cutLevel 22 = .ok (.getfield 15, 3) := by decide +kernel
theorem dX2_cutLevel_25 : decode cX2_cutLevel 25 = .ok (.iload_n 1, 1) := by decide +kernel
theorem dX2_cutLevel_26 : decode cX2_cutLevel 26 = .ok (.iconst 1, 1) := by decide +kernel
theorem dX2_cutLevel_27 : decode cX2_cutLevel 27 = .ok (.iadd, 1) := by decide +kernel
theorem dX2_cutLevel_28 : decode cX2_cutLevel 28 = .ok (.iload_n 2, 1) := by decide +kernel
theorem dX2_cutLevel_29 : decode cX2_cutLevel 29 = .ok (.iconst 1, 1) := by decide +kernel
theorem dX2_cutLevel_30 : decode cX2_cutLevel 30 = .ok (.iadd, 1) := by decide +kernel
theorem dX2_cutLevel_31 : decode cX2_cutLevel 31 = .ok (.iastore, 1) := by decide +kernel
theorem dX2_cutLevel_32 : decode cX2_cutLevel 32 = .ok (.aload_n 0, 1) := by decide +kernel
theorem dX2_cutLevel_33 : decode cX2_cutLevel 33 = .ok (.getfield 21, 3) := by decide +kernel
theorem dX2_cutLevel_36 : decode cX2_cutLevel 36 = .ok (.iload_n 1, 1) := by decide +kernel
theorem dX2_cutLevel_37 : decode cX2_cutLevel 37 = .ok (.iconst 1, 1) := by decide +kernel
theorem dX2_cutLevel_38 : decode cX2_cutLevel 38 = .ok (.iadd, 1) := by decide +kernel
theorem dX2_cutLevel_39 : decode cX2_cutLevel 39 = .ok (.dup2, 1) := by decide +kernel
theorem dX2_cutLevel_40 : decode cX2_cutLevel 40 = .ok (.iaload, 1) := by decide +kernel
theorem dX2_cutLevel_41 : decode cX2_cutLevel 41 = .ok (.aload_n 0, 1) := by decide +kernel
theorem dX2_cutLevel_42 : decode cX2_cutLevel 42 = .ok (.getfield 21, 3) := by decide +kernel
theorem dX2_cutLevel_45 : decode cX2_cutLevel 45 = .ok (.iload_n 1, 1) := by decide +kernel
theorem dX2_cutLevel_46 : decode cX2_cutLevel 46 = .ok (.iaload, 1) := by decide +kernel
theorem dX2_cutLevel_47 : decode cX2_cutLevel 47 = .ok (.isub, 1) := by decide +kernel
theorem dX2_cutLevel_48 : decode cX2_cutLevel 48 = .ok (.iastore, 1) := by decide +kernel
theorem dX2_cutLevel_49 : decode cX2_cutLevel 49 = .ok (.aload_n 0, 1) := by decide +kernel
theorem dX2_cutLevel_50 : decode cX2_cutLevel 50 = .ok (.dup, 1) := by decide +kernel
theorem dX2_cutLevel_51 : decode cX2_cutLevel 51 = .ok (.getfield 34, 3) := by decide +kernel
theorem dX2_cutLevel_54 : decode cX2_cutLevel 54 = .ok (.aload_n 0, 1) := by decide +kernel
theorem dX2_cutLevel_55 : decode cX2_cutLevel 55 = .ok (.getfield 18, 3) := by decide +kernel
theorem dX2_cutLevel_58 : decode cX2_cutLevel 58 = .ok (.iload_n 1, 1) := by decide +kernel
theorem dX2_cutLevel_59 : decode cX2_cutLevel 59 = .ok (.iaload, 1) := by decide +kernel
theorem dX2_cutLevel_60 : decode cX2_cutLevel 60 = .ok (.iadd, 1) := by decide +kernel
theorem dX2_cutLevel_61 : decode cX2_cutLevel 61 = .ok (.putfield 34, 3) := by decide +kernel
theorem dX2_cutLevel_64 : decode cX2_cutLevel 64 = .ok (.return_, 1) := by decide +kernel
theorem dX2_makeTwo_0 : decode cX2_makeTwo 0 = .ok (.aload_n 0, 1) := by decide +kernel
theorem dX2_makeTwo_1 : decode cX2_makeTwo 1 = .ok (.aload_n 0, 1) := by decide +kernel
theorem dX2_makeTwo_2 : decode cX2_makeTwo 2 = .ok (.getfield 9, 3) := by decide +kernel
theorem dX2_makeTwo_5 : decode cX2_makeTwo 5 = .ok (.iload_n 1, 1) := by decide +kernel
theorem dX2_makeTwo_6 : decode cX2_makeTwo 6 = .ok (.invokevirtual 45, 3) := by decide +kernel
theorem dX2_makeTwo_9 : decode cX2_makeTwo 9 = .ok (.aload_n 0, 1) := by decide +kernel
theorem dX2_makeTwo_10 : decode cX2_makeTwo 10 = .ok (.aload_n 0, 1) := by decide +kernel
theorem dX2_makeTwo_11 : decode cX2_makeTwo 11 = .ok (.getfield 15, 3) := by decide +kernel
theorem dX2_makeTwo_14 : decode cX2_makeTwo 14 = .ok (.iload_n 1, 1) := by decide +kernel
theorem dX2_makeTwo_15 : decode cX2_makeTwo 15 = .ok (.invokevirtual 45, 3) := by decide +kernel
theorem dX2_makeTwo_18 : decode cX2_makeTwo 18 = .ok (.aload_n 0, 1) := by decide +kernel
theorem dX2_makeTwo_19 : decode cX2_makeTwo 19 = .ok (.aload_n 0, 1) := by decide +kernel
theorem dX2_makeTwo_20 : decode cX2_makeTwo 20 = .ok (.getfield 18, 3) := by decide +kernel
theorem dX2_makeTwo_23 : decode cX2_makeTwo 23 = .ok (.iload_n 1, 1) := by decide +kernel
theorem dX2_makeTwo_24 : decode cX2_makeTwo 24 = .ok (.invokevirtual 45, 3) := by decide +kernel
theorem dX2_makeTwo_27 : decode cX2_makeTwo 27 = .ok (.aload_n 0, 1) := by decide +kernel
theorem dX2_makeTwo_28 : decode cX2_makeTwo 28 = .ok (.aload_n 0, 1) := by decide +kernel
theorem dX2_makeTwo_29 : decode cX2_makeTwo 29 = .ok (.getfield 21, 3) := by decide +kernel
theorem dX2_makeTwo_32 : decode cX2_makeTwo 32 = .ok (.iload_n 1, 1) := by decide +kernel
theorem dX2_makeTwo_33 : decode cX2_makeTwo 33 = .ok (.invokevirtual 45, 3) := by decide +kernel
theorem dX2_makeTwo_36 : decode cX2_makeTwo 36 = .ok (.aload_n 0, 1) := by decide +kernel
theorem dX2_makeTwo_37 : decode cX2_makeTwo 37 = .ok (.dup, 1) := by decide +kernel
theorem dX2_makeTwo_38 : decode cX2_makeTwo 38 = .ok (.getfield 30, 3) := by decide +kernel
theorem dX2_makeTwo_41 : decode cX2_makeTwo 41 = .ok (.iconst 1, 1) := by decide +kernel
theorem dX2_makeTwo_42 : decode cX2_makeTwo 42 = .ok (.iadd, 1) := by decide +kernel
theorem dX2_makeTwo_43 : decode cX2_makeTwo 43 = .ok (.putfield 30, 3) := by decide +kernel
theorem dX2_makeTwo_46 : decode cX2_makeTwo 46 = .ok (.return_, 1) := by decide +kernel
theorem dX2_moveUp_0 : decode cX2_moveUp 0 = .ok (.aload_n 1, 1) := by decide +kernel
theorem dX2_moveUp_1 : decode cX2_moveUp 1 = .ok (.iload_n 2, 1) := by decide +kernel
theorem dX2_moveUp_2 : decode cX2_moveUp 2 = .ok (.aload_n 1, 1) := by decide +kernel
theorem dX2_moveUp_3 : decode cX2_moveUp 3 = .ok (.iload_n 2, 1) := by decide +kernel
theorem dX2_moveUp_4 : decode cX2_moveUp 4 = .ok (.iconst 1, 1) := by decide +kernel
theorem dX2_moveUp_5 : decode cX2_moveUp 5 = .ok (.iadd, 1) := by decide +kernel
theorem dX2_moveUp_6 : decode cX2_moveUp 6 = .ok (.aload_n 0, 1) := by decide +kernel
theorem dX2_moveUp_7 : decode cX2_moveUp 7 = .ok (.getfield 30, 3) := by decide +kernel
theorem dX2_moveUp_10 : decode cX2_moveUp 10 = .ok (.iload_n 2, 1) := by decide +kernel
theorem dX2_moveUp_11 : decode cX2_moveUp 11 = .ok (.isub, 1) := by decide +kernel
theorem dX2_moveUp_12 : decode cX2_moveUp 12 = .ok (.invokestatic 49, 3) := by decide +kernel
theorem dX2_moveUp_15 : decode cX2_moveUp 15 = .ok (.return_, 1) := by decide +kernel
theorem dX2_numberCells_0 : decode cX2_numberCells 0 = .ok (.iconst 0, 1) := by decide +kernel
theorem dX2_numberCells_1 : decode cX2_numberCells 1 = .ok (.istore_n 1, 1) := by decide +kernel
theorem dX2_numberCells_2 : decode cX2_numberCells 2 = .ok (.iload_n 1, 1) := by decide +kernel
theorem dX2_numberCells_3 : decode cX2_numberCells 3 = .ok (.aload_n 0, 1) := by decide +kernel
theorem dX2_numberCells_4 : decode cX2_numberCells 4 = .ok (.getfield 30, 3) := by decide +kernel
theorem dX2_numberCells_7 : decode cX2_numberCells 7 = .ok (.if_icmp .ge 14, 3) := by decide +kernel
theorem dX2_numberCells_10 : decode cX2_numberCells 10 = .ok (.aload_n 0, 1) := by decide +kernel
theorem dX2_numberCells_11 : decode cX2_numberCells 11 = .ok (.iload_n 1, 1) := by decide +kernel
theorem dX2_numberCells_12 : decode cX2_numberCells 12 = .ok (.invokevirtual 55, 3) := by decide +kernel
theorem dX2_numberCells_15 : decode cX2_numberCells 15 = .ok (.iinc 1 1, 3) := by decide +kernel
theorem dX2_numberCells_18 : decode cX2_numberCells 18 = .ok (.goto (-16), 3) := by decide +kernel
theorem dX2_numberCells_21 : decode cX2_numberCells 21 = .ok (.return_, 1) := by decide +kernel
theorem dX2_numberCellsOf_0 : decode cX2_numberCellsOf 0 = .ok (.aload_n 0, 1) := by decide +kernel
theorem dX2_numberCellsOf_1 : decode cX2_numberCellsOf 1 = .ok (.getfield 15, 3) := by decide +kernel
theorem dX2_numberCellsOf_4 : decode cX2_numberCellsOf 4 = .ok (.iload_n 1, 1) := by decide +kernel
theorem dX2_numberCellsOf_5 : decode cX2_numberCellsOf 5 = .ok (.iaload, 1) := by decide +kernel
theorem dX2_numberCellsOf_6 : decode cX2_numberCellsOf 6 = .ok (.istore_n 2, 1) := by decide +kernel
theorem dX2_numberCellsOf_7 : decode cX2_numberCellsOf 7 = .ok (.iload_n 2, 1) := by decide +kernel
theorem dX2_numberCellsOf_8 : decode cX2_numberCellsOf 8 = .ok (.aload_n 0, 1) := by decide +kernel
theorem dX2_numberCellsOf_9 : decode cX2_numberCellsOf 9 = .ok (.getfield 15, 3) := by decide +kernel
theorem dX2_numberCellsOf_12 : decode cX2_numberCellsOf 12 = .ok (.iload_n 1, 1) := by decide +kernel
theorem dX2_numberCellsOf_13 : decode cX2_numberCellsOf 13 = .ok (.iaload, 1) := by decide +kernel
theorem dX2_numberCellsOf_14 : decode cX2_numberCellsOf 14 = .ok (.aload_n 0, 1) := by decide +kernel
theorem dX2_numberCellsOf_15 : decode cX2_numberCellsOf 15 = .ok (.getfield 21, 3) := by decide +kernel
theorem dX2_numberCellsOf_18 : decode cX2_numberCellsOf 18 = .ok (.iload_n 1, 1) := by decide +kernel
theorem dX2_numberCellsOf_19 : decode cX2_numberCellsOf 19 = .ok (.iaload, 1) := by decide +kernel
theorem dX2_numberCellsOf_20 : decode cX2_numberCellsOf 20 = .ok (.iadd, 1) := by decide +kernel
theorem dX2_numberCellsOf_21 : decode cX2_numberCellsOf 21 = .ok (.if_icmp .ge 50, 3) := by decide +kernel
theorem dX2_numberCellsOf_24 : decode cX2_numberCellsOf 24 = .ok (.aload_n 0, 1) := by decide +kernel
theorem dX2_numberCellsOf_25 : decode cX2_numberCellsOf 25 = .ok (.getfield 9, 3) := by decide +kernel
theorem dX2_numberCellsOf_28 : decode cX2_numberCellsOf 28 = .ok (.iload_n 1, 1) := by decide +kernel
theorem dX2_numberCellsOf_29 : decode cX2_numberCellsOf 29 = .ok (.iaload, 1) := by decide +kernel
theorem dX2_numberCellsOf_30 : decode cX2_numberCellsOf 30 = .ok (.istore_n 3, 1) := by decide +kernel
theorem dX2_numberCellsOf_31 : decode cX2_numberCellsOf 31 = .ok (.iload_n 3, 1) := by decide +kernel
theorem dX2_numberCellsOf_32 : decode cX2_numberCellsOf 32 = .ok (.aload_n 0, 1) := by decide +kernel
theorem dX2_numberCellsOf_33 : decode cX2_numberCellsOf 33 = .ok (.getfield 9, 3) := by decide +kernel
theorem dX2_numberCellsOf_36 : decode cX2_numberCellsOf 36 = .ok (.iload_n 1, 1) := by decide +kernel
theorem dX2_numberCellsOf_37 : decode cX2_numberCellsOf 37 = .ok (.iaload, 1) := by decide +kernel
theorem dX2_numberCellsOf_38 : decode cX2_numberCellsOf 38 = .ok (.aload_n 0, 1) := by decide +kernel
theorem dX2_numberCellsOf_39 : decode cX2_numberCellsOf 39 = .ok (.getfield 18, 3) := by decide +kernel
theorem dX2_numberCellsOf_42 : decode cX2_numberCellsOf 42 = .ok (.iload_n 1, 1) := by decide +kernel
theorem dX2_numberCellsOf_43 : decode cX2_numberCellsOf 43 = .ok (.iaload, 1) := by decide +kernel
theorem dX2_numberCellsOf_44 : decode cX2_numberCellsOf 44 = .ok (.iadd, 1) := by decide +kernel
theorem dX2_numberCellsOf_45 : decode cX2_numberCellsOf 45 = .ok (.if_icmp .ge 20, 3) := by decide +kernel
theorem dX2_numberCellsOf_48 : decode cX2_numberCellsOf 48 = .ok (.aload_n 0, 1) := by decide +kernel
theorem dX2_numberCellsOf_49 : decode cX2_numberCellsOf 49 = .ok (.getfield 27, 3) := by decide +kernel
theorem dX2_numberCellsOf_52 : decode cX2_numberCellsOf 52 = .ok (.iload_n 3, 1) := by decide +kernel
theorem dX2_numberCellsOf_53 : decode cX2_numberCellsOf 53 = .ok (.iload_n 2, 1) := by decide +kernel
theorem dX2_numberCellsOf_54 : decode cX2_numberCellsOf 54 = .ok (.invokestatic 58, 3) := by decide +kernel
theorem dX2_numberCellsOf_57 : decode cX2_numberCellsOf 57 = .ok (.iload_n 1, 1) := by decide +kernel
theorem dX2_numberCellsOf_58 : decode cX2_numberCellsOf 58 = .ok (.iastore, 1) := by decide +kernel
theorem dX2_numberCellsOf_59 : decode cX2_numberCellsOf 59 = .ok (.iinc 3 1, 3) := by decide +kernel
theorem dX2_numberCellsOf_62 : decode cX2_numberCellsOf 62 = .ok (.goto (-31), 3) := by decide +kernel
theorem dX2_numberCellsOf_65 : decode cX2_numberCellsOf 65 = .ok (.iinc 2 1, 3) := by decide +kernel
theorem dX2_numberCellsOf_68 : decode cX2_numberCellsOf 68 = .ok (.goto (-61), 3) := by decide +kernel
theorem dX2_numberCellsOf_71 : decode cX2_numberCellsOf 71 = .ok (.return_, 1) := by decide +kernel
theorem dX2_findTurns_0 : decode cX2_findTurns 0 = .ok (.iconst 0, 1) := by decide +kernel
theorem dX2_findTurns_1 : decode cX2_findTurns 1 = .ok (.istore_n 3, 1) := by decide +kernel
theorem dX2_findTurns_2 : decode cX2_findTurns 2 = .ok (.iconst 0, 1) := by decide +kernel
theorem dX2_findTurns_3 : decode cX2_findTurns 3 = .ok (.istore 4, 2) := by decide +kernel
theorem dX2_findTurns_5 : decode cX2_findTurns 5 = .ok (.iload 4, 2) := by decide +kernel
theorem dX2_findTurns_7 : decode cX2_findTurns 7 = .ok (.iload_n 2, 1) := by decide +kernel
theorem dX2_findTurns_8 : decode cX2_findTurns 8 = .ok (.if_icmp .ge 73, 3) := by decide +kernel
theorem dX2_findTurns_11 : decode cX2_findTurns 11 = .ok (.iconst 0, 1) := by decide +kernel
theorem dX2_findTurns_12 : decode cX2_findTurns 12 = .ok (.istore 5, 2) := by decide +kernel
theorem dX2_findTurns_14 : decode cX2_findTurns 14 = .ok (.iload 5, 2) := by decide +kernel
theorem dX2_findTurns_16 : decode cX2_findTurns 16 = .ok (.iload_n 1, 1) := by decide +kernel
theorem dX2_findTurns_17 : decode cX2_findTurns 17 = .ok (.if_icmp .ge 58, 3) := by decide +kernel
theorem dX2_findTurns_20 : decode cX2_findTurns 20 = .ok (.aload_n 0, 1) := by decide +kernel
theorem dX2_findTurns_21 : decode cX2_findTurns 21 = .ok (.getfield 27, 3) := by decide +kernel
theorem dX2_findTurns_24 : decode cX2_findTurns 24 = .ok (.iload 5, 2) := by decide +kernel
theorem dX2_findTurns_26 : decode cX2_findTurns 26 = .ok (.iload 4, 2) := by decide +kernel
theorem dX2_findTurns_28 : decode cX2_findTurns 28 = .ok (.invokestatic 58, 3) := by decide +kernel
theorem dX2_findTurns_31 : decode cX2_findTurns 31 = .ok (.iaload, 1) := by decide +kernel
theorem dX2_findTurns_32 : decode cX2_findTurns 32 = .ok (.istore 6, 2) := by decide +kernel
theorem dX2_findTurns_34 : decode cX2_findTurns 34 = .ok (.aload_n 0, 1) := by decide +kernel
theorem dX2_findTurns_35 : decode cX2_findTurns 35 = .ok (.getfield 15, 3) := by decide +kernel
theorem dX2_findTurns_38 : decode cX2_findTurns 38 = .ok (.iload 6, 2) := by decide +kernel
theorem dX2_findTurns_40 : decode cX2_findTurns 40 = .ok (.iaload, 1) := by decide +kernel
theorem dX2_findTurns_41 : decode cX2_findTurns 41 = .ok (.iload 4, 2) := by decide +kernel
theorem dX2_findTurns_43 : decode cX2_findTurns 43 = .ok (.if_icmp .ne 26, 3) := by decide +kernel
theorem dX2_findTurns_46 : decode cX2_findTurns 46 = .ok (.aload_n 0, 1) := by decide +kernel
theorem dX2_findTurns_47 : decode cX2_findTurns 47 = .ok (.getfield 9, 3) := by decide +kernel
theorem dX2_findTurns_50 : decode cX2_findTurns 50 = .ok (.iload 6, 2) := by decide +kernel
theorem dX2_findTurns_52 : decode cX2_findTurns 52 = .ok (.iaload, 1) := by decide +kernel
theorem dX2_findTurns_53 : decode cX2_findTurns 53 = .ok (.iload 5, 2) := by decide +kernel
theorem dX2_findTurns_55 : decode cX2_findTurns 55 = .ok (.if_icmp .ne 14, 3) := by decide +kernel
theorem dX2_findTurns_58 : decode cX2_findTurns 58 = .ok (.aload_n 0, 1) := by decide +kernel
theorem dX2_findTurns_59 : decode cX2_findTurns 59 = .ok (.getfield 24, 3) := by decide +kernel
theorem dX2_findTurns_62 : decode cX2_findTurns 62 = .ok (.iload 6, 2) := by decide +kernel
theorem dX2_findTurns_64 : decode cX2_findTurns 64 = .ok (.iload_n 3, 1) := by decide +kernel
theorem dX2_findTurns_65 : decode cX2_findTurns 65 = .ok (.iastore, 1) := by decide +kernel
theorem dX2_findTurns_66 : decode cX2_findTurns 66 = .ok (.iinc 3 1, 3) := by decide +kernel
theorem dX2_findTurns_69 : decode cX2_findTurns 69 = .ok (.iinc 5 1, 3) := by decide +kernel
theorem dX2_findTurns_72 : decode cX2_findTurns 72 = .ok (.goto (-58), 3) := by decide +kernel
theorem dX2_findTurns_75 : decode cX2_findTurns 75 = .ok (.iinc 4 1, 3) := by decide +kernel
theorem dX2_findTurns_78 : decode cX2_findTurns 78 = .ok (.goto (-73), 3) := by decide +kernel
theorem dX2_findTurns_81 : decode cX2_findTurns 81 = .ok (.return_, 1) := by decide +kernel
theorem dX2_become_0 : decode cX2_become 0 = .ok (.aload_n 0, 1) := by decide +kernel
theorem dX2_become_1 : decode cX2_become 1 = .ok (.aload_n 1, 1) := by decide +kernel
theorem dX2_become_2 : decode cX2_become 2 = .ok (.getfield 30, 3) := by decide +kernel
theorem dX2_become_5 : decode cX2_become 5 = .ok (.putfield 30, 3) := by decide +kernel
theorem dX2_become_8 : decode cX2_become 8 = .ok (.aload_n 0, 1) := by decide +kernel
theorem dX2_become_9 : decode cX2_become 9 = .ok (.aload_n 1, 1) := by decide +kernel
theorem dX2_become_10 : decode cX2_become 10 = .ok (.getfield 34, 3) := by decide +kernel
theorem dX2_become_13 : decode cX2_become 13 = .ok (.putfield 34, 3) := by decide +kernel
theorem dX2_become_16 : decode cX2_become 16 = .ok (.aload_n 1, 1) := by decide +kernel
theorem dX2_become_17 : decode cX2_become 17 = .ok (.getfield 9, 3) := by decide +kernel
theorem dX2_become_20 : decode cX2_become 20 = .ok (.aload_n 0, 1) := by decide +kernel
theorem dX2_become_21 : decode cX2_become 21 = .ok (.getfield 9, 3) := by decide +kernel
theorem dX2_become_24 : decode cX2_become 24 = .ok (.invokestatic 62, 3) := by decide +kernel
theorem dX2_become_27 : decode cX2_become 27 = .ok (.aload_n 1, 1) := by decide +kernel
theorem dX2_become_28 : decode cX2_become 28 = .ok (.getfield 15, 3) := by decide +kernel
theorem dX2_become_31 : decode cX2_become 31 = .ok (.aload_n 0, 1) := by decide +kernel
theorem dX2_become_32 : decode cX2_become 32 = .ok (.getfield 15, 3) := by decide +kernel
theorem dX2_become_35 : decode cX2_become 35 = .ok (.invokestatic 62, 3) := by decide +kernel
theorem dX2_become_38 : decode cX2_become 38 = .ok (.aload_n 1, 1) := by decide +kernel
theorem dX2_become_39 : decode cX2_become 39 = .ok (.getfield 18, 3) := by decide +kernel
theorem dX2_become_42 : decode cX2_become 42 = .ok (.aload_n 0, 1) := by decide +kernel
theorem dX2_become_43 : decode cX2_become 43 = .ok (.getfield 18, 3) := by decide +kernel
theorem dX2_become_46 : decode cX2_become 46 = .ok (.invokestatic 62, 3) := by decide +kernel
theorem dX2_become_49 : decode cX2_become 49 = .ok (.aload_n 1, 1) := by decide +kernel
theorem dX2_become_50 : decode cX2_become 50 = .ok (.getfield 21, 3) := by decide +kernel
theorem dX2_become_53 : decode cX2_become 53 = .ok (.aload_n 0, 1) := by decide +kernel
theorem dX2_become_54 : decode cX2_become 54 = .ok (.getfield 21, 3) := by decide +kernel
theorem dX2_become_57 : decode cX2_become 57 = .ok (.invokestatic 62, 3) := by decide +kernel
theorem dX2_become_60 : decode cX2_become 60 = .ok (.aload_n 1, 1) := by decide +kernel
theorem dX2_become_61 : decode cX2_become 61 = .ok (.getfield 24, 3) := by decide +kernel
theorem dX2_become_64 : decode cX2_become 64 = .ok (.aload_n 0, 1) := by decide +kernel
theorem dX2_become_65 : decode cX2_become 65 = .ok (.getfield 24, 3) := by decide +kernel
theorem dX2_become_68 : decode cX2_become 68 = .ok (.invokestatic 62, 3) := by decide +kernel
theorem dX2_become_71 : decode cX2_become 71 = .ok (.aload_n 1, 1) := by decide +kernel
theorem dX2_become_72 : decode cX2_become 72 = .ok (.getfield 27, 3) := by decide +kernel
theorem dX2_become_75 : decode cX2_become 75 = .ok (.aload_n 0, 1) := by decide +kernel
theorem dX2_become_76 : decode cX2_become 76 = .ok (.getfield 27, 3) := by decide +kernel
theorem dX2_become_79 : decode cX2_become 79 = .ok (.invokestatic 62, 3) := by decide +kernel
theorem dX2_become_82 : decode cX2_become 82 = .ok (.return_, 1) := by decide +kernel
theorem dX3_init_0 : decode cX3_init 0 = .ok (.aload_n 0, 1) := by decide +kernel
theorem dX3_init_1 : decode cX3_init 1 = .ok (.invokespecial 3, 3) := by decide +kernel
theorem dX3_init_4 : decode cX3_init 4 = .ok (.aload_n 0, 1) := by decide +kernel
theorem dX3_init_5 : decode cX3_init 5 = .ok (.bipush 12, 2) := by decide +kernel
theorem dX3_init_7 : decode cX3_init 7 = .ok (.newarray .int, 2) := by decide +kernel
theorem dX3_init_9 : decode cX3_init 9 = .ok (.putfield 9, 3) := by decide +kernel
theorem dX3_init_12 : decode cX3_init 12 = .ok (.return_, 1) := by decide +kernel
theorem dX3_covers_0 : decode cX3_covers 0 = .ok (.iload_n 2, 1) := by decide +kernel
theorem dX3_covers_1 : decode cX3_covers 1 = .ok (.bipush 30, 2) := by decide +kernel
theorem dX3_covers_3 : decode cX3_covers 3 = .ok (.idiv, 1) := by decide +kernel
theorem dX3_covers_4 : decode cX3_covers 4 = .ok (.bipush 11, 2) := by decide +kernel
theorem dX3_covers_6 : decode cX3_covers 6 = .ok (.invokestatic 15, 3) := by decide +kernel
theorem dX3_covers_9 : decode cX3_covers 9 = .ok (.istore_n 3, 1) := by decide +kernel
theorem dX3_covers_10 : decode cX3_covers 10 = .ok (.iload_n 1, 1) := by decide +kernel
theorem dX3_covers_11 : decode cX3_covers 11 = .ok (.aload_n 0, 1) := by decide +kernel
theorem dX3_covers_12 : decode cX3_covers 12 = .ok (.getfield 9, 3) := by decide +kernel
theorem dX3_covers_15 : decode cX3_covers 15 = .ok (.iload_n 3, 1) := by decide +kernel
theorem dX3_covers_16 : decode cX3_covers 16 = .ok (.iaload, 1) := by decide +kernel
theorem dX3_covers_17 : decode cX3_covers 17 = .ok (.if_icmp .ge 7, 3) := by decide +kernel
theorem dX3_covers_20 : decode cX3_covers 20 = .ok (.iconst 1, 1) := by decide +kernel
theorem dX3_covers_21 : decode cX3_covers 21 = .ok (.goto 4, 3) := by decide +kernel
theorem dX3_covers_24 : decode cX3_covers 24 = .ok (.iconst 0, 1) := by decide +kernel
theorem dX3_covers_25 : decode cX3_covers 25 = .ok (.ireturn, 1) := by decide +kernel
theorem dX3_firstDayOver_0 : decode cX3_firstDayOver 0 = .ok (.iconst 0, 1) := by decide +kernel
theorem dX3_firstDayOver_1 : decode cX3_firstDayOver 1 = .ok (.istore_n 2, 1) := by decide +kernel
theorem dX3_firstDayOver_2 : decode cX3_firstDayOver 2 = .ok (.iload_n 2, 1) := by decide +kernel
theorem dX3_firstDayOver_3 : decode cX3_firstDayOver 3 = .ok (.bipush 12, 2) := by decide +kernel
theorem dX3_firstDayOver_5 : decode cX3_firstDayOver 5 = .ok (.if_icmp .ge 24, 3) := by decide +kernel
theorem dX3_firstDayOver_8 : decode cX3_firstDayOver 8 = .ok (.iload_n 1, 1) := by decide +kernel
theorem dX3_firstDayOver_9 : decode cX3_firstDayOver 9 = .ok (.aload_n 0, 1) := by decide +kernel
theorem dX3_firstDayOver_10 : decode cX3_firstDayOver 10 = .ok (.getfield 9, 3) := by decide +kernel
theorem dX3_firstDayOver_13 : decode cX3_firstDayOver 13 = .ok (.iload_n 2, 1) := by decide +kernel
theorem dX3_firstDayOver_14 : decode cX3_firstDayOver 14 = .ok (.iaload, 1) := by decide +kernel
theorem dX3_firstDayOver_15 : decode cX3_firstDayOver 15 = .ok (.if_icmp .ge 8, 3) := by decide +kernel
theorem dX3_firstDayOver_18 : decode cX3_firstDayOver 18 = .ok (.iload_n 2, 1) := by decide +kernel
theorem dX3_firstDayOver_19 : decode cX3_firstDayOver 19 = .ok (.bipush 30, 2) := by decide +kernel
theorem dX3_firstDayOver_21 : decode cX3_firstDayOver 21 = .ok (.imul, 1) := by decide +kernel
theorem dX3_firstDayOver_22 : decode cX3_firstDayOver 22 = .ok (.ireturn, 1) := by decide +kernel
theorem dX3_firstDayOver_23 : decode cX3_firstDayOver 23 = .ok (.iinc 2 1, 3) := by decide +kernel
theorem dX3_firstDayOver_26 : decode cX3_firstDayOver 26 = .ok (.goto (-24), 3) := by decide +kernel
theorem dX3_firstDayOver_29 : decode cX3_firstDayOver 29 = .ok (.iconst (-1), 1) := by decide +kernel
theorem dX3_firstDayOver_30 : decode cX3_firstDayOver 30 = .ok (.ireturn, 1) := by decide +kernel
theorem dX3_become_0 : decode cX3_become 0 = .ok (.aload_n 1, 1) := by decide +kernel
theorem dX3_become_1 : decode cX3_become 1 = .ok (.getfield 9, 3) := by decide +kernel
theorem dX3_become_4 : decode cX3_become 4 = .ok (.aload_n 0, 1) := by decide +kernel
theorem dX3_become_5 : decode cX3_become 5 = .ok (.getfield 9, 3) := by decide +kernel
theorem dX3_become_8 : decode cX3_become 8 = .ok (.invokestatic 21, 3) := by decide +kernel
theorem dX3_become_11 : decode cX3_become 11 = .ok (.return_, 1) := by decide +kernel
theorem dX4_init_0 : decode cX4_init 0 = .ok (.aload_n 0, 1) := by decide +kernel
theorem dX4_init_1 : decode cX4_init 1 = .ok (.invokespecial 3, 3) := by decide +kernel
theorem dX4_init_4 : decode cX4_init 4 = .ok (.aload_n 0, 1) := by decide +kernel
theorem dX4_init_5 : decode cX4_init 5 = .ok (.sipush 1296, 3) := by decide +kernel
theorem dX4_init_8 : decode cX4_init 8 = .ok (.newarray .int, 2) := by decide +kernel
theorem dX4_init_10 : decode cX4_init 10 = .ok (.putfield 11, 3) := by decide +kernel
theorem dX4_init_13 : decode cX4_init 13 = .ok (.aload_n 0, 1) := by decide +kernel
theorem dX4_init_14 : decode cX4_init 14 = .ok (.bipush 81, 2) := by decide +kernel
theorem dX4_init_16 : decode cX4_init 16 = .ok (.newarray .int, 2) := by decide +kernel
theorem dX4_init_18 : decode cX4_init 18 = .ok (.putfield 15, 3) := by decide +kernel
theorem dX4_init_21 : decode cX4_init 21 = .ok (.aload_n 0, 1) := by decide +kernel
theorem dX4_init_22 : decode cX4_init 22 = .ok (.bipush 8, 2) := by decide +kernel
theorem dX4_init_24 : decode cX4_init 24 = .ok (.newarray .int, 2) := by decide +kernel
theorem dX4_init_26 : decode cX4_init 26 = .ok (.putfield 18, 3) := by decide +kernel
theorem dX4_init_29 : decode cX4_init 29 = .ok (.aload_n 0, 1) := by decide +kernel
theorem dX4_init_30 : decode cX4_init 30 = .ok (.bipush 8, 2) := by decide +kernel
theorem dX4_init_32 : decode cX4_init 32 = .ok (.newarray .int, 2) := by decide +kernel
theorem dX4_init_34 : decode cX4_init 34 = .ok (.putfield 21, 3) := by decide +kernel
theorem dX4_init_37 : decode cX4_init 37 = .ok (.return_, 1) := by decide +kernel
theorem dX4_findsPlan_0 : decode cX4_findsPlan 0 = .ok (.aload_n 0, 1) := by decide +kernel
theorem dX4_findsPlan_1 : decode cX4_findsPlan 1 = .ok (.iload_n 2, 1) := by decide +kernel
theorem dX4_findsPlan_2 : decode cX4_findsPlan 2 = .ok (.putfield 24, 3) := by decide +kernel
theorem dX4_findsPlan_5 : decode cX4_findsPlan 5 = .ok (.aload_n 0, 1) := by decide +kernel
theorem dX4_findsPlan_6 : decode cX4_findsPlan 6 = .ok (.aload_n 1, 1) := by decide +kernel
theorem dX4_findsPlan_7 : decode cX4_findsPlan 7 = .ok (.invokevirtual 28, 3) := by decide +kernel
theorem dX4_findsPlan_10 : decode cX4_findsPlan 10 = .ok (.aload_n 0, 1) := by decide +kernel
theorem dX4_findsPlan_11 : decode cX4_findsPlan 11 = .ok (.aload_n 1, 1) := by decide +kernel
theorem dX4_findsPlan_12 : decode cX4_findsPlan 12 = .ok (.invokevirtual 32, 3) := by decide +kernel
theorem dX4_findsPlan_15 : decode cX4_findsPlan 15 = .ok (.iconst 0, 1) := by decide +kernel
theorem dX4_findsPlan_16 : decode cX4_findsPlan 16 = .ok (.istore_n 3, 1) := by decide +kernel
theorem dX4_findsPlan_17 : decode cX4_findsPlan 17 = .ok (.iload_n 3, 1) := by decide +kernel
theorem dX4_findsPlan_18 : decode cX4_findsPlan 18 = .ok (.aload_n 1, 1) := by decide +kernel
theorem dX4_findsPlan_19 : decode cX4_findsPlan 19 = .ok (.getfield 35, 3) := by decide +kernel
theorem dX4_findsPlan_22 : decode cX4_findsPlan 22 = .ok (.if_icmp .ge 34, 3) := by decide +kernel
theorem dX4_findsPlan_25 : decode cX4_findsPlan 25 = .ok (.iload_n 3, 1) := by decide +kernel
theorem dX4_findsPlan_26 : decode cX4_findsPlan 26 = .ok (.istore 4, 2) := by decide +kernel
theorem dX4_findsPlan_28 : decode cX4_findsPlan 28 = .ok (.iload 4, 2) := by decide +kernel
theorem dX4_findsPlan_30 : decode cX4_findsPlan 30 = .ok (.ifCond .lt 20, 3) := by decide +kernel
theorem dX4_findsPlan_33 : decode cX4_findsPlan 33 = .ok (.aload_n 0, 1) := by decide +kernel
theorem dX4_findsPlan_34 : decode cX4_findsPlan 34 = .ok (.iload 4, 2) := by decide +kernel
theorem dX4_findsPlan_36 : decode cX4_findsPlan 36 = .ok (.iload_n 3, 1) := by decide +kernel
theorem dX4_findsPlan_37 : decode cX4_findsPlan 37 = .ok (.aload_n 1, 1) := by decide +kernel
theorem dX4_findsPlan_38 : decode cX4_findsPlan 38 = .ok (.getfield 40, 3) := by decide +kernel
theorem dX4_findsPlan_41 : decode cX4_findsPlan 41 = .ok (.invokevirtual 43, 3) := by decide +kernel
theorem dX4_findsPlan_44 : decode cX4_findsPlan 44 = .ok (.iinc 4 (-1), 3) := by decide +kernel
theorem dX4_findsPlan_47 : decode cX4_findsPlan 47 = .ok (.goto (-19), 3) := by decide +kernel
theorem dX4_findsPlan_50 : decode cX4_findsPlan 50 = .ok (.iinc 3 1, 3) := by decide +kernel
theorem dX4_findsPlan_53 : decode cX4_findsPlan 53 = .ok (.goto (-36), 3) := by decide +kernel
theorem dX4_findsPlan_56 : decode cX4_findsPlan 56 = .ok (.aload_n 0, 1) := by decide +kernel
theorem dX4_findsPlan_57 : decode cX4_findsPlan 57 = .ok (.getfield 11, 3) := by decide +kernel
theorem dX4_findsPlan_60 : decode cX4_findsPlan 60 = .ok (.iconst 0, 1) := by decide +kernel
theorem dX4_findsPlan_61 : decode cX4_findsPlan 61 = .ok (.aload_n 1, 1) := by decide +kernel
theorem dX4_findsPlan_62 : decode cX4_findsPlan 62 = .ok (.getfield 35, 3) := by decide +kernel
theorem dX4_findsPlan_65 : decode cX4_findsPlan 65 = .ok (.iconst 1, 1) := by decide +kernel
theorem dX4_findsPlan_66 : decode cX4_findsPlan 66 = .ok (.isub, 1) := by decide +kernel
theorem dX4_findsPlan_67 : decode cX4_findsPlan 67 = .ok (.iconst 0, 1) := by decide +kernel
theorem dX4_findsPlan_68 : decode cX4_findsPlan 68 = .ok (.aload_n 1, 1) := by decide +kernel
theorem dX4_findsPlan_69 : decode cX4_findsPlan 69 = .ok (.getfield 40, 3) := by decide +kernel
theorem dX4_findsPlan_72 : decode cX4_findsPlan 72 = .ok (.iconst 1, 1) := by decide +kernel
theorem dX4_findsPlan_73 : decode cX4_findsPlan 73 = .ok (.isub, 1) := by decide +kernel
theorem dX4_findsPlan_74 : decode cX4_findsPlan 74 = .ok (.invokestatic 47, 3) := by decide +kernel
theorem dX4_findsPlan_77 : decode cX4_findsPlan 77 = .ok (.iaload, 1) := by decide +kernel
theorem dX4_findsPlan_78 : decode cX4_findsPlan 78 = .ok (.ldc 51, 2) := by decide +kernel
theorem dX4_findsPlan_80 : decode cX4_findsPlan 80 = .ok (.if_icmp .ge 7, 3) := by decide +kernel
theorem dX4_findsPlan_83 : decode cX4_findsPlan 83 = .ok (.iconst 1, 1) := by decide +kernel
theorem dX4_findsPlan_84 : decode cX4_findsPlan 84 = .ok (.goto 4, 3) := by decide +kernel
theorem dX4_findsPlan_87 : decode cX4_findsPlan 87 = .ok (.iconst 0, 1) := by decide +kernel
theorem dX4_findsPlan_88 : decode cX4_findsPlan 88 = .ok (.ireturn, 1) := by decide +kernel
theorem dX4_cutUp_0 : decode cX4_cutUp 0 = .ok (.aload_n 2, 1) := by decide +kernel
theorem dX4_cutUp_1 : decode cX4_cutUp 1 = .ok (.aload_n 1, 1) := by decide +kernel
theorem dX4_cutUp_2 : decode cX4_cutUp 2 = .ok (.getfield 35, 3) := by decide +kernel
theorem dX4_cutUp_5 : decode cX4_cutUp 5 = .ok (.aload_n 1, 1) := by decide +kernel
theorem dX4_cutUp_6 : decode cX4_cutUp 6 = .ok (.getfield 40, 3) := by decide +kernel
theorem dX4_cutUp_9 : decode cX4_cutUp 9 = .ok (.invokevirtual 52, 3) := by decide +kernel
theorem dX4_cutUp_12 : decode cX4_cutUp 12 = .ok (.iconst 0, 1) := by decide +kernel
theorem dX4_cutUp_13 : decode cX4_cutUp 13 = .ok (.istore_n 3, 1) := by decide +kernel
theorem dX4_cutUp_14 : decode cX4_cutUp 14 = .ok (.iconst 0, 1) := by decide +kernel
theorem dX4_cutUp_15 : decode cX4_cutUp 15 = .ok (.istore 4, 2) := by decide +kernel
theorem dX4_cutUp_17 : decode cX4_cutUp 17 = .ok (.iload 4, 2) := by decide +kernel
theorem dX4_cutUp_19 : decode cX4_cutUp 19 = .ok (.sipush 128, 3) := by decide +kernel
theorem dX4_cutUp_22 : decode cX4_cutUp 22 = .ok (.if_icmp .ge 29, 3) := by decide +kernel
theorem dX4_cutUp_25 : decode cX4_cutUp 25 = .ok (.iload_n 3, 1) := by decide +kernel
theorem dX4_cutUp_26 : decode cX4_cutUp 26 = .ok (.aload_n 2, 1) := by decide +kernel
theorem dX4_cutUp_27 : decode cX4_cutUp 27 = .ok (.getfield 58, 3) := by decide +kernel
theorem dX4_cutUp_30 : decode cX4_cutUp 30 = .ok (.if_icmp .ge 21, 3) := by decide +kernel
theorem dX4_cutUp_33 : decode cX4_cutUp 33 = .ok (.aload_n 0, 1) := by decide +kernel
theorem dX4_cutUp_34 : decode cX4_cutUp 34 = .ok (.aload_n 2, 1) := by decide +kernel
theorem dX4_cutUp_35 : decode cX4_cutUp 35 = .ok (.iload_n 3, 1) := by decide +kernel
theorem dX4_cutUp_36 : decode cX4_cutUp 36 = .ok (.invokevirtual 61, 3) := by decide +kernel
theorem dX4_cutUp_39 : decode cX4_cutUp 39 = .ok (.ifCond .ne 6, 3) := by decide +kernel
theorem dX4_cutUp_42 : decode cX4_cutUp 42 = .ok (.iinc 3 1, 3) := by decide +kernel
theorem dX4_cutUp_45 : decode cX4_cutUp 45 = .ok (.iinc 4 1, 3) := by decide +kernel
theorem dX4_cutUp_48 : decode cX4_cutUp 48 = .ok (.goto (-31), 3) := by decide +kernel
theorem dX4_cutUp_51 : decode cX4_cutUp 51 = .ok (.aload_n 2, 1) := by decide +kernel
theorem dX4_cutUp_52 : decode cX4_cutUp 52 = .ok (.invokevirtual 65, 3) := by decide +kernel
theorem dX4_cutUp_55 : decode cX4_cutUp 55 = .ok (.aload_n 2, 1) := by decide +kernel
theorem dX4_cutUp_56 : decode cX4_cutUp 56 = .ok (.aload_n 1, 1) := by decide +kernel
theorem dX4_cutUp_57 : decode cX4_cutUp 57 = .ok (.getfield 35, 3) := by decide +kernel
theorem dX4_cutUp_60 : decode cX4_cutUp 60 = .ok (.aload_n 1, 1) := by decide +kernel
theorem dX4_cutUp_61 : decode cX4_cutUp 61 = .ok (.getfield 40, 3) := by decide +kernel
theorem dX4_cutUp_64 : decode cX4_cutUp 64 = .ok (.invokevirtual 68, 3) := by decide +kernel
theorem dX4_cutUp_67 : decode cX4_cutUp 67 = .ok (.return_, 1) := by decide +kernel
theorem dX4_cutsFirst_0 : decode cX4_cutsFirst 0 = .ok (.aload_n 1, 1) := by decide +kernel
theorem dX4_cutsFirst_1 : decode cX4_cutsFirst 1 = .ok (.getfield 71, 3) := by decide +kernel
theorem dX4_cutsFirst_4 : decode cX4_cutsFirst 4 = .ok (.iload_n 2, 1) := by decide +kernel
theorem dX4_cutsFirst_5 : decode cX4_cutsFirst 5 = .ok (.iaload, 1) := by decide +kernel
theorem dX4_cutsFirst_6 : decode cX4_cutsFirst 6 = .ok (.istore_n 3, 1) := by decide +kernel
theorem dX4_cutsFirst_7 : decode cX4_cutsFirst 7 = .ok (.iload_n 3, 1) := by decide +kernel
theorem dX4_cutsFirst_8 : decode cX4_cutsFirst 8 = .ok (.aload_n 1, 1) := by decide +kernel
theorem dX4_cutsFirst_9 : decode cX4_cutsFirst 9 = .ok (.getfield 74, 3) := by decide +kernel
theorem dX4_cutsFirst_12 : decode cX4_cutsFirst 12 = .ok (.iload_n 2, 1) := by decide +kernel
theorem dX4_cutsFirst_13 : decode cX4_cutsFirst 13 = .ok (.iaload, 1) := by decide +kernel
theorem dX4_cutsFirst_14 : decode cX4_cutsFirst 14 = .ok (.iadd, 1) := by decide +kernel
theorem dX4_cutsFirst_15 : decode cX4_cutsFirst 15 = .ok (.iconst 1, 1) := by decide +kernel
theorem dX4_cutsFirst_16 : decode cX4_cutsFirst 16 = .ok (.isub, 1) := by decide +kernel
theorem dX4_cutsFirst_17 : decode cX4_cutsFirst 17 = .ok (.istore 4, 2) := by decide +kernel
theorem dX4_cutsFirst_19 : decode cX4_cutsFirst 19 = .ok (.aload_n 1, 1) := by decide +kernel
theorem dX4_cutsFirst_20 : decode cX4_cutsFirst 20 = .ok (.getfield 76, 3) := by decide +kernel
theorem dX4_cutsFirst_23 : decode cX4_cutsFirst 23 = .ok (.iload_n 2, 1) := by decide +kernel
theorem dX4_cutsFirst_24 : decode cX4_cutsFirst 24 = .ok (.iaload, 1) := by decide +kernel
theorem dX4_cutsFirst_25 : decode cX4_cutsFirst 25 = .ok (.istore 5, 2) := by decide +kernel
theorem dX4_cutsFirst_27 : decode cX4_cutsFirst 27 = .ok (.iload 5, 2) := by decide +kernel
theorem dX4_cutsFirst_29 : decode cX4_cutsFirst 29 = .ok (.aload_n 1, 1) := by decide +kernel
theorem dX4_cutsFirst_30 : decode cX4_cutsFirst 30 = .ok (.getfield 79, 3) := by decide +kernel
theorem dX4_cutsFirst_33 : decode cX4_cutsFirst 33 = .ok (.iload_n 2, 1) := by decide +kernel
theorem dX4_cutsFirst_34 : decode cX4_cutsFirst 34 = .ok (.iaload, 1) := by decide +kernel
theorem dX4_cutsFirst_35 : decode cX4_cutsFirst 35 = .ok (.iadd, 1) := by decide +kernel
theorem dX4_cutsFirst_36 : decode cX4_cutsFirst 36 = .ok (.iconst 1, 1) := by decide +kernel
theorem dX4_cutsFirst_37 : decode cX4_cutsFirst 37 = .ok (.isub, 1) := by decide +kernel
theorem dX4_cutsFirst_38 : decode cX4_cutsFirst 38 = .ok (.istore 6, 2) := by decide +kernel
theorem dX4_cutsFirst_40 : decode cX4_cutsFirst 40 = .ok (.aload_n 0, 1) := by decide +kernel
theorem dX4_cutsFirst_41 : decode cX4_cutsFirst 41 = .ok (.getfield 11, 3) := by decide +kernel
theorem dX4_cutsFirst_44 : decode cX4_cutsFirst 44 = .ok (.iload_n 3, 1) := by decide +kernel
theorem dX4_cutsFirst_45 : decode cX4_cutsFirst 45 = .ok (.iload 4, 2) := by decide +kernel
theorem dX4_cutsFirst_47 : decode cX4_cutsFirst 47 = .ok (.iload 5, 2) := by decide +kernel
theorem dX4_cutsFirst_49 : decode cX4_cutsFirst 49 = .ok (.iload 6, 2) := by decide +kernel
theorem dX4_cutsFirst_51 : decode cX4_cutsFirst 51 = .ok (.invokestatic 47, 3) := by decide +kernel
theorem dX4_cutsFirst_54 : decode cX4_cutsFirst 54 = .ok (.iaload, 1) := by decide +kernel
theorem dX4_cutsFirst_55 : decode cX4_cutsFirst 55 = .ok (.istore 7, 2) := by decide +kernel
theorem dX4_cutsFirst_57 : decode cX4_cutsFirst 57 = .ok (.iload 7, 2) := by decide +kernel
theorem dX4_cutsFirst_59 : decode cX4_cutsFirst 59 = .ok (.sipush 256, 3) := by decide +kernel
theorem dX4_cutsFirst_62 : decode cX4_cutsFirst 62 = .ok (.if_icmp .eq 12, 3) := by decide +kernel
theorem dX4_cutsFirst_65 : decode cX4_cutsFirst 65 = .ok (.aload_n 1, 1) := by decide +kernel
theorem dX4_cutsFirst_66 : decode cX4_cutsFirst 66 = .ok (.getfield 58, 3) := by decide +kernel
theorem dX4_cutsFirst_69 : decode cX4_cutsFirst 69 = .ok (.bipush 64, 2) := by decide +kernel
theorem dX4_cutsFirst_71 : decode cX4_cutsFirst 71 = .ok (.if_icmp .lt 5, 3) := by decide +kernel
theorem dX4_cutsFirst_74 : decode cX4_cutsFirst 74 = .ok (.iconst 0, 1) := by decide +kernel
theorem dX4_cutsFirst_75 : decode cX4_cutsFirst 75 = .ok (.ireturn, 1) := by decide +kernel
theorem dX4_cutsFirst_76 : decode cX4_cutsFirst 76 = .ok (.iload_n 3, 1) := by decide +kernel
theorem dX4_cutsFirst_77 : decode cX4_cutsFirst 77 = .ok (.istore 8, 2) := by decide +kernel
theorem dX4_cutsFirst_79 : decode cX4_cutsFirst 79 = .ok (.iload 8, 2) := by decide +kernel
theorem dX4_cutsFirst_81 : decode cX4_cutsFirst 81 = .ok (.iload 4, 2) := by decide +kernel
theorem dX4_cutsFirst_83 : decode cX4_cutsFirst 83 = .ok (.if_icmp .ge 36, 3) := by decide +kernel
theorem dX4_cutsFirst_86 : decode cX4_cutsFirst 86 = .ok (.aload_n 0, 1) := by decide +kernel
theorem dX4_cutsFirst_87 : decode cX4_cutsFirst 87 = .ok (.iload_n 3, 1) := by decide +kernel
theorem dX4_cutsFirst_88 : decode cX4_cutsFirst 88 = .ok (.iload 4, 2) := by decide +kernel
theorem dX4_cutsFirst_90 : decode cX4_cutsFirst 90 = .ok (.iload 5, 2) := by decide +kernel
theorem dX4_cutsFirst_92 : decode cX4_cutsFirst 92 = .ok (.iload 6, 2) := by decide +kernel
theorem dX4_cutsFirst_94 : decode cX4_cutsFirst 94 = .ok (.iload 8, 2) := by decide +kernel
theorem dX4_cutsFirst_96 : decode cX4_cutsFirst 96 = .ok (.invokevirtual 81, 3) := by decide +kernel
theorem dX4_cutsFirst_99 : decode cX4_cutsFirst 99 = .ok (.iload 7, 2) := by decide +kernel
theorem dX4_cutsFirst_101 : decode cX4_cutsFirst 101 = .ok (.if_icmp .ne 12, 3) := by decide +kernel
theorem dX4_cutsFirst_104 : decode cX4_cutsFirst 104 = .ok (.aload_n 1, 1) := by decide +kernel
theorem dX4_cutsFirst_105 : decode cX4_cutsFirst 105 = .ok (.iload_n 2, 1) := by decide +kernel
theorem dX4_cutsFirst_106 : decode cX4_cutsFirst 106 = .ok (.iload 8, 2) := by decide +kernel
theorem dX4_cutsFirst_108 : decode cX4_cutsFirst 108 = .ok (.invokevirtual 85, 3) := by decide +kernel
theorem dX4_cutsFirst_111 : decode cX4_cutsFirst 111 = .ok (.iconst 1, 1) := by decide +kernel
theorem dX4_cutsFirst_112 : decode cX4_cutsFirst 112 = .ok (.ireturn, 1) := by decide +kernel
theorem dX4_cutsFirst_113 : decode cX4_cutsFirst 113 = .ok (.iinc 8 1, 3) := by decide +kernel
theorem dX4_cutsFirst_116 : decode cX4_cutsFirst 116 = .ok (.goto (-37), 3) := by decide +kernel
theorem dX4_cutsFirst_119 : decode cX4_cutsFirst 119 = .ok (.iload 5, 2) := by decide +kernel
theorem dX4_cutsFirst_121 : decode cX4_cutsFirst 121 = .ok (.istore 8, 2) := by decide +kernel
theorem dX4_cutsFirst_123 : decode cX4_cutsFirst 123 = .ok (.iload 8, 2) := by decide +kernel
theorem dX4_cutsFirst_125 : decode cX4_cutsFirst 125 = .ok (.iload 6, 2) := by decide +kernel
theorem dX4_cutsFirst_127 : decode cX4_cutsFirst 127 = .ok (.if_icmp .ge 36, 3) := by decide +kernel
theorem dX4_cutsFirst_130 : decode cX4_cutsFirst 130 = .ok (.aload_n 0, 1) := by decide +kernel
theorem dX4_cutsFirst_131 : decode cX4_cutsFirst 131 = .ok (.iload_n 3, 1) := by decide +kernel
theorem dX4_cutsFirst_132 : decode cX4_cutsFirst 132 = .ok (.iload 4, 2) := by decide +kernel
theorem dX4_cutsFirst_134 : decode cX4_cutsFirst 134 = .ok (.iload 5, 2) := by decide +kernel
theorem dX4_cutsFirst_136 : decode cX4_cutsFirst 136 = .ok (.iload 6, 2) := by decide +kernel
theorem dX4_cutsFirst_138 : decode cX4_cutsFirst 138 = .ok (.iload 8, 2) := by decide +kernel
theorem dX4_cutsFirst_140 : decode cX4_cutsFirst 140 = .ok (.invokevirtual 88, 3) := by decide +kernel
theorem dX4_cutsFirst_143 : decode cX4_cutsFirst 143 = .ok (.iload 7, 2) := by decide +kernel
theorem dX4_cutsFirst_145 : decode cX4_cutsFirst 145 = .ok (.if_icmp .ne 12, 3) := by decide +kernel
theorem dX4_cutsFirst_148 : decode cX4_cutsFirst 148 = .ok (.aload_n 1, 1) := by decide +kernel
theorem dX4_cutsFirst_149 : decode cX4_cutsFirst 149 = .ok (.iload_n 2, 1) := by decide +kernel
theorem dX4_cutsFirst_150 : decode cX4_cutsFirst 150 = .ok (.iload 8, 2) := by decide +kernel
theorem dX4_cutsFirst_152 : decode cX4_cutsFirst 152 = .ok (.invokevirtual 91, 3) := by decide +kernel
theorem dX4_cutsFirst_155 : decode cX4_cutsFirst 155 = .ok (.iconst 1, 1) := by decide +kernel
theorem dX4_cutsFirst_156 : decode cX4_cutsFirst 156 = .ok (.ireturn, 1) := by decide +kernel
theorem dX4_cutsFirst_157 : decode cX4_cutsFirst 157 = .ok (.iinc 8 1, 3) := by decide +kernel
theorem dX4_cutsFirst_160 : decode cX4_cutsFirst 160 = .ok (.goto (-37), 3) := by decide +kernel
theorem dX4_cutsFirst_163 : decode cX4_cutsFirst 163 = .ok (.iconst 0, 1) := by decide +kernel
theorem dX4_cutsFirst_164 : decode cX4_cutsFirst 164 = .ok (.ireturn, 1) := by decide +kernel
theorem dX4_addUpWeights_0 : decode cX4_addUpWeights 0 = .ok (.iconst 0, 1) := by decide +kernel
theorem dX4_addUpWeights_1 : decode cX4_addUpWeights 1 = .ok (.istore_n 2, 1) := by decide +kernel
theorem dX4_addUpWeights_2 : decode cX4_addUpWeights 2 = .ok (.iload_n 2, 1) := by decide +kernel
theorem dX4_addUpWeights_3 : decode cX4_addUpWeights 3 = .ok (.aload_n 1, 1) := by decide +kernel
theorem dX4_addUpWeights_4 : decode cX4_addUpWeights 4 = .ok (.getfield 40, 3) := by decide +kernel
theorem dX4_addUpWeights_7 : decode cX4_addUpWeights 7 = .ok (.if_icmp .ge 73, 3) := by decide +kernel
theorem dX4_addUpWeights_10 : decode cX4_addUpWeights 10 = .ok (.iconst 0, 1) := by decide +kernel
theorem dX4_addUpWeights_11 : decode cX4_addUpWeights 11 = .ok (.istore_n 3, 1) := by decide +kernel
theorem dX4_addUpWeights_12 : decode cX4_addUpWeights 12 = .ok (.iconst 0, 1) := by decide +kernel
theorem dX4_addUpWeights_13 : decode cX4_addUpWeights 13 = .ok (.istore 4, 2) := by decide +kernel
theorem dX4_addUpWeights_15 : decode cX4_addUpWeights 15 = .ok (.iload 4, 2) := by decide +kernel
theorem dX4_addUpWeights_17 : decode cX4_addUpWeights 17 = .ok (.aload_n 1, 1) := by decide +kernel
theorem dX4_addUpWeights_18 : decode cX4_addUpWeights 18 = .ok (.getfield 35, 3) := by decide +kernel
theorem dX4_addUpWeights_21 : decode cX4_addUpWeights 21 = .ok (.if_icmp .ge 53, 3) := by decide +kernel
theorem dX4_addUpWeights_24 : decode cX4_addUpWeights 24 = .ok (.iload_n 3, 1) := by decide +kernel
theorem dX4_addUpWeights_25 : decode cX4_addUpWeights 25 = .ok (.aload_n 1, 1) := by decide +kernel
theorem dX4_addUpWeights_26 : decode cX4_addUpWeights 26 = .ok (.getfield 94, 3) := by decide +kernel
theorem dX4_addUpWeights_29 : decode cX4_addUpWeights 29 = .ok (.iload 4, 2) := by decide +kernel
theorem dX4_addUpWeights_31 : decode cX4_addUpWeights 31 = .ok (.iload_n 2, 1) := by decide +kernel
theorem dX4_addUpWeights_32 : decode cX4_addUpWeights 32 = .ok (.invokestatic 97, 3) := by decide +kernel
theorem dX4_addUpWeights_35 : decode cX4_addUpWeights 35 = .ok (.iaload, 1) := by decide +kernel
theorem dX4_addUpWeights_36 : decode cX4_addUpWeights 36 = .ok (.iadd, 1) := by decide +kernel
theorem dX4_addUpWeights_37 : decode cX4_addUpWeights 37 = .ok (.istore_n 3, 1) := by decide +kernel
theorem dX4_addUpWeights_38 : decode cX4_addUpWeights 38 = .ok (.aload_n 0, 1) := by decide +kernel
theorem dX4_addUpWeights_39 : decode cX4_addUpWeights 39 = .ok (.getfield 15, 3) := by decide +kernel
theorem dX4_addUpWeights_42 : decode cX4_addUpWeights 42 = .ok (.iload 4, 2) := by decide +kernel
theorem dX4_addUpWeights_44 : decode cX4_addUpWeights 44 = .ok (.iconst 1, 1) := by decide +kernel
theorem dX4_addUpWeights_45 : decode cX4_addUpWeights 45 = .ok (.iadd, 1) := by decide +kernel
theorem dX4_addUpWeights_46 : decode cX4_addUpWeights 46 = .ok (.iload_n 2, 1) := by decide +kernel
theorem dX4_addUpWeights_47 : decode cX4_addUpWeights 47 = .ok (.iconst 1, 1) := by decide +kernel
theorem dX4_addUpWeights_48 : decode cX4_addUpWeights 48 = .ok (.iadd, 1) := by decide +kernel
theorem dX4_addUpWeights_49 : decode cX4_addUpWeights 49 = .ok (.invokestatic 101, 3) := by decide +kernel
theorem dX4_addUpWeights_52 : decode cX4_addUpWeights 52 = .ok (.aload_n 0, 1) := by decide +kernel
theorem dX4_addUpWeights_53 : decode cX4_addUpWeights 53 = .ok (.getfield 15, 3) := by decide +kernel
theorem dX4_addUpWeights_56 : decode cX4_addUpWeights 56 = .ok (.iload 4, 2) := by decide +kernel
theorem dX4_addUpWeights_58 : decode cX4_addUpWeights 58 = .ok (.iconst 1, 1) := by decide +kernel
theorem dX4_addUpWeights_59 : decode cX4_addUpWeights 59 = .ok (.iadd, 1) := by decide +kernel
theorem dX4_addUpWeights_60 : decode cX4_addUpWeights 60 = .ok (.iload_n 2, 1) := by decide +kernel
theorem dX4_addUpWeights_61 : decode cX4_addUpWeights 61 = .ok (.invokestatic 101, 3) := by decide +kernel
theorem dX4_addUpWeights_64 : decode cX4_addUpWeights 64 = .ok (.iaload, 1) := by decide +kernel
theorem dX4_addUpWeights_65 : decode cX4_addUpWeights 65 = .ok (.iload_n 3, 1) := by decide +kernel
theorem dX4_addUpWeights_66 : decode cX4_addUpWeights 66 = .ok (.iadd, 1) := by decide +kernel
theorem dX4_addUpWeights_67 : decode cX4_addUpWeights 67 = .ok (.iastore, 1) := by decide +kernel
theorem dX4_addUpWeights_68 : decode cX4_addUpWeights 68 = .ok (.iinc 4 1, 3) := by decide +kernel
theorem dX4_addUpWeights_71 : decode cX4_addUpWeights 71 = .ok (.goto (-56), 3) := by decide +kernel
theorem dX4_addUpWeights_74 : decode cX4_addUpWeights 74 = .ok (.iinc 2 1, 3) := by decide +kernel
theorem dX4_addUpWeights_77 : decode cX4_addUpWeights 77 = .ok (.goto (-75), 3) := by decide +kernel
theorem dX4_addUpWeights_80 : decode cX4_addUpWeights 80 = .ok (.return_, 1) := by decide +kernel
theorem dX4_findBars_0 : decode cX4_findBars 0 = .ok (.aload_n 0, 1) := by decide +kernel
theorem dX4_findBars_1 : decode cX4_findBars 1 = .ok (.getfield 18, 3) := by decide +kernel
theorem dX4_findBars_4 : decode cX4_findBars 4 = .ok (.iconst 0, 1) := by decide +kernel
theorem dX4_findBars_5 : decode cX4_findBars 5 = .ok (.invokestatic 104, 3) := by decide +kernel
theorem dX4_findBars_8 : decode cX4_findBars 8 = .ok (.aload_n 0, 1) := by decide +kernel
theorem dX4_findBars_9 : decode cX4_findBars 9 = .ok (.getfield 21, 3) := by decide +kernel
theorem dX4_findBars_12 : decode cX4_findBars 12 = .ok (.iconst 0, 1) := by decide +kernel
theorem dX4_findBars_13 : decode cX4_findBars 13 = .ok (.invokestatic 104, 3) := by decide +kernel
