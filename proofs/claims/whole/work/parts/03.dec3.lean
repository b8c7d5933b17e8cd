theorem dX10_isCell_19 : decode cX10_isCell 19 = .ok (.getfield 7, 3) := by decide +kernel
theorem dX10_isCell_22 : decode cX10_isCell 22 = .ok (.iconst 1, 1) := by decide +kernel
theorem dX10_isCell_23 : decode cX10_isCell 23 = .ok (.iaload, 1) := by decide +kernel
theorem dX10_isCell_24 : decode cX10_isCell 24 = .ok (.iconst 1, 1) := by decide +kernel
theorem dX10_isCell_25 : decode cX10_isCell 25 = .ok (.isub, 1) := by decide +kernel
theorem dX10_isCell_26 : decode cX10_isCell 26 = .ok (.invokestatic 42, 3) := by decide +kernel
theorem dX10_isCell_29 : decode cX10_isCell 29 = .ok (.ifCond .eq 7, 3) := by decide +kernel
theorem dX10_isCell_32 : decode cX10_isCell 32 = .ok (.iconst 1, 1) := by decide +kernel
theorem dX10_isCell_33 : decode cX10_isCell 33 = .ok (.goto 4, 3) := by decide +kernel
theorem dX10_isCell_36 : decode cX10_isCell 36 = .ok (.iconst 0, 1) := by decide +kernel
theorem dX10_isCell_37 : decode cX10_isCell 37 = .ok (.ireturn, 1) := by decide +kernel
theorem dX10_cell_0 : decode cX10_cell 0 = .ok (.aload_n 0, 1) := by decide +kernel
theorem dX10_cell_1 : decode cX10_cell 1 = .ok (.iload_n 1, 1) := by decide +kernel
theorem dX10_cell_2 : decode cX10_cell 2 = .ok (.iload_n 2, 1) := by decide +kernel
theorem dX10_cell_3 : decode cX10_cell 3 = .ok (.invokevirtual 46, 3) := by decide +kernel
theorem dX10_cell_6 : decode cX10_cell 6 = .ok (.ifCond .eq 24, 3) := by decide +kernel
theorem dX10_cell_9 : decode cX10_cell 9 = .ok (.iload_n 3, 1) := by decide +kernel
theorem dX10_cell_10 : decode cX10_cell 10 = .ok (.iconst 1, 1) := by decide +kernel
theorem dX10_cell_11 : decode cX10_cell 11 = .ok (.bipush 50, 2) := by decide +kernel
theorem dX10_cell_13 : decode cX10_cell 13 = .ok (.invokestatic 42, 3) := by decide +kernel
theorem dX10_cell_16 : decode cX10_cell 16 = .ok (.ifCond .eq 14, 3) := by decide +kernel
theorem dX10_cell_19 : decode cX10_cell 19 = .ok (.iload 4, 2) := by decide +kernel
theorem dX10_cell_21 : decode cX10_cell 21 = .ok (.iconst 0, 1) := by decide +kernel
theorem dX10_cell_22 : decode cX10_cell 22 = .ok (.bipush 9, 2) := by decide +kernel
theorem dX10_cell_24 : decode cX10_cell 24 = .ok (.invokestatic 42, 3) := by decide +kernel
theorem dX10_cell_27 : decode cX10_cell 27 = .ok (.ifCond .ne 5, 3) := by decide +kernel
theorem dX10_cell_30 : decode cX10_cell 30 = .ok (.iconst 0, 1) := by decide +kernel
theorem dX10_cell_31 : decode cX10_cell 31 = .ok (.ireturn, 1) := by decide +kernel
theorem dX10_cell_32 : decode cX10_cell 32 = .ok (.aload_n 0, 1) := by decide +kernel
theorem dX10_cell_33 : decode cX10_cell 33 = .ok (.getfield 7, 3) := by decide +kernel
theorem dX10_cell_36 : decode cX10_cell 36 = .ok (.bipush 30, 2) := by decide +kernel
theorem dX10_cell_38 : decode cX10_cell 38 = .ok (.bipush 8, 2) := by decide +kernel
theorem dX10_cell_40 : decode cX10_cell 40 = .ok (.iload_n 2, 1) := by decide +kernel
theorem dX10_cell_41 : decode cX10_cell 41 = .ok (.imul, 1) := by decide +kernel
theorem dX10_cell_42 : decode cX10_cell 42 = .ok (.iadd, 1) := by decide +kernel
theorem dX10_cell_43 : decode cX10_cell 43 = .ok (.iload_n 1, 1) := by decide +kernel
theorem dX10_cell_44 : decode cX10_cell 44 = .ok (.iadd, 1) := by decide +kernel
theorem dX10_cell_45 : decode cX10_cell 45 = .ok (.iload_n 3, 1) := by decide +kernel
theorem dX10_cell_46 : decode cX10_cell 46 = .ok (.iastore, 1) := by decide +kernel
theorem dX10_cell_47 : decode cX10_cell 47 = .ok (.aload_n 0, 1) := by decide +kernel
theorem dX10_cell_48 : decode cX10_cell 48 = .ok (.getfield 7, 3) := by decide +kernel
theorem dX10_cell_51 : decode cX10_cell 51 = .ok (.bipush 100, 2) := by decide +kernel
theorem dX10_cell_53 : decode cX10_cell 53 = .ok (.bipush 8, 2) := by decide +kernel
theorem dX10_cell_55 : decode cX10_cell 55 = .ok (.iload_n 2, 1) := by decide +kernel
theorem dX10_cell_56 : decode cX10_cell 56 = .ok (.imul, 1) := by decide +kernel
theorem dX10_cell_57 : decode cX10_cell 57 = .ok (.iadd, 1) := by decide +kernel
theorem dX10_cell_58 : decode cX10_cell 58 = .ok (.iload_n 1, 1) := by decide +kernel
theorem dX10_cell_59 : decode cX10_cell 59 = .ok (.iadd, 1) := by decide +kernel
theorem dX10_cell_60 : decode cX10_cell 60 = .ok (.iload 4, 2) := by decide +kernel
theorem dX10_cell_62 : decode cX10_cell 62 = .ok (.iastore, 1) := by decide +kernel
theorem dX10_cell_63 : decode cX10_cell 63 = .ok (.aload_n 0, 1) := by decide +kernel
theorem dX10_cell_64 : decode cX10_cell 64 = .ok (.invokevirtual 39, 3) := by decide +kernel
theorem dX10_cell_67 : decode cX10_cell 67 = .ok (.iconst 1, 1) := by decide +kernel
theorem dX10_cell_68 : decode cX10_cell 68 = .ok (.ireturn, 1) := by decide +kernel
theorem dX10_motifs_0 : decode cX10_motifs 0 = .ok (.iload_n 1, 1) := by decide +kernel
theorem dX10_motifs_1 : decode cX10_motifs 1 = .ok (.iconst 0, 1) := by decide +kernel
theorem dX10_motifs_2 : decode cX10_motifs 2 = .ok (.aload_n 0, 1) := by decide +kernel
theorem dX10_motifs_3 : decode cX10_motifs 3 = .ok (.getfield 7, 3) := by decide +kernel
theorem dX10_motifs_6 : decode cX10_motifs 6 = .ok (.iconst 1, 1) := by decide +kernel
theorem dX10_motifs_7 : decode cX10_motifs 7 = .ok (.iaload, 1) := by decide +kernel
theorem dX10_motifs_8 : decode cX10_motifs 8 = .ok (.iconst 1, 1) := by decide +kernel
theorem dX10_motifs_9 : decode cX10_motifs 9 = .ok (.isub, 1) := by decide +kernel
theorem dX10_motifs_10 : decode cX10_motifs 10 = .ok (.invokestatic 42, 3) := by decide +kernel
theorem dX10_motifs_13 : decode cX10_motifs 13 = .ok (.ifCond .ne 5, 3) := by decide +kernel
theorem dX10_motifs_16 : decode cX10_motifs 16 = .ok (.iconst 0, 1) := by decide +kernel
theorem dX10_motifs_17 : decode cX10_motifs 17 = .ok (.ireturn, 1) := by decide +kernel
theorem dX10_motifs_18 : decode cX10_motifs 18 = .ok (.iconst 0, 1) := by decide +kernel
theorem dX10_motifs_19 : decode cX10_motifs 19 = .ok (.istore_n 3, 1) := by decide +kernel
theorem dX10_motifs_20 : decode cX10_motifs 20 = .ok (.iload_n 3, 1) := by decide +kernel
theorem dX10_motifs_21 : decode cX10_motifs 21 = .ok (.bipush 8, 2) := by decide +kernel
theorem dX10_motifs_23 : decode cX10_motifs 23 = .ok (.if_icmp .ge 27, 3) := by decide +kernel
theorem dX10_motifs_26 : decode cX10_motifs 26 = .ok (.iload_n 2, 1) := by decide +kernel
theorem dX10_motifs_27 : decode cX10_motifs 27 = .ok (.bipush 28, 2) := by decide +kernel
theorem dX10_motifs_29 : decode cX10_motifs 29 = .ok (.iconst 4, 1) := by decide +kernel
theorem dX10_motifs_30 : decode cX10_motifs 30 = .ok (.iload_n 3, 1) := by decide +kernel
theorem dX10_motifs_31 : decode cX10_motifs 31 = .ok (.imul, 1) := by decide +kernel
theorem dX10_motifs_32 : decode cX10_motifs 32 = .ok (.isub, 1) := by decide +kernel
theorem dX10_motifs_33 : decode cX10_motifs 33 = .ok (.ishr, 1) := by decide +kernel
theorem dX10_motifs_34 : decode cX10_motifs 34 = .ok (.bipush 15, 2) := by decide +kernel
theorem dX10_motifs_36 : decode cX10_motifs 36 = .ok (.iand, 1) := by decide +kernel
theorem dX10_motifs_37 : decode cX10_motifs 37 = .ok (.bipush 9, 2) := by decide +kernel
theorem dX10_motifs_39 : decode cX10_motifs 39 = .ok (.if_icmp .le 5, 3) := by decide +kernel
theorem dX10_motifs_42 : decode cX10_motifs 42 = .ok (.iconst 0, 1) := by decide +kernel
theorem dX10_motifs_43 : decode cX10_motifs 43 = .ok (.ireturn, 1) := by decide +kernel
theorem dX10_motifs_44 : decode cX10_motifs 44 = .ok (.iinc 3 1, 3) := by decide +kernel
theorem dX10_motifs_47 : decode cX10_motifs 47 = .ok (.goto (-27), 3) := by decide +kernel
theorem dX10_motifs_50 : decode cX10_motifs 50 = .ok (.iconst 0, 1) := by decide +kernel
theorem dX10_motifs_51 : decode cX10_motifs 51 = .ok (.istore_n 3, 1) := by decide +kernel
theorem dX10_motifs_52 : decode cX10_motifs 52 = .ok (.iload_n 3, 1) := by decide +kernel
theorem dX10_motifs_53 : decode cX10_motifs 53 = .ok (.aload_n 0, 1) := by decide +kernel
theorem dX10_motifs_54 : decode cX10_motifs 54 = .ok (.getfield 7, 3) := by decide +kernel
theorem dX10_motifs_57 : decode cX10_motifs 57 = .ok (.iconst 0, 1) := by decide +kernel
theorem dX10_motifs_58 : decode cX10_motifs 58 = .ok (.iaload, 1) := by decide +kernel
theorem dX10_motifs_59 : decode cX10_motifs 59 = .ok (.if_icmp .ge 34, 3) := by decide +kernel
theorem dX10_motifs_62 : decode cX10_motifs 62 = .ok (.aload_n 0, 1) := by decide +kernel
theorem dX10_motifs_63 : decode cX10_motifs 63 = .ok (.getfield 7, 3) := by decide +kernel
theorem dX10_motifs_66 : decode cX10_motifs 66 = .ok (.bipush 100, 2) := by decide +kernel
theorem dX10_motifs_68 : decode cX10_motifs 68 = .ok (.bipush 8, 2) := by decide +kernel
theorem dX10_motifs_70 : decode cX10_motifs 70 = .ok (.iload_n 1, 1) := by decide +kernel
theorem dX10_motifs_71 : decode cX10_motifs 71 = .ok (.imul, 1) := by decide +kernel
theorem dX10_motifs_72 : decode cX10_motifs 72 = .ok (.iadd, 1) := by decide +kernel
theorem dX10_motifs_73 : decode cX10_motifs 73 = .ok (.iload_n 3, 1) := by decide +kernel
theorem dX10_motifs_74 : decode cX10_motifs 74 = .ok (.iadd, 1) := by decide +kernel
theorem dX10_motifs_75 : decode cX10_motifs 75 = .ok (.iload_n 2, 1) := by decide +kernel
theorem dX10_motifs_76 : decode cX10_motifs 76 = .ok (.bipush 28, 2) := by decide +kernel
theorem dX10_motifs_78 : decode cX10_motifs 78 = .ok (.iconst 4, 1) := by decide +kernel
theorem dX10_motifs_79 : decode cX10_motifs 79 = .ok (.iload_n 3, 1) := by decide +kernel
theorem dX10_motifs_80 : decode cX10_motifs 80 = .ok (.imul, 1) := by decide +kernel
theorem dX10_motifs_81 : decode cX10_motifs 81 = .ok (.isub, 1) := by decide +kernel
theorem dX10_motifs_82 : decode cX10_motifs 82 = .ok (.ishr, 1) := by decide +kernel
theorem dX10_motifs_83 : decode cX10_motifs 83 = .ok (.bipush 15, 2) := by decide +kernel
theorem dX10_motifs_85 : decode cX10_motifs 85 = .ok (.iand, 1) := by decide +kernel
theorem dX10_motifs_86 : decode cX10_motifs 86 = .ok (.iastore, 1) := by decide +kernel
theorem dX10_motifs_87 : decode cX10_motifs 87 = .ok (.iinc 3 1, 3) := by decide +kernel
theorem dX10_motifs_90 : decode cX10_motifs 90 = .ok (.goto (-38), 3) := by decide +kernel
theorem dX10_motifs_93 : decode cX10_motifs 93 = .ok (.aload_n 0, 1) := by decide +kernel
theorem dX10_motifs_94 : decode cX10_motifs 94 = .ok (.invokevirtual 39, 3) := by decide +kernel
theorem dX10_motifs_97 : decode cX10_motifs 97 = .ok (.iconst 1, 1) := by decide +kernel
theorem dX10_motifs_98 : decode cX10_motifs 98 = .ok (.ireturn, 1) := by decide +kernel
theorem dX10_limit_0 : decode cX10_limit 0 = .ok (.iload_n 1, 1) := by decide +kernel
theorem dX10_limit_1 : decode cX10_limit 1 = .ok (.iconst 1, 1) := by decide +kernel
theorem dX10_limit_2 : decode cX10_limit 2 = .ok (.sipush 3200, 3) := by decide +kernel
theorem dX10_limit_5 : decode cX10_limit 5 = .ok (.invokestatic 42, 3) := by decide +kernel
theorem dX10_limit_8 : decode cX10_limit 8 = .ok (.ifCond .ne 5, 3) := by decide +kernel
theorem dX10_limit_11 : decode cX10_limit 11 = .ok (.iconst 0, 1) := by decide +kernel
theorem dX10_limit_12 : decode cX10_limit 12 = .ok (.ireturn, 1) := by decide +kernel
theorem dX10_limit_13 : decode cX10_limit 13 = .ok (.aload_n 0, 1) := by decide +kernel
theorem dX10_limit_14 : decode cX10_limit 14 = .ok (.getfield 7, 3) := by decide +kernel
theorem dX10_limit_17 : decode cX10_limit 17 = .ok (.iconst 2, 1) := by decide +kernel
theorem dX10_limit_18 : decode cX10_limit 18 = .ok (.iload_n 1, 1) := by decide +kernel
theorem dX10_limit_19 : decode cX10_limit 19 = .ok (.iastore, 1) := by decide +kernel
theorem dX10_limit_20 : decode cX10_limit 20 = .ok (.iconst 1, 1) := by decide +kernel
theorem dX10_limit_21 : decode cX10_limit 21 = .ok (.ireturn, 1) := by decide +kernel
theorem dX10_saw_0 : decode cX10_saw 0 = .ok (.iload_n 1, 1) := by decide +kernel
theorem dX10_saw_1 : decode cX10_saw 1 = .ok (.iconst 1, 1) := by decide +kernel
theorem dX10_saw_2 : decode cX10_saw 2 = .ok (.bipush 9, 2) := by decide +kernel
theorem dX10_saw_4 : decode cX10_saw 4 = .ok (.invokestatic 42, 3) := by decide +kernel
theorem dX10_saw_7 : decode cX10_saw 7 = .ok (.ifCond .ne 5, 3) := by decide +kernel
theorem dX10_saw_10 : decode cX10_saw 10 = .ok (.iconst 0, 1) := by decide +kernel
theorem dX10_saw_11 : decode cX10_saw 11 = .ok (.ireturn, 1) := by decide +kernel
theorem dX10_saw_12 : decode cX10_saw 12 = .ok (.aload_n 0, 1) := by decide +kernel
theorem dX10_saw_13 : decode cX10_saw 13 = .ok (.getfield 7, 3) := by decide +kernel
theorem dX10_saw_16 : decode cX10_saw 16 = .ok (.iconst 3, 1) := by decide +kernel
theorem dX10_saw_17 : decode cX10_saw 17 = .ok (.iload_n 1, 1) := by decide +kernel
theorem dX10_saw_18 : decode cX10_saw 18 = .ok (.iastore, 1) := by decide +kernel
theorem dX10_saw_19 : decode cX10_saw 19 = .ok (.iconst 1, 1) := by decide +kernel
theorem dX10_saw_20 : decode cX10_saw 20 = .ok (.ireturn, 1) := by decide +kernel
theorem dX10_part_0 : decode cX10_part 0 = .ok (.iload_n 0, 1) := by decide +kernel
theorem dX10_part_1 : decode cX10_part 1 = .ok (.bipush 8, 2) := by decide +kernel
theorem dX10_part_3 : decode cX10_part 3 = .ok (.imul, 1) := by decide +kernel
theorem dX10_part_4 : decode cX10_part 4 = .ok (.iload_n 1, 1) := by decide +kernel
theorem dX10_part_5 : decode cX10_part 5 = .ok (.iadd, 1) := by decide +kernel
theorem dX10_part_6 : decode cX10_part 6 = .ok (.bipush 8, 2) := by decide +kernel
theorem dX10_part_8 : decode cX10_part 8 = .ok (.imul, 1) := by decide +kernel
theorem dX10_part_9 : decode cX10_part 9 = .ok (.iload_n 2, 1) := by decide +kernel
theorem dX10_part_10 : decode cX10_part 10 = .ok (.iadd, 1) := by decide +kernel
theorem dX10_part_11 : decode cX10_part 11 = .ok (.iconst 1, 1) := by decide +kernel
theorem dX10_part_12 : decode cX10_part 12 = .ok (.isub, 1) := by decide +kernel
theorem dX10_part_13 : decode cX10_part 13 = .ok (.bipush 8, 2) := by decide +kernel
theorem dX10_part_15 : decode cX10_part 15 = .ok (.imul, 1) := by decide +kernel
theorem dX10_part_16 : decode cX10_part 16 = .ok (.iload_n 3, 1) := by decide +kernel
theorem dX10_part_17 : decode cX10_part 17 = .ok (.iadd, 1) := by decide +kernel
theorem dX10_part_18 : decode cX10_part 18 = .ok (.iconst 1, 1) := by decide +kernel
theorem dX10_part_19 : decode cX10_part 19 = .ok (.isub, 1) := by decide +kernel
theorem dX10_part_20 : decode cX10_part 20 = .ok (.ireturn, 1) := by decide +kernel
theorem dX10_weight_0 : decode cX10_weight 0 = .ok (.iconst 0, 1) := by decide +kernel
theorem dX10_weight_1 : decode cX10_weight 1 = .ok (.istore 5, 2) := by decide +kernel
theorem dX10_weight_3 : decode cX10_weight 3 = .ok (.iload_n 2, 1) := by decide +kernel
theorem dX10_weight_4 : decode cX10_weight 4 = .ok (.istore 6, 2) := by decide +kernel
theorem dX10_weight_6 : decode cX10_weight 6 = .ok (.iload 6, 2) := by decide +kernel
theorem dX10_weight_8 : decode cX10_weight 8 = .ok (.iload_n 2, 1) := by decide +kernel
theorem dX10_weight_9 : decode cX10_weight 9 = .ok (.iload 4, 2) := by decide +kernel
theorem dX10_weight_11 : decode cX10_weight 11 = .ok (.iadd, 1) := by decide +kernel
theorem dX10_weight_12 : decode cX10_weight 12 = .ok (.if_icmp .ge 47, 3) := by decide +kernel
theorem dX10_weight_15 : decode cX10_weight 15 = .ok (.iload_n 1, 1) := by decide +kernel
theorem dX10_weight_16 : decode cX10_weight 16 = .ok (.istore 7, 2) := by decide +kernel
theorem dX10_weight_18 : decode cX10_weight 18 = .ok (.iload 7, 2) := by decide +kernel
theorem dX10_weight_20 : decode cX10_weight 20 = .ok (.iload_n 1, 1) := by decide +kernel
theorem dX10_weight_21 : decode cX10_weight 21 = .ok (.iload_n 3, 1) := by decide +kernel
theorem dX10_weight_22 : decode cX10_weight 22 = .ok (.iadd, 1) := by decide +kernel
theorem dX10_weight_23 : decode cX10_weight 23 = .ok (.if_icmp .ge 30, 3) := by decide +kernel
theorem dX10_weight_26 : decode cX10_weight 26 = .ok (.iload 5, 2) := by decide +kernel
theorem dX10_weight_28 : decode cX10_weight 28 = .ok (.aload_n 0, 1) := by decide +kernel
theorem dX10_weight_29 : decode cX10_weight 29 = .ok (.getfield 7, 3) := by decide +kernel
theorem dX10_weight_32 : decode cX10_weight 32 = .ok (.bipush 30, 2) := by decide +kernel
theorem dX10_weight_34 : decode cX10_weight 34 = .ok (.bipush 8, 2) := by decide +kernel
theorem dX10_weight_36 : decode cX10_weight 36 = .ok (.iload 6, 2) := by decide +kernel
theorem dX10_weight_38 : decode cX10_weight 38 = .ok (.imul, 1) := by decide +kernel
theorem dX10_weight_39 : decode cX10_weight 39 = .ok (.iadd, 1) := by decide +kernel
theorem dX10_weight_40 : decode cX10_weight 40 = .ok (.iload 7, 2) := by decide +kernel
theorem dX10_weight_42 : decode cX10_weight 42 = .ok (.iadd, 1) := by decide +kernel
theorem dX10_weight_43 : decode cX10_weight 43 = .ok (.iaload, 1) := by decide +kernel
theorem dX10_weight_44 : decode cX10_weight 44 = .ok (.iadd, 1) := by decide +kernel
theorem dX10_weight_45 : decode cX10_weight 45 = .ok (.istore 5, 2) := by decide +kernel
theorem dX10_weight_47 : decode cX10_weight 47 = .ok (.iinc 7 1, 3) := by decide +kernel
theorem dX10_weight_50 : decode cX10_weight 50 = .ok (.goto (-32), 3) := by decide +kernel
theorem dX10_weight_53 : decode cX10_weight 53 = .ok (.iinc 6 1, 3) := by decide +kernel
theorem dX10_weight_56 : decode cX10_weight 56 = .ok (.goto (-50), 3) := by decide +kernel
theorem dX10_weight_59 : decode cX10_weight 59 = .ok (.iload 5, 2) := by decide +kernel
theorem dX10_weight_61 : decode cX10_weight 61 = .ok (.ireturn, 1) := by decide +kernel
theorem dX10_isOne_0 : decode cX10_isOne 0 = .ok (.aload_n 0, 1) := by decide +kernel
theorem dX10_isOne_1 : decode cX10_isOne 1 = .ok (.getfield 7, 3) := by decide +kernel
theorem dX10_isOne_4 : decode cX10_isOne 4 = .ok (.bipush 100, 2) := by decide +kernel
theorem dX10_isOne_6 : decode cX10_isOne 6 = .ok (.iload_n 1, 1) := by decide +kernel
theorem dX10_isOne_7 : decode cX10_isOne 7 = .ok (.iadd, 1) := by decide +kernel
theorem dX10_isOne_8 : decode cX10_isOne 8 = .ok (.iaload, 1) := by decide +kernel
theorem dX10_isOne_9 : decode cX10_isOne 9 = .ok (.ifCond .le 28, 3) := by decide +kernel
theorem dX10_isOne_12 : decode cX10_isOne 12 = .ok (.aload_n 0, 1) := by decide +kernel
theorem dX10_isOne_13 : decode cX10_isOne 13 = .ok (.getfield 7, 3) := by decide +kernel
theorem dX10_isOne_16 : decode cX10_isOne 16 = .ok (.bipush 100, 2) := by decide +kernel
theorem dX10_isOne_18 : decode cX10_isOne 18 = .ok (.iload_n 1, 1) := by decide +kernel
theorem dX10_isOne_19 : decode cX10_isOne 19 = .ok (.iadd, 1) := by decide +kernel
theorem dX10_isOne_20 : decode cX10_isOne 20 = .ok (.iaload, 1) := by decide +kernel
theorem dX10_isOne_21 : decode cX10_isOne 21 = .ok (.aload_n 0, 1) := by decide +kernel
theorem dX10_isOne_22 : decode cX10_isOne 22 = .ok (.getfield 7, 3) := by decide +kernel
theorem dX10_isOne_25 : decode cX10_isOne 25 = .ok (.bipush 100, 2) := by decide +kernel
theorem dX10_isOne_27 : decode cX10_isOne 27 = .ok (.iload_n 2, 1) := by decide +kernel
theorem dX10_isOne_28 : decode cX10_isOne 28 = .ok (.iadd, 1) := by decide +kernel
theorem dX10_isOne_29 : decode cX10_isOne 29 = .ok (.iaload, 1) := by decide +kernel
theorem dX10_isOne_30 : decode cX10_isOne 30 = .ok (.if_icmp .ne 7, 3) := by decide +kernel
theorem dX10_isOne_33 : decode cX10_isOne 33 = .ok (.iconst 1, 1) := by decide +kernel
theorem dX10_isOne_34 : decode cX10_isOne 34 = .ok (.goto 4, 3) := by decide +kernel
theorem dX10_isOne_37 : decode cX10_isOne 37 = .ok (.iconst 0, 1) := by decide +kernel
theorem dX10_isOne_38 : decode cX10_isOne 38 = .ok (.ireturn, 1) := by decide +kernel
theorem dX10_mayUpright_0 : decode cX10_mayUpright 0 = .ok (.iconst 1, 1) := by decide +kernel
theorem dX10_mayUpright_1 : decode cX10_mayUpright 1 = .ok (.istore 5, 2) := by decide +kernel
theorem dX10_mayUpright_3 : decode cX10_mayUpright 3 = .ok (.iload_n 2, 1) := by decide +kernel
theorem dX10_mayUpright_4 : decode cX10_mayUpright 4 = .ok (.istore 6, 2) := by decide +kernel
theorem dX10_mayUpright_6 : decode cX10_mayUpright 6 = .ok (.iload 6, 2) := by decide +kernel
theorem dX10_mayUpright_8 : decode cX10_mayUpright 8 = .ok (.iload_n 2, 1) := by decide +kernel
theorem dX10_mayUpright_9 : decode cX10_mayUpright 9 = .ok (.iload_n 3, 1) := by decide +kernel
theorem dX10_mayUpright_10 : decode cX10_mayUpright 10 = .ok (.iadd, 1) := by decide +kernel
theorem dX10_mayUpright_11 : decode cX10_mayUpright 11 = .ok (.if_icmp .ge 50, 3) := by decide +kernel
theorem dX10_mayUpright_14 : decode cX10_mayUpright 14 = .ok (.iload 5, 2) := by decide +kernel
theorem dX10_mayUpright_16 : decode cX10_mayUpright 16 = .ok (.ifCond .eq 36, 3) := by decide +kernel
theorem dX10_mayUpright_19 : decode cX10_mayUpright 19 = .ok (.aload_n 0, 1) := by decide +kernel
theorem dX10_mayUpright_20 : decode cX10_mayUpright 20 = .ok (.bipush 8, 2) := by decide +kernel
theorem dX10_mayUpright_22 : decode cX10_mayUpright 22 = .ok (.iload 6, 2) := by decide +kernel
theorem dX10_mayUpright_24 : decode cX10_mayUpright 24 = .ok (.imul, 1) := by decide +kernel
theorem dX10_mayUpright_25 : decode cX10_mayUpright 25 = .ok (.iload_n 1, 1) := by decide +kernel
theorem dX10_mayUpright_26 : decode cX10_mayUpright 26 = .ok (.iadd, 1) := by decide +kernel
theorem dX10_mayUpright_27 : decode cX10_mayUpright 27 = .ok (.iload 4, 2) := by decide +kernel
theorem dX10_mayUpright_29 : decode cX10_mayUpright 29 = .ok (.iadd, 1) := by decide +kernel
theorem dX10_mayUpright_30 : decode cX10_mayUpright 30 = .ok (.iconst 1, 1) := by decide +kernel
theorem dX10_mayUpright_31 : decode cX10_mayUpright 31 = .ok (.isub, 1) := by decide +kernel
theorem dX10_mayUpright_32 : decode cX10_mayUpright 32 = .ok (.bipush 8, 2) := by decide +kernel
theorem dX10_mayUpright_34 : decode cX10_mayUpright 34 = .ok (.iload 6, 2) := by decide +kernel
theorem dX10_mayUpright_36 : decode cX10_mayUpright 36 = .ok (.imul, 1) := by decide +kernel
theorem dX10_mayUpright_37 : decode cX10_mayUpright 37 = .ok (.iload_n 1, 1) := by decide +kernel
theorem dX10_mayUpright_38 : decode cX10_mayUpright 38 = .ok (.iadd, 1) := by decide +kernel
theorem dX10_mayUpright_39 : decode cX10_mayUpright 39 = .ok (.iload 4, 2) := by decide +kernel
theorem dX10_mayUpright_41 : decode cX10_mayUpright 41 = .ok (.iadd, 1) := by decide +kernel
theorem dX10_mayUpright_42 : decode cX10_mayUpright 42 = .ok (.invokevirtual 50, 3) := by decide +kernel
theorem dX10_mayUpright_45 : decode cX10_mayUpright 45 = .ok (.ifCond .ne 7, 3) := by decide +kernel
theorem dX10_mayUpright_48 : decode cX10_mayUpright 48 = .ok (.iconst 1, 1) := by decide +kernel
theorem dX10_mayUpright_49 : decode cX10_mayUpright 49 = .ok (.goto 4, 3) := by decide +kernel
theorem dX10_mayUpright_52 : decode cX10_mayUpright 52 = .ok (.iconst 0, 1) := by decide +kernel
theorem dX10_mayUpright_53 : decode cX10_mayUpright 53 = .ok (.istore 5, 2) := by decide +kernel
theorem dX10_mayUpright_55 : decode cX10_mayUpright 55 = .ok (.iinc 6 1, 3) := by decide +kernel
theorem dX10_mayUpright_58 : decode cX10_mayUpright 58 = .ok (.goto (-52), 3) := by decide +kernel
theorem dX10_mayUpright_61 : decode cX10_mayUpright 61 = .ok (.iload 5, 2) := by decide +kernel
theorem dX10_mayUpright_63 : decode cX10_mayUpright 63 = .ok (.ireturn, 1) := by decide +kernel
theorem dX10_mayLevel_0 : decode cX10_mayLevel 0 = .ok (.iconst 1, 1) := by decide +kernel
theorem dX10_mayLevel_1 : decode cX10_mayLevel 1 = .ok (.istore 5, 2) := by decide +kernel
theorem dX10_mayLevel_3 : decode cX10_mayLevel 3 = .ok (.iload_n 1, 1) := by decide +kernel
theorem dX10_mayLevel_4 : decode cX10_mayLevel 4 = .ok (.istore 6, 2) := by decide +kernel
theorem dX10_mayLevel_6 : decode cX10_mayLevel 6 = .ok (.iload 6, 2) := by decide +kernel
theorem dX10_mayLevel_8 : decode cX10_mayLevel 8 = .ok (.iload_n 1, 1) := by decide +kernel
theorem dX10_mayLevel_9 : decode cX10_mayLevel 9 = .ok (.iload_n 3, 1) := by decide +kernel
theorem dX10_mayLevel_10 : decode cX10_mayLevel 10 = .ok (.iadd, 1) := by decide +kernel
theorem dX10_mayLevel_11 : decode cX10_mayLevel 11 = .ok (.if_icmp .ge 50, 3) := by decide +kernel
theorem dX10_mayLevel_14 : decode cX10_mayLevel 14 = .ok (.iload 5, 2) := by decide +kernel
theorem dX10_mayLevel_16 : decode cX10_mayLevel 16 = .ok (.ifCond .eq 36, 3) := by decide +kernel
theorem dX10_mayLevel_19 : decode cX10_mayLevel 19 = .ok (.aload_n 0, 1) := by decide +kernel
theorem dX10_mayLevel_20 : decode cX10_mayLevel 20 = .ok (.bipush 8, 2) := by decide +kernel
theorem dX10_mayLevel_22 : decode cX10_mayLevel 22 = .ok (.iload_n 2, 1) := by decide +kernel
theorem dX10_mayLevel_23 : decode cX10_mayLevel 23 = .ok (.iload 4, 2) := by decide +kernel
theorem dX10_mayLevel_25 : decode cX10_mayLevel 25 = .ok (.iadd, 1) := by decide +kernel
theorem dX10_mayLevel_26 : decode cX10_mayLevel 26 = .ok (.iconst 1, 1) := by decide +kernel
theorem dX10_mayLevel_27 : decode cX10_mayLevel 27 = .ok (.isub, 1) := by decide +kernel
theorem dX10_mayLevel_28 : decode cX10_mayLevel 28 = .ok (.imul, 1) := by decide +kernel
theorem dX10_mayLevel_29 : decode cX10_mayLevel 29 = .ok (.iload 6, 2) := by decide +kernel
theorem dX10_mayLevel_31 : decode cX10_mayLevel 31 = .ok (.iadd, 1) := by decide +kernel
theorem dX10_mayLevel_32 : decode cX10_mayLevel 32 = .ok (.bipush 8, 2) := by decide +kernel
theorem dX10_mayLevel_34 : decode cX10_mayLevel 34 = .ok (.iload_n 2, 1) := by decide +kernel
theorem dX10_mayLevel_35 : decode cX10_mayLevel 35 = .ok (.iload 4, 2) := by decide +kernel
theorem dX10_mayLevel_37 : decode cX10_mayLevel 37 = .ok (.iadd, 1) := by decide +kernel
theorem dX10_mayLevel_38 : decode cX10_mayLevel 38 = .ok (.imul, 1) := by decide +kernel
theorem dX10_mayLevel_39 : decode cX10_mayLevel 39 = .ok (.iload 6, 2) := by decide +kernel
theorem dX10_mayLevel_41 : decode cX10_mayLevel 41 = .ok (.iadd, 1) := by decide +kernel
theorem dX10_mayLevel_42 : decode cX10_mayLevel 42 = .ok (.invokevirtual 50, 3) := by decide +kernel
theorem dX10_mayLevel_45 : decode cX10_mayLevel 45 = .ok (.ifCond .ne 7, 3) := by decide +kernel
theorem dX10_mayLevel_48 : decode cX10_mayLevel 48 = .ok (.iconst 1, 1) := by decide +kernel
theorem dX10_mayLevel_49 : decode cX10_mayLevel 49 = .ok (.goto 4, 3) := by decide +kernel
theorem dX10_mayLevel_52 : decode cX10_mayLevel 52 = .ok (.iconst 0, 1) := by decide +kernel
theorem dX10_mayLevel_53 : decode cX10_mayLevel 53 = .ok (.istore 5, 2) := by decide +kernel
theorem dX10_mayLevel_55 : decode cX10_mayLevel 55 = .ok (.iinc 6 1, 3) := by decide +kernel
theorem dX10_mayLevel_58 : decode cX10_mayLevel 58 = .ok (.goto (-52), 3) := by decide +kernel
theorem dX10_mayLevel_61 : decode cX10_mayLevel 61 = .ok (.iload 5, 2) := by decide +kernel
theorem dX10_mayLevel_63 : decode cX10_mayLevel 63 = .ok (.ireturn, 1) := by decide +kernel
theorem dX10_tries_0 : decode cX10_tries 0 = .ok (.aload_n 0, 1) := by decide +kernel
theorem dX10_tries_1 : decode cX10_tries 1 = .ok (.getfield 17, 3) := by decide +kernel
theorem dX10_tries_4 : decode cX10_tries 4 = .ok (.iload_n 2, 1) := by decide +kernel
theorem dX10_tries_5 : decode cX10_tries 5 = .ok (.iaload, 1) := by decide +kernel
theorem dX10_tries_6 : decode cX10_tries 6 = .ok (.ifCond .eq 12, 3) := by decide +kernel
theorem dX10_tries_9 : decode cX10_tries 9 = .ok (.aload_n 0, 1) := by decide +kernel
theorem dX10_tries_10 : decode cX10_tries 10 = .ok (.getfield 17, 3) := by decide +kernel
theorem dX10_tries_13 : decode cX10_tries 13 = .ok (.iload_n 3, 1) := by decide +kernel
theorem dX10_tries_14 : decode cX10_tries 14 = .ok (.iaload, 1) := by decide +kernel
theorem dX10_tries_15 : decode cX10_tries 15 = .ok (.ifCond .ne 4, 3) := by decide +kernel
theorem dX10_tries_18 : decode cX10_tries 18 = .ok (.return_, 1) := by decide +kernel
theorem dX10_tries_19 : decode cX10_tries 19 = .ok (.aload_n 0, 1) := by decide +kernel
theorem dX10_tries_20 : decode cX10_tries 20 = .ok (.getfield 17, 3) := by decide +kernel
theorem dX10_tries_23 : decode cX10_tries 23 = .ok (.iload_n 2, 1) := by decide +kernel
theorem dX10_tries_24 : decode cX10_tries 24 = .ok (.iaload, 1) := by decide +kernel
theorem dX10_tries_25 : decode cX10_tries 25 = .ok (.aload_n 0, 1) := by decide +kernel
theorem dX10_tries_26 : decode cX10_tries 26 = .ok (.getfield 17, 3) := by decide +kernel
theorem dX10_tries_29 : decode cX10_tries 29 = .ok (.iload_n 3, 1) := by decide +kernel
theorem dX10_tries_30 : decode cX10_tries 30 = .ok (.iaload, 1) := by decide +kernel
theorem dX10_tries_31 : decode cX10_tries 31 = .ok (.iadd, 1) := by decide +kernel
theorem dX10_tries_32 : decode cX10_tries 32 = .ok (.istore 6, 2) := by decide +kernel
theorem dX10_tries_34 : decode cX10_tries 34 = .ok (.aload_n 0, 1) := by decide +kernel
theorem dX10_tries_35 : decode cX10_tries 35 = .ok (.getfield 20, 3) := by decide +kernel
theorem dX10_tries_38 : decode cX10_tries 38 = .ok (.iload_n 2, 1) := by decide +kernel
theorem dX10_tries_39 : decode cX10_tries 39 = .ok (.iaload, 1) := by decide +kernel
theorem dX10_tries_40 : decode cX10_tries 40 = .ok (.aload_n 0, 1) := by decide +kernel
theorem dX10_tries_41 : decode cX10_tries 41 = .ok (.getfield 20, 3) := by decide +kernel
theorem dX10_tries_44 : decode cX10_tries 44 = .ok (.iload_n 3, 1) := by decide +kernel
theorem dX10_tries_45 : decode cX10_tries 45 = .ok (.iaload, 1) := by decide +kernel
theorem dX10_tries_46 : decode cX10_tries 46 = .ok (.iadd, 1) := by decide +kernel
theorem dX10_tries_47 : decode cX10_tries 47 = .ok (.iload 4, 2) := by decide +kernel
theorem dX10_tries_49 : decode cX10_tries 49 = .ok (.iadd, 1) := by decide +kernel
theorem dX10_tries_50 : decode cX10_tries 50 = .ok (.istore 7, 2) := by decide +kernel
theorem dX10_tries_52 : decode cX10_tries 52 = .ok (.aload_n 0, 1) := by decide +kernel
theorem dX10_tries_53 : decode cX10_tries 53 = .ok (.getfield 17, 3) := by decide +kernel
theorem dX10_tries_56 : decode cX10_tries 56 = .ok (.iload_n 1, 1) := by decide +kernel
theorem dX10_tries_57 : decode cX10_tries 57 = .ok (.iaload, 1) := by decide +kernel
theorem dX10_tries_58 : decode cX10_tries 58 = .ok (.ifCond .le 37, 3) := by decide +kernel
theorem dX10_tries_61 : decode cX10_tries 61 = .ok (.iload 6, 2) := by decide +kernel
theorem dX10_tries_63 : decode cX10_tries 63 = .ok (.aload_n 0, 1) := by decide +kernel
theorem dX10_tries_64 : decode cX10_tries 64 = .ok (.getfield 17, 3) := by decide +kernel
theorem dX10_tries_67 : decode cX10_tries 67 = .ok (.iload_n 1, 1) := by decide +kernel
theorem dX10_tries_68 : decode cX10_tries 68 = .ok (.iaload, 1) := by decide +kernel
theorem dX10_tries_69 : decode cX10_tries 69 = .ok (.if_icmp .gt 25, 3) := by decide +kernel
theorem dX10_tries_72 : decode cX10_tries 72 = .ok (.iload 6, 2) := by decide +kernel
theorem dX10_tries_74 : decode cX10_tries 74 = .ok (.aload_n 0, 1) := by decide +kernel
theorem dX10_tries_75 : decode cX10_tries 75 = .ok (.getfield 17, 3) := by decide +kernel
theorem dX10_tries_78 : decode cX10_tries 78 = .ok (.iload_n 1, 1) := by decide +kernel
theorem dX10_tries_79 : decode cX10_tries 79 = .ok (.iaload, 1) := by decide +kernel
theorem dX10_tries_80 : decode cX10_tries 80 = .ok (.if_icmp .ne 15, 3) := by decide +kernel
theorem dX10_tries_83 : decode cX10_tries 83 = .ok (.iload 7, 2) := by decide +kernel
theorem dX10_tries_85 : decode cX10_tries 85 = .ok (.aload_n 0, 1) := by decide +kernel
theorem dX10_tries_86 : decode cX10_tries 86 = .ok (.getfield 20, 3) := by decide +kernel
theorem dX10_tries_89 : decode cX10_tries 89 = .ok (.iload_n 1, 1) := by decide +kernel
theorem dX10_tries_90 : decode cX10_tries 90 = .ok (.iaload, 1) := by decide +kernel
theorem dX10_tries_91 : decode cX10_tries 91 = .ok (.if_icmp .lt 4, 3) := by decide +kernel
theorem dX10_tries_94 : decode cX10_tries 94 = .ok (.return_, 1) := by decide +kernel
theorem dX10_tries_95 : decode cX10_tries 95 = .ok (.aload_n 0, 1) := by decide +kernel
theorem dX10_tries_96 : decode cX10_tries 96 = .ok (.getfield 17, 3) := by decide +kernel
theorem dX10_tries_99 : decode cX10_tries 99 = .ok (.iload_n 1, 1) := by decide +kernel
theorem dX10_tries_100 : decode cX10_tries 100 = .ok (.iload 6, 2) := by decide +kernel
theorem dX10_tries_102 : decode cX10_tries 102 = .ok (.iastore, 1) := by decide +kernel
theorem dX10_tries_103 : decode cX10_tries 103 = .ok (.aload_n 0, 1) := by decide +kernel
theorem dX10_tries_104 : decode cX10_tries 104 = .ok (.getfield 20, 3) := by decide +kernel
theorem dX10_tries_107 : decode cX10_tries 107 = .ok (.iload_n 1, 1) := by decide +kernel
theorem dX10_tries_108 : decode cX10_tries 108 = .ok (.iload 7, 2) := by decide +kernel
theorem dX10_tries_110 : decode cX10_tries 110 = .ok (.iastore, 1) := by decide +kernel
theorem dX10_tries_111 : decode cX10_tries 111 = .ok (.aload_n 0, 1) := by decide +kernel
theorem dX10_tries_112 : decode cX10_tries 112 = .ok (.getfield 23, 3) := by decide +kernel
theorem dX10_tries_115 : decode cX10_tries 115 = .ok (.iload_n 1, 1) := by decide +kernel
theorem dX10_tries_116 : decode cX10_tries 116 = .ok (.iload 5, 2) := by decide +kernel
theorem dX10_tries_118 : decode cX10_tries 118 = .ok (.iastore, 1) := by decide +kernel
theorem dX10_tries_119 : decode cX10_tries 119 = .ok (.return_, 1) := by decide +kernel
theorem dX10_settles_0 : decode cX10_settles 0 = .ok (.iload_n 1, 1) := by decide +kernel
theorem dX10_settles_1 : decode cX10_settles 1 = .ok (.iload_n 2, 1) := by decide +kernel
theorem dX10_settles_2 : decode cX10_settles 2 = .ok (.iload_n 3, 1) := by decide +kernel
theorem dX10_settles_3 : decode cX10_settles 3 = .ok (.iload 4, 2) := by decide +kernel
theorem dX10_settles_5 : decode cX10_settles 5 = .ok (.invokestatic 53, 3) := by decide +kernel
theorem dX10_settles_8 : decode cX10_settles 8 = .ok (.istore 5, 2) := by decide +kernel
theorem dX10_settles_10 : decode cX10_settles 10 = .ok (.aload_n 0, 1) := by decide +kernel
theorem dX10_settles_11 : decode cX10_settles 11 = .ok (.getfield 17, 3) := by decide +kernel
theorem dX10_settles_14 : decode cX10_settles 14 = .ok (.iload 5, 2) := by decide +kernel
theorem dX10_settles_16 : decode cX10_settles 16 = .ok (.iconst 0, 1) := by decide +kernel
theorem dX10_settles_17 : decode cX10_settles 17 = .ok (.iastore, 1) := by decide +kernel
theorem dX10_settles_18 : decode cX10_settles 18 = .ok (.aload_n 0, 1) := by decide +kernel
theorem dX10_settles_19 : decode cX10_settles 19 = .ok (.getfield 20, 3) := by decide +kernel
theorem dX10_settles_22 : decode cX10_settles 22 = .ok (.iload 5, 2) := by decide +kernel
theorem dX10_settles_24 : decode cX10_settles 24 = .ok (.iconst 0, 1) := by decide +kernel
theorem dX10_settles_25 : decode cX10_settles 25 = .ok (.iastore, 1) := by decide +kernel
theorem dX10_settles_26 : decode cX10_settles 26 = .ok (.aload_n 0, 1) := by decide +kernel
theorem dX10_settles_27 : decode cX10_settles 27 = .ok (.getfield 23, 3) := by decide +kernel
theorem dX10_settles_30 : decode cX10_settles 30 = .ok (.iload 5, 2) := by decide +kernel
theorem dX10_settles_32 : decode cX10_settles 32 = .ok (.iconst 0, 1) := by decide +kernel
theorem dX10_settles_33 : decode cX10_settles 33 = .ok (.iastore, 1) := by decide +kernel
theorem dX10_settles_34 : decode cX10_settles 34 = .ok (.aload_n 0, 1) := by decide +kernel
theorem dX10_settles_35 : decode cX10_settles 35 = .ok (.iload_n 1, 1) := by decide +kernel
theorem dX10_settles_36 : decode cX10_settles 36 = .ok (.iload_n 2, 1) := by decide +kernel
theorem dX10_settles_37 : decode cX10_settles 37 = .ok (.iload_n 3, 1) := by decide +kernel
theorem dX10_settles_38 : decode cX10_settles 38 = .ok (.iload 4, 2) := by decide +kernel
theorem dX10_settles_40 : decode cX10_settles 40 = .ok (.invokevirtual 57, 3) := by decide +kernel
theorem dX10_settles_43 : decode cX10_settles 43 = .ok (.aload_n 0, 1) := by decide +kernel
theorem dX10_settles_44 : decode cX10_settles 44 = .ok (.getfield 7, 3) := by decide +kernel
theorem dX10_settles_47 : decode cX10_settles 47 = .ok (.iconst 2, 1) := by decide +kernel
theorem dX10_settles_48 : decode cX10_settles 48 = .ok (.iaload, 1) := by decide +kernel
theorem dX10_settles_49 : decode cX10_settles 49 = .ok (.if_icmp .gt 12, 3) := by decide +kernel
theorem dX10_settles_52 : decode cX10_settles 52 = .ok (.aload_n 0, 1) := by decide +kernel
theorem dX10_settles_53 : decode cX10_settles 53 = .ok (.getfield 17, 3) := by decide +kernel
theorem dX10_settles_56 : decode cX10_settles 56 = .ok (.iload 5, 2) := by decide +kernel
theorem dX10_settles_58 : decode cX10_settles 58 = .ok (.iconst 1, 1) := by decide +kernel
theorem dX10_settles_59 : decode cX10_settles 59 = .ok (.iastore, 1) := by decide +kernel
theorem dX10_settles_60 : decode cX10_settles 60 = .ok (.return_, 1) := by decide +kernel
theorem dX10_settles_61 : decode cX10_settles 61 = .ok (.iconst 1, 1) := by decide +kernel
theorem dX10_settles_62 : decode cX10_settles 62 = .ok (.istore 6, 2) := by decide +kernel
theorem dX10_settles_64 : decode cX10_settles 64 = .ok (.iload 6, 2) := by decide +kernel
theorem dX10_settles_66 : decode cX10_settles 66 = .ok (.iload_n 3, 1) := by decide +kernel
theorem dX10_settles_67 : decode cX10_settles 67 = .ok (.if_icmp .ge 55, 3) := by decide +kernel
theorem dX10_settles_70 : decode cX10_settles 70 = .ok (.aload_n 0, 1) := by decide +kernel
theorem dX10_settles_71 : decode cX10_settles 71 = .ok (.iload_n 1, 1) := by decide +kernel
theorem dX10_settles_72 : decode cX10_settles 72 = .ok (.iload_n 2, 1) := by decide +kernel
theorem dX10_settles_73 : decode cX10_settles 73 = .ok (.iload 4, 2) := by decide +kernel
theorem dX10_settles_75 : decode cX10_settles 75 = .ok (.iload 6, 2) := by decide +kernel
theorem dX10_settles_77 : decode cX10_settles 77 = .ok (.invokevirtual 60, 3) := by decide +kernel
theorem dX10_settles_80 : decode cX10_settles 80 = .ok (.ifCond .eq 36, 3) := by decide +kernel
theorem dX10_settles_83 : decode cX10_settles 83 = .ok (.aload_n 0, 1) := by decide +kernel
theorem dX10_settles_84 : decode cX10_settles 84 = .ok (.iload 5, 2) := by decide +kernel
theorem dX10_settles_86 : decode cX10_settles 86 = .ok (.iload_n 1, 1) := by decide +kernel
theorem dX10_settles_87 : decode cX10_settles 87 = .ok (.iload_n 2, 1) := by decide +kernel
theorem dX10_settles_88 : decode cX10_settles 88 = .ok (.iload 6, 2) := by decide +kernel
theorem dX10_settles_90 : decode cX10_settles 90 = .ok (.iload 4, 2) := by decide +kernel
theorem dX10_settles_92 : decode cX10_settles 92 = .ok (.invokestatic 53, 3) := by decide +kernel
theorem dX10_settles_95 : decode cX10_settles 95 = .ok (.iload_n 1, 1) := by decide +kernel
theorem dX10_settles_96 : decode cX10_settles 96 = .ok (.iload 6, 2) := by decide +kernel
theorem dX10_settles_98 : decode cX10_settles 98 = .ok (.iadd, 1) := by decide +kernel
theorem dX10_settles_99 : decode cX10_settles 99 = .ok (.iload_n 2, 1) := by decide +kernel
theorem dX10_settles_100 : decode cX10_settles 100 = .ok (.iload_n 3, 1) := by decide +kernel
theorem dX10_settles_101 : decode cX10_settles 101 = .ok (.iload 6, 2) := by decide +kernel
theorem dX10_settles_103 : decode cX10_settles 103 = .ok (.isub, 1) := by decide +kernel
theorem dX10_settles_104 : decode cX10_settles 104 = .ok (.iload 4, 2) := by decide +kernel
theorem dX10_settles_106 : decode cX10_settles 106 = .ok (.invokestatic 53, 3) := by decide +kernel
theorem dX10_settles_109 : decode cX10_settles 109 = .ok (.iload 4, 2) := by decide +kernel
theorem dX10_settles_111 : decode cX10_settles 111 = .ok (.iload 6, 2) := by decide +kernel
theorem dX10_settles_113 : decode cX10_settles 113 = .ok (.invokevirtual 64, 3) := by decide +kernel
theorem dX10_settles_116 : decode cX10_settles 116 = .ok (.iinc 6 1, 3) := by decide +kernel
theorem dX10_settles_119 : decode cX10_settles 119 = .ok (.goto (-55), 3) := by decide +kernel
theorem dX10_settles_122 : decode cX10_settles 122 = .ok (.iconst 1, 1) := by decide +kernel
theorem dX10_settles_123 : decode cX10_settles 123 = .ok (.istore 6, 2) := by decide +kernel
theorem dX10_settles_125 : decode cX10_settles 125 = .ok (.iload 6, 2) := by decide +kernel
theorem dX10_settles_127 : decode cX10_settles 127 = .ok (.iload 4, 2) := by decide +kernel
theorem dX10_settles_129 : decode cX10_settles 129 = .ok (.if_icmp .ge 55, 3) := by decide +kernel
theorem dX10_settles_132 : decode cX10_settles 132 = .ok (.aload_n 0, 1) := by decide +kernel
theorem dX10_settles_133 : decode cX10_settles 133 = .ok (.iload_n 1, 1) := by decide +kernel
theorem dX10_settles_134 : decode cX10_settles 134 = .ok (.iload_n 2, 1) := by decide +kernel
theorem dX10_settles_135 : decode cX10_settles 135 = .ok (.iload_n 3, 1) := by decide +kernel
theorem dX10_settles_136 : decode cX10_settles 136 = .ok (.iload 6, 2) := by decide +kernel
theorem dX10_settles_138 : decode cX10_settles 138 = .ok (.invokevirtual 68, 3) := by decide +kernel
theorem dX10_settles_141 : decode cX10_settles 141 = .ok (.ifCond .eq 37, 3) := by decide +kernel
theorem dX10_settles_144 : decode cX10_settles 144 = .ok (.aload_n 0, 1) := by decide +kernel
theorem dX10_settles_145 : decode cX10_settles 145 = .ok (.iload 5, 2) := by decide +kernel
theorem dX10_settles_147 : decode cX10_settles 147 = .ok (.iload_n 1, 1) := by decide +kernel
theorem dX10_settles_148 : decode cX10_settles 148 = .ok (.iload_n 2, 1) := by decide +kernel
theorem dX10_settles_149 : decode cX10_settles 149 = .ok (.iload_n 3, 1) := by decide +kernel
theorem dX10_settles_150 : decode cX10_settles 150 = .ok (.iload 6, 2) := by decide +kernel
theorem dX10_settles_152 : decode cX10_settles 152 = .ok (.invokestatic 53, 3) := by decide +kernel
theorem dX10_settles_155 : decode cX10_settles 155 = .ok (.iload_n 1, 1) := by decide +kernel
theorem dX10_settles_156 : decode cX10_settles 156 = .ok (.iload_n 2, 1) := by decide +kernel
theorem dX10_settles_157 : decode cX10_settles 157 = .ok (.iload 6, 2) := by decide +kernel
theorem dX10_settles_159 : decode cX10_settles 159 = .ok (.iadd, 1) := by decide +kernel
theorem dX10_settles_160 : decode cX10_settles 160 = .ok (.iload_n 3, 1) := by decide +kernel
theorem dX10_settles_161 : decode cX10_settles 161 = .ok (.iload 4, 2) := by decide +kernel
theorem dX10_settles_163 : decode cX10_settles 163 = .ok (.iload 6, 2) := by decide +kernel
theorem dX10_settles_165 : decode cX10_settles 165 = .ok (.isub, 1) := by decide +kernel
theorem dX10_settles_166 : decode cX10_settles 166 = .ok (.invokestatic 53, 3) := by decide +kernel
theorem dX10_settles_169 : decode cX10_settles 169 = .ok (.iload_n 3, 1) := by decide +kernel
theorem dX10_settles_170 : decode cX10_settles 170 = .ok (.bipush 8, 2) := by decide +kernel
theorem dX10_settles_172 : decode cX10_settles 172 = .ok (.iload 6, 2) := by decide +kernel
theorem dX10_settles_174 : decode cX10_settles 174 = .ok (.iadd, 1) := by decide +kernel
theorem dX10_settles_175 : decode cX10_settles 175 = .ok (.invokevirtual 64, 3) := by decide +kernel
theorem dX10_settles_178 : decode cX10_settles 178 = .ok (.iinc 6 1, 3) := by decide +kernel
theorem dX10_settles_181 : decode cX10_settles 181 = .ok (.goto (-56), 3) := by decide +kernel
theorem dX10_settles_184 : decode cX10_settles 184 = .ok (.return_, 1) := by decide +kernel
theorem dX10_puts_0 : decode cX10_puts 0 = .ok (.aload_n 0, 1) := by decide +kernel
theorem dX10_puts_1 : decode cX10_puts 1 = .ok (.getfield 26, 3) := by decide +kernel
theorem dX10_puts_4 : decode cX10_puts 4 = .ok (.iconst 4, 1) := by decide +kernel
theorem dX10_puts_5 : decode cX10_puts 5 = .ok (.iload_n 1, 1) := by decide +kernel
theorem dX10_puts_6 : decode cX10_puts 6 = .ok (.imul, 1) := by decide +kernel
theorem dX10_puts_7 : decode cX10_puts 7 = .ok (.iload_n 2, 1) := by decide +kernel
theorem dX10_puts_8 : decode cX10_puts 8 = .ok (.iastore, 1) := by decide +kernel
theorem dX10_puts_9 : decode cX10_puts 9 = .ok (.aload_n 0, 1) := by decide +kernel
theorem dX10_puts_10 : decode cX10_puts 10 = .ok (.getfield 26, 3) := by decide +kernel
theorem dX10_puts_13 : decode cX10_puts 13 = .ok (.iconst 4, 1) := by decide +kernel
theorem dX10_puts_14 : decode cX10_puts 14 = .ok (.iload_n 1, 1) := by decide +kernel
theorem dX10_puts_15 : decode cX10_puts 15 = .ok (.imul, 1) := by decide +kernel
theorem dX10_puts_16 : decode cX10_puts 16 = .ok (.iconst 1, 1) := by decide +kernel
theorem dX10_puts_17 : decode cX10_puts 17 = .ok (.iadd, 1) := by decide +kernel
theorem dX10_puts_18 : decode cX10_puts 18 = .ok (.iload_n 3, 1) := by decide +kernel
theorem dX10_puts_19 : decode cX10_puts 19 = .ok (.iastore, 1) := by decide +kernel
theorem dX10_puts_20 : decode cX10_puts 20 = .ok (.aload_n 0, 1) := by decide +kernel
theorem dX10_puts_21 : decode cX10_puts 21 = .ok (.getfield 26, 3) := by decide +kernel
theorem dX10_puts_24 : decode cX10_puts 24 = .ok (.iconst 4, 1) := by decide +kernel
theorem dX10_puts_25 : decode cX10_puts 25 = .ok (.iload_n 1, 1) := by decide +kernel
theorem dX10_puts_26 : decode cX10_puts 26 = .ok (.imul, 1) := by decide +kernel
theorem dX10_puts_27 : decode cX10_puts 27 = .ok (.iconst 2, 1) := by decide +kernel
theorem dX10_puts_28 : decode cX10_puts 28 = .ok (.iadd, 1) := by decide +kernel
theorem dX10_puts_29 : decode cX10_puts 29 = .ok (.iload 4, 2) := by decide +kernel
theorem dX10_puts_31 : decode cX10_puts 31 = .ok (.iastore, 1) := by decide +kernel
theorem dX10_puts_32 : decode cX10_puts 32 = .ok (.aload_n 0, 1) := by decide +kernel
theorem dX10_puts_33 : decode cX10_puts 33 = .ok (.getfield 26, 3) := by decide +kernel
theorem dX10_puts_36 : decode cX10_puts 36 = .ok (.iconst 4, 1) := by decide +kernel
theorem dX10_puts_37 : decode cX10_puts 37 = .ok (.iload_n 1, 1) := by decide +kernel
theorem dX10_puts_38 : decode cX10_puts 38 = .ok (.imul, 1) := by decide +kernel
theorem dX10_puts_39 : decode cX10_puts 39 = .ok (.iconst 3, 1) := by decide +kernel
theorem dX10_puts_40 : decode cX10_puts 40 = .ok (.iadd, 1) := by decide +kernel
theorem dX10_puts_41 : decode cX10_puts 41 = .ok (.iload 5, 2) := by decide +kernel
theorem dX10_puts_43 : decode cX10_puts 43 = .ok (.iastore, 1) := by decide +kernel
theorem dX10_puts_44 : decode cX10_puts 44 = .ok (.iload_n 1, 1) := by decide +kernel
theorem dX10_puts_45 : decode cX10_puts 45 = .ok (.iconst 1, 1) := by decide +kernel
theorem dX10_puts_46 : decode cX10_puts 46 = .ok (.iadd, 1) := by decide +kernel
theorem dX10_puts_47 : decode cX10_puts 47 = .ok (.ireturn, 1) := by decide +kernel
theorem dX10_isBlock_0 : decode cX10_isBlock 0 = .ok (.sipush 170, 3) := by decide +kernel
theorem dX10_isBlock_3 : decode cX10_isBlock 3 = .ok (.bipush 8, 2) := by decide +kernel
theorem dX10_isBlock_5 : decode cX10_isBlock 5 = .ok (.aload_n 0, 1) := by decide +kernel
theorem dX10_isBlock_6 : decode cX10_isBlock 6 = .ok (.getfield 7, 3) := by decide +kernel
theorem dX10_isBlock_9 : decode cX10_isBlock 9 = .ok (.iconst 5, 1) := by decide +kernel
theorem dX10_isBlock_10 : decode cX10_isBlock 10 = .ok (.iaload, 1) := by decide +kernel
theorem dX10_isBlock_11 : decode cX10_isBlock 11 = .ok (.imul, 1) := by decide +kernel
theorem dX10_isBlock_12 : decode cX10_isBlock 12 = .ok (.iadd, 1) := by decide +kernel
theorem dX10_isBlock_13 : decode cX10_isBlock 13 = .ok (.istore 5, 2) := by decide +kernel
theorem dX10_isBlock_15 : decode cX10_isBlock 15 = .ok (.aload_n 0, 1) := by decide +kernel
theorem dX10_isBlock_16 : decode cX10_isBlock 16 = .ok (.getfield 7, 3) := by decide +kernel
theorem dX10_isBlock_19 : decode cX10_isBlock 19 = .ok (.iload 5, 2) := by decide +kernel
theorem dX10_isBlock_21 : decode cX10_isBlock 21 = .ok (.iload_n 1, 1) := by decide +kernel
theorem dX10_isBlock_22 : decode cX10_isBlock 22 = .ok (.iastore, 1) := by decide +kernel
theorem dX10_isBlock_23 : decode cX10_isBlock 23 = .ok (.aload_n 0, 1) := by decide +kernel
theorem dX10_isBlock_24 : decode cX10_isBlock 24 = .ok (.getfield 7, 3) := by decide +kernel
theorem dX10_isBlock_27 : decode cX10_isBlock 27 = .ok (.iload 5, 2) := by decide +kernel
theorem dX10_isBlock_29 : decode cX10_isBlock 29 = .ok (.iconst 1, 1) := by decide +kernel
theorem dX10_isBlock_30 : decode cX10_isBlock 30 = .ok (.iadd, 1) := by decide +kernel
theorem dX10_isBlock_31 : decode cX10_isBlock 31 = .ok (.iload_n 2, 1) := by decide +kernel
theorem dX10_isBlock_32 : decode cX10_isBlock 32 = .ok (.iastore, 1) := by decide +kernel
theorem dX10_isBlock_33 : decode cX10_isBlock 33 = .ok (.aload_n 0, 1) := by decide +kernel
theorem dX10_isBlock_34 : decode cX10_isBlock 34 = .ok (.getfield 7, 3) := by decide +kernel
theorem dX10_isBlock_37 : decode cX10_isBlock 37 = .ok (.iload 5, 2) := by decide +kernel
theorem dX10_isBlock_39 : decode cX10_isBlock 39 = .ok (.iconst 2, 1) := by decide +kernel
theorem dX10_isBlock_40 : decode cX10_isBlock 40 = .ok (.iadd, 1) := by decide +kernel
theorem dX10_isBlock_41 : decode cX10_isBlock 41 = .ok (.iload_n 3, 1) := by decide +kernel
theorem dX10_isBlock_42 : decode cX10_isBlock 42 = .ok (.iastore, 1) := by decide +kernel
theorem dX10_isBlock_43 : decode cX10_isBlock 43 = .ok (.aload_n 0, 1) := by decide +kernel
theorem dX10_isBlock_44 : decode cX10_isBlock 44 = .ok (.getfield 7, 3) := by decide +kernel
theorem dX10_isBlock_47 : decode cX10_isBlock 47 = .ok (.iload 5, 2) := by decide +kernel
theorem dX10_isBlock_49 : decode cX10_isBlock 49 = .ok (.iconst 3, 1) := by decide +kernel
theorem dX10_isBlock_50 : decode cX10_isBlock 50 = .ok (.iadd, 1) := by decide +kernel
theorem dX10_isBlock_51 : decode cX10_isBlock 51 = .ok (.iload 4, 2) := by decide +kernel
theorem dX10_isBlock_53 : decode cX10_isBlock 53 = .ok (.iastore, 1) := by decide +kernel
theorem dX10_isBlock_54 : decode cX10_isBlock 54 = .ok (.aload_n 0, 1) := by decide +kernel
theorem dX10_isBlock_55 : decode cX10_isBlock 55 = .ok (.getfield 7, 3) := by decide +kernel
theorem dX10_isBlock_58 : decode cX10_isBlock 58 = .ok (.iload 5, 2) := by decide +kernel
theorem dX10_isBlock_60 : decode cX10_isBlock 60 = .ok (.iconst 4, 1) := by decide +kernel
theorem dX10_isBlock_61 : decode cX10_isBlock 61 = .ok (.iadd, 1) := by decide +kernel
theorem dX10_isBlock_62 : decode cX10_isBlock 62 = .ok (.iconst (-1), 1) := by decide +kernel
theorem dX10_isBlock_63 : decode cX10_isBlock 63 = .ok (.iastore, 1) := by decide +kernel
theorem dX10_isBlock_64 : decode cX10_isBlock 64 = .ok (.aload_n 0, 1) := by decide +kernel
theorem dX10_isBlock_65 : decode cX10_isBlock 65 = .ok (.getfield 7, 3) := by decide +kernel
theorem dX10_isBlock_68 : decode cX10_isBlock 68 = .ok (.iload 5, 2) := by decide +kernel
theorem dX10_isBlock_70 : decode cX10_isBlock 70 = .ok (.iconst 5, 1) := by decide +kernel
theorem dX10_isBlock_71 : decode cX10_isBlock 71 = .ok (.iadd, 1) := by decide +kernel
theorem dX10_isBlock_72 : decode cX10_isBlock 72 = .ok (.iconst (-1), 1) := by decide +kernel
theorem dX10_isBlock_73 : decode cX10_isBlock 73 = .ok (.iastore, 1) := by decide +kernel
theorem dX10_isBlock_74 : decode cX10_isBlock 74 = .ok (.aload_n 0, 1) := by decide +kernel
theorem dX10_isBlock_75 : decode cX10_isBlock 75 = .ok (.getfield 7, 3) := by decide +kernel
theorem dX10_isBlock_78 : decode cX10_isBlock 78 = .ok (.iconst 5, 1) := by decide +kernel
theorem dX10_isBlock_79 : decode cX10_isBlock 79 = .ok (.dup2, 1) := by decide +kernel
theorem dX10_isBlock_80 : decode cX10_isBlock 80 = .ok (.iaload, 1) := by decide +kernel
theorem dX10_isBlock_81 : decode cX10_isBlock 81 = .ok (.iconst 1, 1) := by decide +kernel
theorem dX10_isBlock_82 : decode cX10_isBlock 82 = .ok (.iadd, 1) := by decide +kernel
theorem dX10_isBlock_83 : decode cX10_isBlock 83 = .ok (.iastore, 1) := by decide +kernel
theorem dX10_isBlock_84 : decode cX10_isBlock 84 = .ok (.return_, 1) := by decide +kernel
theorem dX10_plan_0 : decode cX10_plan 0 = .ok (.iconst 1, 1) := by decide +kernel
theorem dX10_plan_1 : decode cX10_plan 1 = .ok (.istore_n 1, 1) := by decide +kernel
theorem dX10_plan_2 : decode cX10_plan 2 = .ok (.iload_n 1, 1) := by decide +kernel
theorem dX10_plan_3 : decode cX10_plan 3 = .ok (.aload_n 0, 1) := by decide +kernel
theorem dX10_plan_4 : decode cX10_plan 4 = .ok (.getfield 7, 3) := by decide +kernel
theorem dX10_plan_7 : decode cX10_plan 7 = .ok (.iconst 0, 1) := by decide +kernel
theorem dX10_plan_8 : decode cX10_plan 8 = .ok (.iaload, 1) := by decide +kernel
theorem dX10_plan_9 : decode cX10_plan 9 = .ok (.if_icmp .gt 78, 3) := by decide +kernel
theorem dX10_plan_12 : decode cX10_plan 12 = .ok (.iconst 1, 1) := by decide +kernel
theorem dX10_plan_13 : decode cX10_plan 13 = .ok (.istore_n 2, 1) := by decide +kernel
theorem dX10_plan_14 : decode cX10_plan 14 = .ok (.iload_n 2, 1) := by decide +kernel
theorem dX10_plan_15 : decode cX10_plan 15 = .ok (.aload_n 0, 1) := by decide +kernel
theorem dX10_plan_16 : decode cX10_plan 16 = .ok (.getfield 7, 3) := by decide +kernel
theorem dX10_plan_19 : decode cX10_plan 19 = .ok (.iconst 1, 1) := by decide +kernel
theorem dX10_plan_20 : decode cX10_plan 20 = .ok (.iaload, 1) := by decide +kernel
theorem dX10_plan_21 : decode cX10_plan 21 = .ok (.if_icmp .gt 60, 3) := by decide +kernel
theorem dX10_plan_24 : decode cX10_plan 24 = .ok (.iconst 0, 1) := by decide +kernel
theorem dX10_plan_25 : decode cX10_plan 25 = .ok (.istore_n 3, 1) := by decide +kernel
theorem dX10_plan_26 : decode cX10_plan 26 = .ok (.iload_n 3, 1) := by decide +kernel
theorem dX10_plan_27 : decode cX10_plan 27 = .ok (.iload_n 1, 1) := by decide +kernel
theorem dX10_plan_28 : decode cX10_plan 28 = .ok (.iadd, 1) := by decide +kernel
theorem dX10_plan_29 : decode cX10_plan 29 = .ok (.aload_n 0, 1) := by decide +kernel
theorem dX10_plan_30 : decode cX10_plan 30 = .ok (.getfield 7, 3) := by decide +kernel
theorem dX10_plan_33 : decode cX10_plan 33 = .ok (.iconst 0, 1) := by decide +kernel
theorem dX10_plan_34 : decode cX10_plan 34 = .ok (.iaload, 1) := by decide +kernel
theorem dX10_plan_35 : decode cX10_plan 35 = .ok (.if_icmp .gt 40, 3) := by decide +kernel
theorem dX10_plan_38 : decode cX10_plan 38 = .ok (.iconst 0, 1) := by decide +kernel
theorem dX10_plan_39 : decode cX10_plan 39 = .ok (.istore 4, 2) := by decide +kernel
theorem dX10_plan_41 : decode cX10_plan 41 = .ok (.iload 4, 2) := by decide +kernel
theorem dX10_plan_43 : decode cX10_plan 43 = .ok (.iload_n 2, 1) := by decide +kernel
theorem dX10_plan_44 : decode cX10_plan 44 = .ok (.iadd, 1) := by decide +kernel
theorem dX10_plan_45 : decode cX10_plan 45 = .ok (.aload_n 0, 1) := by decide +kernel
theorem dX10_plan_46 : decode cX10_plan 46 = .ok (.getfield 7, 3) := by decide +kernel
theorem dX10_plan_49 : decode cX10_plan 49 = .ok (.iconst 1, 1) := by decide +kernel
theorem dX10_plan_50 : decode cX10_plan 50 = .ok (.iaload, 1) := by decide +kernel
theorem dX10_plan_51 : decode cX10_plan 51 = .ok (.if_icmp .gt 18, 3) := by decide +kernel
theorem dX10_plan_54 : decode cX10_plan 54 = .ok (.aload_n 0, 1) := by decide +kernel
theorem dX10_plan_55 : decode cX10_plan 55 = .ok (.iload_n 3, 1) := by decide +kernel
theorem dX10_plan_56 : decode cX10_plan 56 = .ok (.iload 4, 2) := by decide +kernel
theorem dX10_plan_58 : decode cX10_plan 58 = .ok (.iload_n 1, 1) := by decide +kernel
theorem dX10_plan_59 : decode cX10_plan 59 = .ok (.iload_n 2, 1) := by decide +kernel
theorem dX10_plan_60 : decode cX10_plan 60 = .ok (.invokevirtual 71, 3) := by decide +kernel
theorem dX10_plan_63 : decode cX10_plan 63 = .ok (.iinc 4 1, 3) := by decide +kernel
theorem dX10_plan_66 : decode cX10_plan 66 = .ok (.goto (-25), 3) := by decide +kernel
theorem dX10_plan_69 : decode cX10_plan 69 = .ok (.iinc 3 1, 3) := by decide +kernel
theorem dX10_plan_72 : decode cX10_plan 72 = .ok (.goto (-46), 3) := by decide +kernel
theorem dX10_plan_75 : decode cX10_plan 75 = .ok (.iinc 2 1, 3) := by decide +kernel
theorem dX10_plan_78 : decode cX10_plan 78 = .ok (.goto (-64), 3) := by decide +kernel
theorem dX10_plan_81 : decode cX10_plan 81 = .ok (.iinc 1 1, 3) := by decide +kernel
theorem dX10_plan_84 : decode cX10_plan 84 = .ok (.goto (-82), 3) := by decide +kernel
theorem dX10_plan_87 : decode cX10_plan 87 = .ok (.iconst 0, 1) := by decide +kernel
theorem dX10_plan_88 : decode cX10_plan 88 = .ok (.iconst 0, 1) := by decide +kernel
theorem dX10_plan_89 : decode cX10_plan 89 = .ok (.aload_n 0, 1) := by decide +kernel
theorem dX10_plan_90 : decode cX10_plan 90 = .ok (.getfield 7, 3) := by decide +kernel
theorem dX10_plan_93 : decode cX10_plan 93 = .ok (.iconst 0, 1) := by decide +kernel
theorem dX10_plan_94 : decode cX10_plan 94 = .ok (.iaload, 1) := by decide +kernel
theorem dX10_plan_95 : decode cX10_plan 95 = .ok (.aload_n 0, 1) := by decide +kernel
theorem dX10_plan_96 : decode cX10_plan 96 = .ok (.getfield 7, 3) := by decide +kernel
theorem dX10_plan_99 : decode cX10_plan 99 = .ok (.iconst 1, 1) := by decide +kernel
theorem dX10_plan_100 : decode cX10_plan 100 = .ok (.iaload, 1) := by decide +kernel
theorem dX10_plan_101 : decode cX10_plan 101 = .ok (.invokestatic 53, 3) := by decide +kernel
theorem dX10_plan_104 : decode cX10_plan 104 = .ok (.istore_n 1, 1) := by decide +kernel
theorem dX10_plan_105 : decode cX10_plan 105 = .ok (.aload_n 0, 1) := by decide +kernel
theorem dX10_plan_106 : decode cX10_plan 106 = .ok (.getfield 17, 3) := by decide +kernel
theorem dX10_plan_109 : decode cX10_plan 109 = .ok (.iload_n 1, 1) := by decide +kernel
theorem dX10_plan_110 : decode cX10_plan 110 = .ok (.iaload, 1) := by decide +kernel
theorem dX10_plan_111 : decode cX10_plan 111 = .ok (.ifCond .ne 5, 3) := by decide +kernel
theorem dX10_plan_114 : decode cX10_plan 114 = .ok (.iconst (-1), 1) := by decide +kernel
theorem dX10_plan_115 : decode cX10_plan 115 = .ok (.ireturn, 1) := by decide +kernel
theorem dX10_plan_116 : decode cX10_plan 116 = .ok (.aload_n 0, 1) := by decide +kernel
theorem dX10_plan_117 : decode cX10_plan 117 = .ok (.invokevirtual 39, 3) := by decide +kernel
theorem dX10_plan_120 : decode cX10_plan 120 = .ok (.aload_n 0, 1) := by decide +kernel
theorem dX10_plan_121 : decode cX10_plan 121 = .ok (.getfield 7, 3) := by decide +kernel
theorem dX10_plan_124 : decode cX10_plan 124 = .ok (.bipush 6, 2) := by decide +kernel
theorem dX10_plan_126 : decode cX10_plan 126 = .ok (.aload_n 0, 1) := by decide +kernel
theorem dX10_plan_127 : decode cX10_plan 127 = .ok (.getfield 20, 3) := by decide +kernel
theorem dX10_plan_130 : decode cX10_plan 130 = .ok (.iload_n 1, 1) := by decide +kernel
theorem dX10_plan_131 : decode cX10_plan 131 = .ok (.iaload, 1) := by decide +kernel
theorem dX10_plan_132 : decode cX10_plan 132 = .ok (.iastore, 1) := by decide +kernel
theorem dX10_plan_133 : decode cX10_plan 133 = .ok (.aload_n 0, 1) := by decide +kernel
theorem dX10_plan_134 : decode cX10_plan 134 = .ok (.iconst 0, 1) := by decide +kernel
theorem dX10_plan_135 : decode cX10_plan 135 = .ok (.iconst 0, 1) := by decide +kernel
theorem dX10_plan_136 : decode cX10_plan 136 = .ok (.iconst 0, 1) := by decide +kernel
theorem dX10_plan_137 : decode cX10_plan 137 = .ok (.aload_n 0, 1) := by decide +kernel
theorem dX10_plan_138 : decode cX10_plan 138 = .ok (.getfield 7, 3) := by decide +kernel
theorem dX10_plan_141 : decode cX10_plan 141 = .ok (.iconst 0, 1) := by decide +kernel
theorem dX10_plan_142 : decode cX10_plan 142 = .ok (.iaload, 1) := by decide +kernel
theorem dX10_plan_143 : decode cX10_plan 143 = .ok (.aload_n 0, 1) := by decide +kernel
theorem dX10_plan_144 : decode cX10_plan 144 = .ok (.getfield 7, 3) := by decide +kernel
theorem dX10_plan_147 : decode cX10_plan 147 = .ok (.iconst 1, 1) := by decide +kernel
theorem dX10_plan_148 : decode cX10_plan 148 = .ok (.iaload, 1) := by decide +kernel
theorem dX10_plan_149 : decode cX10_plan 149 = .ok (.invokevirtual 75, 3) := by decide +kernel
theorem dX10_plan_152 : decode cX10_plan 152 = .ok (.istore_n 2, 1) := by decide +kernel
theorem dX10_plan_153 : decode cX10_plan 153 = .ok (.iload_n 2, 1) := by decide +kernel
theorem dX10_plan_154 : decode cX10_plan 154 = .ok (.ifCond .le 173, 3) := by decide +kernel
theorem dX10_plan_157 : decode cX10_plan 157 = .ok (.iinc 2 (-1), 3) := by decide +kernel
theorem dX10_plan_160 : decode cX10_plan 160 = .ok (.aload_n 0, 1) := by decide +kernel
theorem dX10_plan_161 : decode cX10_plan 161 = .ok (.getfield 26, 3) := by decide +kernel
theorem dX10_plan_164 : decode cX10_plan 164 = .ok (.iconst 4, 1) := by decide +kernel
theorem dX10_plan_165 : decode cX10_plan 165 = .ok (.iload_n 2, 1) := by decide +kernel
theorem dX10_plan_166 : decode cX10_plan 166 = .ok (.imul, 1) := by decide +kernel
theorem dX10_plan_167 : decode cX10_plan 167 = .ok (.iaload, 1) := by decide +kernel
theorem dX10_plan_168 : decode cX10_plan 168 = .ok (.istore_n 3, 1) := by decide +kernel
theorem dX10_plan_169 : decode cX10_plan 169 = .ok (.aload_n 0, 1) := by decide +kernel
theorem dX10_plan_170 : decode cX10_plan 170 = .ok (.getfield 26, 3) := by decide +kernel
theorem dX10_plan_173 : decode cX10_plan 173 = .ok (.iconst 4, 1) := by decide +kernel
theorem dX10_plan_174 : decode cX10_plan 174 = .ok (.iload_n 2, 1) := by decide +kernel
theorem dX10_plan_175 : decode cX10_plan 175 = .ok (.imul, 1) := by decide +kernel
theorem dX10_plan_176 : decode cX10_plan 176 = .ok (.iconst 1, 1) := by decide +kernel
theorem dX10_plan_177 : decode cX10_plan 177 = .ok (.iadd, 1) := by decide +kernel
theorem dX10_plan_178 : decode cX10_plan 178 = .ok (.iaload, 1) := by decide +kernel
theorem dX10_plan_179 : decode cX10_plan 179 = .ok (.istore 4, 2) := by decide +kernel
theorem dX10_plan_181 : decode cX10_plan 181 = .ok (.aload_n 0, 1) := by decide +kernel
theorem dX10_plan_182 : decode cX10_plan 182 = .ok (.getfield 26, 3) := by decide +kernel
theorem dX10_plan_185 : decode cX10_plan 185 = .ok (.iconst 4, 1) := by decide +kernel
theorem dX10_plan_186 : decode cX10_plan 186 = .ok (.iload_n 2, 1) := by decide +kernel
theorem dX10_plan_187 : decode cX10_plan 187 = .ok (.imul, 1) := by decide +kernel
theorem dX10_plan_188 : decode cX10_plan 188 = .ok (.iconst 2, 1) := by decide +kernel
theorem dX10_plan_189 : decode cX10_plan 189 = .ok (.iadd, 1) := by decide +kernel
theorem dX10_plan_190 : decode cX10_plan 190 = .ok (.iaload, 1) := by decide +kernel
theorem dX10_plan_191 : decode cX10_plan 191 = .ok (.istore 5, 2) := by decide +kernel
theorem dX10_plan_193 : decode cX10_plan 193 = .ok (.aload_n 0, 1) := by decide +kernel
theorem dX10_plan_194 : decode cX10_plan 194 = .ok (.getfield 26, 3) := by decide +kernel
theorem dX10_plan_197 : decode cX10_plan 197 = .ok (.iconst 4, 1) := by decide +kernel
theorem dX10_plan_198 : decode cX10_plan 198 = .ok (.iload_n 2, 1) := by decide +kernel
theorem dX10_plan_199 : decode cX10_plan 199 = .ok (.imul, 1) := by decide +kernel
theorem dX10_plan_200 : decode cX10_plan 200 = .ok (.iconst 3, 1) := by decide +kernel
theorem dX10_plan_201 : decode cX10_plan 201 = .ok (.iadd, 1) := by decide +kernel
theorem dX10_plan_202 : decode cX10_plan 202 = .ok (.iaload, 1) := by decide +kernel
theorem dX10_plan_203 : decode cX10_plan 203 = .ok (.istore 6, 2) := by decide +kernel
theorem dX10_plan_205 : decode cX10_plan 205 = .ok (.aload_n 0, 1) := by decide +kernel
theorem dX10_plan_206 : decode cX10_plan 206 = .ok (.getfield 23, 3) := by decide +kernel
theorem dX10_plan_209 : decode cX10_plan 209 = .ok (.iload_n 3, 1) := by decide +kernel
theorem dX10_plan_210 : decode cX10_plan 210 = .ok (.iload 4, 2) := by decide +kernel
theorem dX10_plan_212 : decode cX10_plan 212 = .ok (.iload 5, 2) := by decide +kernel
theorem dX10_plan_214 : decode cX10_plan 214 = .ok (.iload 6, 2) := by decide +kernel
theorem dX10_plan_216 : decode cX10_plan 216 = .ok (.invokestatic 53, 3) := by decide +kernel
theorem dX10_plan_219 : decode cX10_plan 219 = .ok (.iaload, 1) := by decide +kernel
theorem dX10_plan_220 : decode cX10_plan 220 = .ok (.istore 7, 2) := by decide +kernel
theorem dX10_plan_222 : decode cX10_plan 222 = .ok (.iload 7, 2) := by decide +kernel
theorem dX10_plan_224 : decode cX10_plan 224 = .ok (.ifCond .ne 17, 3) := by decide +kernel
theorem dX10_plan_227 : decode cX10_plan 227 = .ok (.aload_n 0, 1) := by decide +kernel
theorem dX10_plan_228 : decode cX10_plan 228 = .ok (.iload_n 3, 1) := by decide +kernel
theorem dX10_plan_229 : decode cX10_plan 229 = .ok (.iload 4, 2) := by decide +kernel
theorem dX10_plan_231 : decode cX10_plan 231 = .ok (.iload 5, 2) := by decide +kernel
theorem dX10_plan_233 : decode cX10_plan 233 = .ok (.iload 6, 2) := by decide +kernel
theorem dX10_plan_235 : decode cX10_plan 235 = .ok (.invokevirtual 79, 3) := by decide +kernel
theorem dX10_plan_238 : decode cX10_plan 238 = .ok (.goto 86, 3) := by decide +kernel
theorem dX10_plan_241 : decode cX10_plan 241 = .ok (.iload 7, 2) := by decide +kernel
theorem dX10_plan_243 : decode cX10_plan 243 = .ok (.bipush 8, 2) := by decide +kernel
theorem dX10_plan_245 : decode cX10_plan 245 = .ok (.if_icmp .ge 38, 3) := by decide +kernel
theorem dX10_plan_248 : decode cX10_plan 248 = .ok (.aload_n 0, 1) := by decide +kernel
theorem dX10_plan_249 : decode cX10_plan 249 = .ok (.iload_n 2, 1) := by decide +kernel
theorem dX10_plan_250 : decode cX10_plan 250 = .ok (.iload_n 3, 1) := by decide +kernel
theorem dX10_plan_251 : decode cX10_plan 251 = .ok (.iload 7, 2) := by decide +kernel
theorem dX10_plan_253 : decode cX10_plan 253 = .ok (.iadd, 1) := by decide +kernel
theorem dX10_plan_254 : decode cX10_plan 254 = .ok (.iload 4, 2) := by decide +kernel
theorem dX10_plan_256 : decode cX10_plan 256 = .ok (.iload 5, 2) := by decide +kernel
theorem dX10_plan_258 : decode cX10_plan 258 = .ok (.iload 7, 2) := by decide +kernel
theorem dX10_plan_260 : decode cX10_plan 260 = .ok (.isub, 1) := by decide +kernel
theorem dX10_plan_261 : decode cX10_plan 261 = .ok (.iload 6, 2) := by decide +kernel
theorem dX10_plan_263 : decode cX10_plan 263 = .ok (.invokevirtual 75, 3) := by decide +kernel
theorem dX10_plan_266 : decode cX10_plan 266 = .ok (.istore_n 2, 1) := by decide +kernel
theorem dX10_plan_267 : decode cX10_plan 267 = .ok (.aload_n 0, 1) := by decide +kernel
theorem dX10_plan_268 : decode cX10_plan 268 = .ok (.iload_n 2, 1) := by decide +kernel
theorem dX10_plan_269 : decode cX10_plan 269 = .ok (.iload_n 3, 1) := by decide +kernel
theorem dX10_plan_270 : decode cX10_plan 270 = .ok (.iload 4, 2) := by decide +kernel
theorem dX10_plan_272 : decode cX10_plan 272 = .ok (.iload 7, 2) := by decide +kernel
theorem dX10_plan_274 : decode cX10_plan 274 = .ok (.iload 6, 2) := by decide +kernel
theorem dX10_plan_276 : decode cX10_plan 276 = .ok (.invokevirtual 75, 3) := by decide +kernel
theorem dX10_plan_279 : decode cX10_plan 279 = .ok (.istore_n 2, 1) := by decide +kernel
theorem dX10_plan_280 : decode cX10_plan 280 = .ok (.goto 44, 3) := by decide +kernel
theorem dX10_plan_283 : decode cX10_plan 283 = .ok (.aload_n 0, 1) := by decide +kernel
theorem dX10_plan_284 : decode cX10_plan 284 = .ok (.iload_n 2, 1) := by decide +kernel
theorem dX10_plan_285 : decode cX10_plan 285 = .ok (.iload_n 3, 1) := by decide +kernel
theorem dX10_plan_286 : decode cX10_plan 286 = .ok (.iload 4, 2) := by decide +kernel
theorem dX10_plan_288 : decode cX10_plan 288 = .ok (.iload 7, 2) := by decide +kernel
theorem dX10_plan_290 : decode cX10_plan 290 = .ok (.iadd, 1) := by decide +kernel
theorem dX10_plan_291 : decode cX10_plan 291 = .ok (.bipush 8, 2) := by decide +kernel
theorem dX10_plan_293 : decode cX10_plan 293 = .ok (.isub, 1) := by decide +kernel
theorem dX10_plan_294 : decode cX10_plan 294 = .ok (.iload 5, 2) := by decide +kernel
theorem dX10_plan_296 : decode cX10_plan 296 = .ok (.iload 6, 2) := by decide +kernel
theorem dX10_plan_298 : decode cX10_plan 298 = .ok (.iload 7, 2) := by decide +kernel
theorem dX10_plan_300 : decode cX10_plan 300 = .ok (.isub, 1) := by decide +kernel
theorem dX10_plan_301 : decode cX10_plan 301 = .ok (.bipush 8, 2) := by decide +kernel
theorem dX10_plan_303 : decode cX10_plan 303 = .ok (.iadd, 1) := by decide +kernel
theorem dX10_plan_304 : decode cX10_plan 304 = .ok (.invokevirtual 75, 3) := by decide +kernel
theorem dX10_plan_307 : decode cX10_plan 307 = .ok (.istore_n 2, 1) := by decide +kernel
theorem dX10_plan_308 : decode cX10_plan 308 = .ok (.aload_n 0, 1) := by decide +kernel
theorem dX10_plan_309 : decode cX10_plan 309 = .ok (.iload_n 2, 1) := by decide +kernel
theorem dX10_plan_310 : decode cX10_plan 310 = .ok (.iload_n 3, 1) := by decide +kernel
theorem dX10_plan_311 : decode cX10_plan 311 = .ok (.iload 4, 2) := by decide +kernel
theorem dX10_plan_313 : decode cX10_plan 313 = .ok (.iload 5, 2) := by decide +kernel
theorem dX10_plan_315 : decode cX10_plan 315 = .ok (.iload 7, 2) := by decide +kernel
theorem dX10_plan_317 : decode cX10_plan 317 = .ok (.bipush 8, 2) := by decide +kernel
theorem dX10_plan_319 : decode cX10_plan 319 = .ok (.isub, 1) := by decide +kernel
theorem dX10_plan_320 : decode cX10_plan 320 = .ok (.invokevirtual 75, 3) := by decide +kernel
theorem dX10_plan_323 : decode cX10_plan 323 = .ok (.istore_n 2, 1) := by decide +kernel
theorem dX10_plan_324 : decode cX10_plan 324 = .ok (.goto (-171), 3) := by decide +kernel
theorem dX10_plan_327 : decode cX10_plan 327 = .ok (.iconst 0, 1) := by decide +kernel
theorem dX10_plan_328 : decode cX10_plan 328 = .ok (.istore_n 3, 1) := by decide +kernel
theorem dX10_plan_329 : decode cX10_plan 329 = .ok (.iload_n 3, 1) := by decide +kernel
theorem dX10_plan_330 : decode cX10_plan 330 = .ok (.aload_n 0, 1) := by decide +kernel
theorem dX10_plan_331 : decode cX10_plan 331 = .ok (.getfield 7, 3) := by decide +kernel
theorem dX10_plan_334 : decode cX10_plan 334 = .ok (.iconst 5, 1) := by decide +kernel
theorem dX10_plan_335 : decode cX10_plan 335 = .ok (.iaload, 1) := by decide +kernel
theorem dX10_plan_336 : decode cX10_plan 336 = .ok (.if_icmp .ge 30, 3) := by decide +kernel
theorem dX10_plan_339 : decode cX10_plan 339 = .ok (.aload_n 0, 1) := by decide +kernel
theorem dX10_plan_340 : decode cX10_plan 340 = .ok (.getfield 7, 3) := by decide +kernel
theorem dX10_plan_343 : decode cX10_plan 343 = .ok (.sipush 170, 3) := by decide +kernel
theorem dX10_plan_346 : decode cX10_plan 346 = .ok (.bipush 8, 2) := by decide +kernel
theorem dX10_plan_348 : decode cX10_plan 348 = .ok (.iload_n 3, 1) := by decide +kernel
theorem dX10_plan_349 : decode cX10_plan 349 = .ok (.imul, 1) := by decide +kernel
theorem dX10_plan_350 : decode cX10_plan 350 = .ok (.iadd, 1) := by decide +kernel
theorem dX10_plan_351 : decode cX10_plan 351 = .ok (.bipush 6, 2) := by decide +kernel
theorem dX10_plan_353 : decode cX10_plan 353 = .ok (.iadd, 1) := by decide +kernel
theorem dX10_plan_354 : decode cX10_plan 354 = .ok (.aload_n 0, 1) := by decide +kernel
theorem dX10_plan_355 : decode cX10_plan 355 = .ok (.iload_n 3, 1) := by decide +kernel
theorem dX10_plan_356 : decode cX10_plan 356 = .ok (.invokevirtual 82, 3) := by decide +kernel
theorem dX10_plan_359 : decode cX10_plan 359 = .ok (.iastore, 1) := by decide +kernel
theorem dX10_plan_360 : decode cX10_plan 360 = .ok (.iinc 3 1, 3) := by decide +kernel
theorem dX10_plan_363 : decode cX10_plan 363 = .ok (.goto (-34), 3) := by decide +kernel
theorem dX10_plan_366 : decode cX10_plan 366 = .ok (.aload_n 0, 1) := by decide +kernel
theorem dX10_plan_367 : decode cX10_plan 367 = .ok (.getfield 7, 3) := by decide +kernel
theorem dX10_plan_370 : decode cX10_plan 370 = .ok (.iconst 5, 1) := by decide +kernel
theorem dX10_plan_371 : decode cX10_plan 371 = .ok (.iaload, 1) := by decide +kernel
theorem dX10_plan_372 : decode cX10_plan 372 = .ok (.ireturn, 1) := by decide +kernel
theorem dX10_of_0 : decode cX10_of 0 = .ok (.aload_n 0, 1) := by decide +kernel
theorem dX10_of_1 : decode cX10_of 1 = .ok (.getfield 7, 3) := by decide +kernel
theorem dX10_of_4 : decode cX10_of 4 = .ok (.sipush 170, 3) := by decide +kernel
theorem dX10_of_7 : decode cX10_of 7 = .ok (.bipush 8, 2) := by decide +kernel
theorem dX10_of_9 : decode cX10_of 9 = .ok (.iload_n 1, 1) := by decide +kernel
theorem dX10_of_10 : decode cX10_of 10 = .ok (.imul, 1) := by decide +kernel
theorem dX10_of_11 : decode cX10_of 11 = .ok (.iadd, 1) := by decide +kernel
theorem dX10_of_12 : decode cX10_of 12 = .ok (.iload_n 2, 1) := by decide +kernel
theorem dX10_of_13 : decode cX10_of 13 = .ok (.iadd, 1) := by decide +kernel
theorem dX10_of_14 : decode cX10_of 14 = .ok (.iaload, 1) := by decide +kernel
theorem dX10_of_15 : decode cX10_of 15 = .ok (.ireturn, 1) := by decide +kernel
theorem dX10_isThere_0 : decode cX10_isThere 0 = .ok (.iload_n 1, 1) := by decide +kernel
theorem dX10_isThere_1 : decode cX10_isThere 1 = .ok (.iconst 0, 1) := by decide +kernel
theorem dX10_isThere_2 : decode cX10_isThere 2 = .ok (.aload_n 0, 1) := by decide +kernel
theorem dX10_isThere_3 : decode cX10_isThere 3 = .ok (.getfield 7, 3) := by decide +kernel
theorem dX10_isThere_6 : decode cX10_isThere 6 = .ok (.iconst 5, 1) := by decide +kernel
theorem dX10_isThere_7 : decode cX10_isThere 7 = .ok (.iaload, 1) := by decide +kernel
theorem dX10_isThere_8 : decode cX10_isThere 8 = .ok (.iconst 1, 1) := by decide +kernel
theorem dX10_isThere_9 : decode cX10_isThere 9 = .ok (.isub, 1) := by decide +kernel
theorem dX10_isThere_10 : decode cX10_isThere 10 = .ok (.invokestatic 42, 3) := by decide +kernel
theorem dX10_isThere_13 : decode cX10_isThere 13 = .ok (.ireturn, 1) := by decide +kernel
theorem dX10_turnOf_0 : decode cX10_turnOf 0 = .ok (.iconst 0, 1) := by decide +kernel
theorem dX10_turnOf_1 : decode cX10_turnOf 1 = .ok (.istore_n 2, 1) := by decide +kernel
theorem dX10_turnOf_2 : decode cX10_turnOf 2 = .ok (.iconst 0, 1) := by decide +kernel
theorem dX10_turnOf_3 : decode cX10_turnOf 3 = .ok (.istore_n 3, 1) := by decide +kernel
theorem dX10_turnOf_4 : decode cX10_turnOf 4 = .ok (.iload_n 3, 1) := by decide +kernel
theorem dX10_turnOf_5 : decode cX10_turnOf 5 = .ok (.aload_n 0, 1) := by decide +kernel
theorem dX10_turnOf_6 : decode cX10_turnOf 6 = .ok (.getfield 7, 3) := by decide +kernel
theorem dX10_turnOf_9 : decode cX10_turnOf 9 = .ok (.iconst 5, 1) := by decide +kernel
theorem dX10_turnOf_10 : decode cX10_turnOf 10 = .ok (.iaload, 1) := by decide +kernel
theorem dX10_turnOf_11 : decode cX10_turnOf 11 = .ok (.if_icmp .ge 62, 3) := by decide +kernel
theorem dX10_turnOf_14 : decode cX10_turnOf 14 = .ok (.iload_n 2, 1) := by decide +kernel
theorem dX10_turnOf_15 : decode cX10_turnOf 15 = .ok (.aload_n 0, 1) := by decide +kernel
theorem dX10_turnOf_16 : decode cX10_turnOf 16 = .ok (.iload_n 3, 1) := by decide +kernel
theorem dX10_turnOf_17 : decode cX10_turnOf 17 = .ok (.iconst 1, 1) := by decide +kernel
theorem dX10_turnOf_18 : decode cX10_turnOf 18 = .ok (.invokevirtual 86, 3) := by decide +kernel
theorem dX10_turnOf_21 : decode cX10_turnOf 21 = .ok (.aload_n 0, 1) := by decide +kernel
theorem dX10_turnOf_22 : decode cX10_turnOf 22 = .ok (.iload_n 1, 1) := by decide +kernel
theorem dX10_turnOf_23 : decode cX10_turnOf 23 = .ok (.iconst 1, 1) := by decide +kernel
theorem dX10_turnOf_24 : decode cX10_turnOf 24 = .ok (.invokevirtual 86, 3) := by decide +kernel
theorem dX10_turnOf_27 : decode cX10_turnOf 27 = .ok (.if_icmp .lt 33, 3) := by decide +kernel
theorem dX10_turnOf_30 : decode cX10_turnOf 30 = .ok (.aload_n 0, 1) := by decide +kernel
theorem dX10_turnOf_31 : decode cX10_turnOf 31 = .ok (.iload_n 3, 1) := by decide +kernel
theorem dX10_turnOf_32 : decode cX10_turnOf 32 = .ok (.iconst 1, 1) := by decide +kernel
theorem dX10_turnOf_33 : decode cX10_turnOf 33 = .ok (.invokevirtual 86, 3) := by decide +kernel
theorem dX10_turnOf_36 : decode cX10_turnOf 36 = .ok (.aload_n 0, 1) := by decide +kernel
theorem dX10_turnOf_37 : decode cX10_turnOf 37 = .ok (.iload_n 1, 1) := by decide +kernel
theorem dX10_turnOf_38 : decode cX10_turnOf 38 = .ok (.iconst 1, 1) := by decide +kernel
theorem dX10_turnOf_39 : decode cX10_turnOf 39 = .ok (.invokevirtual 86, 3) := by decide +kernel
theorem dX10_turnOf_42 : decode cX10_turnOf 42 = .ok (.if_icmp .ne 22, 3) := by decide +kernel
theorem dX10_turnOf_45 : decode cX10_turnOf 45 = .ok (.aload_n 0, 1) := by decide +kernel
theorem dX10_turnOf_46 : decode cX10_turnOf 46 = .ok (.iload_n 3, 1) := by decide +kernel
theorem dX10_turnOf_47 : decode cX10_turnOf 47 = .ok (.iconst 0, 1) := by decide +kernel
theorem dX10_turnOf_48 : decode cX10_turnOf 48 = .ok (.invokevirtual 86, 3) := by decide +kernel
theorem dX10_turnOf_51 : decode cX10_turnOf 51 = .ok (.aload_n 0, 1) := by decide +kernel
theorem dX10_turnOf_52 : decode cX10_turnOf 52 = .ok (.iload_n 1, 1) := by decide +kernel
theorem dX10_turnOf_53 : decode cX10_turnOf 53 = .ok (.iconst 0, 1) := by decide +kernel
theorem dX10_turnOf_54 : decode cX10_turnOf 54 = .ok (.invokevirtual 86, 3) := by decide +kernel
theorem dX10_turnOf_57 : decode cX10_turnOf 57 = .ok (.if_icmp .ge 7, 3) := by decide +kernel
theorem dX10_turnOf_60 : decode cX10_turnOf 60 = .ok (.iconst 1, 1) := by decide +kernel
theorem dX10_turnOf_61 : decode cX10_turnOf 61 = .ok (.goto 4, 3) := by decide +kernel
theorem dX10_turnOf_64 : decode cX10_turnOf 64 = .ok (.iconst 0, 1) := by decide +kernel
theorem dX10_turnOf_65 : decode cX10_turnOf 65 = .ok (.iadd, 1) := by decide +kernel
theorem dX10_turnOf_66 : decode cX10_turnOf 66 = .ok (.istore_n 2, 1) := by decide +kernel
theorem dX10_turnOf_67 : decode cX10_turnOf 67 = .ok (.iinc 3 1, 3) := by decide +kernel
theorem dX10_turnOf_70 : decode cX10_turnOf 70 = .ok (.goto (-66), 3) := by decide +kernel
theorem dX10_turnOf_73 : decode cX10_turnOf 73 = .ok (.iload_n 2, 1) := by decide +kernel
theorem dX10_turnOf_74 : decode cX10_turnOf 74 = .ok (.ireturn, 1) := by decide +kernel
theorem dX10_stands_0 : decode cX10_stands 0 = .ok (.aload_n 0, 1) := by decide +kernel
theorem dX10_stands_1 : decode cX10_stands 1 = .ok (.iload_n 1, 1) := by decide +kernel
theorem dX10_stands_2 : decode cX10_stands 2 = .ok (.iconst 4, 1) := by decide +kernel
theorem dX10_stands_3 : decode cX10_stands 3 = .ok (.invokevirtual 86, 3) := by decide +kernel
theorem dX10_stands_6 : decode cX10_stands 6 = .ok (.ifCond .ge 7, 3) := by decide +kernel
theorem dX10_stands_9 : decode cX10_stands 9 = .ok (.iconst 1, 1) := by decide +kernel
theorem dX10_stands_10 : decode cX10_stands 10 = .ok (.goto 4, 3) := by decide +kernel
theorem dX10_stands_13 : decode cX10_stands 13 = .ok (.iconst 0, 1) := by decide +kernel
theorem dX10_stands_14 : decode cX10_stands 14 = .ok (.ireturn, 1) := by decide +kernel
theorem dX10_isAbove_0 : decode cX10_isAbove 0 = .ok (.aload_n 0, 1) := by decide +kernel
theorem dX10_isAbove_1 : decode cX10_isAbove 1 = .ok (.iload_n 1, 1) := by decide +kernel
theorem dX10_isAbove_2 : decode cX10_isAbove 2 = .ok (.iconst 1, 1) := by decide +kernel
theorem dX10_isAbove_3 : decode cX10_isAbove 3 = .ok (.invokevirtual 86, 3) := by decide +kernel
theorem dX10_isAbove_6 : decode cX10_isAbove 6 = .ok (.aload_n 0, 1) := by decide +kernel
theorem dX10_isAbove_7 : decode cX10_isAbove 7 = .ok (.iload_n 2, 1) := by decide +kernel
theorem dX10_isAbove_8 : decode cX10_isAbove 8 = .ok (.iconst 1, 1) := by decide +kernel
theorem dX10_isAbove_9 : decode cX10_isAbove 9 = .ok (.invokevirtual 86, 3) := by decide +kernel
theorem dX10_isAbove_12 : decode cX10_isAbove 12 = .ok (.aload_n 0, 1) := by decide +kernel
theorem dX10_isAbove_13 : decode cX10_isAbove 13 = .ok (.iload_n 2, 1) := by decide +kernel
theorem dX10_isAbove_14 : decode cX10_isAbove 14 = .ok (.iconst 3, 1) := by decide +kernel
theorem dX10_isAbove_15 : decode cX10_isAbove 15 = .ok (.invokevirtual 86, 3) := by decide +kernel
theorem dX10_isAbove_18 : decode cX10_isAbove 18 = .ok (.iadd, 1) := by decide +kernel
theorem dX10_isAbove_19 : decode cX10_isAbove 19 = .ok (.if_icmp .ne 51, 3) := by decide +kernel
theorem dX10_isAbove_22 : decode cX10_isAbove 22 = .ok (.aload_n 0, 1) := by decide +kernel
theorem dX10_isAbove_23 : decode cX10_isAbove 23 = .ok (.iload_n 1, 1) := by decide +kernel
theorem dX10_isAbove_24 : decode cX10_isAbove 24 = .ok (.iconst 0, 1) := by decide +kernel
theorem dX10_isAbove_25 : decode cX10_isAbove 25 = .ok (.invokevirtual 86, 3) := by decide +kernel
theorem dX10_isAbove_28 : decode cX10_isAbove 28 = .ok (.aload_n 0, 1) := by decide +kernel
theorem dX10_isAbove_29 : decode cX10_isAbove 29 = .ok (.iload_n 2, 1) := by decide +kernel
