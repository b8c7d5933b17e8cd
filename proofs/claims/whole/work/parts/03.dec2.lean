theorem dX8_pileFor_60 : decode cX8_pileFor 60 = .ok (.iload_n 3, 1) := by decide +kernel
theorem dX8_pileFor_61 : decode cX8_pileFor 61 = .ok (.ireturn, 1) := by decide +kernel
theorem dX8_blockIn_0 : decode cX8_blockIn 0 = .ok (.iconst 0, 1) := by decide +kernel
theorem dX8_blockIn_1 : decode cX8_blockIn 1 = .ok (.istore 4, 2) := by decide +kernel
theorem dX8_blockIn_3 : decode cX8_blockIn 3 = .ok (.iload 4, 2) := by decide +kernel
theorem dX8_blockIn_5 : decode cX8_blockIn 5 = .ok (.iload_n 3, 1) := by decide +kernel
theorem dX8_blockIn_6 : decode cX8_blockIn 6 = .ok (.if_icmp .ge 34, 3) := by decide +kernel
theorem dX8_blockIn_9 : decode cX8_blockIn 9 = .ok (.aload_n 0, 1) := by decide +kernel
theorem dX8_blockIn_10 : decode cX8_blockIn 10 = .ok (.getfield 15, 3) := by decide +kernel
theorem dX8_blockIn_13 : decode cX8_blockIn 13 = .ok (.iload 4, 2) := by decide +kernel
theorem dX8_blockIn_15 : decode cX8_blockIn 15 = .ok (.iaload, 1) := by decide +kernel
theorem dX8_blockIn_16 : decode cX8_blockIn 16 = .ok (.iload_n 1, 1) := by decide +kernel
theorem dX8_blockIn_17 : decode cX8_blockIn 17 = .ok (.if_icmp .ne 17, 3) := by decide +kernel
theorem dX8_blockIn_20 : decode cX8_blockIn 20 = .ok (.aload_n 0, 1) := by decide +kernel
theorem dX8_blockIn_21 : decode cX8_blockIn 21 = .ok (.getfield 18, 3) := by decide +kernel
theorem dX8_blockIn_24 : decode cX8_blockIn 24 = .ok (.iload 4, 2) := by decide +kernel
theorem dX8_blockIn_26 : decode cX8_blockIn 26 = .ok (.iaload, 1) := by decide +kernel
theorem dX8_blockIn_27 : decode cX8_blockIn 27 = .ok (.iload_n 2, 1) := by decide +kernel
theorem dX8_blockIn_28 : decode cX8_blockIn 28 = .ok (.if_icmp .ne 6, 3) := by decide +kernel
theorem dX8_blockIn_31 : decode cX8_blockIn 31 = .ok (.iload 4, 2) := by decide +kernel
theorem dX8_blockIn_33 : decode cX8_blockIn 33 = .ok (.ireturn, 1) := by decide +kernel
theorem dX8_blockIn_34 : decode cX8_blockIn 34 = .ok (.iinc 4 1, 3) := by decide +kernel
theorem dX8_blockIn_37 : decode cX8_blockIn 37 = .ok (.goto (-34), 3) := by decide +kernel
theorem dX8_blockIn_40 : decode cX8_blockIn 40 = .ok (.iconst (-1), 1) := by decide +kernel
theorem dX8_blockIn_41 : decode cX8_blockIn 41 = .ok (.ireturn, 1) := by decide +kernel
theorem dX8_become_0 : decode cX8_become 0 = .ok (.aload_n 0, 1) := by decide +kernel
theorem dX8_become_1 : decode cX8_become 1 = .ok (.aload_n 1, 1) := by decide +kernel
theorem dX8_become_2 : decode cX8_become 2 = .ok (.getfield 27, 3) := by decide +kernel
theorem dX8_become_5 : decode cX8_become 5 = .ok (.putfield 27, 3) := by decide +kernel
theorem dX8_become_8 : decode cX8_become 8 = .ok (.aload_n 0, 1) := by decide +kernel
theorem dX8_become_9 : decode cX8_become 9 = .ok (.aload_n 1, 1) := by decide +kernel
theorem dX8_become_10 : decode cX8_become 10 = .ok (.getfield 31, 3) := by decide +kernel
theorem dX8_become_13 : decode cX8_become 13 = .ok (.putfield 31, 3) := by decide +kernel
theorem dX8_become_16 : decode cX8_become 16 = .ok (.aload_n 1, 1) := by decide +kernel
theorem dX8_become_17 : decode cX8_become 17 = .ok (.getfield 9, 3) := by decide +kernel
theorem dX8_become_20 : decode cX8_become 20 = .ok (.aload_n 0, 1) := by decide +kernel
theorem dX8_become_21 : decode cX8_become 21 = .ok (.getfield 9, 3) := by decide +kernel
theorem dX8_become_24 : decode cX8_become 24 = .ok (.invokestatic 44, 3) := by decide +kernel
theorem dX8_become_27 : decode cX8_become 27 = .ok (.aload_n 1, 1) := by decide +kernel
theorem dX8_become_28 : decode cX8_become 28 = .ok (.getfield 15, 3) := by decide +kernel
theorem dX8_become_31 : decode cX8_become 31 = .ok (.aload_n 0, 1) := by decide +kernel
theorem dX8_become_32 : decode cX8_become 32 = .ok (.getfield 15, 3) := by decide +kernel
theorem dX8_become_35 : decode cX8_become 35 = .ok (.invokestatic 44, 3) := by decide +kernel
theorem dX8_become_38 : decode cX8_become 38 = .ok (.aload_n 1, 1) := by decide +kernel
theorem dX8_become_39 : decode cX8_become 39 = .ok (.getfield 18, 3) := by decide +kernel
theorem dX8_become_42 : decode cX8_become 42 = .ok (.aload_n 0, 1) := by decide +kernel
theorem dX8_become_43 : decode cX8_become 43 = .ok (.getfield 18, 3) := by decide +kernel
theorem dX8_become_46 : decode cX8_become 46 = .ok (.invokestatic 44, 3) := by decide +kernel
theorem dX8_become_49 : decode cX8_become 49 = .ok (.aload_n 1, 1) := by decide +kernel
theorem dX8_become_50 : decode cX8_become 50 = .ok (.getfield 21, 3) := by decide +kernel
theorem dX8_become_53 : decode cX8_become 53 = .ok (.aload_n 0, 1) := by decide +kernel
theorem dX8_become_54 : decode cX8_become 54 = .ok (.getfield 21, 3) := by decide +kernel
theorem dX8_become_57 : decode cX8_become 57 = .ok (.invokestatic 44, 3) := by decide +kernel
theorem dX8_become_60 : decode cX8_become 60 = .ok (.return_, 1) := by decide +kernel
theorem dX9_init_0 : decode cX9_init 0 = .ok (.aload_n 0, 1) := by decide +kernel
theorem dX9_init_1 : decode cX9_init 1 = .ok (.invokespecial 3, 3) := by decide +kernel
theorem dX9_init_4 : decode cX9_init 4 = .ok (.aload_n 0, 1) := by decide +kernel
theorem dX9_init_5 : decode cX9_init 5 = .ok (.new 9, 3) := by decide +kernel
theorem dX9_init_8 : decode cX9_init 8 = .ok (.dup, 1) := by decide +kernel
theorem dX9_init_9 : decode cX9_init 9 = .ok (.invokespecial 11, 3) := by decide +kernel
theorem dX9_init_12 : decode cX9_init 12 = .ok (.putfield 12, 3) := by decide +kernel
theorem dX9_init_15 : decode cX9_init 15 = .ok (.aload_n 0, 1) := by decide +kernel
theorem dX9_init_16 : decode cX9_init 16 = .ok (.new 16, 3) := by decide +kernel
theorem dX9_init_19 : decode cX9_init 19 = .ok (.dup, 1) := by decide +kernel
theorem dX9_init_20 : decode cX9_init 20 = .ok (.invokespecial 18, 3) := by decide +kernel
theorem dX9_init_23 : decode cX9_init 23 = .ok (.putfield 19, 3) := by decide +kernel
theorem dX9_init_26 : decode cX9_init 26 = .ok (.aload_n 0, 1) := by decide +kernel
theorem dX9_init_27 : decode cX9_init 27 = .ok (.new 23, 3) := by decide +kernel
theorem dX9_init_30 : decode cX9_init 30 = .ok (.dup, 1) := by decide +kernel
theorem dX9_init_31 : decode cX9_init 31 = .ok (.invokespecial 25, 3) := by decide +kernel
theorem dX9_init_34 : decode cX9_init 34 = .ok (.putfield 26, 3) := by decide +kernel
theorem dX9_init_37 : decode cX9_init 37 = .ok (.aload_n 0, 1) := by decide +kernel
theorem dX9_init_38 : decode cX9_init 38 = .ok (.iconst 3, 1) := by decide +kernel
theorem dX9_init_39 : decode cX9_init 39 = .ok (.anewarray 9, 3) := by decide +kernel
theorem dX9_init_42 : decode cX9_init 42 = .ok (.putfield 30, 3) := by decide +kernel
theorem dX9_init_45 : decode cX9_init 45 = .ok (.return_, 1) := by decide +kernel
theorem dX9_wall_0 : decode cX9_wall 0 = .ok (.iload_n 1, 1) := by decide +kernel
theorem dX9_wall_1 : decode cX9_wall 1 = .ok (.iconst 1, 1) := by decide +kernel
theorem dX9_wall_2 : decode cX9_wall 2 = .ok (.bipush 8, 2) := by decide +kernel
theorem dX9_wall_4 : decode cX9_wall 4 = .ok (.invokestatic 34, 3) := by decide +kernel
theorem dX9_wall_7 : decode cX9_wall 7 = .ok (.ifCond .eq 13, 3) := by decide +kernel
theorem dX9_wall_10 : decode cX9_wall 10 = .ok (.iload_n 2, 1) := by decide +kernel
theorem dX9_wall_11 : decode cX9_wall 11 = .ok (.iconst 1, 1) := by decide +kernel
theorem dX9_wall_12 : decode cX9_wall 12 = .ok (.bipush 8, 2) := by decide +kernel
theorem dX9_wall_14 : decode cX9_wall 14 = .ok (.invokestatic 34, 3) := by decide +kernel
theorem dX9_wall_17 : decode cX9_wall 17 = .ok (.ifCond .ne 5, 3) := by decide +kernel
theorem dX9_wall_20 : decode cX9_wall 20 = .ok (.iconst 0, 1) := by decide +kernel
theorem dX9_wall_21 : decode cX9_wall 21 = .ok (.ireturn, 1) := by decide +kernel
theorem dX9_wall_22 : decode cX9_wall 22 = .ok (.aload_n 0, 1) := by decide +kernel
theorem dX9_wall_23 : decode cX9_wall 23 = .ok (.getfield 12, 3) := by decide +kernel
theorem dX9_wall_26 : decode cX9_wall 26 = .ok (.getfield 38, 3) := by decide +kernel
theorem dX9_wall_29 : decode cX9_wall 29 = .ok (.iload_n 1, 1) := by decide +kernel
theorem dX9_wall_30 : decode cX9_wall 30 = .ok (.iload_n 2, 1) := by decide +kernel
theorem dX9_wall_31 : decode cX9_wall 31 = .ok (.invokevirtual 42, 3) := by decide +kernel
theorem dX9_wall_34 : decode cX9_wall 34 = .ok (.aload_n 0, 1) := by decide +kernel
theorem dX9_wall_35 : decode cX9_wall 35 = .ok (.getfield 12, 3) := by decide +kernel
theorem dX9_wall_38 : decode cX9_wall 38 = .ok (.invokevirtual 48, 3) := by decide +kernel
theorem dX9_wall_41 : decode cX9_wall 41 = .ok (.iconst 1, 1) := by decide +kernel
theorem dX9_wall_42 : decode cX9_wall 42 = .ok (.ireturn, 1) := by decide +kernel
theorem dX9_cell_0 : decode cX9_cell 0 = .ok (.aload_n 0, 1) := by decide +kernel
theorem dX9_cell_1 : decode cX9_cell 1 = .ok (.getfield 12, 3) := by decide +kernel
theorem dX9_cell_4 : decode cX9_cell 4 = .ok (.getfield 38, 3) := by decide +kernel
theorem dX9_cell_7 : decode cX9_cell 7 = .ok (.iload_n 1, 1) := by decide +kernel
theorem dX9_cell_8 : decode cX9_cell 8 = .ok (.iload_n 2, 1) := by decide +kernel
theorem dX9_cell_9 : decode cX9_cell 9 = .ok (.invokevirtual 51, 3) := by decide +kernel
theorem dX9_cell_12 : decode cX9_cell 12 = .ok (.ifCond .ne 5, 3) := by decide +kernel
theorem dX9_cell_15 : decode cX9_cell 15 = .ok (.iconst 0, 1) := by decide +kernel
theorem dX9_cell_16 : decode cX9_cell 16 = .ok (.ireturn, 1) := by decide +kernel
theorem dX9_cell_17 : decode cX9_cell 17 = .ok (.iload_n 3, 1) := by decide +kernel
theorem dX9_cell_18 : decode cX9_cell 18 = .ok (.iconst 1, 1) := by decide +kernel
theorem dX9_cell_19 : decode cX9_cell 19 = .ok (.bipush 50, 2) := by decide +kernel
theorem dX9_cell_21 : decode cX9_cell 21 = .ok (.invokestatic 34, 3) := by decide +kernel
theorem dX9_cell_24 : decode cX9_cell 24 = .ok (.ifCond .eq 14, 3) := by decide +kernel
theorem dX9_cell_27 : decode cX9_cell 27 = .ok (.iload 4, 2) := by decide +kernel
theorem dX9_cell_29 : decode cX9_cell 29 = .ok (.iconst 0, 1) := by decide +kernel
theorem dX9_cell_30 : decode cX9_cell 30 = .ok (.bipush 9, 2) := by decide +kernel
theorem dX9_cell_32 : decode cX9_cell 32 = .ok (.invokestatic 34, 3) := by decide +kernel
theorem dX9_cell_35 : decode cX9_cell 35 = .ok (.ifCond .ne 5, 3) := by decide +kernel
theorem dX9_cell_38 : decode cX9_cell 38 = .ok (.iconst 0, 1) := by decide +kernel
theorem dX9_cell_39 : decode cX9_cell 39 = .ok (.ireturn, 1) := by decide +kernel
theorem dX9_cell_40 : decode cX9_cell 40 = .ok (.aload_n 0, 1) := by decide +kernel
theorem dX9_cell_41 : decode cX9_cell 41 = .ok (.getfield 12, 3) := by decide +kernel
theorem dX9_cell_44 : decode cX9_cell 44 = .ok (.getfield 38, 3) := by decide +kernel
theorem dX9_cell_47 : decode cX9_cell 47 = .ok (.getfield 55, 3) := by decide +kernel
theorem dX9_cell_50 : decode cX9_cell 50 = .ok (.iload_n 1, 1) := by decide +kernel
theorem dX9_cell_51 : decode cX9_cell 51 = .ok (.iload_n 2, 1) := by decide +kernel
theorem dX9_cell_52 : decode cX9_cell 52 = .ok (.invokestatic 59, 3) := by decide +kernel
theorem dX9_cell_55 : decode cX9_cell 55 = .ok (.iload_n 3, 1) := by decide +kernel
theorem dX9_cell_56 : decode cX9_cell 56 = .ok (.iastore, 1) := by decide +kernel
theorem dX9_cell_57 : decode cX9_cell 57 = .ok (.aload_n 0, 1) := by decide +kernel
theorem dX9_cell_58 : decode cX9_cell 58 = .ok (.getfield 12, 3) := by decide +kernel
theorem dX9_cell_61 : decode cX9_cell 61 = .ok (.getfield 38, 3) := by decide +kernel
theorem dX9_cell_64 : decode cX9_cell 64 = .ok (.getfield 63, 3) := by decide +kernel
theorem dX9_cell_67 : decode cX9_cell 67 = .ok (.iload_n 1, 1) := by decide +kernel
theorem dX9_cell_68 : decode cX9_cell 68 = .ok (.iload_n 2, 1) := by decide +kernel
theorem dX9_cell_69 : decode cX9_cell 69 = .ok (.invokestatic 59, 3) := by decide +kernel
theorem dX9_cell_72 : decode cX9_cell 72 = .ok (.iload 4, 2) := by decide +kernel
theorem dX9_cell_74 : decode cX9_cell 74 = .ok (.iastore, 1) := by decide +kernel
theorem dX9_cell_75 : decode cX9_cell 75 = .ok (.aload_n 0, 1) := by decide +kernel
theorem dX9_cell_76 : decode cX9_cell 76 = .ok (.getfield 12, 3) := by decide +kernel
theorem dX9_cell_79 : decode cX9_cell 79 = .ok (.invokevirtual 48, 3) := by decide +kernel
theorem dX9_cell_82 : decode cX9_cell 82 = .ok (.iconst 1, 1) := by decide +kernel
theorem dX9_cell_83 : decode cX9_cell 83 = .ok (.ireturn, 1) := by decide +kernel
theorem dX9_motifs_0 : decode cX9_motifs 0 = .ok (.aload_n 0, 1) := by decide +kernel
theorem dX9_motifs_1 : decode cX9_motifs 1 = .ok (.getfield 12, 3) := by decide +kernel
theorem dX9_motifs_4 : decode cX9_motifs 4 = .ok (.getfield 38, 3) := by decide +kernel
theorem dX9_motifs_7 : decode cX9_motifs 7 = .ok (.iconst 0, 1) := by decide +kernel
theorem dX9_motifs_8 : decode cX9_motifs 8 = .ok (.iload_n 1, 1) := by decide +kernel
theorem dX9_motifs_9 : decode cX9_motifs 9 = .ok (.invokevirtual 51, 3) := by decide +kernel
theorem dX9_motifs_12 : decode cX9_motifs 12 = .ok (.ifCond .eq 10, 3) := by decide +kernel
theorem dX9_motifs_15 : decode cX9_motifs 15 = .ok (.iload_n 2, 1) := by decide +kernel
theorem dX9_motifs_16 : decode cX9_motifs 16 = .ok (.invokestatic 66, 3) := by decide +kernel
theorem dX9_motifs_19 : decode cX9_motifs 19 = .ok (.ifCond .ne 5, 3) := by decide +kernel
theorem dX9_motifs_22 : decode cX9_motifs 22 = .ok (.iconst 0, 1) := by decide +kernel
theorem dX9_motifs_23 : decode cX9_motifs 23 = .ok (.ireturn, 1) := by decide +kernel
theorem dX9_motifs_24 : decode cX9_motifs 24 = .ok (.iconst 0, 1) := by decide +kernel
theorem dX9_motifs_25 : decode cX9_motifs 25 = .ok (.istore_n 3, 1) := by decide +kernel
theorem dX9_motifs_26 : decode cX9_motifs 26 = .ok (.iload_n 3, 1) := by decide +kernel
theorem dX9_motifs_27 : decode cX9_motifs 27 = .ok (.aload_n 0, 1) := by decide +kernel
theorem dX9_motifs_28 : decode cX9_motifs 28 = .ok (.getfield 12, 3) := by decide +kernel
theorem dX9_motifs_31 : decode cX9_motifs 31 = .ok (.getfield 38, 3) := by decide +kernel
theorem dX9_motifs_34 : decode cX9_motifs 34 = .ok (.getfield 70, 3) := by decide +kernel
theorem dX9_motifs_37 : decode cX9_motifs 37 = .ok (.if_icmp .ge 30, 3) := by decide +kernel
theorem dX9_motifs_40 : decode cX9_motifs 40 = .ok (.aload_n 0, 1) := by decide +kernel
theorem dX9_motifs_41 : decode cX9_motifs 41 = .ok (.getfield 12, 3) := by decide +kernel
theorem dX9_motifs_44 : decode cX9_motifs 44 = .ok (.getfield 38, 3) := by decide +kernel
theorem dX9_motifs_47 : decode cX9_motifs 47 = .ok (.getfield 63, 3) := by decide +kernel
theorem dX9_motifs_50 : decode cX9_motifs 50 = .ok (.iload_n 3, 1) := by decide +kernel
theorem dX9_motifs_51 : decode cX9_motifs 51 = .ok (.iload_n 1, 1) := by decide +kernel
theorem dX9_motifs_52 : decode cX9_motifs 52 = .ok (.invokestatic 59, 3) := by decide +kernel
theorem dX9_motifs_55 : decode cX9_motifs 55 = .ok (.iload_n 2, 1) := by decide +kernel
theorem dX9_motifs_56 : decode cX9_motifs 56 = .ok (.iload_n 3, 1) := by decide +kernel
theorem dX9_motifs_57 : decode cX9_motifs 57 = .ok (.invokestatic 74, 3) := by decide +kernel
theorem dX9_motifs_60 : decode cX9_motifs 60 = .ok (.iastore, 1) := by decide +kernel
theorem dX9_motifs_61 : decode cX9_motifs 61 = .ok (.iinc 3 1, 3) := by decide +kernel
theorem dX9_motifs_64 : decode cX9_motifs 64 = .ok (.goto (-38), 3) := by decide +kernel
theorem dX9_motifs_67 : decode cX9_motifs 67 = .ok (.aload_n 0, 1) := by decide +kernel
theorem dX9_motifs_68 : decode cX9_motifs 68 = .ok (.getfield 12, 3) := by decide +kernel
theorem dX9_motifs_71 : decode cX9_motifs 71 = .ok (.invokevirtual 48, 3) := by decide +kernel
theorem dX9_motifs_74 : decode cX9_motifs 74 = .ok (.iconst 1, 1) := by decide +kernel
theorem dX9_motifs_75 : decode cX9_motifs 75 = .ok (.ireturn, 1) := by decide +kernel
theorem dX9_limit_0 : decode cX9_limit 0 = .ok (.iload_n 1, 1) := by decide +kernel
theorem dX9_limit_1 : decode cX9_limit 1 = .ok (.iconst 1, 1) := by decide +kernel
theorem dX9_limit_2 : decode cX9_limit 2 = .ok (.sipush 3200, 3) := by decide +kernel
theorem dX9_limit_5 : decode cX9_limit 5 = .ok (.invokestatic 34, 3) := by decide +kernel
theorem dX9_limit_8 : decode cX9_limit 8 = .ok (.ifCond .ne 5, 3) := by decide +kernel
theorem dX9_limit_11 : decode cX9_limit 11 = .ok (.iconst 0, 1) := by decide +kernel
theorem dX9_limit_12 : decode cX9_limit 12 = .ok (.ireturn, 1) := by decide +kernel
theorem dX9_limit_13 : decode cX9_limit 13 = .ok (.aload_n 0, 1) := by decide +kernel
theorem dX9_limit_14 : decode cX9_limit 14 = .ok (.getfield 12, 3) := by decide +kernel
theorem dX9_limit_17 : decode cX9_limit 17 = .ok (.iload_n 1, 1) := by decide +kernel
theorem dX9_limit_18 : decode cX9_limit 18 = .ok (.putfield 77, 3) := by decide +kernel
theorem dX9_limit_21 : decode cX9_limit 21 = .ok (.iconst 1, 1) := by decide +kernel
theorem dX9_limit_22 : decode cX9_limit 22 = .ok (.ireturn, 1) := by decide +kernel
theorem dX9_saw_0 : decode cX9_saw 0 = .ok (.iload_n 1, 1) := by decide +kernel
theorem dX9_saw_1 : decode cX9_saw 1 = .ok (.iconst 1, 1) := by decide +kernel
theorem dX9_saw_2 : decode cX9_saw 2 = .ok (.bipush 9, 2) := by decide +kernel
theorem dX9_saw_4 : decode cX9_saw 4 = .ok (.invokestatic 34, 3) := by decide +kernel
theorem dX9_saw_7 : decode cX9_saw 7 = .ok (.ifCond .ne 5, 3) := by decide +kernel
theorem dX9_saw_10 : decode cX9_saw 10 = .ok (.iconst 0, 1) := by decide +kernel
theorem dX9_saw_11 : decode cX9_saw 11 = .ok (.ireturn, 1) := by decide +kernel
theorem dX9_saw_12 : decode cX9_saw 12 = .ok (.aload_n 0, 1) := by decide +kernel
theorem dX9_saw_13 : decode cX9_saw 13 = .ok (.getfield 12, 3) := by decide +kernel
theorem dX9_saw_16 : decode cX9_saw 16 = .ok (.iload_n 1, 1) := by decide +kernel
theorem dX9_saw_17 : decode cX9_saw 17 = .ok (.putfield 80, 3) := by decide +kernel
theorem dX9_saw_20 : decode cX9_saw 20 = .ok (.iconst 1, 1) := by decide +kernel
theorem dX9_saw_21 : decode cX9_saw 21 = .ok (.ireturn, 1) := by decide +kernel
theorem dX9_plan_0 : decode cX9_plan 0 = .ok (.aload_n 0, 1) := by decide +kernel
theorem dX9_plan_1 : decode cX9_plan 1 = .ok (.getfield 19, 3) := by decide +kernel
theorem dX9_plan_4 : decode cX9_plan 4 = .ok (.aload_n 0, 1) := by decide +kernel
theorem dX9_plan_5 : decode cX9_plan 5 = .ok (.getfield 12, 3) := by decide +kernel
theorem dX9_plan_8 : decode cX9_plan 8 = .ok (.getfield 38, 3) := by decide +kernel
theorem dX9_plan_11 : decode cX9_plan 11 = .ok (.aload_n 0, 1) := by decide +kernel
theorem dX9_plan_12 : decode cX9_plan 12 = .ok (.getfield 12, 3) := by decide +kernel
theorem dX9_plan_15 : decode cX9_plan 15 = .ok (.getfield 77, 3) := by decide +kernel
theorem dX9_plan_18 : decode cX9_plan 18 = .ok (.invokevirtual 83, 3) := by decide +kernel
theorem dX9_plan_21 : decode cX9_plan 21 = .ok (.ifCond .ne 5, 3) := by decide +kernel
theorem dX9_plan_24 : decode cX9_plan 24 = .ok (.iconst (-1), 1) := by decide +kernel
theorem dX9_plan_25 : decode cX9_plan 25 = .ok (.ireturn, 1) := by decide +kernel
theorem dX9_plan_26 : decode cX9_plan 26 = .ok (.aload_n 0, 1) := by decide +kernel
theorem dX9_plan_27 : decode cX9_plan 27 = .ok (.getfield 12, 3) := by decide +kernel
theorem dX9_plan_30 : decode cX9_plan 30 = .ok (.invokevirtual 48, 3) := by decide +kernel
theorem dX9_plan_33 : decode cX9_plan 33 = .ok (.aload_n 0, 1) := by decide +kernel
theorem dX9_plan_34 : decode cX9_plan 34 = .ok (.getfield 19, 3) := by decide +kernel
theorem dX9_plan_37 : decode cX9_plan 37 = .ok (.aload_n 0, 1) := by decide +kernel
theorem dX9_plan_38 : decode cX9_plan 38 = .ok (.getfield 12, 3) := by decide +kernel
theorem dX9_plan_41 : decode cX9_plan 41 = .ok (.getfield 38, 3) := by decide +kernel
theorem dX9_plan_44 : decode cX9_plan 44 = .ok (.aload_n 0, 1) := by decide +kernel
theorem dX9_plan_45 : decode cX9_plan 45 = .ok (.getfield 12, 3) := by decide +kernel
theorem dX9_plan_48 : decode cX9_plan 48 = .ok (.getfield 87, 3) := by decide +kernel
theorem dX9_plan_51 : decode cX9_plan 51 = .ok (.invokevirtual 91, 3) := by decide +kernel
theorem dX9_plan_54 : decode cX9_plan 54 = .ok (.aload_n 0, 1) := by decide +kernel
theorem dX9_plan_55 : decode cX9_plan 55 = .ok (.getfield 12, 3) := by decide +kernel
theorem dX9_plan_58 : decode cX9_plan 58 = .ok (.getfield 87, 3) := by decide +kernel
theorem dX9_plan_61 : decode cX9_plan 61 = .ok (.getfield 95, 3) := by decide +kernel
theorem dX9_plan_64 : decode cX9_plan 64 = .ok (.ireturn, 1) := by decide +kernel
theorem dX9_block_0 : decode cX9_block 0 = .ok (.aload_n 0, 1) := by decide +kernel
theorem dX9_block_1 : decode cX9_block 1 = .ok (.getfield 12, 3) := by decide +kernel
theorem dX9_block_4 : decode cX9_block 4 = .ok (.getfield 87, 3) := by decide +kernel
theorem dX9_block_7 : decode cX9_block 7 = .ok (.iload_n 1, 1) := by decide +kernel
theorem dX9_block_8 : decode cX9_block 8 = .ok (.invokevirtual 100, 3) := by decide +kernel
theorem dX9_block_11 : decode cX9_block 11 = .ok (.ifCond .ne 5, 3) := by decide +kernel
theorem dX9_block_14 : decode cX9_block 14 = .ok (.iconst (-1), 1) := by decide +kernel
theorem dX9_block_15 : decode cX9_block 15 = .ok (.ireturn, 1) := by decide +kernel
theorem dX9_block_16 : decode cX9_block 16 = .ok (.iload_n 2, 1) := by decide +kernel
theorem dX9_block_17 : decode cX9_block 17 = .ok (.tableswitch 218 0 11 #[63, 76, 89, 102, 115, 124, 133, 146, 166, 183, 196, 205], 63) := by decide +kernel
theorem dX9_block_80 : decode cX9_block 80 = .ok (.aload_n 0, 1) := by decide +kernel
theorem dX9_block_81 : decode cX9_block 81 = .ok (.getfield 12, 3) := by decide +kernel
theorem dX9_block_84 : decode cX9_block 84 = .ok (.getfield 87, 3) := by decide +kernel
theorem dX9_block_87 : decode cX9_block 87 = .ok (.getfield 102, 3) := by decide +kernel
theorem dX9_block_90 : decode cX9_block 90 = .ok (.iload_n 1, 1) := by decide +kernel
theorem dX9_block_91 : decode cX9_block 91 = .ok (.iaload, 1) := by decide +kernel
theorem dX9_block_92 : decode cX9_block 92 = .ok (.ireturn, 1) := by decide +kernel
theorem dX9_block_93 : decode cX9_block 93 = .ok (.aload_n 0, 1) := by decide +kernel
theorem dX9_block_94 : decode cX9_block 94 = .ok (.getfield 12, 3) := by decide +kernel
theorem dX9_block_97 : decode cX9_block 97 = .ok (.getfield 87, 3) := by decide +kernel
theorem dX9_block_100 : decode cX9_block 100 = .ok (.getfield 105, 3) := by decide +kernel
theorem dX9_block_103 : decode cX9_block 103 = .ok (.iload_n 1, 1) := by decide +kernel
theorem dX9_block_104 : decode cX9_block 104 = .ok (.iaload, 1) := by decide +kernel
theorem dX9_block_105 : decode cX9_block 105 = .ok (.ireturn, 1) := by decide +kernel
theorem dX9_block_106 : decode cX9_block 106 = .ok (.aload_n 0, 1) := by decide +kernel
theorem dX9_block_107 : decode cX9_block 107 = .ok (.getfield 12, 3) := by decide +kernel
theorem dX9_block_110 : decode cX9_block 110 = .ok (.getfield 87, 3) := by decide +kernel
theorem dX9_block_113 : decode cX9_block 113 = .ok (.getfield 108, 3) := by decide +kernel
theorem dX9_block_116 : decode cX9_block 116 = .ok (.iload_n 1, 1) := by decide +kernel
theorem dX9_block_117 : decode cX9_block 117 = .ok (.iaload, 1) := by decide +kernel
theorem dX9_block_118 : decode cX9_block 118 = .ok (.ireturn, 1) := by decide +kernel
theorem dX9_block_119 : decode cX9_block 119 = .ok (.aload_n 0, 1) := by decide +kernel
theorem dX9_block_120 : decode cX9_block 120 = .ok (.getfield 12, 3) := by decide +kernel
theorem dX9_block_123 : decode cX9_block 123 = .ok (.getfield 87, 3) := by decide +kernel
theorem dX9_block_126 : decode cX9_block 126 = .ok (.getfield 110, 3) := by decide +kernel
theorem dX9_block_129 : decode cX9_block 129 = .ok (.iload_n 1, 1) := by decide +kernel
theorem dX9_block_130 : decode cX9_block 130 = .ok (.iaload, 1) := by decide +kernel
theorem dX9_block_131 : decode cX9_block 131 = .ok (.ireturn, 1) := by decide +kernel
theorem dX9_block_132 : decode cX9_block 132 = .ok (.aload_n 0, 1) := by decide +kernel
theorem dX9_block_133 : decode cX9_block 133 = .ok (.getfield 12, 3) := by decide +kernel
theorem dX9_block_136 : decode cX9_block 136 = .ok (.iload_n 1, 1) := by decide +kernel
theorem dX9_block_137 : decode cX9_block 137 = .ok (.invokevirtual 113, 3) := by decide +kernel
theorem dX9_block_140 : decode cX9_block 140 = .ok (.ireturn, 1) := by decide +kernel
theorem dX9_block_141 : decode cX9_block 141 = .ok (.aload_n 0, 1) := by decide +kernel
theorem dX9_block_142 : decode cX9_block 142 = .ok (.getfield 12, 3) := by decide +kernel
theorem dX9_block_145 : decode cX9_block 145 = .ok (.iload_n 1, 1) := by decide +kernel
theorem dX9_block_146 : decode cX9_block 146 = .ok (.invokevirtual 117, 3) := by decide +kernel
theorem dX9_block_149 : decode cX9_block 149 = .ok (.ireturn, 1) := by decide +kernel
theorem dX9_block_150 : decode cX9_block 150 = .ok (.aload_n 0, 1) := by decide +kernel
theorem dX9_block_151 : decode cX9_block 151 = .ok (.getfield 12, 3) := by decide +kernel
theorem dX9_block_154 : decode cX9_block 154 = .ok (.getfield 87, 3) := by decide +kernel
theorem dX9_block_157 : decode cX9_block 157 = .ok (.getfield 120, 3) := by decide +kernel
theorem dX9_block_160 : decode cX9_block 160 = .ok (.iload_n 1, 1) := by decide +kernel
theorem dX9_block_161 : decode cX9_block 161 = .ok (.iaload, 1) := by decide +kernel
theorem dX9_block_162 : decode cX9_block 162 = .ok (.ireturn, 1) := by decide +kernel
theorem dX9_block_163 : decode cX9_block 163 = .ok (.aload_n 0, 1) := by decide +kernel
theorem dX9_block_164 : decode cX9_block 164 = .ok (.getfield 12, 3) := by decide +kernel
theorem dX9_block_167 : decode cX9_block 167 = .ok (.getfield 123, 3) := by decide +kernel
theorem dX9_block_170 : decode cX9_block 170 = .ok (.iload_n 1, 1) := by decide +kernel
theorem dX9_block_171 : decode cX9_block 171 = .ok (.invokevirtual 127, 3) := by decide +kernel
theorem dX9_block_174 : decode cX9_block 174 = .ok (.ifCond .eq 7, 3) := by decide +kernel
theorem dX9_block_177 : decode cX9_block 177 = .ok (.iconst 1, 1) := by decide +kernel
theorem dX9_block_178 : decode cX9_block 178 = .ok (.goto 4, 3) := by decide +kernel
theorem dX9_block_181 : decode cX9_block 181 = .ok (.iconst 0, 1) := by decide +kernel
theorem dX9_block_182 : decode cX9_block 182 = .ok (.ireturn, 1) := by decide +kernel
theorem dX9_block_183 : decode cX9_block 183 = .ok (.aload_n 0, 1) := by decide +kernel
theorem dX9_block_184 : decode cX9_block 184 = .ok (.getfield 12, 3) := by decide +kernel
theorem dX9_block_187 : decode cX9_block 187 = .ok (.iload_n 1, 1) := by decide +kernel
theorem dX9_block_188 : decode cX9_block 188 = .ok (.invokevirtual 132, 3) := by decide +kernel
theorem dX9_block_191 : decode cX9_block 191 = .ok (.ifCond .eq 7, 3) := by decide +kernel
theorem dX9_block_194 : decode cX9_block 194 = .ok (.iconst 1, 1) := by decide +kernel
theorem dX9_block_195 : decode cX9_block 195 = .ok (.goto 4, 3) := by decide +kernel
theorem dX9_block_198 : decode cX9_block 198 = .ok (.iconst 0, 1) := by decide +kernel
theorem dX9_block_199 : decode cX9_block 199 = .ok (.ireturn, 1) := by decide +kernel
theorem dX9_block_200 : decode cX9_block 200 = .ok (.aload_n 0, 1) := by decide +kernel
theorem dX9_block_201 : decode cX9_block 201 = .ok (.getfield 12, 3) := by decide +kernel
theorem dX9_block_204 : decode cX9_block 204 = .ok (.getfield 123, 3) := by decide +kernel
theorem dX9_block_207 : decode cX9_block 207 = .ok (.getfield 135, 3) := by decide +kernel
theorem dX9_block_210 : decode cX9_block 210 = .ok (.iload_n 1, 1) := by decide +kernel
theorem dX9_block_211 : decode cX9_block 211 = .ok (.iaload, 1) := by decide +kernel
theorem dX9_block_212 : decode cX9_block 212 = .ok (.ireturn, 1) := by decide +kernel
theorem dX9_block_213 : decode cX9_block 213 = .ok (.aload_n 0, 1) := by decide +kernel
theorem dX9_block_214 : decode cX9_block 214 = .ok (.getfield 12, 3) := by decide +kernel
theorem dX9_block_217 : decode cX9_block 217 = .ok (.iload_n 1, 1) := by decide +kernel
theorem dX9_block_218 : decode cX9_block 218 = .ok (.invokevirtual 138, 3) := by decide +kernel
theorem dX9_block_221 : decode cX9_block 221 = .ok (.ireturn, 1) := by decide +kernel
theorem dX9_block_222 : decode cX9_block 222 = .ok (.aload_n 0, 1) := by decide +kernel
theorem dX9_block_223 : decode cX9_block 223 = .ok (.getfield 12, 3) := by decide +kernel
theorem dX9_block_226 : decode cX9_block 226 = .ok (.getfield 123, 3) := by decide +kernel
theorem dX9_block_229 : decode cX9_block 229 = .ok (.getfield 141, 3) := by decide +kernel
theorem dX9_block_232 : decode cX9_block 232 = .ok (.iload_n 1, 1) := by decide +kernel
theorem dX9_block_233 : decode cX9_block 233 = .ok (.iaload, 1) := by decide +kernel
theorem dX9_block_234 : decode cX9_block 234 = .ok (.ireturn, 1) := by decide +kernel
theorem dX9_block_235 : decode cX9_block 235 = .ok (.iconst (-1), 1) := by decide +kernel
theorem dX9_block_236 : decode cX9_block 236 = .ok (.ireturn, 1) := by decide +kernel
theorem dX9_at_0 : decode cX9_at 0 = .ok (.aload_n 0, 1) := by decide +kernel
theorem dX9_at_1 : decode cX9_at 1 = .ok (.getfield 12, 3) := by decide +kernel
theorem dX9_at_4 : decode cX9_at 4 = .ok (.getfield 87, 3) := by decide +kernel
theorem dX9_at_7 : decode cX9_at 7 = .ok (.getfield 95, 3) := by decide +kernel
theorem dX9_at_10 : decode cX9_at 10 = .ok (.ifCond .eq 18, 3) := by decide +kernel
theorem dX9_at_13 : decode cX9_at 13 = .ok (.aload_n 0, 1) := by decide +kernel
theorem dX9_at_14 : decode cX9_at 14 = .ok (.getfield 12, 3) := by decide +kernel
theorem dX9_at_17 : decode cX9_at 17 = .ok (.getfield 38, 3) := by decide +kernel
theorem dX9_at_20 : decode cX9_at 20 = .ok (.iload_n 1, 1) := by decide +kernel
theorem dX9_at_21 : decode cX9_at 21 = .ok (.iload_n 2, 1) := by decide +kernel
theorem dX9_at_22 : decode cX9_at 22 = .ok (.invokevirtual 51, 3) := by decide +kernel
theorem dX9_at_25 : decode cX9_at 25 = .ok (.ifCond .ne 5, 3) := by decide +kernel
theorem dX9_at_28 : decode cX9_at 28 = .ok (.iconst (-1), 1) := by decide +kernel
theorem dX9_at_29 : decode cX9_at 29 = .ok (.ireturn, 1) := by decide +kernel
theorem dX9_at_30 : decode cX9_at 30 = .ok (.aload_n 0, 1) := by decide +kernel
theorem dX9_at_31 : decode cX9_at 31 = .ok (.getfield 12, 3) := by decide +kernel
theorem dX9_at_34 : decode cX9_at 34 = .ok (.getfield 87, 3) := by decide +kernel
theorem dX9_at_37 : decode cX9_at 37 = .ok (.getfield 144, 3) := by decide +kernel
theorem dX9_at_40 : decode cX9_at 40 = .ok (.iload_n 1, 1) := by decide +kernel
theorem dX9_at_41 : decode cX9_at 41 = .ok (.iload_n 2, 1) := by decide +kernel
theorem dX9_at_42 : decode cX9_at 42 = .ok (.invokestatic 59, 3) := by decide +kernel
theorem dX9_at_45 : decode cX9_at 45 = .ok (.iaload, 1) := by decide +kernel
theorem dX9_at_46 : decode cX9_at 46 = .ok (.ireturn, 1) := by decide +kernel
theorem dX9_above_0 : decode cX9_above 0 = .ok (.aload_n 0, 1) := by decide +kernel
theorem dX9_above_1 : decode cX9_above 1 = .ok (.getfield 12, 3) := by decide +kernel
theorem dX9_above_4 : decode cX9_above 4 = .ok (.getfield 87, 3) := by decide +kernel
theorem dX9_above_7 : decode cX9_above 7 = .ok (.iload_n 1, 1) := by decide +kernel
theorem dX9_above_8 : decode cX9_above 8 = .ok (.invokevirtual 100, 3) := by decide +kernel
theorem dX9_above_11 : decode cX9_above 11 = .ok (.ifCond .eq 36, 3) := by decide +kernel
theorem dX9_above_14 : decode cX9_above 14 = .ok (.aload_n 0, 1) := by decide +kernel
theorem dX9_above_15 : decode cX9_above 15 = .ok (.getfield 12, 3) := by decide +kernel
theorem dX9_above_18 : decode cX9_above 18 = .ok (.getfield 87, 3) := by decide +kernel
theorem dX9_above_21 : decode cX9_above 21 = .ok (.iload_n 2, 1) := by decide +kernel
theorem dX9_above_22 : decode cX9_above 22 = .ok (.invokevirtual 100, 3) := by decide +kernel
theorem dX9_above_25 : decode cX9_above 25 = .ok (.ifCond .eq 22, 3) := by decide +kernel
theorem dX9_above_28 : decode cX9_above 28 = .ok (.aload_n 0, 1) := by decide +kernel
theorem dX9_above_29 : decode cX9_above 29 = .ok (.getfield 12, 3) := by decide +kernel
theorem dX9_above_32 : decode cX9_above 32 = .ok (.getfield 87, 3) := by decide +kernel
theorem dX9_above_35 : decode cX9_above 35 = .ok (.iload_n 1, 1) := by decide +kernel
theorem dX9_above_36 : decode cX9_above 36 = .ok (.iload_n 2, 1) := by decide +kernel
theorem dX9_above_37 : decode cX9_above 37 = .ok (.invokevirtual 147, 3) := by decide +kernel
theorem dX9_above_40 : decode cX9_above 40 = .ok (.ifCond .eq 7, 3) := by decide +kernel
theorem dX9_above_43 : decode cX9_above 43 = .ok (.iconst 1, 1) := by decide +kernel
theorem dX9_above_44 : decode cX9_above 44 = .ok (.goto 4, 3) := by decide +kernel
theorem dX9_above_47 : decode cX9_above 47 = .ok (.iconst 0, 1) := by decide +kernel
theorem dX9_above_48 : decode cX9_above 48 = .ok (.ireturn, 1) := by decide +kernel
theorem dX9_river_0 : decode cX9_river 0 = .ok (.iload_n 1, 1) := by decide +kernel
theorem dX9_river_1 : decode cX9_river 1 = .ok (.iconst 0, 1) := by decide +kernel
theorem dX9_river_2 : decode cX9_river 2 = .ok (.bipush 11, 2) := by decide +kernel
theorem dX9_river_4 : decode cX9_river 4 = .ok (.invokestatic 34, 3) := by decide +kernel
theorem dX9_river_7 : decode cX9_river 7 = .ok (.ifCond .eq 13, 3) := by decide +kernel
theorem dX9_river_10 : decode cX9_river 10 = .ok (.iload_n 2, 1) := by decide +kernel
theorem dX9_river_11 : decode cX9_river 11 = .ok (.iconst 0, 1) := by decide +kernel
theorem dX9_river_12 : decode cX9_river 12 = .ok (.bipush 9, 2) := by decide +kernel
theorem dX9_river_14 : decode cX9_river 14 = .ok (.invokestatic 34, 3) := by decide +kernel
theorem dX9_river_17 : decode cX9_river 17 = .ok (.ifCond .ne 5, 3) := by decide +kernel
theorem dX9_river_20 : decode cX9_river 20 = .ok (.iconst 0, 1) := by decide +kernel
theorem dX9_river_21 : decode cX9_river 21 = .ok (.ireturn, 1) := by decide +kernel
theorem dX9_river_22 : decode cX9_river 22 = .ok (.aload_n 0, 1) := by decide +kernel
theorem dX9_river_23 : decode cX9_river 23 = .ok (.getfield 12, 3) := by decide +kernel
theorem dX9_river_26 : decode cX9_river 26 = .ok (.getfield 150, 3) := by decide +kernel
theorem dX9_river_29 : decode cX9_river 29 = .ok (.getfield 154, 3) := by decide +kernel
theorem dX9_river_32 : decode cX9_river 32 = .ok (.iload_n 1, 1) := by decide +kernel
theorem dX9_river_33 : decode cX9_river 33 = .ok (.iload_n 2, 1) := by decide +kernel
theorem dX9_river_34 : decode cX9_river 34 = .ok (.iastore, 1) := by decide +kernel
theorem dX9_river_35 : decode cX9_river 35 = .ok (.iconst 1, 1) := by decide +kernel
theorem dX9_river_36 : decode cX9_river 36 = .ok (.ireturn, 1) := by decide +kernel
theorem dX9_days_0 : decode cX9_days 0 = .ok (.iload_n 1, 1) := by decide +kernel
theorem dX9_days_1 : decode cX9_days 1 = .ok (.iconst 1, 1) := by decide +kernel
theorem dX9_days_2 : decode cX9_days 2 = .ok (.bipush 100, 2) := by decide +kernel
theorem dX9_days_4 : decode cX9_days 4 = .ok (.invokestatic 34, 3) := by decide +kernel
theorem dX9_days_7 : decode cX9_days 7 = .ok (.ifCond .eq 18, 3) := by decide +kernel
theorem dX9_days_10 : decode cX9_days 10 = .ok (.aload_n 0, 1) := by decide +kernel
theorem dX9_days_11 : decode cX9_days 11 = .ok (.getfield 12, 3) := by decide +kernel
theorem dX9_days_14 : decode cX9_days 14 = .ok (.getfield 159, 3) := by decide +kernel
theorem dX9_days_17 : decode cX9_days 17 = .ok (.iload_n 1, 1) := by decide +kernel
theorem dX9_days_18 : decode cX9_days 18 = .ok (.iadd, 1) := by decide +kernel
theorem dX9_days_19 : decode cX9_days 19 = .ok (.sipush 5000, 3) := by decide +kernel
theorem dX9_days_22 : decode cX9_days 22 = .ok (.if_icmp .le 5, 3) := by decide +kernel
theorem dX9_days_25 : decode cX9_days 25 = .ok (.iconst (-1), 1) := by decide +kernel
theorem dX9_days_26 : decode cX9_days 26 = .ok (.ireturn, 1) := by decide +kernel
theorem dX9_days_27 : decode cX9_days 27 = .ok (.aload_n 0, 1) := by decide +kernel
theorem dX9_days_28 : decode cX9_days 28 = .ok (.getfield 12, 3) := by decide +kernel
theorem dX9_days_31 : decode cX9_days 31 = .ok (.dup, 1) := by decide +kernel
theorem dX9_days_32 : decode cX9_days 32 = .ok (.getfield 159, 3) := by decide +kernel
theorem dX9_days_35 : decode cX9_days 35 = .ok (.iload_n 1, 1) := by decide +kernel
theorem dX9_days_36 : decode cX9_days 36 = .ok (.iadd, 1) := by decide +kernel
theorem dX9_days_37 : decode cX9_days 37 = .ok (.putfield 159, 3) := by decide +kernel
theorem dX9_days_40 : decode cX9_days 40 = .ok (.aload_n 0, 1) := by decide +kernel
theorem dX9_days_41 : decode cX9_days 41 = .ok (.getfield 12, 3) := by decide +kernel
theorem dX9_days_44 : decode cX9_days 44 = .ok (.getfield 159, 3) := by decide +kernel
theorem dX9_days_47 : decode cX9_days 47 = .ok (.ireturn, 1) := by decide +kernel
theorem dX9_take_0 : decode cX9_take 0 = .ok (.aload_n 0, 1) := by decide +kernel
theorem dX9_take_1 : decode cX9_take 1 = .ok (.getfield 12, 3) := by decide +kernel
theorem dX9_take_4 : decode cX9_take 4 = .ok (.getfield 87, 3) := by decide +kernel
theorem dX9_take_7 : decode cX9_take 7 = .ok (.iload_n 1, 1) := by decide +kernel
theorem dX9_take_8 : decode cX9_take 8 = .ok (.invokevirtual 100, 3) := by decide +kernel
theorem dX9_take_11 : decode cX9_take 11 = .ok (.ifCond .eq 14, 3) := by decide +kernel
theorem dX9_take_14 : decode cX9_take 14 = .ok (.aload_n 0, 1) := by decide +kernel
theorem dX9_take_15 : decode cX9_take 15 = .ok (.getfield 12, 3) := by decide +kernel
theorem dX9_take_18 : decode cX9_take 18 = .ok (.iload_n 1, 1) := by decide +kernel
theorem dX9_take_19 : decode cX9_take 19 = .ok (.invokevirtual 132, 3) := by decide +kernel
theorem dX9_take_22 : decode cX9_take 22 = .ok (.ifCond .ne 5, 3) := by decide +kernel
theorem dX9_take_25 : decode cX9_take 25 = .ok (.iconst (-1), 1) := by decide +kernel
theorem dX9_take_26 : decode cX9_take 26 = .ok (.ireturn, 1) := by decide +kernel
theorem dX9_take_27 : decode cX9_take 27 = .ok (.aload_n 0, 1) := by decide +kernel
theorem dX9_take_28 : decode cX9_take 28 = .ok (.getfield 12, 3) := by decide +kernel
theorem dX9_take_31 : decode cX9_take 31 = .ok (.getfield 150, 3) := by decide +kernel
theorem dX9_take_34 : decode cX9_take 34 = .ok (.aload_n 0, 1) := by decide +kernel
theorem dX9_take_35 : decode cX9_take 35 = .ok (.getfield 12, 3) := by decide +kernel
theorem dX9_take_38 : decode cX9_take 38 = .ok (.getfield 87, 3) := by decide +kernel
theorem dX9_take_41 : decode cX9_take 41 = .ok (.getfield 105, 3) := by decide +kernel
theorem dX9_take_44 : decode cX9_take 44 = .ok (.iload_n 1, 1) := by decide +kernel
theorem dX9_take_45 : decode cX9_take 45 = .ok (.iaload, 1) := by decide +kernel
theorem dX9_take_46 : decode cX9_take 46 = .ok (.aload_n 0, 1) := by decide +kernel
theorem dX9_take_47 : decode cX9_take 47 = .ok (.getfield 12, 3) := by decide +kernel
theorem dX9_take_50 : decode cX9_take 50 = .ok (.getfield 159, 3) := by decide +kernel
theorem dX9_take_53 : decode cX9_take 53 = .ok (.invokevirtual 162, 3) := by decide +kernel
theorem dX9_take_56 : decode cX9_take 56 = .ok (.ifCond .ne 16, 3) := by decide +kernel
theorem dX9_take_59 : decode cX9_take 59 = .ok (.aload_n 0, 1) := by decide +kernel
theorem dX9_take_60 : decode cX9_take 60 = .ok (.getfield 12, 3) := by decide +kernel
theorem dX9_take_63 : decode cX9_take 63 = .ok (.getfield 159, 3) := by decide +kernel
theorem dX9_take_66 : decode cX9_take 66 = .ok (.sipush 5000, 3) := by decide +kernel
theorem dX9_take_69 : decode cX9_take 69 = .ok (.if_icmp .lt 5, 3) := by decide +kernel
theorem dX9_take_72 : decode cX9_take 72 = .ok (.iconst (-1), 1) := by decide +kernel
theorem dX9_take_73 : decode cX9_take 73 = .ok (.ireturn, 1) := by decide +kernel
theorem dX9_take_74 : decode cX9_take 74 = .ok (.aload_n 0, 1) := by decide +kernel
theorem dX9_take_75 : decode cX9_take 75 = .ok (.getfield 12, 3) := by decide +kernel
theorem dX9_take_78 : decode cX9_take 78 = .ok (.getfield 123, 3) := by decide +kernel
theorem dX9_take_81 : decode cX9_take 81 = .ok (.iload_n 1, 1) := by decide +kernel
theorem dX9_take_82 : decode cX9_take 82 = .ok (.aload_n 0, 1) := by decide +kernel
theorem dX9_take_83 : decode cX9_take 83 = .ok (.getfield 12, 3) := by decide +kernel
theorem dX9_take_86 : decode cX9_take 86 = .ok (.getfield 87, 3) := by decide +kernel
theorem dX9_take_89 : decode cX9_take 89 = .ok (.getfield 120, 3) := by decide +kernel
theorem dX9_take_92 : decode cX9_take 92 = .ok (.aload_n 0, 1) := by decide +kernel
theorem dX9_take_93 : decode cX9_take 93 = .ok (.getfield 12, 3) := by decide +kernel
theorem dX9_take_96 : decode cX9_take 96 = .ok (.getfield 159, 3) := by decide +kernel
theorem dX9_take_99 : decode cX9_take 99 = .ok (.invokevirtual 165, 3) := by decide +kernel
theorem dX9_take_102 : decode cX9_take 102 = .ok (.istore_n 2, 1) := by decide +kernel
theorem dX9_take_103 : decode cX9_take 103 = .ok (.aload_n 0, 1) := by decide +kernel
theorem dX9_take_104 : decode cX9_take 104 = .ok (.getfield 12, 3) := by decide +kernel
theorem dX9_take_107 : decode cX9_take 107 = .ok (.dup, 1) := by decide +kernel
theorem dX9_take_108 : decode cX9_take 108 = .ok (.getfield 159, 3) := by decide +kernel
theorem dX9_take_111 : decode cX9_take 111 = .ok (.iconst 1, 1) := by decide +kernel
theorem dX9_take_112 : decode cX9_take 112 = .ok (.iadd, 1) := by decide +kernel
theorem dX9_take_113 : decode cX9_take 113 = .ok (.putfield 159, 3) := by decide +kernel
theorem dX9_take_116 : decode cX9_take 116 = .ok (.iload_n 2, 1) := by decide +kernel
theorem dX9_take_117 : decode cX9_take 117 = .ok (.ireturn, 1) := by decide +kernel
theorem dX9_order_0 : decode cX9_order 0 = .ok (.aload_n 0, 1) := by decide +kernel
theorem dX9_order_1 : decode cX9_order 1 = .ok (.getfield 12, 3) := by decide +kernel
theorem dX9_order_4 : decode cX9_order 4 = .ok (.getfield 87, 3) := by decide +kernel
theorem dX9_order_7 : decode cX9_order 7 = .ok (.getfield 95, 3) := by decide +kernel
theorem dX9_order_10 : decode cX9_order 10 = .ok (.ifCond .ne 5, 3) := by decide +kernel
theorem dX9_order_13 : decode cX9_order 13 = .ok (.iconst (-1), 1) := by decide +kernel
theorem dX9_order_14 : decode cX9_order 14 = .ok (.ireturn, 1) := by decide +kernel
theorem dX9_order_15 : decode cX9_order 15 = .ok (.aload_n 0, 1) := by decide +kernel
theorem dX9_order_16 : decode cX9_order 16 = .ok (.getfield 26, 3) := by decide +kernel
theorem dX9_order_19 : decode cX9_order 19 = .ok (.aload_n 0, 1) := by decide +kernel
theorem dX9_order_20 : decode cX9_order 20 = .ok (.getfield 12, 3) := by decide +kernel
theorem dX9_order_23 : decode cX9_order 23 = .ok (.invokevirtual 169, 3) := by decide +kernel
theorem dX9_order_26 : decode cX9_order 26 = .ok (.ireturn, 1) := by decide +kernel
theorem dX9_ordered_0 : decode cX9_ordered 0 = .ok (.iload_n 1, 1) := by decide +kernel
theorem dX9_ordered_1 : decode cX9_ordered 1 = .ok (.iconst 0, 1) := by decide +kernel
theorem dX9_ordered_2 : decode cX9_ordered 2 = .ok (.aload_n 0, 1) := by decide +kernel
theorem dX9_ordered_3 : decode cX9_ordered 3 = .ok (.getfield 12, 3) := by decide +kernel
theorem dX9_ordered_6 : decode cX9_ordered 6 = .ok (.getfield 173, 3) := by decide +kernel
theorem dX9_ordered_9 : decode cX9_ordered 9 = .ok (.getfield 177, 3) := by decide +kernel
theorem dX9_ordered_12 : decode cX9_ordered 12 = .ok (.iconst 1, 1) := by decide +kernel
theorem dX9_ordered_13 : decode cX9_ordered 13 = .ok (.isub, 1) := by decide +kernel
theorem dX9_ordered_14 : decode cX9_ordered 14 = .ok (.invokestatic 34, 3) := by decide +kernel
theorem dX9_ordered_17 : decode cX9_ordered 17 = .ok (.ifCond .ne 5, 3) := by decide +kernel
theorem dX9_ordered_20 : decode cX9_ordered 20 = .ok (.iconst (-1), 1) := by decide +kernel
theorem dX9_ordered_21 : decode cX9_ordered 21 = .ok (.ireturn, 1) := by decide +kernel
theorem dX9_ordered_22 : decode cX9_ordered 22 = .ok (.aload_n 0, 1) := by decide +kernel
theorem dX9_ordered_23 : decode cX9_ordered 23 = .ok (.getfield 12, 3) := by decide +kernel
theorem dX9_ordered_26 : decode cX9_ordered 26 = .ok (.getfield 173, 3) := by decide +kernel
theorem dX9_ordered_29 : decode cX9_ordered 29 = .ok (.getfield 182, 3) := by decide +kernel
theorem dX9_ordered_32 : decode cX9_ordered 32 = .ok (.iload_n 1, 1) := by decide +kernel
theorem dX9_ordered_33 : decode cX9_ordered 33 = .ok (.iaload, 1) := by decide +kernel
theorem dX9_ordered_34 : decode cX9_ordered 34 = .ok (.ireturn, 1) := by decide +kernel
theorem dX9_piled_0 : decode cX9_piled 0 = .ok (.iload_n 1, 1) := by decide +kernel
theorem dX9_piled_1 : decode cX9_piled 1 = .ok (.iconst 0, 1) := by decide +kernel
theorem dX9_piled_2 : decode cX9_piled 2 = .ok (.aload_n 0, 1) := by decide +kernel
theorem dX9_piled_3 : decode cX9_piled 3 = .ok (.getfield 12, 3) := by decide +kernel
theorem dX9_piled_6 : decode cX9_piled 6 = .ok (.getfield 123, 3) := by decide +kernel
theorem dX9_piled_9 : decode cX9_piled 9 = .ok (.getfield 185, 3) := by decide +kernel
theorem dX9_piled_12 : decode cX9_piled 12 = .ok (.iconst 1, 1) := by decide +kernel
theorem dX9_piled_13 : decode cX9_piled 13 = .ok (.isub, 1) := by decide +kernel
theorem dX9_piled_14 : decode cX9_piled 14 = .ok (.invokestatic 34, 3) := by decide +kernel
theorem dX9_piled_17 : decode cX9_piled 17 = .ok (.ifCond .ne 5, 3) := by decide +kernel
theorem dX9_piled_20 : decode cX9_piled 20 = .ok (.iconst (-1), 1) := by decide +kernel
theorem dX9_piled_21 : decode cX9_piled 21 = .ok (.ireturn, 1) := by decide +kernel
theorem dX9_piled_22 : decode cX9_piled 22 = .ok (.aload_n 0, 1) := by decide +kernel
theorem dX9_piled_23 : decode cX9_piled 23 = .ok (.getfield 12, 3) := by decide +kernel
theorem dX9_piled_26 : decode cX9_piled 26 = .ok (.getfield 123, 3) := by decide +kernel
theorem dX9_piled_29 : decode cX9_piled 29 = .ok (.iload_n 1, 1) := by decide +kernel
theorem dX9_piled_30 : decode cX9_piled 30 = .ok (.iload_n 2, 1) := by decide +kernel
theorem dX9_piled_31 : decode cX9_piled 31 = .ok (.aload_n 0, 1) := by decide +kernel
theorem dX9_piled_32 : decode cX9_piled 32 = .ok (.getfield 12, 3) := by decide +kernel
theorem dX9_piled_35 : decode cX9_piled 35 = .ok (.getfield 87, 3) := by decide +kernel
theorem dX9_piled_38 : decode cX9_piled 38 = .ok (.getfield 95, 3) := by decide +kernel
theorem dX9_piled_41 : decode cX9_piled 41 = .ok (.invokevirtual 188, 3) := by decide +kernel
theorem dX9_piled_44 : decode cX9_piled 44 = .ok (.ireturn, 1) := by decide +kernel
theorem dX9_sun_0 : decode cX9_sun 0 = .ok (.iload_n 1, 1) := by decide +kernel
theorem dX9_sun_1 : decode cX9_sun 1 = .ok (.iconst 0, 1) := by decide +kernel
theorem dX9_sun_2 : decode cX9_sun 2 = .ok (.sipush 364, 3) := by decide +kernel
theorem dX9_sun_5 : decode cX9_sun 5 = .ok (.invokestatic 34, 3) := by decide +kernel
theorem dX9_sun_8 : decode cX9_sun 8 = .ok (.ifCond .ne 7, 3) := by decide +kernel
theorem dX9_sun_11 : decode cX9_sun 11 = .ok (.sipush (-1000), 3) := by decide +kernel
theorem dX9_sun_14 : decode cX9_sun 14 = .ok (.ireturn, 1) := by decide +kernel
theorem dX9_sun_15 : decode cX9_sun 15 = .ok (.iload_n 1, 1) := by decide +kernel
theorem dX9_sun_16 : decode cX9_sun 16 = .ok (.invokestatic 192, 3) := by decide +kernel
theorem dX9_sun_19 : decode cX9_sun 19 = .ok (.ireturn, 1) := by decide +kernel
theorem dX9_strikes_0 : decode cX9_strikes 0 = .ok (.iload_n 1, 1) := by decide +kernel
theorem dX9_strikes_1 : decode cX9_strikes 1 = .ok (.iload_n 2, 1) := by decide +kernel
theorem dX9_strikes_2 : decode cX9_strikes 2 = .ok (.invokestatic 197, 3) := by decide +kernel
theorem dX9_strikes_5 : decode cX9_strikes 5 = .ok (.ifCond .ne 5, 3) := by decide +kernel
theorem dX9_strikes_8 : decode cX9_strikes 8 = .ok (.iconst (-1), 1) := by decide +kernel
theorem dX9_strikes_9 : decode cX9_strikes 9 = .ok (.ireturn, 1) := by decide +kernel
theorem dX9_strikes_10 : decode cX9_strikes 10 = .ok (.iload_n 1, 1) := by decide +kernel
theorem dX9_strikes_11 : decode cX9_strikes 11 = .ok (.iload_n 2, 1) := by decide +kernel
theorem dX9_strikes_12 : decode cX9_strikes 12 = .ok (.isub, 1) := by decide +kernel
theorem dX9_strikes_13 : decode cX9_strikes 13 = .ok (.iload_n 1, 1) := by decide +kernel
theorem dX9_strikes_14 : decode cX9_strikes 14 = .ok (.iload_n 2, 1) := by decide +kernel
theorem dX9_strikes_15 : decode cX9_strikes 15 = .ok (.iadd, 1) := by decide +kernel
theorem dX9_strikes_16 : decode cX9_strikes 16 = .ok (.invokestatic 200, 3) := by decide +kernel
theorem dX9_strikes_19 : decode cX9_strikes 19 = .ok (.ireturn, 1) := by decide +kernel
theorem dX9_like_0 : decode cX9_like 0 = .ok (.iload_n 1, 1) := by decide +kernel
theorem dX9_like_1 : decode cX9_like 1 = .ok (.iload_n 2, 1) := by decide +kernel
theorem dX9_like_2 : decode cX9_like 2 = .ok (.invokestatic 197, 3) := by decide +kernel
theorem dX9_like_5 : decode cX9_like 5 = .ok (.ifCond .eq 11, 3) := by decide +kernel
theorem dX9_like_8 : decode cX9_like 8 = .ok (.iload_n 1, 1) := by decide +kernel
theorem dX9_like_9 : decode cX9_like 9 = .ok (.iload_n 3, 1) := by decide +kernel
theorem dX9_like_10 : decode cX9_like 10 = .ok (.invokestatic 197, 3) := by decide +kernel
theorem dX9_like_13 : decode cX9_like 13 = .ok (.ifCond .ne 7, 3) := by decide +kernel
theorem dX9_like_16 : decode cX9_like 16 = .ok (.sipush (-1000), 3) := by decide +kernel
theorem dX9_like_19 : decode cX9_like 19 = .ok (.ireturn, 1) := by decide +kernel
theorem dX9_like_20 : decode cX9_like 20 = .ok (.iload_n 1, 1) := by decide +kernel
theorem dX9_like_21 : decode cX9_like 21 = .ok (.iload_n 2, 1) := by decide +kernel
theorem dX9_like_22 : decode cX9_like 22 = .ok (.iload_n 3, 1) := by decide +kernel
theorem dX9_like_23 : decode cX9_like 23 = .ok (.invokestatic 203, 3) := by decide +kernel
theorem dX9_like_26 : decode cX9_like 26 = .ok (.ireturn, 1) := by decide +kernel
theorem dX9_count_0 : decode cX9_count 0 = .ok (.iload_n 1, 1) := by decide +kernel
theorem dX9_count_1 : decode cX9_count 1 = .ok (.tableswitch 193 0 10 #[59, 70, 81, 92, 103, 114, 125, 133, 166, 174, 182], 59) := by decide +kernel
theorem dX9_count_60 : decode cX9_count 60 = .ok (.aload_n 0, 1) := by decide +kernel
theorem dX9_count_61 : decode cX9_count 61 = .ok (.getfield 12, 3) := by decide +kernel
theorem dX9_count_64 : decode cX9_count 64 = .ok (.getfield 38, 3) := by decide +kernel
theorem dX9_count_67 : decode cX9_count 67 = .ok (.getfield 70, 3) := by decide +kernel
theorem dX9_count_70 : decode cX9_count 70 = .ok (.ireturn, 1) := by decide +kernel
theorem dX9_count_71 : decode cX9_count 71 = .ok (.aload_n 0, 1) := by decide +kernel
theorem dX9_count_72 : decode cX9_count 72 = .ok (.getfield 12, 3) := by decide +kernel
theorem dX9_count_75 : decode cX9_count 75 = .ok (.getfield 38, 3) := by decide +kernel
theorem dX9_count_78 : decode cX9_count 78 = .ok (.getfield 206, 3) := by decide +kernel
theorem dX9_count_81 : decode cX9_count 81 = .ok (.ireturn, 1) := by decide +kernel
theorem dX9_count_82 : decode cX9_count 82 = .ok (.aload_n 0, 1) := by decide +kernel
theorem dX9_count_83 : decode cX9_count 83 = .ok (.getfield 12, 3) := by decide +kernel
theorem dX9_count_86 : decode cX9_count 86 = .ok (.getfield 87, 3) := by decide +kernel
theorem dX9_count_89 : decode cX9_count 89 = .ok (.getfield 95, 3) := by decide +kernel
theorem dX9_count_92 : decode cX9_count 92 = .ok (.ireturn, 1) := by decide +kernel
theorem dX9_count_93 : decode cX9_count 93 = .ok (.aload_n 0, 1) := by decide +kernel
theorem dX9_count_94 : decode cX9_count 94 = .ok (.getfield 12, 3) := by decide +kernel
theorem dX9_count_97 : decode cX9_count 97 = .ok (.getfield 123, 3) := by decide +kernel
theorem dX9_count_100 : decode cX9_count 100 = .ok (.getfield 208, 3) := by decide +kernel
theorem dX9_count_103 : decode cX9_count 103 = .ok (.ireturn, 1) := by decide +kernel
theorem dX9_count_104 : decode cX9_count 104 = .ok (.aload_n 0, 1) := by decide +kernel
theorem dX9_count_105 : decode cX9_count 105 = .ok (.getfield 12, 3) := by decide +kernel
theorem dX9_count_108 : decode cX9_count 108 = .ok (.getfield 87, 3) := by decide +kernel
theorem dX9_count_111 : decode cX9_count 111 = .ok (.getfield 211, 3) := by decide +kernel
theorem dX9_count_114 : decode cX9_count 114 = .ok (.ireturn, 1) := by decide +kernel
theorem dX9_count_115 : decode cX9_count 115 = .ok (.aload_n 0, 1) := by decide +kernel
theorem dX9_count_116 : decode cX9_count 116 = .ok (.getfield 12, 3) := by decide +kernel
theorem dX9_count_119 : decode cX9_count 119 = .ok (.getfield 123, 3) := by decide +kernel
theorem dX9_count_122 : decode cX9_count 122 = .ok (.getfield 185, 3) := by decide +kernel
theorem dX9_count_125 : decode cX9_count 125 = .ok (.ireturn, 1) := by decide +kernel
theorem dX9_count_126 : decode cX9_count 126 = .ok (.aload_n 0, 1) := by decide +kernel
theorem dX9_count_127 : decode cX9_count 127 = .ok (.getfield 12, 3) := by decide +kernel
theorem dX9_count_130 : decode cX9_count 130 = .ok (.getfield 159, 3) := by decide +kernel
theorem dX9_count_133 : decode cX9_count 133 = .ok (.ireturn, 1) := by decide +kernel
theorem dX9_count_134 : decode cX9_count 134 = .ok (.aload_n 0, 1) := by decide +kernel
theorem dX9_count_135 : decode cX9_count 135 = .ok (.getfield 12, 3) := by decide +kernel
theorem dX9_count_138 : decode cX9_count 138 = .ok (.getfield 38, 3) := by decide +kernel
theorem dX9_count_141 : decode cX9_count 141 = .ok (.iconst 0, 1) := by decide +kernel
theorem dX9_count_142 : decode cX9_count 142 = .ok (.aload_n 0, 1) := by decide +kernel
theorem dX9_count_143 : decode cX9_count 143 = .ok (.getfield 12, 3) := by decide +kernel
theorem dX9_count_146 : decode cX9_count 146 = .ok (.getfield 38, 3) := by decide +kernel
theorem dX9_count_149 : decode cX9_count 149 = .ok (.getfield 70, 3) := by decide +kernel
theorem dX9_count_152 : decode cX9_count 152 = .ok (.iconst 0, 1) := by decide +kernel
theorem dX9_count_153 : decode cX9_count 153 = .ok (.aload_n 0, 1) := by decide +kernel
theorem dX9_count_154 : decode cX9_count 154 = .ok (.getfield 12, 3) := by decide +kernel
theorem dX9_count_157 : decode cX9_count 157 = .ok (.getfield 38, 3) := by decide +kernel
theorem dX9_count_160 : decode cX9_count 160 = .ok (.getfield 206, 3) := by decide +kernel
theorem dX9_count_163 : decode cX9_count 163 = .ok (.invokevirtual 214, 3) := by decide +kernel
theorem dX9_count_166 : decode cX9_count 166 = .ok (.ireturn, 1) := by decide +kernel
theorem dX9_count_167 : decode cX9_count 167 = .ok (.aload_n 0, 1) := by decide +kernel
theorem dX9_count_168 : decode cX9_count 168 = .ok (.getfield 12, 3) := by decide +kernel
theorem dX9_count_171 : decode cX9_count 171 = .ok (.getfield 77, 3) := by decide +kernel
theorem dX9_count_174 : decode cX9_count 174 = .ok (.ireturn, 1) := by decide +kernel
theorem dX9_count_175 : decode cX9_count 175 = .ok (.aload_n 0, 1) := by decide +kernel
theorem dX9_count_176 : decode cX9_count 176 = .ok (.getfield 12, 3) := by decide +kernel
theorem dX9_count_179 : decode cX9_count 179 = .ok (.getfield 80, 3) := by decide +kernel
theorem dX9_count_182 : decode cX9_count 182 = .ok (.ireturn, 1) := by decide +kernel
theorem dX9_count_183 : decode cX9_count 183 = .ok (.aload_n 0, 1) := by decide +kernel
theorem dX9_count_184 : decode cX9_count 184 = .ok (.getfield 12, 3) := by decide +kernel
theorem dX9_count_187 : decode cX9_count 187 = .ok (.getfield 173, 3) := by decide +kernel
theorem dX9_count_190 : decode cX9_count 190 = .ok (.getfield 177, 3) := by decide +kernel
theorem dX9_count_193 : decode cX9_count 193 = .ok (.ireturn, 1) := by decide +kernel
theorem dX9_count_194 : decode cX9_count 194 = .ok (.iconst (-1), 1) := by decide +kernel
theorem dX9_count_195 : decode cX9_count 195 = .ok (.ireturn, 1) := by decide +kernel
theorem dX9_image_0 : decode cX9_image 0 = .ok (.iload_n 1, 1) := by decide +kernel
theorem dX9_image_1 : decode cX9_image 1 = .ok (.iconst 0, 1) := by decide +kernel
theorem dX9_image_2 : decode cX9_image 2 = .ok (.iconst 2, 1) := by decide +kernel
theorem dX9_image_3 : decode cX9_image 3 = .ok (.invokestatic 34, 3) := by decide +kernel
theorem dX9_image_6 : decode cX9_image 6 = .ok (.ifCond .ne 5, 3) := by decide +kernel
theorem dX9_image_9 : decode cX9_image 9 = .ok (.iconst 0, 1) := by decide +kernel
theorem dX9_image_10 : decode cX9_image 10 = .ok (.ireturn, 1) := by decide +kernel
theorem dX9_image_11 : decode cX9_image 11 = .ok (.aload_n 0, 1) := by decide +kernel
theorem dX9_image_12 : decode cX9_image 12 = .ok (.getfield 30, 3) := by decide +kernel
theorem dX9_image_15 : decode cX9_image 15 = .ok (.iload_n 1, 1) := by decide +kernel
theorem dX9_image_16 : decode cX9_image 16 = .ok (.aaload, 1) := by decide +kernel
theorem dX9_image_17 : decode cX9_image 17 = .ok (.ifnonnull 16, 3) := by decide +kernel
theorem dX9_image_20 : decode cX9_image 20 = .ok (.aload_n 0, 1) := by decide +kernel
theorem dX9_image_21 : decode cX9_image 21 = .ok (.getfield 30, 3) := by decide +kernel
theorem dX9_image_24 : decode cX9_image 24 = .ok (.iload_n 1, 1) := by decide +kernel
theorem dX9_image_25 : decode cX9_image 25 = .ok (.new 9, 3) := by decide +kernel
theorem dX9_image_28 : decode cX9_image 28 = .ok (.dup, 1) := by decide +kernel
theorem dX9_image_29 : decode cX9_image 29 = .ok (.invokespecial 11, 3) := by decide +kernel
theorem dX9_image_32 : decode cX9_image 32 = .ok (.aastore, 1) := by decide +kernel
theorem dX9_image_33 : decode cX9_image 33 = .ok (.aload_n 0, 1) := by decide +kernel
theorem dX9_image_34 : decode cX9_image 34 = .ok (.getfield 30, 3) := by decide +kernel
theorem dX9_image_37 : decode cX9_image 37 = .ok (.iload_n 1, 1) := by decide +kernel
theorem dX9_image_38 : decode cX9_image 38 = .ok (.aaload, 1) := by decide +kernel
theorem dX9_image_39 : decode cX9_image 39 = .ok (.aload_n 0, 1) := by decide +kernel
theorem dX9_image_40 : decode cX9_image 40 = .ok (.getfield 12, 3) := by decide +kernel
theorem dX9_image_43 : decode cX9_image 43 = .ok (.invokevirtual 217, 3) := by decide +kernel
theorem dX9_image_46 : decode cX9_image 46 = .ok (.iconst 1, 1) := by decide +kernel
theorem dX9_image_47 : decode cX9_image 47 = .ok (.ireturn, 1) := by decide +kernel
theorem dX9_again_0 : decode cX9_again 0 = .ok (.iload_n 1, 1) := by decide +kernel
theorem dX9_again_1 : decode cX9_again 1 = .ok (.iconst 0, 1) := by decide +kernel
theorem dX9_again_2 : decode cX9_again 2 = .ok (.iconst 2, 1) := by decide +kernel
theorem dX9_again_3 : decode cX9_again 3 = .ok (.invokestatic 34, 3) := by decide +kernel
theorem dX9_again_6 : decode cX9_again 6 = .ok (.ifCond .eq 12, 3) := by decide +kernel
theorem dX9_again_9 : decode cX9_again 9 = .ok (.aload_n 0, 1) := by decide +kernel
theorem dX9_again_10 : decode cX9_again 10 = .ok (.getfield 30, 3) := by decide +kernel
theorem dX9_again_13 : decode cX9_again 13 = .ok (.iload_n 1, 1) := by decide +kernel
theorem dX9_again_14 : decode cX9_again 14 = .ok (.aaload, 1) := by decide +kernel
theorem dX9_again_15 : decode cX9_again 15 = .ok (.ifnonnull 5, 3) := by decide +kernel
theorem dX9_again_18 : decode cX9_again 18 = .ok (.iconst 0, 1) := by decide +kernel
theorem dX9_again_19 : decode cX9_again 19 = .ok (.ireturn, 1) := by decide +kernel
theorem dX9_again_20 : decode cX9_again 20 = .ok (.aload_n 0, 1) := by decide +kernel
theorem dX9_again_21 : decode cX9_again 21 = .ok (.getfield 12, 3) := by decide +kernel
theorem dX9_again_24 : decode cX9_again 24 = .ok (.aload_n 0, 1) := by decide +kernel
theorem dX9_again_25 : decode cX9_again 25 = .ok (.getfield 30, 3) := by decide +kernel
theorem dX9_again_28 : decode cX9_again 28 = .ok (.iload_n 1, 1) := by decide +kernel
theorem dX9_again_29 : decode cX9_again 29 = .ok (.aaload, 1) := by decide +kernel
theorem dX9_again_30 : decode cX9_again 30 = .ok (.invokevirtual 217, 3) := by decide +kernel
theorem dX9_again_33 : decode cX9_again 33 = .ok (.iconst 1, 1) := by decide +kernel
theorem dX9_again_34 : decode cX9_again 34 = .ok (.ireturn, 1) := by decide +kernel
theorem dX9_within_0 : decode cX9_within 0 = .ok (.iload_n 0, 1) := by decide +kernel
theorem dX9_within_1 : decode cX9_within 1 = .ok (.iload_n 1, 1) := by decide +kernel
theorem dX9_within_2 : decode cX9_within 2 = .ok (.if_icmp .lt 12, 3) := by decide +kernel
theorem dX9_within_5 : decode cX9_within 5 = .ok (.iload_n 0, 1) := by decide +kernel
theorem dX9_within_6 : decode cX9_within 6 = .ok (.iload_n 2, 1) := by decide +kernel
theorem dX9_within_7 : decode cX9_within 7 = .ok (.if_icmp .gt 7, 3) := by decide +kernel
theorem dX9_within_10 : decode cX9_within 10 = .ok (.iconst 1, 1) := by decide +kernel
theorem dX9_within_11 : decode cX9_within 11 = .ok (.goto 4, 3) := by decide +kernel
theorem dX9_within_14 : decode cX9_within 14 = .ok (.iconst 0, 1) := by decide +kernel
theorem dX9_within_15 : decode cX9_within 15 = .ok (.ireturn, 1) := by decide +kernel
theorem dX9_place_0 : decode cX9_place 0 = .ok (.iload_n 1, 1) := by decide +kernel
theorem dX9_place_1 : decode cX9_place 1 = .ok (.bipush 8, 2) := by decide +kernel
theorem dX9_place_3 : decode cX9_place 3 = .ok (.imul, 1) := by decide +kernel
theorem dX9_place_4 : decode cX9_place 4 = .ok (.iload_n 0, 1) := by decide +kernel
theorem dX9_place_5 : decode cX9_place 5 = .ok (.iadd, 1) := by decide +kernel
theorem dX9_place_6 : decode cX9_place 6 = .ok (.ireturn, 1) := by decide +kernel
theorem dX9_halfByte_0 : decode cX9_halfByte 0 = .ok (.iload_n 0, 1) := by decide +kernel
theorem dX9_halfByte_1 : decode cX9_halfByte 1 = .ok (.iconst 4, 1) := by decide +kernel
theorem dX9_halfByte_2 : decode cX9_halfByte 2 = .ok (.bipush 7, 2) := by decide +kernel
theorem dX9_halfByte_4 : decode cX9_halfByte 4 = .ok (.iload_n 1, 1) := by decide +kernel
theorem dX9_halfByte_5 : decode cX9_halfByte 5 = .ok (.isub, 1) := by decide +kernel
theorem dX9_halfByte_6 : decode cX9_halfByte 6 = .ok (.imul, 1) := by decide +kernel
theorem dX9_halfByte_7 : decode cX9_halfByte 7 = .ok (.iushr, 1) := by decide +kernel
theorem dX9_halfByte_8 : decode cX9_halfByte 8 = .ok (.bipush 15, 2) := by decide +kernel
theorem dX9_halfByte_10 : decode cX9_halfByte 10 = .ok (.iand, 1) := by decide +kernel
theorem dX9_halfByte_11 : decode cX9_halfByte 11 = .ok (.ireturn, 1) := by decide +kernel
theorem dX9_areMotifs_0 : decode cX9_areMotifs 0 = .ok (.iconst 0, 1) := by decide +kernel
theorem dX9_areMotifs_1 : decode cX9_areMotifs 1 = .ok (.istore_n 1, 1) := by decide +kernel
theorem dX9_areMotifs_2 : decode cX9_areMotifs 2 = .ok (.iload_n 1, 1) := by decide +kernel
theorem dX9_areMotifs_3 : decode cX9_areMotifs 3 = .ok (.bipush 8, 2) := by decide +kernel
theorem dX9_areMotifs_5 : decode cX9_areMotifs 5 = .ok (.if_icmp .ge 21, 3) := by decide +kernel
theorem dX9_areMotifs_8 : decode cX9_areMotifs 8 = .ok (.iload_n 0, 1) := by decide +kernel
theorem dX9_areMotifs_9 : decode cX9_areMotifs 9 = .ok (.iload_n 1, 1) := by decide +kernel
theorem dX9_areMotifs_10 : decode cX9_areMotifs 10 = .ok (.invokestatic 74, 3) := by decide +kernel
theorem dX9_areMotifs_13 : decode cX9_areMotifs 13 = .ok (.bipush 9, 2) := by decide +kernel
theorem dX9_areMotifs_15 : decode cX9_areMotifs 15 = .ok (.if_icmp .le 5, 3) := by decide +kernel
theorem dX9_areMotifs_18 : decode cX9_areMotifs 18 = .ok (.iconst 0, 1) := by decide +kernel
theorem dX9_areMotifs_19 : decode cX9_areMotifs 19 = .ok (.ireturn, 1) := by decide +kernel
theorem dX9_areMotifs_20 : decode cX9_areMotifs 20 = .ok (.iinc 1 1, 3) := by decide +kernel
theorem dX9_areMotifs_23 : decode cX9_areMotifs 23 = .ok (.goto (-21), 3) := by decide +kernel
theorem dX9_areMotifs_26 : decode cX9_areMotifs 26 = .ok (.iconst 1, 1) := by decide +kernel
theorem dX9_areMotifs_27 : decode cX9_areMotifs 27 = .ok (.ireturn, 1) := by decide +kernel
theorem dX9_isPlace_0 : decode cX9_isPlace 0 = .ok (.iload_n 0, 1) := by decide +kernel
theorem dX9_isPlace_1 : decode cX9_isPlace 1 = .ok (.sipush (-400), 3) := by decide +kernel
theorem dX9_isPlace_4 : decode cX9_isPlace 4 = .ok (.sipush 400, 3) := by decide +kernel
theorem dX9_isPlace_7 : decode cX9_isPlace 7 = .ok (.invokestatic 34, 3) := by decide +kernel
theorem dX9_isPlace_10 : decode cX9_isPlace 10 = .ok (.ifCond .eq 18, 3) := by decide +kernel
theorem dX9_isPlace_13 : decode cX9_isPlace 13 = .ok (.iload_n 1, 1) := by decide +kernel
theorem dX9_isPlace_14 : decode cX9_isPlace 14 = .ok (.iconst 0, 1) := by decide +kernel
theorem dX9_isPlace_15 : decode cX9_isPlace 15 = .ok (.sipush 400, 3) := by decide +kernel
theorem dX9_isPlace_18 : decode cX9_isPlace 18 = .ok (.invokestatic 34, 3) := by decide +kernel
theorem dX9_isPlace_21 : decode cX9_isPlace 21 = .ok (.ifCond .eq 7, 3) := by decide +kernel
theorem dX9_isPlace_24 : decode cX9_isPlace 24 = .ok (.iconst 1, 1) := by decide +kernel
theorem dX9_isPlace_25 : decode cX9_isPlace 25 = .ok (.goto 4, 3) := by decide +kernel
theorem dX9_isPlace_28 : decode cX9_isPlace 28 = .ok (.iconst 0, 1) := by decide +kernel
theorem dX9_isPlace_29 : decode cX9_isPlace 29 = .ok (.ireturn, 1) := by decide +kernel
theorem dX9_copyRow_0 : decode cX9_copyRow 0 = .ok (.aload_n 0, 1) := by decide +kernel
theorem dX9_copyRow_1 : decode cX9_copyRow 1 = .ok (.iconst 0, 1) := by decide +kernel
theorem dX9_copyRow_2 : decode cX9_copyRow 2 = .ok (.aload_n 1, 1) := by decide +kernel
theorem dX9_copyRow_3 : decode cX9_copyRow 3 = .ok (.iconst 0, 1) := by decide +kernel
theorem dX9_copyRow_4 : decode cX9_copyRow 4 = .ok (.aload_n 0, 1) := by decide +kernel
theorem dX9_copyRow_5 : decode cX9_copyRow 5 = .ok (.arraylength, 1) := by decide +kernel
theorem dX9_copyRow_6 : decode cX9_copyRow 6 = .ok (.aload_n 1, 1) := by decide +kernel
theorem dX9_copyRow_7 : decode cX9_copyRow 7 = .ok (.arraylength, 1) := by decide +kernel
theorem dX9_copyRow_8 : decode cX9_copyRow 8 = .ok (.invokestatic 221, 3) := by decide +kernel
theorem dX9_copyRow_11 : decode cX9_copyRow 11 = .ok (.invokestatic 226, 3) := by decide +kernel
theorem dX9_copyRow_14 : decode cX9_copyRow 14 = .ok (.return_, 1) := by decide +kernel
theorem dX10_init_0 : decode cX10_init 0 = .ok (.aload_n 0, 1) := by decide +kernel
theorem dX10_init_1 : decode cX10_init 1 = .ok (.invokespecial 1, 3) := by decide +kernel
theorem dX10_init_4 : decode cX10_init 4 = .ok (.aload_n 0, 1) := by decide +kernel
theorem dX10_init_5 : decode cX10_init 5 = .ok (.sipush 3320, 3) := by decide +kernel
theorem dX10_init_8 : decode cX10_init 8 = .ok (.newarray .int, 2) := by decide +kernel
theorem dX10_init_10 : decode cX10_init 10 = .ok (.putfield 7, 3) := by decide +kernel
theorem dX10_init_13 : decode cX10_init 13 = .ok (.aload_n 0, 1) := by decide +kernel
theorem dX10_init_14 : decode cX10_init 14 = .ok (.iconst 3, 1) := by decide +kernel
theorem dX10_init_15 : decode cX10_init 15 = .ok (.newarray .boolean, 2) := by decide +kernel
theorem dX10_init_17 : decode cX10_init 17 = .ok (.putfield 13, 3) := by decide +kernel
theorem dX10_init_20 : decode cX10_init 20 = .ok (.aload_n 0, 1) := by decide +kernel
theorem dX10_init_21 : decode cX10_init 21 = .ok (.sipush 4096, 3) := by decide +kernel
theorem dX10_init_24 : decode cX10_init 24 = .ok (.newarray .int, 2) := by decide +kernel
theorem dX10_init_26 : decode cX10_init 26 = .ok (.putfield 17, 3) := by decide +kernel
theorem dX10_init_29 : decode cX10_init 29 = .ok (.aload_n 0, 1) := by decide +kernel
theorem dX10_init_30 : decode cX10_init 30 = .ok (.sipush 4096, 3) := by decide +kernel
theorem dX10_init_33 : decode cX10_init 33 = .ok (.newarray .int, 2) := by decide +kernel
theorem dX10_init_35 : decode cX10_init 35 = .ok (.putfield 20, 3) := by decide +kernel
theorem dX10_init_38 : decode cX10_init 38 = .ok (.aload_n 0, 1) := by decide +kernel
theorem dX10_init_39 : decode cX10_init 39 = .ok (.sipush 4096, 3) := by decide +kernel
theorem dX10_init_42 : decode cX10_init 42 = .ok (.newarray .int, 2) := by decide +kernel
theorem dX10_init_44 : decode cX10_init 44 = .ok (.putfield 23, 3) := by decide +kernel
theorem dX10_init_47 : decode cX10_init 47 = .ok (.aload_n 0, 1) := by decide +kernel
theorem dX10_init_48 : decode cX10_init 48 = .ok (.sipush 256, 3) := by decide +kernel
theorem dX10_init_51 : decode cX10_init 51 = .ok (.newarray .int, 2) := by decide +kernel
theorem dX10_init_53 : decode cX10_init 53 = .ok (.putfield 26, 3) := by decide +kernel
theorem dX10_init_56 : decode cX10_init 56 = .ok (.aload_n 0, 1) := by decide +kernel
theorem dX10_init_57 : decode cX10_init 57 = .ok (.bipush 64, 2) := by decide +kernel
theorem dX10_init_59 : decode cX10_init 59 = .ok (.newarray .int, 2) := by decide +kernel
theorem dX10_init_61 : decode cX10_init 61 = .ok (.putfield 29, 3) := by decide +kernel
theorem dX10_init_64 : decode cX10_init 64 = .ok (.aload_n 0, 1) := by decide +kernel
theorem dX10_init_65 : decode cX10_init 65 = .ok (.bipush 64, 2) := by decide +kernel
theorem dX10_init_67 : decode cX10_init 67 = .ok (.newarray .boolean, 2) := by decide +kernel
theorem dX10_init_69 : decode cX10_init 69 = .ok (.putfield 32, 3) := by decide +kernel
theorem dX10_init_72 : decode cX10_init 72 = .ok (.aload_n 0, 1) := by decide +kernel
theorem dX10_init_73 : decode cX10_init 73 = .ok (.getfield 7, 3) := by decide +kernel
theorem dX10_init_76 : decode cX10_init 76 = .ok (.iconst 2, 1) := by decide +kernel
theorem dX10_init_77 : decode cX10_init 77 = .ok (.bipush 40, 2) := by decide +kernel
theorem dX10_init_79 : decode cX10_init 79 = .ok (.iastore, 1) := by decide +kernel
theorem dX10_init_80 : decode cX10_init 80 = .ok (.aload_n 0, 1) := by decide +kernel
theorem dX10_init_81 : decode cX10_init 81 = .ok (.getfield 7, 3) := by decide +kernel
theorem dX10_init_84 : decode cX10_init 84 = .ok (.iconst 3, 1) := by decide +kernel
theorem dX10_init_85 : decode cX10_init 85 = .ok (.iconst 1, 1) := by decide +kernel
theorem dX10_init_86 : decode cX10_init 86 = .ok (.iastore, 1) := by decide +kernel
theorem dX10_init_87 : decode cX10_init 87 = .ok (.aload_n 0, 1) := by decide +kernel
theorem dX10_init_88 : decode cX10_init 88 = .ok (.iconst 4, 1) := by decide +kernel
theorem dX10_init_89 : decode cX10_init 89 = .ok (.iconst 4, 1) := by decide +kernel
theorem dX10_init_90 : decode cX10_init 90 = .ok (.invokevirtual 35, 3) := by decide +kernel
theorem dX10_init_93 : decode cX10_init 93 = .ok (.return_, 1) := by decide +kernel
theorem dX10_isIn_0 : decode cX10_isIn 0 = .ok (.iload_n 0, 1) := by decide +kernel
theorem dX10_isIn_1 : decode cX10_isIn 1 = .ok (.iload_n 1, 1) := by decide +kernel
theorem dX10_isIn_2 : decode cX10_isIn 2 = .ok (.if_icmp .lt 12, 3) := by decide +kernel
theorem dX10_isIn_5 : decode cX10_isIn 5 = .ok (.iload_n 0, 1) := by decide +kernel
theorem dX10_isIn_6 : decode cX10_isIn 6 = .ok (.iload_n 2, 1) := by decide +kernel
theorem dX10_isIn_7 : decode cX10_isIn 7 = .ok (.if_icmp .gt 7, 3) := by decide +kernel
theorem dX10_isIn_10 : decode cX10_isIn 10 = .ok (.iconst 1, 1) := by decide +kernel
theorem dX10_isIn_11 : decode cX10_isIn 11 = .ok (.goto 4, 3) := by decide +kernel
theorem dX10_isIn_14 : decode cX10_isIn 14 = .ok (.iconst 0, 1) := by decide +kernel
theorem dX10_isIn_15 : decode cX10_isIn 15 = .ok (.ireturn, 1) := by decide +kernel
theorem dX10_noPlan_0 : decode cX10_noPlan 0 = .ok (.aload_n 0, 1) := by decide +kernel
theorem dX10_noPlan_1 : decode cX10_noPlan 1 = .ok (.getfield 7, 3) := by decide +kernel
theorem dX10_noPlan_4 : decode cX10_noPlan 4 = .ok (.iconst 5, 1) := by decide +kernel
theorem dX10_noPlan_5 : decode cX10_noPlan 5 = .ok (.iconst 0, 1) := by decide +kernel
theorem dX10_noPlan_6 : decode cX10_noPlan 6 = .ok (.iastore, 1) := by decide +kernel
theorem dX10_noPlan_7 : decode cX10_noPlan 7 = .ok (.aload_n 0, 1) := by decide +kernel
theorem dX10_noPlan_8 : decode cX10_noPlan 8 = .ok (.getfield 7, 3) := by decide +kernel
theorem dX10_noPlan_11 : decode cX10_noPlan 11 = .ok (.bipush 6, 2) := by decide +kernel
theorem dX10_noPlan_13 : decode cX10_noPlan 13 = .ok (.iconst 0, 1) := by decide +kernel
theorem dX10_noPlan_14 : decode cX10_noPlan 14 = .ok (.iastore, 1) := by decide +kernel
theorem dX10_noPlan_15 : decode cX10_noPlan 15 = .ok (.aload_n 0, 1) := by decide +kernel
theorem dX10_noPlan_16 : decode cX10_noPlan 16 = .ok (.getfield 7, 3) := by decide +kernel
theorem dX10_noPlan_19 : decode cX10_noPlan 19 = .ok (.bipush 7, 2) := by decide +kernel
theorem dX10_noPlan_21 : decode cX10_noPlan 21 = .ok (.iconst 0, 1) := by decide +kernel
theorem dX10_noPlan_22 : decode cX10_noPlan 22 = .ok (.iastore, 1) := by decide +kernel
theorem dX10_noPlan_23 : decode cX10_noPlan 23 = .ok (.aload_n 0, 1) := by decide +kernel
theorem dX10_noPlan_24 : decode cX10_noPlan 24 = .ok (.getfield 7, 3) := by decide +kernel
theorem dX10_noPlan_27 : decode cX10_noPlan 27 = .ok (.bipush 8, 2) := by decide +kernel
theorem dX10_noPlan_29 : decode cX10_noPlan 29 = .ok (.iconst 0, 1) := by decide +kernel
theorem dX10_noPlan_30 : decode cX10_noPlan 30 = .ok (.iastore, 1) := by decide +kernel
theorem dX10_noPlan_31 : decode cX10_noPlan 31 = .ok (.return_, 1) := by decide +kernel
theorem dX10_begins_0 : decode cX10_begins 0 = .ok (.aload_n 0, 1) := by decide +kernel
theorem dX10_begins_1 : decode cX10_begins 1 = .ok (.getfield 7, 3) := by decide +kernel
theorem dX10_begins_4 : decode cX10_begins 4 = .ok (.iconst 0, 1) := by decide +kernel
theorem dX10_begins_5 : decode cX10_begins 5 = .ok (.iload_n 1, 1) := by decide +kernel
theorem dX10_begins_6 : decode cX10_begins 6 = .ok (.iastore, 1) := by decide +kernel
theorem dX10_begins_7 : decode cX10_begins 7 = .ok (.aload_n 0, 1) := by decide +kernel
theorem dX10_begins_8 : decode cX10_begins 8 = .ok (.getfield 7, 3) := by decide +kernel
theorem dX10_begins_11 : decode cX10_begins 11 = .ok (.iconst 1, 1) := by decide +kernel
theorem dX10_begins_12 : decode cX10_begins 12 = .ok (.iload_n 2, 1) := by decide +kernel
theorem dX10_begins_13 : decode cX10_begins 13 = .ok (.iastore, 1) := by decide +kernel
theorem dX10_begins_14 : decode cX10_begins 14 = .ok (.iconst 0, 1) := by decide +kernel
theorem dX10_begins_15 : decode cX10_begins 15 = .ok (.istore_n 3, 1) := by decide +kernel
theorem dX10_begins_16 : decode cX10_begins 16 = .ok (.iload_n 3, 1) := by decide +kernel
theorem dX10_begins_17 : decode cX10_begins 17 = .ok (.bipush 64, 2) := by decide +kernel
theorem dX10_begins_19 : decode cX10_begins 19 = .ok (.if_icmp .ge 30, 3) := by decide +kernel
theorem dX10_begins_22 : decode cX10_begins 22 = .ok (.aload_n 0, 1) := by decide +kernel
theorem dX10_begins_23 : decode cX10_begins 23 = .ok (.getfield 7, 3) := by decide +kernel
theorem dX10_begins_26 : decode cX10_begins 26 = .ok (.bipush 30, 2) := by decide +kernel
theorem dX10_begins_28 : decode cX10_begins 28 = .ok (.iload_n 3, 1) := by decide +kernel
theorem dX10_begins_29 : decode cX10_begins 29 = .ok (.iadd, 1) := by decide +kernel
theorem dX10_begins_30 : decode cX10_begins 30 = .ok (.bipush 10, 2) := by decide +kernel
theorem dX10_begins_32 : decode cX10_begins 32 = .ok (.iastore, 1) := by decide +kernel
theorem dX10_begins_33 : decode cX10_begins 33 = .ok (.aload_n 0, 1) := by decide +kernel
theorem dX10_begins_34 : decode cX10_begins 34 = .ok (.getfield 7, 3) := by decide +kernel
theorem dX10_begins_37 : decode cX10_begins 37 = .ok (.bipush 100, 2) := by decide +kernel
theorem dX10_begins_39 : decode cX10_begins 39 = .ok (.iload_n 3, 1) := by decide +kernel
theorem dX10_begins_40 : decode cX10_begins 40 = .ok (.iadd, 1) := by decide +kernel
theorem dX10_begins_41 : decode cX10_begins 41 = .ok (.iconst 0, 1) := by decide +kernel
theorem dX10_begins_42 : decode cX10_begins 42 = .ok (.iastore, 1) := by decide +kernel
theorem dX10_begins_43 : decode cX10_begins 43 = .ok (.iinc 3 1, 3) := by decide +kernel
theorem dX10_begins_46 : decode cX10_begins 46 = .ok (.goto (-30), 3) := by decide +kernel
theorem dX10_begins_49 : decode cX10_begins 49 = .ok (.aload_n 0, 1) := by decide +kernel
theorem dX10_begins_50 : decode cX10_begins 50 = .ok (.invokevirtual 39, 3) := by decide +kernel
theorem dX10_begins_53 : decode cX10_begins 53 = .ok (.return_, 1) := by decide +kernel
theorem dX10_wall_0 : decode cX10_wall 0 = .ok (.iload_n 1, 1) := by decide +kernel
theorem dX10_wall_1 : decode cX10_wall 1 = .ok (.iconst 1, 1) := by decide +kernel
theorem dX10_wall_2 : decode cX10_wall 2 = .ok (.bipush 8, 2) := by decide +kernel
theorem dX10_wall_4 : decode cX10_wall 4 = .ok (.invokestatic 42, 3) := by decide +kernel
theorem dX10_wall_7 : decode cX10_wall 7 = .ok (.ifCond .eq 13, 3) := by decide +kernel
theorem dX10_wall_10 : decode cX10_wall 10 = .ok (.iload_n 2, 1) := by decide +kernel
theorem dX10_wall_11 : decode cX10_wall 11 = .ok (.iconst 1, 1) := by decide +kernel
theorem dX10_wall_12 : decode cX10_wall 12 = .ok (.bipush 8, 2) := by decide +kernel
theorem dX10_wall_14 : decode cX10_wall 14 = .ok (.invokestatic 42, 3) := by decide +kernel
theorem dX10_wall_17 : decode cX10_wall 17 = .ok (.ifCond .ne 5, 3) := by decide +kernel
theorem dX10_wall_20 : decode cX10_wall 20 = .ok (.iconst 0, 1) := by decide +kernel
theorem dX10_wall_21 : decode cX10_wall 21 = .ok (.ireturn, 1) := by decide +kernel
theorem dX10_wall_22 : decode cX10_wall 22 = .ok (.aload_n 0, 1) := by decide +kernel
theorem dX10_wall_23 : decode cX10_wall 23 = .ok (.iload_n 1, 1) := by decide +kernel
theorem dX10_wall_24 : decode cX10_wall 24 = .ok (.iload_n 2, 1) := by decide +kernel
theorem dX10_wall_25 : decode cX10_wall 25 = .ok (.invokevirtual 35, 3) := by decide +kernel
theorem dX10_wall_28 : decode cX10_wall 28 = .ok (.iconst 1, 1) := by decide +kernel
theorem dX10_wall_29 : decode cX10_wall 29 = .ok (.ireturn, 1) := by decide +kernel
theorem dX10_isCell_0 : decode cX10_isCell 0 = .ok (.iload_n 1, 1) := by decide +kernel
theorem dX10_isCell_1 : decode cX10_isCell 1 = .ok (.iconst 0, 1) := by decide +kernel
theorem dX10_isCell_2 : decode cX10_isCell 2 = .ok (.aload_n 0, 1) := by decide +kernel
theorem dX10_isCell_3 : decode cX10_isCell 3 = .ok (.getfield 7, 3) := by decide +kernel
theorem dX10_isCell_6 : decode cX10_isCell 6 = .ok (.iconst 0, 1) := by decide +kernel
theorem dX10_isCell_7 : decode cX10_isCell 7 = .ok (.iaload, 1) := by decide +kernel
theorem dX10_isCell_8 : decode cX10_isCell 8 = .ok (.iconst 1, 1) := by decide +kernel
theorem dX10_isCell_9 : decode cX10_isCell 9 = .ok (.isub, 1) := by decide +kernel
theorem dX10_isCell_10 : decode cX10_isCell 10 = .ok (.invokestatic 42, 3) := by decide +kernel
theorem dX10_isCell_13 : decode cX10_isCell 13 = .ok (.ifCond .eq 23, 3) := by decide +kernel
theorem dX10_isCell_16 : decode cX10_isCell 16 = .ok (.iload_n 2, 1) := by decide +kernel
theorem dX10_isCell_17 : decode cX10_isCell 17 = .ok (.iconst 0, 1) := by decide +kernel
theorem dX10_isCell_18 : decode cX10_isCell 18 = .ok (.aload_n 0, 1) := by decide +kernel
