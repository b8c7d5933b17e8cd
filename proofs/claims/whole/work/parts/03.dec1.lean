theorem dX4_findBars_16 : decode cX4_findBars 16 = .ok (.iconst 0, 1) := by decide +kernel
theorem dX4_findBars_17 : decode cX4_findBars 17 = .ok (.istore_n 2, 1) := by decide +kernel
theorem dX4_findBars_18 : decode cX4_findBars 18 = .ok (.iload_n 2, 1) := by decide +kernel
theorem dX4_findBars_19 : decode cX4_findBars 19 = .ok (.aload_n 1, 1) := by decide +kernel
theorem dX4_findBars_20 : decode cX4_findBars 20 = .ok (.getfield 40, 3) := by decide +kernel
theorem dX4_findBars_23 : decode cX4_findBars 23 = .ok (.if_icmp .ge 32, 3) := by decide +kernel
theorem dX4_findBars_26 : decode cX4_findBars 26 = .ok (.iconst 0, 1) := by decide +kernel
theorem dX4_findBars_27 : decode cX4_findBars 27 = .ok (.istore_n 3, 1) := by decide +kernel
theorem dX4_findBars_28 : decode cX4_findBars 28 = .ok (.iload_n 3, 1) := by decide +kernel
theorem dX4_findBars_29 : decode cX4_findBars 29 = .ok (.aload_n 1, 1) := by decide +kernel
theorem dX4_findBars_30 : decode cX4_findBars 30 = .ok (.getfield 35, 3) := by decide +kernel
theorem dX4_findBars_33 : decode cX4_findBars 33 = .ok (.if_icmp .ge 16, 3) := by decide +kernel
theorem dX4_findBars_36 : decode cX4_findBars 36 = .ok (.aload_n 0, 1) := by decide +kernel
theorem dX4_findBars_37 : decode cX4_findBars 37 = .ok (.aload_n 1, 1) := by decide +kernel
theorem dX4_findBars_38 : decode cX4_findBars 38 = .ok (.iload_n 3, 1) := by decide +kernel
theorem dX4_findBars_39 : decode cX4_findBars 39 = .ok (.iload_n 2, 1) := by decide +kernel
theorem dX4_findBars_40 : decode cX4_findBars 40 = .ok (.invokevirtual 110, 3) := by decide +kernel
theorem dX4_findBars_43 : decode cX4_findBars 43 = .ok (.iinc 3 1, 3) := by decide +kernel
theorem dX4_findBars_46 : decode cX4_findBars 46 = .ok (.goto (-18), 3) := by decide +kernel
theorem dX4_findBars_49 : decode cX4_findBars 49 = .ok (.iinc 2 1, 3) := by decide +kernel
theorem dX4_findBars_52 : decode cX4_findBars 52 = .ok (.goto (-34), 3) := by decide +kernel
theorem dX4_findBars_55 : decode cX4_findBars 55 = .ok (.return_, 1) := by decide +kernel
theorem dX4_findBarsOf_0 : decode cX4_findBarsOf 0 = .ok (.iload_n 2, 1) := by decide +kernel
theorem dX4_findBarsOf_1 : decode cX4_findBarsOf 1 = .ok (.iload_n 3, 1) := by decide +kernel
theorem dX4_findBarsOf_2 : decode cX4_findBarsOf 2 = .ok (.invokestatic 97, 3) := by decide +kernel
theorem dX4_findBarsOf_5 : decode cX4_findBarsOf 5 = .ok (.istore 4, 2) := by decide +kernel
theorem dX4_findBarsOf_7 : decode cX4_findBarsOf 7 = .ok (.aload_n 1, 1) := by decide +kernel
theorem dX4_findBarsOf_8 : decode cX4_findBarsOf 8 = .ok (.iload_n 2, 1) := by decide +kernel
theorem dX4_findBarsOf_9 : decode cX4_findBarsOf 9 = .ok (.iconst 1, 1) := by decide +kernel
theorem dX4_findBarsOf_10 : decode cX4_findBarsOf 10 = .ok (.iadd, 1) := by decide +kernel
theorem dX4_findBarsOf_11 : decode cX4_findBarsOf 11 = .ok (.iload_n 3, 1) := by decide +kernel
theorem dX4_findBarsOf_12 : decode cX4_findBarsOf 12 = .ok (.invokevirtual 114, 3) := by decide +kernel
theorem dX4_findBarsOf_15 : decode cX4_findBarsOf 15 = .ok (.ifCond .eq 31, 3) := by decide +kernel
theorem dX4_findBarsOf_18 : decode cX4_findBarsOf 18 = .ok (.aload_n 1, 1) := by decide +kernel
theorem dX4_findBarsOf_19 : decode cX4_findBarsOf 19 = .ok (.iload 4, 2) := by decide +kernel
theorem dX4_findBarsOf_21 : decode cX4_findBarsOf 21 = .ok (.iload_n 2, 1) := by decide +kernel
theorem dX4_findBarsOf_22 : decode cX4_findBarsOf 22 = .ok (.iconst 1, 1) := by decide +kernel
theorem dX4_findBarsOf_23 : decode cX4_findBarsOf 23 = .ok (.iadd, 1) := by decide +kernel
theorem dX4_findBarsOf_24 : decode cX4_findBarsOf 24 = .ok (.iload_n 3, 1) := by decide +kernel
theorem dX4_findBarsOf_25 : decode cX4_findBarsOf 25 = .ok (.invokestatic 97, 3) := by decide +kernel
theorem dX4_findBarsOf_28 : decode cX4_findBarsOf 28 = .ok (.invokevirtual 118, 3) := by decide +kernel
theorem dX4_findBarsOf_31 : decode cX4_findBarsOf 31 = .ok (.ifCond .eq 15, 3) := by decide +kernel
theorem dX4_findBarsOf_34 : decode cX4_findBarsOf 34 = .ok (.aload_n 0, 1) := by decide +kernel
theorem dX4_findBarsOf_35 : decode cX4_findBarsOf 35 = .ok (.getfield 18, 3) := by decide +kernel
theorem dX4_findBarsOf_38 : decode cX4_findBarsOf 38 = .ok (.iload_n 2, 1) := by decide +kernel
theorem dX4_findBarsOf_39 : decode cX4_findBarsOf 39 = .ok (.dup2, 1) := by decide +kernel
theorem dX4_findBarsOf_40 : decode cX4_findBarsOf 40 = .ok (.iaload, 1) := by decide +kernel
theorem dX4_findBarsOf_41 : decode cX4_findBarsOf 41 = .ok (.iconst 1, 1) := by decide +kernel
theorem dX4_findBarsOf_42 : decode cX4_findBarsOf 42 = .ok (.iload_n 3, 1) := by decide +kernel
theorem dX4_findBarsOf_43 : decode cX4_findBarsOf 43 = .ok (.ishl, 1) := by decide +kernel
theorem dX4_findBarsOf_44 : decode cX4_findBarsOf 44 = .ok (.ior, 1) := by decide +kernel
theorem dX4_findBarsOf_45 : decode cX4_findBarsOf 45 = .ok (.iastore, 1) := by decide +kernel
theorem dX4_findBarsOf_46 : decode cX4_findBarsOf 46 = .ok (.aload_n 1, 1) := by decide +kernel
theorem dX4_findBarsOf_47 : decode cX4_findBarsOf 47 = .ok (.iload_n 2, 1) := by decide +kernel
theorem dX4_findBarsOf_48 : decode cX4_findBarsOf 48 = .ok (.iload_n 3, 1) := by decide +kernel
theorem dX4_findBarsOf_49 : decode cX4_findBarsOf 49 = .ok (.iconst 1, 1) := by decide +kernel
theorem dX4_findBarsOf_50 : decode cX4_findBarsOf 50 = .ok (.iadd, 1) := by decide +kernel
theorem dX4_findBarsOf_51 : decode cX4_findBarsOf 51 = .ok (.invokevirtual 114, 3) := by decide +kernel
theorem dX4_findBarsOf_54 : decode cX4_findBarsOf 54 = .ok (.ifCond .eq 31, 3) := by decide +kernel
theorem dX4_findBarsOf_57 : decode cX4_findBarsOf 57 = .ok (.aload_n 1, 1) := by decide +kernel
theorem dX4_findBarsOf_58 : decode cX4_findBarsOf 58 = .ok (.iload 4, 2) := by decide +kernel
theorem dX4_findBarsOf_60 : decode cX4_findBarsOf 60 = .ok (.iload_n 2, 1) := by decide +kernel
theorem dX4_findBarsOf_61 : decode cX4_findBarsOf 61 = .ok (.iload_n 3, 1) := by decide +kernel
theorem dX4_findBarsOf_62 : decode cX4_findBarsOf 62 = .ok (.iconst 1, 1) := by decide +kernel
theorem dX4_findBarsOf_63 : decode cX4_findBarsOf 63 = .ok (.iadd, 1) := by decide +kernel
theorem dX4_findBarsOf_64 : decode cX4_findBarsOf 64 = .ok (.invokestatic 97, 3) := by decide +kernel
theorem dX4_findBarsOf_67 : decode cX4_findBarsOf 67 = .ok (.invokevirtual 118, 3) := by decide +kernel
theorem dX4_findBarsOf_70 : decode cX4_findBarsOf 70 = .ok (.ifCond .eq 15, 3) := by decide +kernel
theorem dX4_findBarsOf_73 : decode cX4_findBarsOf 73 = .ok (.aload_n 0, 1) := by decide +kernel
theorem dX4_findBarsOf_74 : decode cX4_findBarsOf 74 = .ok (.getfield 21, 3) := by decide +kernel
theorem dX4_findBarsOf_77 : decode cX4_findBarsOf 77 = .ok (.iload_n 3, 1) := by decide +kernel
theorem dX4_findBarsOf_78 : decode cX4_findBarsOf 78 = .ok (.dup2, 1) := by decide +kernel
theorem dX4_findBarsOf_79 : decode cX4_findBarsOf 79 = .ok (.iaload, 1) := by decide +kernel
theorem dX4_findBarsOf_80 : decode cX4_findBarsOf 80 = .ok (.iconst 1, 1) := by decide +kernel
theorem dX4_findBarsOf_81 : decode cX4_findBarsOf 81 = .ok (.iload_n 2, 1) := by decide +kernel
theorem dX4_findBarsOf_82 : decode cX4_findBarsOf 82 = .ok (.ishl, 1) := by decide +kernel
theorem dX4_findBarsOf_83 : decode cX4_findBarsOf 83 = .ok (.ior, 1) := by decide +kernel
theorem dX4_findBarsOf_84 : decode cX4_findBarsOf 84 = .ok (.iastore, 1) := by decide +kernel
theorem dX4_findBarsOf_85 : decode cX4_findBarsOf 85 = .ok (.return_, 1) := by decide +kernel
theorem dX4_findCosts_0 : decode cX4_findCosts 0 = .ok (.iconst 0, 1) := by decide +kernel
theorem dX4_findCosts_1 : decode cX4_findCosts 1 = .ok (.istore 4, 2) := by decide +kernel
theorem dX4_findCosts_3 : decode cX4_findCosts 3 = .ok (.iload 4, 2) := by decide +kernel
theorem dX4_findCosts_5 : decode cX4_findCosts 5 = .ok (.iload_n 3, 1) := by decide +kernel
theorem dX4_findCosts_6 : decode cX4_findCosts 6 = .ok (.if_icmp .ge 48, 3) := by decide +kernel
theorem dX4_findCosts_9 : decode cX4_findCosts 9 = .ok (.iload 4, 2) := by decide +kernel
theorem dX4_findCosts_11 : decode cX4_findCosts 11 = .ok (.istore 5, 2) := by decide +kernel
theorem dX4_findCosts_13 : decode cX4_findCosts 13 = .ok (.iload 5, 2) := by decide +kernel
theorem dX4_findCosts_15 : decode cX4_findCosts 15 = .ok (.ifCond .lt 33, 3) := by decide +kernel
theorem dX4_findCosts_18 : decode cX4_findCosts 18 = .ok (.aload_n 0, 1) := by decide +kernel
theorem dX4_findCosts_19 : decode cX4_findCosts 19 = .ok (.getfield 11, 3) := by decide +kernel
theorem dX4_findCosts_22 : decode cX4_findCosts 22 = .ok (.iload_n 1, 1) := by decide +kernel
theorem dX4_findCosts_23 : decode cX4_findCosts 23 = .ok (.iload_n 2, 1) := by decide +kernel
theorem dX4_findCosts_24 : decode cX4_findCosts 24 = .ok (.iload 5, 2) := by decide +kernel
theorem dX4_findCosts_26 : decode cX4_findCosts 26 = .ok (.iload 4, 2) := by decide +kernel
theorem dX4_findCosts_28 : decode cX4_findCosts 28 = .ok (.invokestatic 47, 3) := by decide +kernel
theorem dX4_findCosts_31 : decode cX4_findCosts 31 = .ok (.aload_n 0, 1) := by decide +kernel
theorem dX4_findCosts_32 : decode cX4_findCosts 32 = .ok (.iload_n 1, 1) := by decide +kernel
theorem dX4_findCosts_33 : decode cX4_findCosts 33 = .ok (.iload_n 2, 1) := by decide +kernel
theorem dX4_findCosts_34 : decode cX4_findCosts 34 = .ok (.iload 5, 2) := by decide +kernel
theorem dX4_findCosts_36 : decode cX4_findCosts 36 = .ok (.iload 4, 2) := by decide +kernel
theorem dX4_findCosts_38 : decode cX4_findCosts 38 = .ok (.invokevirtual 121, 3) := by decide +kernel
theorem dX4_findCosts_41 : decode cX4_findCosts 41 = .ok (.iastore, 1) := by decide +kernel
theorem dX4_findCosts_42 : decode cX4_findCosts 42 = .ok (.iinc 5 (-1), 3) := by decide +kernel
theorem dX4_findCosts_45 : decode cX4_findCosts 45 = .ok (.goto (-32), 3) := by decide +kernel
theorem dX4_findCosts_48 : decode cX4_findCosts 48 = .ok (.iinc 4 1, 3) := by decide +kernel
theorem dX4_findCosts_51 : decode cX4_findCosts 51 = .ok (.goto (-48), 3) := by decide +kernel
theorem dX4_findCosts_54 : decode cX4_findCosts 54 = .ok (.return_, 1) := by decide +kernel
theorem dX4_leastCost_0 : decode cX4_leastCost 0 = .ok (.aload_n 0, 1) := by decide +kernel
theorem dX4_leastCost_1 : decode cX4_leastCost 1 = .ok (.iload_n 1, 1) := by decide +kernel
theorem dX4_leastCost_2 : decode cX4_leastCost 2 = .ok (.iload_n 2, 1) := by decide +kernel
theorem dX4_leastCost_3 : decode cX4_leastCost 3 = .ok (.iload_n 3, 1) := by decide +kernel
theorem dX4_leastCost_4 : decode cX4_leastCost 4 = .ok (.iload 4, 2) := by decide +kernel
theorem dX4_leastCost_6 : decode cX4_leastCost 6 = .ok (.invokevirtual 124, 3) := by decide +kernel
theorem dX4_leastCost_9 : decode cX4_leastCost 9 = .ok (.aload_n 0, 1) := by decide +kernel
theorem dX4_leastCost_10 : decode cX4_leastCost 10 = .ok (.getfield 24, 3) := by decide +kernel
theorem dX4_leastCost_13 : decode cX4_leastCost 13 = .ok (.if_icmp .gt 7, 3) := by decide +kernel
theorem dX4_leastCost_16 : decode cX4_leastCost 16 = .ok (.sipush 256, 3) := by decide +kernel
theorem dX4_leastCost_19 : decode cX4_leastCost 19 = .ok (.ireturn, 1) := by decide +kernel
theorem dX4_leastCost_20 : decode cX4_leastCost 20 = .ok (.ldc 51, 2) := by decide +kernel
theorem dX4_leastCost_22 : decode cX4_leastCost 22 = .ok (.istore 5, 2) := by decide +kernel
theorem dX4_leastCost_24 : decode cX4_leastCost 24 = .ok (.iload_n 1, 1) := by decide +kernel
theorem dX4_leastCost_25 : decode cX4_leastCost 25 = .ok (.istore 6, 2) := by decide +kernel
theorem dX4_leastCost_27 : decode cX4_leastCost 27 = .ok (.iload 6, 2) := by decide +kernel
theorem dX4_leastCost_29 : decode cX4_leastCost 29 = .ok (.iload_n 2, 1) := by decide +kernel
theorem dX4_leastCost_30 : decode cX4_leastCost 30 = .ok (.if_icmp .ge 27, 3) := by decide +kernel
theorem dX4_leastCost_33 : decode cX4_leastCost 33 = .ok (.iload 5, 2) := by decide +kernel
theorem dX4_leastCost_35 : decode cX4_leastCost 35 = .ok (.aload_n 0, 1) := by decide +kernel
theorem dX4_leastCost_36 : decode cX4_leastCost 36 = .ok (.iload_n 1, 1) := by decide +kernel
theorem dX4_leastCost_37 : decode cX4_leastCost 37 = .ok (.iload_n 2, 1) := by decide +kernel
theorem dX4_leastCost_38 : decode cX4_leastCost 38 = .ok (.iload_n 3, 1) := by decide +kernel
theorem dX4_leastCost_39 : decode cX4_leastCost 39 = .ok (.iload 4, 2) := by decide +kernel
theorem dX4_leastCost_41 : decode cX4_leastCost 41 = .ok (.iload 6, 2) := by decide +kernel
theorem dX4_leastCost_43 : decode cX4_leastCost 43 = .ok (.invokevirtual 81, 3) := by decide +kernel
theorem dX4_leastCost_46 : decode cX4_leastCost 46 = .ok (.invokestatic 127, 3) := by decide +kernel
theorem dX4_leastCost_49 : decode cX4_leastCost 49 = .ok (.istore 5, 2) := by decide +kernel
theorem dX4_leastCost_51 : decode cX4_leastCost 51 = .ok (.iinc 6 1, 3) := by decide +kernel
theorem dX4_leastCost_54 : decode cX4_leastCost 54 = .ok (.goto (-27), 3) := by decide +kernel
theorem dX4_leastCost_57 : decode cX4_leastCost 57 = .ok (.iload_n 3, 1) := by decide +kernel
theorem dX4_leastCost_58 : decode cX4_leastCost 58 = .ok (.istore 6, 2) := by decide +kernel
theorem dX4_leastCost_60 : decode cX4_leastCost 60 = .ok (.iload 6, 2) := by decide +kernel
theorem dX4_leastCost_62 : decode cX4_leastCost 62 = .ok (.iload 4, 2) := by decide +kernel
theorem dX4_leastCost_64 : decode cX4_leastCost 64 = .ok (.if_icmp .ge 27, 3) := by decide +kernel
theorem dX4_leastCost_67 : decode cX4_leastCost 67 = .ok (.iload 5, 2) := by decide +kernel
theorem dX4_leastCost_69 : decode cX4_leastCost 69 = .ok (.aload_n 0, 1) := by decide +kernel
theorem dX4_leastCost_70 : decode cX4_leastCost 70 = .ok (.iload_n 1, 1) := by decide +kernel
theorem dX4_leastCost_71 : decode cX4_leastCost 71 = .ok (.iload_n 2, 1) := by decide +kernel
theorem dX4_leastCost_72 : decode cX4_leastCost 72 = .ok (.iload_n 3, 1) := by decide +kernel
theorem dX4_leastCost_73 : decode cX4_leastCost 73 = .ok (.iload 4, 2) := by decide +kernel
theorem dX4_leastCost_75 : decode cX4_leastCost 75 = .ok (.iload 6, 2) := by decide +kernel
theorem dX4_leastCost_77 : decode cX4_leastCost 77 = .ok (.invokevirtual 88, 3) := by decide +kernel
theorem dX4_leastCost_80 : decode cX4_leastCost 80 = .ok (.invokestatic 127, 3) := by decide +kernel
theorem dX4_leastCost_83 : decode cX4_leastCost 83 = .ok (.istore 5, 2) := by decide +kernel
theorem dX4_leastCost_85 : decode cX4_leastCost 85 = .ok (.iinc 6 1, 3) := by decide +kernel
theorem dX4_leastCost_88 : decode cX4_leastCost 88 = .ok (.goto (-28), 3) := by decide +kernel
theorem dX4_leastCost_91 : decode cX4_leastCost 91 = .ok (.iload 5, 2) := by decide +kernel
theorem dX4_leastCost_93 : decode cX4_leastCost 93 = .ok (.ireturn, 1) := by decide +kernel
theorem dX4_uprightCost_0 : decode cX4_uprightCost 0 = .ok (.aload_n 0, 1) := by decide +kernel
theorem dX4_uprightCost_1 : decode cX4_uprightCost 1 = .ok (.getfield 18, 3) := by decide +kernel
theorem dX4_uprightCost_4 : decode cX4_uprightCost 4 = .ok (.iload 5, 2) := by decide +kernel
theorem dX4_uprightCost_6 : decode cX4_uprightCost 6 = .ok (.iaload, 1) := by decide +kernel
theorem dX4_uprightCost_7 : decode cX4_uprightCost 7 = .ok (.iload_n 3, 1) := by decide +kernel
theorem dX4_uprightCost_8 : decode cX4_uprightCost 8 = .ok (.iload 4, 2) := by decide +kernel
theorem dX4_uprightCost_10 : decode cX4_uprightCost 10 = .ok (.invokestatic 132, 3) := by decide +kernel
theorem dX4_uprightCost_13 : decode cX4_uprightCost 13 = .ok (.ifCond .eq 6, 3) := by decide +kernel
theorem dX4_uprightCost_16 : decode cX4_uprightCost 16 = .ok (.ldc 51, 2) := by decide +kernel
theorem dX4_uprightCost_18 : decode cX4_uprightCost 18 = .ok (.ireturn, 1) := by decide +kernel
theorem dX4_uprightCost_19 : decode cX4_uprightCost 19 = .ok (.aload_n 0, 1) := by decide +kernel
theorem dX4_uprightCost_20 : decode cX4_uprightCost 20 = .ok (.getfield 11, 3) := by decide +kernel
theorem dX4_uprightCost_23 : decode cX4_uprightCost 23 = .ok (.iload_n 1, 1) := by decide +kernel
theorem dX4_uprightCost_24 : decode cX4_uprightCost 24 = .ok (.iload 5, 2) := by decide +kernel
theorem dX4_uprightCost_26 : decode cX4_uprightCost 26 = .ok (.iload_n 3, 1) := by decide +kernel
theorem dX4_uprightCost_27 : decode cX4_uprightCost 27 = .ok (.iload 4, 2) := by decide +kernel
theorem dX4_uprightCost_29 : decode cX4_uprightCost 29 = .ok (.invokestatic 47, 3) := by decide +kernel
theorem dX4_uprightCost_32 : decode cX4_uprightCost 32 = .ok (.iaload, 1) := by decide +kernel
theorem dX4_uprightCost_33 : decode cX4_uprightCost 33 = .ok (.aload_n 0, 1) := by decide +kernel
theorem dX4_uprightCost_34 : decode cX4_uprightCost 34 = .ok (.getfield 11, 3) := by decide +kernel
theorem dX4_uprightCost_37 : decode cX4_uprightCost 37 = .ok (.iload 5, 2) := by decide +kernel
theorem dX4_uprightCost_39 : decode cX4_uprightCost 39 = .ok (.iconst 1, 1) := by decide +kernel
theorem dX4_uprightCost_40 : decode cX4_uprightCost 40 = .ok (.iadd, 1) := by decide +kernel
theorem dX4_uprightCost_41 : decode cX4_uprightCost 41 = .ok (.iload_n 2, 1) := by decide +kernel
theorem dX4_uprightCost_42 : decode cX4_uprightCost 42 = .ok (.iload_n 3, 1) := by decide +kernel
theorem dX4_uprightCost_43 : decode cX4_uprightCost 43 = .ok (.iload 4, 2) := by decide +kernel
theorem dX4_uprightCost_45 : decode cX4_uprightCost 45 = .ok (.invokestatic 47, 3) := by decide +kernel
theorem dX4_uprightCost_48 : decode cX4_uprightCost 48 = .ok (.iaload, 1) := by decide +kernel
theorem dX4_uprightCost_49 : decode cX4_uprightCost 49 = .ok (.iadd, 1) := by decide +kernel
theorem dX4_uprightCost_50 : decode cX4_uprightCost 50 = .ok (.iload 4, 2) := by decide +kernel
theorem dX4_uprightCost_52 : decode cX4_uprightCost 52 = .ok (.iadd, 1) := by decide +kernel
theorem dX4_uprightCost_53 : decode cX4_uprightCost 53 = .ok (.iload_n 3, 1) := by decide +kernel
theorem dX4_uprightCost_54 : decode cX4_uprightCost 54 = .ok (.isub, 1) := by decide +kernel
theorem dX4_uprightCost_55 : decode cX4_uprightCost 55 = .ok (.iconst 1, 1) := by decide +kernel
theorem dX4_uprightCost_56 : decode cX4_uprightCost 56 = .ok (.iadd, 1) := by decide +kernel
theorem dX4_uprightCost_57 : decode cX4_uprightCost 57 = .ok (.ireturn, 1) := by decide +kernel
theorem dX4_levelCost_0 : decode cX4_levelCost 0 = .ok (.aload_n 0, 1) := by decide +kernel
theorem dX4_levelCost_1 : decode cX4_levelCost 1 = .ok (.getfield 21, 3) := by decide +kernel
theorem dX4_levelCost_4 : decode cX4_levelCost 4 = .ok (.iload 5, 2) := by decide +kernel
theorem dX4_levelCost_6 : decode cX4_levelCost 6 = .ok (.iaload, 1) := by decide +kernel
theorem dX4_levelCost_7 : decode cX4_levelCost 7 = .ok (.iload_n 1, 1) := by decide +kernel
theorem dX4_levelCost_8 : decode cX4_levelCost 8 = .ok (.iload_n 2, 1) := by decide +kernel
theorem dX4_levelCost_9 : decode cX4_levelCost 9 = .ok (.invokestatic 132, 3) := by decide +kernel
theorem dX4_levelCost_12 : decode cX4_levelCost 12 = .ok (.ifCond .eq 6, 3) := by decide +kernel
theorem dX4_levelCost_15 : decode cX4_levelCost 15 = .ok (.ldc 51, 2) := by decide +kernel
theorem dX4_levelCost_17 : decode cX4_levelCost 17 = .ok (.ireturn, 1) := by decide +kernel
theorem dX4_levelCost_18 : decode cX4_levelCost 18 = .ok (.aload_n 0, 1) := by decide +kernel
theorem dX4_levelCost_19 : decode cX4_levelCost 19 = .ok (.getfield 11, 3) := by decide +kernel
theorem dX4_levelCost_22 : decode cX4_levelCost 22 = .ok (.iload_n 1, 1) := by decide +kernel
theorem dX4_levelCost_23 : decode cX4_levelCost 23 = .ok (.iload_n 2, 1) := by decide +kernel
theorem dX4_levelCost_24 : decode cX4_levelCost 24 = .ok (.iload_n 3, 1) := by decide +kernel
theorem dX4_levelCost_25 : decode cX4_levelCost 25 = .ok (.iload 5, 2) := by decide +kernel
theorem dX4_levelCost_27 : decode cX4_levelCost 27 = .ok (.invokestatic 47, 3) := by decide +kernel
theorem dX4_levelCost_30 : decode cX4_levelCost 30 = .ok (.iaload, 1) := by decide +kernel
theorem dX4_levelCost_31 : decode cX4_levelCost 31 = .ok (.aload_n 0, 1) := by decide +kernel
theorem dX4_levelCost_32 : decode cX4_levelCost 32 = .ok (.getfield 11, 3) := by decide +kernel
theorem dX4_levelCost_35 : decode cX4_levelCost 35 = .ok (.iload_n 1, 1) := by decide +kernel
theorem dX4_levelCost_36 : decode cX4_levelCost 36 = .ok (.iload_n 2, 1) := by decide +kernel
theorem dX4_levelCost_37 : decode cX4_levelCost 37 = .ok (.iload 5, 2) := by decide +kernel
theorem dX4_levelCost_39 : decode cX4_levelCost 39 = .ok (.iconst 1, 1) := by decide +kernel
theorem dX4_levelCost_40 : decode cX4_levelCost 40 = .ok (.iadd, 1) := by decide +kernel
theorem dX4_levelCost_41 : decode cX4_levelCost 41 = .ok (.iload 4, 2) := by decide +kernel
theorem dX4_levelCost_43 : decode cX4_levelCost 43 = .ok (.invokestatic 47, 3) := by decide +kernel
theorem dX4_levelCost_46 : decode cX4_levelCost 46 = .ok (.iaload, 1) := by decide +kernel
theorem dX4_levelCost_47 : decode cX4_levelCost 47 = .ok (.iadd, 1) := by decide +kernel
theorem dX4_levelCost_48 : decode cX4_levelCost 48 = .ok (.iload_n 2, 1) := by decide +kernel
theorem dX4_levelCost_49 : decode cX4_levelCost 49 = .ok (.iadd, 1) := by decide +kernel
theorem dX4_levelCost_50 : decode cX4_levelCost 50 = .ok (.iload_n 1, 1) := by decide +kernel
theorem dX4_levelCost_51 : decode cX4_levelCost 51 = .ok (.isub, 1) := by decide +kernel
theorem dX4_levelCost_52 : decode cX4_levelCost 52 = .ok (.iconst 1, 1) := by decide +kernel
theorem dX4_levelCost_53 : decode cX4_levelCost 53 = .ok (.iadd, 1) := by decide +kernel
theorem dX4_levelCost_54 : decode cX4_levelCost 54 = .ok (.ireturn, 1) := by decide +kernel
theorem dX4_isBarred_0 : decode cX4_isBarred 0 = .ok (.iload_n 0, 1) := by decide +kernel
theorem dX4_isBarred_1 : decode cX4_isBarred 1 = .ok (.iload_n 1, 1) := by decide +kernel
theorem dX4_isBarred_2 : decode cX4_isBarred 2 = .ok (.ishr, 1) := by decide +kernel
theorem dX4_isBarred_3 : decode cX4_isBarred 3 = .ok (.iconst 1, 1) := by decide +kernel
theorem dX4_isBarred_4 : decode cX4_isBarred 4 = .ok (.iload_n 2, 1) := by decide +kernel
theorem dX4_isBarred_5 : decode cX4_isBarred 5 = .ok (.iload_n 1, 1) := by decide +kernel
theorem dX4_isBarred_6 : decode cX4_isBarred 6 = .ok (.isub, 1) := by decide +kernel
theorem dX4_isBarred_7 : decode cX4_isBarred 7 = .ok (.iconst 1, 1) := by decide +kernel
theorem dX4_isBarred_8 : decode cX4_isBarred 8 = .ok (.iadd, 1) := by decide +kernel
theorem dX4_isBarred_9 : decode cX4_isBarred 9 = .ok (.ishl, 1) := by decide +kernel
theorem dX4_isBarred_10 : decode cX4_isBarred 10 = .ok (.iconst 1, 1) := by decide +kernel
theorem dX4_isBarred_11 : decode cX4_isBarred 11 = .ok (.isub, 1) := by decide +kernel
theorem dX4_isBarred_12 : decode cX4_isBarred 12 = .ok (.iand, 1) := by decide +kernel
theorem dX4_isBarred_13 : decode cX4_isBarred 13 = .ok (.ifCond .eq 7, 3) := by decide +kernel
theorem dX4_isBarred_16 : decode cX4_isBarred 16 = .ok (.iconst 1, 1) := by decide +kernel
theorem dX4_isBarred_17 : decode cX4_isBarred 17 = .ok (.goto 4, 3) := by decide +kernel
theorem dX4_isBarred_20 : decode cX4_isBarred 20 = .ok (.iconst 0, 1) := by decide +kernel
theorem dX4_isBarred_21 : decode cX4_isBarred 21 = .ok (.ireturn, 1) := by decide +kernel
theorem dX4_weightOfPart_0 : decode cX4_weightOfPart 0 = .ok (.aload_n 0, 1) := by decide +kernel
theorem dX4_weightOfPart_1 : decode cX4_weightOfPart 1 = .ok (.getfield 15, 3) := by decide +kernel
theorem dX4_weightOfPart_4 : decode cX4_weightOfPart 4 = .ok (.iload_n 2, 1) := by decide +kernel
theorem dX4_weightOfPart_5 : decode cX4_weightOfPart 5 = .ok (.iconst 1, 1) := by decide +kernel
theorem dX4_weightOfPart_6 : decode cX4_weightOfPart 6 = .ok (.iadd, 1) := by decide +kernel
theorem dX4_weightOfPart_7 : decode cX4_weightOfPart 7 = .ok (.iload 4, 2) := by decide +kernel
theorem dX4_weightOfPart_9 : decode cX4_weightOfPart 9 = .ok (.iconst 1, 1) := by decide +kernel
theorem dX4_weightOfPart_10 : decode cX4_weightOfPart 10 = .ok (.iadd, 1) := by decide +kernel
theorem dX4_weightOfPart_11 : decode cX4_weightOfPart 11 = .ok (.invokestatic 101, 3) := by decide +kernel
theorem dX4_weightOfPart_14 : decode cX4_weightOfPart 14 = .ok (.iaload, 1) := by decide +kernel
theorem dX4_weightOfPart_15 : decode cX4_weightOfPart 15 = .ok (.aload_n 0, 1) := by decide +kernel
theorem dX4_weightOfPart_16 : decode cX4_weightOfPart 16 = .ok (.getfield 15, 3) := by decide +kernel
theorem dX4_weightOfPart_19 : decode cX4_weightOfPart 19 = .ok (.iload_n 1, 1) := by decide +kernel
theorem dX4_weightOfPart_20 : decode cX4_weightOfPart 20 = .ok (.iload 4, 2) := by decide +kernel
theorem dX4_weightOfPart_22 : decode cX4_weightOfPart 22 = .ok (.iconst 1, 1) := by decide +kernel
theorem dX4_weightOfPart_23 : decode cX4_weightOfPart 23 = .ok (.iadd, 1) := by decide +kernel
theorem dX4_weightOfPart_24 : decode cX4_weightOfPart 24 = .ok (.invokestatic 101, 3) := by decide +kernel
theorem dX4_weightOfPart_27 : decode cX4_weightOfPart 27 = .ok (.iaload, 1) := by decide +kernel
theorem dX4_weightOfPart_28 : decode cX4_weightOfPart 28 = .ok (.isub, 1) := by decide +kernel
theorem dX4_weightOfPart_29 : decode cX4_weightOfPart 29 = .ok (.aload_n 0, 1) := by decide +kernel
theorem dX4_weightOfPart_30 : decode cX4_weightOfPart 30 = .ok (.getfield 15, 3) := by decide +kernel
theorem dX4_weightOfPart_33 : decode cX4_weightOfPart 33 = .ok (.iload_n 2, 1) := by decide +kernel
theorem dX4_weightOfPart_34 : decode cX4_weightOfPart 34 = .ok (.iconst 1, 1) := by decide +kernel
theorem dX4_weightOfPart_35 : decode cX4_weightOfPart 35 = .ok (.iadd, 1) := by decide +kernel
theorem dX4_weightOfPart_36 : decode cX4_weightOfPart 36 = .ok (.iload_n 3, 1) := by decide +kernel
theorem dX4_weightOfPart_37 : decode cX4_weightOfPart 37 = .ok (.invokestatic 101, 3) := by decide +kernel
theorem dX4_weightOfPart_40 : decode cX4_weightOfPart 40 = .ok (.iaload, 1) := by decide +kernel
theorem dX4_weightOfPart_41 : decode cX4_weightOfPart 41 = .ok (.isub, 1) := by decide +kernel
theorem dX4_weightOfPart_42 : decode cX4_weightOfPart 42 = .ok (.aload_n 0, 1) := by decide +kernel
theorem dX4_weightOfPart_43 : decode cX4_weightOfPart 43 = .ok (.getfield 15, 3) := by decide +kernel
theorem dX4_weightOfPart_46 : decode cX4_weightOfPart 46 = .ok (.iload_n 1, 1) := by decide +kernel
theorem dX4_weightOfPart_47 : decode cX4_weightOfPart 47 = .ok (.iload_n 3, 1) := by decide +kernel
theorem dX4_weightOfPart_48 : decode cX4_weightOfPart 48 = .ok (.invokestatic 101, 3) := by decide +kernel
theorem dX4_weightOfPart_51 : decode cX4_weightOfPart 51 = .ok (.iaload, 1) := by decide +kernel
theorem dX4_weightOfPart_52 : decode cX4_weightOfPart 52 = .ok (.iadd, 1) := by decide +kernel
theorem dX4_weightOfPart_53 : decode cX4_weightOfPart 53 = .ok (.ireturn, 1) := by decide +kernel
theorem dX4_corner_0 : decode cX4_corner 0 = .ok (.iload_n 1, 1) := by decide +kernel
theorem dX4_corner_1 : decode cX4_corner 1 = .ok (.bipush 9, 2) := by decide +kernel
theorem dX4_corner_3 : decode cX4_corner 3 = .ok (.imul, 1) := by decide +kernel
theorem dX4_corner_4 : decode cX4_corner 4 = .ok (.iload_n 0, 1) := by decide +kernel
theorem dX4_corner_5 : decode cX4_corner 5 = .ok (.iadd, 1) := by decide +kernel
theorem dX4_corner_6 : decode cX4_corner 6 = .ok (.ireturn, 1) := by decide +kernel
theorem dX4_part_0 : decode cX4_part 0 = .ok (.iload_n 0, 1) := by decide +kernel
theorem dX4_part_1 : decode cX4_part 1 = .ok (.iload_n 1, 1) := by decide +kernel
theorem dX4_part_2 : decode cX4_part 2 = .ok (.invokestatic 136, 3) := by decide +kernel
theorem dX4_part_5 : decode cX4_part 5 = .ok (.bipush 36, 2) := by decide +kernel
theorem dX4_part_7 : decode cX4_part 7 = .ok (.imul, 1) := by decide +kernel
theorem dX4_part_8 : decode cX4_part 8 = .ok (.iload_n 2, 1) := by decide +kernel
theorem dX4_part_9 : decode cX4_part 9 = .ok (.iload_n 3, 1) := by decide +kernel
theorem dX4_part_10 : decode cX4_part 10 = .ok (.invokestatic 136, 3) := by decide +kernel
theorem dX4_part_13 : decode cX4_part 13 = .ok (.iadd, 1) := by decide +kernel
theorem dX4_part_14 : decode cX4_part 14 = .ok (.ireturn, 1) := by decide +kernel
theorem dX4_span_0 : decode cX4_span 0 = .ok (.iload_n 1, 1) := by decide +kernel
theorem dX4_span_1 : decode cX4_span 1 = .ok (.iload_n 1, 1) := by decide +kernel
theorem dX4_span_2 : decode cX4_span 2 = .ok (.iconst 1, 1) := by decide +kernel
theorem dX4_span_3 : decode cX4_span 3 = .ok (.iadd, 1) := by decide +kernel
theorem dX4_span_4 : decode cX4_span 4 = .ok (.imul, 1) := by decide +kernel
theorem dX4_span_5 : decode cX4_span 5 = .ok (.iconst 2, 1) := by decide +kernel
theorem dX4_span_6 : decode cX4_span 6 = .ok (.idiv, 1) := by decide +kernel
theorem dX4_span_7 : decode cX4_span 7 = .ok (.iload_n 0, 1) := by decide +kernel
theorem dX4_span_8 : decode cX4_span 8 = .ok (.iadd, 1) := by decide +kernel
theorem dX4_span_9 : decode cX4_span 9 = .ok (.ireturn, 1) := by decide +kernel
theorem dX5_init_0 : decode cX5_init 0 = .ok (.aload_n 0, 1) := by decide +kernel
theorem dX5_init_1 : decode cX5_init 1 = .ok (.invokespecial 3, 3) := by decide +kernel
theorem dX5_init_4 : decode cX5_init 4 = .ok (.aload_n 0, 1) := by decide +kernel
theorem dX5_init_5 : decode cX5_init 5 = .ok (.bipush 40, 2) := by decide +kernel
theorem dX5_init_7 : decode cX5_init 7 = .ok (.putfield 11, 3) := by decide +kernel
theorem dX5_init_10 : decode cX5_init 10 = .ok (.aload_n 0, 1) := by decide +kernel
theorem dX5_init_11 : decode cX5_init 11 = .ok (.iconst 1, 1) := by decide +kernel
theorem dX5_init_12 : decode cX5_init 12 = .ok (.putfield 15, 3) := by decide +kernel
theorem dX5_init_15 : decode cX5_init 15 = .ok (.aload_n 0, 1) := by decide +kernel
theorem dX5_init_16 : decode cX5_init 16 = .ok (.iconst 0, 1) := by decide +kernel
theorem dX5_init_17 : decode cX5_init 17 = .ok (.putfield 18, 3) := by decide +kernel
theorem dX5_init_20 : decode cX5_init 20 = .ok (.aload_n 0, 1) := by decide +kernel
theorem dX5_init_21 : decode cX5_init 21 = .ok (.new 21, 3) := by decide +kernel
theorem dX5_init_24 : decode cX5_init 24 = .ok (.dup, 1) := by decide +kernel
theorem dX5_init_25 : decode cX5_init 25 = .ok (.invokespecial 23, 3) := by decide +kernel
theorem dX5_init_28 : decode cX5_init 28 = .ok (.putfield 24, 3) := by decide +kernel
theorem dX5_init_31 : decode cX5_init 31 = .ok (.aload_n 0, 1) := by decide +kernel
theorem dX5_init_32 : decode cX5_init 32 = .ok (.new 28, 3) := by decide +kernel
theorem dX5_init_35 : decode cX5_init 35 = .ok (.dup, 1) := by decide +kernel
theorem dX5_init_36 : decode cX5_init 36 = .ok (.invokespecial 30, 3) := by decide +kernel
theorem dX5_init_39 : decode cX5_init 39 = .ok (.putfield 31, 3) := by decide +kernel
theorem dX5_init_42 : decode cX5_init 42 = .ok (.aload_n 0, 1) := by decide +kernel
theorem dX5_init_43 : decode cX5_init 43 = .ok (.new 35, 3) := by decide +kernel
theorem dX5_init_46 : decode cX5_init 46 = .ok (.dup, 1) := by decide +kernel
theorem dX5_init_47 : decode cX5_init 47 = .ok (.invokespecial 37, 3) := by decide +kernel
theorem dX5_init_50 : decode cX5_init 50 = .ok (.putfield 38, 3) := by decide +kernel
theorem dX5_init_53 : decode cX5_init 53 = .ok (.aload_n 0, 1) := by decide +kernel
theorem dX5_init_54 : decode cX5_init 54 = .ok (.new 42, 3) := by decide +kernel
theorem dX5_init_57 : decode cX5_init 57 = .ok (.dup, 1) := by decide +kernel
theorem dX5_init_58 : decode cX5_init 58 = .ok (.invokespecial 44, 3) := by decide +kernel
theorem dX5_init_61 : decode cX5_init 61 = .ok (.putfield 45, 3) := by decide +kernel
theorem dX5_init_64 : decode cX5_init 64 = .ok (.aload_n 0, 1) := by decide +kernel
theorem dX5_init_65 : decode cX5_init 65 = .ok (.new 49, 3) := by decide +kernel
theorem dX5_init_68 : decode cX5_init 68 = .ok (.dup, 1) := by decide +kernel
theorem dX5_init_69 : decode cX5_init 69 = .ok (.invokespecial 51, 3) := by decide +kernel
theorem dX5_init_72 : decode cX5_init 72 = .ok (.putfield 52, 3) := by decide +kernel
theorem dX5_init_75 : decode cX5_init 75 = .ok (.return_, 1) := by decide +kernel
theorem dX5_dropPlan_0 : decode cX5_dropPlan 0 = .ok (.aload_n 0, 1) := by decide +kernel
theorem dX5_dropPlan_1 : decode cX5_dropPlan 1 = .ok (.getfield 31, 3) := by decide +kernel
theorem dX5_dropPlan_4 : decode cX5_dropPlan 4 = .ok (.invokevirtual 56, 3) := by decide +kernel
theorem dX5_dropPlan_7 : decode cX5_dropPlan 7 = .ok (.aload_n 0, 1) := by decide +kernel
theorem dX5_dropPlan_8 : decode cX5_dropPlan 8 = .ok (.getfield 45, 3) := by decide +kernel
theorem dX5_dropPlan_11 : decode cX5_dropPlan 11 = .ok (.invokevirtual 59, 3) := by decide +kernel
theorem dX5_dropPlan_14 : decode cX5_dropPlan 14 = .ok (.aload_n 0, 1) := by decide +kernel
theorem dX5_dropPlan_15 : decode cX5_dropPlan 15 = .ok (.getfield 52, 3) := by decide +kernel
theorem dX5_dropPlan_18 : decode cX5_dropPlan 18 = .ok (.invokevirtual 62, 3) := by decide +kernel
theorem dX5_dropPlan_21 : decode cX5_dropPlan 21 = .ok (.return_, 1) := by decide +kernel
theorem dX5_weightOf_0 : decode cX5_weightOf 0 = .ok (.aload_n 0, 1) := by decide +kernel
theorem dX5_weightOf_1 : decode cX5_weightOf 1 = .ok (.getfield 24, 3) := by decide +kernel
theorem dX5_weightOf_4 : decode cX5_weightOf 4 = .ok (.aload_n 0, 1) := by decide +kernel
theorem dX5_weightOf_5 : decode cX5_weightOf 5 = .ok (.getfield 31, 3) := by decide +kernel
theorem dX5_weightOf_8 : decode cX5_weightOf 8 = .ok (.getfield 63, 3) := by decide +kernel
theorem dX5_weightOf_11 : decode cX5_weightOf 11 = .ok (.iload_n 1, 1) := by decide +kernel
theorem dX5_weightOf_12 : decode cX5_weightOf 12 = .ok (.iaload, 1) := by decide +kernel
theorem dX5_weightOf_13 : decode cX5_weightOf 13 = .ok (.aload_n 0, 1) := by decide +kernel
theorem dX5_weightOf_14 : decode cX5_weightOf 14 = .ok (.getfield 31, 3) := by decide +kernel
theorem dX5_weightOf_17 : decode cX5_weightOf 17 = .ok (.getfield 67, 3) := by decide +kernel
theorem dX5_weightOf_20 : decode cX5_weightOf 20 = .ok (.iload_n 1, 1) := by decide +kernel
theorem dX5_weightOf_21 : decode cX5_weightOf 21 = .ok (.iaload, 1) := by decide +kernel
theorem dX5_weightOf_22 : decode cX5_weightOf 22 = .ok (.aload_n 0, 1) := by decide +kernel
theorem dX5_weightOf_23 : decode cX5_weightOf 23 = .ok (.getfield 31, 3) := by decide +kernel
theorem dX5_weightOf_26 : decode cX5_weightOf 26 = .ok (.getfield 70, 3) := by decide +kernel
theorem dX5_weightOf_29 : decode cX5_weightOf 29 = .ok (.iload_n 1, 1) := by decide +kernel
theorem dX5_weightOf_30 : decode cX5_weightOf 30 = .ok (.iaload, 1) := by decide +kernel
theorem dX5_weightOf_31 : decode cX5_weightOf 31 = .ok (.aload_n 0, 1) := by decide +kernel
theorem dX5_weightOf_32 : decode cX5_weightOf 32 = .ok (.getfield 31, 3) := by decide +kernel
theorem dX5_weightOf_35 : decode cX5_weightOf 35 = .ok (.getfield 73, 3) := by decide +kernel
theorem dX5_weightOf_38 : decode cX5_weightOf 38 = .ok (.iload_n 1, 1) := by decide +kernel
theorem dX5_weightOf_39 : decode cX5_weightOf 39 = .ok (.iaload, 1) := by decide +kernel
theorem dX5_weightOf_40 : decode cX5_weightOf 40 = .ok (.invokevirtual 76, 3) := by decide +kernel
theorem dX5_weightOf_43 : decode cX5_weightOf 43 = .ok (.ireturn, 1) := by decide +kernel
theorem dX5_dueOf_0 : decode cX5_dueOf 0 = .ok (.aload_n 0, 1) := by decide +kernel
theorem dX5_dueOf_1 : decode cX5_dueOf 1 = .ok (.getfield 38, 3) := by decide +kernel
theorem dX5_dueOf_4 : decode cX5_dueOf 4 = .ok (.aload_n 0, 1) := by decide +kernel
theorem dX5_dueOf_5 : decode cX5_dueOf 5 = .ok (.getfield 31, 3) := by decide +kernel
theorem dX5_dueOf_8 : decode cX5_dueOf 8 = .ok (.getfield 70, 3) := by decide +kernel
theorem dX5_dueOf_11 : decode cX5_dueOf 11 = .ok (.iload_n 1, 1) := by decide +kernel
theorem dX5_dueOf_12 : decode cX5_dueOf 12 = .ok (.iaload, 1) := by decide +kernel
theorem dX5_dueOf_13 : decode cX5_dueOf 13 = .ok (.invokevirtual 80, 3) := by decide +kernel
theorem dX5_dueOf_16 : decode cX5_dueOf 16 = .ok (.ireturn, 1) := by decide +kernel
theorem dX5_isInTime_0 : decode cX5_isInTime 0 = .ok (.aload_n 0, 1) := by decide +kernel
theorem dX5_isInTime_1 : decode cX5_isInTime 1 = .ok (.iload_n 1, 1) := by decide +kernel
theorem dX5_isInTime_2 : decode cX5_isInTime 2 = .ok (.invokevirtual 84, 3) := by decide +kernel
theorem dX5_isInTime_5 : decode cX5_isInTime 5 = .ok (.istore_n 3, 1) := by decide +kernel
theorem dX5_isInTime_6 : decode cX5_isInTime 6 = .ok (.iload_n 3, 1) := by decide +kernel
theorem dX5_isInTime_7 : decode cX5_isInTime 7 = .ok (.iconst (-1), 1) := by decide +kernel
theorem dX5_isInTime_8 : decode cX5_isInTime 8 = .ok (.if_icmp .eq 8, 3) := by decide +kernel
theorem dX5_isInTime_11 : decode cX5_isInTime 11 = .ok (.iload_n 2, 1) := by decide +kernel
theorem dX5_isInTime_12 : decode cX5_isInTime 12 = .ok (.iload_n 3, 1) := by decide +kernel
theorem dX5_isInTime_13 : decode cX5_isInTime 13 = .ok (.if_icmp .ge 7, 3) := by decide +kernel
theorem dX5_isInTime_16 : decode cX5_isInTime 16 = .ok (.iconst 1, 1) := by decide +kernel
theorem dX5_isInTime_17 : decode cX5_isInTime 17 = .ok (.goto 4, 3) := by decide +kernel
theorem dX5_isInTime_20 : decode cX5_isInTime 20 = .ok (.iconst 0, 1) := by decide +kernel
theorem dX5_isInTime_21 : decode cX5_isInTime 21 = .ok (.ireturn, 1) := by decide +kernel
theorem dX5_isFree_0 : decode cX5_isFree 0 = .ok (.aload_n 0, 1) := by decide +kernel
theorem dX5_isFree_1 : decode cX5_isFree 1 = .ok (.getfield 45, 3) := by decide +kernel
theorem dX5_isFree_4 : decode cX5_isFree 4 = .ok (.iload_n 1, 1) := by decide +kernel
theorem dX5_isFree_5 : decode cX5_isFree 5 = .ok (.invokevirtual 87, 3) := by decide +kernel
theorem dX5_isFree_8 : decode cX5_isFree 8 = .ok (.ifCond .eq 5, 3) := by decide +kernel
theorem dX5_isFree_11 : decode cX5_isFree 11 = .ok (.iconst 0, 1) := by decide +kernel
theorem dX5_isFree_12 : decode cX5_isFree 12 = .ok (.ireturn, 1) := by decide +kernel
theorem dX5_isFree_13 : decode cX5_isFree 13 = .ok (.aload_n 0, 1) := by decide +kernel
theorem dX5_isFree_14 : decode cX5_isFree 14 = .ok (.getfield 31, 3) := by decide +kernel
theorem dX5_isFree_17 : decode cX5_isFree 17 = .ok (.getfield 70, 3) := by decide +kernel
theorem dX5_isFree_20 : decode cX5_isFree 20 = .ok (.iload_n 1, 1) := by decide +kernel
theorem dX5_isFree_21 : decode cX5_isFree 21 = .ok (.iaload, 1) := by decide +kernel
theorem dX5_isFree_22 : decode cX5_isFree 22 = .ok (.aload_n 0, 1) := by decide +kernel
theorem dX5_isFree_23 : decode cX5_isFree 23 = .ok (.getfield 31, 3) := by decide +kernel
theorem dX5_isFree_26 : decode cX5_isFree 26 = .ok (.getfield 73, 3) := by decide +kernel
theorem dX5_isFree_29 : decode cX5_isFree 29 = .ok (.iload_n 1, 1) := by decide +kernel
theorem dX5_isFree_30 : decode cX5_isFree 30 = .ok (.iaload, 1) := by decide +kernel
theorem dX5_isFree_31 : decode cX5_isFree 31 = .ok (.iadd, 1) := by decide +kernel
theorem dX5_isFree_32 : decode cX5_isFree 32 = .ok (.istore_n 2, 1) := by decide +kernel
theorem dX5_isFree_33 : decode cX5_isFree 33 = .ok (.iload_n 2, 1) := by decide +kernel
theorem dX5_isFree_34 : decode cX5_isFree 34 = .ok (.aload_n 0, 1) := by decide +kernel
theorem dX5_isFree_35 : decode cX5_isFree 35 = .ok (.getfield 24, 3) := by decide +kernel
theorem dX5_isFree_38 : decode cX5_isFree 38 = .ok (.getfield 91, 3) := by decide +kernel
theorem dX5_isFree_41 : decode cX5_isFree 41 = .ok (.if_icmp .lt 5, 3) := by decide +kernel
theorem dX5_isFree_44 : decode cX5_isFree 44 = .ok (.iconst 1, 1) := by decide +kernel
theorem dX5_isFree_45 : decode cX5_isFree 45 = .ok (.ireturn, 1) := by decide +kernel
theorem dX5_isFree_46 : decode cX5_isFree 46 = .ok (.aload_n 0, 1) := by decide +kernel
theorem dX5_isFree_47 : decode cX5_isFree 47 = .ok (.getfield 31, 3) := by decide +kernel
theorem dX5_isFree_50 : decode cX5_isFree 50 = .ok (.getfield 63, 3) := by decide +kernel
theorem dX5_isFree_53 : decode cX5_isFree 53 = .ok (.iload_n 1, 1) := by decide +kernel
theorem dX5_isFree_54 : decode cX5_isFree 54 = .ok (.iaload, 1) := by decide +kernel
theorem dX5_isFree_55 : decode cX5_isFree 55 = .ok (.istore_n 3, 1) := by decide +kernel
theorem dX5_isFree_56 : decode cX5_isFree 56 = .ok (.iload_n 3, 1) := by decide +kernel
theorem dX5_isFree_57 : decode cX5_isFree 57 = .ok (.aload_n 0, 1) := by decide +kernel
theorem dX5_isFree_58 : decode cX5_isFree 58 = .ok (.getfield 31, 3) := by decide +kernel
theorem dX5_isFree_61 : decode cX5_isFree 61 = .ok (.getfield 63, 3) := by decide +kernel
theorem dX5_isFree_64 : decode cX5_isFree 64 = .ok (.iload_n 1, 1) := by decide +kernel
theorem dX5_isFree_65 : decode cX5_isFree 65 = .ok (.iaload, 1) := by decide +kernel
theorem dX5_isFree_66 : decode cX5_isFree 66 = .ok (.aload_n 0, 1) := by decide +kernel
theorem dX5_isFree_67 : decode cX5_isFree 67 = .ok (.getfield 31, 3) := by decide +kernel
theorem dX5_isFree_70 : decode cX5_isFree 70 = .ok (.getfield 67, 3) := by decide +kernel
theorem dX5_isFree_73 : decode cX5_isFree 73 = .ok (.iload_n 1, 1) := by decide +kernel
theorem dX5_isFree_74 : decode cX5_isFree 74 = .ok (.iaload, 1) := by decide +kernel
theorem dX5_isFree_75 : decode cX5_isFree 75 = .ok (.iadd, 1) := by decide +kernel
theorem dX5_isFree_76 : decode cX5_isFree 76 = .ok (.if_icmp .ge 34, 3) := by decide +kernel
theorem dX5_isFree_79 : decode cX5_isFree 79 = .ok (.aload_n 0, 1) := by decide +kernel
theorem dX5_isFree_80 : decode cX5_isFree 80 = .ok (.getfield 45, 3) := by decide +kernel
theorem dX5_isFree_83 : decode cX5_isFree 83 = .ok (.aload_n 0, 1) := by decide +kernel
theorem dX5_isFree_84 : decode cX5_isFree 84 = .ok (.getfield 31, 3) := by decide +kernel
theorem dX5_isFree_87 : decode cX5_isFree 87 = .ok (.getfield 93, 3) := by decide +kernel
theorem dX5_isFree_90 : decode cX5_isFree 90 = .ok (.iload_n 3, 1) := by decide +kernel
theorem dX5_isFree_91 : decode cX5_isFree 91 = .ok (.iload_n 2, 1) := by decide +kernel
theorem dX5_isFree_92 : decode cX5_isFree 92 = .ok (.invokestatic 96, 3) := by decide +kernel
theorem dX5_isFree_95 : decode cX5_isFree 95 = .ok (.iaload, 1) := by decide +kernel
theorem dX5_isFree_96 : decode cX5_isFree 96 = .ok (.invokevirtual 87, 3) := by decide +kernel
theorem dX5_isFree_99 : decode cX5_isFree 99 = .ok (.ifCond .ne 5, 3) := by decide +kernel
theorem dX5_isFree_102 : decode cX5_isFree 102 = .ok (.iconst 0, 1) := by decide +kernel
theorem dX5_isFree_103 : decode cX5_isFree 103 = .ok (.ireturn, 1) := by decide +kernel
theorem dX5_isFree_104 : decode cX5_isFree 104 = .ok (.iinc 3 1, 3) := by decide +kernel
theorem dX5_isFree_107 : decode cX5_isFree 107 = .ok (.goto (-51), 3) := by decide +kernel
theorem dX5_isFree_110 : decode cX5_isFree 110 = .ok (.iconst 1, 1) := by decide +kernel
theorem dX5_isFree_111 : decode cX5_isFree 111 = .ok (.ireturn, 1) := by decide +kernel
theorem dX5_wideOf_0 : decode cX5_wideOf 0 = .ok (.sipush 200, 3) := by decide +kernel
theorem dX5_wideOf_3 : decode cX5_wideOf 3 = .ok (.aload_n 0, 1) := by decide +kernel
theorem dX5_wideOf_4 : decode cX5_wideOf 4 = .ok (.getfield 31, 3) := by decide +kernel
theorem dX5_wideOf_7 : decode cX5_wideOf 7 = .ok (.getfield 67, 3) := by decide +kernel
theorem dX5_wideOf_10 : decode cX5_wideOf 10 = .ok (.iload_n 1, 1) := by decide +kernel
theorem dX5_wideOf_11 : decode cX5_wideOf 11 = .ok (.iaload, 1) := by decide +kernel
theorem dX5_wideOf_12 : decode cX5_wideOf 12 = .ok (.imul, 1) := by decide +kernel
theorem dX5_wideOf_13 : decode cX5_wideOf 13 = .ok (.istore_n 2, 1) := by decide +kernel
theorem dX5_wideOf_14 : decode cX5_wideOf 14 = .ok (.aload_n 0, 1) := by decide +kernel
theorem dX5_wideOf_15 : decode cX5_wideOf 15 = .ok (.getfield 31, 3) := by decide +kernel
theorem dX5_wideOf_18 : decode cX5_wideOf 18 = .ok (.getfield 63, 3) := by decide +kernel
theorem dX5_wideOf_21 : decode cX5_wideOf 21 = .ok (.iload_n 1, 1) := by decide +kernel
theorem dX5_wideOf_22 : decode cX5_wideOf 22 = .ok (.iaload, 1) := by decide +kernel
theorem dX5_wideOf_23 : decode cX5_wideOf 23 = .ok (.ifCond .le 10, 3) := by decide +kernel
theorem dX5_wideOf_26 : decode cX5_wideOf 26 = .ok (.iload_n 2, 1) := by decide +kernel
theorem dX5_wideOf_27 : decode cX5_wideOf 27 = .ok (.aload_n 0, 1) := by decide +kernel
theorem dX5_wideOf_28 : decode cX5_wideOf 28 = .ok (.getfield 15, 3) := by decide +kernel
theorem dX5_wideOf_31 : decode cX5_wideOf 31 = .ok (.isub, 1) := by decide +kernel
theorem dX5_wideOf_32 : decode cX5_wideOf 32 = .ok (.istore_n 2, 1) := by decide +kernel
theorem dX5_wideOf_33 : decode cX5_wideOf 33 = .ok (.aload_n 0, 1) := by decide +kernel
theorem dX5_wideOf_34 : decode cX5_wideOf 34 = .ok (.getfield 31, 3) := by decide +kernel
theorem dX5_wideOf_37 : decode cX5_wideOf 37 = .ok (.getfield 63, 3) := by decide +kernel
theorem dX5_wideOf_40 : decode cX5_wideOf 40 = .ok (.iload_n 1, 1) := by decide +kernel
theorem dX5_wideOf_41 : decode cX5_wideOf 41 = .ok (.iaload, 1) := by decide +kernel
theorem dX5_wideOf_42 : decode cX5_wideOf 42 = .ok (.aload_n 0, 1) := by decide +kernel
theorem dX5_wideOf_43 : decode cX5_wideOf 43 = .ok (.getfield 31, 3) := by decide +kernel
theorem dX5_wideOf_46 : decode cX5_wideOf 46 = .ok (.getfield 67, 3) := by decide +kernel
theorem dX5_wideOf_49 : decode cX5_wideOf 49 = .ok (.iload_n 1, 1) := by decide +kernel
theorem dX5_wideOf_50 : decode cX5_wideOf 50 = .ok (.iaload, 1) := by decide +kernel
theorem dX5_wideOf_51 : decode cX5_wideOf 51 = .ok (.iadd, 1) := by decide +kernel
theorem dX5_wideOf_52 : decode cX5_wideOf 52 = .ok (.aload_n 0, 1) := by decide +kernel
theorem dX5_wideOf_53 : decode cX5_wideOf 53 = .ok (.getfield 24, 3) := by decide +kernel
theorem dX5_wideOf_56 : decode cX5_wideOf 56 = .ok (.getfield 100, 3) := by decide +kernel
theorem dX5_wideOf_59 : decode cX5_wideOf 59 = .ok (.if_icmp .ge 10, 3) := by decide +kernel
theorem dX5_wideOf_62 : decode cX5_wideOf 62 = .ok (.iload_n 2, 1) := by decide +kernel
theorem dX5_wideOf_63 : decode cX5_wideOf 63 = .ok (.aload_n 0, 1) := by decide +kernel
theorem dX5_wideOf_64 : decode cX5_wideOf 64 = .ok (.getfield 15, 3) := by decide +kernel
theorem dX5_wideOf_67 : decode cX5_wideOf 67 = .ok (.isub, 1) := by decide +kernel
theorem dX5_wideOf_68 : decode cX5_wideOf 68 = .ok (.istore_n 2, 1) := by decide +kernel
theorem dX5_wideOf_69 : decode cX5_wideOf 69 = .ok (.iload_n 2, 1) := by decide +kernel
theorem dX5_wideOf_70 : decode cX5_wideOf 70 = .ok (.ireturn, 1) := by decide +kernel
theorem dX5_become_0 : decode cX5_become 0 = .ok (.aload_n 0, 1) := by decide +kernel
theorem dX5_become_1 : decode cX5_become 1 = .ok (.aload_n 1, 1) := by decide +kernel
theorem dX5_become_2 : decode cX5_become 2 = .ok (.getfield 11, 3) := by decide +kernel
theorem dX5_become_5 : decode cX5_become 5 = .ok (.putfield 11, 3) := by decide +kernel
theorem dX5_become_8 : decode cX5_become 8 = .ok (.aload_n 0, 1) := by decide +kernel
theorem dX5_become_9 : decode cX5_become 9 = .ok (.aload_n 1, 1) := by decide +kernel
theorem dX5_become_10 : decode cX5_become 10 = .ok (.getfield 15, 3) := by decide +kernel
theorem dX5_become_13 : decode cX5_become 13 = .ok (.putfield 15, 3) := by decide +kernel
theorem dX5_become_16 : decode cX5_become 16 = .ok (.aload_n 0, 1) := by decide +kernel
theorem dX5_become_17 : decode cX5_become 17 = .ok (.aload_n 1, 1) := by decide +kernel
theorem dX5_become_18 : decode cX5_become 18 = .ok (.getfield 18, 3) := by decide +kernel
theorem dX5_become_21 : decode cX5_become 21 = .ok (.putfield 18, 3) := by decide +kernel
theorem dX5_become_24 : decode cX5_become 24 = .ok (.aload_n 0, 1) := by decide +kernel
theorem dX5_become_25 : decode cX5_become 25 = .ok (.getfield 24, 3) := by decide +kernel
theorem dX5_become_28 : decode cX5_become 28 = .ok (.aload_n 1, 1) := by decide +kernel
theorem dX5_become_29 : decode cX5_become 29 = .ok (.getfield 24, 3) := by decide +kernel
theorem dX5_become_32 : decode cX5_become 32 = .ok (.invokevirtual 102, 3) := by decide +kernel
theorem dX5_become_35 : decode cX5_become 35 = .ok (.aload_n 0, 1) := by decide +kernel
theorem dX5_become_36 : decode cX5_become 36 = .ok (.getfield 31, 3) := by decide +kernel
theorem dX5_become_39 : decode cX5_become 39 = .ok (.aload_n 1, 1) := by decide +kernel
theorem dX5_become_40 : decode cX5_become 40 = .ok (.getfield 31, 3) := by decide +kernel
theorem dX5_become_43 : decode cX5_become 43 = .ok (.invokevirtual 106, 3) := by decide +kernel
theorem dX5_become_46 : decode cX5_become 46 = .ok (.aload_n 0, 1) := by decide +kernel
theorem dX5_become_47 : decode cX5_become 47 = .ok (.getfield 38, 3) := by decide +kernel
theorem dX5_become_50 : decode cX5_become 50 = .ok (.aload_n 1, 1) := by decide +kernel
theorem dX5_become_51 : decode cX5_become 51 = .ok (.getfield 38, 3) := by decide +kernel
theorem dX5_become_54 : decode cX5_become 54 = .ok (.invokevirtual 109, 3) := by decide +kernel
theorem dX5_become_57 : decode cX5_become 57 = .ok (.aload_n 0, 1) := by decide +kernel
theorem dX5_become_58 : decode cX5_become 58 = .ok (.getfield 45, 3) := by decide +kernel
theorem dX5_become_61 : decode cX5_become 61 = .ok (.aload_n 1, 1) := by decide +kernel
theorem dX5_become_62 : decode cX5_become 62 = .ok (.getfield 45, 3) := by decide +kernel
theorem dX5_become_65 : decode cX5_become 65 = .ok (.invokevirtual 112, 3) := by decide +kernel
theorem dX5_become_68 : decode cX5_become 68 = .ok (.aload_n 0, 1) := by decide +kernel
theorem dX5_become_69 : decode cX5_become 69 = .ok (.getfield 52, 3) := by decide +kernel
theorem dX5_become_72 : decode cX5_become 72 = .ok (.aload_n 1, 1) := by decide +kernel
theorem dX5_become_73 : decode cX5_become 73 = .ok (.getfield 52, 3) := by decide +kernel
theorem dX5_become_76 : decode cX5_become 76 = .ok (.invokevirtual 115, 3) := by decide +kernel
theorem dX5_become_79 : decode cX5_become 79 = .ok (.return_, 1) := by decide +kernel
theorem dX6_direction_0 : decode cX6_direction 0 = .ok (.iconst 4, 1) := by decide +kernel
theorem dX6_direction_1 : decode cX6_direction 1 = .ok (.iload_n 0, 1) := by decide +kernel
theorem dX6_direction_2 : decode cX6_direction 2 = .ok (.imul, 1) := by decide +kernel
theorem dX6_direction_3 : decode cX6_direction 3 = .ok (.sipush 1460, 3) := by decide +kernel
theorem dX6_direction_6 : decode cX6_direction 6 = .ok (.irem, 1) := by decide +kernel
theorem dX6_direction_7 : decode cX6_direction 7 = .ok (.sipush 730, 3) := by decide +kernel
theorem dX6_direction_10 : decode cX6_direction 10 = .ok (.isub, 1) := by decide +kernel
theorem dX6_direction_11 : decode cX6_direction 11 = .ok (.invokestatic 9, 3) := by decide +kernel
theorem dX6_direction_14 : decode cX6_direction 14 = .ok (.sipush 365, 3) := by decide +kernel
theorem dX6_direction_17 : decode cX6_direction 17 = .ok (.isub, 1) := by decide +kernel
theorem dX6_direction_18 : decode cX6_direction 18 = .ok (.ireturn, 1) := by decide +kernel
theorem dX6_daysBetween_0 : decode cX6_daysBetween 0 = .ok (.iload_n 0, 1) := by decide +kernel
theorem dX6_daysBetween_1 : decode cX6_daysBetween 1 = .ok (.iload_n 1, 1) := by decide +kernel
theorem dX6_daysBetween_2 : decode cX6_daysBetween 2 = .ok (.if_icmp .le 7, 3) := by decide +kernel
theorem dX6_daysBetween_5 : decode cX6_daysBetween 5 = .ok (.iconst 0, 1) := by decide +kernel
theorem dX6_daysBetween_6 : decode cX6_daysBetween 6 = .ok (.goto 14, 3) := by decide +kernel
theorem dX6_daysBetween_9 : decode cX6_daysBetween 9 = .ok (.iload_n 1, 1) := by decide +kernel
theorem dX6_daysBetween_10 : decode cX6_daysBetween 10 = .ok (.invokestatic 15, 3) := by decide +kernel
theorem dX6_daysBetween_13 : decode cX6_daysBetween 13 = .ok (.iload_n 0, 1) := by decide +kernel
theorem dX6_daysBetween_14 : decode cX6_daysBetween 14 = .ok (.iconst 1, 1) := by decide +kernel
theorem dX6_daysBetween_15 : decode cX6_daysBetween 15 = .ok (.isub, 1) := by decide +kernel
theorem dX6_daysBetween_16 : decode cX6_daysBetween 16 = .ok (.invokestatic 15, 3) := by decide +kernel
theorem dX6_daysBetween_19 : decode cX6_daysBetween 19 = .ok (.isub, 1) := by decide +kernel
theorem dX6_daysBetween_20 : decode cX6_daysBetween 20 = .ok (.ireturn, 1) := by decide +kernel
theorem dX6_daysUpTo_0 : decode cX6_daysUpTo 0 = .ok (.iload_n 0, 1) := by decide +kernel
theorem dX6_daysUpTo_1 : decode cX6_daysUpTo 1 = .ok (.sipush (-363), 3) := by decide +kernel
theorem dX6_daysUpTo_4 : decode cX6_daysUpTo 4 = .ok (.if_icmp .ge 5, 3) := by decide +kernel
theorem dX6_daysUpTo_7 : decode cX6_daysUpTo 7 = .ok (.iconst 0, 1) := by decide +kernel
theorem dX6_daysUpTo_8 : decode cX6_daysUpTo 8 = .ok (.ireturn, 1) := by decide +kernel
theorem dX6_daysUpTo_9 : decode cX6_daysUpTo 9 = .ok (.iload_n 0, 1) := by decide +kernel
theorem dX6_daysUpTo_10 : decode cX6_daysUpTo 10 = .ok (.sipush 365, 3) := by decide +kernel
theorem dX6_daysUpTo_13 : decode cX6_daysUpTo 13 = .ok (.if_icmp .lt 7, 3) := by decide +kernel
theorem dX6_daysUpTo_16 : decode cX6_daysUpTo 16 = .ok (.sipush 365, 3) := by decide +kernel
theorem dX6_daysUpTo_19 : decode cX6_daysUpTo 19 = .ok (.ireturn, 1) := by decide +kernel
theorem dX6_daysUpTo_20 : decode cX6_daysUpTo 20 = .ok (.iconst 2, 1) := by decide +kernel
theorem dX6_daysUpTo_21 : decode cX6_daysUpTo 21 = .ok (.iload_n 0, 1) := by decide +kernel
theorem dX6_daysUpTo_22 : decode cX6_daysUpTo 22 = .ok (.sipush (-363), 3) := by decide +kernel
theorem dX6_daysUpTo_25 : decode cX6_daysUpTo 25 = .ok (.isub, 1) := by decide +kernel
theorem dX6_daysUpTo_26 : decode cX6_daysUpTo 26 = .ok (.iconst 4, 1) := by decide +kernel
theorem dX6_daysUpTo_27 : decode cX6_daysUpTo 27 = .ok (.idiv, 1) := by decide +kernel
theorem dX6_daysUpTo_28 : decode cX6_daysUpTo 28 = .ok (.iconst 1, 1) := by decide +kernel
theorem dX6_daysUpTo_29 : decode cX6_daysUpTo 29 = .ok (.iadd, 1) := by decide +kernel
theorem dX6_daysUpTo_30 : decode cX6_daysUpTo 30 = .ok (.imul, 1) := by decide +kernel
theorem dX6_daysUpTo_31 : decode cX6_daysUpTo 31 = .ok (.ireturn, 1) := by decide +kernel
theorem dX6_mostAlike_0 : decode cX6_mostAlike 0 = .ok (.iload_n 0, 1) := by decide +kernel
theorem dX6_mostAlike_1 : decode cX6_mostAlike 1 = .ok (.iload_n 1, 1) := by decide +kernel
theorem dX6_mostAlike_2 : decode cX6_mostAlike 2 = .ok (.isub, 1) := by decide +kernel
theorem dX6_mostAlike_3 : decode cX6_mostAlike 3 = .ok (.iload_n 0, 1) := by decide +kernel
theorem dX6_mostAlike_4 : decode cX6_mostAlike 4 = .ok (.iload_n 1, 1) := by decide +kernel
theorem dX6_mostAlike_5 : decode cX6_mostAlike 5 = .ok (.iadd, 1) := by decide +kernel
theorem dX6_mostAlike_6 : decode cX6_mostAlike 6 = .ok (.invokestatic 20, 3) := by decide +kernel
theorem dX6_mostAlike_9 : decode cX6_mostAlike 9 = .ok (.istore_n 3, 1) := by decide +kernel
theorem dX6_mostAlike_10 : decode cX6_mostAlike 10 = .ok (.sipush (-400), 3) := by decide +kernel
theorem dX6_mostAlike_13 : decode cX6_mostAlike 13 = .ok (.istore 4, 2) := by decide +kernel
theorem dX6_mostAlike_15 : decode cX6_mostAlike 15 = .ok (.sipush 730, 3) := by decide +kernel
theorem dX6_mostAlike_18 : decode cX6_mostAlike 18 = .ok (.istore 5, 2) := by decide +kernel
theorem dX6_mostAlike_20 : decode cX6_mostAlike 20 = .ok (.sipush (-400), 3) := by decide +kernel
theorem dX6_mostAlike_23 : decode cX6_mostAlike 23 = .ok (.istore 6, 2) := by decide +kernel
theorem dX6_mostAlike_25 : decode cX6_mostAlike 25 = .ok (.iload 6, 2) := by decide +kernel
theorem dX6_mostAlike_27 : decode cX6_mostAlike 27 = .ok (.sipush 400, 3) := by decide +kernel
theorem dX6_mostAlike_30 : decode cX6_mostAlike 30 = .ok (.if_icmp .gt 73, 3) := by decide +kernel
theorem dX6_mostAlike_33 : decode cX6_mostAlike 33 = .ok (.iload 6, 2) := by decide +kernel
theorem dX6_mostAlike_35 : decode cX6_mostAlike 35 = .ok (.iload_n 2, 1) := by decide +kernel
theorem dX6_mostAlike_36 : decode cX6_mostAlike 36 = .ok (.isub, 1) := by decide +kernel
theorem dX6_mostAlike_37 : decode cX6_mostAlike 37 = .ok (.iload 6, 2) := by decide +kernel
theorem dX6_mostAlike_39 : decode cX6_mostAlike 39 = .ok (.iload_n 2, 1) := by decide +kernel
theorem dX6_mostAlike_40 : decode cX6_mostAlike 40 = .ok (.iadd, 1) := by decide +kernel
theorem dX6_mostAlike_41 : decode cX6_mostAlike 41 = .ok (.invokestatic 20, 3) := by decide +kernel
theorem dX6_mostAlike_44 : decode cX6_mostAlike 44 = .ok (.istore 7, 2) := by decide +kernel
theorem dX6_mostAlike_46 : decode cX6_mostAlike 46 = .ok (.iload_n 0, 1) := by decide +kernel
theorem dX6_mostAlike_47 : decode cX6_mostAlike 47 = .ok (.iload_n 1, 1) := by decide +kernel
theorem dX6_mostAlike_48 : decode cX6_mostAlike 48 = .ok (.isub, 1) := by decide +kernel
theorem dX6_mostAlike_49 : decode cX6_mostAlike 49 = .ok (.iload 6, 2) := by decide +kernel
theorem dX6_mostAlike_51 : decode cX6_mostAlike 51 = .ok (.iload_n 2, 1) := by decide +kernel
theorem dX6_mostAlike_52 : decode cX6_mostAlike 52 = .ok (.isub, 1) := by decide +kernel
theorem dX6_mostAlike_53 : decode cX6_mostAlike 53 = .ok (.invokestatic 24, 3) := by decide +kernel
theorem dX6_mostAlike_56 : decode cX6_mostAlike 56 = .ok (.iload_n 0, 1) := by decide +kernel
theorem dX6_mostAlike_57 : decode cX6_mostAlike 57 = .ok (.iload_n 1, 1) := by decide +kernel
theorem dX6_mostAlike_58 : decode cX6_mostAlike 58 = .ok (.iadd, 1) := by decide +kernel
theorem dX6_mostAlike_59 : decode cX6_mostAlike 59 = .ok (.iload 6, 2) := by decide +kernel
theorem dX6_mostAlike_61 : decode cX6_mostAlike 61 = .ok (.iload_n 2, 1) := by decide +kernel
theorem dX6_mostAlike_62 : decode cX6_mostAlike 62 = .ok (.iadd, 1) := by decide +kernel
theorem dX6_mostAlike_63 : decode cX6_mostAlike 63 = .ok (.invokestatic 27, 3) := by decide +kernel
theorem dX6_mostAlike_66 : decode cX6_mostAlike 66 = .ok (.invokestatic 20, 3) := by decide +kernel
theorem dX6_mostAlike_69 : decode cX6_mostAlike 69 = .ok (.istore 8, 2) := by decide +kernel
theorem dX6_mostAlike_71 : decode cX6_mostAlike 71 = .ok (.iload_n 3, 1) := by decide +kernel
theorem dX6_mostAlike_72 : decode cX6_mostAlike 72 = .ok (.iload 7, 2) := by decide +kernel
theorem dX6_mostAlike_74 : decode cX6_mostAlike 74 = .ok (.iadd, 1) := by decide +kernel
theorem dX6_mostAlike_75 : decode cX6_mostAlike 75 = .ok (.iconst 2, 1) := by decide +kernel
theorem dX6_mostAlike_76 : decode cX6_mostAlike 76 = .ok (.iload 8, 2) := by decide +kernel
theorem dX6_mostAlike_78 : decode cX6_mostAlike 78 = .ok (.imul, 1) := by decide +kernel
theorem dX6_mostAlike_79 : decode cX6_mostAlike 79 = .ok (.isub, 1) := by decide +kernel
theorem dX6_mostAlike_80 : decode cX6_mostAlike 80 = .ok (.istore 9, 2) := by decide +kernel
theorem dX6_mostAlike_82 : decode cX6_mostAlike 82 = .ok (.iload 9, 2) := by decide +kernel
theorem dX6_mostAlike_84 : decode cX6_mostAlike 84 = .ok (.iload 5, 2) := by decide +kernel
theorem dX6_mostAlike_86 : decode cX6_mostAlike 86 = .ok (.if_icmp .ge 11, 3) := by decide +kernel
theorem dX6_mostAlike_89 : decode cX6_mostAlike 89 = .ok (.iload 6, 2) := by decide +kernel
theorem dX6_mostAlike_91 : decode cX6_mostAlike 91 = .ok (.istore 4, 2) := by decide +kernel
theorem dX6_mostAlike_93 : decode cX6_mostAlike 93 = .ok (.iload 9, 2) := by decide +kernel
theorem dX6_mostAlike_95 : decode cX6_mostAlike 95 = .ok (.istore 5, 2) := by decide +kernel
theorem dX6_mostAlike_97 : decode cX6_mostAlike 97 = .ok (.iinc 6 1, 3) := by decide +kernel
theorem dX6_mostAlike_100 : decode cX6_mostAlike 100 = .ok (.goto (-75), 3) := by decide +kernel
theorem dX6_mostAlike_103 : decode cX6_mostAlike 103 = .ok (.iload 4, 2) := by decide +kernel
theorem dX6_mostAlike_105 : decode cX6_mostAlike 105 = .ok (.ireturn, 1) := by decide +kernel
theorem dX7_init_0 : decode cX7_init 0 = .ok (.aload_n 0, 1) := by decide +kernel
theorem dX7_init_1 : decode cX7_init 1 = .ok (.invokespecial 3, 3) := by decide +kernel
theorem dX7_init_4 : decode cX7_init 4 = .ok (.aload_n 0, 1) := by decide +kernel
theorem dX7_init_5 : decode cX7_init 5 = .ok (.bipush 64, 2) := by decide +kernel
theorem dX7_init_7 : decode cX7_init 7 = .ok (.newarray .int, 2) := by decide +kernel
theorem dX7_init_9 : decode cX7_init 9 = .ok (.putfield 9, 3) := by decide +kernel
theorem dX7_init_12 : decode cX7_init 12 = .ok (.aload_n 0, 1) := by decide +kernel
theorem dX7_init_13 : decode cX7_init 13 = .ok (.bipush 64, 2) := by decide +kernel
theorem dX7_init_15 : decode cX7_init 15 = .ok (.newarray .int, 2) := by decide +kernel
theorem dX7_init_17 : decode cX7_init 17 = .ok (.putfield 15, 3) := by decide +kernel
theorem dX7_init_20 : decode cX7_init 20 = .ok (.aload_n 0, 1) := by decide +kernel
theorem dX7_init_21 : decode cX7_init 21 = .ok (.iconst 4, 1) := by decide +kernel
theorem dX7_init_22 : decode cX7_init 22 = .ok (.iconst 4, 1) := by decide +kernel
theorem dX7_init_23 : decode cX7_init 23 = .ok (.invokevirtual 18, 3) := by decide +kernel
theorem dX7_init_26 : decode cX7_init 26 = .ok (.return_, 1) := by decide +kernel
theorem dX7_build_0 : decode cX7_build 0 = .ok (.aload_n 0, 1) := by decide +kernel
theorem dX7_build_1 : decode cX7_build 1 = .ok (.iload_n 1, 1) := by decide +kernel
theorem dX7_build_2 : decode cX7_build 2 = .ok (.putfield 22, 3) := by decide +kernel
theorem dX7_build_5 : decode cX7_build 5 = .ok (.aload_n 0, 1) := by decide +kernel
theorem dX7_build_6 : decode cX7_build 6 = .ok (.iload_n 2, 1) := by decide +kernel
theorem dX7_build_7 : decode cX7_build 7 = .ok (.putfield 26, 3) := by decide +kernel
theorem dX7_build_10 : decode cX7_build 10 = .ok (.aload_n 0, 1) := by decide +kernel
theorem dX7_build_11 : decode cX7_build 11 = .ok (.getfield 9, 3) := by decide +kernel
theorem dX7_build_14 : decode cX7_build 14 = .ok (.bipush 10, 2) := by decide +kernel
theorem dX7_build_16 : decode cX7_build 16 = .ok (.invokestatic 29, 3) := by decide +kernel
theorem dX7_build_19 : decode cX7_build 19 = .ok (.aload_n 0, 1) := by decide +kernel
theorem dX7_build_20 : decode cX7_build 20 = .ok (.getfield 15, 3) := by decide +kernel
theorem dX7_build_23 : decode cX7_build 23 = .ok (.iconst 0, 1) := by decide +kernel
theorem dX7_build_24 : decode cX7_build 24 = .ok (.invokestatic 29, 3) := by decide +kernel
theorem dX7_build_27 : decode cX7_build 27 = .ok (.return_, 1) := by decide +kernel
theorem dX7_has_0 : decode cX7_has 0 = .ok (.iload_n 1, 1) := by decide +kernel
theorem dX7_has_1 : decode cX7_has 1 = .ok (.iconst 0, 1) := by decide +kernel
theorem dX7_has_2 : decode cX7_has 2 = .ok (.aload_n 0, 1) := by decide +kernel
theorem dX7_has_3 : decode cX7_has 3 = .ok (.getfield 22, 3) := by decide +kernel
theorem dX7_has_6 : decode cX7_has 6 = .ok (.iconst 1, 1) := by decide +kernel
theorem dX7_has_7 : decode cX7_has 7 = .ok (.isub, 1) := by decide +kernel
theorem dX7_has_8 : decode cX7_has 8 = .ok (.invokestatic 35, 3) := by decide +kernel
theorem dX7_has_11 : decode cX7_has 11 = .ok (.ifCond .eq 21, 3) := by decide +kernel
theorem dX7_has_14 : decode cX7_has 14 = .ok (.iload_n 2, 1) := by decide +kernel
theorem dX7_has_15 : decode cX7_has 15 = .ok (.iconst 0, 1) := by decide +kernel
theorem dX7_has_16 : decode cX7_has 16 = .ok (.aload_n 0, 1) := by decide +kernel
theorem dX7_has_17 : decode cX7_has 17 = .ok (.getfield 26, 3) := by decide +kernel
theorem dX7_has_20 : decode cX7_has 20 = .ok (.iconst 1, 1) := by decide +kernel
theorem dX7_has_21 : decode cX7_has 21 = .ok (.isub, 1) := by decide +kernel
theorem dX7_has_22 : decode cX7_has 22 = .ok (.invokestatic 35, 3) := by decide +kernel
theorem dX7_has_25 : decode cX7_has 25 = .ok (.ifCond .eq 7, 3) := by decide +kernel
theorem dX7_has_28 : decode cX7_has 28 = .ok (.iconst 1, 1) := by decide +kernel
theorem dX7_has_29 : decode cX7_has 29 = .ok (.goto 4, 3) := by decide +kernel
theorem dX7_has_32 : decode cX7_has 32 = .ok (.iconst 0, 1) := by decide +kernel
theorem dX7_has_33 : decode cX7_has 33 = .ok (.ireturn, 1) := by decide +kernel
theorem dX7_isOneCarving_0 : decode cX7_isOneCarving 0 = .ok (.aload_n 0, 1) := by decide +kernel
theorem dX7_isOneCarving_1 : decode cX7_isOneCarving 1 = .ok (.getfield 15, 3) := by decide +kernel
theorem dX7_isOneCarving_4 : decode cX7_isOneCarving 4 = .ok (.iload_n 1, 1) := by decide +kernel
theorem dX7_isOneCarving_5 : decode cX7_isOneCarving 5 = .ok (.iaload, 1) := by decide +kernel
theorem dX7_isOneCarving_6 : decode cX7_isOneCarving 6 = .ok (.ifCond .eq 22, 3) := by decide +kernel
theorem dX7_isOneCarving_9 : decode cX7_isOneCarving 9 = .ok (.aload_n 0, 1) := by decide +kernel
theorem dX7_isOneCarving_10 : decode cX7_isOneCarving 10 = .ok (.getfield 15, 3) := by decide +kernel
theorem dX7_isOneCarving_13 : decode cX7_isOneCarving 13 = .ok (.iload_n 1, 1) := by decide +kernel
theorem dX7_isOneCarving_14 : decode cX7_isOneCarving 14 = .ok (.iaload, 1) := by decide +kernel
theorem dX7_isOneCarving_15 : decode cX7_isOneCarving 15 = .ok (.aload_n 0, 1) := by decide +kernel
theorem dX7_isOneCarving_16 : decode cX7_isOneCarving 16 = .ok (.getfield 15, 3) := by decide +kernel
theorem dX7_isOneCarving_19 : decode cX7_isOneCarving 19 = .ok (.iload_n 2, 1) := by decide +kernel
theorem dX7_isOneCarving_20 : decode cX7_isOneCarving 20 = .ok (.iaload, 1) := by decide +kernel
theorem dX7_isOneCarving_21 : decode cX7_isOneCarving 21 = .ok (.if_icmp .ne 7, 3) := by decide +kernel
theorem dX7_isOneCarving_24 : decode cX7_isOneCarving 24 = .ok (.iconst 1, 1) := by decide +kernel
theorem dX7_isOneCarving_25 : decode cX7_isOneCarving 25 = .ok (.goto 4, 3) := by decide +kernel
theorem dX7_isOneCarving_28 : decode cX7_isOneCarving 28 = .ok (.iconst 0, 1) := by decide +kernel
theorem dX7_isOneCarving_29 : decode cX7_isOneCarving 29 = .ok (.ireturn, 1) := by decide +kernel
theorem dX7_weightOf_0 : decode cX7_weightOf 0 = .ok (.iconst 0, 1) := by decide +kernel
theorem dX7_weightOf_1 : decode cX7_weightOf 1 = .ok (.istore 5, 2) := by decide +kernel
theorem dX7_weightOf_3 : decode cX7_weightOf 3 = .ok (.iload_n 3, 1) := by decide +kernel
theorem dX7_weightOf_4 : decode cX7_weightOf 4 = .ok (.istore 6, 2) := by decide +kernel
theorem dX7_weightOf_6 : decode cX7_weightOf 6 = .ok (.iload 6, 2) := by decide +kernel
theorem dX7_weightOf_8 : decode cX7_weightOf 8 = .ok (.iload_n 3, 1) := by decide +kernel
theorem dX7_weightOf_9 : decode cX7_weightOf 9 = .ok (.iload 4, 2) := by decide +kernel
theorem dX7_weightOf_11 : decode cX7_weightOf 11 = .ok (.iadd, 1) := by decide +kernel
theorem dX7_weightOf_12 : decode cX7_weightOf 12 = .ok (.if_icmp .ge 43, 3) := by decide +kernel
theorem dX7_weightOf_15 : decode cX7_weightOf 15 = .ok (.iload_n 1, 1) := by decide +kernel
theorem dX7_weightOf_16 : decode cX7_weightOf 16 = .ok (.istore 7, 2) := by decide +kernel
theorem dX7_weightOf_18 : decode cX7_weightOf 18 = .ok (.iload 7, 2) := by decide +kernel
theorem dX7_weightOf_20 : decode cX7_weightOf 20 = .ok (.iload_n 1, 1) := by decide +kernel
theorem dX7_weightOf_21 : decode cX7_weightOf 21 = .ok (.iload_n 2, 1) := by decide +kernel
theorem dX7_weightOf_22 : decode cX7_weightOf 22 = .ok (.iadd, 1) := by decide +kernel
theorem dX7_weightOf_23 : decode cX7_weightOf 23 = .ok (.if_icmp .ge 26, 3) := by decide +kernel
theorem dX7_weightOf_26 : decode cX7_weightOf 26 = .ok (.iload 5, 2) := by decide +kernel
theorem dX7_weightOf_28 : decode cX7_weightOf 28 = .ok (.aload_n 0, 1) := by decide +kernel
theorem dX7_weightOf_29 : decode cX7_weightOf 29 = .ok (.getfield 9, 3) := by decide +kernel
theorem dX7_weightOf_32 : decode cX7_weightOf 32 = .ok (.iload 7, 2) := by decide +kernel
theorem dX7_weightOf_34 : decode cX7_weightOf 34 = .ok (.iload 6, 2) := by decide +kernel
theorem dX7_weightOf_36 : decode cX7_weightOf 36 = .ok (.invokestatic 39, 3) := by decide +kernel
theorem dX7_weightOf_39 : decode cX7_weightOf 39 = .ok (.iaload, 1) := by decide +kernel
theorem dX7_weightOf_40 : decode cX7_weightOf 40 = .ok (.iadd, 1) := by decide +kernel
theorem dX7_weightOf_41 : decode cX7_weightOf 41 = .ok (.istore 5, 2) := by decide +kernel
theorem dX7_weightOf_43 : decode cX7_weightOf 43 = .ok (.iinc 7 1, 3) := by decide +kernel
theorem dX7_weightOf_46 : decode cX7_weightOf 46 = .ok (.goto (-28), 3) := by decide +kernel
theorem dX7_weightOf_49 : decode cX7_weightOf 49 = .ok (.iinc 6 1, 3) := by decide +kernel
theorem dX7_weightOf_52 : decode cX7_weightOf 52 = .ok (.goto (-46), 3) := by decide +kernel
theorem dX7_weightOf_55 : decode cX7_weightOf 55 = .ok (.iload 5, 2) := by decide +kernel
theorem dX7_weightOf_57 : decode cX7_weightOf 57 = .ok (.ireturn, 1) := by decide +kernel
theorem dX7_become_0 : decode cX7_become 0 = .ok (.aload_n 0, 1) := by decide +kernel
theorem dX7_become_1 : decode cX7_become 1 = .ok (.aload_n 1, 1) := by decide +kernel
theorem dX7_become_2 : decode cX7_become 2 = .ok (.getfield 22, 3) := by decide +kernel
theorem dX7_become_5 : decode cX7_become 5 = .ok (.putfield 22, 3) := by decide +kernel
theorem dX7_become_8 : decode cX7_become 8 = .ok (.aload_n 0, 1) := by decide +kernel
theorem dX7_become_9 : decode cX7_become 9 = .ok (.aload_n 1, 1) := by decide +kernel
theorem dX7_become_10 : decode cX7_become 10 = .ok (.getfield 26, 3) := by decide +kernel
theorem dX7_become_13 : decode cX7_become 13 = .ok (.putfield 26, 3) := by decide +kernel
theorem dX7_become_16 : decode cX7_become 16 = .ok (.aload_n 1, 1) := by decide +kernel
theorem dX7_become_17 : decode cX7_become 17 = .ok (.getfield 9, 3) := by decide +kernel
theorem dX7_become_20 : decode cX7_become 20 = .ok (.aload_n 0, 1) := by decide +kernel
theorem dX7_become_21 : decode cX7_become 21 = .ok (.getfield 9, 3) := by decide +kernel
theorem dX7_become_24 : decode cX7_become 24 = .ok (.invokestatic 43, 3) := by decide +kernel
theorem dX7_become_27 : decode cX7_become 27 = .ok (.aload_n 1, 1) := by decide +kernel
theorem dX7_become_28 : decode cX7_become 28 = .ok (.getfield 15, 3) := by decide +kernel
theorem dX7_become_31 : decode cX7_become 31 = .ok (.aload_n 0, 1) := by decide +kernel
theorem dX7_become_32 : decode cX7_become 32 = .ok (.getfield 15, 3) := by decide +kernel
theorem dX7_become_35 : decode cX7_become 35 = .ok (.invokestatic 43, 3) := by decide +kernel
theorem dX7_become_38 : decode cX7_become 38 = .ok (.return_, 1) := by decide +kernel
theorem dX8_init_0 : decode cX8_init 0 = .ok (.aload_n 0, 1) := by decide +kernel
theorem dX8_init_1 : decode cX8_init 1 = .ok (.invokespecial 3, 3) := by decide +kernel
theorem dX8_init_4 : decode cX8_init 4 = .ok (.aload_n 0, 1) := by decide +kernel
theorem dX8_init_5 : decode cX8_init 5 = .ok (.bipush 64, 2) := by decide +kernel
theorem dX8_init_7 : decode cX8_init 7 = .ok (.newarray .int, 2) := by decide +kernel
theorem dX8_init_9 : decode cX8_init 9 = .ok (.putfield 9, 3) := by decide +kernel
theorem dX8_init_12 : decode cX8_init 12 = .ok (.aload_n 0, 1) := by decide +kernel
theorem dX8_init_13 : decode cX8_init 13 = .ok (.bipush 64, 2) := by decide +kernel
theorem dX8_init_15 : decode cX8_init 15 = .ok (.newarray .int, 2) := by decide +kernel
theorem dX8_init_17 : decode cX8_init 17 = .ok (.putfield 15, 3) := by decide +kernel
theorem dX8_init_20 : decode cX8_init 20 = .ok (.aload_n 0, 1) := by decide +kernel
theorem dX8_init_21 : decode cX8_init 21 = .ok (.bipush 64, 2) := by decide +kernel
theorem dX8_init_23 : decode cX8_init 23 = .ok (.newarray .int, 2) := by decide +kernel
theorem dX8_init_25 : decode cX8_init 25 = .ok (.putfield 18, 3) := by decide +kernel
theorem dX8_init_28 : decode cX8_init 28 = .ok (.aload_n 0, 1) := by decide +kernel
theorem dX8_init_29 : decode cX8_init 29 = .ok (.bipush 64, 2) := by decide +kernel
theorem dX8_init_31 : decode cX8_init 31 = .ok (.newarray .int, 2) := by decide +kernel
theorem dX8_init_33 : decode cX8_init 33 = .ok (.putfield 21, 3) := by decide +kernel
theorem dX8_init_36 : decode cX8_init 36 = .ok (.aload_n 0, 1) := by decide +kernel
theorem dX8_init_37 : decode cX8_init 37 = .ok (.invokevirtual 24, 3) := by decide +kernel
theorem dX8_init_40 : decode cX8_init 40 = .ok (.return_, 1) := by decide +kernel
theorem dX8_clear_0 : decode cX8_clear 0 = .ok (.aload_n 0, 1) := by decide +kernel
theorem dX8_clear_1 : decode cX8_clear 1 = .ok (.iconst 0, 1) := by decide +kernel
theorem dX8_clear_2 : decode cX8_clear 2 = .ok (.putfield 27, 3) := by decide +kernel
theorem dX8_clear_5 : decode cX8_clear 5 = .ok (.aload_n 0, 1) := by decide +kernel
theorem dX8_clear_6 : decode cX8_clear 6 = .ok (.iconst 0, 1) := by decide +kernel
theorem dX8_clear_7 : decode cX8_clear 7 = .ok (.putfield 31, 3) := by decide +kernel
theorem dX8_clear_10 : decode cX8_clear 10 = .ok (.aload_n 0, 1) := by decide +kernel
theorem dX8_clear_11 : decode cX8_clear 11 = .ok (.getfield 9, 3) := by decide +kernel
theorem dX8_clear_14 : decode cX8_clear 14 = .ok (.iconst (-1), 1) := by decide +kernel
theorem dX8_clear_15 : decode cX8_clear 15 = .ok (.invokestatic 34, 3) := by decide +kernel
theorem dX8_clear_18 : decode cX8_clear 18 = .ok (.aload_n 0, 1) := by decide +kernel
theorem dX8_clear_19 : decode cX8_clear 19 = .ok (.getfield 15, 3) := by decide +kernel
theorem dX8_clear_22 : decode cX8_clear 22 = .ok (.iconst (-1), 1) := by decide +kernel
theorem dX8_clear_23 : decode cX8_clear 23 = .ok (.invokestatic 34, 3) := by decide +kernel
theorem dX8_clear_26 : decode cX8_clear 26 = .ok (.return_, 1) := by decide +kernel
theorem dX8_isTaken_0 : decode cX8_isTaken 0 = .ok (.aload_n 0, 1) := by decide +kernel
theorem dX8_isTaken_1 : decode cX8_isTaken 1 = .ok (.getfield 9, 3) := by decide +kernel
theorem dX8_isTaken_4 : decode cX8_isTaken 4 = .ok (.iload_n 1, 1) := by decide +kernel
theorem dX8_isTaken_5 : decode cX8_isTaken 5 = .ok (.iaload, 1) := by decide +kernel
theorem dX8_isTaken_6 : decode cX8_isTaken 6 = .ok (.iconst (-1), 1) := by decide +kernel
theorem dX8_isTaken_7 : decode cX8_isTaken 7 = .ok (.if_icmp .eq 7, 3) := by decide +kernel
theorem dX8_isTaken_10 : decode cX8_isTaken 10 = .ok (.iconst 1, 1) := by decide +kernel
theorem dX8_isTaken_11 : decode cX8_isTaken 11 = .ok (.goto 4, 3) := by decide +kernel
theorem dX8_isTaken_14 : decode cX8_isTaken 14 = .ok (.iconst 0, 1) := by decide +kernel
theorem dX8_isTaken_15 : decode cX8_isTaken 15 = .ok (.ireturn, 1) := by decide +kernel
theorem dX8_lay_0 : decode cX8_lay 0 = .ok (.aload_n 0, 1) := by decide +kernel
theorem dX8_lay_1 : decode cX8_lay 1 = .ok (.iload_n 1, 1) := by decide +kernel
theorem dX8_lay_2 : decode cX8_lay 2 = .ok (.aload_n 2, 1) := by decide +kernel
theorem dX8_lay_3 : decode cX8_lay 3 = .ok (.invokevirtual 40, 3) := by decide +kernel
theorem dX8_lay_6 : decode cX8_lay 6 = .ok (.istore 4, 2) := by decide +kernel
theorem dX8_lay_8 : decode cX8_lay 8 = .ok (.iload 4, 2) := by decide +kernel
theorem dX8_lay_10 : decode cX8_lay 10 = .ok (.aload_n 0, 1) := by decide +kernel
theorem dX8_lay_11 : decode cX8_lay 11 = .ok (.getfield 31, 3) := by decide +kernel
theorem dX8_lay_14 : decode cX8_lay 14 = .ok (.if_icmp .ne 23, 3) := by decide +kernel
theorem dX8_lay_17 : decode cX8_lay 17 = .ok (.aload_n 0, 1) := by decide +kernel
theorem dX8_lay_18 : decode cX8_lay 18 = .ok (.getfield 18, 3) := by decide +kernel
theorem dX8_lay_21 : decode cX8_lay 21 = .ok (.iload_n 1, 1) := by decide +kernel
theorem dX8_lay_22 : decode cX8_lay 22 = .ok (.iconst 0, 1) := by decide +kernel
theorem dX8_lay_23 : decode cX8_lay 23 = .ok (.iastore, 1) := by decide +kernel
theorem dX8_lay_24 : decode cX8_lay 24 = .ok (.aload_n 0, 1) := by decide +kernel
theorem dX8_lay_25 : decode cX8_lay 25 = .ok (.dup, 1) := by decide +kernel
theorem dX8_lay_26 : decode cX8_lay 26 = .ok (.getfield 31, 3) := by decide +kernel
theorem dX8_lay_29 : decode cX8_lay 29 = .ok (.iconst 1, 1) := by decide +kernel
theorem dX8_lay_30 : decode cX8_lay 30 = .ok (.iadd, 1) := by decide +kernel
theorem dX8_lay_31 : decode cX8_lay 31 = .ok (.putfield 31, 3) := by decide +kernel
theorem dX8_lay_34 : decode cX8_lay 34 = .ok (.goto 23, 3) := by decide +kernel
theorem dX8_lay_37 : decode cX8_lay 37 = .ok (.aload_n 0, 1) := by decide +kernel
theorem dX8_lay_38 : decode cX8_lay 38 = .ok (.getfield 18, 3) := by decide +kernel
theorem dX8_lay_41 : decode cX8_lay 41 = .ok (.iload_n 1, 1) := by decide +kernel
theorem dX8_lay_42 : decode cX8_lay 42 = .ok (.aload_n 0, 1) := by decide +kernel
theorem dX8_lay_43 : decode cX8_lay 43 = .ok (.getfield 18, 3) := by decide +kernel
theorem dX8_lay_46 : decode cX8_lay 46 = .ok (.aload_n 0, 1) := by decide +kernel
theorem dX8_lay_47 : decode cX8_lay 47 = .ok (.getfield 21, 3) := by decide +kernel
theorem dX8_lay_50 : decode cX8_lay 50 = .ok (.iload 4, 2) := by decide +kernel
theorem dX8_lay_52 : decode cX8_lay 52 = .ok (.iaload, 1) := by decide +kernel
theorem dX8_lay_53 : decode cX8_lay 53 = .ok (.iaload, 1) := by decide +kernel
theorem dX8_lay_54 : decode cX8_lay 54 = .ok (.iconst 1, 1) := by decide +kernel
theorem dX8_lay_55 : decode cX8_lay 55 = .ok (.iadd, 1) := by decide +kernel
theorem dX8_lay_56 : decode cX8_lay 56 = .ok (.iastore, 1) := by decide +kernel
theorem dX8_lay_57 : decode cX8_lay 57 = .ok (.aload_n 0, 1) := by decide +kernel
theorem dX8_lay_58 : decode cX8_lay 58 = .ok (.getfield 21, 3) := by decide +kernel
theorem dX8_lay_61 : decode cX8_lay 61 = .ok (.iload 4, 2) := by decide +kernel
theorem dX8_lay_63 : decode cX8_lay 63 = .ok (.iload_n 1, 1) := by decide +kernel
theorem dX8_lay_64 : decode cX8_lay 64 = .ok (.iastore, 1) := by decide +kernel
theorem dX8_lay_65 : decode cX8_lay 65 = .ok (.aload_n 0, 1) := by decide +kernel
theorem dX8_lay_66 : decode cX8_lay 66 = .ok (.getfield 15, 3) := by decide +kernel
theorem dX8_lay_69 : decode cX8_lay 69 = .ok (.iload_n 1, 1) := by decide +kernel
theorem dX8_lay_70 : decode cX8_lay 70 = .ok (.iload 4, 2) := by decide +kernel
theorem dX8_lay_72 : decode cX8_lay 72 = .ok (.iastore, 1) := by decide +kernel
theorem dX8_lay_73 : decode cX8_lay 73 = .ok (.aload_n 0, 1) := by decide +kernel
theorem dX8_lay_74 : decode cX8_lay 74 = .ok (.getfield 9, 3) := by decide +kernel
theorem dX8_lay_77 : decode cX8_lay 77 = .ok (.iload_n 1, 1) := by decide +kernel
theorem dX8_lay_78 : decode cX8_lay 78 = .ok (.iload_n 3, 1) := by decide +kernel
theorem dX8_lay_79 : decode cX8_lay 79 = .ok (.iastore, 1) := by decide +kernel
theorem dX8_lay_80 : decode cX8_lay 80 = .ok (.aload_n 0, 1) := by decide +kernel
theorem dX8_lay_81 : decode cX8_lay 81 = .ok (.dup, 1) := by decide +kernel
theorem dX8_lay_82 : decode cX8_lay 82 = .ok (.getfield 27, 3) := by decide +kernel
theorem dX8_lay_85 : decode cX8_lay 85 = .ok (.iconst 1, 1) := by decide +kernel
theorem dX8_lay_86 : decode cX8_lay 86 = .ok (.iadd, 1) := by decide +kernel
theorem dX8_lay_87 : decode cX8_lay 87 = .ok (.putfield 27, 3) := by decide +kernel
theorem dX8_lay_90 : decode cX8_lay 90 = .ok (.iload 4, 2) := by decide +kernel
theorem dX8_lay_92 : decode cX8_lay 92 = .ok (.ireturn, 1) := by decide +kernel
theorem dX8_pileFor_0 : decode cX8_pileFor 0 = .ok (.aload_n 0, 1) := by decide +kernel
theorem dX8_pileFor_1 : decode cX8_pileFor 1 = .ok (.getfield 31, 3) := by decide +kernel
theorem dX8_pileFor_4 : decode cX8_pileFor 4 = .ok (.istore_n 3, 1) := by decide +kernel
theorem dX8_pileFor_5 : decode cX8_pileFor 5 = .ok (.bipush 64, 2) := by decide +kernel
theorem dX8_pileFor_7 : decode cX8_pileFor 7 = .ok (.istore 4, 2) := by decide +kernel
theorem dX8_pileFor_9 : decode cX8_pileFor 9 = .ok (.iconst 0, 1) := by decide +kernel
theorem dX8_pileFor_10 : decode cX8_pileFor 10 = .ok (.istore 5, 2) := by decide +kernel
theorem dX8_pileFor_12 : decode cX8_pileFor 12 = .ok (.iload 5, 2) := by decide +kernel
theorem dX8_pileFor_14 : decode cX8_pileFor 14 = .ok (.aload_n 0, 1) := by decide +kernel
theorem dX8_pileFor_15 : decode cX8_pileFor 15 = .ok (.getfield 31, 3) := by decide +kernel
theorem dX8_pileFor_18 : decode cX8_pileFor 18 = .ok (.if_icmp .ge 42, 3) := by decide +kernel
theorem dX8_pileFor_21 : decode cX8_pileFor 21 = .ok (.aload_n 2, 1) := by decide +kernel
theorem dX8_pileFor_22 : decode cX8_pileFor 22 = .ok (.aload_n 0, 1) := by decide +kernel
theorem dX8_pileFor_23 : decode cX8_pileFor 23 = .ok (.getfield 21, 3) := by decide +kernel
theorem dX8_pileFor_26 : decode cX8_pileFor 26 = .ok (.iload 5, 2) := by decide +kernel
theorem dX8_pileFor_28 : decode cX8_pileFor 28 = .ok (.iaload, 1) := by decide +kernel
theorem dX8_pileFor_29 : decode cX8_pileFor 29 = .ok (.iaload, 1) := by decide +kernel
theorem dX8_pileFor_30 : decode cX8_pileFor 30 = .ok (.istore 6, 2) := by decide +kernel
theorem dX8_pileFor_32 : decode cX8_pileFor 32 = .ok (.iload 6, 2) := by decide +kernel
theorem dX8_pileFor_34 : decode cX8_pileFor 34 = .ok (.aload_n 2, 1) := by decide +kernel
theorem dX8_pileFor_35 : decode cX8_pileFor 35 = .ok (.iload_n 1, 1) := by decide +kernel
theorem dX8_pileFor_36 : decode cX8_pileFor 36 = .ok (.iaload, 1) := by decide +kernel
theorem dX8_pileFor_37 : decode cX8_pileFor 37 = .ok (.if_icmp .le 17, 3) := by decide +kernel
theorem dX8_pileFor_40 : decode cX8_pileFor 40 = .ok (.iload 6, 2) := by decide +kernel
theorem dX8_pileFor_42 : decode cX8_pileFor 42 = .ok (.iload 4, 2) := by decide +kernel
theorem dX8_pileFor_44 : decode cX8_pileFor 44 = .ok (.if_icmp .ge 10, 3) := by decide +kernel
theorem dX8_pileFor_47 : decode cX8_pileFor 47 = .ok (.iload 5, 2) := by decide +kernel
theorem dX8_pileFor_49 : decode cX8_pileFor 49 = .ok (.istore_n 3, 1) := by decide +kernel
theorem dX8_pileFor_50 : decode cX8_pileFor 50 = .ok (.iload 6, 2) := by decide +kernel
theorem dX8_pileFor_52 : decode cX8_pileFor 52 = .ok (.istore 4, 2) := by decide +kernel
theorem dX8_pileFor_54 : decode cX8_pileFor 54 = .ok (.iinc 5 1, 3) := by decide +kernel
theorem dX8_pileFor_57 : decode cX8_pileFor 57 = .ok (.goto (-45), 3) := by decide +kernel
