theorem dX10_isAbove_30 : decode cX10_isAbove 30 = .ok (.iconst 0, 1) := by decide +kernel
theorem dX10_isAbove_31 : decode cX10_isAbove 31 = .ok (.invokevirtual 86, 3) := by decide +kernel
theorem dX10_isAbove_34 : decode cX10_isAbove 34 = .ok (.aload_n 0, 1) := by decide +kernel
theorem dX10_isAbove_35 : decode cX10_isAbove 35 = .ok (.iload_n 2, 1) := by decide +kernel
theorem dX10_isAbove_36 : decode cX10_isAbove 36 = .ok (.iconst 2, 1) := by decide +kernel
theorem dX10_isAbove_37 : decode cX10_isAbove 37 = .ok (.invokevirtual 86, 3) := by decide +kernel
theorem dX10_isAbove_40 : decode cX10_isAbove 40 = .ok (.iadd, 1) := by decide +kernel
theorem dX10_isAbove_41 : decode cX10_isAbove 41 = .ok (.if_icmp .ge 29, 3) := by decide +kernel
theorem dX10_isAbove_44 : decode cX10_isAbove 44 = .ok (.aload_n 0, 1) := by decide +kernel
theorem dX10_isAbove_45 : decode cX10_isAbove 45 = .ok (.iload_n 2, 1) := by decide +kernel
theorem dX10_isAbove_46 : decode cX10_isAbove 46 = .ok (.iconst 0, 1) := by decide +kernel
theorem dX10_isAbove_47 : decode cX10_isAbove 47 = .ok (.invokevirtual 86, 3) := by decide +kernel
theorem dX10_isAbove_50 : decode cX10_isAbove 50 = .ok (.aload_n 0, 1) := by decide +kernel
theorem dX10_isAbove_51 : decode cX10_isAbove 51 = .ok (.iload_n 1, 1) := by decide +kernel
theorem dX10_isAbove_52 : decode cX10_isAbove 52 = .ok (.iconst 0, 1) := by decide +kernel
theorem dX10_isAbove_53 : decode cX10_isAbove 53 = .ok (.invokevirtual 86, 3) := by decide +kernel
theorem dX10_isAbove_56 : decode cX10_isAbove 56 = .ok (.aload_n 0, 1) := by decide +kernel
theorem dX10_isAbove_57 : decode cX10_isAbove 57 = .ok (.iload_n 1, 1) := by decide +kernel
theorem dX10_isAbove_58 : decode cX10_isAbove 58 = .ok (.iconst 2, 1) := by decide +kernel
theorem dX10_isAbove_59 : decode cX10_isAbove 59 = .ok (.invokevirtual 86, 3) := by decide +kernel
theorem dX10_isAbove_62 : decode cX10_isAbove 62 = .ok (.iadd, 1) := by decide +kernel
theorem dX10_isAbove_63 : decode cX10_isAbove 63 = .ok (.if_icmp .ge 7, 3) := by decide +kernel
theorem dX10_isAbove_66 : decode cX10_isAbove 66 = .ok (.iconst 1, 1) := by decide +kernel
theorem dX10_isAbove_67 : decode cX10_isAbove 67 = .ok (.goto 4, 3) := by decide +kernel
theorem dX10_isAbove_70 : decode cX10_isAbove 70 = .ok (.iconst 0, 1) := by decide +kernel
theorem dX10_isAbove_71 : decode cX10_isAbove 71 = .ok (.ireturn, 1) := by decide +kernel
theorem dX10_isFree_0 : decode cX10_isFree 0 = .ok (.aload_n 0, 1) := by decide +kernel
theorem dX10_isFree_1 : decode cX10_isFree 1 = .ok (.iload_n 1, 1) := by decide +kernel
theorem dX10_isFree_2 : decode cX10_isFree 2 = .ok (.invokevirtual 90, 3) := by decide +kernel
theorem dX10_isFree_5 : decode cX10_isFree 5 = .ok (.istore_n 2, 1) := by decide +kernel
theorem dX10_isFree_6 : decode cX10_isFree 6 = .ok (.iconst 0, 1) := by decide +kernel
theorem dX10_isFree_7 : decode cX10_isFree 7 = .ok (.istore_n 3, 1) := by decide +kernel
theorem dX10_isFree_8 : decode cX10_isFree 8 = .ok (.iload_n 3, 1) := by decide +kernel
theorem dX10_isFree_9 : decode cX10_isFree 9 = .ok (.aload_n 0, 1) := by decide +kernel
theorem dX10_isFree_10 : decode cX10_isFree 10 = .ok (.getfield 7, 3) := by decide +kernel
theorem dX10_isFree_13 : decode cX10_isFree 13 = .ok (.iconst 5, 1) := by decide +kernel
theorem dX10_isFree_14 : decode cX10_isFree 14 = .ok (.iaload, 1) := by decide +kernel
theorem dX10_isFree_15 : decode cX10_isFree 15 = .ok (.if_icmp .ge 36, 3) := by decide +kernel
theorem dX10_isFree_18 : decode cX10_isFree 18 = .ok (.iload_n 2, 1) := by decide +kernel
theorem dX10_isFree_19 : decode cX10_isFree 19 = .ok (.ifCond .eq 24, 3) := by decide +kernel
theorem dX10_isFree_22 : decode cX10_isFree 22 = .ok (.aload_n 0, 1) := by decide +kernel
theorem dX10_isFree_23 : decode cX10_isFree 23 = .ok (.iload_n 3, 1) := by decide +kernel
theorem dX10_isFree_24 : decode cX10_isFree 24 = .ok (.iload_n 1, 1) := by decide +kernel
theorem dX10_isFree_25 : decode cX10_isFree 25 = .ok (.invokevirtual 94, 3) := by decide +kernel
theorem dX10_isFree_28 : decode cX10_isFree 28 = .ok (.ifCond .eq 11, 3) := by decide +kernel
theorem dX10_isFree_31 : decode cX10_isFree 31 = .ok (.aload_n 0, 1) := by decide +kernel
theorem dX10_isFree_32 : decode cX10_isFree 32 = .ok (.iload_n 3, 1) := by decide +kernel
theorem dX10_isFree_33 : decode cX10_isFree 33 = .ok (.invokevirtual 90, 3) := by decide +kernel
theorem dX10_isFree_36 : decode cX10_isFree 36 = .ok (.ifCond .ne 7, 3) := by decide +kernel
theorem dX10_isFree_39 : decode cX10_isFree 39 = .ok (.iconst 1, 1) := by decide +kernel
theorem dX10_isFree_40 : decode cX10_isFree 40 = .ok (.goto 4, 3) := by decide +kernel
theorem dX10_isFree_43 : decode cX10_isFree 43 = .ok (.iconst 0, 1) := by decide +kernel
theorem dX10_isFree_44 : decode cX10_isFree 44 = .ok (.istore_n 2, 1) := by decide +kernel
theorem dX10_isFree_45 : decode cX10_isFree 45 = .ok (.iinc 3 1, 3) := by decide +kernel
theorem dX10_isFree_48 : decode cX10_isFree 48 = .ok (.goto (-40), 3) := by decide +kernel
theorem dX10_isFree_51 : decode cX10_isFree 51 = .ok (.iload_n 2, 1) := by decide +kernel
theorem dX10_isFree_52 : decode cX10_isFree 52 = .ok (.ireturn, 1) := by decide +kernel
theorem dX10_due_0 : decode cX10_due 0 = .ok (.iconst 0, 1) := by decide +kernel
theorem dX10_due_1 : decode cX10_due 1 = .ok (.istore_n 2, 1) := by decide +kernel
theorem dX10_due_2 : decode cX10_due 2 = .ok (.iload_n 2, 1) := by decide +kernel
theorem dX10_due_3 : decode cX10_due 3 = .ok (.bipush 12, 2) := by decide +kernel
theorem dX10_due_5 : decode cX10_due 5 = .ok (.if_icmp .ge 32, 3) := by decide +kernel
theorem dX10_due_8 : decode cX10_due 8 = .ok (.aload_n 0, 1) := by decide +kernel
theorem dX10_due_9 : decode cX10_due 9 = .ok (.getfield 7, 3) := by decide +kernel
theorem dX10_due_12 : decode cX10_due 12 = .ok (.bipush 10, 2) := by decide +kernel
theorem dX10_due_14 : decode cX10_due 14 = .ok (.iload_n 2, 1) := by decide +kernel
theorem dX10_due_15 : decode cX10_due 15 = .ok (.iadd, 1) := by decide +kernel
theorem dX10_due_16 : decode cX10_due 16 = .ok (.iaload, 1) := by decide +kernel
theorem dX10_due_17 : decode cX10_due 17 = .ok (.aload_n 0, 1) := by decide +kernel
theorem dX10_due_18 : decode cX10_due 18 = .ok (.iload_n 1, 1) := by decide +kernel
theorem dX10_due_19 : decode cX10_due 19 = .ok (.iconst 1, 1) := by decide +kernel
theorem dX10_due_20 : decode cX10_due 20 = .ok (.invokevirtual 86, 3) := by decide +kernel
theorem dX10_due_23 : decode cX10_due 23 = .ok (.if_icmp .le 8, 3) := by decide +kernel
theorem dX10_due_26 : decode cX10_due 26 = .ok (.bipush 30, 2) := by decide +kernel
theorem dX10_due_28 : decode cX10_due 28 = .ok (.iload_n 2, 1) := by decide +kernel
theorem dX10_due_29 : decode cX10_due 29 = .ok (.imul, 1) := by decide +kernel
theorem dX10_due_30 : decode cX10_due 30 = .ok (.ireturn, 1) := by decide +kernel
theorem dX10_due_31 : decode cX10_due 31 = .ok (.iinc 2 1, 3) := by decide +kernel
theorem dX10_due_34 : decode cX10_due 34 = .ok (.goto (-32), 3) := by decide +kernel
theorem dX10_due_37 : decode cX10_due 37 = .ok (.iconst (-1), 1) := by decide +kernel
theorem dX10_due_38 : decode cX10_due 38 = .ok (.ireturn, 1) := by decide +kernel
theorem dX10_wideOf_0 : decode cX10_wideOf 0 = .ok (.aload_n 0, 1) := by decide +kernel
theorem dX10_wideOf_1 : decode cX10_wideOf 1 = .ok (.iload_n 1, 1) := by decide +kernel
theorem dX10_wideOf_2 : decode cX10_wideOf 2 = .ok (.iconst 0, 1) := by decide +kernel
theorem dX10_wideOf_3 : decode cX10_wideOf 3 = .ok (.invokevirtual 86, 3) := by decide +kernel
theorem dX10_wideOf_6 : decode cX10_wideOf 6 = .ok (.ifCond .le 7, 3) := by decide +kernel
theorem dX10_wideOf_9 : decode cX10_wideOf 9 = .ok (.iconst 1, 1) := by decide +kernel
theorem dX10_wideOf_10 : decode cX10_wideOf 10 = .ok (.goto 4, 3) := by decide +kernel
theorem dX10_wideOf_13 : decode cX10_wideOf 13 = .ok (.iconst 0, 1) := by decide +kernel
theorem dX10_wideOf_14 : decode cX10_wideOf 14 = .ok (.aload_n 0, 1) := by decide +kernel
theorem dX10_wideOf_15 : decode cX10_wideOf 15 = .ok (.iload_n 1, 1) := by decide +kernel
theorem dX10_wideOf_16 : decode cX10_wideOf 16 = .ok (.iconst 0, 1) := by decide +kernel
theorem dX10_wideOf_17 : decode cX10_wideOf 17 = .ok (.invokevirtual 86, 3) := by decide +kernel
theorem dX10_wideOf_20 : decode cX10_wideOf 20 = .ok (.aload_n 0, 1) := by decide +kernel
theorem dX10_wideOf_21 : decode cX10_wideOf 21 = .ok (.iload_n 1, 1) := by decide +kernel
theorem dX10_wideOf_22 : decode cX10_wideOf 22 = .ok (.iconst 2, 1) := by decide +kernel
theorem dX10_wideOf_23 : decode cX10_wideOf 23 = .ok (.invokevirtual 86, 3) := by decide +kernel
theorem dX10_wideOf_26 : decode cX10_wideOf 26 = .ok (.iadd, 1) := by decide +kernel
theorem dX10_wideOf_27 : decode cX10_wideOf 27 = .ok (.aload_n 0, 1) := by decide +kernel
theorem dX10_wideOf_28 : decode cX10_wideOf 28 = .ok (.getfield 7, 3) := by decide +kernel
theorem dX10_wideOf_31 : decode cX10_wideOf 31 = .ok (.iconst 0, 1) := by decide +kernel
theorem dX10_wideOf_32 : decode cX10_wideOf 32 = .ok (.iaload, 1) := by decide +kernel
theorem dX10_wideOf_33 : decode cX10_wideOf 33 = .ok (.if_icmp .ge 7, 3) := by decide +kernel
theorem dX10_wideOf_36 : decode cX10_wideOf 36 = .ok (.iconst 1, 1) := by decide +kernel
theorem dX10_wideOf_37 : decode cX10_wideOf 37 = .ok (.goto 4, 3) := by decide +kernel
theorem dX10_wideOf_40 : decode cX10_wideOf 40 = .ok (.iconst 0, 1) := by decide +kernel
theorem dX10_wideOf_41 : decode cX10_wideOf 41 = .ok (.iadd, 1) := by decide +kernel
theorem dX10_wideOf_42 : decode cX10_wideOf 42 = .ok (.istore_n 2, 1) := by decide +kernel
theorem dX10_wideOf_43 : decode cX10_wideOf 43 = .ok (.sipush 200, 3) := by decide +kernel
theorem dX10_wideOf_46 : decode cX10_wideOf 46 = .ok (.aload_n 0, 1) := by decide +kernel
theorem dX10_wideOf_47 : decode cX10_wideOf 47 = .ok (.iload_n 1, 1) := by decide +kernel
theorem dX10_wideOf_48 : decode cX10_wideOf 48 = .ok (.iconst 2, 1) := by decide +kernel
theorem dX10_wideOf_49 : decode cX10_wideOf 49 = .ok (.invokevirtual 86, 3) := by decide +kernel
theorem dX10_wideOf_52 : decode cX10_wideOf 52 = .ok (.imul, 1) := by decide +kernel
theorem dX10_wideOf_53 : decode cX10_wideOf 53 = .ok (.iload_n 2, 1) := by decide +kernel
theorem dX10_wideOf_54 : decode cX10_wideOf 54 = .ok (.aload_n 0, 1) := by decide +kernel
theorem dX10_wideOf_55 : decode cX10_wideOf 55 = .ok (.getfield 7, 3) := by decide +kernel
theorem dX10_wideOf_58 : decode cX10_wideOf 58 = .ok (.iconst 3, 1) := by decide +kernel
theorem dX10_wideOf_59 : decode cX10_wideOf 59 = .ok (.iaload, 1) := by decide +kernel
theorem dX10_wideOf_60 : decode cX10_wideOf 60 = .ok (.imul, 1) := by decide +kernel
theorem dX10_wideOf_61 : decode cX10_wideOf 61 = .ok (.isub, 1) := by decide +kernel
theorem dX10_wideOf_62 : decode cX10_wideOf 62 = .ok (.ireturn, 1) := by decide +kernel
theorem dX10_block_0 : decode cX10_block 0 = .ok (.aload_n 0, 1) := by decide +kernel
theorem dX10_block_1 : decode cX10_block 1 = .ok (.iload_n 1, 1) := by decide +kernel
theorem dX10_block_2 : decode cX10_block 2 = .ok (.invokevirtual 97, 3) := by decide +kernel
theorem dX10_block_5 : decode cX10_block 5 = .ok (.ifCond .ne 5, 3) := by decide +kernel
theorem dX10_block_8 : decode cX10_block 8 = .ok (.iconst (-1), 1) := by decide +kernel
theorem dX10_block_9 : decode cX10_block 9 = .ok (.ireturn, 1) := by decide +kernel
theorem dX10_block_10 : decode cX10_block 10 = .ok (.iload_n 2, 1) := by decide +kernel
theorem dX10_block_11 : decode cX10_block 11 = .ok (.tableswitch 159 0 11 #[61, 61, 61, 61, 68, 97, 103, 111, 125, 139, 146, 152], 61) := by decide +kernel
theorem dX10_block_72 : decode cX10_block 72 = .ok (.aload_n 0, 1) := by decide +kernel
theorem dX10_block_73 : decode cX10_block 73 = .ok (.iload_n 1, 1) := by decide +kernel
theorem dX10_block_74 : decode cX10_block 74 = .ok (.iload_n 2, 1) := by decide +kernel
theorem dX10_block_75 : decode cX10_block 75 = .ok (.invokevirtual 86, 3) := by decide +kernel
theorem dX10_block_78 : decode cX10_block 78 = .ok (.ireturn, 1) := by decide +kernel
theorem dX10_block_79 : decode cX10_block 79 = .ok (.aload_n 0, 1) := by decide +kernel
theorem dX10_block_80 : decode cX10_block 80 = .ok (.aload_n 0, 1) := by decide +kernel
theorem dX10_block_81 : decode cX10_block 81 = .ok (.iload_n 1, 1) := by decide +kernel
theorem dX10_block_82 : decode cX10_block 82 = .ok (.iconst 0, 1) := by decide +kernel
theorem dX10_block_83 : decode cX10_block 83 = .ok (.invokevirtual 86, 3) := by decide +kernel
theorem dX10_block_86 : decode cX10_block 86 = .ok (.aload_n 0, 1) := by decide +kernel
theorem dX10_block_87 : decode cX10_block 87 = .ok (.iload_n 1, 1) := by decide +kernel
theorem dX10_block_88 : decode cX10_block 88 = .ok (.iconst 1, 1) := by decide +kernel
theorem dX10_block_89 : decode cX10_block 89 = .ok (.invokevirtual 86, 3) := by decide +kernel
theorem dX10_block_92 : decode cX10_block 92 = .ok (.aload_n 0, 1) := by decide +kernel
theorem dX10_block_93 : decode cX10_block 93 = .ok (.iload_n 1, 1) := by decide +kernel
theorem dX10_block_94 : decode cX10_block 94 = .ok (.iconst 2, 1) := by decide +kernel
theorem dX10_block_95 : decode cX10_block 95 = .ok (.invokevirtual 86, 3) := by decide +kernel
theorem dX10_block_98 : decode cX10_block 98 = .ok (.aload_n 0, 1) := by decide +kernel
theorem dX10_block_99 : decode cX10_block 99 = .ok (.iload_n 1, 1) := by decide +kernel
theorem dX10_block_100 : decode cX10_block 100 = .ok (.iconst 3, 1) := by decide +kernel
theorem dX10_block_101 : decode cX10_block 101 = .ok (.invokevirtual 86, 3) := by decide +kernel
theorem dX10_block_104 : decode cX10_block 104 = .ok (.invokevirtual 57, 3) := by decide +kernel
theorem dX10_block_107 : decode cX10_block 107 = .ok (.ireturn, 1) := by decide +kernel
theorem dX10_block_108 : decode cX10_block 108 = .ok (.aload_n 0, 1) := by decide +kernel
theorem dX10_block_109 : decode cX10_block 109 = .ok (.iload_n 1, 1) := by decide +kernel
theorem dX10_block_110 : decode cX10_block 110 = .ok (.invokevirtual 100, 3) := by decide +kernel
theorem dX10_block_113 : decode cX10_block 113 = .ok (.ireturn, 1) := by decide +kernel
theorem dX10_block_114 : decode cX10_block 114 = .ok (.aload_n 0, 1) := by decide +kernel
theorem dX10_block_115 : decode cX10_block 115 = .ok (.iload_n 1, 1) := by decide +kernel
theorem dX10_block_116 : decode cX10_block 116 = .ok (.bipush 6, 2) := by decide +kernel
theorem dX10_block_118 : decode cX10_block 118 = .ok (.invokevirtual 86, 3) := by decide +kernel
theorem dX10_block_121 : decode cX10_block 121 = .ok (.ireturn, 1) := by decide +kernel
theorem dX10_block_122 : decode cX10_block 122 = .ok (.aload_n 0, 1) := by decide +kernel
theorem dX10_block_123 : decode cX10_block 123 = .ok (.iload_n 1, 1) := by decide +kernel
theorem dX10_block_124 : decode cX10_block 124 = .ok (.invokevirtual 90, 3) := by decide +kernel
theorem dX10_block_127 : decode cX10_block 127 = .ok (.ifCond .eq 7, 3) := by decide +kernel
theorem dX10_block_130 : decode cX10_block 130 = .ok (.iconst 0, 1) := by decide +kernel
theorem dX10_block_131 : decode cX10_block 131 = .ok (.goto 4, 3) := by decide +kernel
theorem dX10_block_134 : decode cX10_block 134 = .ok (.iconst 1, 1) := by decide +kernel
theorem dX10_block_135 : decode cX10_block 135 = .ok (.ireturn, 1) := by decide +kernel
theorem dX10_block_136 : decode cX10_block 136 = .ok (.aload_n 0, 1) := by decide +kernel
theorem dX10_block_137 : decode cX10_block 137 = .ok (.iload_n 1, 1) := by decide +kernel
theorem dX10_block_138 : decode cX10_block 138 = .ok (.invokevirtual 103, 3) := by decide +kernel
theorem dX10_block_141 : decode cX10_block 141 = .ok (.ifCond .eq 7, 3) := by decide +kernel
theorem dX10_block_144 : decode cX10_block 144 = .ok (.iconst 1, 1) := by decide +kernel
theorem dX10_block_145 : decode cX10_block 145 = .ok (.goto 4, 3) := by decide +kernel
theorem dX10_block_148 : decode cX10_block 148 = .ok (.iconst 0, 1) := by decide +kernel
theorem dX10_block_149 : decode cX10_block 149 = .ok (.ireturn, 1) := by decide +kernel
theorem dX10_block_150 : decode cX10_block 150 = .ok (.aload_n 0, 1) := by decide +kernel
theorem dX10_block_151 : decode cX10_block 151 = .ok (.iload_n 1, 1) := by decide +kernel
theorem dX10_block_152 : decode cX10_block 152 = .ok (.iconst 5, 1) := by decide +kernel
theorem dX10_block_153 : decode cX10_block 153 = .ok (.invokevirtual 86, 3) := by decide +kernel
theorem dX10_block_156 : decode cX10_block 156 = .ok (.ireturn, 1) := by decide +kernel
theorem dX10_block_157 : decode cX10_block 157 = .ok (.aload_n 0, 1) := by decide +kernel
theorem dX10_block_158 : decode cX10_block 158 = .ok (.iload_n 1, 1) := by decide +kernel
theorem dX10_block_159 : decode cX10_block 159 = .ok (.invokevirtual 106, 3) := by decide +kernel
theorem dX10_block_162 : decode cX10_block 162 = .ok (.ireturn, 1) := by decide +kernel
theorem dX10_block_163 : decode cX10_block 163 = .ok (.aload_n 0, 1) := by decide +kernel
theorem dX10_block_164 : decode cX10_block 164 = .ok (.iload_n 1, 1) := by decide +kernel
theorem dX10_block_165 : decode cX10_block 165 = .ok (.iconst 4, 1) := by decide +kernel
theorem dX10_block_166 : decode cX10_block 166 = .ok (.invokevirtual 86, 3) := by decide +kernel
theorem dX10_block_169 : decode cX10_block 169 = .ok (.ireturn, 1) := by decide +kernel
theorem dX10_block_170 : decode cX10_block 170 = .ok (.iconst (-1), 1) := by decide +kernel
theorem dX10_block_171 : decode cX10_block 171 = .ok (.ireturn, 1) := by decide +kernel
theorem dX10_at_0 : decode cX10_at 0 = .ok (.iconst 0, 1) := by decide +kernel
theorem dX10_at_1 : decode cX10_at 1 = .ok (.istore_n 3, 1) := by decide +kernel
theorem dX10_at_2 : decode cX10_at 2 = .ok (.iload_n 3, 1) := by decide +kernel
theorem dX10_at_3 : decode cX10_at 3 = .ok (.aload_n 0, 1) := by decide +kernel
theorem dX10_at_4 : decode cX10_at 4 = .ok (.getfield 7, 3) := by decide +kernel
theorem dX10_at_7 : decode cX10_at 7 = .ok (.iconst 5, 1) := by decide +kernel
theorem dX10_at_8 : decode cX10_at 8 = .ok (.iaload, 1) := by decide +kernel
theorem dX10_at_9 : decode cX10_at 9 = .ok (.if_icmp .ge 67, 3) := by decide +kernel
theorem dX10_at_12 : decode cX10_at 12 = .ok (.iload_n 1, 1) := by decide +kernel
theorem dX10_at_13 : decode cX10_at 13 = .ok (.aload_n 0, 1) := by decide +kernel
theorem dX10_at_14 : decode cX10_at 14 = .ok (.iload_n 3, 1) := by decide +kernel
theorem dX10_at_15 : decode cX10_at 15 = .ok (.iconst 0, 1) := by decide +kernel
theorem dX10_at_16 : decode cX10_at 16 = .ok (.invokevirtual 86, 3) := by decide +kernel
theorem dX10_at_19 : decode cX10_at 19 = .ok (.aload_n 0, 1) := by decide +kernel
theorem dX10_at_20 : decode cX10_at 20 = .ok (.iload_n 3, 1) := by decide +kernel
theorem dX10_at_21 : decode cX10_at 21 = .ok (.iconst 0, 1) := by decide +kernel
theorem dX10_at_22 : decode cX10_at 22 = .ok (.invokevirtual 86, 3) := by decide +kernel
theorem dX10_at_25 : decode cX10_at 25 = .ok (.aload_n 0, 1) := by decide +kernel
theorem dX10_at_26 : decode cX10_at 26 = .ok (.iload_n 3, 1) := by decide +kernel
theorem dX10_at_27 : decode cX10_at 27 = .ok (.iconst 2, 1) := by decide +kernel
theorem dX10_at_28 : decode cX10_at 28 = .ok (.invokevirtual 86, 3) := by decide +kernel
theorem dX10_at_31 : decode cX10_at 31 = .ok (.iadd, 1) := by decide +kernel
theorem dX10_at_32 : decode cX10_at 32 = .ok (.iconst 1, 1) := by decide +kernel
theorem dX10_at_33 : decode cX10_at 33 = .ok (.isub, 1) := by decide +kernel
theorem dX10_at_34 : decode cX10_at 34 = .ok (.invokestatic 42, 3) := by decide +kernel
theorem dX10_at_37 : decode cX10_at 37 = .ok (.ifCond .eq 33, 3) := by decide +kernel
theorem dX10_at_40 : decode cX10_at 40 = .ok (.iload_n 2, 1) := by decide +kernel
theorem dX10_at_41 : decode cX10_at 41 = .ok (.aload_n 0, 1) := by decide +kernel
theorem dX10_at_42 : decode cX10_at 42 = .ok (.iload_n 3, 1) := by decide +kernel
theorem dX10_at_43 : decode cX10_at 43 = .ok (.iconst 1, 1) := by decide +kernel
theorem dX10_at_44 : decode cX10_at 44 = .ok (.invokevirtual 86, 3) := by decide +kernel
theorem dX10_at_47 : decode cX10_at 47 = .ok (.aload_n 0, 1) := by decide +kernel
theorem dX10_at_48 : decode cX10_at 48 = .ok (.iload_n 3, 1) := by decide +kernel
theorem dX10_at_49 : decode cX10_at 49 = .ok (.iconst 1, 1) := by decide +kernel
theorem dX10_at_50 : decode cX10_at 50 = .ok (.invokevirtual 86, 3) := by decide +kernel
theorem dX10_at_53 : decode cX10_at 53 = .ok (.aload_n 0, 1) := by decide +kernel
theorem dX10_at_54 : decode cX10_at 54 = .ok (.iload_n 3, 1) := by decide +kernel
theorem dX10_at_55 : decode cX10_at 55 = .ok (.iconst 3, 1) := by decide +kernel
theorem dX10_at_56 : decode cX10_at 56 = .ok (.invokevirtual 86, 3) := by decide +kernel
theorem dX10_at_59 : decode cX10_at 59 = .ok (.iadd, 1) := by decide +kernel
theorem dX10_at_60 : decode cX10_at 60 = .ok (.iconst 1, 1) := by decide +kernel
theorem dX10_at_61 : decode cX10_at 61 = .ok (.isub, 1) := by decide +kernel
theorem dX10_at_62 : decode cX10_at 62 = .ok (.invokestatic 42, 3) := by decide +kernel
theorem dX10_at_65 : decode cX10_at 65 = .ok (.ifCond .eq 5, 3) := by decide +kernel
theorem dX10_at_68 : decode cX10_at 68 = .ok (.iload_n 3, 1) := by decide +kernel
theorem dX10_at_69 : decode cX10_at 69 = .ok (.ireturn, 1) := by decide +kernel
theorem dX10_at_70 : decode cX10_at 70 = .ok (.iinc 3 1, 3) := by decide +kernel
theorem dX10_at_73 : decode cX10_at 73 = .ok (.goto (-71), 3) := by decide +kernel
theorem dX10_at_76 : decode cX10_at 76 = .ok (.iconst (-1), 1) := by decide +kernel
theorem dX10_at_77 : decode cX10_at 77 = .ok (.ireturn, 1) := by decide +kernel
theorem dX10_above_0 : decode cX10_above 0 = .ok (.aload_n 0, 1) := by decide +kernel
theorem dX10_above_1 : decode cX10_above 1 = .ok (.iload_n 1, 1) := by decide +kernel
theorem dX10_above_2 : decode cX10_above 2 = .ok (.invokevirtual 97, 3) := by decide +kernel
theorem dX10_above_5 : decode cX10_above 5 = .ok (.ifCond .eq 24, 3) := by decide +kernel
theorem dX10_above_8 : decode cX10_above 8 = .ok (.aload_n 0, 1) := by decide +kernel
theorem dX10_above_9 : decode cX10_above 9 = .ok (.iload_n 2, 1) := by decide +kernel
theorem dX10_above_10 : decode cX10_above 10 = .ok (.invokevirtual 97, 3) := by decide +kernel
theorem dX10_above_13 : decode cX10_above 13 = .ok (.ifCond .eq 16, 3) := by decide +kernel
theorem dX10_above_16 : decode cX10_above 16 = .ok (.aload_n 0, 1) := by decide +kernel
theorem dX10_above_17 : decode cX10_above 17 = .ok (.iload_n 1, 1) := by decide +kernel
theorem dX10_above_18 : decode cX10_above 18 = .ok (.iload_n 2, 1) := by decide +kernel
theorem dX10_above_19 : decode cX10_above 19 = .ok (.invokevirtual 94, 3) := by decide +kernel
theorem dX10_above_22 : decode cX10_above 22 = .ok (.ifCond .eq 7, 3) := by decide +kernel
theorem dX10_above_25 : decode cX10_above 25 = .ok (.iconst 1, 1) := by decide +kernel
theorem dX10_above_26 : decode cX10_above 26 = .ok (.goto 4, 3) := by decide +kernel
theorem dX10_above_29 : decode cX10_above 29 = .ok (.iconst 0, 1) := by decide +kernel
theorem dX10_above_30 : decode cX10_above 30 = .ok (.ireturn, 1) := by decide +kernel
theorem dX10_river_0 : decode cX10_river 0 = .ok (.iload_n 1, 1) := by decide +kernel
theorem dX10_river_1 : decode cX10_river 1 = .ok (.iconst 0, 1) := by decide +kernel
theorem dX10_river_2 : decode cX10_river 2 = .ok (.bipush 11, 2) := by decide +kernel
theorem dX10_river_4 : decode cX10_river 4 = .ok (.invokestatic 42, 3) := by decide +kernel
theorem dX10_river_7 : decode cX10_river 7 = .ok (.ifCond .eq 13, 3) := by decide +kernel
theorem dX10_river_10 : decode cX10_river 10 = .ok (.iload_n 2, 1) := by decide +kernel
theorem dX10_river_11 : decode cX10_river 11 = .ok (.iconst 0, 1) := by decide +kernel
theorem dX10_river_12 : decode cX10_river 12 = .ok (.bipush 9, 2) := by decide +kernel
theorem dX10_river_14 : decode cX10_river 14 = .ok (.invokestatic 42, 3) := by decide +kernel
theorem dX10_river_17 : decode cX10_river 17 = .ok (.ifCond .ne 5, 3) := by decide +kernel
theorem dX10_river_20 : decode cX10_river 20 = .ok (.iconst 0, 1) := by decide +kernel
theorem dX10_river_21 : decode cX10_river 21 = .ok (.ireturn, 1) := by decide +kernel
theorem dX10_river_22 : decode cX10_river 22 = .ok (.aload_n 0, 1) := by decide +kernel
theorem dX10_river_23 : decode cX10_river 23 = .ok (.getfield 7, 3) := by decide +kernel
theorem dX10_river_26 : decode cX10_river 26 = .ok (.bipush 10, 2) := by decide +kernel
theorem dX10_river_28 : decode cX10_river 28 = .ok (.iload_n 1, 1) := by decide +kernel
theorem dX10_river_29 : decode cX10_river 29 = .ok (.iadd, 1) := by decide +kernel
theorem dX10_river_30 : decode cX10_river 30 = .ok (.iload_n 2, 1) := by decide +kernel
theorem dX10_river_31 : decode cX10_river 31 = .ok (.iastore, 1) := by decide +kernel
theorem dX10_river_32 : decode cX10_river 32 = .ok (.iconst 1, 1) := by decide +kernel
theorem dX10_river_33 : decode cX10_river 33 = .ok (.ireturn, 1) := by decide +kernel
theorem dX10_days_0 : decode cX10_days 0 = .ok (.iload_n 1, 1) := by decide +kernel
theorem dX10_days_1 : decode cX10_days 1 = .ok (.iconst 1, 1) := by decide +kernel
theorem dX10_days_2 : decode cX10_days 2 = .ok (.bipush 100, 2) := by decide +kernel
theorem dX10_days_4 : decode cX10_days 4 = .ok (.invokestatic 42, 3) := by decide +kernel
theorem dX10_days_7 : decode cX10_days 7 = .ok (.ifCond .eq 17, 3) := by decide +kernel
theorem dX10_days_10 : decode cX10_days 10 = .ok (.aload_n 0, 1) := by decide +kernel
theorem dX10_days_11 : decode cX10_days 11 = .ok (.getfield 7, 3) := by decide +kernel
theorem dX10_days_14 : decode cX10_days 14 = .ok (.iconst 4, 1) := by decide +kernel
theorem dX10_days_15 : decode cX10_days 15 = .ok (.iaload, 1) := by decide +kernel
theorem dX10_days_16 : decode cX10_days 16 = .ok (.iload_n 1, 1) := by decide +kernel
theorem dX10_days_17 : decode cX10_days 17 = .ok (.iadd, 1) := by decide +kernel
theorem dX10_days_18 : decode cX10_days 18 = .ok (.sipush 5000, 3) := by decide +kernel
theorem dX10_days_21 : decode cX10_days 21 = .ok (.if_icmp .le 5, 3) := by decide +kernel
theorem dX10_days_24 : decode cX10_days 24 = .ok (.iconst (-1), 1) := by decide +kernel
theorem dX10_days_25 : decode cX10_days 25 = .ok (.ireturn, 1) := by decide +kernel
theorem dX10_days_26 : decode cX10_days 26 = .ok (.aload_n 0, 1) := by decide +kernel
theorem dX10_days_27 : decode cX10_days 27 = .ok (.getfield 7, 3) := by decide +kernel
theorem dX10_days_30 : decode cX10_days 30 = .ok (.iconst 4, 1) := by decide +kernel
theorem dX10_days_31 : decode cX10_days 31 = .ok (.dup2, 1) := by decide +kernel
theorem dX10_days_32 : decode cX10_days 32 = .ok (.iaload, 1) := by decide +kernel
theorem dX10_days_33 : decode cX10_days 33 = .ok (.iload_n 1, 1) := by decide +kernel
theorem dX10_days_34 : decode cX10_days 34 = .ok (.iadd, 1) := by decide +kernel
theorem dX10_days_35 : decode cX10_days 35 = .ok (.iastore, 1) := by decide +kernel
theorem dX10_days_36 : decode cX10_days 36 = .ok (.aload_n 0, 1) := by decide +kernel
theorem dX10_days_37 : decode cX10_days 37 = .ok (.getfield 7, 3) := by decide +kernel
theorem dX10_days_40 : decode cX10_days 40 = .ok (.iconst 4, 1) := by decide +kernel
theorem dX10_days_41 : decode cX10_days 41 = .ok (.iaload, 1) := by decide +kernel
theorem dX10_days_42 : decode cX10_days 42 = .ok (.ireturn, 1) := by decide +kernel
theorem dX10_uppermost_0 : decode cX10_uppermost 0 = .ok (.iconst (-1), 1) := by decide +kernel
theorem dX10_uppermost_1 : decode cX10_uppermost 1 = .ok (.istore_n 2, 1) := by decide +kernel
theorem dX10_uppermost_2 : decode cX10_uppermost 2 = .ok (.iconst 0, 1) := by decide +kernel
theorem dX10_uppermost_3 : decode cX10_uppermost 3 = .ok (.istore_n 3, 1) := by decide +kernel
theorem dX10_uppermost_4 : decode cX10_uppermost 4 = .ok (.iload_n 3, 1) := by decide +kernel
theorem dX10_uppermost_5 : decode cX10_uppermost 5 = .ok (.aload_n 0, 1) := by decide +kernel
theorem dX10_uppermost_6 : decode cX10_uppermost 6 = .ok (.invokevirtual 109, 3) := by decide +kernel
theorem dX10_uppermost_9 : decode cX10_uppermost 9 = .ok (.if_icmp .ge 39, 3) := by decide +kernel
theorem dX10_uppermost_12 : decode cX10_uppermost 12 = .ok (.aload_n 0, 1) := by decide +kernel
theorem dX10_uppermost_13 : decode cX10_uppermost 13 = .ok (.aload_n 0, 1) := by decide +kernel
theorem dX10_uppermost_14 : decode cX10_uppermost 14 = .ok (.getfield 7, 3) := by decide +kernel
theorem dX10_uppermost_17 : decode cX10_uppermost 17 = .ok (.sipush 760, 3) := by decide +kernel
theorem dX10_uppermost_20 : decode cX10_uppermost 20 = .ok (.iload_n 3, 1) := by decide +kernel
theorem dX10_uppermost_21 : decode cX10_uppermost 21 = .ok (.iadd, 1) := by decide +kernel
theorem dX10_uppermost_22 : decode cX10_uppermost 22 = .ok (.iaload, 1) := by decide +kernel
theorem dX10_uppermost_23 : decode cX10_uppermost 23 = .ok (.iconst 5, 1) := by decide +kernel
theorem dX10_uppermost_24 : decode cX10_uppermost 24 = .ok (.invokevirtual 86, 3) := by decide +kernel
theorem dX10_uppermost_27 : decode cX10_uppermost 27 = .ok (.iload_n 1, 1) := by decide +kernel
theorem dX10_uppermost_28 : decode cX10_uppermost 28 = .ok (.if_icmp .ne 14, 3) := by decide +kernel
theorem dX10_uppermost_31 : decode cX10_uppermost 31 = .ok (.aload_n 0, 1) := by decide +kernel
theorem dX10_uppermost_32 : decode cX10_uppermost 32 = .ok (.getfield 7, 3) := by decide +kernel
theorem dX10_uppermost_35 : decode cX10_uppermost 35 = .ok (.sipush 760, 3) := by decide +kernel
theorem dX10_uppermost_38 : decode cX10_uppermost 38 = .ok (.iload_n 3, 1) := by decide +kernel
theorem dX10_uppermost_39 : decode cX10_uppermost 39 = .ok (.iadd, 1) := by decide +kernel
theorem dX10_uppermost_40 : decode cX10_uppermost 40 = .ok (.iaload, 1) := by decide +kernel
theorem dX10_uppermost_41 : decode cX10_uppermost 41 = .ok (.istore_n 2, 1) := by decide +kernel
theorem dX10_uppermost_42 : decode cX10_uppermost 42 = .ok (.iinc 3 1, 3) := by decide +kernel
theorem dX10_uppermost_45 : decode cX10_uppermost 45 = .ok (.goto (-41), 3) := by decide +kernel
theorem dX10_uppermost_48 : decode cX10_uppermost 48 = .ok (.iload_n 2, 1) := by decide +kernel
theorem dX10_uppermost_49 : decode cX10_uppermost 49 = .ok (.ireturn, 1) := by decide +kernel
theorem dX10_taken_0 : decode cX10_taken 0 = .ok (.iconst 0, 1) := by decide +kernel
theorem dX10_taken_1 : decode cX10_taken 1 = .ok (.istore_n 1, 1) := by decide +kernel
theorem dX10_taken_2 : decode cX10_taken 2 = .ok (.iconst 0, 1) := by decide +kernel
theorem dX10_taken_3 : decode cX10_taken 3 = .ok (.istore_n 2, 1) := by decide +kernel
theorem dX10_taken_4 : decode cX10_taken 4 = .ok (.iload_n 2, 1) := by decide +kernel
theorem dX10_taken_5 : decode cX10_taken 5 = .ok (.aload_n 0, 1) := by decide +kernel
theorem dX10_taken_6 : decode cX10_taken 6 = .ok (.getfield 7, 3) := by decide +kernel
theorem dX10_taken_9 : decode cX10_taken 9 = .ok (.iconst 5, 1) := by decide +kernel
theorem dX10_taken_10 : decode cX10_taken 10 = .ok (.iaload, 1) := by decide +kernel
theorem dX10_taken_11 : decode cX10_taken 11 = .ok (.if_icmp .ge 25, 3) := by decide +kernel
theorem dX10_taken_14 : decode cX10_taken 14 = .ok (.iload_n 1, 1) := by decide +kernel
theorem dX10_taken_15 : decode cX10_taken 15 = .ok (.aload_n 0, 1) := by decide +kernel
theorem dX10_taken_16 : decode cX10_taken 16 = .ok (.iload_n 2, 1) := by decide +kernel
theorem dX10_taken_17 : decode cX10_taken 17 = .ok (.invokevirtual 90, 3) := by decide +kernel
theorem dX10_taken_20 : decode cX10_taken 20 = .ok (.ifCond .eq 7, 3) := by decide +kernel
theorem dX10_taken_23 : decode cX10_taken 23 = .ok (.iconst 0, 1) := by decide +kernel
theorem dX10_taken_24 : decode cX10_taken 24 = .ok (.goto 4, 3) := by decide +kernel
theorem dX10_taken_27 : decode cX10_taken 27 = .ok (.iconst 1, 1) := by decide +kernel
theorem dX10_taken_28 : decode cX10_taken 28 = .ok (.iadd, 1) := by decide +kernel
theorem dX10_taken_29 : decode cX10_taken 29 = .ok (.istore_n 1, 1) := by decide +kernel
theorem dX10_taken_30 : decode cX10_taken 30 = .ok (.iinc 2 1, 3) := by decide +kernel
theorem dX10_taken_33 : decode cX10_taken 33 = .ok (.goto (-29), 3) := by decide +kernel
theorem dX10_taken_36 : decode cX10_taken 36 = .ok (.iload_n 1, 1) := by decide +kernel
theorem dX10_taken_37 : decode cX10_taken 37 = .ok (.ireturn, 1) := by decide +kernel
theorem dX10_take_0 : decode cX10_take 0 = .ok (.aload_n 0, 1) := by decide +kernel
theorem dX10_take_1 : decode cX10_take 1 = .ok (.iload_n 1, 1) := by decide +kernel
theorem dX10_take_2 : decode cX10_take 2 = .ok (.invokevirtual 97, 3) := by decide +kernel
theorem dX10_take_5 : decode cX10_take 5 = .ok (.ifCond .eq 23, 3) := by decide +kernel
theorem dX10_take_8 : decode cX10_take 8 = .ok (.aload_n 0, 1) := by decide +kernel
theorem dX10_take_9 : decode cX10_take 9 = .ok (.iload_n 1, 1) := by decide +kernel
theorem dX10_take_10 : decode cX10_take 10 = .ok (.invokevirtual 103, 3) := by decide +kernel
theorem dX10_take_13 : decode cX10_take 13 = .ok (.ifCond .eq 15, 3) := by decide +kernel
theorem dX10_take_16 : decode cX10_take 16 = .ok (.aload_n 0, 1) := by decide +kernel
theorem dX10_take_17 : decode cX10_take 17 = .ok (.getfield 7, 3) := by decide +kernel
theorem dX10_take_20 : decode cX10_take 20 = .ok (.iconst 4, 1) := by decide +kernel
theorem dX10_take_21 : decode cX10_take 21 = .ok (.iaload, 1) := by decide +kernel
theorem dX10_take_22 : decode cX10_take 22 = .ok (.sipush 5000, 3) := by decide +kernel
theorem dX10_take_25 : decode cX10_take 25 = .ok (.if_icmp .ne 5, 3) := by decide +kernel
theorem dX10_take_28 : decode cX10_take 28 = .ok (.iconst (-1), 1) := by decide +kernel
theorem dX10_take_29 : decode cX10_take 29 = .ok (.ireturn, 1) := by decide +kernel
theorem dX10_take_30 : decode cX10_take 30 = .ok (.aload_n 0, 1) := by decide +kernel
theorem dX10_take_31 : decode cX10_take 31 = .ok (.getfield 7, 3) := by decide +kernel
theorem dX10_take_34 : decode cX10_take 34 = .ok (.iconst 4, 1) := by decide +kernel
theorem dX10_take_35 : decode cX10_take 35 = .ok (.iaload, 1) := by decide +kernel
theorem dX10_take_36 : decode cX10_take 36 = .ok (.bipush 30, 2) := by decide +kernel
theorem dX10_take_38 : decode cX10_take 38 = .ok (.idiv, 1) := by decide +kernel
theorem dX10_take_39 : decode cX10_take 39 = .ok (.bipush 11, 2) := by decide +kernel
theorem dX10_take_41 : decode cX10_take 41 = .ok (.if_icmp .le 8, 3) := by decide +kernel
theorem dX10_take_44 : decode cX10_take 44 = .ok (.bipush 11, 2) := by decide +kernel
theorem dX10_take_46 : decode cX10_take 46 = .ok (.goto 12, 3) := by decide +kernel
theorem dX10_take_49 : decode cX10_take 49 = .ok (.aload_n 0, 1) := by decide +kernel
theorem dX10_take_50 : decode cX10_take 50 = .ok (.getfield 7, 3) := by decide +kernel
theorem dX10_take_53 : decode cX10_take 53 = .ok (.iconst 4, 1) := by decide +kernel
theorem dX10_take_54 : decode cX10_take 54 = .ok (.iaload, 1) := by decide +kernel
theorem dX10_take_55 : decode cX10_take 55 = .ok (.bipush 30, 2) := by decide +kernel
theorem dX10_take_57 : decode cX10_take 57 = .ok (.idiv, 1) := by decide +kernel
theorem dX10_take_58 : decode cX10_take 58 = .ok (.istore_n 2, 1) := by decide +kernel
theorem dX10_take_59 : decode cX10_take 59 = .ok (.aload_n 0, 1) := by decide +kernel
theorem dX10_take_60 : decode cX10_take 60 = .ok (.getfield 7, 3) := by decide +kernel
theorem dX10_take_63 : decode cX10_take 63 = .ok (.bipush 10, 2) := by decide +kernel
theorem dX10_take_65 : decode cX10_take 65 = .ok (.iload_n 2, 1) := by decide +kernel
theorem dX10_take_66 : decode cX10_take 66 = .ok (.iadd, 1) := by decide +kernel
theorem dX10_take_67 : decode cX10_take 67 = .ok (.iaload, 1) := by decide +kernel
theorem dX10_take_68 : decode cX10_take 68 = .ok (.aload_n 0, 1) := by decide +kernel
theorem dX10_take_69 : decode cX10_take 69 = .ok (.iload_n 1, 1) := by decide +kernel
theorem dX10_take_70 : decode cX10_take 70 = .ok (.iconst 1, 1) := by decide +kernel
theorem dX10_take_71 : decode cX10_take 71 = .ok (.invokevirtual 86, 3) := by decide +kernel
theorem dX10_take_74 : decode cX10_take 74 = .ok (.if_icmp .le 5, 3) := by decide +kernel
theorem dX10_take_77 : decode cX10_take 77 = .ok (.iconst (-1), 1) := by decide +kernel
theorem dX10_take_78 : decode cX10_take 78 = .ok (.ireturn, 1) := by decide +kernel
theorem dX10_take_79 : decode cX10_take 79 = .ok (.iconst (-1), 1) := by decide +kernel
theorem dX10_take_80 : decode cX10_take 80 = .ok (.istore_n 3, 1) := by decide +kernel
theorem dX10_take_81 : decode cX10_take 81 = .ok (.iconst 0, 1) := by decide +kernel
theorem dX10_take_82 : decode cX10_take 82 = .ok (.istore 4, 2) := by decide +kernel
theorem dX10_take_84 : decode cX10_take 84 = .ok (.iload 4, 2) := by decide +kernel
theorem dX10_take_86 : decode cX10_take 86 = .ok (.aload_n 0, 1) := by decide +kernel
theorem dX10_take_87 : decode cX10_take 87 = .ok (.getfield 7, 3) := by decide +kernel
theorem dX10_take_90 : decode cX10_take 90 = .ok (.bipush 7, 2) := by decide +kernel
theorem dX10_take_92 : decode cX10_take 92 = .ok (.iaload, 1) := by decide +kernel
theorem dX10_take_93 : decode cX10_take 93 = .ok (.if_icmp .ge 58, 3) := by decide +kernel
theorem dX10_take_96 : decode cX10_take 96 = .ok (.aload_n 0, 1) := by decide +kernel
theorem dX10_take_97 : decode cX10_take 97 = .ok (.aload_n 0, 1) := by decide +kernel
theorem dX10_take_98 : decode cX10_take 98 = .ok (.iload 4, 2) := by decide +kernel
theorem dX10_take_100 : decode cX10_take 100 = .ok (.invokevirtual 113, 3) := by decide +kernel
theorem dX10_take_103 : decode cX10_take 103 = .ok (.bipush 6, 2) := by decide +kernel
theorem dX10_take_105 : decode cX10_take 105 = .ok (.invokevirtual 86, 3) := by decide +kernel
theorem dX10_take_108 : decode cX10_take 108 = .ok (.istore 5, 2) := by decide +kernel
theorem dX10_take_110 : decode cX10_take 110 = .ok (.iload 5, 2) := by decide +kernel
theorem dX10_take_112 : decode cX10_take 112 = .ok (.aload_n 0, 1) := by decide +kernel
theorem dX10_take_113 : decode cX10_take 113 = .ok (.iload_n 1, 1) := by decide +kernel
theorem dX10_take_114 : decode cX10_take 114 = .ok (.bipush 6, 2) := by decide +kernel
theorem dX10_take_116 : decode cX10_take 116 = .ok (.invokevirtual 86, 3) := by decide +kernel
theorem dX10_take_119 : decode cX10_take 119 = .ok (.if_icmp .le 26, 3) := by decide +kernel
theorem dX10_take_122 : decode cX10_take 122 = .ok (.iload_n 3, 1) := by decide +kernel
theorem dX10_take_123 : decode cX10_take 123 = .ok (.ifCond .lt 19, 3) := by decide +kernel
theorem dX10_take_126 : decode cX10_take 126 = .ok (.iload 5, 2) := by decide +kernel
theorem dX10_take_128 : decode cX10_take 128 = .ok (.aload_n 0, 1) := by decide +kernel
theorem dX10_take_129 : decode cX10_take 129 = .ok (.aload_n 0, 1) := by decide +kernel
theorem dX10_take_130 : decode cX10_take 130 = .ok (.iload_n 3, 1) := by decide +kernel
theorem dX10_take_131 : decode cX10_take 131 = .ok (.invokevirtual 113, 3) := by decide +kernel
theorem dX10_take_134 : decode cX10_take 134 = .ok (.bipush 6, 2) := by decide +kernel
theorem dX10_take_136 : decode cX10_take 136 = .ok (.invokevirtual 86, 3) := by decide +kernel
theorem dX10_take_139 : decode cX10_take 139 = .ok (.if_icmp .ge 6, 3) := by decide +kernel
theorem dX10_take_142 : decode cX10_take 142 = .ok (.iload 4, 2) := by decide +kernel
theorem dX10_take_144 : decode cX10_take 144 = .ok (.istore_n 3, 1) := by decide +kernel
theorem dX10_take_145 : decode cX10_take 145 = .ok (.iinc 4 1, 3) := by decide +kernel
theorem dX10_take_148 : decode cX10_take 148 = .ok (.goto (-64), 3) := by decide +kernel
theorem dX10_take_151 : decode cX10_take 151 = .ok (.iload_n 3, 1) := by decide +kernel
theorem dX10_take_152 : decode cX10_take 152 = .ok (.ifCond .ge 22, 3) := by decide +kernel
theorem dX10_take_155 : decode cX10_take 155 = .ok (.aload_n 0, 1) := by decide +kernel
theorem dX10_take_156 : decode cX10_take 156 = .ok (.getfield 7, 3) := by decide +kernel
theorem dX10_take_159 : decode cX10_take 159 = .ok (.bipush 7, 2) := by decide +kernel
theorem dX10_take_161 : decode cX10_take 161 = .ok (.iaload, 1) := by decide +kernel
theorem dX10_take_162 : decode cX10_take 162 = .ok (.istore_n 3, 1) := by decide +kernel
theorem dX10_take_163 : decode cX10_take 163 = .ok (.aload_n 0, 1) := by decide +kernel
theorem dX10_take_164 : decode cX10_take 164 = .ok (.getfield 7, 3) := by decide +kernel
theorem dX10_take_167 : decode cX10_take 167 = .ok (.bipush 7, 2) := by decide +kernel
theorem dX10_take_169 : decode cX10_take 169 = .ok (.dup2, 1) := by decide +kernel
theorem dX10_take_170 : decode cX10_take 170 = .ok (.iaload, 1) := by decide +kernel
theorem dX10_take_171 : decode cX10_take 171 = .ok (.iconst 1, 1) := by decide +kernel
theorem dX10_take_172 : decode cX10_take 172 = .ok (.iadd, 1) := by decide +kernel
theorem dX10_take_173 : decode cX10_take 173 = .ok (.iastore, 1) := by decide +kernel
theorem dX10_take_174 : decode cX10_take 174 = .ok (.aload_n 0, 1) := by decide +kernel
theorem dX10_take_175 : decode cX10_take 175 = .ok (.getfield 7, 3) := by decide +kernel
theorem dX10_take_178 : decode cX10_take 178 = .ok (.sipush 760, 3) := by decide +kernel
theorem dX10_take_181 : decode cX10_take 181 = .ok (.aload_n 0, 1) := by decide +kernel
theorem dX10_take_182 : decode cX10_take 182 = .ok (.invokevirtual 109, 3) := by decide +kernel
theorem dX10_take_185 : decode cX10_take 185 = .ok (.iadd, 1) := by decide +kernel
theorem dX10_take_186 : decode cX10_take 186 = .ok (.iload_n 1, 1) := by decide +kernel
theorem dX10_take_187 : decode cX10_take 187 = .ok (.iastore, 1) := by decide +kernel
theorem dX10_take_188 : decode cX10_take 188 = .ok (.aload_n 0, 1) := by decide +kernel
theorem dX10_take_189 : decode cX10_take 189 = .ok (.getfield 7, 3) := by decide +kernel
theorem dX10_take_192 : decode cX10_take 192 = .ok (.sipush 170, 3) := by decide +kernel
theorem dX10_take_195 : decode cX10_take 195 = .ok (.bipush 8, 2) := by decide +kernel
theorem dX10_take_197 : decode cX10_take 197 = .ok (.iload_n 1, 1) := by decide +kernel
theorem dX10_take_198 : decode cX10_take 198 = .ok (.imul, 1) := by decide +kernel
theorem dX10_take_199 : decode cX10_take 199 = .ok (.iadd, 1) := by decide +kernel
theorem dX10_take_200 : decode cX10_take 200 = .ok (.iconst 4, 1) := by decide +kernel
theorem dX10_take_201 : decode cX10_take 201 = .ok (.iadd, 1) := by decide +kernel
theorem dX10_take_202 : decode cX10_take 202 = .ok (.aload_n 0, 1) := by decide +kernel
theorem dX10_take_203 : decode cX10_take 203 = .ok (.getfield 7, 3) := by decide +kernel
theorem dX10_take_206 : decode cX10_take 206 = .ok (.iconst 4, 1) := by decide +kernel
theorem dX10_take_207 : decode cX10_take 207 = .ok (.iaload, 1) := by decide +kernel
theorem dX10_take_208 : decode cX10_take 208 = .ok (.iastore, 1) := by decide +kernel
theorem dX10_take_209 : decode cX10_take 209 = .ok (.aload_n 0, 1) := by decide +kernel
theorem dX10_take_210 : decode cX10_take 210 = .ok (.getfield 7, 3) := by decide +kernel
theorem dX10_take_213 : decode cX10_take 213 = .ok (.sipush 170, 3) := by decide +kernel
theorem dX10_take_216 : decode cX10_take 216 = .ok (.bipush 8, 2) := by decide +kernel
theorem dX10_take_218 : decode cX10_take 218 = .ok (.iload_n 1, 1) := by decide +kernel
theorem dX10_take_219 : decode cX10_take 219 = .ok (.imul, 1) := by decide +kernel
theorem dX10_take_220 : decode cX10_take 220 = .ok (.iadd, 1) := by decide +kernel
theorem dX10_take_221 : decode cX10_take 221 = .ok (.iconst 5, 1) := by decide +kernel
theorem dX10_take_222 : decode cX10_take 222 = .ok (.iadd, 1) := by decide +kernel
theorem dX10_take_223 : decode cX10_take 223 = .ok (.iload_n 3, 1) := by decide +kernel
theorem dX10_take_224 : decode cX10_take 224 = .ok (.iastore, 1) := by decide +kernel
theorem dX10_take_225 : decode cX10_take 225 = .ok (.aload_n 0, 1) := by decide +kernel
theorem dX10_take_226 : decode cX10_take 226 = .ok (.getfield 7, 3) := by decide +kernel
theorem dX10_take_229 : decode cX10_take 229 = .ok (.iconst 4, 1) := by decide +kernel
theorem dX10_take_230 : decode cX10_take 230 = .ok (.dup2, 1) := by decide +kernel
theorem dX10_take_231 : decode cX10_take 231 = .ok (.iaload, 1) := by decide +kernel
theorem dX10_take_232 : decode cX10_take 232 = .ok (.iconst 1, 1) := by decide +kernel
theorem dX10_take_233 : decode cX10_take 233 = .ok (.iadd, 1) := by decide +kernel
theorem dX10_take_234 : decode cX10_take 234 = .ok (.iastore, 1) := by decide +kernel
theorem dX10_take_235 : decode cX10_take 235 = .ok (.iload_n 3, 1) := by decide +kernel
theorem dX10_take_236 : decode cX10_take 236 = .ok (.ireturn, 1) := by decide +kernel
theorem dX10_piled_0 : decode cX10_piled 0 = .ok (.iconst 0, 1) := by decide +kernel
theorem dX10_piled_1 : decode cX10_piled 1 = .ok (.istore_n 3, 1) := by decide +kernel
theorem dX10_piled_2 : decode cX10_piled 2 = .ok (.iconst 0, 1) := by decide +kernel
theorem dX10_piled_3 : decode cX10_piled 3 = .ok (.istore 4, 2) := by decide +kernel
theorem dX10_piled_5 : decode cX10_piled 5 = .ok (.iload 4, 2) := by decide +kernel
theorem dX10_piled_7 : decode cX10_piled 7 = .ok (.aload_n 0, 1) := by decide +kernel
theorem dX10_piled_8 : decode cX10_piled 8 = .ok (.invokevirtual 109, 3) := by decide +kernel
theorem dX10_piled_11 : decode cX10_piled 11 = .ok (.if_icmp .ge 51, 3) := by decide +kernel
theorem dX10_piled_14 : decode cX10_piled 14 = .ok (.iload_n 2, 1) := by decide +kernel
theorem dX10_piled_15 : decode cX10_piled 15 = .ok (.ifCond .lt 47, 3) := by decide +kernel
theorem dX10_piled_18 : decode cX10_piled 18 = .ok (.aload_n 0, 1) := by decide +kernel
theorem dX10_piled_19 : decode cX10_piled 19 = .ok (.getfield 7, 3) := by decide +kernel
theorem dX10_piled_22 : decode cX10_piled 22 = .ok (.sipush 760, 3) := by decide +kernel
theorem dX10_piled_25 : decode cX10_piled 25 = .ok (.iload 4, 2) := by decide +kernel
theorem dX10_piled_27 : decode cX10_piled 27 = .ok (.iadd, 1) := by decide +kernel
theorem dX10_piled_28 : decode cX10_piled 28 = .ok (.iaload, 1) := by decide +kernel
theorem dX10_piled_29 : decode cX10_piled 29 = .ok (.istore 5, 2) := by decide +kernel
theorem dX10_piled_31 : decode cX10_piled 31 = .ok (.aload_n 0, 1) := by decide +kernel
theorem dX10_piled_32 : decode cX10_piled 32 = .ok (.iload 5, 2) := by decide +kernel
theorem dX10_piled_34 : decode cX10_piled 34 = .ok (.iconst 5, 1) := by decide +kernel
theorem dX10_piled_35 : decode cX10_piled 35 = .ok (.invokevirtual 86, 3) := by decide +kernel
theorem dX10_piled_38 : decode cX10_piled 38 = .ok (.iload_n 1, 1) := by decide +kernel
theorem dX10_piled_39 : decode cX10_piled 39 = .ok (.if_icmp .eq 6, 3) := by decide +kernel
theorem dX10_piled_42 : decode cX10_piled 42 = .ok (.goto 14, 3) := by decide +kernel
theorem dX10_piled_45 : decode cX10_piled 45 = .ok (.iload_n 3, 1) := by decide +kernel
theorem dX10_piled_46 : decode cX10_piled 46 = .ok (.iload_n 2, 1) := by decide +kernel
theorem dX10_piled_47 : decode cX10_piled 47 = .ok (.if_icmp .ne 6, 3) := by decide +kernel
theorem dX10_piled_50 : decode cX10_piled 50 = .ok (.iload 5, 2) := by decide +kernel
theorem dX10_piled_52 : decode cX10_piled 52 = .ok (.ireturn, 1) := by decide +kernel
theorem dX10_piled_53 : decode cX10_piled 53 = .ok (.iinc 3 1, 3) := by decide +kernel
theorem dX10_piled_56 : decode cX10_piled 56 = .ok (.iinc 4 1, 3) := by decide +kernel
theorem dX10_piled_59 : decode cX10_piled 59 = .ok (.goto (-54), 3) := by decide +kernel
theorem dX10_piled_62 : decode cX10_piled 62 = .ok (.iconst (-1), 1) := by decide +kernel
theorem dX10_piled_63 : decode cX10_piled 63 = .ok (.ireturn, 1) := by decide +kernel
theorem dX10_presses_0 : decode cX10_presses 0 = .ok (.iconst 0, 1) := by decide +kernel
theorem dX10_presses_1 : decode cX10_presses 1 = .ok (.istore_n 1, 1) := by decide +kernel
theorem dX10_presses_2 : decode cX10_presses 2 = .ok (.iload_n 1, 1) := by decide +kernel
theorem dX10_presses_3 : decode cX10_presses 3 = .ok (.aload_n 0, 1) := by decide +kernel
theorem dX10_presses_4 : decode cX10_presses 4 = .ok (.getfield 7, 3) := by decide +kernel
theorem dX10_presses_7 : decode cX10_presses 7 = .ok (.iconst 5, 1) := by decide +kernel
theorem dX10_presses_8 : decode cX10_presses 8 = .ok (.iaload, 1) := by decide +kernel
theorem dX10_presses_9 : decode cX10_presses 9 = .ok (.if_icmp .ge 33, 3) := by decide +kernel
theorem dX10_presses_12 : decode cX10_presses 12 = .ok (.aload_n 0, 1) := by decide +kernel
theorem dX10_presses_13 : decode cX10_presses 13 = .ok (.getfield 29, 3) := by decide +kernel
theorem dX10_presses_16 : decode cX10_presses 16 = .ok (.iload_n 1, 1) := by decide +kernel
theorem dX10_presses_17 : decode cX10_presses 17 = .ok (.aload_n 0, 1) := by decide +kernel
theorem dX10_presses_18 : decode cX10_presses 18 = .ok (.iload_n 1, 1) := by decide +kernel
theorem dX10_presses_19 : decode cX10_presses 19 = .ok (.invokevirtual 100, 3) := by decide +kernel
theorem dX10_presses_22 : decode cX10_presses 22 = .ok (.ifCond .ge 8, 3) := by decide +kernel
theorem dX10_presses_25 : decode cX10_presses 25 = .ok (.ldc 116, 2) := by decide +kernel
theorem dX10_presses_27 : decode cX10_presses 27 = .ok (.goto 8, 3) := by decide +kernel
theorem dX10_presses_30 : decode cX10_presses 30 = .ok (.aload_n 0, 1) := by decide +kernel
theorem dX10_presses_31 : decode cX10_presses 31 = .ok (.iload_n 1, 1) := by decide +kernel
theorem dX10_presses_32 : decode cX10_presses 32 = .ok (.invokevirtual 100, 3) := by decide +kernel
theorem dX10_presses_35 : decode cX10_presses 35 = .ok (.iastore, 1) := by decide +kernel
theorem dX10_presses_36 : decode cX10_presses 36 = .ok (.iinc 1 1, 3) := by decide +kernel
theorem dX10_presses_39 : decode cX10_presses 39 = .ok (.goto (-37), 3) := by decide +kernel
theorem dX10_presses_42 : decode cX10_presses 42 = .ok (.iconst 1, 1) := by decide +kernel
theorem dX10_presses_43 : decode cX10_presses 43 = .ok (.istore_n 1, 1) := by decide +kernel
theorem dX10_presses_44 : decode cX10_presses 44 = .ok (.iload_n 1, 1) := by decide +kernel
theorem dX10_presses_45 : decode cX10_presses 45 = .ok (.ifCond .eq 105, 3) := by decide +kernel
theorem dX10_presses_48 : decode cX10_presses 48 = .ok (.iconst 0, 1) := by decide +kernel
theorem dX10_presses_49 : decode cX10_presses 49 = .ok (.istore_n 1, 1) := by decide +kernel
theorem dX10_presses_50 : decode cX10_presses 50 = .ok (.iconst 0, 1) := by decide +kernel
theorem dX10_presses_51 : decode cX10_presses 51 = .ok (.istore_n 2, 1) := by decide +kernel
theorem dX10_presses_52 : decode cX10_presses 52 = .ok (.iload_n 2, 1) := by decide +kernel
theorem dX10_presses_53 : decode cX10_presses 53 = .ok (.aload_n 0, 1) := by decide +kernel
theorem dX10_presses_54 : decode cX10_presses 54 = .ok (.getfield 7, 3) := by decide +kernel
theorem dX10_presses_57 : decode cX10_presses 57 = .ok (.iconst 5, 1) := by decide +kernel
theorem dX10_presses_58 : decode cX10_presses 58 = .ok (.iaload, 1) := by decide +kernel
theorem dX10_presses_59 : decode cX10_presses 59 = .ok (.if_icmp .ge 88, 3) := by decide +kernel
theorem dX10_presses_62 : decode cX10_presses 62 = .ok (.iconst 0, 1) := by decide +kernel
theorem dX10_presses_63 : decode cX10_presses 63 = .ok (.istore_n 3, 1) := by decide +kernel
theorem dX10_presses_64 : decode cX10_presses 64 = .ok (.iload_n 3, 1) := by decide +kernel
theorem dX10_presses_65 : decode cX10_presses 65 = .ok (.aload_n 0, 1) := by decide +kernel
theorem dX10_presses_66 : decode cX10_presses 66 = .ok (.getfield 7, 3) := by decide +kernel
theorem dX10_presses_69 : decode cX10_presses 69 = .ok (.iconst 5, 1) := by decide +kernel
theorem dX10_presses_70 : decode cX10_presses 70 = .ok (.iaload, 1) := by decide +kernel
theorem dX10_presses_71 : decode cX10_presses 71 = .ok (.if_icmp .ge 70, 3) := by decide +kernel
theorem dX10_presses_74 : decode cX10_presses 74 = .ok (.aload_n 0, 1) := by decide +kernel
theorem dX10_presses_75 : decode cX10_presses 75 = .ok (.iload_n 2, 1) := by decide +kernel
theorem dX10_presses_76 : decode cX10_presses 76 = .ok (.invokevirtual 90, 3) := by decide +kernel
theorem dX10_presses_79 : decode cX10_presses 79 = .ok (.ifCond .eq 56, 3) := by decide +kernel
theorem dX10_presses_82 : decode cX10_presses 82 = .ok (.aload_n 0, 1) := by decide +kernel
theorem dX10_presses_83 : decode cX10_presses 83 = .ok (.iload_n 3, 1) := by decide +kernel
theorem dX10_presses_84 : decode cX10_presses 84 = .ok (.invokevirtual 90, 3) := by decide +kernel
theorem dX10_presses_87 : decode cX10_presses 87 = .ok (.ifCond .eq 48, 3) := by decide +kernel
theorem dX10_presses_90 : decode cX10_presses 90 = .ok (.aload_n 0, 1) := by decide +kernel
theorem dX10_presses_91 : decode cX10_presses 91 = .ok (.iload_n 2, 1) := by decide +kernel
theorem dX10_presses_92 : decode cX10_presses 92 = .ok (.iload_n 3, 1) := by decide +kernel
theorem dX10_presses_93 : decode cX10_presses 93 = .ok (.invokevirtual 94, 3) := by decide +kernel
theorem dX10_presses_96 : decode cX10_presses 96 = .ok (.ifCond .eq 39, 3) := by decide +kernel
theorem dX10_presses_99 : decode cX10_presses 99 = .ok (.aload_n 0, 1) := by decide +kernel
theorem dX10_presses_100 : decode cX10_presses 100 = .ok (.getfield 29, 3) := by decide +kernel
theorem dX10_presses_103 : decode cX10_presses 103 = .ok (.iload_n 3, 1) := by decide +kernel
theorem dX10_presses_104 : decode cX10_presses 104 = .ok (.iaload, 1) := by decide +kernel
theorem dX10_presses_105 : decode cX10_presses 105 = .ok (.iconst 1, 1) := by decide +kernel
theorem dX10_presses_106 : decode cX10_presses 106 = .ok (.isub, 1) := by decide +kernel
theorem dX10_presses_107 : decode cX10_presses 107 = .ok (.aload_n 0, 1) := by decide +kernel
theorem dX10_presses_108 : decode cX10_presses 108 = .ok (.getfield 29, 3) := by decide +kernel
theorem dX10_presses_111 : decode cX10_presses 111 = .ok (.iload_n 2, 1) := by decide +kernel
theorem dX10_presses_112 : decode cX10_presses 112 = .ok (.iaload, 1) := by decide +kernel
theorem dX10_presses_113 : decode cX10_presses 113 = .ok (.if_icmp .lt 6, 3) := by decide +kernel
theorem dX10_presses_116 : decode cX10_presses 116 = .ok (.goto 19, 3) := by decide +kernel
theorem dX10_presses_119 : decode cX10_presses 119 = .ok (.aload_n 0, 1) := by decide +kernel
theorem dX10_presses_120 : decode cX10_presses 120 = .ok (.getfield 29, 3) := by decide +kernel
theorem dX10_presses_123 : decode cX10_presses 123 = .ok (.iload_n 2, 1) := by decide +kernel
theorem dX10_presses_124 : decode cX10_presses 124 = .ok (.aload_n 0, 1) := by decide +kernel
theorem dX10_presses_125 : decode cX10_presses 125 = .ok (.getfield 29, 3) := by decide +kernel
theorem dX10_presses_128 : decode cX10_presses 128 = .ok (.iload_n 3, 1) := by decide +kernel
theorem dX10_presses_129 : decode cX10_presses 129 = .ok (.iaload, 1) := by decide +kernel
theorem dX10_presses_130 : decode cX10_presses 130 = .ok (.iconst 1, 1) := by decide +kernel
theorem dX10_presses_131 : decode cX10_presses 131 = .ok (.isub, 1) := by decide +kernel
theorem dX10_presses_132 : decode cX10_presses 132 = .ok (.iastore, 1) := by decide +kernel
theorem dX10_presses_133 : decode cX10_presses 133 = .ok (.iconst 1, 1) := by decide +kernel
theorem dX10_presses_134 : decode cX10_presses 134 = .ok (.istore_n 1, 1) := by decide +kernel
theorem dX10_presses_135 : decode cX10_presses 135 = .ok (.iinc 3 1, 3) := by decide +kernel
theorem dX10_presses_138 : decode cX10_presses 138 = .ok (.goto (-74), 3) := by decide +kernel
theorem dX10_presses_141 : decode cX10_presses 141 = .ok (.iinc 2 1, 3) := by decide +kernel
theorem dX10_presses_144 : decode cX10_presses 144 = .ok (.goto (-92), 3) := by decide +kernel
theorem dX10_presses_147 : decode cX10_presses 147 = .ok (.goto (-103), 3) := by decide +kernel
theorem dX10_presses_150 : decode cX10_presses 150 = .ok (.return_, 1) := by decide +kernel
theorem dX10_isFreeThen_0 : decode cX10_isFreeThen 0 = .ok (.aload_n 0, 1) := by decide +kernel
theorem dX10_isFreeThen_1 : decode cX10_isFreeThen 1 = .ok (.getfield 32, 3) := by decide +kernel
theorem dX10_isFreeThen_4 : decode cX10_isFreeThen 4 = .ok (.iload_n 1, 1) := by decide +kernel
theorem dX10_isFreeThen_5 : decode cX10_isFreeThen 5 = .ok (.baload, 1) := by decide +kernel
theorem dX10_isFreeThen_6 : decode cX10_isFreeThen 6 = .ok (.ifCond .ne 7, 3) := by decide +kernel
theorem dX10_isFreeThen_9 : decode cX10_isFreeThen 9 = .ok (.iconst 1, 1) := by decide +kernel
theorem dX10_isFreeThen_10 : decode cX10_isFreeThen 10 = .ok (.goto 4, 3) := by decide +kernel
theorem dX10_isFreeThen_13 : decode cX10_isFreeThen 13 = .ok (.iconst 0, 1) := by decide +kernel
theorem dX10_isFreeThen_14 : decode cX10_isFreeThen 14 = .ok (.istore_n 2, 1) := by decide +kernel
theorem dX10_isFreeThen_15 : decode cX10_isFreeThen 15 = .ok (.iconst 0, 1) := by decide +kernel
theorem dX10_isFreeThen_16 : decode cX10_isFreeThen 16 = .ok (.istore_n 3, 1) := by decide +kernel
theorem dX10_isFreeThen_17 : decode cX10_isFreeThen 17 = .ok (.iload_n 3, 1) := by decide +kernel
theorem dX10_isFreeThen_18 : decode cX10_isFreeThen 18 = .ok (.aload_n 0, 1) := by decide +kernel
theorem dX10_isFreeThen_19 : decode cX10_isFreeThen 19 = .ok (.getfield 7, 3) := by decide +kernel
theorem dX10_isFreeThen_22 : decode cX10_isFreeThen 22 = .ok (.iconst 5, 1) := by decide +kernel
theorem dX10_isFreeThen_23 : decode cX10_isFreeThen 23 = .ok (.iaload, 1) := by decide +kernel
theorem dX10_isFreeThen_24 : decode cX10_isFreeThen 24 = .ok (.if_icmp .ge 37, 3) := by decide +kernel
theorem dX10_isFreeThen_27 : decode cX10_isFreeThen 27 = .ok (.iload_n 2, 1) := by decide +kernel
theorem dX10_isFreeThen_28 : decode cX10_isFreeThen 28 = .ok (.ifCond .eq 25, 3) := by decide +kernel
theorem dX10_isFreeThen_31 : decode cX10_isFreeThen 31 = .ok (.aload_n 0, 1) := by decide +kernel
theorem dX10_isFreeThen_32 : decode cX10_isFreeThen 32 = .ok (.iload_n 3, 1) := by decide +kernel
theorem dX10_isFreeThen_33 : decode cX10_isFreeThen 33 = .ok (.iload_n 1, 1) := by decide +kernel
theorem dX10_isFreeThen_34 : decode cX10_isFreeThen 34 = .ok (.invokevirtual 94, 3) := by decide +kernel
theorem dX10_isFreeThen_37 : decode cX10_isFreeThen 37 = .ok (.ifCond .eq 12, 3) := by decide +kernel
theorem dX10_isFreeThen_40 : decode cX10_isFreeThen 40 = .ok (.aload_n 0, 1) := by decide +kernel
theorem dX10_isFreeThen_41 : decode cX10_isFreeThen 41 = .ok (.getfield 32, 3) := by decide +kernel
theorem dX10_isFreeThen_44 : decode cX10_isFreeThen 44 = .ok (.iload_n 3, 1) := by decide +kernel
theorem dX10_isFreeThen_45 : decode cX10_isFreeThen 45 = .ok (.baload, 1) := by decide +kernel
theorem dX10_isFreeThen_46 : decode cX10_isFreeThen 46 = .ok (.ifCond .eq 7, 3) := by decide +kernel
theorem dX10_isFreeThen_49 : decode cX10_isFreeThen 49 = .ok (.iconst 1, 1) := by decide +kernel
theorem dX10_isFreeThen_50 : decode cX10_isFreeThen 50 = .ok (.goto 4, 3) := by decide +kernel
theorem dX10_isFreeThen_53 : decode cX10_isFreeThen 53 = .ok (.iconst 0, 1) := by decide +kernel
theorem dX10_isFreeThen_54 : decode cX10_isFreeThen 54 = .ok (.istore_n 2, 1) := by decide +kernel
theorem dX10_isFreeThen_55 : decode cX10_isFreeThen 55 = .ok (.iinc 3 1, 3) := by decide +kernel
theorem dX10_isFreeThen_58 : decode cX10_isFreeThen 58 = .ok (.goto (-41), 3) := by decide +kernel
theorem dX10_isFreeThen_61 : decode cX10_isFreeThen 61 = .ok (.iload_n 2, 1) := by decide +kernel
theorem dX10_isFreeThen_62 : decode cX10_isFreeThen 62 = .ok (.ireturn, 1) := by decide +kernel
theorem dX10_nextBlock_0 : decode cX10_nextBlock 0 = .ok (.iconst (-1), 1) := by decide +kernel
theorem dX10_nextBlock_1 : decode cX10_nextBlock 1 = .ok (.istore_n 1, 1) := by decide +kernel
theorem dX10_nextBlock_2 : decode cX10_nextBlock 2 = .ok (.iconst 0, 1) := by decide +kernel
theorem dX10_nextBlock_3 : decode cX10_nextBlock 3 = .ok (.istore_n 2, 1) := by decide +kernel
theorem dX10_nextBlock_4 : decode cX10_nextBlock 4 = .ok (.iload_n 2, 1) := by decide +kernel
theorem dX10_nextBlock_5 : decode cX10_nextBlock 5 = .ok (.aload_n 0, 1) := by decide +kernel
theorem dX10_nextBlock_6 : decode cX10_nextBlock 6 = .ok (.getfield 7, 3) := by decide +kernel
theorem dX10_nextBlock_9 : decode cX10_nextBlock 9 = .ok (.iconst 5, 1) := by decide +kernel
theorem dX10_nextBlock_10 : decode cX10_nextBlock 10 = .ok (.iaload, 1) := by decide +kernel
theorem dX10_nextBlock_11 : decode cX10_nextBlock 11 = .ok (.if_icmp .ge 38, 3) := by decide +kernel
theorem dX10_nextBlock_14 : decode cX10_nextBlock 14 = .ok (.aload_n 0, 1) := by decide +kernel
theorem dX10_nextBlock_15 : decode cX10_nextBlock 15 = .ok (.iload_n 2, 1) := by decide +kernel
theorem dX10_nextBlock_16 : decode cX10_nextBlock 16 = .ok (.invokevirtual 117, 3) := by decide +kernel
theorem dX10_nextBlock_19 : decode cX10_nextBlock 19 = .ok (.ifCond .eq 24, 3) := by decide +kernel
theorem dX10_nextBlock_22 : decode cX10_nextBlock 22 = .ok (.iload_n 1, 1) := by decide +kernel
theorem dX10_nextBlock_23 : decode cX10_nextBlock 23 = .ok (.ifCond .lt 18, 3) := by decide +kernel
theorem dX10_nextBlock_26 : decode cX10_nextBlock 26 = .ok (.aload_n 0, 1) := by decide +kernel
theorem dX10_nextBlock_27 : decode cX10_nextBlock 27 = .ok (.getfield 29, 3) := by decide +kernel
theorem dX10_nextBlock_30 : decode cX10_nextBlock 30 = .ok (.iload_n 2, 1) := by decide +kernel
theorem dX10_nextBlock_31 : decode cX10_nextBlock 31 = .ok (.iaload, 1) := by decide +kernel
theorem dX10_nextBlock_32 : decode cX10_nextBlock 32 = .ok (.aload_n 0, 1) := by decide +kernel
theorem dX10_nextBlock_33 : decode cX10_nextBlock 33 = .ok (.getfield 29, 3) := by decide +kernel
theorem dX10_nextBlock_36 : decode cX10_nextBlock 36 = .ok (.iload_n 1, 1) := by decide +kernel
theorem dX10_nextBlock_37 : decode cX10_nextBlock 37 = .ok (.iaload, 1) := by decide +kernel
theorem dX10_nextBlock_38 : decode cX10_nextBlock 38 = .ok (.if_icmp .ge 5, 3) := by decide +kernel
theorem dX10_nextBlock_41 : decode cX10_nextBlock 41 = .ok (.iload_n 2, 1) := by decide +kernel
theorem dX10_nextBlock_42 : decode cX10_nextBlock 42 = .ok (.istore_n 1, 1) := by decide +kernel
theorem dX10_nextBlock_43 : decode cX10_nextBlock 43 = .ok (.iinc 2 1, 3) := by decide +kernel
theorem dX10_nextBlock_46 : decode cX10_nextBlock 46 = .ok (.goto (-42), 3) := by decide +kernel
theorem dX10_nextBlock_49 : decode cX10_nextBlock 49 = .ok (.iload_n 1, 1) := by decide +kernel
theorem dX10_nextBlock_50 : decode cX10_nextBlock 50 = .ok (.ireturn, 1) := by decide +kernel
theorem dX10_order_0 : decode cX10_order 0 = .ok (.aload_n 0, 1) := by decide +kernel
theorem dX10_order_1 : decode cX10_order 1 = .ok (.getfield 7, 3) := by decide +kernel
theorem dX10_order_4 : decode cX10_order 4 = .ok (.iconst 5, 1) := by decide +kernel
theorem dX10_order_5 : decode cX10_order 5 = .ok (.iaload, 1) := by decide +kernel
theorem dX10_order_6 : decode cX10_order 6 = .ok (.ifCond .ne 5, 3) := by decide +kernel
theorem dX10_order_9 : decode cX10_order 9 = .ok (.iconst (-1), 1) := by decide +kernel
theorem dX10_order_10 : decode cX10_order 10 = .ok (.ireturn, 1) := by decide +kernel
theorem dX10_order_11 : decode cX10_order 11 = .ok (.aload_n 0, 1) := by decide +kernel
theorem dX10_order_12 : decode cX10_order 12 = .ok (.invokevirtual 120, 3) := by decide +kernel
theorem dX10_order_15 : decode cX10_order 15 = .ok (.iconst 0, 1) := by decide +kernel
theorem dX10_order_16 : decode cX10_order 16 = .ok (.istore_n 1, 1) := by decide +kernel
theorem dX10_order_17 : decode cX10_order 17 = .ok (.iload_n 1, 1) := by decide +kernel
theorem dX10_order_18 : decode cX10_order 18 = .ok (.aload_n 0, 1) := by decide +kernel
theorem dX10_order_19 : decode cX10_order 19 = .ok (.getfield 7, 3) := by decide +kernel
theorem dX10_order_22 : decode cX10_order 22 = .ok (.iconst 5, 1) := by decide +kernel
theorem dX10_order_23 : decode cX10_order 23 = .ok (.iaload, 1) := by decide +kernel
theorem dX10_order_24 : decode cX10_order 24 = .ok (.if_icmp .ge 28, 3) := by decide +kernel
theorem dX10_order_27 : decode cX10_order 27 = .ok (.aload_n 0, 1) := by decide +kernel
theorem dX10_order_28 : decode cX10_order 28 = .ok (.getfield 32, 3) := by decide +kernel
theorem dX10_order_31 : decode cX10_order 31 = .ok (.iload_n 1, 1) := by decide +kernel
theorem dX10_order_32 : decode cX10_order 32 = .ok (.aload_n 0, 1) := by decide +kernel
theorem dX10_order_33 : decode cX10_order 33 = .ok (.iload_n 1, 1) := by decide +kernel
theorem dX10_order_34 : decode cX10_order 34 = .ok (.invokevirtual 90, 3) := by decide +kernel
theorem dX10_order_37 : decode cX10_order 37 = .ok (.ifCond .ne 7, 3) := by decide +kernel
theorem dX10_order_40 : decode cX10_order 40 = .ok (.iconst 1, 1) := by decide +kernel
theorem dX10_order_41 : decode cX10_order 41 = .ok (.goto 4, 3) := by decide +kernel
theorem dX10_order_44 : decode cX10_order 44 = .ok (.iconst 0, 1) := by decide +kernel
theorem dX10_order_45 : decode cX10_order 45 = .ok (.bastore, 1) := by decide +kernel
theorem dX10_order_46 : decode cX10_order 46 = .ok (.iinc 1 1, 3) := by decide +kernel
theorem dX10_order_49 : decode cX10_order 49 = .ok (.goto (-32), 3) := by decide +kernel
theorem dX10_order_52 : decode cX10_order 52 = .ok (.iconst 0, 1) := by decide +kernel
theorem dX10_order_53 : decode cX10_order 53 = .ok (.istore_n 1, 1) := by decide +kernel
theorem dX10_order_54 : decode cX10_order 54 = .ok (.aload_n 0, 1) := by decide +kernel
theorem dX10_order_55 : decode cX10_order 55 = .ok (.getfield 7, 3) := by decide +kernel
theorem dX10_order_58 : decode cX10_order 58 = .ok (.bipush 8, 2) := by decide +kernel
theorem dX10_order_60 : decode cX10_order 60 = .ok (.iconst 0, 1) := by decide +kernel
theorem dX10_order_61 : decode cX10_order 61 = .ok (.iastore, 1) := by decide +kernel
theorem dX10_order_62 : decode cX10_order 62 = .ok (.aload_n 0, 1) := by decide +kernel
theorem dX10_order_63 : decode cX10_order 63 = .ok (.invokevirtual 123, 3) := by decide +kernel
theorem dX10_order_66 : decode cX10_order 66 = .ok (.istore_n 2, 1) := by decide +kernel
theorem dX10_order_67 : decode cX10_order 67 = .ok (.iload_n 2, 1) := by decide +kernel
theorem dX10_order_68 : decode cX10_order 68 = .ok (.ifCond .lt 84, 3) := by decide +kernel
theorem dX10_order_71 : decode cX10_order 71 = .ok (.aload_n 0, 1) := by decide +kernel
theorem dX10_order_72 : decode cX10_order 72 = .ok (.getfield 32, 3) := by decide +kernel
theorem dX10_order_75 : decode cX10_order 75 = .ok (.iload_n 2, 1) := by decide +kernel
theorem dX10_order_76 : decode cX10_order 76 = .ok (.iconst 1, 1) := by decide +kernel
theorem dX10_order_77 : decode cX10_order 77 = .ok (.bastore, 1) := by decide +kernel
theorem dX10_order_78 : decode cX10_order 78 = .ok (.iload_n 1, 1) := by decide +kernel
theorem dX10_order_79 : decode cX10_order 79 = .ok (.aload_n 0, 1) := by decide +kernel
theorem dX10_order_80 : decode cX10_order 80 = .ok (.iload_n 2, 1) := by decide +kernel
theorem dX10_order_81 : decode cX10_order 81 = .ok (.invokevirtual 100, 3) := by decide +kernel
theorem dX10_order_84 : decode cX10_order 84 = .ok (.ifCond .lt 29, 3) := by decide +kernel
theorem dX10_order_87 : decode cX10_order 87 = .ok (.aload_n 0, 1) := by decide +kernel
theorem dX10_order_88 : decode cX10_order 88 = .ok (.getfield 7, 3) := by decide +kernel
theorem dX10_order_91 : decode cX10_order 91 = .ok (.iconst 4, 1) := by decide +kernel
theorem dX10_order_92 : decode cX10_order 92 = .ok (.iaload, 1) := by decide +kernel
theorem dX10_order_93 : decode cX10_order 93 = .ok (.aload_n 0, 1) := by decide +kernel
theorem dX10_order_94 : decode cX10_order 94 = .ok (.getfield 7, 3) := by decide +kernel
theorem dX10_order_97 : decode cX10_order 97 = .ok (.bipush 8, 2) := by decide +kernel
theorem dX10_order_99 : decode cX10_order 99 = .ok (.iaload, 1) := by decide +kernel
theorem dX10_order_100 : decode cX10_order 100 = .ok (.iadd, 1) := by decide +kernel
theorem dX10_order_101 : decode cX10_order 101 = .ok (.aload_n 0, 1) := by decide +kernel
theorem dX10_order_102 : decode cX10_order 102 = .ok (.iload_n 2, 1) := by decide +kernel
theorem dX10_order_103 : decode cX10_order 103 = .ok (.invokevirtual 100, 3) := by decide +kernel
theorem dX10_order_106 : decode cX10_order 106 = .ok (.if_icmp .lt 7, 3) := by decide +kernel
theorem dX10_order_109 : decode cX10_order 109 = .ok (.iconst 1, 1) := by decide +kernel
theorem dX10_order_110 : decode cX10_order 110 = .ok (.goto 4, 3) := by decide +kernel
theorem dX10_order_113 : decode cX10_order 113 = .ok (.iconst 0, 1) := by decide +kernel
theorem dX10_order_114 : decode cX10_order 114 = .ok (.iadd, 1) := by decide +kernel
theorem dX10_order_115 : decode cX10_order 115 = .ok (.istore_n 1, 1) := by decide +kernel
theorem dX10_order_116 : decode cX10_order 116 = .ok (.aload_n 0, 1) := by decide +kernel
theorem dX10_order_117 : decode cX10_order 117 = .ok (.getfield 7, 3) := by decide +kernel
theorem dX10_order_120 : decode cX10_order 120 = .ok (.sipush 690, 3) := by decide +kernel
theorem dX10_order_123 : decode cX10_order 123 = .ok (.aload_n 0, 1) := by decide +kernel
theorem dX10_order_124 : decode cX10_order 124 = .ok (.getfield 7, 3) := by decide +kernel
theorem dX10_order_127 : decode cX10_order 127 = .ok (.bipush 8, 2) := by decide +kernel
theorem dX10_order_129 : decode cX10_order 129 = .ok (.iaload, 1) := by decide +kernel
theorem dX10_order_130 : decode cX10_order 130 = .ok (.iadd, 1) := by decide +kernel
theorem dX10_order_131 : decode cX10_order 131 = .ok (.iload_n 2, 1) := by decide +kernel
theorem dX10_order_132 : decode cX10_order 132 = .ok (.iastore, 1) := by decide +kernel
theorem dX10_order_133 : decode cX10_order 133 = .ok (.aload_n 0, 1) := by decide +kernel
theorem dX10_order_134 : decode cX10_order 134 = .ok (.getfield 7, 3) := by decide +kernel
theorem dX10_order_137 : decode cX10_order 137 = .ok (.bipush 8, 2) := by decide +kernel
theorem dX10_order_139 : decode cX10_order 139 = .ok (.dup2, 1) := by decide +kernel
theorem dX10_order_140 : decode cX10_order 140 = .ok (.iaload, 1) := by decide +kernel
theorem dX10_order_141 : decode cX10_order 141 = .ok (.iconst 1, 1) := by decide +kernel
theorem dX10_order_142 : decode cX10_order 142 = .ok (.iadd, 1) := by decide +kernel
theorem dX10_order_143 : decode cX10_order 143 = .ok (.iastore, 1) := by decide +kernel
theorem dX10_order_144 : decode cX10_order 144 = .ok (.aload_n 0, 1) := by decide +kernel
theorem dX10_order_145 : decode cX10_order 145 = .ok (.invokevirtual 123, 3) := by decide +kernel
theorem dX10_order_148 : decode cX10_order 148 = .ok (.istore_n 2, 1) := by decide +kernel
theorem dX10_order_149 : decode cX10_order 149 = .ok (.goto (-82), 3) := by decide +kernel
theorem dX10_order_152 : decode cX10_order 152 = .ok (.iload_n 1, 1) := by decide +kernel
theorem dX10_order_153 : decode cX10_order 153 = .ok (.ireturn, 1) := by decide +kernel
theorem dX10_ordered_0 : decode cX10_ordered 0 = .ok (.iload_n 1, 1) := by decide +kernel
theorem dX10_ordered_1 : decode cX10_ordered 1 = .ok (.iconst 0, 1) := by decide +kernel
theorem dX10_ordered_2 : decode cX10_ordered 2 = .ok (.aload_n 0, 1) := by decide +kernel
theorem dX10_ordered_3 : decode cX10_ordered 3 = .ok (.getfield 7, 3) := by decide +kernel
theorem dX10_ordered_6 : decode cX10_ordered 6 = .ok (.bipush 8, 2) := by decide +kernel
theorem dX10_ordered_8 : decode cX10_ordered 8 = .ok (.iaload, 1) := by decide +kernel
theorem dX10_ordered_9 : decode cX10_ordered 9 = .ok (.iconst 1, 1) := by decide +kernel
theorem dX10_ordered_10 : decode cX10_ordered 10 = .ok (.isub, 1) := by decide +kernel
theorem dX10_ordered_11 : decode cX10_ordered 11 = .ok (.invokestatic 42, 3) := by decide +kernel
theorem dX10_ordered_14 : decode cX10_ordered 14 = .ok (.ifCond .eq 16, 3) := by decide +kernel
theorem dX10_ordered_17 : decode cX10_ordered 17 = .ok (.aload_n 0, 1) := by decide +kernel
theorem dX10_ordered_18 : decode cX10_ordered 18 = .ok (.getfield 7, 3) := by decide +kernel
theorem dX10_ordered_21 : decode cX10_ordered 21 = .ok (.sipush 690, 3) := by decide +kernel
theorem dX10_ordered_24 : decode cX10_ordered 24 = .ok (.iload_n 1, 1) := by decide +kernel
theorem dX10_ordered_25 : decode cX10_ordered 25 = .ok (.iadd, 1) := by decide +kernel
theorem dX10_ordered_26 : decode cX10_ordered 26 = .ok (.iaload, 1) := by decide +kernel
theorem dX10_ordered_27 : decode cX10_ordered 27 = .ok (.goto 4, 3) := by decide +kernel
theorem dX10_ordered_30 : decode cX10_ordered 30 = .ok (.iconst (-1), 1) := by decide +kernel
theorem dX10_ordered_31 : decode cX10_ordered 31 = .ok (.ireturn, 1) := by decide +kernel
theorem dX10_direction_0 : decode cX10_direction 0 = .ok (.iconst 4, 1) := by decide +kernel
theorem dX10_direction_1 : decode cX10_direction 1 = .ok (.iload_n 0, 1) := by decide +kernel
theorem dX10_direction_2 : decode cX10_direction 2 = .ok (.imul, 1) := by decide +kernel
theorem dX10_direction_3 : decode cX10_direction 3 = .ok (.sipush 1460, 3) := by decide +kernel
theorem dX10_direction_6 : decode cX10_direction 6 = .ok (.irem, 1) := by decide +kernel
theorem dX10_direction_7 : decode cX10_direction 7 = .ok (.sipush 730, 3) := by decide +kernel
theorem dX10_direction_10 : decode cX10_direction 10 = .ok (.isub, 1) := by decide +kernel
theorem dX10_direction_11 : decode cX10_direction 11 = .ok (.istore_n 1, 1) := by decide +kernel
theorem dX10_direction_12 : decode cX10_direction 12 = .ok (.iload_n 1, 1) := by decide +kernel
theorem dX10_direction_13 : decode cX10_direction 13 = .ok (.ifCond .ge 8, 3) := by decide +kernel
theorem dX10_direction_16 : decode cX10_direction 16 = .ok (.iload_n 1, 1) := by decide +kernel
theorem dX10_direction_17 : decode cX10_direction 17 = .ok (.ineg, 1) := by decide +kernel
theorem dX10_direction_18 : decode cX10_direction 18 = .ok (.goto 4, 3) := by decide +kernel
theorem dX10_direction_21 : decode cX10_direction 21 = .ok (.iload_n 1, 1) := by decide +kernel
theorem dX10_direction_22 : decode cX10_direction 22 = .ok (.sipush 365, 3) := by decide +kernel
theorem dX10_direction_25 : decode cX10_direction 25 = .ok (.isub, 1) := by decide +kernel
theorem dX10_direction_26 : decode cX10_direction 26 = .ok (.ireturn, 1) := by decide +kernel
theorem dX10_sun_0 : decode cX10_sun 0 = .ok (.iload_n 1, 1) := by decide +kernel
theorem dX10_sun_1 : decode cX10_sun 1 = .ok (.iconst 0, 1) := by decide +kernel
theorem dX10_sun_2 : decode cX10_sun 2 = .ok (.sipush 364, 3) := by decide +kernel
theorem dX10_sun_5 : decode cX10_sun 5 = .ok (.invokestatic 42, 3) := by decide +kernel
theorem dX10_sun_8 : decode cX10_sun 8 = .ok (.ifCond .eq 10, 3) := by decide +kernel
theorem dX10_sun_11 : decode cX10_sun 11 = .ok (.iload_n 1, 1) := by decide +kernel
theorem dX10_sun_12 : decode cX10_sun 12 = .ok (.invokestatic 126, 3) := by decide +kernel
theorem dX10_sun_15 : decode cX10_sun 15 = .ok (.goto 6, 3) := by decide +kernel
theorem dX10_sun_18 : decode cX10_sun 18 = .ok (.sipush (-1000), 3) := by decide +kernel
theorem dX10_sun_21 : decode cX10_sun 21 = .ok (.ireturn, 1) := by decide +kernel
theorem dX10_strikesOn_0 : decode cX10_strikesOn 0 = .ok (.iload_n 0, 1) := by decide +kernel
theorem dX10_strikesOn_1 : decode cX10_strikesOn 1 = .ok (.invokestatic 126, 3) := by decide +kernel
theorem dX10_strikesOn_4 : decode cX10_strikesOn 4 = .ok (.iload_n 1, 1) := by decide +kernel
theorem dX10_strikesOn_5 : decode cX10_strikesOn 5 = .ok (.iload_n 2, 1) := by decide +kernel
theorem dX10_strikesOn_6 : decode cX10_strikesOn 6 = .ok (.isub, 1) := by decide +kernel
theorem dX10_strikesOn_7 : decode cX10_strikesOn 7 = .ok (.iload_n 1, 1) := by decide +kernel
theorem dX10_strikesOn_8 : decode cX10_strikesOn 8 = .ok (.iload_n 2, 1) := by decide +kernel
theorem dX10_strikesOn_9 : decode cX10_strikesOn 9 = .ok (.iadd, 1) := by decide +kernel
theorem dX10_strikesOn_10 : decode cX10_strikesOn 10 = .ok (.invokestatic 42, 3) := by decide +kernel
theorem dX10_strikesOn_13 : decode cX10_strikesOn 13 = .ok (.ireturn, 1) := by decide +kernel
theorem dX10_isPlace_0 : decode cX10_isPlace 0 = .ok (.iload_n 0, 1) := by decide +kernel
theorem dX10_isPlace_1 : decode cX10_isPlace 1 = .ok (.sipush (-400), 3) := by decide +kernel
theorem dX10_isPlace_4 : decode cX10_isPlace 4 = .ok (.sipush 400, 3) := by decide +kernel
theorem dX10_isPlace_7 : decode cX10_isPlace 7 = .ok (.invokestatic 42, 3) := by decide +kernel
theorem dX10_isPlace_10 : decode cX10_isPlace 10 = .ok (.ifCond .eq 18, 3) := by decide +kernel
theorem dX10_isPlace_13 : decode cX10_isPlace 13 = .ok (.iload_n 1, 1) := by decide +kernel
theorem dX10_isPlace_14 : decode cX10_isPlace 14 = .ok (.iconst 0, 1) := by decide +kernel
theorem dX10_isPlace_15 : decode cX10_isPlace 15 = .ok (.sipush 400, 3) := by decide +kernel
theorem dX10_isPlace_18 : decode cX10_isPlace 18 = .ok (.invokestatic 42, 3) := by decide +kernel
theorem dX10_isPlace_21 : decode cX10_isPlace 21 = .ok (.ifCond .eq 7, 3) := by decide +kernel
theorem dX10_isPlace_24 : decode cX10_isPlace 24 = .ok (.iconst 1, 1) := by decide +kernel
theorem dX10_isPlace_25 : decode cX10_isPlace 25 = .ok (.goto 4, 3) := by decide +kernel
theorem dX10_isPlace_28 : decode cX10_isPlace 28 = .ok (.iconst 0, 1) := by decide +kernel
theorem dX10_isPlace_29 : decode cX10_isPlace 29 = .ok (.ireturn, 1) := by decide +kernel
theorem dX10_strikes_0 : decode cX10_strikes 0 = .ok (.iload_n 1, 1) := by decide +kernel
theorem dX10_strikes_1 : decode cX10_strikes 1 = .ok (.iload_n 2, 1) := by decide +kernel
theorem dX10_strikes_2 : decode cX10_strikes 2 = .ok (.invokestatic 129, 3) := by decide +kernel
theorem dX10_strikes_5 : decode cX10_strikes 5 = .ok (.ifCond .ne 5, 3) := by decide +kernel
theorem dX10_strikes_8 : decode cX10_strikes 8 = .ok (.iconst (-1), 1) := by decide +kernel
theorem dX10_strikes_9 : decode cX10_strikes 9 = .ok (.ireturn, 1) := by decide +kernel
theorem dX10_strikes_10 : decode cX10_strikes 10 = .ok (.iconst 0, 1) := by decide +kernel
theorem dX10_strikes_11 : decode cX10_strikes 11 = .ok (.istore_n 3, 1) := by decide +kernel
theorem dX10_strikes_12 : decode cX10_strikes 12 = .ok (.iconst 0, 1) := by decide +kernel
theorem dX10_strikes_13 : decode cX10_strikes 13 = .ok (.istore 4, 2) := by decide +kernel
theorem dX10_strikes_15 : decode cX10_strikes 15 = .ok (.iload 4, 2) := by decide +kernel
theorem dX10_strikes_17 : decode cX10_strikes 17 = .ok (.sipush 365, 3) := by decide +kernel
theorem dX10_strikes_20 : decode cX10_strikes 20 = .ok (.if_icmp .ge 27, 3) := by decide +kernel
theorem dX10_strikes_23 : decode cX10_strikes 23 = .ok (.iload_n 3, 1) := by decide +kernel
theorem dX10_strikes_24 : decode cX10_strikes 24 = .ok (.iload 4, 2) := by decide +kernel
theorem dX10_strikes_26 : decode cX10_strikes 26 = .ok (.iload_n 1, 1) := by decide +kernel
theorem dX10_strikes_27 : decode cX10_strikes 27 = .ok (.iload_n 2, 1) := by decide +kernel
theorem dX10_strikes_28 : decode cX10_strikes 28 = .ok (.invokestatic 132, 3) := by decide +kernel
theorem dX10_strikes_31 : decode cX10_strikes 31 = .ok (.ifCond .eq 7, 3) := by decide +kernel
theorem dX10_strikes_34 : decode cX10_strikes 34 = .ok (.iconst 1, 1) := by decide +kernel
theorem dX10_strikes_35 : decode cX10_strikes 35 = .ok (.goto 4, 3) := by decide +kernel
theorem dX10_strikes_38 : decode cX10_strikes 38 = .ok (.iconst 0, 1) := by decide +kernel
theorem dX10_strikes_39 : decode cX10_strikes 39 = .ok (.iadd, 1) := by decide +kernel
theorem dX10_strikes_40 : decode cX10_strikes 40 = .ok (.istore_n 3, 1) := by decide +kernel
theorem dX10_strikes_41 : decode cX10_strikes 41 = .ok (.iinc 4 1, 3) := by decide +kernel
theorem dX10_strikes_44 : decode cX10_strikes 44 = .ok (.goto (-29), 3) := by decide +kernel
theorem dX10_strikes_47 : decode cX10_strikes 47 = .ok (.iload_n 3, 1) := by decide +kernel
theorem dX10_strikes_48 : decode cX10_strikes 48 = .ok (.ireturn, 1) := by decide +kernel
theorem dX10_like_0 : decode cX10_like 0 = .ok (.iload_n 1, 1) := by decide +kernel
theorem dX10_like_1 : decode cX10_like 1 = .ok (.iload_n 2, 1) := by decide +kernel
theorem dX10_like_2 : decode cX10_like 2 = .ok (.invokestatic 129, 3) := by decide +kernel
theorem dX10_like_5 : decode cX10_like 5 = .ok (.ifCond .eq 11, 3) := by decide +kernel
theorem dX10_like_8 : decode cX10_like 8 = .ok (.iconst 0, 1) := by decide +kernel
theorem dX10_like_9 : decode cX10_like 9 = .ok (.iload_n 3, 1) := by decide +kernel
theorem dX10_like_10 : decode cX10_like 10 = .ok (.invokestatic 129, 3) := by decide +kernel
theorem dX10_like_13 : decode cX10_like 13 = .ok (.ifCond .ne 7, 3) := by decide +kernel
theorem dX10_like_16 : decode cX10_like 16 = .ok (.sipush (-1000), 3) := by decide +kernel
theorem dX10_like_19 : decode cX10_like 19 = .ok (.ireturn, 1) := by decide +kernel
theorem dX10_like_20 : decode cX10_like 20 = .ok (.iconst 0, 1) := by decide +kernel
theorem dX10_like_21 : decode cX10_like 21 = .ok (.istore 4, 2) := by decide +kernel
