theorem dX10_partsOf_2 : decode cX10_partsOf 2 = .ok (.sipush 255, 3) := by decide +kernel
theorem dX10_partsOf_5 : decode cX10_partsOf 5 = .ok (.iand, 1) := by decide +kernel
theorem dX10_partsOf_6 : decode cX10_partsOf 6 = .ok (.invokestatic 152, 3) := by decide +kernel
theorem dX10_partsOf_9 : decode cX10_partsOf 9 = .ok (.ishl, 1) := by decide +kernel
theorem dX10_partsOf_10 : decode cX10_partsOf 10 = .ok (.ireturn, 1) := by decide +kernel
theorem dX10_nextPart_0 : decode cX10_nextPart 0 = .ok (.iload_n 0, 1) := by decide +kernel
theorem dX10_nextPart_1 : decode cX10_nextPart 1 = .ok (.iload_n 1, 1) := by decide +kernel
theorem dX10_nextPart_2 : decode cX10_nextPart 2 = .ok (.isub, 1) := by decide +kernel
theorem dX10_nextPart_3 : decode cX10_nextPart 3 = .ok (.iload_n 1, 1) := by decide +kernel
theorem dX10_nextPart_4 : decode cX10_nextPart 4 = .ok (.iand, 1) := by decide +kernel
theorem dX10_nextPart_5 : decode cX10_nextPart 5 = .ok (.ireturn, 1) := by decide +kernel
theorem dJ6_bitCount_0f7a4_0 : decode cJ6_bitCount_0f7a4 0 = .ok (.iload_n 0, 1) := by decide +kernel
theorem dJ6_bitCount_0f7a4_1 : decode cJ6_bitCount_0f7a4 1 = .ok (.iload_n 0, 1) := by decide +kernel
theorem dJ6_bitCount_0f7a4_2 : decode cJ6_bitCount_0f7a4 2 = .ok (.iconst 1, 1) := by decide +kernel
theorem dJ6_bitCount_0f7a4_3 : decode cJ6_bitCount_0f7a4 3 = .ok (.iushr, 1) := by decide +kernel
theorem dJ6_bitCount_0f7a4_4 : decode cJ6_bitCount_0f7a4 4 = .ok (.ldc_w 265, 3) := by decide +kernel
theorem dJ6_bitCount_0f7a4_7 : decode cJ6_bitCount_0f7a4 7 = .ok (.iand, 1) := by decide +kernel
theorem dJ6_bitCount_0f7a4_8 : decode cJ6_bitCount_0f7a4 8 = .ok (.isub, 1) := by decide +kernel
theorem dJ6_bitCount_0f7a4_9 : decode cJ6_bitCount_0f7a4 9 = .ok (.istore_n 0, 1) := by decide +kernel
theorem dJ6_bitCount_0f7a4_10 : decode cJ6_bitCount_0f7a4 10 = .ok (.iload_n 0, 1) := by decide +kernel
theorem dJ6_bitCount_0f7a4_11 : decode cJ6_bitCount_0f7a4 11 = .ok (.ldc_w 266, 3) := by decide +kernel
theorem dJ6_bitCount_0f7a4_14 : decode cJ6_bitCount_0f7a4 14 = .ok (.iand, 1) := by decide +kernel
theorem dJ6_bitCount_0f7a4_15 : decode cJ6_bitCount_0f7a4 15 = .ok (.iload_n 0, 1) := by decide +kernel
theorem dJ6_bitCount_0f7a4_16 : decode cJ6_bitCount_0f7a4 16 = .ok (.iconst 2, 1) := by decide +kernel
theorem dJ6_bitCount_0f7a4_17 : decode cJ6_bitCount_0f7a4 17 = .ok (.iushr, 1) := by decide +kernel
theorem dJ6_bitCount_0f7a4_18 : decode cJ6_bitCount_0f7a4 18 = .ok (.ldc_w 266, 3) := by decide +kernel
theorem dJ6_bitCount_0f7a4_21 : decode cJ6_bitCount_0f7a4 21 = .ok (.iand, 1) := by decide +kernel
theorem dJ6_bitCount_0f7a4_22 : decode cJ6_bitCount_0f7a4 22 = .ok (.iadd, 1) := by decide +kernel
theorem dJ6_bitCount_0f7a4_23 : decode cJ6_bitCount_0f7a4 23 = .ok (.istore_n 0, 1) := by decide +kernel
theorem dJ6_bitCount_0f7a4_24 : decode cJ6_bitCount_0f7a4 24 = .ok (.iload_n 0, 1) := by decide +kernel
theorem dJ6_bitCount_0f7a4_25 : decode cJ6_bitCount_0f7a4 25 = .ok (.iload_n 0, 1) := by decide +kernel
theorem dJ6_bitCount_0f7a4_26 : decode cJ6_bitCount_0f7a4 26 = .ok (.iconst 4, 1) := by decide +kernel
theorem dJ6_bitCount_0f7a4_27 : decode cJ6_bitCount_0f7a4 27 = .ok (.iushr, 1) := by decide +kernel
theorem dJ6_bitCount_0f7a4_28 : decode cJ6_bitCount_0f7a4 28 = .ok (.iadd, 1) := by decide +kernel
theorem dJ6_bitCount_0f7a4_29 : decode cJ6_bitCount_0f7a4 29 = .ok (.ldc_w 267, 3) := by decide +kernel
theorem dJ6_bitCount_0f7a4_32 : decode cJ6_bitCount_0f7a4 32 = .ok (.iand, 1) := by decide +kernel
theorem dJ6_bitCount_0f7a4_33 : decode cJ6_bitCount_0f7a4 33 = .ok (.istore_n 0, 1) := by decide +kernel
theorem dJ6_bitCount_0f7a4_34 : decode cJ6_bitCount_0f7a4 34 = .ok (.iload_n 0, 1) := by decide +kernel
theorem dJ6_bitCount_0f7a4_35 : decode cJ6_bitCount_0f7a4 35 = .ok (.iload_n 0, 1) := by decide +kernel
theorem dJ6_bitCount_0f7a4_36 : decode cJ6_bitCount_0f7a4 36 = .ok (.bipush 8, 2) := by decide +kernel
theorem dJ6_bitCount_0f7a4_38 : decode cJ6_bitCount_0f7a4 38 = .ok (.iushr, 1) := by decide +kernel
theorem dJ6_bitCount_0f7a4_39 : decode cJ6_bitCount_0f7a4 39 = .ok (.iadd, 1) := by decide +kernel
theorem dJ6_bitCount_0f7a4_40 : decode cJ6_bitCount_0f7a4 40 = .ok (.istore_n 0, 1) := by decide +kernel
theorem dJ6_bitCount_0f7a4_41 : decode cJ6_bitCount_0f7a4 41 = .ok (.iload_n 0, 1) := by decide +kernel
theorem dJ6_bitCount_0f7a4_42 : decode cJ6_bitCount_0f7a4 42 = .ok (.iload_n 0, 1) := by decide +kernel
theorem dJ6_bitCount_0f7a4_43 : decode cJ6_bitCount_0f7a4 43 = .ok (.bipush 16, 2) := by decide +kernel
theorem dJ6_bitCount_0f7a4_45 : decode cJ6_bitCount_0f7a4 45 = .ok (.iushr, 1) := by decide +kernel
theorem dJ6_bitCount_0f7a4_46 : decode cJ6_bitCount_0f7a4 46 = .ok (.iadd, 1) := by decide +kernel
theorem dJ6_bitCount_0f7a4_47 : decode cJ6_bitCount_0f7a4 47 = .ok (.istore_n 0, 1) := by decide +kernel
theorem dJ6_bitCount_0f7a4_48 : decode cJ6_bitCount_0f7a4 48 = .ok (.iload_n 0, 1) := by decide +kernel
theorem dJ6_bitCount_0f7a4_49 : decode cJ6_bitCount_0f7a4 49 = .ok (.bipush 63, 2) := by decide +kernel
theorem dJ6_bitCount_0f7a4_51 : decode cJ6_bitCount_0f7a4 51 = .ok (.iand, 1) := by decide +kernel
theorem dJ6_bitCount_0f7a4_52 : decode cJ6_bitCount_0f7a4 52 = .ok (.ireturn, 1) := by decide +kernel
theorem dJ9_max_7cf53_0 : decode cJ9_max_7cf53 0 = .ok (.iload_n 0, 1) := by decide +kernel
theorem dJ9_max_7cf53_1 : decode cJ9_max_7cf53 1 = .ok (.iload_n 1, 1) := by decide +kernel
theorem dJ9_max_7cf53_2 : decode cJ9_max_7cf53 2 = .ok (.if_icmp .lt 7, 3) := by decide +kernel
theorem dJ9_max_7cf53_5 : decode cJ9_max_7cf53 5 = .ok (.iload_n 0, 1) := by decide +kernel
theorem dJ9_max_7cf53_6 : decode cJ9_max_7cf53 6 = .ok (.goto 4, 3) := by decide +kernel
theorem dJ9_max_7cf53_9 : decode cJ9_max_7cf53 9 = .ok (.iload_n 1, 1) := by decide +kernel
theorem dJ9_max_7cf53_10 : decode cJ9_max_7cf53 10 = .ok (.ireturn, 1) := by decide +kernel
theorem dJ9_min_7cf53_0 : decode cJ9_min_7cf53 0 = .ok (.iload_n 0, 1) := by decide +kernel
theorem dJ9_min_7cf53_1 : decode cJ9_min_7cf53 1 = .ok (.iload_n 1, 1) := by decide +kernel
theorem dJ9_min_7cf53_2 : decode cJ9_min_7cf53 2 = .ok (.if_icmp .gt 7, 3) := by decide +kernel
theorem dJ9_min_7cf53_5 : decode cJ9_min_7cf53 5 = .ok (.iload_n 0, 1) := by decide +kernel
theorem dJ9_min_7cf53_6 : decode cJ9_min_7cf53 6 = .ok (.goto 4, 3) := by decide +kernel
theorem dJ9_min_7cf53_9 : decode cJ9_min_7cf53 9 = .ok (.iload_n 1, 1) := by decide +kernel
theorem dJ9_min_7cf53_10 : decode cJ9_min_7cf53 10 = .ok (.ireturn, 1) := by decide +kernel
theorem dJ9_min_f86c9_0 : decode cJ9_min_f86c9 0 = .ok (.lload_n 0, 1) := by decide +kernel
theorem dJ9_min_f86c9_1 : decode cJ9_min_f86c9 1 = .ok (.lload_n 2, 1) := by decide +kernel
theorem dJ9_min_f86c9_2 : decode cJ9_min_f86c9 2 = .ok (.lcmp, 1) := by decide +kernel
theorem dJ9_min_f86c9_3 : decode cJ9_min_f86c9 3 = .ok (.ifCond .gt 7, 3) := by decide +kernel
theorem dJ9_min_f86c9_6 : decode cJ9_min_f86c9 6 = .ok (.lload_n 0, 1) := by decide +kernel
theorem dJ9_min_f86c9_7 : decode cJ9_min_f86c9 7 = .ok (.goto 4, 3) := by decide +kernel
theorem dJ9_min_f86c9_10 : decode cJ9_min_f86c9 10 = .ok (.lload_n 2, 1) := by decide +kernel
theorem dJ9_min_f86c9_11 : decode cJ9_min_f86c9 11 = .ok (.lreturn, 1) := by decide +kernel
theorem dL_cell_0 : decode cL_cell 0 = .ok (.aload_n 0, 1) := by decide +kernel
theorem dL_cell_1 : decode cL_cell 1 = .ok (.arraylength, 1) := by decide +kernel
theorem dL_cell_2 : decode cL_cell 2 = .ok (.ifCond .ne 12, 3) := by decide +kernel
theorem dL_cell_5 : decode cL_cell 5 = .ok (.iload_n 1, 1) := by decide +kernel
theorem dL_cell_6 : decode cL_cell 6 = .ok (.bipush 37, 2) := by decide +kernel
theorem dL_cell_8 : decode cL_cell 8 = .ok (.imul, 1) := by decide +kernel
theorem dL_cell_9 : decode cL_cell 9 = .ok (.iconst 5, 1) := by decide +kernel
theorem dL_cell_10 : decode cL_cell 10 = .ok (.iadd, 1) := by decide +kernel
theorem dL_cell_11 : decode cL_cell 11 = .ok (.goto 17, 3) := by decide +kernel
theorem dL_cell_14 : decode cL_cell 14 = .ok (.aload_n 0, 1) := by decide +kernel
theorem dL_cell_15 : decode cL_cell 15 = .ok (.iload_n 1, 1) := by decide +kernel
theorem dL_cell_16 : decode cL_cell 16 = .ok (.aload_n 0, 1) := by decide +kernel
theorem dL_cell_17 : decode cL_cell 17 = .ok (.arraylength, 1) := by decide +kernel
theorem dL_cell_18 : decode cL_cell 18 = .ok (.irem, 1) := by decide +kernel
theorem dL_cell_19 : decode cL_cell 19 = .ok (.iaload, 1) := by decide +kernel
theorem dL_cell_20 : decode cL_cell 20 = .ok (.iload_n 1, 1) := by decide +kernel
theorem dL_cell_21 : decode cL_cell 21 = .ok (.bipush 7, 2) := by decide +kernel
theorem dL_cell_23 : decode cL_cell 23 = .ok (.irem, 1) := by decide +kernel
theorem dL_cell_24 : decode cL_cell 24 = .ok (.ishr, 1) := by decide +kernel
theorem dL_cell_25 : decode cL_cell 25 = .ok (.ldc 7, 2) := by decide +kernel
theorem dL_cell_27 : decode cL_cell 27 = .ok (.iand, 1) := by decide +kernel
theorem dL_cell_28 : decode cL_cell 28 = .ok (.iload_n 2, 1) := by decide +kernel
theorem dL_cell_29 : decode cL_cell 29 = .ok (.irem, 1) := by decide +kernel
theorem dL_cell_30 : decode cL_cell 30 = .ok (.ireturn, 1) := by decide +kernel
theorem dL_atom_0 : decode cL_atom 0 = .ok (.bipush 97, 2) := by decide +kernel
theorem dL_atom_2 : decode cL_atom 2 = .ok (.aload_n 0, 1) := by decide +kernel
theorem dL_atom_3 : decode cL_atom 3 = .ok (.iload_n 1, 1) := by decide +kernel
theorem dL_atom_4 : decode cL_atom 4 = .ok (.iconst 4, 1) := by decide +kernel
theorem dL_atom_5 : decode cL_atom 5 = .ok (.invokestatic 8, 3) := by decide +kernel
theorem dL_atom_8 : decode cL_atom 8 = .ok (.iadd, 1) := by decide +kernel
theorem dL_atom_9 : decode cL_atom 9 = .ok (.ireturn, 1) := by decide +kernel
theorem dL_goal_0 : decode cL_goal 0 = .ok (.aload_n 1, 1) := by decide +kernel
theorem dL_goal_1 : decode cL_goal 1 = .ok (.iload_n 2, 1) := by decide +kernel
theorem dL_goal_2 : decode cL_goal 2 = .ok (.bipush 13, 2) := by decide +kernel
theorem dL_goal_4 : decode cL_goal 4 = .ok (.invokestatic 8, 3) := by decide +kernel
theorem dL_goal_7 : decode cL_goal 7 = .ok (.istore_n 3, 1) := by decide +kernel
theorem dL_goal_8 : decode cL_goal 8 = .ok (.aload_n 1, 1) := by decide +kernel
theorem dL_goal_9 : decode cL_goal 9 = .ok (.iload_n 2, 1) := by decide +kernel
theorem dL_goal_10 : decode cL_goal 10 = .ok (.iconst 1, 1) := by decide +kernel
theorem dL_goal_11 : decode cL_goal 11 = .ok (.iadd, 1) := by decide +kernel
theorem dL_goal_12 : decode cL_goal 12 = .ok (.invokestatic 14, 3) := by decide +kernel
theorem dL_goal_15 : decode cL_goal 15 = .ok (.istore 4, 2) := by decide +kernel
theorem dL_goal_17 : decode cL_goal 17 = .ok (.aload_n 1, 1) := by decide +kernel
theorem dL_goal_18 : decode cL_goal 18 = .ok (.iload_n 2, 1) := by decide +kernel
theorem dL_goal_19 : decode cL_goal 19 = .ok (.iconst 2, 1) := by decide +kernel
theorem dL_goal_20 : decode cL_goal 20 = .ok (.iadd, 1) := by decide +kernel
theorem dL_goal_21 : decode cL_goal 21 = .ok (.invokestatic 14, 3) := by decide +kernel
theorem dL_goal_24 : decode cL_goal 24 = .ok (.istore 5, 2) := by decide +kernel
theorem dL_goal_26 : decode cL_goal 26 = .ok (.iconst 1, 1) := by decide +kernel
theorem dL_goal_27 : decode cL_goal 27 = .ok (.istore 6, 2) := by decide +kernel
theorem dL_goal_29 : decode cL_goal 29 = .ok (.iload_n 3, 1) := by decide +kernel
theorem dL_goal_30 : decode cL_goal 30 = .ok (.iconst 5, 1) := by decide +kernel
theorem dL_goal_31 : decode cL_goal 31 = .ok (.if_icmp .ge 18, 3) := by decide +kernel
theorem dL_goal_34 : decode cL_goal 34 = .ok (.aload_n 0, 1) := by decide +kernel
theorem dL_goal_35 : decode cL_goal 35 = .ok (.iload 4, 2) := by decide +kernel
theorem dL_goal_37 : decode cL_goal 37 = .ok (.invokevirtual 18, 3) := by decide +kernel
theorem dL_goal_40 : decode cL_goal 40 = .ok (.ifCond .le 7, 3) := by decide +kernel
theorem dL_goal_43 : decode cL_goal 43 = .ok (.iconst 1, 1) := by decide +kernel
theorem dL_goal_44 : decode cL_goal 44 = .ok (.goto 4, 3) := by decide +kernel
theorem dL_goal_47 : decode cL_goal 47 = .ok (.iconst 0, 1) := by decide +kernel
theorem dL_goal_48 : decode cL_goal 48 = .ok (.ireturn, 1) := by decide +kernel
theorem dL_goal_49 : decode cL_goal 49 = .ok (.iload_n 3, 1) := by decide +kernel
theorem dL_goal_50 : decode cL_goal 50 = .ok (.bipush 8, 2) := by decide +kernel
theorem dL_goal_52 : decode cL_goal 52 = .ok (.if_icmp .ge 79, 3) := by decide +kernel
theorem dL_goal_55 : decode cL_goal 55 = .ok (.aload_n 0, 1) := by decide +kernel
theorem dL_goal_56 : decode cL_goal 56 = .ok (.bipush 40, 2) := by decide +kernel
theorem dL_goal_58 : decode cL_goal 58 = .ok (.invokevirtual 18, 3) := by decide +kernel
theorem dL_goal_61 : decode cL_goal 61 = .ok (.ifCond .le 64, 3) := by decide +kernel
theorem dL_goal_64 : decode cL_goal 64 = .ok (.aload_n 0, 1) := by decide +kernel
theorem dL_goal_65 : decode cL_goal 65 = .ok (.iload 4, 2) := by decide +kernel
theorem dL_goal_67 : decode cL_goal 67 = .ok (.invokevirtual 18, 3) := by decide +kernel
theorem dL_goal_70 : decode cL_goal 70 = .ok (.ifCond .le 55, 3) := by decide +kernel
theorem dL_goal_73 : decode cL_goal 73 = .ok (.aload_n 0, 1) := by decide +kernel
theorem dL_goal_74 : decode cL_goal 74 = .ok (.iload_n 3, 1) := by decide +kernel
theorem dL_goal_75 : decode cL_goal 75 = .ok (.iconst 5, 1) := by decide +kernel
theorem dL_goal_76 : decode cL_goal 76 = .ok (.if_icmp .ne 8, 3) := by decide +kernel
theorem dL_goal_79 : decode cL_goal 79 = .ok (.bipush 42, 2) := by decide +kernel
theorem dL_goal_81 : decode cL_goal 81 = .ok (.goto 16, 3) := by decide +kernel
theorem dL_goal_84 : decode cL_goal 84 = .ok (.iload_n 3, 1) := by decide +kernel
theorem dL_goal_85 : decode cL_goal 85 = .ok (.bipush 6, 2) := by decide +kernel
theorem dL_goal_87 : decode cL_goal 87 = .ok (.if_icmp .ne 8, 3) := by decide +kernel
theorem dL_goal_90 : decode cL_goal 90 = .ok (.bipush 38, 2) := by decide +kernel
theorem dL_goal_92 : decode cL_goal 92 = .ok (.goto 5, 3) := by decide +kernel
theorem dL_goal_95 : decode cL_goal 95 = .ok (.bipush 43, 2) := by decide +kernel
theorem dL_goal_97 : decode cL_goal 97 = .ok (.invokevirtual 18, 3) := by decide +kernel
theorem dL_goal_100 : decode cL_goal 100 = .ok (.ifCond .le 25, 3) := by decide +kernel
theorem dL_goal_103 : decode cL_goal 103 = .ok (.aload_n 0, 1) := by decide +kernel
theorem dL_goal_104 : decode cL_goal 104 = .ok (.iload 5, 2) := by decide +kernel
theorem dL_goal_106 : decode cL_goal 106 = .ok (.invokevirtual 18, 3) := by decide +kernel
theorem dL_goal_109 : decode cL_goal 109 = .ok (.ifCond .le 16, 3) := by decide +kernel
theorem dL_goal_112 : decode cL_goal 112 = .ok (.aload_n 0, 1) := by decide +kernel
theorem dL_goal_113 : decode cL_goal 113 = .ok (.bipush 41, 2) := by decide +kernel
theorem dL_goal_115 : decode cL_goal 115 = .ok (.invokevirtual 18, 3) := by decide +kernel
theorem dL_goal_118 : decode cL_goal 118 = .ok (.ifCond .le 7, 3) := by decide +kernel
theorem dL_goal_121 : decode cL_goal 121 = .ok (.iconst 1, 1) := by decide +kernel
theorem dL_goal_122 : decode cL_goal 122 = .ok (.goto 4, 3) := by decide +kernel
theorem dL_goal_125 : decode cL_goal 125 = .ok (.iconst 0, 1) := by decide +kernel
theorem dL_goal_126 : decode cL_goal 126 = .ok (.istore 6, 2) := by decide +kernel
theorem dL_goal_128 : decode cL_goal 128 = .ok (.goto 277, 3) := by decide +kernel
theorem dL_goal_131 : decode cL_goal 131 = .ok (.iload_n 3, 1) := by decide +kernel
theorem dL_goal_132 : decode cL_goal 132 = .ok (.bipush 8, 2) := by decide +kernel
theorem dL_goal_134 : decode cL_goal 134 = .ok (.if_icmp .ne 31, 3) := by decide +kernel
theorem dL_goal_137 : decode cL_goal 137 = .ok (.aload_n 0, 1) := by decide +kernel
theorem dL_goal_138 : decode cL_goal 138 = .ok (.bipush 33, 2) := by decide +kernel
theorem dL_goal_140 : decode cL_goal 140 = .ok (.invokevirtual 18, 3) := by decide +kernel
theorem dL_goal_143 : decode cL_goal 143 = .ok (.ifCond .le 16, 3) := by decide +kernel
theorem dL_goal_146 : decode cL_goal 146 = .ok (.aload_n 0, 1) := by decide +kernel
theorem dL_goal_147 : decode cL_goal 147 = .ok (.iload 4, 2) := by decide +kernel
theorem dL_goal_149 : decode cL_goal 149 = .ok (.invokevirtual 18, 3) := by decide +kernel
theorem dL_goal_152 : decode cL_goal 152 = .ok (.ifCond .le 7, 3) := by decide +kernel
theorem dL_goal_155 : decode cL_goal 155 = .ok (.iconst 1, 1) := by decide +kernel
theorem dL_goal_156 : decode cL_goal 156 = .ok (.goto 4, 3) := by decide +kernel
theorem dL_goal_159 : decode cL_goal 159 = .ok (.iconst 0, 1) := by decide +kernel
theorem dL_goal_160 : decode cL_goal 160 = .ok (.istore 6, 2) := by decide +kernel
theorem dL_goal_162 : decode cL_goal 162 = .ok (.goto 243, 3) := by decide +kernel
theorem dL_goal_165 : decode cL_goal 165 = .ok (.iload_n 3, 1) := by decide +kernel
theorem dL_goal_166 : decode cL_goal 166 = .ok (.bipush 9, 2) := by decide +kernel
theorem dL_goal_168 : decode cL_goal 168 = .ok (.if_icmp .ne 58, 3) := by decide +kernel
theorem dL_goal_171 : decode cL_goal 171 = .ok (.aload_n 0, 1) := by decide +kernel
theorem dL_goal_172 : decode cL_goal 172 = .ok (.bipush 40, 2) := by decide +kernel
theorem dL_goal_174 : decode cL_goal 174 = .ok (.invokevirtual 18, 3) := by decide +kernel
theorem dL_goal_177 : decode cL_goal 177 = .ok (.ifCond .le 43, 3) := by decide +kernel
theorem dL_goal_180 : decode cL_goal 180 = .ok (.aload_n 0, 1) := by decide +kernel
theorem dL_goal_181 : decode cL_goal 181 = .ok (.iload 4, 2) := by decide +kernel
theorem dL_goal_183 : decode cL_goal 183 = .ok (.invokevirtual 18, 3) := by decide +kernel
theorem dL_goal_186 : decode cL_goal 186 = .ok (.ifCond .le 34, 3) := by decide +kernel
theorem dL_goal_189 : decode cL_goal 189 = .ok (.aload_n 0, 1) := by decide +kernel
theorem dL_goal_190 : decode cL_goal 190 = .ok (.bipush 42, 2) := by decide +kernel
theorem dL_goal_192 : decode cL_goal 192 = .ok (.invokevirtual 18, 3) := by decide +kernel
theorem dL_goal_195 : decode cL_goal 195 = .ok (.ifCond .le 25, 3) := by decide +kernel
theorem dL_goal_198 : decode cL_goal 198 = .ok (.aload_n 0, 1) := by decide +kernel
theorem dL_goal_199 : decode cL_goal 199 = .ok (.bipush 84, 2) := by decide +kernel
theorem dL_goal_201 : decode cL_goal 201 = .ok (.invokevirtual 18, 3) := by decide +kernel
theorem dL_goal_204 : decode cL_goal 204 = .ok (.ifCond .le 16, 3) := by decide +kernel
theorem dL_goal_207 : decode cL_goal 207 = .ok (.aload_n 0, 1) := by decide +kernel
theorem dL_goal_208 : decode cL_goal 208 = .ok (.bipush 41, 2) := by decide +kernel
theorem dL_goal_210 : decode cL_goal 210 = .ok (.invokevirtual 18, 3) := by decide +kernel
theorem dL_goal_213 : decode cL_goal 213 = .ok (.ifCond .le 7, 3) := by decide +kernel
theorem dL_goal_216 : decode cL_goal 216 = .ok (.iconst 1, 1) := by decide +kernel
theorem dL_goal_217 : decode cL_goal 217 = .ok (.goto 4, 3) := by decide +kernel
theorem dL_goal_220 : decode cL_goal 220 = .ok (.iconst 0, 1) := by decide +kernel
theorem dL_goal_221 : decode cL_goal 221 = .ok (.istore 6, 2) := by decide +kernel
theorem dL_goal_223 : decode cL_goal 223 = .ok (.goto 182, 3) := by decide +kernel
theorem dL_goal_226 : decode cL_goal 226 = .ok (.iload_n 3, 1) := by decide +kernel
theorem dL_goal_227 : decode cL_goal 227 = .ok (.bipush 10, 2) := by decide +kernel
theorem dL_goal_229 : decode cL_goal 229 = .ok (.if_icmp .ne 58, 3) := by decide +kernel
theorem dL_goal_232 : decode cL_goal 232 = .ok (.aload_n 0, 1) := by decide +kernel
theorem dL_goal_233 : decode cL_goal 233 = .ok (.bipush 40, 2) := by decide +kernel
theorem dL_goal_235 : decode cL_goal 235 = .ok (.invokevirtual 18, 3) := by decide +kernel
theorem dL_goal_238 : decode cL_goal 238 = .ok (.ifCond .le 43, 3) := by decide +kernel
theorem dL_goal_241 : decode cL_goal 241 = .ok (.aload_n 0, 1) := by decide +kernel
theorem dL_goal_242 : decode cL_goal 242 = .ok (.bipush 49, 2) := by decide +kernel
theorem dL_goal_244 : decode cL_goal 244 = .ok (.invokevirtual 18, 3) := by decide +kernel
theorem dL_goal_247 : decode cL_goal 247 = .ok (.ifCond .le 34, 3) := by decide +kernel
theorem dL_goal_250 : decode cL_goal 250 = .ok (.aload_n 0, 1) := by decide +kernel
theorem dL_goal_251 : decode cL_goal 251 = .ok (.bipush 38, 2) := by decide +kernel
theorem dL_goal_253 : decode cL_goal 253 = .ok (.invokevirtual 18, 3) := by decide +kernel
theorem dL_goal_256 : decode cL_goal 256 = .ok (.ifCond .le 25, 3) := by decide +kernel
theorem dL_goal_259 : decode cL_goal 259 = .ok (.aload_n 0, 1) := by decide +kernel
theorem dL_goal_260 : decode cL_goal 260 = .ok (.iload 4, 2) := by decide +kernel
theorem dL_goal_262 : decode cL_goal 262 = .ok (.invokevirtual 18, 3) := by decide +kernel
theorem dL_goal_265 : decode cL_goal 265 = .ok (.ifCond .le 16, 3) := by decide +kernel
theorem dL_goal_268 : decode cL_goal 268 = .ok (.aload_n 0, 1) := by decide +kernel
theorem dL_goal_269 : decode cL_goal 269 = .ok (.bipush 41, 2) := by decide +kernel
theorem dL_goal_271 : decode cL_goal 271 = .ok (.invokevirtual 18, 3) := by decide +kernel
theorem dL_goal_274 : decode cL_goal 274 = .ok (.ifCond .le 7, 3) := by decide +kernel
theorem dL_goal_277 : decode cL_goal 277 = .ok (.iconst 1, 1) := by decide +kernel
theorem dL_goal_278 : decode cL_goal 278 = .ok (.goto 4, 3) := by decide +kernel
theorem dL_goal_281 : decode cL_goal 281 = .ok (.iconst 0, 1) := by decide +kernel
theorem dL_goal_282 : decode cL_goal 282 = .ok (.istore 6, 2) := by decide +kernel
theorem dL_goal_284 : decode cL_goal 284 = .ok (.goto 121, 3) := by decide +kernel
theorem dL_goal_287 : decode cL_goal 287 = .ok (.iload_n 3, 1) := by decide +kernel
theorem dL_goal_288 : decode cL_goal 288 = .ok (.bipush 11, 2) := by decide +kernel
theorem dL_goal_290 : decode cL_goal 290 = .ok (.if_icmp .ne 22, 3) := by decide +kernel
theorem dL_goal_293 : decode cL_goal 293 = .ok (.aload_n 0, 1) := by decide +kernel
theorem dL_goal_294 : decode cL_goal 294 = .ok (.bipush 49, 2) := by decide +kernel
theorem dL_goal_296 : decode cL_goal 296 = .ok (.invokevirtual 18, 3) := by decide +kernel
theorem dL_goal_299 : decode cL_goal 299 = .ok (.ifCond .le 7, 3) := by decide +kernel
theorem dL_goal_302 : decode cL_goal 302 = .ok (.iconst 1, 1) := by decide +kernel
theorem dL_goal_303 : decode cL_goal 303 = .ok (.goto 4, 3) := by decide +kernel
theorem dL_goal_306 : decode cL_goal 306 = .ok (.iconst 0, 1) := by decide +kernel
theorem dL_goal_307 : decode cL_goal 307 = .ok (.istore 6, 2) := by decide +kernel
theorem dL_goal_309 : decode cL_goal 309 = .ok (.goto 96, 3) := by decide +kernel
theorem dL_goal_312 : decode cL_goal 312 = .ok (.aload_n 0, 1) := by decide +kernel
theorem dL_goal_313 : decode cL_goal 313 = .ok (.bipush 40, 2) := by decide +kernel
theorem dL_goal_315 : decode cL_goal 315 = .ok (.invokevirtual 18, 3) := by decide +kernel
theorem dL_goal_318 : decode cL_goal 318 = .ok (.ifCond .le 84, 3) := by decide +kernel
theorem dL_goal_321 : decode cL_goal 321 = .ok (.aload_n 0, 1) := by decide +kernel
theorem dL_goal_322 : decode cL_goal 322 = .ok (.bipush 40, 2) := by decide +kernel
theorem dL_goal_324 : decode cL_goal 324 = .ok (.invokevirtual 18, 3) := by decide +kernel
theorem dL_goal_327 : decode cL_goal 327 = .ok (.ifCond .le 75, 3) := by decide +kernel
theorem dL_goal_330 : decode cL_goal 330 = .ok (.aload_n 0, 1) := by decide +kernel
theorem dL_goal_331 : decode cL_goal 331 = .ok (.iload 4, 2) := by decide +kernel
theorem dL_goal_333 : decode cL_goal 333 = .ok (.invokevirtual 18, 3) := by decide +kernel
theorem dL_goal_336 : decode cL_goal 336 = .ok (.ifCond .le 66, 3) := by decide +kernel
theorem dL_goal_339 : decode cL_goal 339 = .ok (.aload_n 0, 1) := by decide +kernel
theorem dL_goal_340 : decode cL_goal 340 = .ok (.bipush 42, 2) := by decide +kernel
theorem dL_goal_342 : decode cL_goal 342 = .ok (.invokevirtual 18, 3) := by decide +kernel
theorem dL_goal_345 : decode cL_goal 345 = .ok (.ifCond .le 57, 3) := by decide +kernel
theorem dL_goal_348 : decode cL_goal 348 = .ok (.aload_n 0, 1) := by decide +kernel
theorem dL_goal_349 : decode cL_goal 349 = .ok (.iload 5, 2) := by decide +kernel
theorem dL_goal_351 : decode cL_goal 351 = .ok (.invokevirtual 18, 3) := by decide +kernel
theorem dL_goal_354 : decode cL_goal 354 = .ok (.ifCond .le 48, 3) := by decide +kernel
theorem dL_goal_357 : decode cL_goal 357 = .ok (.aload_n 0, 1) := by decide +kernel
theorem dL_goal_358 : decode cL_goal 358 = .ok (.bipush 41, 2) := by decide +kernel
theorem dL_goal_360 : decode cL_goal 360 = .ok (.invokevirtual 18, 3) := by decide +kernel
theorem dL_goal_363 : decode cL_goal 363 = .ok (.ifCond .le 39, 3) := by decide +kernel
theorem dL_goal_366 : decode cL_goal 366 = .ok (.aload_n 0, 1) := by decide +kernel
theorem dL_goal_367 : decode cL_goal 367 = .ok (.bipush 42, 2) := by decide +kernel
theorem dL_goal_369 : decode cL_goal 369 = .ok (.invokevirtual 18, 3) := by decide +kernel
theorem dL_goal_372 : decode cL_goal 372 = .ok (.ifCond .le 30, 3) := by decide +kernel
theorem dL_goal_375 : decode cL_goal 375 = .ok (.aload_n 0, 1) := by decide +kernel
theorem dL_goal_376 : decode cL_goal 376 = .ok (.aload_n 1, 1) := by decide +kernel
theorem dL_goal_377 : decode cL_goal 377 = .ok (.iload_n 2, 1) := by decide +kernel
theorem dL_goal_378 : decode cL_goal 378 = .ok (.iconst 3, 1) := by decide +kernel
theorem dL_goal_379 : decode cL_goal 379 = .ok (.iadd, 1) := by decide +kernel
theorem dL_goal_380 : decode cL_goal 380 = .ok (.invokestatic 14, 3) := by decide +kernel
theorem dL_goal_383 : decode cL_goal 383 = .ok (.invokevirtual 18, 3) := by decide +kernel
theorem dL_goal_386 : decode cL_goal 386 = .ok (.ifCond .le 16, 3) := by decide +kernel
theorem dL_goal_389 : decode cL_goal 389 = .ok (.aload_n 0, 1) := by decide +kernel
theorem dL_goal_390 : decode cL_goal 390 = .ok (.bipush 41, 2) := by decide +kernel
theorem dL_goal_392 : decode cL_goal 392 = .ok (.invokevirtual 18, 3) := by decide +kernel
theorem dL_goal_395 : decode cL_goal 395 = .ok (.ifCond .le 7, 3) := by decide +kernel
theorem dL_goal_398 : decode cL_goal 398 = .ok (.iconst 1, 1) := by decide +kernel
theorem dL_goal_399 : decode cL_goal 399 = .ok (.goto 4, 3) := by decide +kernel
theorem dL_goal_402 : decode cL_goal 402 = .ok (.iconst 0, 1) := by decide +kernel
theorem dL_goal_403 : decode cL_goal 403 = .ok (.istore 6, 2) := by decide +kernel
theorem dL_goal_405 : decode cL_goal 405 = .ok (.iload 6, 2) := by decide +kernel
theorem dL_goal_407 : decode cL_goal 407 = .ok (.ireturn, 1) := by decide +kernel
theorem dL_offer_0 : decode cL_offer 0 = .ok (.aload_n 0, 1) := by decide +kernel
theorem dL_offer_1 : decode cL_offer 1 = .ok (.aload_n 1, 1) := by decide +kernel
theorem dL_offer_2 : decode cL_offer 2 = .ok (.iload_n 2, 1) := by decide +kernel
theorem dL_offer_3 : decode cL_offer 3 = .ok (.invokestatic 14, 3) := by decide +kernel
theorem dL_offer_6 : decode cL_offer 6 = .ok (.invokevirtual 18, 3) := by decide +kernel
theorem dL_offer_9 : decode cL_offer 9 = .ok (.ifCond .le 7, 3) := by decide +kernel
theorem dL_offer_12 : decode cL_offer 12 = .ok (.iconst 1, 1) := by decide +kernel
theorem dL_offer_13 : decode cL_offer 13 = .ok (.goto 4, 3) := by decide +kernel
theorem dL_offer_16 : decode cL_offer 16 = .ok (.iconst 0, 1) := by decide +kernel
theorem dL_offer_17 : decode cL_offer 17 = .ok (.istore_n 3, 1) := by decide +kernel
theorem dL_offer_18 : decode cL_offer 18 = .ok (.aload_n 1, 1) := by decide +kernel
theorem dL_offer_19 : decode cL_offer 19 = .ok (.iload_n 2, 1) := by decide +kernel
theorem dL_offer_20 : decode cL_offer 20 = .ok (.iconst 1, 1) := by decide +kernel
theorem dL_offer_21 : decode cL_offer 21 = .ok (.iadd, 1) := by decide +kernel
theorem dL_offer_22 : decode cL_offer 22 = .ok (.iconst 3, 1) := by decide +kernel
theorem dL_offer_23 : decode cL_offer 23 = .ok (.invokestatic 8, 3) := by decide +kernel
theorem dL_offer_26 : decode cL_offer 26 = .ok (.ifCond .le 33, 3) := by decide +kernel
theorem dL_offer_29 : decode cL_offer 29 = .ok (.iload_n 3, 1) := by decide +kernel
theorem dL_offer_30 : decode cL_offer 30 = .ok (.ifCond .eq 27, 3) := by decide +kernel
theorem dL_offer_33 : decode cL_offer 33 = .ok (.aload_n 0, 1) := by decide +kernel
theorem dL_offer_34 : decode cL_offer 34 = .ok (.bipush 60, 2) := by decide +kernel
theorem dL_offer_36 : decode cL_offer 36 = .ok (.invokevirtual 18, 3) := by decide +kernel
theorem dL_offer_39 : decode cL_offer 39 = .ok (.ifCond .le 18, 3) := by decide +kernel
theorem dL_offer_42 : decode cL_offer 42 = .ok (.aload_n 0, 1) := by decide +kernel
theorem dL_offer_43 : decode cL_offer 43 = .ok (.aload_n 1, 1) := by decide +kernel
theorem dL_offer_44 : decode cL_offer 44 = .ok (.iload_n 2, 1) := by decide +kernel
theorem dL_offer_45 : decode cL_offer 45 = .ok (.iconst 2, 1) := by decide +kernel
theorem dL_offer_46 : decode cL_offer 46 = .ok (.iadd, 1) := by decide +kernel
theorem dL_offer_47 : decode cL_offer 47 = .ok (.invokestatic 24, 3) := by decide +kernel
theorem dL_offer_50 : decode cL_offer 50 = .ok (.ifCond .eq 7, 3) := by decide +kernel
theorem dL_offer_53 : decode cL_offer 53 = .ok (.iconst 1, 1) := by decide +kernel
theorem dL_offer_54 : decode cL_offer 54 = .ok (.goto 4, 3) := by decide +kernel
theorem dL_offer_57 : decode cL_offer 57 = .ok (.iconst 0, 1) := by decide +kernel
theorem dL_offer_58 : decode cL_offer 58 = .ok (.istore_n 3, 1) := by decide +kernel
theorem dL_offer_59 : decode cL_offer 59 = .ok (.aload_n 1, 1) := by decide +kernel
theorem dL_offer_60 : decode cL_offer 60 = .ok (.iload_n 2, 1) := by decide +kernel
theorem dL_offer_61 : decode cL_offer 61 = .ok (.bipush 6, 2) := by decide +kernel
theorem dL_offer_63 : decode cL_offer 63 = .ok (.iadd, 1) := by decide +kernel
theorem dL_offer_64 : decode cL_offer 64 = .ok (.iconst 4, 1) := by decide +kernel
theorem dL_offer_65 : decode cL_offer 65 = .ok (.invokestatic 8, 3) := by decide +kernel
theorem dL_offer_68 : decode cL_offer 68 = .ok (.ifCond .ne 37, 3) := by decide +kernel
theorem dL_offer_71 : decode cL_offer 71 = .ok (.iload_n 3, 1) := by decide +kernel
theorem dL_offer_72 : decode cL_offer 72 = .ok (.ifCond .eq 31, 3) := by decide +kernel
theorem dL_offer_75 : decode cL_offer 75 = .ok (.aload_n 0, 1) := by decide +kernel
theorem dL_offer_76 : decode cL_offer 76 = .ok (.bipush 124, 2) := by decide +kernel
theorem dL_offer_78 : decode cL_offer 78 = .ok (.invokevirtual 18, 3) := by decide +kernel
theorem dL_offer_81 : decode cL_offer 81 = .ok (.ifCond .le 22, 3) := by decide +kernel
theorem dL_offer_84 : decode cL_offer 84 = .ok (.aload_n 0, 1) := by decide +kernel
theorem dL_offer_85 : decode cL_offer 85 = .ok (.aload_n 1, 1) := by decide +kernel
theorem dL_offer_86 : decode cL_offer 86 = .ok (.iload_n 2, 1) := by decide +kernel
theorem dL_offer_87 : decode cL_offer 87 = .ok (.bipush 7, 2) := by decide +kernel
theorem dL_offer_89 : decode cL_offer 89 = .ok (.iadd, 1) := by decide +kernel
theorem dL_offer_90 : decode cL_offer 90 = .ok (.invokestatic 14, 3) := by decide +kernel
theorem dL_offer_93 : decode cL_offer 93 = .ok (.invokevirtual 18, 3) := by decide +kernel
theorem dL_offer_96 : decode cL_offer 96 = .ok (.ifCond .le 7, 3) := by decide +kernel
theorem dL_offer_99 : decode cL_offer 99 = .ok (.iconst 1, 1) := by decide +kernel
theorem dL_offer_100 : decode cL_offer 100 = .ok (.goto 4, 3) := by decide +kernel
theorem dL_offer_103 : decode cL_offer 103 = .ok (.iconst 0, 1) := by decide +kernel
theorem dL_offer_104 : decode cL_offer 104 = .ok (.istore_n 3, 1) := by decide +kernel
theorem dL_offer_105 : decode cL_offer 105 = .ok (.iload_n 3, 1) := by decide +kernel
theorem dL_offer_106 : decode cL_offer 106 = .ok (.ireturn, 1) := by decide +kernel
theorem dL_lay_0 : decode cL_lay 0 = .ok (.iconst 1, 1) := by decide +kernel
theorem dL_lay_1 : decode cL_lay 1 = .ok (.istore 4, 2) := by decide +kernel
theorem dL_lay_3 : decode cL_lay 3 = .ok (.iconst 0, 1) := by decide +kernel
theorem dL_lay_4 : decode cL_lay 4 = .ok (.istore 5, 2) := by decide +kernel
theorem dL_lay_6 : decode cL_lay 6 = .ok (.iload 5, 2) := by decide +kernel
theorem dL_lay_8 : decode cL_lay 8 = .ok (.iload_n 2, 1) := by decide +kernel
theorem dL_lay_9 : decode cL_lay 9 = .ok (.if_icmp .ge 51, 3) := by decide +kernel
theorem dL_lay_12 : decode cL_lay 12 = .ok (.aload_n 0, 1) := by decide +kernel
theorem dL_lay_13 : decode cL_lay 13 = .ok (.invokevirtual 28, 3) := by decide +kernel
theorem dL_lay_16 : decode cL_lay 16 = .ok (.pop, 1) := by decide +kernel
theorem dL_lay_17 : decode cL_lay 17 = .ok (.iload 4, 2) := by decide +kernel
theorem dL_lay_19 : decode cL_lay 19 = .ok (.ifCond .eq 32, 3) := by decide +kernel
theorem dL_lay_22 : decode cL_lay 22 = .ok (.aload_n 0, 1) := by decide +kernel
theorem dL_lay_23 : decode cL_lay 23 = .ok (.aload_n 1, 1) := by decide +kernel
theorem dL_lay_24 : decode cL_lay 24 = .ok (.bipush 10, 2) := by decide +kernel
theorem dL_lay_26 : decode cL_lay 26 = .ok (.iload 5, 2) := by decide +kernel
theorem dL_lay_28 : decode cL_lay 28 = .ok (.imul, 1) := by decide +kernel
theorem dL_lay_29 : decode cL_lay 29 = .ok (.bipush 20, 2) := by decide +kernel
theorem dL_lay_31 : decode cL_lay 31 = .ok (.iadd, 1) := by decide +kernel
theorem dL_lay_32 : decode cL_lay 32 = .ok (.invokestatic 32, 3) := by decide +kernel
theorem dL_lay_35 : decode cL_lay 35 = .ok (.ifCond .eq 16, 3) := by decide +kernel
theorem dL_lay_38 : decode cL_lay 38 = .ok (.aload_n 0, 1) := by decide +kernel
theorem dL_lay_39 : decode cL_lay 39 = .ok (.invokevirtual 35, 3) := by decide +kernel
theorem dL_lay_42 : decode cL_lay 42 = .ok (.iload 5, 2) := by decide +kernel
theorem dL_lay_44 : decode cL_lay 44 = .ok (.if_icmp .ne 7, 3) := by decide +kernel
theorem dL_lay_47 : decode cL_lay 47 = .ok (.iconst 1, 1) := by decide +kernel
theorem dL_lay_48 : decode cL_lay 48 = .ok (.goto 4, 3) := by decide +kernel
theorem dL_lay_51 : decode cL_lay 51 = .ok (.iconst 0, 1) := by decide +kernel
theorem dL_lay_52 : decode cL_lay 52 = .ok (.istore 4, 2) := by decide +kernel
theorem dL_lay_54 : decode cL_lay 54 = .ok (.iinc 5 1, 3) := by decide +kernel
theorem dL_lay_57 : decode cL_lay 57 = .ok (.goto (-51), 3) := by decide +kernel
theorem dL_lay_60 : decode cL_lay 60 = .ok (.iconst 0, 1) := by decide +kernel
theorem dL_lay_61 : decode cL_lay 61 = .ok (.istore 5, 2) := by decide +kernel
theorem dL_lay_63 : decode cL_lay 63 = .ok (.iload 5, 2) := by decide +kernel
theorem dL_lay_65 : decode cL_lay 65 = .ok (.iload_n 3, 1) := by decide +kernel
theorem dL_lay_66 : decode cL_lay 66 = .ok (.if_icmp .ge 51, 3) := by decide +kernel
theorem dL_lay_69 : decode cL_lay 69 = .ok (.aload_n 0, 1) := by decide +kernel
theorem dL_lay_70 : decode cL_lay 70 = .ok (.invokevirtual 28, 3) := by decide +kernel
theorem dL_lay_73 : decode cL_lay 73 = .ok (.pop, 1) := by decide +kernel
theorem dL_lay_74 : decode cL_lay 74 = .ok (.iload 4, 2) := by decide +kernel
theorem dL_lay_76 : decode cL_lay 76 = .ok (.ifCond .eq 32, 3) := by decide +kernel
theorem dL_lay_79 : decode cL_lay 79 = .ok (.aload_n 0, 1) := by decide +kernel
theorem dL_lay_80 : decode cL_lay 80 = .ok (.aload_n 1, 1) := by decide +kernel
theorem dL_lay_81 : decode cL_lay 81 = .ok (.bipush 10, 2) := by decide +kernel
theorem dL_lay_83 : decode cL_lay 83 = .ok (.iload 5, 2) := by decide +kernel
theorem dL_lay_85 : decode cL_lay 85 = .ok (.imul, 1) := by decide +kernel
theorem dL_lay_86 : decode cL_lay 86 = .ok (.bipush 80, 2) := by decide +kernel
theorem dL_lay_88 : decode cL_lay 88 = .ok (.iadd, 1) := by decide +kernel
theorem dL_lay_89 : decode cL_lay 89 = .ok (.invokestatic 32, 3) := by decide +kernel
theorem dL_lay_92 : decode cL_lay 92 = .ok (.ifCond .eq 16, 3) := by decide +kernel
theorem dL_lay_95 : decode cL_lay 95 = .ok (.aload_n 0, 1) := by decide +kernel
theorem dL_lay_96 : decode cL_lay 96 = .ok (.invokevirtual 38, 3) := by decide +kernel
theorem dL_lay_99 : decode cL_lay 99 = .ok (.iload 5, 2) := by decide +kernel
theorem dL_lay_101 : decode cL_lay 101 = .ok (.if_icmp .ne 7, 3) := by decide +kernel
theorem dL_lay_104 : decode cL_lay 104 = .ok (.iconst 1, 1) := by decide +kernel
theorem dL_lay_105 : decode cL_lay 105 = .ok (.goto 4, 3) := by decide +kernel
theorem dL_lay_108 : decode cL_lay 108 = .ok (.iconst 0, 1) := by decide +kernel
theorem dL_lay_109 : decode cL_lay 109 = .ok (.istore 4, 2) := by decide +kernel
theorem dL_lay_111 : decode cL_lay 111 = .ok (.iinc 5 1, 3) := by decide +kernel
theorem dL_lay_114 : decode cL_lay 114 = .ok (.goto (-51), 3) := by decide +kernel
theorem dL_lay_117 : decode cL_lay 117 = .ok (.iload 4, 2) := by decide +kernel
theorem dL_lay_119 : decode cL_lay 119 = .ok (.ireturn, 1) := by decide +kernel
theorem dL_areHeights_0 : decode cL_areHeights 0 = .ok (.bipush (-6), 2) := by decide +kernel
theorem dL_areHeights_2 : decode cL_areHeights 2 = .ok (.istore_n 2, 1) := by decide +kernel
theorem dL_areHeights_3 : decode cL_areHeights 3 = .ok (.bipush 9, 2) := by decide +kernel
theorem dL_areHeights_5 : decode cL_areHeights 5 = .ok (.istore_n 3, 1) := by decide +kernel
theorem dL_areHeights_6 : decode cL_areHeights 6 = .ok (.iconst 0, 1) := by decide +kernel
theorem dL_areHeights_7 : decode cL_areHeights 7 = .ok (.istore 4, 2) := by decide +kernel
theorem dL_areHeights_9 : decode cL_areHeights 9 = .ok (.iload 4, 2) := by decide +kernel
theorem dL_areHeights_11 : decode cL_areHeights 11 = .ok (.bipush 10, 2) := by decide +kernel
theorem dL_areHeights_13 : decode cL_areHeights 13 = .ok (.if_icmp .gt 274, 3) := by decide +kernel
theorem dL_areHeights_16 : decode cL_areHeights 16 = .ok (.iconst 0, 1) := by decide +kernel
theorem dL_areHeights_17 : decode cL_areHeights 17 = .ok (.istore 5, 2) := by decide +kernel
theorem dL_areHeights_19 : decode cL_areHeights 19 = .ok (.iconst 0, 1) := by decide +kernel
theorem dL_areHeights_20 : decode cL_areHeights 20 = .ok (.istore 6, 2) := by decide +kernel
theorem dL_areHeights_22 : decode cL_areHeights 22 = .ok (.iload 6, 2) := by decide +kernel
theorem dL_areHeights_24 : decode cL_areHeights 24 = .ok (.bipush 32, 2) := by decide +kernel
theorem dL_areHeights_26 : decode cL_areHeights 26 = .ok (.if_icmp .ge 228, 3) := by decide +kernel
theorem dL_areHeights_29 : decode cL_areHeights 29 = .ok (.iload 6, 2) := by decide +kernel
theorem dL_areHeights_31 : decode cL_areHeights 31 = .ok (.iload_n 1, 1) := by decide +kernel
theorem dL_areHeights_32 : decode cL_areHeights 32 = .ok (.iconst (-1), 1) := by decide +kernel
theorem dL_areHeights_33 : decode cL_areHeights 33 = .ok (.ixor, 1) := by decide +kernel
theorem dL_areHeights_34 : decode cL_areHeights 34 = .ok (.iand, 1) := by decide +kernel
theorem dL_areHeights_35 : decode cL_areHeights 35 = .ok (.ifCond .ne 7, 3) := by decide +kernel
theorem dL_areHeights_38 : decode cL_areHeights 38 = .ok (.iconst 1, 1) := by decide +kernel
theorem dL_areHeights_39 : decode cL_areHeights 39 = .ok (.goto 4, 3) := by decide +kernel
theorem dL_areHeights_42 : decode cL_areHeights 42 = .ok (.iconst 0, 1) := by decide +kernel
theorem dL_areHeights_43 : decode cL_areHeights 43 = .ok (.istore 7, 2) := by decide +kernel
theorem dL_areHeights_45 : decode cL_areHeights 45 = .ok (.aload_n 0, 1) := by decide +kernel
theorem dL_areHeights_46 : decode cL_areHeights 46 = .ok (.iload 6, 2) := by decide +kernel
theorem dL_areHeights_48 : decode cL_areHeights 48 = .ok (.invokevirtual 41, 3) := by decide +kernel
theorem dL_areHeights_51 : decode cL_areHeights 51 = .ok (.istore 8, 2) := by decide +kernel
theorem dL_areHeights_53 : decode cL_areHeights 53 = .ok (.iload 7, 2) := by decide +kernel
theorem dL_areHeights_55 : decode cL_areHeights 55 = .ok (.ifCond .ne 23, 3) := by decide +kernel
theorem dL_areHeights_58 : decode cL_areHeights 58 = .ok (.iload 8, 2) := by decide +kernel
theorem dL_areHeights_60 : decode cL_areHeights 60 = .ok (.iconst (-1), 1) := by decide +kernel
theorem dL_areHeights_61 : decode cL_areHeights 61 = .ok (.if_icmp .ne 15, 3) := by decide +kernel
theorem dL_areHeights_64 : decode cL_areHeights 64 = .ok (.aload_n 0, 1) := by decide +kernel
theorem dL_areHeights_65 : decode cL_areHeights 65 = .ok (.iload 6, 2) := by decide +kernel
theorem dL_areHeights_67 : decode cL_areHeights 67 = .ok (.iload 4, 2) := by decide +kernel
theorem dL_areHeights_69 : decode cL_areHeights 69 = .ok (.invokevirtual 44, 3) := by decide +kernel
theorem dL_areHeights_72 : decode cL_areHeights 72 = .ok (.iconst (-1), 1) := by decide +kernel
theorem dL_areHeights_73 : decode cL_areHeights 73 = .ok (.if_icmp .eq 175, 3) := by decide +kernel
theorem dL_areHeights_76 : decode cL_areHeights 76 = .ok (.iconst 0, 1) := by decide +kernel
theorem dL_areHeights_77 : decode cL_areHeights 77 = .ok (.ireturn, 1) := by decide +kernel
theorem dL_areHeights_78 : decode cL_areHeights 78 = .ok (.iload 8, 2) := by decide +kernel
theorem dL_areHeights_80 : decode cL_areHeights 80 = .ok (.bipush (-6), 2) := by decide +kernel
theorem dL_areHeights_82 : decode cL_areHeights 82 = .ok (.if_icmp .eq 16, 3) := by decide +kernel
theorem dL_areHeights_85 : decode cL_areHeights 85 = .ok (.iload 8, 2) := by decide +kernel
theorem dL_areHeights_87 : decode cL_areHeights 87 = .ok (.iconst 1, 1) := by decide +kernel
theorem dL_areHeights_88 : decode cL_areHeights 88 = .ok (.if_icmp .lt 57, 3) := by decide +kernel
theorem dL_areHeights_91 : decode cL_areHeights 91 = .ok (.iload 8, 2) := by decide +kernel
theorem dL_areHeights_93 : decode cL_areHeights 93 = .ok (.bipush 10, 2) := by decide +kernel
theorem dL_areHeights_95 : decode cL_areHeights 95 = .ok (.if_icmp .gt 50, 3) := by decide +kernel
theorem dL_areHeights_98 : decode cL_areHeights 98 = .ok (.aload_n 0, 1) := by decide +kernel
theorem dL_areHeights_99 : decode cL_areHeights 99 = .ok (.iload 6, 2) := by decide +kernel
theorem dL_areHeights_101 : decode cL_areHeights 101 = .ok (.iload 4, 2) := by decide +kernel
theorem dL_areHeights_103 : decode cL_areHeights 103 = .ok (.invokevirtual 44, 3) := by decide +kernel
theorem dL_areHeights_106 : decode cL_areHeights 106 = .ok (.ifCond .le 7, 3) := by decide +kernel
theorem dL_areHeights_109 : decode cL_areHeights 109 = .ok (.iconst 1, 1) := by decide +kernel
theorem dL_areHeights_110 : decode cL_areHeights 110 = .ok (.goto 4, 3) := by decide +kernel
theorem dL_areHeights_113 : decode cL_areHeights 113 = .ok (.iconst 0, 1) := by decide +kernel
theorem dL_areHeights_114 : decode cL_areHeights 114 = .ok (.iload 8, 2) := by decide +kernel
theorem dL_areHeights_116 : decode cL_areHeights 116 = .ok (.ifCond .le 14, 3) := by decide +kernel
theorem dL_areHeights_119 : decode cL_areHeights 119 = .ok (.iload 8, 2) := by decide +kernel
theorem dL_areHeights_121 : decode cL_areHeights 121 = .ok (.iload 4, 2) := by decide +kernel
theorem dL_areHeights_123 : decode cL_areHeights 123 = .ok (.if_icmp .gt 7, 3) := by decide +kernel
theorem dL_areHeights_126 : decode cL_areHeights 126 = .ok (.iconst 1, 1) := by decide +kernel
theorem dL_areHeights_127 : decode cL_areHeights 127 = .ok (.goto 4, 3) := by decide +kernel
theorem dL_areHeights_130 : decode cL_areHeights 130 = .ok (.iconst 0, 1) := by decide +kernel
theorem dL_areHeights_131 : decode cL_areHeights 131 = .ok (.if_icmp .ne 14, 3) := by decide +kernel
theorem dL_areHeights_134 : decode cL_areHeights 134 = .ok (.aload_n 0, 1) := by decide +kernel
theorem dL_areHeights_135 : decode cL_areHeights 135 = .ok (.iload 6, 2) := by decide +kernel
theorem dL_areHeights_137 : decode cL_areHeights 137 = .ok (.iload 4, 2) := by decide +kernel
theorem dL_areHeights_139 : decode cL_areHeights 139 = .ok (.invokevirtual 44, 3) := by decide +kernel
theorem dL_areHeights_142 : decode cL_areHeights 142 = .ok (.ifCond .ge 5, 3) := by decide +kernel
theorem dL_areHeights_145 : decode cL_areHeights 145 = .ok (.iconst 0, 1) := by decide +kernel
theorem dL_areHeights_146 : decode cL_areHeights 146 = .ok (.ireturn, 1) := by decide +kernel
theorem dL_areHeights_147 : decode cL_areHeights 147 = .ok (.iconst 0, 1) := by decide +kernel
theorem dL_areHeights_148 : decode cL_areHeights 148 = .ok (.istore 9, 2) := by decide +kernel
theorem dL_areHeights_150 : decode cL_areHeights 150 = .ok (.iconst 0, 1) := by decide +kernel
theorem dL_areHeights_151 : decode cL_areHeights 151 = .ok (.istore 10, 2) := by decide +kernel
theorem dL_areHeights_153 : decode cL_areHeights 153 = .ok (.iload 10, 2) := by decide +kernel
theorem dL_areHeights_155 : decode cL_areHeights 155 = .ok (.iconst 5, 1) := by decide +kernel
theorem dL_areHeights_156 : decode cL_areHeights 156 = .ok (.if_icmp .ge 21, 3) := by decide +kernel
theorem dL_areHeights_159 : decode cL_areHeights 159 = .ok (.iload 9, 2) := by decide +kernel
theorem dL_areHeights_161 : decode cL_areHeights 161 = .ok (.iload 6, 2) := by decide +kernel
theorem dL_areHeights_163 : decode cL_areHeights 163 = .ok (.iload 10, 2) := by decide +kernel
theorem dL_areHeights_165 : decode cL_areHeights 165 = .ok (.ishr, 1) := by decide +kernel
theorem dL_areHeights_166 : decode cL_areHeights 166 = .ok (.iconst 1, 1) := by decide +kernel
theorem dL_areHeights_167 : decode cL_areHeights 167 = .ok (.iand, 1) := by decide +kernel
theorem dL_areHeights_168 : decode cL_areHeights 168 = .ok (.iadd, 1) := by decide +kernel
theorem dL_areHeights_169 : decode cL_areHeights 169 = .ok (.istore 9, 2) := by decide +kernel
theorem dL_areHeights_171 : decode cL_areHeights 171 = .ok (.iinc 10 1, 3) := by decide +kernel
theorem dL_areHeights_174 : decode cL_areHeights 174 = .ok (.goto (-21), 3) := by decide +kernel
theorem dL_areHeights_177 : decode cL_areHeights 177 = .ok (.iload 8, 2) := by decide +kernel
theorem dL_areHeights_179 : decode cL_areHeights 179 = .ok (.ifCond .le 27, 3) := by decide +kernel
theorem dL_areHeights_182 : decode cL_areHeights 182 = .ok (.iload 9, 2) := by decide +kernel
theorem dL_areHeights_184 : decode cL_areHeights 184 = .ok (.iload_n 3, 1) := by decide +kernel
theorem dL_areHeights_185 : decode cL_areHeights 185 = .ok (.if_icmp .lt 15, 3) := by decide +kernel
theorem dL_areHeights_188 : decode cL_areHeights 188 = .ok (.iload 9, 2) := by decide +kernel
theorem dL_areHeights_190 : decode cL_areHeights 190 = .ok (.iload_n 3, 1) := by decide +kernel
theorem dL_areHeights_191 : decode cL_areHeights 191 = .ok (.if_icmp .ne 15, 3) := by decide +kernel
theorem dL_areHeights_194 : decode cL_areHeights 194 = .ok (.iload 6, 2) := by decide +kernel
theorem dL_areHeights_196 : decode cL_areHeights 196 = .ok (.iload_n 2, 1) := by decide +kernel
theorem dL_areHeights_197 : decode cL_areHeights 197 = .ok (.if_icmp .ge 9, 3) := by decide +kernel
theorem dL_areHeights_200 : decode cL_areHeights 200 = .ok (.iload 9, 2) := by decide +kernel
theorem dL_areHeights_202 : decode cL_areHeights 202 = .ok (.istore_n 3, 1) := by decide +kernel
theorem dL_areHeights_203 : decode cL_areHeights 203 = .ok (.iload 6, 2) := by decide +kernel
theorem dL_areHeights_205 : decode cL_areHeights 205 = .ok (.istore_n 2, 1) := by decide +kernel
theorem dL_areHeights_206 : decode cL_areHeights 206 = .ok (.aload_n 0, 1) := by decide +kernel
theorem dL_areHeights_207 : decode cL_areHeights 207 = .ok (.iload_n 1, 1) := by decide +kernel
theorem dL_areHeights_208 : decode cL_areHeights 208 = .ok (.iload 6, 2) := by decide +kernel
theorem dL_areHeights_210 : decode cL_areHeights 210 = .ok (.iconst (-1), 1) := by decide +kernel
theorem dL_areHeights_211 : decode cL_areHeights 211 = .ok (.ixor, 1) := by decide +kernel
theorem dL_areHeights_212 : decode cL_areHeights 212 = .ok (.iand, 1) := by decide +kernel
theorem dL_areHeights_213 : decode cL_areHeights 213 = .ok (.invokevirtual 41, 3) := by decide +kernel
theorem dL_areHeights_216 : decode cL_areHeights 216 = .ok (.istore 10, 2) := by decide +kernel
theorem dL_areHeights_218 : decode cL_areHeights 218 = .ok (.iload 10, 2) := by decide +kernel
theorem dL_areHeights_220 : decode cL_areHeights 220 = .ok (.ifCond .le 28, 3) := by decide +kernel
theorem dL_areHeights_223 : decode cL_areHeights 223 = .ok (.iload 10, 2) := by decide +kernel
theorem dL_areHeights_225 : decode cL_areHeights 225 = .ok (.iload 4, 2) := by decide +kernel
theorem dL_areHeights_227 : decode cL_areHeights 227 = .ok (.if_icmp .gt 21, 3) := by decide +kernel
theorem dL_areHeights_230 : decode cL_areHeights 230 = .ok (.aload_n 0, 1) := by decide +kernel
theorem dL_areHeights_231 : decode cL_areHeights 231 = .ok (.iload 4, 2) := by decide +kernel
theorem dL_areHeights_233 : decode cL_areHeights 233 = .ok (.iload 5, 2) := by decide +kernel
theorem dL_areHeights_235 : decode cL_areHeights 235 = .ok (.invokevirtual 48, 3) := by decide +kernel
theorem dL_areHeights_238 : decode cL_areHeights 238 = .ok (.iload 6, 2) := by decide +kernel
theorem dL_areHeights_240 : decode cL_areHeights 240 = .ok (.if_icmp .eq 5, 3) := by decide +kernel
theorem dL_areHeights_243 : decode cL_areHeights 243 = .ok (.iconst 0, 1) := by decide +kernel
theorem dL_areHeights_244 : decode cL_areHeights 244 = .ok (.ireturn, 1) := by decide +kernel
theorem dL_areHeights_245 : decode cL_areHeights 245 = .ok (.iinc 5 1, 3) := by decide +kernel
theorem dL_areHeights_248 : decode cL_areHeights 248 = .ok (.iinc 6 1, 3) := by decide +kernel
theorem dL_areHeights_251 : decode cL_areHeights 251 = .ok (.goto (-229), 3) := by decide +kernel
theorem dL_areHeights_254 : decode cL_areHeights 254 = .ok (.aload_n 0, 1) := by decide +kernel
theorem dL_areHeights_255 : decode cL_areHeights 255 = .ok (.iload 4, 2) := by decide +kernel
theorem dL_areHeights_257 : decode cL_areHeights 257 = .ok (.iconst (-1), 1) := by decide +kernel
theorem dL_areHeights_258 : decode cL_areHeights 258 = .ok (.invokevirtual 48, 3) := by decide +kernel
theorem dL_areHeights_261 : decode cL_areHeights 261 = .ok (.iload 5, 2) := by decide +kernel
theorem dL_areHeights_263 : decode cL_areHeights 263 = .ok (.if_icmp .ne 16, 3) := by decide +kernel
theorem dL_areHeights_266 : decode cL_areHeights 266 = .ok (.aload_n 0, 1) := by decide +kernel
theorem dL_areHeights_267 : decode cL_areHeights 267 = .ok (.iload 4, 2) := by decide +kernel
theorem dL_areHeights_269 : decode cL_areHeights 269 = .ok (.iload 5, 2) := by decide +kernel
theorem dL_areHeights_271 : decode cL_areHeights 271 = .ok (.invokevirtual 48, 3) := by decide +kernel
theorem dL_areHeights_274 : decode cL_areHeights 274 = .ok (.bipush (-6), 2) := by decide +kernel
theorem dL_areHeights_276 : decode cL_areHeights 276 = .ok (.if_icmp .eq 5, 3) := by decide +kernel
theorem dL_areHeights_279 : decode cL_areHeights 279 = .ok (.iconst 0, 1) := by decide +kernel
theorem dL_areHeights_280 : decode cL_areHeights 280 = .ok (.ireturn, 1) := by decide +kernel
theorem dL_areHeights_281 : decode cL_areHeights 281 = .ok (.iinc 4 1, 3) := by decide +kernel
theorem dL_areHeights_284 : decode cL_areHeights 284 = .ok (.goto (-275), 3) := by decide +kernel
theorem dL_areHeights_287 : decode cL_areHeights 287 = .ok (.iconst 0, 1) := by decide +kernel
theorem dL_areHeights_288 : decode cL_areHeights 288 = .ok (.istore 4, 2) := by decide +kernel
theorem dL_areHeights_290 : decode cL_areHeights 290 = .ok (.iconst 0, 1) := by decide +kernel
theorem dL_areHeights_291 : decode cL_areHeights 291 = .ok (.istore 5, 2) := by decide +kernel
theorem dL_areHeights_293 : decode cL_areHeights 293 = .ok (.iload 5, 2) := by decide +kernel
theorem dL_areHeights_295 : decode cL_areHeights 295 = .ok (.iconst 5, 1) := by decide +kernel
theorem dL_areHeights_296 : decode cL_areHeights 296 = .ok (.if_icmp .ge 47, 3) := by decide +kernel
theorem dL_areHeights_299 : decode cL_areHeights 299 = .ok (.iload 4, 2) := by decide +kernel
theorem dL_areHeights_301 : decode cL_areHeights 301 = .ok (.iload_n 1, 1) := by decide +kernel
theorem dL_areHeights_302 : decode cL_areHeights 302 = .ok (.iload 5, 2) := by decide +kernel
theorem dL_areHeights_304 : decode cL_areHeights 304 = .ok (.ishr, 1) := by decide +kernel
theorem dL_areHeights_305 : decode cL_areHeights 305 = .ok (.iconst 1, 1) := by decide +kernel
theorem dL_areHeights_306 : decode cL_areHeights 306 = .ok (.iand, 1) := by decide +kernel
theorem dL_areHeights_307 : decode cL_areHeights 307 = .ok (.iconst 1, 1) := by decide +kernel
theorem dL_areHeights_308 : decode cL_areHeights 308 = .ok (.if_icmp .ne 25, 3) := by decide +kernel
theorem dL_areHeights_311 : decode cL_areHeights 311 = .ok (.aload_n 0, 1) := by decide +kernel
theorem dL_areHeights_312 : decode cL_areHeights 312 = .ok (.iload_n 1, 1) := by decide +kernel
theorem dL_areHeights_313 : decode cL_areHeights 313 = .ok (.iconst 1, 1) := by decide +kernel
theorem dL_areHeights_314 : decode cL_areHeights 314 = .ok (.iload 5, 2) := by decide +kernel
theorem dL_areHeights_316 : decode cL_areHeights 316 = .ok (.ishl, 1) := by decide +kernel
theorem dL_areHeights_317 : decode cL_areHeights 317 = .ok (.iconst (-1), 1) := by decide +kernel
theorem dL_areHeights_318 : decode cL_areHeights 318 = .ok (.ixor, 1) := by decide +kernel
theorem dL_areHeights_319 : decode cL_areHeights 319 = .ok (.iand, 1) := by decide +kernel
theorem dL_areHeights_320 : decode cL_areHeights 320 = .ok (.invokevirtual 41, 3) := by decide +kernel
theorem dL_areHeights_323 : decode cL_areHeights 323 = .ok (.ifCond .ge 10, 3) := by decide +kernel
theorem dL_areHeights_326 : decode cL_areHeights 326 = .ok (.iconst 1, 1) := by decide +kernel
theorem dL_areHeights_327 : decode cL_areHeights 327 = .ok (.iload 5, 2) := by decide +kernel
theorem dL_areHeights_329 : decode cL_areHeights 329 = .ok (.ishl, 1) := by decide +kernel
theorem dL_areHeights_330 : decode cL_areHeights 330 = .ok (.goto 4, 3) := by decide +kernel
theorem dL_areHeights_333 : decode cL_areHeights 333 = .ok (.iconst 0, 1) := by decide +kernel
theorem dL_areHeights_334 : decode cL_areHeights 334 = .ok (.ior, 1) := by decide +kernel
theorem dL_areHeights_335 : decode cL_areHeights 335 = .ok (.istore 4, 2) := by decide +kernel
theorem dL_areHeights_337 : decode cL_areHeights 337 = .ok (.iinc 5 1, 3) := by decide +kernel
theorem dL_areHeights_340 : decode cL_areHeights 340 = .ok (.goto (-47), 3) := by decide +kernel
theorem dL_areHeights_343 : decode cL_areHeights 343 = .ok (.aload_n 0, 1) := by decide +kernel
theorem dL_areHeights_344 : decode cL_areHeights 344 = .ok (.invokevirtual 51, 3) := by decide +kernel
theorem dL_areHeights_347 : decode cL_areHeights 347 = .ok (.iload_n 2, 1) := by decide +kernel
theorem dL_areHeights_348 : decode cL_areHeights 348 = .ok (.if_icmp .ne 72, 3) := by decide +kernel
theorem dL_areHeights_351 : decode cL_areHeights 351 = .ok (.aload_n 0, 1) := by decide +kernel
theorem dL_areHeights_352 : decode cL_areHeights 352 = .ok (.invokevirtual 54, 3) := by decide +kernel
theorem dL_areHeights_355 : decode cL_areHeights 355 = .ok (.iload 4, 2) := by decide +kernel
theorem dL_areHeights_357 : decode cL_areHeights 357 = .ok (.if_icmp .ne 63, 3) := by decide +kernel
theorem dL_areHeights_360 : decode cL_areHeights 360 = .ok (.aload_n 0, 1) := by decide +kernel
theorem dL_areHeights_361 : decode cL_areHeights 361 = .ok (.bipush 11, 2) := by decide +kernel
theorem dL_areHeights_363 : decode cL_areHeights 363 = .ok (.iconst 0, 1) := by decide +kernel
theorem dL_areHeights_364 : decode cL_areHeights 364 = .ok (.invokevirtual 48, 3) := by decide +kernel
theorem dL_areHeights_367 : decode cL_areHeights 367 = .ok (.bipush (-2), 2) := by decide +kernel
theorem dL_areHeights_369 : decode cL_areHeights 369 = .ok (.if_icmp .ne 51, 3) := by decide +kernel
theorem dL_areHeights_372 : decode cL_areHeights 372 = .ok (.aload_n 0, 1) := by decide +kernel
theorem dL_areHeights_373 : decode cL_areHeights 373 = .ok (.iconst (-1), 1) := by decide +kernel
theorem dL_areHeights_374 : decode cL_areHeights 374 = .ok (.iconst 0, 1) := by decide +kernel
theorem dL_areHeights_375 : decode cL_areHeights 375 = .ok (.invokevirtual 48, 3) := by decide +kernel
theorem dL_areHeights_378 : decode cL_areHeights 378 = .ok (.bipush (-2), 2) := by decide +kernel
theorem dL_areHeights_380 : decode cL_areHeights 380 = .ok (.if_icmp .ne 40, 3) := by decide +kernel
theorem dL_areHeights_383 : decode cL_areHeights 383 = .ok (.aload_n 0, 1) := by decide +kernel
theorem dL_areHeights_384 : decode cL_areHeights 384 = .ok (.iconst 0, 1) := by decide +kernel
theorem dL_areHeights_385 : decode cL_areHeights 385 = .ok (.bipush (-2), 2) := by decide +kernel
theorem dL_areHeights_387 : decode cL_areHeights 387 = .ok (.invokevirtual 48, 3) := by decide +kernel
theorem dL_areHeights_390 : decode cL_areHeights 390 = .ok (.bipush (-2), 2) := by decide +kernel
theorem dL_areHeights_392 : decode cL_areHeights 392 = .ok (.if_icmp .ne 28, 3) := by decide +kernel
theorem dL_areHeights_395 : decode cL_areHeights 395 = .ok (.aload_n 0, 1) := by decide +kernel
theorem dL_areHeights_396 : decode cL_areHeights 396 = .ok (.iconst 0, 1) := by decide +kernel
theorem dL_areHeights_397 : decode cL_areHeights 397 = .ok (.bipush 11, 2) := by decide +kernel
theorem dL_areHeights_399 : decode cL_areHeights 399 = .ok (.invokevirtual 44, 3) := by decide +kernel
theorem dL_areHeights_402 : decode cL_areHeights 402 = .ok (.bipush (-2), 2) := by decide +kernel
theorem dL_areHeights_404 : decode cL_areHeights 404 = .ok (.if_icmp .ne 16, 3) := by decide +kernel
theorem dL_areHeights_407 : decode cL_areHeights 407 = .ok (.aload_n 0, 1) := by decide +kernel
theorem dL_areHeights_408 : decode cL_areHeights 408 = .ok (.iconst (-1), 1) := by decide +kernel
theorem dL_areHeights_409 : decode cL_areHeights 409 = .ok (.invokevirtual 41, 3) := by decide +kernel
theorem dL_areHeights_412 : decode cL_areHeights 412 = .ok (.iconst (-1), 1) := by decide +kernel
theorem dL_areHeights_413 : decode cL_areHeights 413 = .ok (.if_icmp .ne 7, 3) := by decide +kernel
theorem dL_areHeights_416 : decode cL_areHeights 416 = .ok (.iconst 1, 1) := by decide +kernel
theorem dL_areHeights_417 : decode cL_areHeights 417 = .ok (.goto 4, 3) := by decide +kernel
theorem dL_areHeights_420 : decode cL_areHeights 420 = .ok (.iconst 0, 1) := by decide +kernel
theorem dL_areHeights_421 : decode cL_areHeights 421 = .ok (.ireturn, 1) := by decide +kernel
theorem dL_isWay_0 : decode cL_isWay 0 = .ok (.aload_n 0, 1) := by decide +kernel
theorem dL_isWay_1 : decode cL_isWay 1 = .ok (.iload_n 1, 1) := by decide +kernel
theorem dL_isWay_2 : decode cL_isWay 2 = .ok (.invokevirtual 41, 3) := by decide +kernel
theorem dL_isWay_5 : decode cL_isWay 5 = .ok (.istore_n 2, 1) := by decide +kernel
theorem dL_isWay_6 : decode cL_isWay 6 = .ok (.aload_n 0, 1) := by decide +kernel
theorem dL_isWay_7 : decode cL_isWay 7 = .ok (.iconst (-1), 1) := by decide +kernel
theorem dL_isWay_8 : decode cL_isWay 8 = .ok (.invokevirtual 57, 3) := by decide +kernel
theorem dL_isWay_11 : decode cL_isWay 11 = .ok (.istore_n 3, 1) := by decide +kernel
theorem dL_isWay_12 : decode cL_isWay 12 = .ok (.iload_n 2, 1) := by decide +kernel
theorem dL_isWay_13 : decode cL_isWay 13 = .ok (.ifCond .ge 59, 3) := by decide +kernel
theorem dL_isWay_16 : decode cL_isWay 16 = .ok (.iload_n 3, 1) := by decide +kernel
theorem dL_isWay_17 : decode cL_isWay 17 = .ok (.bipush (-6), 2) := by decide +kernel
theorem dL_isWay_19 : decode cL_isWay 19 = .ok (.if_icmp .ne 51, 3) := by decide +kernel
theorem dL_isWay_22 : decode cL_isWay 22 = .ok (.aload_n 0, 1) := by decide +kernel
theorem dL_isWay_23 : decode cL_isWay 23 = .ok (.iconst 0, 1) := by decide +kernel
theorem dL_isWay_24 : decode cL_isWay 24 = .ok (.invokevirtual 57, 3) := by decide +kernel
theorem dL_isWay_27 : decode cL_isWay 27 = .ok (.bipush (-6), 2) := by decide +kernel
theorem dL_isWay_29 : decode cL_isWay 29 = .ok (.if_icmp .ne 41, 3) := by decide +kernel
theorem dL_isWay_32 : decode cL_isWay 32 = .ok (.aload_n 0, 1) := by decide +kernel
theorem dL_isWay_33 : decode cL_isWay 33 = .ok (.iconst 1, 1) := by decide +kernel
theorem dL_isWay_34 : decode cL_isWay 34 = .ok (.invokevirtual 60, 3) := by decide +kernel
theorem dL_isWay_37 : decode cL_isWay 37 = .ok (.ifCond .ne 33, 3) := by decide +kernel
theorem dL_isWay_40 : decode cL_isWay 40 = .ok (.aload_n 0, 1) := by decide +kernel
theorem dL_isWay_41 : decode cL_isWay 41 = .ok (.iconst 0, 1) := by decide +kernel
theorem dL_isWay_42 : decode cL_isWay 42 = .ok (.invokevirtual 63, 3) := by decide +kernel
theorem dL_isWay_45 : decode cL_isWay 45 = .ok (.ifCond .eq 25, 3) := by decide +kernel
theorem dL_isWay_48 : decode cL_isWay 48 = .ok (.aload_n 0, 1) := by decide +kernel
theorem dL_isWay_49 : decode cL_isWay 49 = .ok (.iconst 0, 1) := by decide +kernel
theorem dL_isWay_50 : decode cL_isWay 50 = .ok (.iconst 0, 1) := by decide +kernel
theorem dL_isWay_51 : decode cL_isWay 51 = .ok (.invokevirtual 66, 3) := by decide +kernel
theorem dL_isWay_54 : decode cL_isWay 54 = .ok (.ifCond .ne 16, 3) := by decide +kernel
theorem dL_isWay_57 : decode cL_isWay 57 = .ok (.aload_n 0, 1) := by decide +kernel
theorem dL_isWay_58 : decode cL_isWay 58 = .ok (.iconst 1, 1) := by decide +kernel
theorem dL_isWay_59 : decode cL_isWay 59 = .ok (.iconst 3, 1) := by decide +kernel
theorem dL_isWay_60 : decode cL_isWay 60 = .ok (.invokevirtual 66, 3) := by decide +kernel
theorem dL_isWay_63 : decode cL_isWay 63 = .ok (.ifCond .ne 7, 3) := by decide +kernel
theorem dL_isWay_66 : decode cL_isWay 66 = .ok (.iconst 1, 1) := by decide +kernel
theorem dL_isWay_67 : decode cL_isWay 67 = .ok (.goto 4, 3) := by decide +kernel
theorem dL_isWay_70 : decode cL_isWay 70 = .ok (.iconst 0, 1) := by decide +kernel
theorem dL_isWay_71 : decode cL_isWay 71 = .ok (.ireturn, 1) := by decide +kernel
theorem dL_isWay_72 : decode cL_isWay 72 = .ok (.iload_n 3, 1) := by decide +kernel
theorem dL_isWay_73 : decode cL_isWay 73 = .ok (.ifCond .lt 33, 3) := by decide +kernel
theorem dL_isWay_76 : decode cL_isWay 76 = .ok (.aload_n 0, 1) := by decide +kernel
theorem dL_isWay_77 : decode cL_isWay 77 = .ok (.iload_n 3, 1) := by decide +kernel
theorem dL_isWay_78 : decode cL_isWay 78 = .ok (.invokevirtual 57, 3) := by decide +kernel
theorem dL_isWay_81 : decode cL_isWay 81 = .ok (.bipush (-6), 2) := by decide +kernel
theorem dL_isWay_83 : decode cL_isWay 83 = .ok (.if_icmp .ne 23, 3) := by decide +kernel
theorem dL_isWay_86 : decode cL_isWay 86 = .ok (.aload_n 0, 1) := by decide +kernel
theorem dL_isWay_87 : decode cL_isWay 87 = .ok (.iconst 1, 1) := by decide +kernel
theorem dL_isWay_88 : decode cL_isWay 88 = .ok (.invokevirtual 60, 3) := by decide +kernel
theorem dL_isWay_91 : decode cL_isWay 91 = .ok (.iload_n 3, 1) := by decide +kernel
theorem dL_isWay_92 : decode cL_isWay 92 = .ok (.bipush 60, 2) := by decide +kernel
theorem dL_isWay_94 : decode cL_isWay 94 = .ok (.if_icmp .le 8, 3) := by decide +kernel
theorem dL_isWay_97 : decode cL_isWay 97 = .ok (.bipush 60, 2) := by decide +kernel
theorem dL_isWay_99 : decode cL_isWay 99 = .ok (.goto 4, 3) := by decide +kernel
theorem dL_isWay_102 : decode cL_isWay 102 = .ok (.iload_n 3, 1) := by decide +kernel
theorem dL_isWay_103 : decode cL_isWay 103 = .ok (.if_icmp .eq 5, 3) := by decide +kernel
theorem dL_isWay_106 : decode cL_isWay 106 = .ok (.iconst 0, 1) := by decide +kernel
theorem dL_isWay_107 : decode cL_isWay 107 = .ok (.ireturn, 1) := by decide +kernel
theorem dL_isWay_108 : decode cL_isWay 108 = .ok (.iload_n 3, 1) := by decide +kernel
theorem dL_isWay_109 : decode cL_isWay 109 = .ok (.bipush 60, 2) := by decide +kernel
theorem dL_isWay_111 : decode cL_isWay 111 = .ok (.if_icmp .le 28, 3) := by decide +kernel
theorem dL_isWay_114 : decode cL_isWay 114 = .ok (.aload_n 0, 1) := by decide +kernel
theorem dL_isWay_115 : decode cL_isWay 115 = .ok (.iconst 0, 1) := by decide +kernel
theorem dL_isWay_116 : decode cL_isWay 116 = .ok (.invokevirtual 63, 3) := by decide +kernel
theorem dL_isWay_119 : decode cL_isWay 119 = .ok (.iconst 2, 1) := by decide +kernel
theorem dL_isWay_120 : decode cL_isWay 120 = .ok (.if_icmp .ne 17, 3) := by decide +kernel
theorem dL_isWay_123 : decode cL_isWay 123 = .ok (.aload_n 0, 1) := by decide +kernel
theorem dL_isWay_124 : decode cL_isWay 124 = .ok (.iconst 1, 1) := by decide +kernel
theorem dL_isWay_125 : decode cL_isWay 125 = .ok (.invokevirtual 63, 3) := by decide +kernel
theorem dL_isWay_128 : decode cL_isWay 128 = .ok (.bipush 60, 2) := by decide +kernel
theorem dL_isWay_130 : decode cL_isWay 130 = .ok (.if_icmp .ne 7, 3) := by decide +kernel
theorem dL_isWay_133 : decode cL_isWay 133 = .ok (.iconst 1, 1) := by decide +kernel
theorem dL_isWay_134 : decode cL_isWay 134 = .ok (.goto 4, 3) := by decide +kernel
theorem dL_isWay_137 : decode cL_isWay 137 = .ok (.iconst 0, 1) := by decide +kernel
theorem dL_isWay_138 : decode cL_isWay 138 = .ok (.ireturn, 1) := by decide +kernel
theorem dL_isWay_139 : decode cL_isWay 139 = .ok (.aload_n 0, 1) := by decide +kernel
theorem dL_isWay_140 : decode cL_isWay 140 = .ok (.iconst 0, 1) := by decide +kernel
theorem dL_isWay_141 : decode cL_isWay 141 = .ok (.invokevirtual 63, 3) := by decide +kernel
theorem dL_isWay_144 : decode cL_isWay 144 = .ok (.ifCond .ne 21, 3) := by decide +kernel
theorem dL_isWay_147 : decode cL_isWay 147 = .ok (.aload_n 0, 1) := by decide +kernel
theorem dL_isWay_148 : decode cL_isWay 148 = .ok (.iconst 1, 1) := by decide +kernel
theorem dL_isWay_149 : decode cL_isWay 149 = .ok (.invokevirtual 63, 3) := by decide +kernel
theorem dL_isWay_152 : decode cL_isWay 152 = .ok (.iload_n 3, 1) := by decide +kernel
theorem dL_isWay_153 : decode cL_isWay 153 = .ok (.if_icmp .ne 12, 3) := by decide +kernel
theorem dL_isWay_156 : decode cL_isWay 156 = .ok (.aload_n 0, 1) := by decide +kernel
theorem dL_isWay_157 : decode cL_isWay 157 = .ok (.iconst 2, 1) := by decide +kernel
theorem dL_isWay_158 : decode cL_isWay 158 = .ok (.invokevirtual 63, 3) := by decide +kernel
theorem dL_isWay_161 : decode cL_isWay 161 = .ok (.iload_n 2, 1) := by decide +kernel
theorem dL_isWay_162 : decode cL_isWay 162 = .ok (.if_icmp .eq 5, 3) := by decide +kernel
theorem dL_isWay_165 : decode cL_isWay 165 = .ok (.iconst 0, 1) := by decide +kernel
theorem dL_isWay_166 : decode cL_isWay 166 = .ok (.ireturn, 1) := by decide +kernel
theorem dL_isWay_167 : decode cL_isWay 167 = .ok (.iconst 0, 1) := by decide +kernel
theorem dL_isWay_168 : decode cL_isWay 168 = .ok (.istore 4, 2) := by decide +kernel
theorem dL_isWay_170 : decode cL_isWay 170 = .ok (.iconst 0, 1) := by decide +kernel
theorem dL_isWay_171 : decode cL_isWay 171 = .ok (.istore 5, 2) := by decide +kernel
theorem dL_isWay_173 : decode cL_isWay 173 = .ok (.iload 5, 2) := by decide +kernel
theorem dL_isWay_175 : decode cL_isWay 175 = .ok (.bipush 8, 2) := by decide +kernel
theorem dL_isWay_177 : decode cL_isWay 177 = .ok (.if_icmp .ge 39, 3) := by decide +kernel
theorem dL_isWay_180 : decode cL_isWay 180 = .ok (.iload 4, 2) := by decide +kernel
theorem dL_isWay_182 : decode cL_isWay 182 = .ok (.aload_n 0, 1) := by decide +kernel
theorem dL_isWay_183 : decode cL_isWay 183 = .ok (.iconst 0, 1) := by decide +kernel
theorem dL_isWay_184 : decode cL_isWay 184 = .ok (.iload 5, 2) := by decide +kernel
theorem dL_isWay_186 : decode cL_isWay 186 = .ok (.invokevirtual 66, 3) := by decide +kernel
theorem dL_isWay_189 : decode cL_isWay 189 = .ok (.iload 5, 2) := by decide +kernel
theorem dL_isWay_191 : decode cL_isWay 191 = .ok (.iconst 4, 1) := by decide +kernel
theorem dL_isWay_192 : decode cL_isWay 192 = .ok (.if_icmp .ge 13, 3) := by decide +kernel
theorem dL_isWay_195 : decode cL_isWay 195 = .ok (.aload_n 0, 1) := by decide +kernel
theorem dL_isWay_196 : decode cL_isWay 196 = .ok (.iconst 1, 1) := by decide +kernel
theorem dL_isWay_197 : decode cL_isWay 197 = .ok (.iload 5, 2) := by decide +kernel
theorem dL_isWay_199 : decode cL_isWay 199 = .ok (.invokevirtual 66, 3) := by decide +kernel
theorem dL_isWay_202 : decode cL_isWay 202 = .ok (.goto 4, 3) := by decide +kernel
theorem dL_isWay_205 : decode cL_isWay 205 = .ok (.iconst 0, 1) := by decide +kernel
theorem dL_isWay_206 : decode cL_isWay 206 = .ok (.iadd, 1) := by decide +kernel
theorem dL_isWay_207 : decode cL_isWay 207 = .ok (.iadd, 1) := by decide +kernel
theorem dL_isWay_208 : decode cL_isWay 208 = .ok (.istore 4, 2) := by decide +kernel
theorem dL_isWay_210 : decode cL_isWay 210 = .ok (.iinc 5 1, 3) := by decide +kernel
theorem dL_isWay_213 : decode cL_isWay 213 = .ok (.goto (-40), 3) := by decide +kernel
theorem dL_isWay_216 : decode cL_isWay 216 = .ok (.iconst 0, 1) := by decide +kernel
theorem dL_isWay_217 : decode cL_isWay 217 = .ok (.istore 5, 2) := by decide +kernel
theorem dL_isWay_219 : decode cL_isWay 219 = .ok (.iconst 0, 1) := by decide +kernel
theorem dL_isWay_220 : decode cL_isWay 220 = .ok (.istore 6, 2) := by decide +kernel
theorem dL_isWay_222 : decode cL_isWay 222 = .ok (.iload 6, 2) := by decide +kernel
theorem dL_isWay_224 : decode cL_isWay 224 = .ok (.iload_n 3, 1) := by decide +kernel
theorem dL_isWay_225 : decode cL_isWay 225 = .ok (.if_icmp .ge 146, 3) := by decide +kernel
theorem dL_isWay_228 : decode cL_isWay 228 = .ok (.iload 5, 2) := by decide +kernel
theorem dL_isWay_230 : decode cL_isWay 230 = .ok (.aload_n 0, 1) := by decide +kernel
theorem dL_isWay_231 : decode cL_isWay 231 = .ok (.iload 6, 2) := by decide +kernel
theorem dL_isWay_233 : decode cL_isWay 233 = .ok (.invokevirtual 57, 3) := by decide +kernel
theorem dL_isWay_236 : decode cL_isWay 236 = .ok (.sipush 200, 3) := by decide +kernel
theorem dL_isWay_239 : decode cL_isWay 239 = .ok (.if_icmp .ge 7, 3) := by decide +kernel
theorem dL_isWay_242 : decode cL_isWay 242 = .ok (.iconst 1, 1) := by decide +kernel
theorem dL_isWay_243 : decode cL_isWay 243 = .ok (.goto 4, 3) := by decide +kernel
theorem dL_isWay_246 : decode cL_isWay 246 = .ok (.iconst 0, 1) := by decide +kernel
theorem dL_isWay_247 : decode cL_isWay 247 = .ok (.iadd, 1) := by decide +kernel
theorem dL_isWay_248 : decode cL_isWay 248 = .ok (.istore 5, 2) := by decide +kernel
theorem dL_isWay_250 : decode cL_isWay 250 = .ok (.aload_n 0, 1) := by decide +kernel
theorem dL_isWay_251 : decode cL_isWay 251 = .ok (.iload 6, 2) := by decide +kernel
theorem dL_isWay_253 : decode cL_isWay 253 = .ok (.invokevirtual 57, 3) := by decide +kernel
theorem dL_isWay_256 : decode cL_isWay 256 = .ok (.iconst 1, 1) := by decide +kernel
theorem dL_isWay_257 : decode cL_isWay 257 = .ok (.isub, 1) := by decide +kernel
theorem dL_isWay_258 : decode cL_isWay 258 = .ok (.istore 7, 2) := by decide +kernel
theorem dL_isWay_260 : decode cL_isWay 260 = .ok (.iload 7, 2) := by decide +kernel
theorem dL_isWay_262 : decode cL_isWay 262 = .ok (.ifCond .lt 103, 3) := by decide +kernel
theorem dL_isWay_265 : decode cL_isWay 265 = .ok (.iload 7, 2) := by decide +kernel
theorem dL_isWay_267 : decode cL_isWay 267 = .ok (.aload_n 0, 1) := by decide +kernel
theorem dL_isWay_268 : decode cL_isWay 268 = .ok (.iload 6, 2) := by decide +kernel
theorem dL_isWay_270 : decode cL_isWay 270 = .ok (.invokevirtual 57, 3) := by decide +kernel
theorem dL_isWay_273 : decode cL_isWay 273 = .ok (.iconst 4, 1) := by decide +kernel
theorem dL_isWay_274 : decode cL_isWay 274 = .ok (.isub, 1) := by decide +kernel
theorem dL_isWay_275 : decode cL_isWay 275 = .ok (.if_icmp .le 90, 3) := by decide +kernel
theorem dL_isWay_278 : decode cL_isWay 278 = .ok (.aload_n 0, 1) := by decide +kernel
theorem dL_isWay_279 : decode cL_isWay 279 = .ok (.iconst 0, 1) := by decide +kernel
theorem dL_isWay_280 : decode cL_isWay 280 = .ok (.invokevirtual 60, 3) := by decide +kernel
theorem dL_isWay_283 : decode cL_isWay 283 = .ok (.pop, 1) := by decide +kernel
theorem dL_isWay_284 : decode cL_isWay 284 = .ok (.iconst 0, 1) := by decide +kernel
theorem dL_isWay_285 : decode cL_isWay 285 = .ok (.istore 8, 2) := by decide +kernel
theorem dL_isWay_287 : decode cL_isWay 287 = .ok (.iload 8, 2) := by decide +kernel
theorem dL_isWay_289 : decode cL_isWay 289 = .ok (.iload 6, 2) := by decide +kernel
theorem dL_isWay_291 : decode cL_isWay 291 = .ok (.if_icmp .ge 20, 3) := by decide +kernel
theorem dL_isWay_294 : decode cL_isWay 294 = .ok (.aload_n 0, 1) := by decide +kernel
theorem dL_isWay_295 : decode cL_isWay 295 = .ok (.aload_n 0, 1) := by decide +kernel
theorem dL_isWay_296 : decode cL_isWay 296 = .ok (.iload 8, 2) := by decide +kernel
theorem dL_isWay_298 : decode cL_isWay 298 = .ok (.invokevirtual 57, 3) := by decide +kernel
theorem dL_isWay_301 : decode cL_isWay 301 = .ok (.invokevirtual 69, 3) := by decide +kernel
theorem dL_isWay_304 : decode cL_isWay 304 = .ok (.pop, 1) := by decide +kernel
theorem dL_isWay_305 : decode cL_isWay 305 = .ok (.iinc 8 1, 3) := by decide +kernel
theorem dL_isWay_308 : decode cL_isWay 308 = .ok (.goto (-21), 3) := by decide +kernel
theorem dL_isWay_311 : decode cL_isWay 311 = .ok (.aload_n 0, 1) := by decide +kernel
theorem dL_isWay_312 : decode cL_isWay 312 = .ok (.iload 7, 2) := by decide +kernel
theorem dL_isWay_314 : decode cL_isWay 314 = .ok (.invokevirtual 69, 3) := by decide +kernel
theorem dL_isWay_317 : decode cL_isWay 317 = .ok (.iload 6, 2) := by decide +kernel
theorem dL_isWay_319 : decode cL_isWay 319 = .ok (.iconst 1, 1) := by decide +kernel
theorem dL_isWay_320 : decode cL_isWay 320 = .ok (.iadd, 1) := by decide +kernel
theorem dL_isWay_321 : decode cL_isWay 321 = .ok (.if_icmp .eq 5, 3) := by decide +kernel
theorem dL_isWay_324 : decode cL_isWay 324 = .ok (.iconst 0, 1) := by decide +kernel
theorem dL_isWay_325 : decode cL_isWay 325 = .ok (.ireturn, 1) := by decide +kernel
theorem dL_isWay_326 : decode cL_isWay 326 = .ok (.aload_n 0, 1) := by decide +kernel
theorem dL_isWay_327 : decode cL_isWay 327 = .ok (.iconst 0, 1) := by decide +kernel
theorem dL_isWay_328 : decode cL_isWay 328 = .ok (.invokevirtual 63, 3) := by decide +kernel
theorem dL_isWay_331 : decode cL_isWay 331 = .ok (.istore 8, 2) := by decide +kernel
theorem dL_isWay_333 : decode cL_isWay 333 = .ok (.iload 8, 2) := by decide +kernel
theorem dL_isWay_335 : decode cL_isWay 335 = .ok (.ifCond .ne 12, 3) := by decide +kernel
theorem dL_isWay_338 : decode cL_isWay 338 = .ok (.aload_n 0, 1) := by decide +kernel
theorem dL_isWay_339 : decode cL_isWay 339 = .ok (.iconst 2, 1) := by decide +kernel
theorem dL_isWay_340 : decode cL_isWay 340 = .ok (.invokevirtual 63, 3) := by decide +kernel
theorem dL_isWay_343 : decode cL_isWay 343 = .ok (.iload_n 2, 1) := by decide +kernel
theorem dL_isWay_344 : decode cL_isWay 344 = .ok (.if_icmp .le 13, 3) := by decide +kernel
theorem dL_isWay_347 : decode cL_isWay 347 = .ok (.aload_n 0, 1) := by decide +kernel
theorem dL_isWay_348 : decode cL_isWay 348 = .ok (.iconst 1, 1) := by decide +kernel
theorem dL_isWay_349 : decode cL_isWay 349 = .ok (.invokevirtual 63, 3) := by decide +kernel
theorem dL_isWay_352 : decode cL_isWay 352 = .ok (.iload 6, 2) := by decide +kernel
theorem dL_isWay_354 : decode cL_isWay 354 = .ok (.if_icmp .ge 5, 3) := by decide +kernel
theorem dL_isWay_357 : decode cL_isWay 357 = .ok (.iconst 0, 1) := by decide +kernel
theorem dL_isWay_358 : decode cL_isWay 358 = .ok (.ireturn, 1) := by decide +kernel
theorem dL_isWay_359 : decode cL_isWay 359 = .ok (.iinc 7 (-1), 3) := by decide +kernel
theorem dL_isWay_362 : decode cL_isWay 362 = .ok (.goto (-102), 3) := by decide +kernel
theorem dL_isWay_365 : decode cL_isWay 365 = .ok (.iinc 6 1, 3) := by decide +kernel
theorem dL_isWay_368 : decode cL_isWay 368 = .ok (.goto (-146), 3) := by decide +kernel
theorem dL_isWay_371 : decode cL_isWay 371 = .ok (.iload 4, 2) := by decide +kernel
theorem dL_isWay_373 : decode cL_isWay 373 = .ok (.iload 5, 2) := by decide +kernel
theorem dL_isWay_375 : decode cL_isWay 375 = .ok (.if_icmp .eq 5, 3) := by decide +kernel
theorem dL_isWay_378 : decode cL_isWay 378 = .ok (.iconst 0, 1) := by decide +kernel
theorem dL_isWay_379 : decode cL_isWay 379 = .ok (.ireturn, 1) := by decide +kernel
theorem dL_isWay_380 : decode cL_isWay 380 = .ok (.aload_n 0, 1) := by decide +kernel
theorem dL_isWay_381 : decode cL_isWay 381 = .ok (.iconst 1, 1) := by decide +kernel
theorem dL_isWay_382 : decode cL_isWay 382 = .ok (.invokevirtual 60, 3) := by decide +kernel
theorem dL_isWay_385 : decode cL_isWay 385 = .ok (.iload_n 3, 1) := by decide +kernel
theorem dL_isWay_386 : decode cL_isWay 386 = .ok (.if_icmp .ne 39, 3) := by decide +kernel
theorem dL_isWay_389 : decode cL_isWay 389 = .ok (.iload_n 3, 1) := by decide +kernel
theorem dL_isWay_390 : decode cL_isWay 390 = .ok (.bipush 60, 2) := by decide +kernel
theorem dL_isWay_392 : decode cL_isWay 392 = .ok (.if_icmp .ge 35, 3) := by decide +kernel
theorem dL_isWay_395 : decode cL_isWay 395 = .ok (.aload_n 0, 1) := by decide +kernel
theorem dL_isWay_396 : decode cL_isWay 396 = .ok (.iconst 0, 1) := by decide +kernel
theorem dL_isWay_397 : decode cL_isWay 397 = .ok (.invokevirtual 69, 3) := by decide +kernel
theorem dL_isWay_400 : decode cL_isWay 400 = .ok (.iload_n 3, 1) := by decide +kernel
theorem dL_isWay_401 : decode cL_isWay 401 = .ok (.iconst 1, 1) := by decide +kernel
theorem dL_isWay_402 : decode cL_isWay 402 = .ok (.iadd, 1) := by decide +kernel
theorem dL_isWay_403 : decode cL_isWay 403 = .ok (.if_icmp .ne 22, 3) := by decide +kernel
theorem dL_isWay_406 : decode cL_isWay 406 = .ok (.aload_n 0, 1) := by decide +kernel
theorem dL_isWay_407 : decode cL_isWay 407 = .ok (.iconst 0, 1) := by decide +kernel
theorem dL_isWay_408 : decode cL_isWay 408 = .ok (.invokevirtual 63, 3) := by decide +kernel
theorem dL_isWay_411 : decode cL_isWay 411 = .ok (.bipush 6, 2) := by decide +kernel
theorem dL_isWay_413 : decode cL_isWay 413 = .ok (.if_icmp .ne 12, 3) := by decide +kernel
theorem dL_isWay_416 : decode cL_isWay 416 = .ok (.aload_n 0, 1) := by decide +kernel
theorem dL_isWay_417 : decode cL_isWay 417 = .ok (.iconst 1, 1) := by decide +kernel
theorem dL_isWay_418 : decode cL_isWay 418 = .ok (.invokevirtual 63, 3) := by decide +kernel
theorem dL_isWay_421 : decode cL_isWay 421 = .ok (.iload_n 3, 1) := by decide +kernel
theorem dL_isWay_422 : decode cL_isWay 422 = .ok (.if_icmp .eq 5, 3) := by decide +kernel
theorem dL_isWay_425 : decode cL_isWay 425 = .ok (.iconst 0, 1) := by decide +kernel
theorem dL_isWay_426 : decode cL_isWay 426 = .ok (.ireturn, 1) := by decide +kernel
theorem dL_isWay_427 : decode cL_isWay 427 = .ok (.aload_n 0, 1) := by decide +kernel
theorem dL_isWay_428 : decode cL_isWay 428 = .ok (.iconst 0, 1) := by decide +kernel
theorem dL_isWay_429 : decode cL_isWay 429 = .ok (.invokevirtual 60, 3) := by decide +kernel
theorem dL_isWay_432 : decode cL_isWay 432 = .ok (.pop, 1) := by decide +kernel
theorem dL_isWay_433 : decode cL_isWay 433 = .ok (.iconst 0, 1) := by decide +kernel
theorem dL_isWay_434 : decode cL_isWay 434 = .ok (.istore 6, 2) := by decide +kernel
theorem dL_isWay_436 : decode cL_isWay 436 = .ok (.iload 6, 2) := by decide +kernel
theorem dL_isWay_438 : decode cL_isWay 438 = .ok (.iconst 1, 1) := by decide +kernel
theorem dL_isWay_439 : decode cL_isWay 439 = .ok (.iadd, 1) := by decide +kernel
theorem dL_isWay_440 : decode cL_isWay 440 = .ok (.iload_n 3, 1) := by decide +kernel
theorem dL_isWay_441 : decode cL_isWay 441 = .ok (.if_icmp .ge 20, 3) := by decide +kernel
theorem dL_isWay_444 : decode cL_isWay 444 = .ok (.aload_n 0, 1) := by decide +kernel
theorem dL_isWay_445 : decode cL_isWay 445 = .ok (.aload_n 0, 1) := by decide +kernel
theorem dL_isWay_446 : decode cL_isWay 446 = .ok (.iload 6, 2) := by decide +kernel
theorem dL_isWay_448 : decode cL_isWay 448 = .ok (.invokevirtual 57, 3) := by decide +kernel
theorem dL_isWay_451 : decode cL_isWay 451 = .ok (.invokevirtual 69, 3) := by decide +kernel
theorem dL_isWay_454 : decode cL_isWay 454 = .ok (.pop, 1) := by decide +kernel
theorem dL_isWay_455 : decode cL_isWay 455 = .ok (.iinc 6 1, 3) := by decide +kernel
theorem dL_isWay_458 : decode cL_isWay 458 = .ok (.goto (-22), 3) := by decide +kernel
theorem dL_isWay_461 : decode cL_isWay 461 = .ok (.iload_n 3, 1) := by decide +kernel
theorem dL_isWay_462 : decode cL_isWay 462 = .ok (.ifCond .eq 23, 3) := by decide +kernel
theorem dL_isWay_465 : decode cL_isWay 465 = .ok (.aload_n 0, 1) := by decide +kernel
theorem dL_isWay_466 : decode cL_isWay 466 = .ok (.iconst 0, 1) := by decide +kernel
theorem dL_isWay_467 : decode cL_isWay 467 = .ok (.invokevirtual 63, 3) := by decide +kernel
theorem dL_isWay_470 : decode cL_isWay 470 = .ok (.iconst 2, 1) := by decide +kernel
theorem dL_isWay_471 : decode cL_isWay 471 = .ok (.if_icmp .ne 18, 3) := by decide +kernel
theorem dL_isWay_474 : decode cL_isWay 474 = .ok (.aload_n 0, 1) := by decide +kernel
theorem dL_isWay_475 : decode cL_isWay 475 = .ok (.iconst 1, 1) := by decide +kernel
theorem dL_isWay_476 : decode cL_isWay 476 = .ok (.invokevirtual 63, 3) := by decide +kernel
theorem dL_isWay_479 : decode cL_isWay 479 = .ok (.iload_n 3, 1) := by decide +kernel
theorem dL_isWay_480 : decode cL_isWay 480 = .ok (.iconst 1, 1) := by decide +kernel
theorem dL_isWay_481 : decode cL_isWay 481 = .ok (.isub, 1) := by decide +kernel
theorem dL_isWay_482 : decode cL_isWay 482 = .ok (.if_icmp .ne 7, 3) := by decide +kernel
theorem dL_isWay_485 : decode cL_isWay 485 = .ok (.iconst 1, 1) := by decide +kernel
theorem dL_isWay_486 : decode cL_isWay 486 = .ok (.goto 4, 3) := by decide +kernel
theorem dL_isWay_489 : decode cL_isWay 489 = .ok (.iconst 0, 1) := by decide +kernel
theorem dL_isWay_490 : decode cL_isWay 490 = .ok (.ireturn, 1) := by decide +kernel
theorem dL_law_0 : decode cL_law 0 = .ok (.new 19, 3) := by decide +kernel
theorem dL_law_3 : decode cL_law 3 = .ok (.dup, 1) := by decide +kernel
theorem dL_law_4 : decode cL_law 4 = .ok (.invokespecial 72, 3) := by decide +kernel
theorem dL_law_7 : decode cL_law 7 = .ok (.astore_n 1, 1) := by decide +kernel
theorem dL_law_8 : decode cL_law 8 = .ok (.aload_n 1, 1) := by decide +kernel
theorem dL_law_9 : decode cL_law 9 = .ok (.iconst 0, 1) := by decide +kernel
theorem dL_law_10 : decode cL_law 10 = .ok (.invokevirtual 41, 3) := by decide +kernel
theorem dL_law_13 : decode cL_law 13 = .ok (.bipush (-3), 2) := by decide +kernel
theorem dL_law_15 : decode cL_law 15 = .ok (.if_icmp .ne 89, 3) := by decide +kernel
theorem dL_law_18 : decode cL_law 18 = .ok (.aload_n 1, 1) := by decide +kernel
theorem dL_law_19 : decode cL_law 19 = .ok (.iconst 1, 1) := by decide +kernel
theorem dL_law_20 : decode cL_law 20 = .ok (.invokevirtual 41, 3) := by decide +kernel
theorem dL_law_23 : decode cL_law 23 = .ok (.iconst (-1), 1) := by decide +kernel
theorem dL_law_24 : decode cL_law 24 = .ok (.if_icmp .ne 80, 3) := by decide +kernel
theorem dL_law_27 : decode cL_law 27 = .ok (.aload_n 1, 1) := by decide +kernel
theorem dL_law_28 : decode cL_law 28 = .ok (.iconst 0, 1) := by decide +kernel
theorem dL_law_29 : decode cL_law 29 = .ok (.iconst 0, 1) := by decide +kernel
theorem dL_law_30 : decode cL_law 30 = .ok (.invokevirtual 48, 3) := by decide +kernel
theorem dL_law_33 : decode cL_law 33 = .ok (.bipush (-3), 2) := by decide +kernel
theorem dL_law_35 : decode cL_law 35 = .ok (.if_icmp .ne 69, 3) := by decide +kernel
theorem dL_law_38 : decode cL_law 38 = .ok (.aload_n 1, 1) := by decide +kernel
theorem dL_law_39 : decode cL_law 39 = .ok (.invokevirtual 51, 3) := by decide +kernel
theorem dL_law_42 : decode cL_law 42 = .ok (.bipush (-3), 2) := by decide +kernel
theorem dL_law_44 : decode cL_law 44 = .ok (.if_icmp .ne 60, 3) := by decide +kernel
theorem dL_law_47 : decode cL_law 47 = .ok (.aload_n 1, 1) := by decide +kernel
theorem dL_law_48 : decode cL_law 48 = .ok (.invokevirtual 54, 3) := by decide +kernel
theorem dL_law_51 : decode cL_law 51 = .ok (.bipush (-3), 2) := by decide +kernel
theorem dL_law_53 : decode cL_law 53 = .ok (.if_icmp .ne 51, 3) := by decide +kernel
theorem dL_law_56 : decode cL_law 56 = .ok (.aload_n 1, 1) := by decide +kernel
theorem dL_law_57 : decode cL_law 57 = .ok (.iconst 0, 1) := by decide +kernel
theorem dL_law_58 : decode cL_law 58 = .ok (.invokevirtual 57, 3) := by decide +kernel
theorem dL_law_61 : decode cL_law 61 = .ok (.bipush (-3), 2) := by decide +kernel
theorem dL_law_63 : decode cL_law 63 = .ok (.if_icmp .ne 41, 3) := by decide +kernel
theorem dL_law_66 : decode cL_law 66 = .ok (.aload_n 1, 1) := by decide +kernel
theorem dL_law_67 : decode cL_law 67 = .ok (.iconst 0, 1) := by decide +kernel
theorem dL_law_68 : decode cL_law 68 = .ok (.invokevirtual 63, 3) := by decide +kernel
theorem dL_law_71 : decode cL_law 71 = .ok (.bipush (-3), 2) := by decide +kernel
theorem dL_law_73 : decode cL_law 73 = .ok (.if_icmp .ne 31, 3) := by decide +kernel
theorem dL_law_76 : decode cL_law 76 = .ok (.aload_n 1, 1) := by decide +kernel
theorem dL_law_77 : decode cL_law 77 = .ok (.iconst 3, 1) := by decide +kernel
theorem dL_law_78 : decode cL_law 78 = .ok (.invokevirtual 63, 3) := by decide +kernel
theorem dL_law_81 : decode cL_law 81 = .ok (.bipush (-2), 2) := by decide +kernel
theorem dL_law_83 : decode cL_law 83 = .ok (.if_icmp .ne 21, 3) := by decide +kernel
theorem dL_law_86 : decode cL_law 86 = .ok (.aload_n 1, 1) := by decide +kernel
theorem dL_law_87 : decode cL_law 87 = .ok (.iconst 1, 1) := by decide +kernel
theorem dL_law_88 : decode cL_law 88 = .ok (.invokevirtual 60, 3) := by decide +kernel
theorem dL_law_91 : decode cL_law 91 = .ok (.bipush (-3), 2) := by decide +kernel
theorem dL_law_93 : decode cL_law 93 = .ok (.if_icmp .ne 11, 3) := by decide +kernel
theorem dL_law_96 : decode cL_law 96 = .ok (.aload_n 1, 1) := by decide +kernel
theorem dL_law_97 : decode cL_law 97 = .ok (.iconst 0, 1) := by decide +kernel
theorem dL_law_98 : decode cL_law 98 = .ok (.invokevirtual 60, 3) := by decide +kernel
theorem dL_law_101 : decode cL_law 101 = .ok (.ifCond .eq 5, 3) := by decide +kernel
theorem dL_law_104 : decode cL_law 104 = .ok (.iconst 0, 1) := by decide +kernel
theorem dL_law_105 : decode cL_law 105 = .ok (.ireturn, 1) := by decide +kernel
theorem dL_law_106 : decode cL_law 106 = .ok (.aload_n 0, 1) := by decide +kernel
theorem dL_law_107 : decode cL_law 107 = .ok (.iconst 0, 1) := by decide +kernel
theorem dL_law_108 : decode cL_law 108 = .ok (.bipush 6, 2) := by decide +kernel
theorem dL_law_110 : decode cL_law 110 = .ok (.invokestatic 8, 3) := by decide +kernel
theorem dL_law_113 : decode cL_law 113 = .ok (.istore_n 2, 1) := by decide +kernel
theorem dL_law_114 : decode cL_law 114 = .ok (.aload_n 0, 1) := by decide +kernel
theorem dL_law_115 : decode cL_law 115 = .ok (.iconst 1, 1) := by decide +kernel
theorem dL_law_116 : decode cL_law 116 = .ok (.iconst 4, 1) := by decide +kernel
theorem dL_law_117 : decode cL_law 117 = .ok (.invokestatic 8, 3) := by decide +kernel
theorem dL_law_120 : decode cL_law 120 = .ok (.istore_n 3, 1) := by decide +kernel
theorem dL_law_121 : decode cL_law 121 = .ok (.aload_n 1, 1) := by decide +kernel
theorem dL_law_122 : decode cL_law 122 = .ok (.aload_n 0, 1) := by decide +kernel
theorem dL_law_123 : decode cL_law 123 = .ok (.iload_n 2, 1) := by decide +kernel
theorem dL_law_124 : decode cL_law 124 = .ok (.iload_n 3, 1) := by decide +kernel
theorem dL_law_125 : decode cL_law 125 = .ok (.invokestatic 73, 3) := by decide +kernel
theorem dL_law_128 : decode cL_law 128 = .ok (.ifCond .ne 5, 3) := by decide +kernel
theorem dL_law_131 : decode cL_law 131 = .ok (.iconst 0, 1) := by decide +kernel
theorem dL_law_132 : decode cL_law 132 = .ok (.ireturn, 1) := by decide +kernel
theorem dL_law_133 : decode cL_law 133 = .ok (.iconst 0, 1) := by decide +kernel
theorem dL_law_134 : decode cL_law 134 = .ok (.istore 4, 2) := by decide +kernel
theorem dL_law_136 : decode cL_law 136 = .ok (.iload 4, 2) := by decide +kernel
theorem dL_law_138 : decode cL_law 138 = .ok (.iconst 2, 1) := by decide +kernel
theorem dL_law_139 : decode cL_law 139 = .ok (.if_icmp .ge 98, 3) := by decide +kernel
theorem dL_law_142 : decode cL_law 142 = .ok (.aload_n 1, 1) := by decide +kernel
theorem dL_law_143 : decode cL_law 143 = .ok (.invokevirtual 28, 3) := by decide +kernel
theorem dL_law_146 : decode cL_law 146 = .ok (.pop, 1) := by decide +kernel
theorem dL_law_147 : decode cL_law 147 = .ok (.aload_n 1, 1) := by decide +kernel
theorem dL_law_148 : decode cL_law 148 = .ok (.aload_n 0, 1) := by decide +kernel
theorem dL_law_149 : decode cL_law 149 = .ok (.sipush 130, 3) := by decide +kernel
theorem dL_law_152 : decode cL_law 152 = .ok (.bipush 10, 2) := by decide +kernel
theorem dL_law_154 : decode cL_law 154 = .ok (.iload 4, 2) := by decide +kernel
theorem dL_law_156 : decode cL_law 156 = .ok (.imul, 1) := by decide +kernel
theorem dL_law_157 : decode cL_law 157 = .ok (.iadd, 1) := by decide +kernel
theorem dL_law_158 : decode cL_law 158 = .ok (.invokestatic 24, 3) := by decide +kernel
theorem dL_law_161 : decode cL_law 161 = .ok (.ifCond .eq 11, 3) := by decide +kernel
theorem dL_law_164 : decode cL_law 164 = .ok (.aload_n 1, 1) := by decide +kernel
theorem dL_law_165 : decode cL_law 165 = .ok (.invokevirtual 77, 3) := by decide +kernel
theorem dL_law_168 : decode cL_law 168 = .ok (.iconst 1, 1) := by decide +kernel
theorem dL_law_169 : decode cL_law 169 = .ok (.if_icmp .ge 5, 3) := by decide +kernel
theorem dL_law_172 : decode cL_law 172 = .ok (.iconst 0, 1) := by decide +kernel
theorem dL_law_173 : decode cL_law 173 = .ok (.ireturn, 1) := by decide +kernel
theorem dL_law_174 : decode cL_law 174 = .ok (.aload_n 1, 1) := by decide +kernel
theorem dL_law_175 : decode cL_law 175 = .ok (.iconst 0, 1) := by decide +kernel
theorem dL_law_176 : decode cL_law 176 = .ok (.invokevirtual 79, 3) := by decide +kernel
theorem dL_law_179 : decode cL_law 179 = .ok (.istore 5, 2) := by decide +kernel
theorem dL_law_181 : decode cL_law 181 = .ok (.aload_n 1, 1) := by decide +kernel
theorem dL_law_182 : decode cL_law 182 = .ok (.iload 5, 2) := by decide +kernel
theorem dL_law_184 : decode cL_law 184 = .ok (.invokestatic 82, 3) := by decide +kernel
theorem dL_law_187 : decode cL_law 187 = .ok (.ifCond .eq 12, 3) := by decide +kernel
theorem dL_law_190 : decode cL_law 190 = .ok (.aload_n 1, 1) := by decide +kernel
theorem dL_law_191 : decode cL_law 191 = .ok (.iload 5, 2) := by decide +kernel
theorem dL_law_193 : decode cL_law 193 = .ok (.invokestatic 86, 3) := by decide +kernel
theorem dL_law_196 : decode cL_law 196 = .ok (.ifCond .ne 5, 3) := by decide +kernel
theorem dL_law_199 : decode cL_law 199 = .ok (.iconst 0, 1) := by decide +kernel
theorem dL_law_200 : decode cL_law 200 = .ok (.ireturn, 1) := by decide +kernel
theorem dL_law_201 : decode cL_law 201 = .ok (.iload 4, 2) := by decide +kernel
theorem dL_law_203 : decode cL_law 203 = .ok (.ifCond .ne 28, 3) := by decide +kernel
theorem dL_law_206 : decode cL_law 206 = .ok (.iload_n 2, 1) := by decide +kernel
theorem dL_law_207 : decode cL_law 207 = .ok (.ifCond .le 24, 3) := by decide +kernel
theorem dL_law_210 : decode cL_law 210 = .ok (.aload_n 1, 1) := by decide +kernel
theorem dL_law_211 : decode cL_law 211 = .ok (.iconst 0, 1) := by decide +kernel
theorem dL_law_212 : decode cL_law 212 = .ok (.aload_n 0, 1) := by decide +kernel
theorem dL_law_213 : decode cL_law 213 = .ok (.sipush 150, 3) := by decide +kernel
theorem dL_law_216 : decode cL_law 216 = .ok (.iload_n 2, 1) := by decide +kernel
theorem dL_law_217 : decode cL_law 217 = .ok (.invokestatic 8, 3) := by decide +kernel
theorem dL_law_220 : decode cL_law 220 = .ok (.invokevirtual 89, 3) := by decide +kernel
theorem dL_law_223 : decode cL_law 223 = .ok (.iload_n 2, 1) := by decide +kernel
theorem dL_law_224 : decode cL_law 224 = .ok (.iconst 1, 1) := by decide +kernel
theorem dL_law_225 : decode cL_law 225 = .ok (.isub, 1) := by decide +kernel
theorem dL_law_226 : decode cL_law 226 = .ok (.if_icmp .eq 5, 3) := by decide +kernel
theorem dL_law_229 : decode cL_law 229 = .ok (.iconst 0, 1) := by decide +kernel
theorem dL_law_230 : decode cL_law 230 = .ok (.ireturn, 1) := by decide +kernel
theorem dL_law_231 : decode cL_law 231 = .ok (.iinc 4 1, 3) := by decide +kernel
theorem dL_law_234 : decode cL_law 234 = .ok (.goto (-98), 3) := by decide +kernel
theorem dL_law_237 : decode cL_law 237 = .ok (.iconst 1, 1) := by decide +kernel
theorem dL_law_238 : decode cL_law 238 = .ok (.ireturn, 1) := by decide +kernel
