theorem dX0_init_0 : decode cX0_init 0 = .ok (.aload_n 0, 1) := by decide +kernel
theorem dX0_init_1 : decode cX0_init 1 = .ok (.invokespecial 3, 3) := by decide +kernel
theorem dX0_init_4 : decode cX0_init 4 = .ok (.aload_n 0, 1) := by decide +kernel
theorem dX0_init_5 : decode cX0_init 5 = .ok (.sipush 1024, 3) := by decide +kernel
theorem dX0_init_8 : decode cX0_init 8 = .ok (.newarray .int, 2) := by decide +kernel
theorem dX0_init_10 : decode cX0_init 10 = .ok (.putfield 11, 3) := by decide +kernel
theorem dX0_init_13 : decode cX0_init 13 = .ok (.aload_n 0, 1) := by decide +kernel
theorem dX0_init_14 : decode cX0_init 14 = .ok (.iconst 0, 1) := by decide +kernel
theorem dX0_init_15 : decode cX0_init 15 = .ok (.putfield 15, 3) := by decide +kernel
theorem dX0_init_18 : decode cX0_init 18 = .ok (.aload_n 0, 1) := by decide +kernel
theorem dX0_init_19 : decode cX0_init 19 = .ok (.iconst 0, 1) := by decide +kernel
theorem dX0_init_20 : decode cX0_init 20 = .ok (.putfield 19, 3) := by decide +kernel
theorem dX0_init_23 : decode cX0_init 23 = .ok (.aload_n 0, 1) := by decide +kernel
theorem dX0_init_24 : decode cX0_init 24 = .ok (.iconst 0, 1) := by decide +kernel
theorem dX0_init_25 : decode cX0_init 25 = .ok (.putfield 23, 3) := by decide +kernel
theorem dX0_init_28 : decode cX0_init 28 = .ok (.aload_n 0, 1) := by decide +kernel
theorem dX0_init_29 : decode cX0_init 29 = .ok (.aload_n 1, 1) := by decide +kernel
theorem dX0_init_30 : decode cX0_init 30 = .ok (.putfield 26, 3) := by decide +kernel
theorem dX0_init_33 : decode cX0_init 33 = .ok (.aload_n 0, 1) := by decide +kernel
theorem dX0_init_34 : decode cX0_init 34 = .ok (.aload_n 2, 1) := by decide +kernel
theorem dX0_init_35 : decode cX0_init 35 = .ok (.putfield 30, 3) := by decide +kernel
theorem dX0_init_38 : decode cX0_init 38 = .ok (.return_, 1) := by decide +kernel
theorem dX0_forget_0 : decode cX0_forget 0 = .ok (.aload_n 0, 1) := by decide +kernel
theorem dX0_forget_1 : decode cX0_forget 1 = .ok (.iconst 0, 1) := by decide +kernel
theorem dX0_forget_2 : decode cX0_forget 2 = .ok (.putfield 23, 3) := by decide +kernel
theorem dX0_forget_5 : decode cX0_forget 5 = .ok (.return_, 1) := by decide +kernel
theorem dX0_find_0 : decode cX0_find 0 = .ok (.aload_n 0, 1) := by decide +kernel
theorem dX0_find_1 : decode cX0_find 1 = .ok (.getfield 23, 3) := by decide +kernel
theorem dX0_find_4 : decode cX0_find 4 = .ok (.ifCond .eq 4, 3) := by decide +kernel
theorem dX0_find_7 : decode cX0_find 7 = .ok (.return_, 1) := by decide +kernel
theorem dX0_find_8 : decode cX0_find 8 = .ok (.aload_n 0, 1) := by decide +kernel
theorem dX0_find_9 : decode cX0_find 9 = .ok (.iconst 0, 1) := by decide +kernel
theorem dX0_find_10 : decode cX0_find 10 = .ok (.putfield 15, 3) := by decide +kernel
theorem dX0_find_13 : decode cX0_find 13 = .ok (.aload_n 0, 1) := by decide +kernel
theorem dX0_find_14 : decode cX0_find 14 = .ok (.getfield 30, 3) := by decide +kernel
theorem dX0_find_17 : decode cX0_find 17 = .ok (.aload_n 0, 1) := by decide +kernel
theorem dX0_find_18 : decode cX0_find 18 = .ok (.getfield 26, 3) := by decide +kernel
theorem dX0_find_21 : decode cX0_find 21 = .ok (.invokevirtual 34, 3) := by decide +kernel
theorem dX0_find_24 : decode cX0_find 24 = .ok (.iload_n 1, 1) := by decide +kernel
theorem dX0_find_25 : decode cX0_find 25 = .ok (.invokevirtual 40, 3) := by decide +kernel
theorem dX0_find_28 : decode cX0_find 28 = .ok (.istore_n 2, 1) := by decide +kernel
theorem dX0_find_29 : decode cX0_find 29 = .ok (.aload_n 0, 1) := by decide +kernel
theorem dX0_find_30 : decode cX0_find 30 = .ok (.iload_n 2, 1) := by decide +kernel
theorem dX0_find_31 : decode cX0_find 31 = .ok (.bipush (-6), 2) := by decide +kernel
theorem dX0_find_33 : decode cX0_find 33 = .ok (.if_icmp .eq 7, 3) := by decide +kernel
theorem dX0_find_36 : decode cX0_find 36 = .ok (.iconst 1, 1) := by decide +kernel
theorem dX0_find_37 : decode cX0_find 37 = .ok (.goto 4, 3) := by decide +kernel
theorem dX0_find_40 : decode cX0_find 40 = .ok (.iconst 0, 1) := by decide +kernel
theorem dX0_find_41 : decode cX0_find 41 = .ok (.putfield 19, 3) := by decide +kernel
theorem dX0_find_44 : decode cX0_find 44 = .ok (.aload_n 0, 1) := by decide +kernel
theorem dX0_find_45 : decode cX0_find 45 = .ok (.getfield 19, 3) := by decide +kernel
theorem dX0_find_48 : decode cX0_find 48 = .ok (.ifCond .eq 16, 3) := by decide +kernel
theorem dX0_find_51 : decode cX0_find 51 = .ok (.aload_n 0, 1) := by decide +kernel
theorem dX0_find_52 : decode cX0_find 52 = .ok (.aload_n 0, 1) := by decide +kernel
theorem dX0_find_53 : decode cX0_find 53 = .ok (.getfield 26, 3) := by decide +kernel
theorem dX0_find_56 : decode cX0_find 56 = .ok (.invokevirtual 34, 3) := by decide +kernel
theorem dX0_find_59 : decode cX0_find 59 = .ok (.iload_n 1, 1) := by decide +kernel
theorem dX0_find_60 : decode cX0_find 60 = .ok (.iload_n 2, 1) := by decide +kernel
theorem dX0_find_61 : decode cX0_find 61 = .ok (.invokevirtual 46, 3) := by decide +kernel
theorem dX0_find_64 : decode cX0_find 64 = .ok (.aload_n 0, 1) := by decide +kernel
theorem dX0_find_65 : decode cX0_find 65 = .ok (.iconst 1, 1) := by decide +kernel
theorem dX0_find_66 : decode cX0_find 66 = .ok (.putfield 23, 3) := by decide +kernel
theorem dX0_find_69 : decode cX0_find 69 = .ok (.return_, 1) := by decide +kernel
theorem dX0_exists_0 : decode cX0_exists 0 = .ok (.aload_n 0, 1) := by decide +kernel
theorem dX0_exists_1 : decode cX0_exists 1 = .ok (.getfield 19, 3) := by decide +kernel
theorem dX0_exists_4 : decode cX0_exists 4 = .ok (.ireturn, 1) := by decide +kernel
theorem dX0_length_0 : decode cX0_length 0 = .ok (.aload_n 0, 1) := by decide +kernel
theorem dX0_length_1 : decode cX0_length 1 = .ok (.getfield 15, 3) := by decide +kernel
theorem dX0_length_4 : decode cX0_length 4 = .ok (.ireturn, 1) := by decide +kernel
theorem dX0_at_0 : decode cX0_at 0 = .ok (.iload_n 1, 1) := by decide +kernel
theorem dX0_at_1 : decode cX0_at 1 = .ok (.ifCond .lt 27, 3) := by decide +kernel
theorem dX0_at_4 : decode cX0_at 4 = .ok (.iload_n 1, 1) := by decide +kernel
theorem dX0_at_5 : decode cX0_at 5 = .ok (.aload_n 0, 1) := by decide +kernel
theorem dX0_at_6 : decode cX0_at 6 = .ok (.getfield 15, 3) := by decide +kernel
theorem dX0_at_9 : decode cX0_at 9 = .ok (.if_icmp .ge 19, 3) := by decide +kernel
theorem dX0_at_12 : decode cX0_at 12 = .ok (.iload_n 1, 1) := by decide +kernel
theorem dX0_at_13 : decode cX0_at 13 = .ok (.sipush 1024, 3) := by decide +kernel
theorem dX0_at_16 : decode cX0_at 16 = .ok (.if_icmp .ge 12, 3) := by decide +kernel
theorem dX0_at_19 : decode cX0_at 19 = .ok (.aload_n 0, 1) := by decide +kernel
theorem dX0_at_20 : decode cX0_at 20 = .ok (.getfield 11, 3) := by decide +kernel
theorem dX0_at_23 : decode cX0_at 23 = .ok (.iload_n 1, 1) := by decide +kernel
theorem dX0_at_24 : decode cX0_at 24 = .ok (.iaload, 1) := by decide +kernel
theorem dX0_at_25 : decode cX0_at 25 = .ok (.goto 5, 3) := by decide +kernel
theorem dX0_at_28 : decode cX0_at 28 = .ok (.bipush (-6), 2) := by decide +kernel
theorem dX0_at_30 : decode cX0_at 30 = .ok (.ireturn, 1) := by decide +kernel
theorem dX0_usesOf_0 : decode cX0_usesOf 0 = .ok (.iload_n 1, 1) := by decide +kernel
theorem dX0_usesOf_1 : decode cX0_usesOf 1 = .ok (.iconst 0, 1) := by decide +kernel
theorem dX0_usesOf_2 : decode cX0_usesOf 2 = .ok (.invokestatic 50, 3) := by decide +kernel
theorem dX0_usesOf_5 : decode cX0_usesOf 5 = .ok (.istore_n 2, 1) := by decide +kernel
theorem dX0_usesOf_6 : decode cX0_usesOf 6 = .ok (.iconst 0, 1) := by decide +kernel
theorem dX0_usesOf_7 : decode cX0_usesOf 7 = .ok (.istore_n 3, 1) := by decide +kernel
theorem dX0_usesOf_8 : decode cX0_usesOf 8 = .ok (.iconst 0, 1) := by decide +kernel
theorem dX0_usesOf_9 : decode cX0_usesOf 9 = .ok (.istore 4, 2) := by decide +kernel
theorem dX0_usesOf_11 : decode cX0_usesOf 11 = .ok (.iload 4, 2) := by decide +kernel
theorem dX0_usesOf_13 : decode cX0_usesOf 13 = .ok (.aload_n 0, 1) := by decide +kernel
theorem dX0_usesOf_14 : decode cX0_usesOf 14 = .ok (.getfield 15, 3) := by decide +kernel
theorem dX0_usesOf_17 : decode cX0_usesOf 17 = .ok (.if_icmp .ge 34, 3) := by decide +kernel
theorem dX0_usesOf_20 : decode cX0_usesOf 20 = .ok (.aload_n 0, 1) := by decide +kernel
theorem dX0_usesOf_21 : decode cX0_usesOf 21 = .ok (.iload 4, 2) := by decide +kernel
theorem dX0_usesOf_23 : decode cX0_usesOf 23 = .ok (.invokevirtual 53, 3) := by decide +kernel
theorem dX0_usesOf_26 : decode cX0_usesOf 26 = .ok (.iload_n 2, 1) := by decide +kernel
theorem dX0_usesOf_27 : decode cX0_usesOf 27 = .ok (.if_icmp .lt 18, 3) := by decide +kernel
theorem dX0_usesOf_30 : decode cX0_usesOf 30 = .ok (.aload_n 0, 1) := by decide +kernel
theorem dX0_usesOf_31 : decode cX0_usesOf 31 = .ok (.iload 4, 2) := by decide +kernel
theorem dX0_usesOf_33 : decode cX0_usesOf 33 = .ok (.invokevirtual 53, 3) := by decide +kernel
theorem dX0_usesOf_36 : decode cX0_usesOf 36 = .ok (.iload_n 2, 1) := by decide +kernel
theorem dX0_usesOf_37 : decode cX0_usesOf 37 = .ok (.iconst 3, 1) := by decide +kernel
theorem dX0_usesOf_38 : decode cX0_usesOf 38 = .ok (.iadd, 1) := by decide +kernel
theorem dX0_usesOf_39 : decode cX0_usesOf 39 = .ok (.if_icmp .ge 6, 3) := by decide +kernel
theorem dX0_usesOf_42 : decode cX0_usesOf 42 = .ok (.iinc 3 1, 3) := by decide +kernel
theorem dX0_usesOf_45 : decode cX0_usesOf 45 = .ok (.iinc 4 1, 3) := by decide +kernel
theorem dX0_usesOf_48 : decode cX0_usesOf 48 = .ok (.goto (-37), 3) := by decide +kernel
theorem dX0_usesOf_51 : decode cX0_usesOf 51 = .ok (.iload_n 3, 1) := by decide +kernel
theorem dX0_usesOf_52 : decode cX0_usesOf 52 = .ok (.ireturn, 1) := by decide +kernel
theorem dX0_write_0 : decode cX0_write 0 = .ok (.iload_n 3, 1) := by decide +kernel
theorem dX0_write_1 : decode cX0_write 1 = .ok (.ifCond .gt 4, 3) := by decide +kernel
theorem dX0_write_4 : decode cX0_write 4 = .ok (.return_, 1) := by decide +kernel
theorem dX0_write_5 : decode cX0_write 5 = .ok (.aload_n 0, 1) := by decide +kernel
theorem dX0_write_6 : decode cX0_write 6 = .ok (.getfield 26, 3) := by decide +kernel
theorem dX0_write_9 : decode cX0_write 9 = .ok (.iload_n 1, 1) := by decide +kernel
theorem dX0_write_10 : decode cX0_write 10 = .ok (.invokevirtual 57, 3) := by decide +kernel
theorem dX0_write_13 : decode cX0_write 13 = .ok (.istore 4, 2) := by decide +kernel
theorem dX0_write_15 : decode cX0_write 15 = .ok (.aload_n 0, 1) := by decide +kernel
theorem dX0_write_16 : decode cX0_write 16 = .ok (.getfield 26, 3) := by decide +kernel
theorem dX0_write_19 : decode cX0_write 19 = .ok (.iload_n 1, 1) := by decide +kernel
theorem dX0_write_20 : decode cX0_write 20 = .ok (.invokevirtual 60, 3) := by decide +kernel
theorem dX0_write_23 : decode cX0_write 23 = .ok (.istore 5, 2) := by decide +kernel
theorem dX0_write_25 : decode cX0_write 25 = .ok (.aload_n 0, 1) := by decide +kernel
theorem dX0_write_26 : decode cX0_write 26 = .ok (.getfield 26, 3) := by decide +kernel
theorem dX0_write_29 : decode cX0_write 29 = .ok (.iload_n 1, 1) := by decide +kernel
theorem dX0_write_30 : decode cX0_write 30 = .ok (.invokevirtual 63, 3) := by decide +kernel
theorem dX0_write_33 : decode cX0_write 33 = .ok (.istore 6, 2) := by decide +kernel
theorem dX0_write_35 : decode cX0_write 35 = .ok (.iload 6, 2) := by decide +kernel
theorem dX0_write_37 : decode cX0_write 37 = .ok (.lookupswitch 154 #[(33, 70), (38, 96), (42, 83), (43, 119), (49, 67), (84, 67), (91, 132)], 67) := by decide +kernel
theorem dX0_write_104 : decode cX0_write 104 = .ok (.goto 95, 3) := by decide +kernel
theorem dX0_write_107 : decode cX0_write 107 = .ok (.aload_n 0, 1) := by decide +kernel
theorem dX0_write_108 : decode cX0_write 108 = .ok (.iload 4, 2) := by decide +kernel
theorem dX0_write_110 : decode cX0_write 110 = .ok (.iload_n 2, 1) := by decide +kernel
theorem dX0_write_111 : decode cX0_write 111 = .ok (.iload_n 3, 1) := by decide +kernel
theorem dX0_write_112 : decode cX0_write 112 = .ok (.iconst 1, 1) := by decide +kernel
theorem dX0_write_113 : decode cX0_write 113 = .ok (.isub, 1) := by decide +kernel
theorem dX0_write_114 : decode cX0_write 114 = .ok (.invokevirtual 46, 3) := by decide +kernel
theorem dX0_write_117 : decode cX0_write 117 = .ok (.goto 82, 3) := by decide +kernel
theorem dX0_write_120 : decode cX0_write 120 = .ok (.aload_n 0, 1) := by decide +kernel
theorem dX0_write_121 : decode cX0_write 121 = .ok (.iload 4, 2) := by decide +kernel
theorem dX0_write_123 : decode cX0_write 123 = .ok (.iload 5, 2) := by decide +kernel
theorem dX0_write_125 : decode cX0_write 125 = .ok (.iload_n 2, 1) := by decide +kernel
theorem dX0_write_126 : decode cX0_write 126 = .ok (.iload_n 3, 1) := by decide +kernel
theorem dX0_write_127 : decode cX0_write 127 = .ok (.invokevirtual 67, 3) := by decide +kernel
theorem dX0_write_130 : decode cX0_write 130 = .ok (.goto 69, 3) := by decide +kernel
theorem dX0_write_133 : decode cX0_write 133 = .ok (.aload_n 0, 1) := by decide +kernel
theorem dX0_write_134 : decode cX0_write 134 = .ok (.iload 4, 2) := by decide +kernel
theorem dX0_write_136 : decode cX0_write 136 = .ok (.iload_n 2, 1) := by decide +kernel
theorem dX0_write_137 : decode cX0_write 137 = .ok (.iload_n 3, 1) := by decide +kernel
theorem dX0_write_138 : decode cX0_write 138 = .ok (.iconst 1, 1) := by decide +kernel
theorem dX0_write_139 : decode cX0_write 139 = .ok (.isub, 1) := by decide +kernel
theorem dX0_write_140 : decode cX0_write 140 = .ok (.invokevirtual 46, 3) := by decide +kernel
theorem dX0_write_143 : decode cX0_write 143 = .ok (.aload_n 0, 1) := by decide +kernel
theorem dX0_write_144 : decode cX0_write 144 = .ok (.iload 5, 2) := by decide +kernel
theorem dX0_write_146 : decode cX0_write 146 = .ok (.iload_n 2, 1) := by decide +kernel
theorem dX0_write_147 : decode cX0_write 147 = .ok (.iload_n 3, 1) := by decide +kernel
theorem dX0_write_148 : decode cX0_write 148 = .ok (.iconst 1, 1) := by decide +kernel
theorem dX0_write_149 : decode cX0_write 149 = .ok (.isub, 1) := by decide +kernel
theorem dX0_write_150 : decode cX0_write 150 = .ok (.invokevirtual 46, 3) := by decide +kernel
theorem dX0_write_153 : decode cX0_write 153 = .ok (.goto 46, 3) := by decide +kernel
theorem dX0_write_156 : decode cX0_write 156 = .ok (.aload_n 0, 1) := by decide +kernel
theorem dX0_write_157 : decode cX0_write 157 = .ok (.iload 4, 2) := by decide +kernel
theorem dX0_write_159 : decode cX0_write 159 = .ok (.iload 5, 2) := by decide +kernel
theorem dX0_write_161 : decode cX0_write 161 = .ok (.iload_n 2, 1) := by decide +kernel
theorem dX0_write_162 : decode cX0_write 162 = .ok (.iload_n 3, 1) := by decide +kernel
theorem dX0_write_163 : decode cX0_write 163 = .ok (.invokevirtual 71, 3) := by decide +kernel
theorem dX0_write_166 : decode cX0_write 166 = .ok (.goto 33, 3) := by decide +kernel
theorem dX0_write_169 : decode cX0_write 169 = .ok (.aload_n 0, 1) := by decide +kernel
theorem dX0_write_170 : decode cX0_write 170 = .ok (.iload 4, 2) := by decide +kernel
theorem dX0_write_172 : decode cX0_write 172 = .ok (.iload_n 2, 1) := by decide +kernel
theorem dX0_write_173 : decode cX0_write 173 = .ok (.aload_n 0, 1) := by decide +kernel
theorem dX0_write_174 : decode cX0_write 174 = .ok (.getfield 26, 3) := by decide +kernel
theorem dX0_write_177 : decode cX0_write 177 = .ok (.iload_n 1, 1) := by decide +kernel
theorem dX0_write_178 : decode cX0_write 178 = .ok (.invokevirtual 74, 3) := by decide +kernel
theorem dX0_write_181 : decode cX0_write 181 = .ok (.ior, 1) := by decide +kernel
theorem dX0_write_182 : decode cX0_write 182 = .ok (.iload_n 3, 1) := by decide +kernel
theorem dX0_write_183 : decode cX0_write 183 = .ok (.iconst 1, 1) := by decide +kernel
theorem dX0_write_184 : decode cX0_write 184 = .ok (.isub, 1) := by decide +kernel
theorem dX0_write_185 : decode cX0_write 185 = .ok (.invokevirtual 46, 3) := by decide +kernel
theorem dX0_write_188 : decode cX0_write 188 = .ok (.goto 11, 3) := by decide +kernel
theorem dX0_write_191 : decode cX0_write 191 = .ok (.aload_n 0, 1) := by decide +kernel
theorem dX0_write_192 : decode cX0_write 192 = .ok (.iload 6, 2) := by decide +kernel
theorem dX0_write_194 : decode cX0_write 194 = .ok (.iload_n 2, 1) := by decide +kernel
theorem dX0_write_195 : decode cX0_write 195 = .ok (.iload_n 3, 1) := by decide +kernel
theorem dX0_write_196 : decode cX0_write 196 = .ok (.invokevirtual 77, 3) := by decide +kernel
theorem dX0_write_199 : decode cX0_write 199 = .ok (.return_, 1) := by decide +kernel
theorem dX0_writeSplit_0 : decode cX0_writeSplit 0 = .ok (.iconst 0, 1) := by decide +kernel
theorem dX0_writeSplit_1 : decode cX0_writeSplit 1 = .ok (.istore 5, 2) := by decide +kernel
theorem dX0_writeSplit_3 : decode cX0_writeSplit 3 = .ok (.iload_n 3, 1) := by decide +kernel
theorem dX0_writeSplit_4 : decode cX0_writeSplit 4 = .ok (.invokestatic 81, 3) := by decide +kernel
theorem dX0_writeSplit_7 : decode cX0_writeSplit 7 = .ok (.istore 6, 2) := by decide +kernel
theorem dX0_writeSplit_9 : decode cX0_writeSplit 9 = .ok (.iload 6, 2) := by decide +kernel
theorem dX0_writeSplit_11 : decode cX0_writeSplit 11 = .ok (.ifCond .le 88, 3) := by decide +kernel
theorem dX0_writeSplit_14 : decode cX0_writeSplit 14 = .ok (.aload_n 0, 1) := by decide +kernel
theorem dX0_writeSplit_15 : decode cX0_writeSplit 15 = .ok (.getfield 30, 3) := by decide +kernel
theorem dX0_writeSplit_18 : decode cX0_writeSplit 18 = .ok (.iload_n 1, 1) := by decide +kernel
theorem dX0_writeSplit_19 : decode cX0_writeSplit 19 = .ok (.iload 5, 2) := by decide +kernel
theorem dX0_writeSplit_21 : decode cX0_writeSplit 21 = .ok (.iload 4, 2) := by decide +kernel
theorem dX0_writeSplit_23 : decode cX0_writeSplit 23 = .ok (.iconst 1, 1) := by decide +kernel
theorem dX0_writeSplit_24 : decode cX0_writeSplit 24 = .ok (.isub, 1) := by decide +kernel
theorem dX0_writeSplit_25 : decode cX0_writeSplit 25 = .ok (.invokevirtual 84, 3) := by decide +kernel
theorem dX0_writeSplit_28 : decode cX0_writeSplit 28 = .ok (.ifCond .eq 57, 3) := by decide +kernel
theorem dX0_writeSplit_31 : decode cX0_writeSplit 31 = .ok (.aload_n 0, 1) := by decide +kernel
theorem dX0_writeSplit_32 : decode cX0_writeSplit 32 = .ok (.getfield 30, 3) := by decide +kernel
theorem dX0_writeSplit_35 : decode cX0_writeSplit 35 = .ok (.iload_n 2, 1) := by decide +kernel
theorem dX0_writeSplit_36 : decode cX0_writeSplit 36 = .ok (.iload_n 3, 1) := by decide +kernel
theorem dX0_writeSplit_37 : decode cX0_writeSplit 37 = .ok (.iload 5, 2) := by decide +kernel
theorem dX0_writeSplit_39 : decode cX0_writeSplit 39 = .ok (.ixor, 1) := by decide +kernel
theorem dX0_writeSplit_40 : decode cX0_writeSplit 40 = .ok (.iload 4, 2) := by decide +kernel
theorem dX0_writeSplit_42 : decode cX0_writeSplit 42 = .ok (.iconst 1, 1) := by decide +kernel
theorem dX0_writeSplit_43 : decode cX0_writeSplit 43 = .ok (.isub, 1) := by decide +kernel
theorem dX0_writeSplit_44 : decode cX0_writeSplit 44 = .ok (.invokevirtual 84, 3) := by decide +kernel
theorem dX0_writeSplit_47 : decode cX0_writeSplit 47 = .ok (.ifCond .eq 38, 3) := by decide +kernel
theorem dX0_writeSplit_50 : decode cX0_writeSplit 50 = .ok (.aload_n 0, 1) := by decide +kernel
theorem dX0_writeSplit_51 : decode cX0_writeSplit 51 = .ok (.sipush 200, 3) := by decide +kernel
theorem dX0_writeSplit_54 : decode cX0_writeSplit 54 = .ok (.iload 5, 2) := by decide +kernel
theorem dX0_writeSplit_56 : decode cX0_writeSplit 56 = .ok (.iadd, 1) := by decide +kernel
theorem dX0_writeSplit_57 : decode cX0_writeSplit 57 = .ok (.invokevirtual 88, 3) := by decide +kernel
theorem dX0_writeSplit_60 : decode cX0_writeSplit 60 = .ok (.aload_n 0, 1) := by decide +kernel
theorem dX0_writeSplit_61 : decode cX0_writeSplit 61 = .ok (.iload_n 1, 1) := by decide +kernel
theorem dX0_writeSplit_62 : decode cX0_writeSplit 62 = .ok (.iload 5, 2) := by decide +kernel
theorem dX0_writeSplit_64 : decode cX0_writeSplit 64 = .ok (.iload 4, 2) := by decide +kernel
theorem dX0_writeSplit_66 : decode cX0_writeSplit 66 = .ok (.iconst 1, 1) := by decide +kernel
theorem dX0_writeSplit_67 : decode cX0_writeSplit 67 = .ok (.isub, 1) := by decide +kernel
theorem dX0_writeSplit_68 : decode cX0_writeSplit 68 = .ok (.invokevirtual 46, 3) := by decide +kernel
theorem dX0_writeSplit_71 : decode cX0_writeSplit 71 = .ok (.aload_n 0, 1) := by decide +kernel
theorem dX0_writeSplit_72 : decode cX0_writeSplit 72 = .ok (.iload_n 2, 1) := by decide +kernel
theorem dX0_writeSplit_73 : decode cX0_writeSplit 73 = .ok (.iload_n 3, 1) := by decide +kernel
theorem dX0_writeSplit_74 : decode cX0_writeSplit 74 = .ok (.iload 5, 2) := by decide +kernel
theorem dX0_writeSplit_76 : decode cX0_writeSplit 76 = .ok (.ixor, 1) := by decide +kernel
theorem dX0_writeSplit_77 : decode cX0_writeSplit 77 = .ok (.iload 4, 2) := by decide +kernel
theorem dX0_writeSplit_79 : decode cX0_writeSplit 79 = .ok (.iconst 1, 1) := by decide +kernel
theorem dX0_writeSplit_80 : decode cX0_writeSplit 80 = .ok (.isub, 1) := by decide +kernel
theorem dX0_writeSplit_81 : decode cX0_writeSplit 81 = .ok (.invokevirtual 46, 3) := by decide +kernel
theorem dX0_writeSplit_84 : decode cX0_writeSplit 84 = .ok (.return_, 1) := by decide +kernel
theorem dX0_writeSplit_85 : decode cX0_writeSplit 85 = .ok (.iload 5, 2) := by decide +kernel
theorem dX0_writeSplit_87 : decode cX0_writeSplit 87 = .ok (.iload_n 3, 1) := by decide +kernel
theorem dX0_writeSplit_88 : decode cX0_writeSplit 88 = .ok (.invokestatic 92, 3) := by decide +kernel
theorem dX0_writeSplit_91 : decode cX0_writeSplit 91 = .ok (.istore 5, 2) := by decide +kernel
theorem dX0_writeSplit_93 : decode cX0_writeSplit 93 = .ok (.iinc 6 (-1), 3) := by decide +kernel
theorem dX0_writeSplit_96 : decode cX0_writeSplit 96 = .ok (.goto (-87), 3) := by decide +kernel
theorem dX0_writeSplit_99 : decode cX0_writeSplit 99 = .ok (.return_, 1) := by decide +kernel
theorem dX0_writeChoice_0 : decode cX0_writeChoice 0 = .ok (.aload_n 0, 1) := by decide +kernel
theorem dX0_writeChoice_1 : decode cX0_writeChoice 1 = .ok (.getfield 30, 3) := by decide +kernel
theorem dX0_writeChoice_4 : decode cX0_writeChoice 4 = .ok (.iload_n 1, 1) := by decide +kernel
theorem dX0_writeChoice_5 : decode cX0_writeChoice 5 = .ok (.iload_n 3, 1) := by decide +kernel
theorem dX0_writeChoice_6 : decode cX0_writeChoice 6 = .ok (.iload 4, 2) := by decide +kernel
theorem dX0_writeChoice_8 : decode cX0_writeChoice 8 = .ok (.iconst 1, 1) := by decide +kernel
theorem dX0_writeChoice_9 : decode cX0_writeChoice 9 = .ok (.isub, 1) := by decide +kernel
theorem dX0_writeChoice_10 : decode cX0_writeChoice 10 = .ok (.invokevirtual 84, 3) := by decide +kernel
theorem dX0_writeChoice_13 : decode cX0_writeChoice 13 = .ok (.ifCond .eq 23, 3) := by decide +kernel
theorem dX0_writeChoice_16 : decode cX0_writeChoice 16 = .ok (.aload_n 0, 1) := by decide +kernel
theorem dX0_writeChoice_17 : decode cX0_writeChoice 17 = .ok (.sipush 300, 3) := by decide +kernel
theorem dX0_writeChoice_20 : decode cX0_writeChoice 20 = .ok (.invokevirtual 88, 3) := by decide +kernel
theorem dX0_writeChoice_23 : decode cX0_writeChoice 23 = .ok (.aload_n 0, 1) := by decide +kernel
theorem dX0_writeChoice_24 : decode cX0_writeChoice 24 = .ok (.iload_n 1, 1) := by decide +kernel
theorem dX0_writeChoice_25 : decode cX0_writeChoice 25 = .ok (.iload_n 3, 1) := by decide +kernel
theorem dX0_writeChoice_26 : decode cX0_writeChoice 26 = .ok (.iload 4, 2) := by decide +kernel
theorem dX0_writeChoice_28 : decode cX0_writeChoice 28 = .ok (.iconst 1, 1) := by decide +kernel
theorem dX0_writeChoice_29 : decode cX0_writeChoice 29 = .ok (.isub, 1) := by decide +kernel
theorem dX0_writeChoice_30 : decode cX0_writeChoice 30 = .ok (.invokevirtual 46, 3) := by decide +kernel
theorem dX0_writeChoice_33 : decode cX0_writeChoice 33 = .ok (.goto 20, 3) := by decide +kernel
theorem dX0_writeChoice_36 : decode cX0_writeChoice 36 = .ok (.aload_n 0, 1) := by decide +kernel
theorem dX0_writeChoice_37 : decode cX0_writeChoice 37 = .ok (.sipush 301, 3) := by decide +kernel
theorem dX0_writeChoice_40 : decode cX0_writeChoice 40 = .ok (.invokevirtual 88, 3) := by decide +kernel
theorem dX0_writeChoice_43 : decode cX0_writeChoice 43 = .ok (.aload_n 0, 1) := by decide +kernel
theorem dX0_writeChoice_44 : decode cX0_writeChoice 44 = .ok (.iload_n 2, 1) := by decide +kernel
theorem dX0_writeChoice_45 : decode cX0_writeChoice 45 = .ok (.iload_n 3, 1) := by decide +kernel
theorem dX0_writeChoice_46 : decode cX0_writeChoice 46 = .ok (.iload 4, 2) := by decide +kernel
theorem dX0_writeChoice_48 : decode cX0_writeChoice 48 = .ok (.iconst 1, 1) := by decide +kernel
theorem dX0_writeChoice_49 : decode cX0_writeChoice 49 = .ok (.isub, 1) := by decide +kernel
theorem dX0_writeChoice_50 : decode cX0_writeChoice 50 = .ok (.invokevirtual 46, 3) := by decide +kernel
theorem dX0_writeChoice_53 : decode cX0_writeChoice 53 = .ok (.return_, 1) := by decide +kernel
theorem dX0_writeAtom_0 : decode cX0_writeAtom 0 = .ok (.iconst 0, 1) := by decide +kernel
theorem dX0_writeAtom_1 : decode cX0_writeAtom 1 = .ok (.istore 4, 2) := by decide +kernel
theorem dX0_writeAtom_3 : decode cX0_writeAtom 3 = .ok (.iload 4, 2) := by decide +kernel
theorem dX0_writeAtom_5 : decode cX0_writeAtom 5 = .ok (.bipush 12, 2) := by decide +kernel
theorem dX0_writeAtom_7 : decode cX0_writeAtom 7 = .ok (.if_icmp .ge 107, 3) := by decide +kernel
theorem dX0_writeAtom_10 : decode cX0_writeAtom 10 = .ok (.iload 4, 2) := by decide +kernel
theorem dX0_writeAtom_12 : decode cX0_writeAtom 12 = .ok (.iload_n 2, 1) := by decide +kernel
theorem dX0_writeAtom_13 : decode cX0_writeAtom 13 = .ok (.invokestatic 95, 3) := by decide +kernel
theorem dX0_writeAtom_16 : decode cX0_writeAtom 16 = .ok (.istore 5, 2) := by decide +kernel
theorem dX0_writeAtom_18 : decode cX0_writeAtom 18 = .ok (.iconst 0, 1) := by decide +kernel
theorem dX0_writeAtom_19 : decode cX0_writeAtom 19 = .ok (.istore 6, 2) := by decide +kernel
theorem dX0_writeAtom_21 : decode cX0_writeAtom 21 = .ok (.iload 6, 2) := by decide +kernel
theorem dX0_writeAtom_23 : decode cX0_writeAtom 23 = .ok (.iconst 3, 1) := by decide +kernel
theorem dX0_writeAtom_24 : decode cX0_writeAtom 24 = .ok (.if_icmp .ge 84, 3) := by decide +kernel
theorem dX0_writeAtom_27 : decode cX0_writeAtom 27 = .ok (.iload 5, 2) := by decide +kernel
theorem dX0_writeAtom_29 : decode cX0_writeAtom 29 = .ok (.iconst (-1), 1) := by decide +kernel
theorem dX0_writeAtom_30 : decode cX0_writeAtom 30 = .ok (.if_icmp .eq 78, 3) := by decide +kernel
theorem dX0_writeAtom_33 : decode cX0_writeAtom 33 = .ok (.aload_n 0, 1) := by decide +kernel
theorem dX0_writeAtom_34 : decode cX0_writeAtom 34 = .ok (.getfield 26, 3) := by decide +kernel
theorem dX0_writeAtom_37 : decode cX0_writeAtom 37 = .ok (.iload 4, 2) := by decide +kernel
theorem dX0_writeAtom_39 : decode cX0_writeAtom 39 = .ok (.iload 6, 2) := by decide +kernel
theorem dX0_writeAtom_41 : decode cX0_writeAtom 41 = .ok (.invokevirtual 98, 3) := by decide +kernel
theorem dX0_writeAtom_44 : decode cX0_writeAtom 44 = .ok (.istore 7, 2) := by decide +kernel
theorem dX0_writeAtom_46 : decode cX0_writeAtom 46 = .ok (.aload_n 0, 1) := by decide +kernel
theorem dX0_writeAtom_47 : decode cX0_writeAtom 47 = .ok (.getfield 26, 3) := by decide +kernel
theorem dX0_writeAtom_50 : decode cX0_writeAtom 50 = .ok (.iload 4, 2) := by decide +kernel
theorem dX0_writeAtom_52 : decode cX0_writeAtom 52 = .ok (.iload 6, 2) := by decide +kernel
theorem dX0_writeAtom_54 : decode cX0_writeAtom 54 = .ok (.iload_n 1, 1) := by decide +kernel
theorem dX0_writeAtom_55 : decode cX0_writeAtom 55 = .ok (.invokevirtual 101, 3) := by decide +kernel
theorem dX0_writeAtom_58 : decode cX0_writeAtom 58 = .ok (.ifCond .eq 44, 3) := by decide +kernel
theorem dX0_writeAtom_61 : decode cX0_writeAtom 61 = .ok (.aload_n 0, 1) := by decide +kernel
theorem dX0_writeAtom_62 : decode cX0_writeAtom 62 = .ok (.iload 7, 2) := by decide +kernel
theorem dX0_writeAtom_64 : decode cX0_writeAtom 64 = .ok (.iload 5, 2) := by decide +kernel
theorem dX0_writeAtom_66 : decode cX0_writeAtom 66 = .ok (.iload_n 3, 1) := by decide +kernel
theorem dX0_writeAtom_67 : decode cX0_writeAtom 67 = .ok (.invokevirtual 105, 3) := by decide +kernel
theorem dX0_writeAtom_70 : decode cX0_writeAtom 70 = .ok (.ifCond .eq 32, 3) := by decide +kernel
theorem dX0_writeAtom_73 : decode cX0_writeAtom 73 = .ok (.aload_n 0, 1) := by decide +kernel
theorem dX0_writeAtom_74 : decode cX0_writeAtom 74 = .ok (.iload 4, 2) := by decide +kernel
theorem dX0_writeAtom_76 : decode cX0_writeAtom 76 = .ok (.iload 6, 2) := by decide +kernel
theorem dX0_writeAtom_78 : decode cX0_writeAtom 78 = .ok (.invokestatic 50, 3) := by decide +kernel
theorem dX0_writeAtom_81 : decode cX0_writeAtom 81 = .ok (.invokevirtual 88, 3) := by decide +kernel
theorem dX0_writeAtom_84 : decode cX0_writeAtom 84 = .ok (.iload 7, 2) := by decide +kernel
theorem dX0_writeAtom_86 : decode cX0_writeAtom 86 = .ok (.iconst (-1), 1) := by decide +kernel
theorem dX0_writeAtom_87 : decode cX0_writeAtom 87 = .ok (.if_icmp .eq 14, 3) := by decide +kernel
theorem dX0_writeAtom_90 : decode cX0_writeAtom 90 = .ok (.aload_n 0, 1) := by decide +kernel
theorem dX0_writeAtom_91 : decode cX0_writeAtom 91 = .ok (.iload 7, 2) := by decide +kernel
theorem dX0_writeAtom_93 : decode cX0_writeAtom 93 = .ok (.iload 5, 2) := by decide +kernel
theorem dX0_writeAtom_95 : decode cX0_writeAtom 95 = .ok (.iload_n 3, 1) := by decide +kernel
theorem dX0_writeAtom_96 : decode cX0_writeAtom 96 = .ok (.iconst 1, 1) := by decide +kernel
theorem dX0_writeAtom_97 : decode cX0_writeAtom 97 = .ok (.isub, 1) := by decide +kernel
theorem dX0_writeAtom_98 : decode cX0_writeAtom 98 = .ok (.invokevirtual 46, 3) := by decide +kernel
theorem dX0_writeAtom_101 : decode cX0_writeAtom 101 = .ok (.return_, 1) := by decide +kernel
theorem dX0_writeAtom_102 : decode cX0_writeAtom 102 = .ok (.iinc 6 1, 3) := by decide +kernel
theorem dX0_writeAtom_105 : decode cX0_writeAtom 105 = .ok (.goto (-84), 3) := by decide +kernel
theorem dX0_writeAtom_108 : decode cX0_writeAtom 108 = .ok (.iinc 4 1, 3) := by decide +kernel
theorem dX0_writeAtom_111 : decode cX0_writeAtom 111 = .ok (.goto (-108), 3) := by decide +kernel
theorem dX0_writeAtom_114 : decode cX0_writeAtom 114 = .ok (.return_, 1) := by decide +kernel
theorem dX0_serves_0 : decode cX0_serves 0 = .ok (.iload_n 1, 1) := by decide +kernel
theorem dX0_serves_1 : decode cX0_serves 1 = .ok (.iconst (-1), 1) := by decide +kernel
theorem dX0_serves_2 : decode cX0_serves 2 = .ok (.if_icmp .ne 15, 3) := by decide +kernel
theorem dX0_serves_5 : decode cX0_serves 5 = .ok (.iload_n 2, 1) := by decide +kernel
theorem dX0_serves_6 : decode cX0_serves 6 = .ok (.ifCond .ne 7, 3) := by decide +kernel
theorem dX0_serves_9 : decode cX0_serves 9 = .ok (.iconst 1, 1) := by decide +kernel
theorem dX0_serves_10 : decode cX0_serves 10 = .ok (.goto 19, 3) := by decide +kernel
theorem dX0_serves_13 : decode cX0_serves 13 = .ok (.iconst 0, 1) := by decide +kernel
theorem dX0_serves_14 : decode cX0_serves 14 = .ok (.goto 15, 3) := by decide +kernel
theorem dX0_serves_17 : decode cX0_serves 17 = .ok (.aload_n 0, 1) := by decide +kernel
theorem dX0_serves_18 : decode cX0_serves 18 = .ok (.getfield 30, 3) := by decide +kernel
theorem dX0_serves_21 : decode cX0_serves 21 = .ok (.iload_n 1, 1) := by decide +kernel
theorem dX0_serves_22 : decode cX0_serves 22 = .ok (.iload_n 2, 1) := by decide +kernel
theorem dX0_serves_23 : decode cX0_serves 23 = .ok (.iload_n 3, 1) := by decide +kernel
theorem dX0_serves_24 : decode cX0_serves 24 = .ok (.iconst 1, 1) := by decide +kernel
theorem dX0_serves_25 : decode cX0_serves 25 = .ok (.isub, 1) := by decide +kernel
theorem dX0_serves_26 : decode cX0_serves 26 = .ok (.invokevirtual 84, 3) := by decide +kernel
theorem dX0_serves_29 : decode cX0_serves 29 = .ok (.ireturn, 1) := by decide +kernel
theorem dX0_append_0 : decode cX0_append 0 = .ok (.aload_n 0, 1) := by decide +kernel
theorem dX0_append_1 : decode cX0_append 1 = .ok (.getfield 15, 3) := by decide +kernel
theorem dX0_append_4 : decode cX0_append 4 = .ok (.ifCond .lt 33, 3) := by decide +kernel
theorem dX0_append_7 : decode cX0_append 7 = .ok (.aload_n 0, 1) := by decide +kernel
theorem dX0_append_8 : decode cX0_append 8 = .ok (.getfield 15, 3) := by decide +kernel
theorem dX0_append_11 : decode cX0_append 11 = .ok (.sipush 1024, 3) := by decide +kernel
theorem dX0_append_14 : decode cX0_append 14 = .ok (.if_icmp .ge 23, 3) := by decide +kernel
theorem dX0_append_17 : decode cX0_append 17 = .ok (.aload_n 0, 1) := by decide +kernel
theorem dX0_append_18 : decode cX0_append 18 = .ok (.getfield 11, 3) := by decide +kernel
theorem dX0_append_21 : decode cX0_append 21 = .ok (.aload_n 0, 1) := by decide +kernel
theorem dX0_append_22 : decode cX0_append 22 = .ok (.getfield 15, 3) := by decide +kernel
theorem dX0_append_25 : decode cX0_append 25 = .ok (.iload_n 1, 1) := by decide +kernel
theorem dX0_append_26 : decode cX0_append 26 = .ok (.iastore, 1) := by decide +kernel
theorem dX0_append_27 : decode cX0_append 27 = .ok (.aload_n 0, 1) := by decide +kernel
theorem dX0_append_28 : decode cX0_append 28 = .ok (.dup, 1) := by decide +kernel
theorem dX0_append_29 : decode cX0_append 29 = .ok (.getfield 15, 3) := by decide +kernel
theorem dX0_append_32 : decode cX0_append 32 = .ok (.iconst 1, 1) := by decide +kernel
theorem dX0_append_33 : decode cX0_append 33 = .ok (.iadd, 1) := by decide +kernel
theorem dX0_append_34 : decode cX0_append 34 = .ok (.putfield 15, 3) := by decide +kernel
theorem dX0_append_37 : decode cX0_append 37 = .ok (.return_, 1) := by decide +kernel
theorem dX0_numberOf_0 : decode cX0_numberOf 0 = .ok (.iload_n 0, 1) := by decide +kernel
theorem dX0_numberOf_1 : decode cX0_numberOf 1 = .ok (.bipush 8, 2) := by decide +kernel
theorem dX0_numberOf_3 : decode cX0_numberOf 3 = .ok (.if_icmp .ge 12, 3) := by decide +kernel
theorem dX0_numberOf_6 : decode cX0_numberOf 6 = .ok (.bipush 10, 2) := by decide +kernel
theorem dX0_numberOf_8 : decode cX0_numberOf 8 = .ok (.iload_n 0, 1) := by decide +kernel
theorem dX0_numberOf_9 : decode cX0_numberOf 9 = .ok (.imul, 1) := by decide +kernel
theorem dX0_numberOf_10 : decode cX0_numberOf 10 = .ok (.iload_n 1, 1) := by decide +kernel
theorem dX0_numberOf_11 : decode cX0_numberOf 11 = .ok (.iadd, 1) := by decide +kernel
theorem dX0_numberOf_12 : decode cX0_numberOf 12 = .ok (.goto 15, 3) := by decide +kernel
theorem dX0_numberOf_15 : decode cX0_numberOf 15 = .ok (.bipush 100, 2) := by decide +kernel
theorem dX0_numberOf_17 : decode cX0_numberOf 17 = .ok (.bipush 10, 2) := by decide +kernel
theorem dX0_numberOf_19 : decode cX0_numberOf 19 = .ok (.iload_n 0, 1) := by decide +kernel
theorem dX0_numberOf_20 : decode cX0_numberOf 20 = .ok (.bipush 8, 2) := by decide +kernel
theorem dX0_numberOf_22 : decode cX0_numberOf 22 = .ok (.isub, 1) := by decide +kernel
theorem dX0_numberOf_23 : decode cX0_numberOf 23 = .ok (.imul, 1) := by decide +kernel
theorem dX0_numberOf_24 : decode cX0_numberOf 24 = .ok (.iadd, 1) := by decide +kernel
theorem dX0_numberOf_25 : decode cX0_numberOf 25 = .ok (.iload_n 1, 1) := by decide +kernel
theorem dX0_numberOf_26 : decode cX0_numberOf 26 = .ok (.iadd, 1) := by decide +kernel
theorem dX0_numberOf_27 : decode cX0_numberOf 27 = .ok (.ireturn, 1) := by decide +kernel
theorem dX1_init_0 : decode cX1_init 0 = .ok (.aload_n 0, 1) := by decide +kernel
theorem dX1_init_1 : decode cX1_init 1 = .ok (.invokespecial 1, 3) := by decide +kernel
theorem dX1_init_4 : decode cX1_init 4 = .ok (.aload_n 0, 1) := by decide +kernel
theorem dX1_init_5 : decode cX1_init 5 = .ok (.aload_n 1, 1) := by decide +kernel
theorem dX1_init_6 : decode cX1_init 6 = .ok (.putfield 7, 3) := by decide +kernel
theorem dX1_init_9 : decode cX1_init 9 = .ok (.aload_n 0, 1) := by decide +kernel
theorem dX1_init_10 : decode cX1_init 10 = .ok (.iload_n 2, 1) := by decide +kernel
theorem dX1_init_11 : decode cX1_init 11 = .ok (.putfield 13, 3) := by decide +kernel
theorem dX1_init_14 : decode cX1_init 14 = .ok (.aload_n 0, 1) := by decide +kernel
theorem dX1_init_15 : decode cX1_init 15 = .ok (.iload_n 3, 1) := by decide +kernel
theorem dX1_init_16 : decode cX1_init 16 = .ok (.putfield 17, 3) := by decide +kernel
theorem dX1_init_19 : decode cX1_init 19 = .ok (.return_, 1) := by decide +kernel
theorem dX1_signs_0 : decode cX1_signs 0 = .ok (.aload_n 0, 1) := by decide +kernel
theorem dX1_signs_1 : decode cX1_signs 1 = .ok (.getfield 7, 3) := by decide +kernel
theorem dX1_signs_4 : decode cX1_signs 4 = .ok (.areturn, 1) := by decide +kernel
theorem dX1_nodes_0 : decode cX1_nodes 0 = .ok (.aload_n 0, 1) := by decide +kernel
theorem dX1_nodes_1 : decode cX1_nodes 1 = .ok (.getfield 13, 3) := by decide +kernel
theorem dX1_nodes_4 : decode cX1_nodes 4 = .ok (.ireturn, 1) := by decide +kernel
theorem dX1_loans_0 : decode cX1_loans 0 = .ok (.aload_n 0, 1) := by decide +kernel
theorem dX1_loans_1 : decode cX1_loans 1 = .ok (.getfield 17, 3) := by decide +kernel
theorem dX1_loans_4 : decode cX1_loans 4 = .ok (.ireturn, 1) := by decide +kernel
theorem dX2_init_0 : decode cX2_init 0 = .ok (.aload_n 0, 1) := by decide +kernel
theorem dX2_init_1 : decode cX2_init 1 = .ok (.invokespecial 3, 3) := by decide +kernel
theorem dX2_init_4 : decode cX2_init 4 = .ok (.aload_n 0, 1) := by decide +kernel
theorem dX2_init_5 : decode cX2_init 5 = .ok (.iconst 0, 1) := by decide +kernel
theorem dX2_init_6 : decode cX2_init 6 = .ok (.putfield 11, 3) := by decide +kernel
theorem dX2_init_9 : decode cX2_init 9 = .ok (.aload_n 0, 1) := by decide +kernel
theorem dX2_init_10 : decode cX2_init 10 = .ok (.iconst 0, 1) := by decide +kernel
theorem dX2_init_11 : decode cX2_init 11 = .ok (.putfield 15, 3) := by decide +kernel
theorem dX2_init_14 : decode cX2_init 14 = .ok (.aload_n 0, 1) := by decide +kernel
theorem dX2_init_15 : decode cX2_init 15 = .ok (.iconst 0, 1) := by decide +kernel
theorem dX2_init_16 : decode cX2_init 16 = .ok (.putfield 18, 3) := by decide +kernel
theorem dX2_init_19 : decode cX2_init 19 = .ok (.aload_n 0, 1) := by decide +kernel
theorem dX2_init_20 : decode cX2_init 20 = .ok (.aload_n 1, 1) := by decide +kernel
theorem dX2_init_21 : decode cX2_init 21 = .ok (.putfield 21, 3) := by decide +kernel
theorem dX2_init_24 : decode cX2_init 24 = .ok (.aload_n 0, 1) := by decide +kernel
theorem dX2_init_25 : decode cX2_init 25 = .ok (.aload_n 2, 1) := by decide +kernel
theorem dX2_init_26 : decode cX2_init 26 = .ok (.putfield 25, 3) := by decide +kernel
theorem dX2_init_29 : decode cX2_init 29 = .ok (.return_, 1) := by decide +kernel
theorem dX2_judge_0 : decode cX2_judge 0 = .ok (.aload_n 0, 1) := by decide +kernel
theorem dX2_judge_1 : decode cX2_judge 1 = .ok (.iconst 0, 1) := by decide +kernel
theorem dX2_judge_2 : decode cX2_judge 2 = .ok (.putfield 11, 3) := by decide +kernel
theorem dX2_judge_5 : decode cX2_judge 5 = .ok (.aload_n 0, 1) := by decide +kernel
theorem dX2_judge_6 : decode cX2_judge 6 = .ok (.iconst 0, 1) := by decide +kernel
theorem dX2_judge_7 : decode cX2_judge 7 = .ok (.putfield 15, 3) := by decide +kernel
theorem dX2_judge_10 : decode cX2_judge 10 = .ok (.aload_n 0, 1) := by decide +kernel
theorem dX2_judge_11 : decode cX2_judge 11 = .ok (.iconst 0, 1) := by decide +kernel
theorem dX2_judge_12 : decode cX2_judge 12 = .ok (.putfield 18, 3) := by decide +kernel
theorem dX2_judge_15 : decode cX2_judge 15 = .ok (.aload_n 0, 1) := by decide +kernel
theorem dX2_judge_16 : decode cX2_judge 16 = .ok (.aload_n 0, 1) := by decide +kernel
theorem dX2_judge_17 : decode cX2_judge 17 = .ok (.getfield 21, 3) := by decide +kernel
theorem dX2_judge_20 : decode cX2_judge 20 = .ok (.invokevirtual 29, 3) := by decide +kernel
theorem dX2_judge_23 : decode cX2_judge 23 = .ok (.iload_n 1, 1) := by decide +kernel
theorem dX2_judge_24 : decode cX2_judge 24 = .ok (.iconst 1, 1) := by decide +kernel
theorem dX2_judge_25 : decode cX2_judge 25 = .ok (.invokevirtual 35, 3) := by decide +kernel
theorem dX2_judge_28 : decode cX2_judge 28 = .ok (.aload_n 0, 1) := by decide +kernel
theorem dX2_judge_29 : decode cX2_judge 29 = .ok (.getfield 11, 3) := by decide +kernel
theorem dX2_judge_32 : decode cX2_judge 32 = .ok (.ifCond .ne 23, 3) := by decide +kernel
theorem dX2_judge_35 : decode cX2_judge 35 = .ok (.aload_n 0, 1) := by decide +kernel
theorem dX2_judge_36 : decode cX2_judge 36 = .ok (.getfield 15, 3) := by decide +kernel
theorem dX2_judge_39 : decode cX2_judge 39 = .ok (.aload_n 0, 1) := by decide +kernel
theorem dX2_judge_40 : decode cX2_judge 40 = .ok (.getfield 25, 3) := by decide +kernel
theorem dX2_judge_43 : decode cX2_judge 43 = .ok (.invokevirtual 39, 3) := by decide +kernel
theorem dX2_judge_46 : decode cX2_judge 46 = .ok (.if_icmp .ge 9, 3) := by decide +kernel
theorem dX2_judge_49 : decode cX2_judge 49 = .ok (.aload_n 0, 1) := by decide +kernel
theorem dX2_judge_50 : decode cX2_judge 50 = .ok (.bipush 6, 2) := by decide +kernel
theorem dX2_judge_52 : decode cX2_judge 52 = .ok (.putfield 11, 3) := by decide +kernel
theorem dX2_judge_55 : decode cX2_judge 55 = .ok (.return_, 1) := by decide +kernel
theorem dX2_verdict_0 : decode cX2_verdict 0 = .ok (.aload_n 0, 1) := by decide +kernel
theorem dX2_verdict_1 : decode cX2_verdict 1 = .ok (.getfield 11, 3) := by decide +kernel
theorem dX2_verdict_4 : decode cX2_verdict 4 = .ok (.ireturn, 1) := by decide +kernel
theorem dX2_used_0 : decode cX2_used 0 = .ok (.aload_n 0, 1) := by decide +kernel
theorem dX2_used_1 : decode cX2_used 1 = .ok (.getfield 15, 3) := by decide +kernel
theorem dX2_used_4 : decode cX2_used 4 = .ok (.ireturn, 1) := by decide +kernel
theorem dX2_deepest_0 : decode cX2_deepest 0 = .ok (.aload_n 0, 1) := by decide +kernel
theorem dX2_deepest_1 : decode cX2_deepest 1 = .ok (.getfield 18, 3) := by decide +kernel
theorem dX2_deepest_4 : decode cX2_deepest 4 = .ok (.ireturn, 1) := by decide +kernel
theorem dX2_visit_0 : decode cX2_visit 0 = .ok (.aload_n 0, 1) := by decide +kernel
theorem dX2_visit_1 : decode cX2_visit 1 = .ok (.getfield 11, 3) := by decide +kernel
theorem dX2_visit_4 : decode cX2_visit 4 = .ok (.ifCond .eq 4, 3) := by decide +kernel
theorem dX2_visit_7 : decode cX2_visit 7 = .ok (.return_, 1) := by decide +kernel
theorem dX2_visit_8 : decode cX2_visit 8 = .ok (.iload_n 3, 1) := by decide +kernel
theorem dX2_visit_9 : decode cX2_visit 9 = .ok (.bipush 12, 2) := by decide +kernel
theorem dX2_visit_11 : decode cX2_visit 11 = .ok (.if_icmp .le 9, 3) := by decide +kernel
theorem dX2_visit_14 : decode cX2_visit 14 = .ok (.aload_n 0, 1) := by decide +kernel
theorem dX2_visit_15 : decode cX2_visit 15 = .ok (.iconst 1, 1) := by decide +kernel
theorem dX2_visit_16 : decode cX2_visit 16 = .ok (.putfield 11, 3) := by decide +kernel
theorem dX2_visit_19 : decode cX2_visit 19 = .ok (.return_, 1) := by decide +kernel
theorem dX2_visit_20 : decode cX2_visit 20 = .ok (.aload_n 0, 1) := by decide +kernel
theorem dX2_visit_21 : decode cX2_visit 21 = .ok (.aload_n 0, 1) := by decide +kernel
theorem dX2_visit_22 : decode cX2_visit 22 = .ok (.getfield 18, 3) := by decide +kernel
theorem dX2_visit_25 : decode cX2_visit 25 = .ok (.iload_n 3, 1) := by decide +kernel
theorem dX2_visit_26 : decode cX2_visit 26 = .ok (.invokestatic 44, 3) := by decide +kernel
theorem dX2_visit_29 : decode cX2_visit 29 = .ok (.putfield 18, 3) := by decide +kernel
theorem dX2_visit_32 : decode cX2_visit 32 = .ok (.aload_n 0, 1) := by decide +kernel
theorem dX2_visit_33 : decode cX2_visit 33 = .ok (.getfield 21, 3) := by decide +kernel
theorem dX2_visit_36 : decode cX2_visit 36 = .ok (.iload_n 1, 1) := by decide +kernel
theorem dX2_visit_37 : decode cX2_visit 37 = .ok (.invokevirtual 50, 3) := by decide +kernel
theorem dX2_visit_40 : decode cX2_visit 40 = .ok (.istore 4, 2) := by decide +kernel
theorem dX2_visit_42 : decode cX2_visit 42 = .ok (.iload 4, 2) := by decide +kernel
theorem dX2_visit_44 : decode cX2_visit 44 = .ok (.lookupswitch 168 #[(33, 79), (38, 113), (42, 103), (43, 148), (49, 68), (84, 76), (91, 158)], 68) := by decide +kernel
theorem dX2_visit_112 : decode cX2_visit 112 = .ok (.aload_n 0, 1) := by decide +kernel
theorem dX2_visit_113 : decode cX2_visit 113 = .ok (.iload_n 2, 1) := by decide +kernel
theorem dX2_visit_114 : decode cX2_visit 114 = .ok (.invokevirtual 54, 3) := by decide +kernel
theorem dX2_visit_117 : decode cX2_visit 117 = .ok (.goto 103, 3) := by decide +kernel
theorem dX2_visit_120 : decode cX2_visit 120 = .ok (.goto 100, 3) := by decide +kernel
theorem dX2_visit_123 : decode cX2_visit 123 = .ok (.aload_n 0, 1) := by decide +kernel
theorem dX2_visit_124 : decode cX2_visit 124 = .ok (.iload_n 2, 1) := by decide +kernel
theorem dX2_visit_125 : decode cX2_visit 125 = .ok (.invokevirtual 54, 3) := by decide +kernel
theorem dX2_visit_128 : decode cX2_visit 128 = .ok (.aload_n 0, 1) := by decide +kernel
theorem dX2_visit_129 : decode cX2_visit 129 = .ok (.aload_n 0, 1) := by decide +kernel
theorem dX2_visit_130 : decode cX2_visit 130 = .ok (.getfield 21, 3) := by decide +kernel
theorem dX2_visit_133 : decode cX2_visit 133 = .ok (.iload_n 1, 1) := by decide +kernel
theorem dX2_visit_134 : decode cX2_visit 134 = .ok (.invokevirtual 58, 3) := by decide +kernel
theorem dX2_visit_137 : decode cX2_visit 137 = .ok (.iload_n 2, 1) := by decide +kernel
theorem dX2_visit_138 : decode cX2_visit 138 = .ok (.iload_n 3, 1) := by decide +kernel
theorem dX2_visit_139 : decode cX2_visit 139 = .ok (.iconst 1, 1) := by decide +kernel
theorem dX2_visit_140 : decode cX2_visit 140 = .ok (.iadd, 1) := by decide +kernel
theorem dX2_visit_141 : decode cX2_visit 141 = .ok (.invokevirtual 35, 3) := by decide +kernel
theorem dX2_visit_144 : decode cX2_visit 144 = .ok (.goto 76, 3) := by decide +kernel
theorem dX2_visit_147 : decode cX2_visit 147 = .ok (.aload_n 0, 1) := by decide +kernel
theorem dX2_visit_148 : decode cX2_visit 148 = .ok (.iload_n 1, 1) := by decide +kernel
theorem dX2_visit_149 : decode cX2_visit 149 = .ok (.iload_n 2, 1) := by decide +kernel
theorem dX2_visit_150 : decode cX2_visit 150 = .ok (.iload_n 3, 1) := by decide +kernel
theorem dX2_visit_151 : decode cX2_visit 151 = .ok (.invokevirtual 62, 3) := by decide +kernel
theorem dX2_visit_154 : decode cX2_visit 154 = .ok (.goto 66, 3) := by decide +kernel
theorem dX2_visit_157 : decode cX2_visit 157 = .ok (.aload_n 0, 1) := by decide +kernel
theorem dX2_visit_158 : decode cX2_visit 158 = .ok (.aload_n 0, 1) := by decide +kernel
theorem dX2_visit_159 : decode cX2_visit 159 = .ok (.getfield 21, 3) := by decide +kernel
theorem dX2_visit_162 : decode cX2_visit 162 = .ok (.iload_n 1, 1) := by decide +kernel
theorem dX2_visit_163 : decode cX2_visit 163 = .ok (.invokevirtual 58, 3) := by decide +kernel
theorem dX2_visit_166 : decode cX2_visit 166 = .ok (.iload_n 2, 1) := by decide +kernel
theorem dX2_visit_167 : decode cX2_visit 167 = .ok (.iload_n 3, 1) := by decide +kernel
theorem dX2_visit_168 : decode cX2_visit 168 = .ok (.iconst 1, 1) := by decide +kernel
theorem dX2_visit_169 : decode cX2_visit 169 = .ok (.iadd, 1) := by decide +kernel
theorem dX2_visit_170 : decode cX2_visit 170 = .ok (.invokevirtual 35, 3) := by decide +kernel
theorem dX2_visit_173 : decode cX2_visit 173 = .ok (.aload_n 0, 1) := by decide +kernel
theorem dX2_visit_174 : decode cX2_visit 174 = .ok (.aload_n 0, 1) := by decide +kernel
theorem dX2_visit_175 : decode cX2_visit 175 = .ok (.getfield 21, 3) := by decide +kernel
theorem dX2_visit_178 : decode cX2_visit 178 = .ok (.iload_n 1, 1) := by decide +kernel
theorem dX2_visit_179 : decode cX2_visit 179 = .ok (.invokevirtual 65, 3) := by decide +kernel
theorem dX2_visit_182 : decode cX2_visit 182 = .ok (.iload_n 2, 1) := by decide +kernel
theorem dX2_visit_183 : decode cX2_visit 183 = .ok (.iload_n 3, 1) := by decide +kernel
theorem dX2_visit_184 : decode cX2_visit 184 = .ok (.iconst 1, 1) := by decide +kernel
theorem dX2_visit_185 : decode cX2_visit 185 = .ok (.iadd, 1) := by decide +kernel
theorem dX2_visit_186 : decode cX2_visit 186 = .ok (.invokevirtual 35, 3) := by decide +kernel
theorem dX2_visit_189 : decode cX2_visit 189 = .ok (.goto 31, 3) := by decide +kernel
theorem dX2_visit_192 : decode cX2_visit 192 = .ok (.aload_n 0, 1) := by decide +kernel
theorem dX2_visit_193 : decode cX2_visit 193 = .ok (.iload_n 1, 1) := by decide +kernel
theorem dX2_visit_194 : decode cX2_visit 194 = .ok (.iload_n 2, 1) := by decide +kernel
theorem dX2_visit_195 : decode cX2_visit 195 = .ok (.iload_n 3, 1) := by decide +kernel
theorem dX2_visit_196 : decode cX2_visit 196 = .ok (.invokevirtual 68, 3) := by decide +kernel
theorem dX2_visit_199 : decode cX2_visit 199 = .ok (.goto 21, 3) := by decide +kernel
theorem dX2_visit_202 : decode cX2_visit 202 = .ok (.aload_n 0, 1) := by decide +kernel
theorem dX2_visit_203 : decode cX2_visit 203 = .ok (.iload_n 1, 1) := by decide +kernel
theorem dX2_visit_204 : decode cX2_visit 204 = .ok (.iload_n 2, 1) := by decide +kernel
theorem dX2_visit_205 : decode cX2_visit 205 = .ok (.iload_n 3, 1) := by decide +kernel
theorem dX2_visit_206 : decode cX2_visit 206 = .ok (.invokevirtual 71, 3) := by decide +kernel
theorem dX2_visit_209 : decode cX2_visit 209 = .ok (.goto 11, 3) := by decide +kernel
theorem dX2_visit_212 : decode cX2_visit 212 = .ok (.aload_n 0, 1) := by decide +kernel
theorem dX2_visit_213 : decode cX2_visit 213 = .ok (.iload 4, 2) := by decide +kernel
theorem dX2_visit_215 : decode cX2_visit 215 = .ok (.iload_n 2, 1) := by decide +kernel
theorem dX2_visit_216 : decode cX2_visit 216 = .ok (.iload_n 3, 1) := by decide +kernel
theorem dX2_visit_217 : decode cX2_visit 217 = .ok (.invokevirtual 74, 3) := by decide +kernel
theorem dX2_visit_220 : decode cX2_visit 220 = .ok (.return_, 1) := by decide +kernel
theorem dX2_visitSplit_0 : decode cX2_visitSplit 0 = .ok (.aload_n 0, 1) := by decide +kernel
theorem dX2_visitSplit_1 : decode cX2_visitSplit 1 = .ok (.getfield 25, 3) := by decide +kernel
theorem dX2_visitSplit_4 : decode cX2_visitSplit 4 = .ok (.aload_n 0, 1) := by decide +kernel
theorem dX2_visitSplit_5 : decode cX2_visitSplit 5 = .ok (.getfield 15, 3) := by decide +kernel
theorem dX2_visitSplit_8 : decode cX2_visitSplit 8 = .ok (.invokevirtual 78, 3) := by decide +kernel
theorem dX2_visitSplit_11 : decode cX2_visitSplit 11 = .ok (.sipush 200, 3) := by decide +kernel
theorem dX2_visitSplit_14 : decode cX2_visitSplit 14 = .ok (.isub, 1) := by decide +kernel
theorem dX2_visitSplit_15 : decode cX2_visitSplit 15 = .ok (.istore 4, 2) := by decide +kernel
theorem dX2_visitSplit_17 : decode cX2_visitSplit 17 = .ok (.aload_n 0, 1) := by decide +kernel
theorem dX2_visitSplit_18 : decode cX2_visitSplit 18 = .ok (.invokevirtual 81, 3) := by decide +kernel
theorem dX2_visitSplit_21 : decode cX2_visitSplit 21 = .ok (.ifCond .ne 29, 3) := by decide +kernel
theorem dX2_visitSplit_24 : decode cX2_visitSplit 24 = .ok (.aload_n 0, 1) := by decide +kernel
theorem dX2_visitSplit_25 : decode cX2_visitSplit 25 = .ok (.iload 4, 2) := by decide +kernel
theorem dX2_visitSplit_27 : decode cX2_visitSplit 27 = .ok (.ifCond .lt 16, 3) := by decide +kernel
theorem dX2_visitSplit_30 : decode cX2_visitSplit 30 = .ok (.iload 4, 2) := by decide +kernel
theorem dX2_visitSplit_32 : decode cX2_visitSplit 32 = .ok (.iload_n 2, 1) := by decide +kernel
theorem dX2_visitSplit_33 : decode cX2_visitSplit 33 = .ok (.iconst (-1), 1) := by decide +kernel
theorem dX2_visitSplit_34 : decode cX2_visitSplit 34 = .ok (.ixor, 1) := by decide +kernel
theorem dX2_visitSplit_35 : decode cX2_visitSplit 35 = .ok (.iand, 1) := by decide +kernel
theorem dX2_visitSplit_36 : decode cX2_visitSplit 36 = .ok (.ifCond .ne 7, 3) := by decide +kernel
theorem dX2_visitSplit_39 : decode cX2_visitSplit 39 = .ok (.iconst 1, 1) := by decide +kernel
theorem dX2_visitSplit_40 : decode cX2_visitSplit 40 = .ok (.goto 4, 3) := by decide +kernel
theorem dX2_visitSplit_43 : decode cX2_visitSplit 43 = .ok (.iconst 0, 1) := by decide +kernel
theorem dX2_visitSplit_44 : decode cX2_visitSplit 44 = .ok (.invokevirtual 85, 3) := by decide +kernel
theorem dX2_visitSplit_47 : decode cX2_visitSplit 47 = .ok (.ifCond .eq 4, 3) := by decide +kernel
theorem dX2_visitSplit_50 : decode cX2_visitSplit 50 = .ok (.return_, 1) := by decide +kernel
theorem dX2_visitSplit_51 : decode cX2_visitSplit 51 = .ok (.aload_n 0, 1) := by decide +kernel
theorem dX2_visitSplit_52 : decode cX2_visitSplit 52 = .ok (.dup, 1) := by decide +kernel
theorem dX2_visitSplit_53 : decode cX2_visitSplit 53 = .ok (.getfield 15, 3) := by decide +kernel
theorem dX2_visitSplit_56 : decode cX2_visitSplit 56 = .ok (.iconst 1, 1) := by decide +kernel
theorem dX2_visitSplit_57 : decode cX2_visitSplit 57 = .ok (.iadd, 1) := by decide +kernel
theorem dX2_visitSplit_58 : decode cX2_visitSplit 58 = .ok (.putfield 15, 3) := by decide +kernel
theorem dX2_visitSplit_61 : decode cX2_visitSplit 61 = .ok (.aload_n 0, 1) := by decide +kernel
theorem dX2_visitSplit_62 : decode cX2_visitSplit 62 = .ok (.aload_n 0, 1) := by decide +kernel
theorem dX2_visitSplit_63 : decode cX2_visitSplit 63 = .ok (.getfield 21, 3) := by decide +kernel
theorem dX2_visitSplit_66 : decode cX2_visitSplit 66 = .ok (.iload_n 1, 1) := by decide +kernel
theorem dX2_visitSplit_67 : decode cX2_visitSplit 67 = .ok (.invokevirtual 58, 3) := by decide +kernel
theorem dX2_visitSplit_70 : decode cX2_visitSplit 70 = .ok (.iload 4, 2) := by decide +kernel
theorem dX2_visitSplit_72 : decode cX2_visitSplit 72 = .ok (.iload_n 3, 1) := by decide +kernel
theorem dX2_visitSplit_73 : decode cX2_visitSplit 73 = .ok (.iconst 1, 1) := by decide +kernel
theorem dX2_visitSplit_74 : decode cX2_visitSplit 74 = .ok (.iadd, 1) := by decide +kernel
theorem dX2_visitSplit_75 : decode cX2_visitSplit 75 = .ok (.invokevirtual 35, 3) := by decide +kernel
theorem dX2_visitSplit_78 : decode cX2_visitSplit 78 = .ok (.aload_n 0, 1) := by decide +kernel
theorem dX2_visitSplit_79 : decode cX2_visitSplit 79 = .ok (.aload_n 0, 1) := by decide +kernel
theorem dX2_visitSplit_80 : decode cX2_visitSplit 80 = .ok (.getfield 21, 3) := by decide +kernel
theorem dX2_visitSplit_83 : decode cX2_visitSplit 83 = .ok (.iload_n 1, 1) := by decide +kernel
theorem dX2_visitSplit_84 : decode cX2_visitSplit 84 = .ok (.invokevirtual 65, 3) := by decide +kernel
theorem dX2_visitSplit_87 : decode cX2_visitSplit 87 = .ok (.iload_n 2, 1) := by decide +kernel
theorem dX2_visitSplit_88 : decode cX2_visitSplit 88 = .ok (.iload 4, 2) := by decide +kernel
theorem dX2_visitSplit_90 : decode cX2_visitSplit 90 = .ok (.ixor, 1) := by decide +kernel
theorem dX2_visitSplit_91 : decode cX2_visitSplit 91 = .ok (.iload_n 3, 1) := by decide +kernel
theorem dX2_visitSplit_92 : decode cX2_visitSplit 92 = .ok (.iconst 1, 1) := by decide +kernel
theorem dX2_visitSplit_93 : decode cX2_visitSplit 93 = .ok (.iadd, 1) := by decide +kernel
theorem dX2_visitSplit_94 : decode cX2_visitSplit 94 = .ok (.invokevirtual 35, 3) := by decide +kernel
theorem dX2_visitSplit_97 : decode cX2_visitSplit 97 = .ok (.return_, 1) := by decide +kernel
theorem dX2_visitChoice_0 : decode cX2_visitChoice 0 = .ok (.aload_n 0, 1) := by decide +kernel
theorem dX2_visitChoice_1 : decode cX2_visitChoice 1 = .ok (.getfield 25, 3) := by decide +kernel
theorem dX2_visitChoice_4 : decode cX2_visitChoice 4 = .ok (.aload_n 0, 1) := by decide +kernel
theorem dX2_visitChoice_5 : decode cX2_visitChoice 5 = .ok (.getfield 15, 3) := by decide +kernel
theorem dX2_visitChoice_8 : decode cX2_visitChoice 8 = .ok (.invokevirtual 78, 3) := by decide +kernel
theorem dX2_visitChoice_11 : decode cX2_visitChoice 11 = .ok (.istore 4, 2) := by decide +kernel
theorem dX2_visitChoice_13 : decode cX2_visitChoice 13 = .ok (.aload_n 0, 1) := by decide +kernel
theorem dX2_visitChoice_14 : decode cX2_visitChoice 14 = .ok (.invokevirtual 81, 3) := by decide +kernel
theorem dX2_visitChoice_17 : decode cX2_visitChoice 17 = .ok (.ifCond .ne 31, 3) := by decide +kernel
theorem dX2_visitChoice_20 : decode cX2_visitChoice 20 = .ok (.aload_n 0, 1) := by decide +kernel
theorem dX2_visitChoice_21 : decode cX2_visitChoice 21 = .ok (.iload 4, 2) := by decide +kernel
theorem dX2_visitChoice_23 : decode cX2_visitChoice 23 = .ok (.sipush 300, 3) := by decide +kernel
theorem dX2_visitChoice_26 : decode cX2_visitChoice 26 = .ok (.if_icmp .eq 11, 3) := by decide +kernel
theorem dX2_visitChoice_29 : decode cX2_visitChoice 29 = .ok (.iload 4, 2) := by decide +kernel
theorem dX2_visitChoice_31 : decode cX2_visitChoice 31 = .ok (.sipush 301, 3) := by decide +kernel
theorem dX2_visitChoice_34 : decode cX2_visitChoice 34 = .ok (.if_icmp .ne 7, 3) := by decide +kernel
theorem dX2_visitChoice_37 : decode cX2_visitChoice 37 = .ok (.iconst 1, 1) := by decide +kernel
theorem dX2_visitChoice_38 : decode cX2_visitChoice 38 = .ok (.goto 4, 3) := by decide +kernel
theorem dX2_visitChoice_41 : decode cX2_visitChoice 41 = .ok (.iconst 0, 1) := by decide +kernel
theorem dX2_visitChoice_42 : decode cX2_visitChoice 42 = .ok (.invokevirtual 85, 3) := by decide +kernel
theorem dX2_visitChoice_45 : decode cX2_visitChoice 45 = .ok (.ifCond .eq 4, 3) := by decide +kernel
theorem dX2_visitChoice_48 : decode cX2_visitChoice 48 = .ok (.return_, 1) := by decide +kernel
theorem dX2_visitChoice_49 : decode cX2_visitChoice 49 = .ok (.aload_n 0, 1) := by decide +kernel
theorem dX2_visitChoice_50 : decode cX2_visitChoice 50 = .ok (.dup, 1) := by decide +kernel
theorem dX2_visitChoice_51 : decode cX2_visitChoice 51 = .ok (.getfield 15, 3) := by decide +kernel
theorem dX2_visitChoice_54 : decode cX2_visitChoice 54 = .ok (.iconst 1, 1) := by decide +kernel
theorem dX2_visitChoice_55 : decode cX2_visitChoice 55 = .ok (.iadd, 1) := by decide +kernel
theorem dX2_visitChoice_56 : decode cX2_visitChoice 56 = .ok (.putfield 15, 3) := by decide +kernel
theorem dX2_visitChoice_59 : decode cX2_visitChoice 59 = .ok (.aload_n 0, 1) := by decide +kernel
theorem dX2_visitChoice_60 : decode cX2_visitChoice 60 = .ok (.iload 4, 2) := by decide +kernel
theorem dX2_visitChoice_62 : decode cX2_visitChoice 62 = .ok (.sipush 300, 3) := by decide +kernel
theorem dX2_visitChoice_65 : decode cX2_visitChoice 65 = .ok (.if_icmp .ne 14, 3) := by decide +kernel
theorem dX2_visitChoice_68 : decode cX2_visitChoice 68 = .ok (.aload_n 0, 1) := by decide +kernel
theorem dX2_visitChoice_69 : decode cX2_visitChoice 69 = .ok (.getfield 21, 3) := by decide +kernel
theorem dX2_visitChoice_72 : decode cX2_visitChoice 72 = .ok (.iload_n 1, 1) := by decide +kernel
theorem dX2_visitChoice_73 : decode cX2_visitChoice 73 = .ok (.invokevirtual 58, 3) := by decide +kernel
theorem dX2_visitChoice_76 : decode cX2_visitChoice 76 = .ok (.goto 11, 3) := by decide +kernel
theorem dX2_visitChoice_79 : decode cX2_visitChoice 79 = .ok (.aload_n 0, 1) := by decide +kernel
theorem dX2_visitChoice_80 : decode cX2_visitChoice 80 = .ok (.getfield 21, 3) := by decide +kernel
theorem dX2_visitChoice_83 : decode cX2_visitChoice 83 = .ok (.iload_n 1, 1) := by decide +kernel
theorem dX2_visitChoice_84 : decode cX2_visitChoice 84 = .ok (.invokevirtual 65, 3) := by decide +kernel
theorem dX2_visitChoice_87 : decode cX2_visitChoice 87 = .ok (.iload_n 2, 1) := by decide +kernel
theorem dX2_visitChoice_88 : decode cX2_visitChoice 88 = .ok (.iload_n 3, 1) := by decide +kernel
theorem dX2_visitChoice_89 : decode cX2_visitChoice 89 = .ok (.iconst 1, 1) := by decide +kernel
theorem dX2_visitChoice_90 : decode cX2_visitChoice 90 = .ok (.iadd, 1) := by decide +kernel
theorem dX2_visitChoice_91 : decode cX2_visitChoice 91 = .ok (.invokevirtual 35, 3) := by decide +kernel
theorem dX2_visitChoice_94 : decode cX2_visitChoice 94 = .ok (.return_, 1) := by decide +kernel
theorem dX2_visitLoan_0 : decode cX2_visitLoan 0 = .ok (.aload_n 0, 1) := by decide +kernel
theorem dX2_visitLoan_1 : decode cX2_visitLoan 1 = .ok (.getfield 21, 3) := by decide +kernel
theorem dX2_visitLoan_4 : decode cX2_visitLoan 4 = .ok (.iload_n 1, 1) := by decide +kernel
theorem dX2_visitLoan_5 : decode cX2_visitLoan 5 = .ok (.invokevirtual 89, 3) := by decide +kernel
theorem dX2_visitLoan_8 : decode cX2_visitLoan 8 = .ok (.istore 4, 2) := by decide +kernel
theorem dX2_visitLoan_10 : decode cX2_visitLoan 10 = .ok (.iload_n 2, 1) := by decide +kernel
theorem dX2_visitLoan_11 : decode cX2_visitLoan 11 = .ok (.iload 4, 2) := by decide +kernel
theorem dX2_visitLoan_13 : decode cX2_visitLoan 13 = .ok (.iand, 1) := by decide +kernel
theorem dX2_visitLoan_14 : decode cX2_visitLoan 14 = .ok (.ifCond .eq 9, 3) := by decide +kernel
theorem dX2_visitLoan_17 : decode cX2_visitLoan 17 = .ok (.aload_n 0, 1) := by decide +kernel
theorem dX2_visitLoan_18 : decode cX2_visitLoan 18 = .ok (.iconst 5, 1) := by decide +kernel
theorem dX2_visitLoan_19 : decode cX2_visitLoan 19 = .ok (.putfield 11, 3) := by decide +kernel
theorem dX2_visitLoan_22 : decode cX2_visitLoan 22 = .ok (.return_, 1) := by decide +kernel
theorem dX2_visitLoan_23 : decode cX2_visitLoan 23 = .ok (.aload_n 0, 1) := by decide +kernel
theorem dX2_visitLoan_24 : decode cX2_visitLoan 24 = .ok (.aload_n 0, 1) := by decide +kernel
theorem dX2_visitLoan_25 : decode cX2_visitLoan 25 = .ok (.getfield 21, 3) := by decide +kernel
theorem dX2_visitLoan_28 : decode cX2_visitLoan 28 = .ok (.iload_n 1, 1) := by decide +kernel
theorem dX2_visitLoan_29 : decode cX2_visitLoan 29 = .ok (.invokevirtual 58, 3) := by decide +kernel
theorem dX2_visitLoan_32 : decode cX2_visitLoan 32 = .ok (.iload_n 2, 1) := by decide +kernel
theorem dX2_visitLoan_33 : decode cX2_visitLoan 33 = .ok (.iload 4, 2) := by decide +kernel
theorem dX2_visitLoan_35 : decode cX2_visitLoan 35 = .ok (.ior, 1) := by decide +kernel
theorem dX2_visitLoan_36 : decode cX2_visitLoan 36 = .ok (.iload_n 3, 1) := by decide +kernel
theorem dX2_visitLoan_37 : decode cX2_visitLoan 37 = .ok (.iconst 1, 1) := by decide +kernel
theorem dX2_visitLoan_38 : decode cX2_visitLoan 38 = .ok (.iadd, 1) := by decide +kernel
theorem dX2_visitLoan_39 : decode cX2_visitLoan 39 = .ok (.invokevirtual 35, 3) := by decide +kernel
theorem dX2_visitLoan_42 : decode cX2_visitLoan 42 = .ok (.return_, 1) := by decide +kernel
theorem dX2_visitAtom_0 : decode cX2_visitAtom 0 = .ok (.aload_n 0, 1) := by decide +kernel
theorem dX2_visitAtom_1 : decode cX2_visitAtom 1 = .ok (.getfield 25, 3) := by decide +kernel
theorem dX2_visitAtom_4 : decode cX2_visitAtom 4 = .ok (.aload_n 0, 1) := by decide +kernel
theorem dX2_visitAtom_5 : decode cX2_visitAtom 5 = .ok (.getfield 15, 3) := by decide +kernel
theorem dX2_visitAtom_8 : decode cX2_visitAtom 8 = .ok (.invokevirtual 78, 3) := by decide +kernel
theorem dX2_visitAtom_11 : decode cX2_visitAtom 11 = .ok (.istore 4, 2) := by decide +kernel
theorem dX2_visitAtom_13 : decode cX2_visitAtom 13 = .ok (.aload_n 0, 1) := by decide +kernel
theorem dX2_visitAtom_14 : decode cX2_visitAtom 14 = .ok (.invokevirtual 81, 3) := by decide +kernel
theorem dX2_visitAtom_17 : decode cX2_visitAtom 17 = .ok (.ifCond .ne 23, 3) := by decide +kernel
theorem dX2_visitAtom_20 : decode cX2_visitAtom 20 = .ok (.aload_n 0, 1) := by decide +kernel
theorem dX2_visitAtom_21 : decode cX2_visitAtom 21 = .ok (.iload 4, 2) := by decide +kernel
theorem dX2_visitAtom_23 : decode cX2_visitAtom 23 = .ok (.sipush 200, 3) := by decide +kernel
theorem dX2_visitAtom_26 : decode cX2_visitAtom 26 = .ok (.if_icmp .ge 7, 3) := by decide +kernel
theorem dX2_visitAtom_29 : decode cX2_visitAtom 29 = .ok (.iconst 1, 1) := by decide +kernel
theorem dX2_visitAtom_30 : decode cX2_visitAtom 30 = .ok (.goto 4, 3) := by decide +kernel
theorem dX2_visitAtom_33 : decode cX2_visitAtom 33 = .ok (.iconst 0, 1) := by decide +kernel
theorem dX2_visitAtom_34 : decode cX2_visitAtom 34 = .ok (.invokevirtual 85, 3) := by decide +kernel
theorem dX2_visitAtom_37 : decode cX2_visitAtom 37 = .ok (.ifCond .eq 4, 3) := by decide +kernel
theorem dX2_visitAtom_40 : decode cX2_visitAtom 40 = .ok (.return_, 1) := by decide +kernel
theorem dX2_visitAtom_41 : decode cX2_visitAtom 41 = .ok (.iload 4, 2) := by decide +kernel
theorem dX2_visitAtom_43 : decode cX2_visitAtom 43 = .ok (.invokestatic 92, 3) := by decide +kernel
theorem dX2_visitAtom_46 : decode cX2_visitAtom 46 = .ok (.istore 5, 2) := by decide +kernel
theorem dX2_visitAtom_48 : decode cX2_visitAtom 48 = .ok (.iload 4, 2) := by decide +kernel
theorem dX2_visitAtom_50 : decode cX2_visitAtom 50 = .ok (.bipush 10, 2) := by decide +kernel
theorem dX2_visitAtom_52 : decode cX2_visitAtom 52 = .ok (.irem, 1) := by decide +kernel
theorem dX2_visitAtom_53 : decode cX2_visitAtom 53 = .ok (.istore 6, 2) := by decide +kernel
theorem dX2_visitAtom_55 : decode cX2_visitAtom 55 = .ok (.iload 5, 2) := by decide +kernel
theorem dX2_visitAtom_57 : decode cX2_visitAtom 57 = .ok (.iconst (-1), 1) := by decide +kernel
theorem dX2_visitAtom_58 : decode cX2_visitAtom 58 = .ok (.if_icmp .ne 7, 3) := by decide +kernel
theorem dX2_visitAtom_61 : decode cX2_visitAtom 61 = .ok (.iconst (-1), 1) := by decide +kernel
theorem dX2_visitAtom_62 : decode cX2_visitAtom 62 = .ok (.goto 9, 3) := by decide +kernel
theorem dX2_visitAtom_65 : decode cX2_visitAtom 65 = .ok (.iload 5, 2) := by decide +kernel
theorem dX2_visitAtom_67 : decode cX2_visitAtom 67 = .ok (.iload_n 2, 1) := by decide +kernel
theorem dX2_visitAtom_68 : decode cX2_visitAtom 68 = .ok (.invokestatic 95, 3) := by decide +kernel
theorem dX2_visitAtom_71 : decode cX2_visitAtom 71 = .ok (.istore 7, 2) := by decide +kernel
theorem dX2_visitAtom_73 : decode cX2_visitAtom 73 = .ok (.aload_n 0, 1) := by decide +kernel
theorem dX2_visitAtom_74 : decode cX2_visitAtom 74 = .ok (.iload 7, 2) := by decide +kernel
theorem dX2_visitAtom_76 : decode cX2_visitAtom 76 = .ok (.iconst (-1), 1) := by decide +kernel
theorem dX2_visitAtom_77 : decode cX2_visitAtom 77 = .ok (.if_icmp .eq 22, 3) := by decide +kernel
theorem dX2_visitAtom_80 : decode cX2_visitAtom 80 = .ok (.aload_n 0, 1) := by decide +kernel
theorem dX2_visitAtom_81 : decode cX2_visitAtom 81 = .ok (.getfield 21, 3) := by decide +kernel
theorem dX2_visitAtom_84 : decode cX2_visitAtom 84 = .ok (.iload 5, 2) := by decide +kernel
theorem dX2_visitAtom_86 : decode cX2_visitAtom 86 = .ok (.iload 6, 2) := by decide +kernel
theorem dX2_visitAtom_88 : decode cX2_visitAtom 88 = .ok (.iload_n 1, 1) := by decide +kernel
theorem dX2_visitAtom_89 : decode cX2_visitAtom 89 = .ok (.invokevirtual 98, 3) := by decide +kernel
theorem dX2_visitAtom_92 : decode cX2_visitAtom 92 = .ok (.ifCond .eq 7, 3) := by decide +kernel
theorem dX2_visitAtom_95 : decode cX2_visitAtom 95 = .ok (.iconst 1, 1) := by decide +kernel
theorem dX2_visitAtom_96 : decode cX2_visitAtom 96 = .ok (.goto 4, 3) := by decide +kernel
theorem dX2_visitAtom_99 : decode cX2_visitAtom 99 = .ok (.iconst 0, 1) := by decide +kernel
theorem dX2_visitAtom_100 : decode cX2_visitAtom 100 = .ok (.invokevirtual 85, 3) := by decide +kernel
theorem dX2_visitAtom_103 : decode cX2_visitAtom 103 = .ok (.ifCond .eq 4, 3) := by decide +kernel
theorem dX2_visitAtom_106 : decode cX2_visitAtom 106 = .ok (.return_, 1) := by decide +kernel
theorem dX2_visitAtom_107 : decode cX2_visitAtom 107 = .ok (.aload_n 0, 1) := by decide +kernel
theorem dX2_visitAtom_108 : decode cX2_visitAtom 108 = .ok (.dup, 1) := by decide +kernel
theorem dX2_visitAtom_109 : decode cX2_visitAtom 109 = .ok (.getfield 15, 3) := by decide +kernel
theorem dX2_visitAtom_112 : decode cX2_visitAtom 112 = .ok (.iconst 1, 1) := by decide +kernel
theorem dX2_visitAtom_113 : decode cX2_visitAtom 113 = .ok (.iadd, 1) := by decide +kernel
theorem dX2_visitAtom_114 : decode cX2_visitAtom 114 = .ok (.putfield 15, 3) := by decide +kernel
theorem dX2_visitAtom_117 : decode cX2_visitAtom 117 = .ok (.aload_n 0, 1) := by decide +kernel
theorem dX2_visitAtom_118 : decode cX2_visitAtom 118 = .ok (.getfield 21, 3) := by decide +kernel
theorem dX2_visitAtom_121 : decode cX2_visitAtom 121 = .ok (.iload 5, 2) := by decide +kernel
theorem dX2_visitAtom_123 : decode cX2_visitAtom 123 = .ok (.iload 6, 2) := by decide +kernel
theorem dX2_visitAtom_125 : decode cX2_visitAtom 125 = .ok (.invokevirtual 102, 3) := by decide +kernel
theorem dX2_visitAtom_128 : decode cX2_visitAtom 128 = .ok (.istore 8, 2) := by decide +kernel
theorem dX2_visitAtom_130 : decode cX2_visitAtom 130 = .ok (.iload 8, 2) := by decide +kernel
theorem dX2_visitAtom_132 : decode cX2_visitAtom 132 = .ok (.iconst (-1), 1) := by decide +kernel
theorem dX2_visitAtom_133 : decode cX2_visitAtom 133 = .ok (.if_icmp .ne 12, 3) := by decide +kernel
theorem dX2_visitAtom_136 : decode cX2_visitAtom 136 = .ok (.aload_n 0, 1) := by decide +kernel
theorem dX2_visitAtom_137 : decode cX2_visitAtom 137 = .ok (.iload 7, 2) := by decide +kernel
theorem dX2_visitAtom_139 : decode cX2_visitAtom 139 = .ok (.invokevirtual 54, 3) := by decide +kernel
theorem dX2_visitAtom_142 : decode cX2_visitAtom 142 = .ok (.goto 14, 3) := by decide +kernel
theorem dX2_visitAtom_145 : decode cX2_visitAtom 145 = .ok (.aload_n 0, 1) := by decide +kernel
theorem dX2_visitAtom_146 : decode cX2_visitAtom 146 = .ok (.iload 8, 2) := by decide +kernel
theorem dX2_visitAtom_148 : decode cX2_visitAtom 148 = .ok (.iload 7, 2) := by decide +kernel
theorem dX2_visitAtom_150 : decode cX2_visitAtom 150 = .ok (.iload_n 3, 1) := by decide +kernel
theorem dX2_visitAtom_151 : decode cX2_visitAtom 151 = .ok (.iconst 1, 1) := by decide +kernel
theorem dX2_visitAtom_152 : decode cX2_visitAtom 152 = .ok (.iadd, 1) := by decide +kernel
theorem dX2_visitAtom_153 : decode cX2_visitAtom 153 = .ok (.invokevirtual 35, 3) := by decide +kernel
theorem dX2_visitAtom_156 : decode cX2_visitAtom 156 = .ok (.return_, 1) := by decide +kernel
theorem dX2_offerOf_0 : decode cX2_offerOf 0 = .ok (.iload_n 0, 1) := by decide +kernel
theorem dX2_offerOf_1 : decode cX2_offerOf 1 = .ok (.bipush 100, 2) := by decide +kernel
theorem dX2_offerOf_3 : decode cX2_offerOf 3 = .ok (.irem, 1) := by decide +kernel
theorem dX2_offerOf_4 : decode cX2_offerOf 4 = .ok (.bipush 10, 2) := by decide +kernel
theorem dX2_offerOf_6 : decode cX2_offerOf 6 = .ok (.idiv, 1) := by decide +kernel
theorem dX2_offerOf_7 : decode cX2_offerOf 7 = .ok (.istore_n 1, 1) := by decide +kernel
theorem dX2_offerOf_8 : decode cX2_offerOf 8 = .ok (.iload_n 0, 1) := by decide +kernel
theorem dX2_offerOf_9 : decode cX2_offerOf 9 = .ok (.bipush 100, 2) := by decide +kernel
theorem dX2_offerOf_11 : decode cX2_offerOf 11 = .ok (.if_icmp .ge 15, 3) := by decide +kernel
theorem dX2_offerOf_14 : decode cX2_offerOf 14 = .ok (.iload_n 1, 1) := by decide +kernel
theorem dX2_offerOf_15 : decode cX2_offerOf 15 = .ok (.bipush 8, 2) := by decide +kernel
theorem dX2_offerOf_17 : decode cX2_offerOf 17 = .ok (.if_icmp .ge 7, 3) := by decide +kernel
theorem dX2_offerOf_20 : decode cX2_offerOf 20 = .ok (.iload_n 1, 1) := by decide +kernel
theorem dX2_offerOf_21 : decode cX2_offerOf 21 = .ok (.goto 4, 3) := by decide +kernel
theorem dX2_offerOf_24 : decode cX2_offerOf 24 = .ok (.iconst (-1), 1) := by decide +kernel
theorem dX2_offerOf_25 : decode cX2_offerOf 25 = .ok (.ireturn, 1) := by decide +kernel
theorem dX2_offerOf_26 : decode cX2_offerOf 26 = .ok (.iload_n 1, 1) := by decide +kernel
theorem dX2_offerOf_27 : decode cX2_offerOf 27 = .ok (.iconst 4, 1) := by decide +kernel
theorem dX2_offerOf_28 : decode cX2_offerOf 28 = .ok (.if_icmp .ge 10, 3) := by decide +kernel
theorem dX2_offerOf_31 : decode cX2_offerOf 31 = .ok (.bipush 8, 2) := by decide +kernel
theorem dX2_offerOf_33 : decode cX2_offerOf 33 = .ok (.iload_n 1, 1) := by decide +kernel
theorem dX2_offerOf_34 : decode cX2_offerOf 34 = .ok (.iadd, 1) := by decide +kernel
theorem dX2_offerOf_35 : decode cX2_offerOf 35 = .ok (.goto 4, 3) := by decide +kernel
theorem dX2_offerOf_38 : decode cX2_offerOf 38 = .ok (.iconst (-1), 1) := by decide +kernel
theorem dX2_offerOf_39 : decode cX2_offerOf 39 = .ok (.ireturn, 1) := by decide +kernel
theorem dX2_lacksNumber_0 : decode cX2_lacksNumber 0 = .ok (.aload_n 0, 1) := by decide +kernel
theorem dX2_lacksNumber_1 : decode cX2_lacksNumber 1 = .ok (.getfield 15, 3) := by decide +kernel
theorem dX2_lacksNumber_4 : decode cX2_lacksNumber 4 = .ok (.aload_n 0, 1) := by decide +kernel
theorem dX2_lacksNumber_5 : decode cX2_lacksNumber 5 = .ok (.getfield 25, 3) := by decide +kernel
theorem dX2_lacksNumber_8 : decode cX2_lacksNumber 8 = .ok (.invokevirtual 39, 3) := by decide +kernel
theorem dX2_lacksNumber_11 : decode cX2_lacksNumber 11 = .ok (.if_icmp .ge 5, 3) := by decide +kernel
theorem dX2_lacksNumber_14 : decode cX2_lacksNumber 14 = .ok (.iconst 0, 1) := by decide +kernel
theorem dX2_lacksNumber_15 : decode cX2_lacksNumber 15 = .ok (.ireturn, 1) := by decide +kernel
theorem dX2_lacksNumber_16 : decode cX2_lacksNumber 16 = .ok (.aload_n 0, 1) := by decide +kernel
theorem dX2_lacksNumber_17 : decode cX2_lacksNumber 17 = .ok (.iconst 2, 1) := by decide +kernel
theorem dX2_lacksNumber_18 : decode cX2_lacksNumber 18 = .ok (.putfield 11, 3) := by decide +kernel
theorem dX2_lacksNumber_21 : decode cX2_lacksNumber 21 = .ok (.iconst 1, 1) := by decide +kernel
theorem dX2_lacksNumber_22 : decode cX2_lacksNumber 22 = .ok (.ireturn, 1) := by decide +kernel
theorem dX2_refuseUnless_0 : decode cX2_refuseUnless 0 = .ok (.iload_n 1, 1) := by decide +kernel
theorem dX2_refuseUnless_1 : decode cX2_refuseUnless 1 = .ok (.ifCond .ne 8, 3) := by decide +kernel
theorem dX2_refuseUnless_4 : decode cX2_refuseUnless 4 = .ok (.aload_n 0, 1) := by decide +kernel
theorem dX2_refuseUnless_5 : decode cX2_refuseUnless 5 = .ok (.iconst 3, 1) := by decide +kernel
theorem dX2_refuseUnless_6 : decode cX2_refuseUnless 6 = .ok (.putfield 11, 3) := by decide +kernel
theorem dX2_refuseUnless_9 : decode cX2_refuseUnless 9 = .ok (.iload_n 1, 1) := by decide +kernel
theorem dX2_refuseUnless_10 : decode cX2_refuseUnless 10 = .ok (.ifCond .ne 7, 3) := by decide +kernel
theorem dX2_refuseUnless_13 : decode cX2_refuseUnless 13 = .ok (.iconst 1, 1) := by decide +kernel
theorem dX2_refuseUnless_14 : decode cX2_refuseUnless 14 = .ok (.goto 4, 3) := by decide +kernel
theorem dX2_refuseUnless_17 : decode cX2_refuseUnless 17 = .ok (.iconst 0, 1) := by decide +kernel
theorem dX2_refuseUnless_18 : decode cX2_refuseUnless 18 = .ok (.ireturn, 1) := by decide +kernel
theorem dX2_demandEmpty_0 : decode cX2_demandEmpty 0 = .ok (.iload_n 1, 1) := by decide +kernel
theorem dX2_demandEmpty_1 : decode cX2_demandEmpty 1 = .ok (.ifCond .eq 8, 3) := by decide +kernel
theorem dX2_demandEmpty_4 : decode cX2_demandEmpty 4 = .ok (.aload_n 0, 1) := by decide +kernel
theorem dX2_demandEmpty_5 : decode cX2_demandEmpty 5 = .ok (.iconst 4, 1) := by decide +kernel
theorem dX2_demandEmpty_6 : decode cX2_demandEmpty 6 = .ok (.putfield 11, 3) := by decide +kernel
theorem dX2_demandEmpty_9 : decode cX2_demandEmpty 9 = .ok (.return_, 1) := by decide +kernel
theorem dX3_init_0 : decode cX3_init 0 = .ok (.aload_n 0, 1) := by decide +kernel
theorem dX3_init_1 : decode cX3_init 1 = .ok (.invokespecial 3, 3) := by decide +kernel
theorem dX3_init_4 : decode cX3_init 4 = .ok (.aload_n 0, 1) := by decide +kernel
theorem dX3_init_5 : decode cX3_init 5 = .ok (.bipush 60, 2) := by decide +kernel
theorem dX3_init_7 : decode cX3_init 7 = .ok (.newarray .char, 2) := by decide +kernel
theorem dX3_init_9 : decode cX3_init 9 = .ok (.putfield 9, 3) := by decide +kernel
theorem dX3_init_12 : decode cX3_init 12 = .ok (.aload_n 0, 1) := by decide +kernel
theorem dX3_init_13 : decode cX3_init 13 = .ok (.bipush 60, 2) := by decide +kernel
theorem dX3_init_15 : decode cX3_init 15 = .ok (.newarray .int, 2) := by decide +kernel
theorem dX3_init_17 : decode cX3_init 17 = .ok (.putfield 15, 3) := by decide +kernel
theorem dX3_init_20 : decode cX3_init 20 = .ok (.aload_n 0, 1) := by decide +kernel
theorem dX3_init_21 : decode cX3_init 21 = .ok (.bipush 60, 2) := by decide +kernel
theorem dX3_init_23 : decode cX3_init 23 = .ok (.newarray .int, 2) := by decide +kernel
theorem dX3_init_25 : decode cX3_init 25 = .ok (.putfield 19, 3) := by decide +kernel
theorem dX3_init_28 : decode cX3_init 28 = .ok (.aload_n 0, 1) := by decide +kernel
theorem dX3_init_29 : decode cX3_init 29 = .ok (.bipush 36, 2) := by decide +kernel
theorem dX3_init_31 : decode cX3_init 31 = .ok (.newarray .char, 2) := by decide +kernel
theorem dX3_init_33 : decode cX3_init 33 = .ok (.putfield 22, 3) := by decide +kernel
theorem dX3_init_36 : decode cX3_init 36 = .ok (.aload_n 0, 1) := by decide +kernel
theorem dX3_init_37 : decode cX3_init 37 = .ok (.bipush 36, 2) := by decide +kernel
theorem dX3_init_39 : decode cX3_init 39 = .ok (.newarray .int, 2) := by decide +kernel
theorem dX3_init_41 : decode cX3_init 41 = .ok (.putfield 25, 3) := by decide +kernel
theorem dX3_init_44 : decode cX3_init 44 = .ok (.aload_n 0, 1) := by decide +kernel
theorem dX3_init_45 : decode cX3_init 45 = .ok (.iconst 0, 1) := by decide +kernel
theorem dX3_init_46 : decode cX3_init 46 = .ok (.putfield 28, 3) := by decide +kernel
theorem dX3_init_49 : decode cX3_init 49 = .ok (.aload_n 0, 1) := by decide +kernel
theorem dX3_init_50 : decode cX3_init 50 = .ok (.iconst 0, 1) := by decide +kernel
theorem dX3_init_51 : decode cX3_init 51 = .ok (.putfield 32, 3) := by decide +kernel
theorem dX3_init_54 : decode cX3_init 54 = .ok (.aload_n 0, 1) := by decide +kernel
theorem dX3_init_55 : decode cX3_init 55 = .ok (.iconst (-1), 1) := by decide +kernel
theorem dX3_init_56 : decode cX3_init 56 = .ok (.putfield 35, 3) := by decide +kernel
theorem dX3_init_59 : decode cX3_init 59 = .ok (.return_, 1) := by decide +kernel
theorem dX3_clear_0 : decode cX3_clear 0 = .ok (.aload_n 0, 1) := by decide +kernel
theorem dX3_clear_1 : decode cX3_clear 1 = .ok (.iconst 0, 1) := by decide +kernel
theorem dX3_clear_2 : decode cX3_clear 2 = .ok (.putfield 28, 3) := by decide +kernel
theorem dX3_clear_5 : decode cX3_clear 5 = .ok (.aload_n 0, 1) := by decide +kernel
theorem dX3_clear_6 : decode cX3_clear 6 = .ok (.iconst 0, 1) := by decide +kernel
theorem dX3_clear_7 : decode cX3_clear 7 = .ok (.putfield 32, 3) := by decide +kernel
theorem dX3_clear_10 : decode cX3_clear 10 = .ok (.aload_n 0, 1) := by decide +kernel
theorem dX3_clear_11 : decode cX3_clear 11 = .ok (.iconst (-1), 1) := by decide +kernel
theorem dX3_clear_12 : decode cX3_clear 12 = .ok (.putfield 35, 3) := by decide +kernel
theorem dX3_clear_15 : decode cX3_clear 15 = .ok (.iconst 0, 1) := by decide +kernel
theorem dX3_clear_16 : decode cX3_clear 16 = .ok (.istore_n 1, 1) := by decide +kernel
theorem dX3_clear_17 : decode cX3_clear 17 = .ok (.iload_n 1, 1) := by decide +kernel
theorem dX3_clear_18 : decode cX3_clear 18 = .ok (.aload_n 0, 1) := by decide +kernel
theorem dX3_clear_19 : decode cX3_clear 19 = .ok (.getfield 22, 3) := by decide +kernel
theorem dX3_clear_22 : decode cX3_clear 22 = .ok (.arraylength, 1) := by decide +kernel
theorem dX3_clear_23 : decode cX3_clear 23 = .ok (.if_icmp .ge 32, 3) := by decide +kernel
theorem dX3_clear_26 : decode cX3_clear 26 = .ok (.iload_n 1, 1) := by decide +kernel
theorem dX3_clear_27 : decode cX3_clear 27 = .ok (.aload_n 0, 1) := by decide +kernel
theorem dX3_clear_28 : decode cX3_clear 28 = .ok (.getfield 25, 3) := by decide +kernel
theorem dX3_clear_31 : decode cX3_clear 31 = .ok (.arraylength, 1) := by decide +kernel
theorem dX3_clear_32 : decode cX3_clear 32 = .ok (.if_icmp .ge 23, 3) := by decide +kernel
theorem dX3_clear_35 : decode cX3_clear 35 = .ok (.aload_n 0, 1) := by decide +kernel
theorem dX3_clear_36 : decode cX3_clear 36 = .ok (.getfield 22, 3) := by decide +kernel
theorem dX3_clear_39 : decode cX3_clear 39 = .ok (.iload_n 1, 1) := by decide +kernel
theorem dX3_clear_40 : decode cX3_clear 40 = .ok (.iconst 0, 1) := by decide +kernel
theorem dX3_clear_41 : decode cX3_clear 41 = .ok (.castore, 1) := by decide +kernel
theorem dX3_clear_42 : decode cX3_clear 42 = .ok (.aload_n 0, 1) := by decide +kernel
theorem dX3_clear_43 : decode cX3_clear 43 = .ok (.getfield 25, 3) := by decide +kernel
theorem dX3_clear_46 : decode cX3_clear 46 = .ok (.iload_n 1, 1) := by decide +kernel
theorem dX3_clear_47 : decode cX3_clear 47 = .ok (.iconst (-1), 1) := by decide +kernel
theorem dX3_clear_48 : decode cX3_clear 48 = .ok (.iastore, 1) := by decide +kernel
theorem dX3_clear_49 : decode cX3_clear 49 = .ok (.iinc 1 1, 3) := by decide +kernel
theorem dX3_clear_52 : decode cX3_clear 52 = .ok (.goto (-35), 3) := by decide +kernel
theorem dX3_clear_55 : decode cX3_clear 55 = .ok (.return_, 1) := by decide +kernel
theorem dX3_build_0 : decode cX3_build 0 = .ok (.aload_n 0, 1) := by decide +kernel
theorem dX3_build_1 : decode cX3_build 1 = .ok (.invokevirtual 38, 3) := by decide +kernel
theorem dX3_build_4 : decode cX3_build 4 = .ok (.iconst 0, 1) := by decide +kernel
theorem dX3_build_5 : decode cX3_build 5 = .ok (.istore_n 2, 1) := by decide +kernel
theorem dX3_build_6 : decode cX3_build 6 = .ok (.iload_n 2, 1) := by decide +kernel
theorem dX3_build_7 : decode cX3_build 7 = .ok (.bipush 10, 2) := by decide +kernel
theorem dX3_build_9 : decode cX3_build 9 = .ok (.if_icmp .ge 81, 3) := by decide +kernel
theorem dX3_build_12 : decode cX3_build 12 = .ok (.aload_n 1, 1) := by decide +kernel
theorem dX3_build_13 : decode cX3_build 13 = .ok (.iload_n 2, 1) := by decide +kernel
theorem dX3_build_14 : decode cX3_build 14 = .ok (.invokevirtual 41, 3) := by decide +kernel
theorem dX3_build_17 : decode cX3_build 17 = .ok (.astore_n 3, 1) := by decide +kernel
theorem dX3_build_18 : decode cX3_build 18 = .ok (.aload_n 3, 1) := by decide +kernel
theorem dX3_build_19 : decode cX3_build 19 = .ok (.ifnonnull 6, 3) := by decide +kernel
theorem dX3_build_22 : decode cX3_build 22 = .ok (.goto 62, 3) := by decide +kernel
theorem dX3_build_25 : decode cX3_build 25 = .ok (.new 47, 3) := by decide +kernel
theorem dX3_build_28 : decode cX3_build 28 = .ok (.dup, 1) := by decide +kernel
theorem dX3_build_29 : decode cX3_build 29 = .ok (.aload_n 3, 1) := by decide +kernel
theorem dX3_build_30 : decode cX3_build 30 = .ok (.invokevirtual 49, 3) := by decide +kernel
theorem dX3_build_33 : decode cX3_build 33 = .ok (.aload_n 0, 1) := by decide +kernel
theorem dX3_build_34 : decode cX3_build 34 = .ok (.invokespecial 55, 3) := by decide +kernel
theorem dX3_build_37 : decode cX3_build 37 = .ok (.astore 4, 2) := by decide +kernel
theorem dX3_build_39 : decode cX3_build 39 = .ok (.iload_n 2, 1) := by decide +kernel
theorem dX3_build_40 : decode cX3_build 40 = .ok (.ifCond .ne 15, 3) := by decide +kernel
theorem dX3_build_43 : decode cX3_build 43 = .ok (.aload_n 0, 1) := by decide +kernel
theorem dX3_build_44 : decode cX3_build 44 = .ok (.aload 4, 2) := by decide +kernel
theorem dX3_build_46 : decode cX3_build 46 = .ok (.invokevirtual 58, 3) := by decide +kernel
theorem dX3_build_49 : decode cX3_build 49 = .ok (.putfield 35, 3) := by decide +kernel
theorem dX3_build_52 : decode cX3_build 52 = .ok (.goto 32, 3) := by decide +kernel
theorem dX3_build_55 : decode cX3_build 55 = .ok (.iload_n 2, 1) := by decide +kernel
theorem dX3_build_56 : decode cX3_build 56 = .ok (.bipush 6, 2) := by decide +kernel
theorem dX3_build_58 : decode cX3_build 58 = .ok (.if_icmp .ge 14, 3) := by decide +kernel
theorem dX3_build_61 : decode cX3_build 61 = .ok (.aload 4, 2) := by decide +kernel
theorem dX3_build_63 : decode cX3_build 63 = .ok (.iload_n 2, 1) := by decide +kernel
theorem dX3_build_64 : decode cX3_build 64 = .ok (.iconst 1, 1) := by decide +kernel
theorem dX3_build_65 : decode cX3_build 65 = .ok (.isub, 1) := by decide +kernel
theorem dX3_build_66 : decode cX3_build 66 = .ok (.invokevirtual 62, 3) := by decide +kernel
theorem dX3_build_69 : decode cX3_build 69 = .ok (.goto 15, 3) := by decide +kernel
theorem dX3_build_72 : decode cX3_build 72 = .ok (.aload 4, 2) := by decide +kernel
theorem dX3_build_74 : decode cX3_build 74 = .ok (.bipush 8, 2) := by decide +kernel
theorem dX3_build_76 : decode cX3_build 76 = .ok (.iload_n 2, 1) := by decide +kernel
theorem dX3_build_77 : decode cX3_build 77 = .ok (.iadd, 1) := by decide +kernel
theorem dX3_build_78 : decode cX3_build 78 = .ok (.bipush 6, 2) := by decide +kernel
theorem dX3_build_80 : decode cX3_build 80 = .ok (.isub, 1) := by decide +kernel
theorem dX3_build_81 : decode cX3_build 81 = .ok (.invokevirtual 62, 3) := by decide +kernel
theorem dX3_build_84 : decode cX3_build 84 = .ok (.iinc 2 1, 3) := by decide +kernel
theorem dX3_build_87 : decode cX3_build 87 = .ok (.goto (-81), 3) := by decide +kernel
theorem dX3_build_90 : decode cX3_build 90 = .ok (.return_, 1) := by decide +kernel
theorem dX3_addNode_0 : decode cX3_addNode 0 = .ok (.aload_n 0, 1) := by decide +kernel
theorem dX3_addNode_1 : decode cX3_addNode 1 = .ok (.getfield 28, 3) := by decide +kernel
theorem dX3_addNode_4 : decode cX3_addNode 4 = .ok (.ifCond .lt 12, 3) := by decide +kernel
theorem dX3_addNode_7 : decode cX3_addNode 7 = .ok (.aload_n 0, 1) := by decide +kernel
theorem dX3_addNode_8 : decode cX3_addNode 8 = .ok (.getfield 28, 3) := by decide +kernel
theorem dX3_addNode_11 : decode cX3_addNode 11 = .ok (.bipush 60, 2) := by decide +kernel
theorem dX3_addNode_13 : decode cX3_addNode 13 = .ok (.if_icmp .lt 5, 3) := by decide +kernel
theorem dX3_addNode_16 : decode cX3_addNode 16 = .ok (.iconst (-1), 1) := by decide +kernel
theorem dX3_addNode_17 : decode cX3_addNode 17 = .ok (.ireturn, 1) := by decide +kernel
theorem dX3_addNode_18 : decode cX3_addNode 18 = .ok (.aload_n 0, 1) := by decide +kernel
theorem dX3_addNode_19 : decode cX3_addNode 19 = .ok (.getfield 28, 3) := by decide +kernel
theorem dX3_addNode_22 : decode cX3_addNode 22 = .ok (.istore 4, 2) := by decide +kernel
theorem dX3_addNode_24 : decode cX3_addNode 24 = .ok (.aload_n 0, 1) := by decide +kernel
theorem dX3_addNode_25 : decode cX3_addNode 25 = .ok (.getfield 9, 3) := by decide +kernel
theorem dX3_addNode_28 : decode cX3_addNode 28 = .ok (.iload 4, 2) := by decide +kernel
theorem dX3_addNode_30 : decode cX3_addNode 30 = .ok (.iload_n 1, 1) := by decide +kernel
theorem dX3_addNode_31 : decode cX3_addNode 31 = .ok (.castore, 1) := by decide +kernel
theorem dX3_addNode_32 : decode cX3_addNode 32 = .ok (.aload_n 0, 1) := by decide +kernel
theorem dX3_addNode_33 : decode cX3_addNode 33 = .ok (.getfield 15, 3) := by decide +kernel
theorem dX3_addNode_36 : decode cX3_addNode 36 = .ok (.iload 4, 2) := by decide +kernel
theorem dX3_addNode_38 : decode cX3_addNode 38 = .ok (.iload_n 2, 1) := by decide +kernel
theorem dX3_addNode_39 : decode cX3_addNode 39 = .ok (.iastore, 1) := by decide +kernel
theorem dX3_addNode_40 : decode cX3_addNode 40 = .ok (.aload_n 0, 1) := by decide +kernel
theorem dX3_addNode_41 : decode cX3_addNode 41 = .ok (.getfield 19, 3) := by decide +kernel
theorem dX3_addNode_44 : decode cX3_addNode 44 = .ok (.iload 4, 2) := by decide +kernel
theorem dX3_addNode_46 : decode cX3_addNode 46 = .ok (.iload_n 3, 1) := by decide +kernel
theorem dX3_addNode_47 : decode cX3_addNode 47 = .ok (.iastore, 1) := by decide +kernel
theorem dX3_addNode_48 : decode cX3_addNode 48 = .ok (.aload_n 0, 1) := by decide +kernel
theorem dX3_addNode_49 : decode cX3_addNode 49 = .ok (.dup, 1) := by decide +kernel
theorem dX3_addNode_50 : decode cX3_addNode 50 = .ok (.getfield 28, 3) := by decide +kernel
theorem dX3_addNode_53 : decode cX3_addNode 53 = .ok (.iconst 1, 1) := by decide +kernel
theorem dX3_addNode_54 : decode cX3_addNode 54 = .ok (.iadd, 1) := by decide +kernel
theorem dX3_addNode_55 : decode cX3_addNode 55 = .ok (.putfield 28, 3) := by decide +kernel
theorem dX3_addNode_58 : decode cX3_addNode 58 = .ok (.iload 4, 2) := by decide +kernel
theorem dX3_addNode_60 : decode cX3_addNode 60 = .ok (.ireturn, 1) := by decide +kernel
theorem dX3_addLoan_0 : decode cX3_addLoan 0 = .ok (.iconst 5, 1) := by decide +kernel
theorem dX3_addLoan_1 : decode cX3_addLoan 1 = .ok (.aload_n 0, 1) := by decide +kernel
theorem dX3_addLoan_2 : decode cX3_addLoan 2 = .ok (.getfield 32, 3) := by decide +kernel
theorem dX3_addLoan_5 : decode cX3_addLoan 5 = .ok (.iadd, 1) := by decide +kernel
theorem dX3_addLoan_6 : decode cX3_addLoan 6 = .ok (.istore_n 1, 1) := by decide +kernel
theorem dX3_addLoan_7 : decode cX3_addLoan 7 = .ok (.aload_n 0, 1) := by decide +kernel
theorem dX3_addLoan_8 : decode cX3_addLoan 8 = .ok (.dup, 1) := by decide +kernel
theorem dX3_addLoan_9 : decode cX3_addLoan 9 = .ok (.getfield 32, 3) := by decide +kernel
theorem dX3_addLoan_12 : decode cX3_addLoan 12 = .ok (.iconst 1, 1) := by decide +kernel
theorem dX3_addLoan_13 : decode cX3_addLoan 13 = .ok (.iadd, 1) := by decide +kernel
theorem dX3_addLoan_14 : decode cX3_addLoan 14 = .ok (.putfield 32, 3) := by decide +kernel
theorem dX3_addLoan_17 : decode cX3_addLoan 17 = .ok (.iload_n 1, 1) := by decide +kernel
theorem dX3_addLoan_18 : decode cX3_addLoan 18 = .ok (.bipush 8, 2) := by decide +kernel
theorem dX3_addLoan_20 : decode cX3_addLoan 20 = .ok (.if_icmp .ge 7, 3) := by decide +kernel
theorem dX3_addLoan_23 : decode cX3_addLoan 23 = .ok (.iload_n 1, 1) := by decide +kernel
theorem dX3_addLoan_24 : decode cX3_addLoan 24 = .ok (.goto 4, 3) := by decide +kernel
theorem dX3_addLoan_27 : decode cX3_addLoan 27 = .ok (.iconst (-1), 1) := by decide +kernel
theorem dX3_addLoan_28 : decode cX3_addLoan 28 = .ok (.ireturn, 1) := by decide +kernel
theorem dX3_setFace_0 : decode cX3_setFace 0 = .ok (.iload_n 1, 1) := by decide +kernel
theorem dX3_setFace_1 : decode cX3_setFace 1 = .ok (.iload_n 2, 1) := by decide +kernel
theorem dX3_setFace_2 : decode cX3_setFace 2 = .ok (.invokestatic 66, 3) := by decide +kernel
theorem dX3_setFace_5 : decode cX3_setFace 5 = .ok (.ifCond .eq 26, 3) := by decide +kernel
theorem dX3_setFace_8 : decode cX3_setFace 8 = .ok (.aload_n 0, 1) := by decide +kernel
theorem dX3_setFace_9 : decode cX3_setFace 9 = .ok (.getfield 22, 3) := by decide +kernel
theorem dX3_setFace_12 : decode cX3_setFace 12 = .ok (.iload_n 1, 1) := by decide +kernel
theorem dX3_setFace_13 : decode cX3_setFace 13 = .ok (.iconst 3, 1) := by decide +kernel
theorem dX3_setFace_14 : decode cX3_setFace 14 = .ok (.imul, 1) := by decide +kernel
theorem dX3_setFace_15 : decode cX3_setFace 15 = .ok (.iload_n 2, 1) := by decide +kernel
theorem dX3_setFace_16 : decode cX3_setFace 16 = .ok (.iadd, 1) := by decide +kernel
theorem dX3_setFace_17 : decode cX3_setFace 17 = .ok (.iload_n 3, 1) := by decide +kernel
theorem dX3_setFace_18 : decode cX3_setFace 18 = .ok (.castore, 1) := by decide +kernel
theorem dX3_setFace_19 : decode cX3_setFace 19 = .ok (.aload_n 0, 1) := by decide +kernel
theorem dX3_setFace_20 : decode cX3_setFace 20 = .ok (.getfield 25, 3) := by decide +kernel
theorem dX3_setFace_23 : decode cX3_setFace 23 = .ok (.iload_n 1, 1) := by decide +kernel
theorem dX3_setFace_24 : decode cX3_setFace 24 = .ok (.iconst 3, 1) := by decide +kernel
theorem dX3_setFace_25 : decode cX3_setFace 25 = .ok (.imul, 1) := by decide +kernel
theorem dX3_setFace_26 : decode cX3_setFace 26 = .ok (.iload_n 2, 1) := by decide +kernel
theorem dX3_setFace_27 : decode cX3_setFace 27 = .ok (.iadd, 1) := by decide +kernel
theorem dX3_setFace_28 : decode cX3_setFace 28 = .ok (.iload 4, 2) := by decide +kernel
theorem dX3_setFace_30 : decode cX3_setFace 30 = .ok (.iastore, 1) := by decide +kernel
theorem dX3_setFace_31 : decode cX3_setFace 31 = .ok (.return_, 1) := by decide +kernel
theorem dX3_nodes_0 : decode cX3_nodes 0 = .ok (.aload_n 0, 1) := by decide +kernel
theorem dX3_nodes_1 : decode cX3_nodes 1 = .ok (.getfield 28, 3) := by decide +kernel
theorem dX3_nodes_4 : decode cX3_nodes 4 = .ok (.ireturn, 1) := by decide +kernel
theorem dX3_loans_0 : decode cX3_loans 0 = .ok (.aload_n 0, 1) := by decide +kernel
theorem dX3_loans_1 : decode cX3_loans 1 = .ok (.getfield 32, 3) := by decide +kernel
theorem dX3_loans_4 : decode cX3_loans 4 = .ok (.ireturn, 1) := by decide +kernel
theorem dX3_root_0 : decode cX3_root 0 = .ok (.aload_n 0, 1) := by decide +kernel
theorem dX3_root_1 : decode cX3_root 1 = .ok (.getfield 35, 3) := by decide +kernel
theorem dX3_root_4 : decode cX3_root 4 = .ok (.ireturn, 1) := by decide +kernel
theorem dX3_kind_0 : decode cX3_kind 0 = .ok (.aload_n 0, 1) := by decide +kernel
theorem dX3_kind_1 : decode cX3_kind 1 = .ok (.iload_n 1, 1) := by decide +kernel
theorem dX3_kind_2 : decode cX3_kind 2 = .ok (.invokevirtual 70, 3) := by decide +kernel
theorem dX3_kind_5 : decode cX3_kind 5 = .ok (.ifCond .eq 12, 3) := by decide +kernel
theorem dX3_kind_8 : decode cX3_kind 8 = .ok (.aload_n 0, 1) := by decide +kernel
theorem dX3_kind_9 : decode cX3_kind 9 = .ok (.getfield 9, 3) := by decide +kernel
theorem dX3_kind_12 : decode cX3_kind 12 = .ok (.iload_n 1, 1) := by decide +kernel
theorem dX3_kind_13 : decode cX3_kind 13 = .ok (.caload, 1) := by decide +kernel
theorem dX3_kind_14 : decode cX3_kind 14 = .ok (.goto 4, 3) := by decide +kernel
theorem dX3_kind_17 : decode cX3_kind 17 = .ok (.iconst 0, 1) := by decide +kernel
theorem dX3_kind_18 : decode cX3_kind 18 = .ok (.ireturn, 1) := by decide +kernel
theorem dX3_first_0 : decode cX3_first 0 = .ok (.aload_n 0, 1) := by decide +kernel
theorem dX3_first_1 : decode cX3_first 1 = .ok (.iload_n 1, 1) := by decide +kernel
theorem dX3_first_2 : decode cX3_first 2 = .ok (.invokevirtual 70, 3) := by decide +kernel
theorem dX3_first_5 : decode cX3_first 5 = .ok (.ifCond .eq 12, 3) := by decide +kernel
theorem dX3_first_8 : decode cX3_first 8 = .ok (.aload_n 0, 1) := by decide +kernel
theorem dX3_first_9 : decode cX3_first 9 = .ok (.getfield 15, 3) := by decide +kernel
theorem dX3_first_12 : decode cX3_first 12 = .ok (.iload_n 1, 1) := by decide +kernel
theorem dX3_first_13 : decode cX3_first 13 = .ok (.iaload, 1) := by decide +kernel
theorem dX3_first_14 : decode cX3_first 14 = .ok (.goto 4, 3) := by decide +kernel
theorem dX3_first_17 : decode cX3_first 17 = .ok (.iconst (-1), 1) := by decide +kernel
theorem dX3_first_18 : decode cX3_first 18 = .ok (.ireturn, 1) := by decide +kernel
theorem dX3_second_0 : decode cX3_second 0 = .ok (.aload_n 0, 1) := by decide +kernel
theorem dX3_second_1 : decode cX3_second 1 = .ok (.iload_n 1, 1) := by decide +kernel
theorem dX3_second_2 : decode cX3_second 2 = .ok (.invokevirtual 70, 3) := by decide +kernel
theorem dX3_second_5 : decode cX3_second 5 = .ok (.ifCond .eq 12, 3) := by decide +kernel
theorem dX3_second_8 : decode cX3_second 8 = .ok (.aload_n 0, 1) := by decide +kernel
theorem dX3_second_9 : decode cX3_second 9 = .ok (.getfield 19, 3) := by decide +kernel
theorem dX3_second_12 : decode cX3_second 12 = .ok (.iload_n 1, 1) := by decide +kernel
theorem dX3_second_13 : decode cX3_second 13 = .ok (.iaload, 1) := by decide +kernel
theorem dX3_second_14 : decode cX3_second 14 = .ok (.goto 4, 3) := by decide +kernel
theorem dX3_second_17 : decode cX3_second 17 = .ok (.iconst (-1), 1) := by decide +kernel
theorem dX3_second_18 : decode cX3_second 18 = .ok (.ireturn, 1) := by decide +kernel
theorem dX3_loanBit_0 : decode cX3_loanBit 0 = .ok (.aload_n 0, 1) := by decide +kernel
theorem dX3_loanBit_1 : decode cX3_loanBit 1 = .ok (.iload_n 1, 1) := by decide +kernel
theorem dX3_loanBit_2 : decode cX3_loanBit 2 = .ok (.invokevirtual 74, 3) := by decide +kernel
theorem dX3_loanBit_5 : decode cX3_loanBit 5 = .ok (.istore_n 2, 1) := by decide +kernel
theorem dX3_loanBit_6 : decode cX3_loanBit 6 = .ok (.iload_n 2, 1) := by decide +kernel
theorem dX3_loanBit_7 : decode cX3_loanBit 7 = .ok (.iconst 5, 1) := by decide +kernel
theorem dX3_loanBit_8 : decode cX3_loanBit 8 = .ok (.if_icmp .lt 15, 3) := by decide +kernel
theorem dX3_loanBit_11 : decode cX3_loanBit 11 = .ok (.iload_n 2, 1) := by decide +kernel
theorem dX3_loanBit_12 : decode cX3_loanBit 12 = .ok (.bipush 8, 2) := by decide +kernel
theorem dX3_loanBit_14 : decode cX3_loanBit 14 = .ok (.if_icmp .ge 9, 3) := by decide +kernel
theorem dX3_loanBit_17 : decode cX3_loanBit 17 = .ok (.iconst 1, 1) := by decide +kernel
theorem dX3_loanBit_18 : decode cX3_loanBit 18 = .ok (.iload_n 2, 1) := by decide +kernel
theorem dX3_loanBit_19 : decode cX3_loanBit 19 = .ok (.ishl, 1) := by decide +kernel
theorem dX3_loanBit_20 : decode cX3_loanBit 20 = .ok (.goto 4, 3) := by decide +kernel
theorem dX3_loanBit_23 : decode cX3_loanBit 23 = .ok (.iconst 0, 1) := by decide +kernel
theorem dX3_loanBit_24 : decode cX3_loanBit 24 = .ok (.ireturn, 1) := by decide +kernel
theorem dX3_hasHead_0 : decode cX3_hasHead 0 = .ok (.iload_n 1, 1) := by decide +kernel
theorem dX3_hasHead_1 : decode cX3_hasHead 1 = .ok (.iload_n 2, 1) := by decide +kernel
theorem dX3_hasHead_2 : decode cX3_hasHead 2 = .ok (.invokestatic 66, 3) := by decide +kernel
theorem dX3_hasHead_5 : decode cX3_hasHead 5 = .ok (.ifCond .eq 25, 3) := by decide +kernel
theorem dX3_hasHead_8 : decode cX3_hasHead 8 = .ok (.iload_n 3, 1) := by decide +kernel
theorem dX3_hasHead_9 : decode cX3_hasHead 9 = .ok (.ifCond .eq 21, 3) := by decide +kernel
theorem dX3_hasHead_12 : decode cX3_hasHead 12 = .ok (.aload_n 0, 1) := by decide +kernel
theorem dX3_hasHead_13 : decode cX3_hasHead 13 = .ok (.getfield 22, 3) := by decide +kernel
theorem dX3_hasHead_16 : decode cX3_hasHead 16 = .ok (.iload_n 1, 1) := by decide +kernel
theorem dX3_hasHead_17 : decode cX3_hasHead 17 = .ok (.iconst 3, 1) := by decide +kernel
theorem dX3_hasHead_18 : decode cX3_hasHead 18 = .ok (.imul, 1) := by decide +kernel
theorem dX3_hasHead_19 : decode cX3_hasHead 19 = .ok (.iload_n 2, 1) := by decide +kernel
theorem dX3_hasHead_20 : decode cX3_hasHead 20 = .ok (.iadd, 1) := by decide +kernel
theorem dX3_hasHead_21 : decode cX3_hasHead 21 = .ok (.caload, 1) := by decide +kernel
theorem dX3_hasHead_22 : decode cX3_hasHead 22 = .ok (.iload_n 3, 1) := by decide +kernel
theorem dX3_hasHead_23 : decode cX3_hasHead 23 = .ok (.if_icmp .ne 7, 3) := by decide +kernel
theorem dX3_hasHead_26 : decode cX3_hasHead 26 = .ok (.iconst 1, 1) := by decide +kernel
theorem dX3_hasHead_27 : decode cX3_hasHead 27 = .ok (.goto 4, 3) := by decide +kernel
theorem dX3_hasHead_30 : decode cX3_hasHead 30 = .ok (.iconst 0, 1) := by decide +kernel
theorem dX3_hasHead_31 : decode cX3_hasHead 31 = .ok (.ireturn, 1) := by decide +kernel
theorem dX3_body_0 : decode cX3_body 0 = .ok (.iload_n 1, 1) := by decide +kernel
theorem dX3_body_1 : decode cX3_body 1 = .ok (.iload_n 2, 1) := by decide +kernel
theorem dX3_body_2 : decode cX3_body 2 = .ok (.invokestatic 66, 3) := by decide +kernel
theorem dX3_body_5 : decode cX3_body 5 = .ok (.ifCond .eq 16, 3) := by decide +kernel
theorem dX3_body_8 : decode cX3_body 8 = .ok (.aload_n 0, 1) := by decide +kernel
theorem dX3_body_9 : decode cX3_body 9 = .ok (.getfield 25, 3) := by decide +kernel
theorem dX3_body_12 : decode cX3_body 12 = .ok (.iload_n 1, 1) := by decide +kernel
theorem dX3_body_13 : decode cX3_body 13 = .ok (.iconst 3, 1) := by decide +kernel
theorem dX3_body_14 : decode cX3_body 14 = .ok (.imul, 1) := by decide +kernel
theorem dX3_body_15 : decode cX3_body 15 = .ok (.iload_n 2, 1) := by decide +kernel
theorem dX3_body_16 : decode cX3_body 16 = .ok (.iadd, 1) := by decide +kernel
theorem dX3_body_17 : decode cX3_body 17 = .ok (.iaload, 1) := by decide +kernel
theorem dX3_body_18 : decode cX3_body 18 = .ok (.goto 4, 3) := by decide +kernel
theorem dX3_body_21 : decode cX3_body 21 = .ok (.iconst (-1), 1) := by decide +kernel
theorem dX3_body_22 : decode cX3_body 22 = .ok (.ireturn, 1) := by decide +kernel
theorem dX3_singles_0 : decode cX3_singles 0 = .ok (.iconst 0, 1) := by decide +kernel
theorem dX3_singles_1 : decode cX3_singles 1 = .ok (.istore_n 1, 1) := by decide +kernel
theorem dX3_singles_2 : decode cX3_singles 2 = .ok (.iconst 0, 1) := by decide +kernel
theorem dX3_singles_3 : decode cX3_singles 3 = .ok (.istore_n 2, 1) := by decide +kernel
theorem dX3_singles_4 : decode cX3_singles 4 = .ok (.iload_n 2, 1) := by decide +kernel
theorem dX3_singles_5 : decode cX3_singles 5 = .ok (.bipush 8, 2) := by decide +kernel
theorem dX3_singles_7 : decode cX3_singles 7 = .ok (.if_icmp .ge 26, 3) := by decide +kernel
theorem dX3_singles_10 : decode cX3_singles 10 = .ok (.aload_n 0, 1) := by decide +kernel
theorem dX3_singles_11 : decode cX3_singles 11 = .ok (.getfield 22, 3) := by decide +kernel
theorem dX3_singles_14 : decode cX3_singles 14 = .ok (.iload_n 2, 1) := by decide +kernel
theorem dX3_singles_15 : decode cX3_singles 15 = .ok (.iconst 3, 1) := by decide +kernel
theorem dX3_singles_16 : decode cX3_singles 16 = .ok (.imul, 1) := by decide +kernel
theorem dX3_singles_17 : decode cX3_singles 17 = .ok (.caload, 1) := by decide +kernel
theorem dX3_singles_18 : decode cX3_singles 18 = .ok (.ifCond .eq 9, 3) := by decide +kernel
theorem dX3_singles_21 : decode cX3_singles 21 = .ok (.iload_n 1, 1) := by decide +kernel
theorem dX3_singles_22 : decode cX3_singles 22 = .ok (.iconst 1, 1) := by decide +kernel
theorem dX3_singles_23 : decode cX3_singles 23 = .ok (.iload_n 2, 1) := by decide +kernel
theorem dX3_singles_24 : decode cX3_singles 24 = .ok (.ishl, 1) := by decide +kernel
theorem dX3_singles_25 : decode cX3_singles 25 = .ok (.ior, 1) := by decide +kernel
theorem dX3_singles_26 : decode cX3_singles 26 = .ok (.istore_n 1, 1) := by decide +kernel
theorem dX3_singles_27 : decode cX3_singles 27 = .ok (.iinc 2 1, 3) := by decide +kernel
theorem dX3_singles_30 : decode cX3_singles 30 = .ok (.goto (-26), 3) := by decide +kernel
theorem dX3_singles_33 : decode cX3_singles 33 = .ok (.iload_n 1, 1) := by decide +kernel
theorem dX3_singles_34 : decode cX3_singles 34 = .ok (.ireturn, 1) := by decide +kernel
theorem dX3_afterUse_0 : decode cX3_afterUse 0 = .ok (.iload_n 0, 1) := by decide +kernel
theorem dX3_afterUse_1 : decode cX3_afterUse 1 = .ok (.bipush 8, 2) := by decide +kernel
theorem dX3_afterUse_3 : decode cX3_afterUse 3 = .ok (.if_icmp .lt 5, 3) := by decide +kernel
theorem dX3_afterUse_6 : decode cX3_afterUse 6 = .ok (.iload_n 1, 1) := by decide +kernel
theorem dX3_afterUse_7 : decode cX3_afterUse 7 = .ok (.ireturn, 1) := by decide +kernel
theorem dX3_afterUse_8 : decode cX3_afterUse 8 = .ok (.iconst 1, 1) := by decide +kernel
theorem dX3_afterUse_9 : decode cX3_afterUse 9 = .ok (.iload_n 0, 1) := by decide +kernel
theorem dX3_afterUse_10 : decode cX3_afterUse 10 = .ok (.ishl, 1) := by decide +kernel
theorem dX3_afterUse_11 : decode cX3_afterUse 11 = .ok (.istore_n 2, 1) := by decide +kernel
theorem dX3_afterUse_12 : decode cX3_afterUse 12 = .ok (.iload_n 1, 1) := by decide +kernel
theorem dX3_afterUse_13 : decode cX3_afterUse 13 = .ok (.iload_n 2, 1) := by decide +kernel
theorem dX3_afterUse_14 : decode cX3_afterUse 14 = .ok (.iand, 1) := by decide +kernel
theorem dX3_afterUse_15 : decode cX3_afterUse 15 = .ok (.ifCond .eq 9, 3) := by decide +kernel
theorem dX3_afterUse_18 : decode cX3_afterUse 18 = .ok (.iload_n 1, 1) := by decide +kernel
theorem dX3_afterUse_19 : decode cX3_afterUse 19 = .ok (.iload_n 2, 1) := by decide +kernel
theorem dX3_afterUse_20 : decode cX3_afterUse 20 = .ok (.ixor, 1) := by decide +kernel
theorem dX3_afterUse_21 : decode cX3_afterUse 21 = .ok (.goto 4, 3) := by decide +kernel
theorem dX3_afterUse_24 : decode cX3_afterUse 24 = .ok (.iconst (-1), 1) := by decide +kernel
theorem dX3_afterUse_25 : decode cX3_afterUse 25 = .ok (.ireturn, 1) := by decide +kernel
theorem dX3_isFace_0 : decode cX3_isFace 0 = .ok (.iload_n 0, 1) := by decide +kernel
theorem dX3_isFace_1 : decode cX3_isFace 1 = .ok (.ifCond .lt 22, 3) := by decide +kernel
theorem dX3_isFace_4 : decode cX3_isFace 4 = .ok (.iload_n 0, 1) := by decide +kernel
theorem dX3_isFace_5 : decode cX3_isFace 5 = .ok (.bipush 12, 2) := by decide +kernel
theorem dX3_isFace_7 : decode cX3_isFace 7 = .ok (.if_icmp .ge 16, 3) := by decide +kernel
theorem dX3_isFace_10 : decode cX3_isFace 10 = .ok (.iload_n 1, 1) := by decide +kernel
theorem dX3_isFace_11 : decode cX3_isFace 11 = .ok (.ifCond .lt 12, 3) := by decide +kernel
theorem dX3_isFace_14 : decode cX3_isFace 14 = .ok (.iload_n 1, 1) := by decide +kernel
theorem dX3_isFace_15 : decode cX3_isFace 15 = .ok (.iconst 3, 1) := by decide +kernel
theorem dX3_isFace_16 : decode cX3_isFace 16 = .ok (.if_icmp .ge 7, 3) := by decide +kernel
theorem dX3_isFace_19 : decode cX3_isFace 19 = .ok (.iconst 1, 1) := by decide +kernel
theorem dX3_isFace_20 : decode cX3_isFace 20 = .ok (.goto 4, 3) := by decide +kernel
theorem dX3_isFace_23 : decode cX3_isFace 23 = .ok (.iconst 0, 1) := by decide +kernel
theorem dX3_isFace_24 : decode cX3_isFace 24 = .ok (.ireturn, 1) := by decide +kernel
theorem dX3_isNode_0 : decode cX3_isNode 0 = .ok (.iload_n 1, 1) := by decide +kernel
theorem dX3_isNode_1 : decode cX3_isNode 1 = .ok (.ifCond .lt 21, 3) := by decide +kernel
theorem dX3_isNode_4 : decode cX3_isNode 4 = .ok (.iload_n 1, 1) := by decide +kernel
theorem dX3_isNode_5 : decode cX3_isNode 5 = .ok (.aload_n 0, 1) := by decide +kernel
theorem dX3_isNode_6 : decode cX3_isNode 6 = .ok (.getfield 28, 3) := by decide +kernel
theorem dX3_isNode_9 : decode cX3_isNode 9 = .ok (.if_icmp .ge 13, 3) := by decide +kernel
theorem dX3_isNode_12 : decode cX3_isNode 12 = .ok (.iload_n 1, 1) := by decide +kernel
theorem dX3_isNode_13 : decode cX3_isNode 13 = .ok (.bipush 60, 2) := by decide +kernel
theorem dX3_isNode_15 : decode cX3_isNode 15 = .ok (.if_icmp .ge 7, 3) := by decide +kernel
theorem dX3_isNode_18 : decode cX3_isNode 18 = .ok (.iconst 1, 1) := by decide +kernel
theorem dX3_isNode_19 : decode cX3_isNode 19 = .ok (.goto 4, 3) := by decide +kernel
theorem dX3_isNode_22 : decode cX3_isNode 22 = .ok (.iconst 0, 1) := by decide +kernel
theorem dX3_isNode_23 : decode cX3_isNode 23 = .ok (.ireturn, 1) := by decide +kernel
theorem dX4_init_0 : decode cX4_init 0 = .ok (.aload_n 0, 1) := by decide +kernel
theorem dX4_init_1 : decode cX4_init 1 = .ok (.invokespecial 3, 3) := by decide +kernel
theorem dX4_init_4 : decode cX4_init 4 = .ok (.aload_n 0, 1) := by decide +kernel
theorem dX4_init_5 : decode cX4_init 5 = .ok (.sipush 2640, 3) := by decide +kernel
theorem dX4_init_8 : decode cX4_init 8 = .ok (.newarray .long, 2) := by decide +kernel
theorem dX4_init_10 : decode cX4_init 10 = .ok (.putfield 11, 3) := by decide +kernel
theorem dX4_init_13 : decode cX4_init 13 = .ok (.aload_n 0, 1) := by decide +kernel
theorem dX4_init_14 : decode cX4_init 14 = .ok (.iconst 4, 1) := by decide +kernel
theorem dX4_init_15 : decode cX4_init 15 = .ok (.newarray .long, 2) := by decide +kernel
theorem dX4_init_17 : decode cX4_init 17 = .ok (.putfield 15, 3) := by decide +kernel
theorem dX4_init_20 : decode cX4_init 20 = .ok (.aload_n 0, 1) := by decide +kernel
theorem dX4_init_21 : decode cX4_init 21 = .ok (.bipush 64, 2) := by decide +kernel
theorem dX4_init_23 : decode cX4_init 23 = .ok (.newarray .long, 2) := by decide +kernel
theorem dX4_init_25 : decode cX4_init 25 = .ok (.putfield 18, 3) := by decide +kernel
theorem dX4_init_28 : decode cX4_init 28 = .ok (.aload_n 0, 1) := by decide +kernel
theorem dX4_init_29 : decode cX4_init 29 = .ok (.iconst 0, 1) := by decide +kernel
theorem dX4_init_30 : decode cX4_init 30 = .ok (.putfield 21, 3) := by decide +kernel
theorem dX4_init_33 : decode cX4_init 33 = .ok (.aload_n 0, 1) := by decide +kernel
theorem dX4_init_34 : decode cX4_init 34 = .ok (.aload_n 1, 1) := by decide +kernel
theorem dX4_init_35 : decode cX4_init 35 = .ok (.putfield 25, 3) := by decide +kernel
theorem dX4_init_38 : decode cX4_init 38 = .ok (.iconst 0, 1) := by decide +kernel
theorem dX4_init_39 : decode cX4_init 39 = .ok (.istore_n 2, 1) := by decide +kernel
theorem dX4_init_40 : decode cX4_init 40 = .ok (.iload_n 2, 1) := by decide +kernel
theorem dX4_init_41 : decode cX4_init 41 = .ok (.aload_n 0, 1) := by decide +kernel
theorem dX4_init_42 : decode cX4_init 42 = .ok (.getfield 18, 3) := by decide +kernel
theorem dX4_init_45 : decode cX4_init 45 = .ok (.arraylength, 1) := by decide +kernel
theorem dX4_init_46 : decode cX4_init 46 = .ok (.if_icmp .ge 41, 3) := by decide +kernel
theorem dX4_init_49 : decode cX4_init 49 = .ok (.iconst 0, 1) := by decide +kernel
theorem dX4_init_50 : decode cX4_init 50 = .ok (.istore_n 3, 1) := by decide +kernel
theorem dX4_init_51 : decode cX4_init 51 = .ok (.iload_n 3, 1) := by decide +kernel
theorem dX4_init_52 : decode cX4_init 52 = .ok (.bipush 63, 2) := by decide +kernel
theorem dX4_init_54 : decode cX4_init 54 = .ok (.if_icmp .gt 27, 3) := by decide +kernel
theorem dX4_init_57 : decode cX4_init 57 = .ok (.iload_n 2, 1) := by decide +kernel
theorem dX4_init_58 : decode cX4_init 58 = .ok (.iload_n 3, 1) := by decide +kernel
theorem dX4_init_59 : decode cX4_init 59 = .ok (.iand, 1) := by decide +kernel
theorem dX4_init_60 : decode cX4_init 60 = .ok (.ifCond .ne 15, 3) := by decide +kernel
theorem dX4_init_63 : decode cX4_init 63 = .ok (.aload_n 0, 1) := by decide +kernel
theorem dX4_init_64 : decode cX4_init 64 = .ok (.getfield 18, 3) := by decide +kernel
theorem dX4_init_67 : decode cX4_init 67 = .ok (.iload_n 2, 1) := by decide +kernel
theorem dX4_init_68 : decode cX4_init 68 = .ok (.dup2, 1) := by decide +kernel
theorem dX4_init_69 : decode cX4_init 69 = .ok (.laload, 1) := by decide +kernel
theorem dX4_init_70 : decode cX4_init 70 = .ok (.lconst 1, 1) := by decide +kernel
theorem dX4_init_71 : decode cX4_init 71 = .ok (.iload_n 3, 1) := by decide +kernel
theorem dX4_init_72 : decode cX4_init 72 = .ok (.lshl, 1) := by decide +kernel
theorem dX4_init_73 : decode cX4_init 73 = .ok (.lor, 1) := by decide +kernel
theorem dX4_init_74 : decode cX4_init 74 = .ok (.lastore, 1) := by decide +kernel
theorem dX4_init_75 : decode cX4_init 75 = .ok (.iinc 3 1, 3) := by decide +kernel
theorem dX4_init_78 : decode cX4_init 78 = .ok (.goto (-27), 3) := by decide +kernel
theorem dX4_init_81 : decode cX4_init 81 = .ok (.iinc 2 1, 3) := by decide +kernel
theorem dX4_init_84 : decode cX4_init 84 = .ok (.goto (-44), 3) := by decide +kernel
theorem dX4_init_87 : decode cX4_init 87 = .ok (.return_, 1) := by decide +kernel
theorem dX4_compute_0 : decode cX4_compute 0 = .ok (.aload_n 0, 1) := by decide +kernel
theorem dX4_compute_1 : decode cX4_compute 1 = .ok (.invokevirtual 29, 3) := by decide +kernel
theorem dX4_compute_4 : decode cX4_compute 4 = .ok (.iconst 1, 1) := by decide +kernel
theorem dX4_compute_5 : decode cX4_compute 5 = .ok (.istore_n 1, 1) := by decide +kernel
theorem dX4_compute_6 : decode cX4_compute 6 = .ok (.aload_n 0, 1) := by decide +kernel
theorem dX4_compute_7 : decode cX4_compute 7 = .ok (.iconst 0, 1) := by decide +kernel
theorem dX4_compute_8 : decode cX4_compute 8 = .ok (.putfield 21, 3) := by decide +kernel
theorem dX4_compute_11 : decode cX4_compute 11 = .ok (.iconst 1, 1) := by decide +kernel
theorem dX4_compute_12 : decode cX4_compute 12 = .ok (.istore_n 2, 1) := by decide +kernel
theorem dX4_compute_13 : decode cX4_compute 13 = .ok (.iload_n 2, 1) := by decide +kernel
theorem dX4_compute_14 : decode cX4_compute 14 = .ok (.bipush 10, 2) := by decide +kernel
theorem dX4_compute_16 : decode cX4_compute 16 = .ok (.if_icmp .gt 64, 3) := by decide +kernel
theorem dX4_compute_19 : decode cX4_compute 19 = .ok (.iload_n 1, 1) := by decide +kernel
theorem dX4_compute_20 : decode cX4_compute 20 = .ok (.ifCond .eq 60, 3) := by decide +kernel
theorem dX4_compute_23 : decode cX4_compute 23 = .ok (.iconst 0, 1) := by decide +kernel
theorem dX4_compute_24 : decode cX4_compute 24 = .ok (.istore_n 1, 1) := by decide +kernel
theorem dX4_compute_25 : decode cX4_compute 25 = .ok (.iconst 0, 1) := by decide +kernel
theorem dX4_compute_26 : decode cX4_compute 26 = .ok (.istore_n 3, 1) := by decide +kernel
theorem dX4_compute_27 : decode cX4_compute 27 = .ok (.iload_n 3, 1) := by decide +kernel
theorem dX4_compute_28 : decode cX4_compute 28 = .ok (.aload_n 0, 1) := by decide +kernel
theorem dX4_compute_29 : decode cX4_compute 29 = .ok (.getfield 25, 3) := by decide +kernel
theorem dX4_compute_32 : decode cX4_compute 32 = .ok (.invokevirtual 32, 3) := by decide +kernel
theorem dX4_compute_35 : decode cX4_compute 35 = .ok (.if_icmp .ge 34, 3) := by decide +kernel
theorem dX4_compute_38 : decode cX4_compute 38 = .ok (.aload_n 0, 1) := by decide +kernel
theorem dX4_compute_39 : decode cX4_compute 39 = .ok (.iload_n 3, 1) := by decide +kernel
theorem dX4_compute_40 : decode cX4_compute 40 = .ok (.iload_n 2, 1) := by decide +kernel
theorem dX4_compute_41 : decode cX4_compute 41 = .ok (.invokevirtual 38, 3) := by decide +kernel
theorem dX4_compute_44 : decode cX4_compute 44 = .ok (.iload_n 1, 1) := by decide +kernel
theorem dX4_compute_45 : decode cX4_compute 45 = .ok (.ifCond .ne 12, 3) := by decide +kernel
theorem dX4_compute_48 : decode cX4_compute 48 = .ok (.aload_n 0, 1) := by decide +kernel
theorem dX4_compute_49 : decode cX4_compute 49 = .ok (.iload_n 3, 1) := by decide +kernel
theorem dX4_compute_50 : decode cX4_compute 50 = .ok (.iload_n 2, 1) := by decide +kernel
theorem dX4_compute_51 : decode cX4_compute 51 = .ok (.invokevirtual 42, 3) := by decide +kernel
theorem dX4_compute_54 : decode cX4_compute 54 = .ok (.ifCond .eq 7, 3) := by decide +kernel
theorem dX4_compute_57 : decode cX4_compute 57 = .ok (.iconst 1, 1) := by decide +kernel
theorem dX4_compute_58 : decode cX4_compute 58 = .ok (.goto 4, 3) := by decide +kernel
theorem dX4_compute_61 : decode cX4_compute 61 = .ok (.iconst 0, 1) := by decide +kernel
theorem dX4_compute_62 : decode cX4_compute 62 = .ok (.istore_n 1, 1) := by decide +kernel
theorem dX4_compute_63 : decode cX4_compute 63 = .ok (.iinc 3 1, 3) := by decide +kernel
theorem dX4_compute_66 : decode cX4_compute 66 = .ok (.goto (-39), 3) := by decide +kernel
theorem dX4_compute_69 : decode cX4_compute 69 = .ok (.aload_n 0, 1) := by decide +kernel
theorem dX4_compute_70 : decode cX4_compute 70 = .ok (.iload_n 2, 1) := by decide +kernel
theorem dX4_compute_71 : decode cX4_compute 71 = .ok (.putfield 21, 3) := by decide +kernel
theorem dX4_compute_74 : decode cX4_compute 74 = .ok (.iinc 2 1, 3) := by decide +kernel
theorem dX4_compute_77 : decode cX4_compute 77 = .ok (.goto (-64), 3) := by decide +kernel
theorem dX4_compute_80 : decode cX4_compute 80 = .ok (.return_, 1) := by decide +kernel
theorem dX4_proves_0 : decode cX4_proves 0 = .ok (.iload_n 2, 1) := by decide +kernel
theorem dX4_proves_1 : decode cX4_proves 1 = .ok (.ifCond .lt 14, 3) := by decide +kernel
theorem dX4_proves_4 : decode cX4_proves 4 = .ok (.iload_n 2, 1) := by decide +kernel
theorem dX4_proves_5 : decode cX4_proves 5 = .ok (.sipush 256, 3) := by decide +kernel
theorem dX4_proves_8 : decode cX4_proves 8 = .ok (.if_icmp .ge 7, 3) := by decide +kernel
theorem dX4_proves_11 : decode cX4_proves 11 = .ok (.iload_n 3, 1) := by decide +kernel
theorem dX4_proves_12 : decode cX4_proves 12 = .ok (.ifCond .ge 5, 3) := by decide +kernel
theorem dX4_proves_15 : decode cX4_proves 15 = .ok (.iconst 0, 1) := by decide +kernel
theorem dX4_proves_16 : decode cX4_proves 16 = .ok (.ireturn, 1) := by decide +kernel
theorem dX4_proves_17 : decode cX4_proves 17 = .ok (.aload_n 0, 1) := by decide +kernel
theorem dX4_proves_18 : decode cX4_proves 18 = .ok (.iload_n 1, 1) := by decide +kernel
theorem dX4_proves_19 : decode cX4_proves 19 = .ok (.iload_n 3, 1) := by decide +kernel
theorem dX4_proves_20 : decode cX4_proves 20 = .ok (.aload_n 0, 1) := by decide +kernel
theorem dX4_proves_21 : decode cX4_proves 21 = .ok (.getfield 21, 3) := by decide +kernel
theorem dX4_proves_24 : decode cX4_proves 24 = .ok (.invokestatic 46, 3) := by decide +kernel
theorem dX4_proves_27 : decode cX4_proves 27 = .ok (.invokestatic 52, 3) := by decide +kernel
theorem dX4_proves_30 : decode cX4_proves 30 = .ok (.iload_n 2, 1) := by decide +kernel
theorem dX4_proves_31 : decode cX4_proves 31 = .ok (.invokevirtual 55, 3) := by decide +kernel
theorem dX4_proves_34 : decode cX4_proves 34 = .ok (.ireturn, 1) := by decide +kernel
theorem dX4_leastHeight_0 : decode cX4_leastHeight 0 = .ok (.iconst 1, 1) := by decide +kernel
theorem dX4_leastHeight_1 : decode cX4_leastHeight 1 = .ok (.istore_n 3, 1) := by decide +kernel
theorem dX4_leastHeight_2 : decode cX4_leastHeight 2 = .ok (.iload_n 3, 1) := by decide +kernel
theorem dX4_leastHeight_3 : decode cX4_leastHeight 3 = .ok (.bipush 10, 2) := by decide +kernel
theorem dX4_leastHeight_5 : decode cX4_leastHeight 5 = .ok (.if_icmp .gt 21, 3) := by decide +kernel
theorem dX4_leastHeight_8 : decode cX4_leastHeight 8 = .ok (.aload_n 0, 1) := by decide +kernel
theorem dX4_leastHeight_9 : decode cX4_leastHeight 9 = .ok (.iload_n 1, 1) := by decide +kernel
theorem dX4_leastHeight_10 : decode cX4_leastHeight 10 = .ok (.iload_n 2, 1) := by decide +kernel
theorem dX4_leastHeight_11 : decode cX4_leastHeight 11 = .ok (.iload_n 3, 1) := by decide +kernel
theorem dX4_leastHeight_12 : decode cX4_leastHeight 12 = .ok (.invokevirtual 58, 3) := by decide +kernel
theorem dX4_leastHeight_15 : decode cX4_leastHeight 15 = .ok (.ifCond .eq 5, 3) := by decide +kernel
theorem dX4_leastHeight_18 : decode cX4_leastHeight 18 = .ok (.iload_n 3, 1) := by decide +kernel
theorem dX4_leastHeight_19 : decode cX4_leastHeight 19 = .ok (.ireturn, 1) := by decide +kernel
theorem dX4_leastHeight_20 : decode cX4_leastHeight 20 = .ok (.iinc 3 1, 3) := by decide +kernel
theorem dX4_leastHeight_23 : decode cX4_leastHeight 23 = .ok (.goto (-21), 3) := by decide +kernel
theorem dX4_leastHeight_26 : decode cX4_leastHeight 26 = .ok (.bipush (-6), 2) := by decide +kernel
theorem dX4_leastHeight_28 : decode cX4_leastHeight 28 = .ok (.ireturn, 1) := by decide +kernel
theorem dX4_findAllSets_0 : decode cX4_findAllSets 0 = .ok (.aload_n 0, 1) := by decide +kernel
theorem dX4_findAllSets_1 : decode cX4_findAllSets 1 = .ok (.getfield 25, 3) := by decide +kernel
theorem dX4_findAllSets_4 : decode cX4_findAllSets 4 = .ok (.invokevirtual 62, 3) := by decide +kernel
theorem dX4_findAllSets_7 : decode cX4_findAllSets 7 = .ok (.istore_n 1, 1) := by decide +kernel
theorem dX4_findAllSets_8 : decode cX4_findAllSets 8 = .ok (.iconst 0, 1) := by decide +kernel
theorem dX4_findAllSets_9 : decode cX4_findAllSets 9 = .ok (.istore_n 2, 1) := by decide +kernel
theorem dX4_findAllSets_10 : decode cX4_findAllSets 10 = .ok (.iload_n 2, 1) := by decide +kernel
theorem dX4_findAllSets_11 : decode cX4_findAllSets 11 = .ok (.iconst 4, 1) := by decide +kernel
theorem dX4_findAllSets_12 : decode cX4_findAllSets 12 = .ok (.if_icmp .ge 55, 3) := by decide +kernel
theorem dX4_findAllSets_15 : decode cX4_findAllSets 15 = .ok (.aload_n 0, 1) := by decide +kernel
theorem dX4_findAllSets_16 : decode cX4_findAllSets 16 = .ok (.getfield 15, 3) := by decide +kernel
theorem dX4_findAllSets_19 : decode cX4_findAllSets 19 = .ok (.iload_n 2, 1) := by decide +kernel
theorem dX4_findAllSets_20 : decode cX4_findAllSets 20 = .ok (.lconst 0, 1) := by decide +kernel
theorem dX4_findAllSets_21 : decode cX4_findAllSets 21 = .ok (.lastore, 1) := by decide +kernel
theorem dX4_findAllSets_22 : decode cX4_findAllSets 22 = .ok (.iconst 0, 1) := by decide +kernel
theorem dX4_findAllSets_23 : decode cX4_findAllSets 23 = .ok (.istore_n 3, 1) := by decide +kernel
theorem dX4_findAllSets_24 : decode cX4_findAllSets 24 = .ok (.iload_n 3, 1) := by decide +kernel
theorem dX4_findAllSets_25 : decode cX4_findAllSets 25 = .ok (.bipush 63, 2) := by decide +kernel
theorem dX4_findAllSets_27 : decode cX4_findAllSets 27 = .ok (.if_icmp .gt 34, 3) := by decide +kernel
theorem dX4_findAllSets_30 : decode cX4_findAllSets 30 = .ok (.iload_n 2, 1) := by decide +kernel
theorem dX4_findAllSets_31 : decode cX4_findAllSets 31 = .ok (.bipush 6, 2) := by decide +kernel
theorem dX4_findAllSets_33 : decode cX4_findAllSets 33 = .ok (.ishl, 1) := by decide +kernel
theorem dX4_findAllSets_34 : decode cX4_findAllSets 34 = .ok (.iload_n 3, 1) := by decide +kernel
theorem dX4_findAllSets_35 : decode cX4_findAllSets 35 = .ok (.ior, 1) := by decide +kernel
theorem dX4_findAllSets_36 : decode cX4_findAllSets 36 = .ok (.iload_n 1, 1) := by decide +kernel
theorem dX4_findAllSets_37 : decode cX4_findAllSets 37 = .ok (.iconst (-1), 1) := by decide +kernel
theorem dX4_findAllSets_38 : decode cX4_findAllSets 38 = .ok (.ixor, 1) := by decide +kernel
theorem dX4_findAllSets_39 : decode cX4_findAllSets 39 = .ok (.iand, 1) := by decide +kernel
theorem dX4_findAllSets_40 : decode cX4_findAllSets 40 = .ok (.ifCond .ne 15, 3) := by decide +kernel
theorem dX4_findAllSets_43 : decode cX4_findAllSets 43 = .ok (.aload_n 0, 1) := by decide +kernel
theorem dX4_findAllSets_44 : decode cX4_findAllSets 44 = .ok (.getfield 15, 3) := by decide +kernel
theorem dX4_findAllSets_47 : decode cX4_findAllSets 47 = .ok (.iload_n 2, 1) := by decide +kernel
theorem dX4_findAllSets_48 : decode cX4_findAllSets 48 = .ok (.dup2, 1) := by decide +kernel
theorem dX4_findAllSets_49 : decode cX4_findAllSets 49 = .ok (.laload, 1) := by decide +kernel
theorem dX4_findAllSets_50 : decode cX4_findAllSets 50 = .ok (.lconst 1, 1) := by decide +kernel
theorem dX4_findAllSets_51 : decode cX4_findAllSets 51 = .ok (.iload_n 3, 1) := by decide +kernel
theorem dX4_findAllSets_52 : decode cX4_findAllSets 52 = .ok (.lshl, 1) := by decide +kernel
theorem dX4_findAllSets_53 : decode cX4_findAllSets 53 = .ok (.lor, 1) := by decide +kernel
theorem dX4_findAllSets_54 : decode cX4_findAllSets 54 = .ok (.lastore, 1) := by decide +kernel
theorem dX4_findAllSets_55 : decode cX4_findAllSets 55 = .ok (.iinc 3 1, 3) := by decide +kernel
theorem dX4_findAllSets_58 : decode cX4_findAllSets 58 = .ok (.goto (-34), 3) := by decide +kernel
theorem dX4_findAllSets_61 : decode cX4_findAllSets 61 = .ok (.iinc 2 1, 3) := by decide +kernel
theorem dX4_findAllSets_64 : decode cX4_findAllSets 64 = .ok (.goto (-54), 3) := by decide +kernel
theorem dX4_findAllSets_67 : decode cX4_findAllSets 67 = .ok (.return_, 1) := by decide +kernel
theorem dX4_fillRow_0 : decode cX4_fillRow 0 = .ok (.iload_n 1, 1) := by decide +kernel
theorem dX4_fillRow_1 : decode cX4_fillRow 1 = .ok (.iload_n 2, 1) := by decide +kernel
theorem dX4_fillRow_2 : decode cX4_fillRow 2 = .ok (.invokestatic 52, 3) := by decide +kernel
theorem dX4_fillRow_5 : decode cX4_fillRow 5 = .ok (.istore_n 3, 1) := by decide +kernel
theorem dX4_fillRow_6 : decode cX4_fillRow 6 = .ok (.aload_n 0, 1) := by decide +kernel
theorem dX4_fillRow_7 : decode cX4_fillRow 7 = .ok (.getfield 25, 3) := by decide +kernel
theorem dX4_fillRow_10 : decode cX4_fillRow 10 = .ok (.iload_n 1, 1) := by decide +kernel
theorem dX4_fillRow_11 : decode cX4_fillRow 11 = .ok (.invokevirtual 65, 3) := by decide +kernel
theorem dX4_fillRow_14 : decode cX4_fillRow 14 = .ok (.iload_n 2, 1) := by decide +kernel
theorem dX4_fillRow_15 : decode cX4_fillRow 15 = .ok (.iconst 1, 1) := by decide +kernel
theorem dX4_fillRow_16 : decode cX4_fillRow 16 = .ok (.isub, 1) := by decide +kernel
theorem dX4_fillRow_17 : decode cX4_fillRow 17 = .ok (.invokestatic 52, 3) := by decide +kernel
theorem dX4_fillRow_20 : decode cX4_fillRow 20 = .ok (.istore 4, 2) := by decide +kernel
theorem dX4_fillRow_22 : decode cX4_fillRow 22 = .ok (.aload_n 0, 1) := by decide +kernel
theorem dX4_fillRow_23 : decode cX4_fillRow 23 = .ok (.getfield 25, 3) := by decide +kernel
theorem dX4_fillRow_26 : decode cX4_fillRow 26 = .ok (.iload_n 1, 1) := by decide +kernel
theorem dX4_fillRow_27 : decode cX4_fillRow 27 = .ok (.invokevirtual 69, 3) := by decide +kernel
theorem dX4_fillRow_30 : decode cX4_fillRow 30 = .ok (.iload_n 2, 1) := by decide +kernel
theorem dX4_fillRow_31 : decode cX4_fillRow 31 = .ok (.iconst 1, 1) := by decide +kernel
theorem dX4_fillRow_32 : decode cX4_fillRow 32 = .ok (.isub, 1) := by decide +kernel
theorem dX4_fillRow_33 : decode cX4_fillRow 33 = .ok (.invokestatic 52, 3) := by decide +kernel
theorem dX4_fillRow_36 : decode cX4_fillRow 36 = .ok (.istore 5, 2) := by decide +kernel
theorem dX4_fillRow_38 : decode cX4_fillRow 38 = .ok (.aload_n 0, 1) := by decide +kernel
theorem dX4_fillRow_39 : decode cX4_fillRow 39 = .ok (.iload_n 3, 1) := by decide +kernel
theorem dX4_fillRow_40 : decode cX4_fillRow 40 = .ok (.invokevirtual 72, 3) := by decide +kernel
theorem dX4_fillRow_43 : decode cX4_fillRow 43 = .ok (.aload_n 0, 1) := by decide +kernel
theorem dX4_fillRow_44 : decode cX4_fillRow 44 = .ok (.getfield 25, 3) := by decide +kernel
theorem dX4_fillRow_47 : decode cX4_fillRow 47 = .ok (.iload_n 1, 1) := by decide +kernel
theorem dX4_fillRow_48 : decode cX4_fillRow 48 = .ok (.invokevirtual 76, 3) := by decide +kernel
theorem dX4_fillRow_51 : decode cX4_fillRow 51 = .ok (.istore 6, 2) := by decide +kernel
theorem dX4_fillRow_53 : decode cX4_fillRow 53 = .ok (.iload 6, 2) := by decide +kernel
theorem dX4_fillRow_55 : decode cX4_fillRow 55 = .ok (.lookupswitch 162 #[(33, 82), (38, 113), (42, 101), (43, 125), (49, 65), (84, 74), (91, 144)], 65) := by decide +kernel
theorem dX4_fillRow_120 : decode cX4_fillRow 120 = .ok (.aload_n 0, 1) := by decide +kernel
theorem dX4_fillRow_121 : decode cX4_fillRow 121 = .ok (.iload_n 3, 1) := by decide +kernel
theorem dX4_fillRow_122 : decode cX4_fillRow 122 = .ok (.iconst 0, 1) := by decide +kernel
theorem dX4_fillRow_123 : decode cX4_fillRow 123 = .ok (.invokevirtual 80, 3) := by decide +kernel
theorem dX4_fillRow_126 : decode cX4_fillRow 126 = .ok (.goto 99, 3) := by decide +kernel
theorem dX4_fillRow_129 : decode cX4_fillRow 129 = .ok (.aload_n 0, 1) := by decide +kernel
theorem dX4_fillRow_130 : decode cX4_fillRow 130 = .ok (.iload_n 3, 1) := by decide +kernel
theorem dX4_fillRow_131 : decode cX4_fillRow 131 = .ok (.invokevirtual 83, 3) := by decide +kernel
theorem dX4_fillRow_134 : decode cX4_fillRow 134 = .ok (.goto 91, 3) := by decide +kernel
theorem dX4_fillRow_137 : decode cX4_fillRow 137 = .ok (.aload_n 0, 1) := by decide +kernel
theorem dX4_fillRow_138 : decode cX4_fillRow 138 = .ok (.iload 4, 2) := by decide +kernel
theorem dX4_fillRow_140 : decode cX4_fillRow 140 = .ok (.iconst 0, 1) := by decide +kernel
theorem dX4_fillRow_141 : decode cX4_fillRow 141 = .ok (.invokevirtual 55, 3) := by decide +kernel
theorem dX4_fillRow_144 : decode cX4_fillRow 144 = .ok (.ifCond .eq 81, 3) := by decide +kernel
theorem dX4_fillRow_147 : decode cX4_fillRow 147 = .ok (.aload_n 0, 1) := by decide +kernel
theorem dX4_fillRow_148 : decode cX4_fillRow 148 = .ok (.iload_n 3, 1) := by decide +kernel
theorem dX4_fillRow_149 : decode cX4_fillRow 149 = .ok (.iconst 0, 1) := by decide +kernel
theorem dX4_fillRow_150 : decode cX4_fillRow 150 = .ok (.invokevirtual 80, 3) := by decide +kernel
theorem dX4_fillRow_153 : decode cX4_fillRow 153 = .ok (.goto 72, 3) := by decide +kernel
theorem dX4_fillRow_156 : decode cX4_fillRow 156 = .ok (.aload_n 0, 1) := by decide +kernel
theorem dX4_fillRow_157 : decode cX4_fillRow 157 = .ok (.iload_n 3, 1) := by decide +kernel
theorem dX4_fillRow_158 : decode cX4_fillRow 158 = .ok (.iload 4, 2) := by decide +kernel
theorem dX4_fillRow_160 : decode cX4_fillRow 160 = .ok (.iload 5, 2) := by decide +kernel
theorem dX4_fillRow_162 : decode cX4_fillRow 162 = .ok (.invokevirtual 86, 3) := by decide +kernel
theorem dX4_fillRow_165 : decode cX4_fillRow 165 = .ok (.goto 60, 3) := by decide +kernel
theorem dX4_fillRow_168 : decode cX4_fillRow 168 = .ok (.aload_n 0, 1) := by decide +kernel
theorem dX4_fillRow_169 : decode cX4_fillRow 169 = .ok (.iload_n 3, 1) := by decide +kernel
theorem dX4_fillRow_170 : decode cX4_fillRow 170 = .ok (.iload 4, 2) := by decide +kernel
theorem dX4_fillRow_172 : decode cX4_fillRow 172 = .ok (.iload 5, 2) := by decide +kernel
theorem dX4_fillRow_174 : decode cX4_fillRow 174 = .ok (.invokevirtual 90, 3) := by decide +kernel
theorem dX4_fillRow_177 : decode cX4_fillRow 177 = .ok (.goto 48, 3) := by decide +kernel
theorem dX4_fillRow_180 : decode cX4_fillRow 180 = .ok (.aload_n 0, 1) := by decide +kernel
theorem dX4_fillRow_181 : decode cX4_fillRow 181 = .ok (.iload_n 3, 1) := by decide +kernel
theorem dX4_fillRow_182 : decode cX4_fillRow 182 = .ok (.iload 4, 2) := by decide +kernel
theorem dX4_fillRow_184 : decode cX4_fillRow 184 = .ok (.iconst 0, 1) := by decide +kernel
theorem dX4_fillRow_185 : decode cX4_fillRow 185 = .ok (.invokevirtual 93, 3) := by decide +kernel
theorem dX4_fillRow_188 : decode cX4_fillRow 188 = .ok (.aload_n 0, 1) := by decide +kernel
theorem dX4_fillRow_189 : decode cX4_fillRow 189 = .ok (.iload_n 3, 1) := by decide +kernel
theorem dX4_fillRow_190 : decode cX4_fillRow 190 = .ok (.iload 5, 2) := by decide +kernel
theorem dX4_fillRow_192 : decode cX4_fillRow 192 = .ok (.iconst 0, 1) := by decide +kernel
theorem dX4_fillRow_193 : decode cX4_fillRow 193 = .ok (.invokevirtual 93, 3) := by decide +kernel
theorem dX4_fillRow_196 : decode cX4_fillRow 196 = .ok (.goto 29, 3) := by decide +kernel
theorem dX4_fillRow_199 : decode cX4_fillRow 199 = .ok (.aload_n 0, 1) := by decide +kernel
theorem dX4_fillRow_200 : decode cX4_fillRow 200 = .ok (.iload_n 3, 1) := by decide +kernel
theorem dX4_fillRow_201 : decode cX4_fillRow 201 = .ok (.iload 4, 2) := by decide +kernel
theorem dX4_fillRow_203 : decode cX4_fillRow 203 = .ok (.aload_n 0, 1) := by decide +kernel
theorem dX4_fillRow_204 : decode cX4_fillRow 204 = .ok (.getfield 25, 3) := by decide +kernel
theorem dX4_fillRow_207 : decode cX4_fillRow 207 = .ok (.iload_n 1, 1) := by decide +kernel
theorem dX4_fillRow_208 : decode cX4_fillRow 208 = .ok (.invokevirtual 96, 3) := by decide +kernel
theorem dX4_fillRow_211 : decode cX4_fillRow 211 = .ok (.invokevirtual 99, 3) := by decide +kernel
theorem dX4_fillRow_214 : decode cX4_fillRow 214 = .ok (.goto 11, 3) := by decide +kernel
theorem dX4_fillRow_217 : decode cX4_fillRow 217 = .ok (.aload_n 0, 1) := by decide +kernel
theorem dX4_fillRow_218 : decode cX4_fillRow 218 = .ok (.iload_n 3, 1) := by decide +kernel
theorem dX4_fillRow_219 : decode cX4_fillRow 219 = .ok (.iload 6, 2) := by decide +kernel
theorem dX4_fillRow_221 : decode cX4_fillRow 221 = .ok (.iload_n 2, 1) := by decide +kernel
theorem dX4_fillRow_222 : decode cX4_fillRow 222 = .ok (.invokevirtual 102, 3) := by decide +kernel
theorem dX4_fillRow_225 : decode cX4_fillRow 225 = .ok (.return_, 1) := by decide +kernel
theorem dX4_addAtom_0 : decode cX4_addAtom 0 = .ok (.iconst 0, 1) := by decide +kernel
theorem dX4_addAtom_1 : decode cX4_addAtom 1 = .ok (.istore 4, 2) := by decide +kernel
theorem dX4_addAtom_3 : decode cX4_addAtom 3 = .ok (.iload 4, 2) := by decide +kernel
theorem dX4_addAtom_5 : decode cX4_addAtom 5 = .ok (.bipush 12, 2) := by decide +kernel
theorem dX4_addAtom_7 : decode cX4_addAtom 7 = .ok (.if_icmp .ge 103, 3) := by decide +kernel
theorem dX4_addAtom_10 : decode cX4_addAtom 10 = .ok (.iload 4, 2) := by decide +kernel
theorem dX4_addAtom_12 : decode cX4_addAtom 12 = .ok (.bipush 8, 2) := by decide +kernel
theorem dX4_addAtom_14 : decode cX4_addAtom 14 = .ok (.if_icmp .ge 10, 3) := by decide +kernel
theorem dX4_addAtom_17 : decode cX4_addAtom 17 = .ok (.iconst 1, 1) := by decide +kernel
theorem dX4_addAtom_18 : decode cX4_addAtom 18 = .ok (.iload 4, 2) := by decide +kernel
theorem dX4_addAtom_20 : decode cX4_addAtom 20 = .ok (.ishl, 1) := by decide +kernel
theorem dX4_addAtom_21 : decode cX4_addAtom 21 = .ok (.goto 4, 3) := by decide +kernel
theorem dX4_addAtom_24 : decode cX4_addAtom 24 = .ok (.iconst 0, 1) := by decide +kernel
theorem dX4_addAtom_25 : decode cX4_addAtom 25 = .ok (.istore 5, 2) := by decide +kernel
theorem dX4_addAtom_27 : decode cX4_addAtom 27 = .ok (.iconst 0, 1) := by decide +kernel
theorem dX4_addAtom_28 : decode cX4_addAtom 28 = .ok (.istore 6, 2) := by decide +kernel
theorem dX4_addAtom_30 : decode cX4_addAtom 30 = .ok (.iload 6, 2) := by decide +kernel
theorem dX4_addAtom_32 : decode cX4_addAtom 32 = .ok (.iconst 3, 1) := by decide +kernel
theorem dX4_addAtom_33 : decode cX4_addAtom 33 = .ok (.if_icmp .ge 71, 3) := by decide +kernel
theorem dX4_addAtom_36 : decode cX4_addAtom 36 = .ok (.aload_n 0, 1) := by decide +kernel
theorem dX4_addAtom_37 : decode cX4_addAtom 37 = .ok (.getfield 25, 3) := by decide +kernel
theorem dX4_addAtom_40 : decode cX4_addAtom 40 = .ok (.iload 4, 2) := by decide +kernel
theorem dX4_addAtom_42 : decode cX4_addAtom 42 = .ok (.iload 6, 2) := by decide +kernel
theorem dX4_addAtom_44 : decode cX4_addAtom 44 = .ok (.iload_n 2, 1) := by decide +kernel
theorem dX4_addAtom_45 : decode cX4_addAtom 45 = .ok (.invokevirtual 106, 3) := by decide +kernel
theorem dX4_addAtom_48 : decode cX4_addAtom 48 = .ok (.ifCond .ne 6, 3) := by decide +kernel
theorem dX4_addAtom_51 : decode cX4_addAtom 51 = .ok (.goto 47, 3) := by decide +kernel
theorem dX4_addAtom_54 : decode cX4_addAtom 54 = .ok (.aload_n 0, 1) := by decide +kernel
theorem dX4_addAtom_55 : decode cX4_addAtom 55 = .ok (.getfield 25, 3) := by decide +kernel
theorem dX4_addAtom_58 : decode cX4_addAtom 58 = .ok (.iload 4, 2) := by decide +kernel
theorem dX4_addAtom_60 : decode cX4_addAtom 60 = .ok (.iload 6, 2) := by decide +kernel
theorem dX4_addAtom_62 : decode cX4_addAtom 62 = .ok (.invokevirtual 110, 3) := by decide +kernel
theorem dX4_addAtom_65 : decode cX4_addAtom 65 = .ok (.istore 7, 2) := by decide +kernel
theorem dX4_addAtom_67 : decode cX4_addAtom 67 = .ok (.iload 7, 2) := by decide +kernel
theorem dX4_addAtom_69 : decode cX4_addAtom 69 = .ok (.iconst (-1), 1) := by decide +kernel
theorem dX4_addAtom_70 : decode cX4_addAtom 70 = .ok (.if_icmp .ne 13, 3) := by decide +kernel
theorem dX4_addAtom_73 : decode cX4_addAtom 73 = .ok (.aload_n 0, 1) := by decide +kernel
theorem dX4_addAtom_74 : decode cX4_addAtom 74 = .ok (.iload_n 1, 1) := by decide +kernel
theorem dX4_addAtom_75 : decode cX4_addAtom 75 = .ok (.iload 5, 2) := by decide +kernel
theorem dX4_addAtom_77 : decode cX4_addAtom 77 = .ok (.invokevirtual 80, 3) := by decide +kernel
theorem dX4_addAtom_80 : decode cX4_addAtom 80 = .ok (.goto 18, 3) := by decide +kernel
theorem dX4_addAtom_83 : decode cX4_addAtom 83 = .ok (.aload_n 0, 1) := by decide +kernel
theorem dX4_addAtom_84 : decode cX4_addAtom 84 = .ok (.iload_n 1, 1) := by decide +kernel
theorem dX4_addAtom_85 : decode cX4_addAtom 85 = .ok (.iload 7, 2) := by decide +kernel
theorem dX4_addAtom_87 : decode cX4_addAtom 87 = .ok (.iload_n 3, 1) := by decide +kernel
theorem dX4_addAtom_88 : decode cX4_addAtom 88 = .ok (.iconst 1, 1) := by decide +kernel
theorem dX4_addAtom_89 : decode cX4_addAtom 89 = .ok (.isub, 1) := by decide +kernel
theorem dX4_addAtom_90 : decode cX4_addAtom 90 = .ok (.invokestatic 52, 3) := by decide +kernel
theorem dX4_addAtom_93 : decode cX4_addAtom 93 = .ok (.iload 5, 2) := by decide +kernel
theorem dX4_addAtom_95 : decode cX4_addAtom 95 = .ok (.invokevirtual 93, 3) := by decide +kernel
theorem dX4_addAtom_98 : decode cX4_addAtom 98 = .ok (.iinc 6 1, 3) := by decide +kernel
theorem dX4_addAtom_101 : decode cX4_addAtom 101 = .ok (.goto (-71), 3) := by decide +kernel
theorem dX4_addAtom_104 : decode cX4_addAtom 104 = .ok (.iinc 4 1, 3) := by decide +kernel
theorem dX4_addAtom_107 : decode cX4_addAtom 107 = .ok (.goto (-104), 3) := by decide +kernel
theorem dX4_addAtom_110 : decode cX4_addAtom 110 = .ok (.return_, 1) := by decide +kernel
theorem dX4_addUnions_0 : decode cX4_addUnions 0 = .ok (.iconst 0, 1) := by decide +kernel
theorem dX4_addUnions_1 : decode cX4_addUnions 1 = .ok (.istore 4, 2) := by decide +kernel
theorem dX4_addUnions_3 : decode cX4_addUnions 3 = .ok (.iload 4, 2) := by decide +kernel
theorem dX4_addUnions_5 : decode cX4_addUnions 5 = .ok (.iconst 4, 1) := by decide +kernel
theorem dX4_addUnions_6 : decode cX4_addUnions 6 = .ok (.if_icmp .ge 70, 3) := by decide +kernel
theorem dX4_addUnions_9 : decode cX4_addUnions 9 = .ok (.aload_n 0, 1) := by decide +kernel
theorem dX4_addUnions_10 : decode cX4_addUnions 10 = .ok (.iload_n 2, 1) := by decide +kernel
theorem dX4_addUnions_11 : decode cX4_addUnions 11 = .ok (.iload 4, 2) := by decide +kernel
theorem dX4_addUnions_13 : decode cX4_addUnions 13 = .ok (.invokevirtual 113, 3) := by decide +kernel
theorem dX4_addUnions_16 : decode cX4_addUnions 16 = .ok (.lstore 5, 2) := by decide +kernel
theorem dX4_addUnions_18 : decode cX4_addUnions 18 = .ok (.iconst 0, 1) := by decide +kernel
theorem dX4_addUnions_19 : decode cX4_addUnions 19 = .ok (.istore 7, 2) := by decide +kernel
theorem dX4_addUnions_21 : decode cX4_addUnions 21 = .ok (.iload 7, 2) := by decide +kernel
theorem dX4_addUnions_23 : decode cX4_addUnions 23 = .ok (.bipush 63, 2) := by decide +kernel
theorem dX4_addUnions_25 : decode cX4_addUnions 25 = .ok (.if_icmp .gt 45, 3) := by decide +kernel
theorem dX4_addUnions_28 : decode cX4_addUnions 28 = .ok (.lload 5, 2) := by decide +kernel
theorem dX4_addUnions_30 : decode cX4_addUnions 30 = .ok (.lconst 0, 1) := by decide +kernel
theorem dX4_addUnions_31 : decode cX4_addUnions 31 = .ok (.lcmp, 1) := by decide +kernel
theorem dX4_addUnions_32 : decode cX4_addUnions 32 = .ok (.ifCond .eq 38, 3) := by decide +kernel
theorem dX4_addUnions_35 : decode cX4_addUnions 35 = .ok (.lload 5, 2) := by decide +kernel
theorem dX4_addUnions_37 : decode cX4_addUnions 37 = .ok (.lconst 1, 1) := by decide +kernel
theorem dX4_addUnions_38 : decode cX4_addUnions 38 = .ok (.land, 1) := by decide +kernel
theorem dX4_addUnions_39 : decode cX4_addUnions 39 = .ok (.lconst 0, 1) := by decide +kernel
theorem dX4_addUnions_40 : decode cX4_addUnions 40 = .ok (.lcmp, 1) := by decide +kernel
theorem dX4_addUnions_41 : decode cX4_addUnions 41 = .ok (.ifCond .eq 17, 3) := by decide +kernel
theorem dX4_addUnions_44 : decode cX4_addUnions 44 = .ok (.aload_n 0, 1) := by decide +kernel
theorem dX4_addUnions_45 : decode cX4_addUnions 45 = .ok (.iload_n 1, 1) := by decide +kernel
theorem dX4_addUnions_46 : decode cX4_addUnions 46 = .ok (.iload_n 3, 1) := by decide +kernel
theorem dX4_addUnions_47 : decode cX4_addUnions 47 = .ok (.iload 4, 2) := by decide +kernel
theorem dX4_addUnions_49 : decode cX4_addUnions 49 = .ok (.bipush 6, 2) := by decide +kernel
theorem dX4_addUnions_51 : decode cX4_addUnions 51 = .ok (.ishl, 1) := by decide +kernel
theorem dX4_addUnions_52 : decode cX4_addUnions 52 = .ok (.iload 7, 2) := by decide +kernel
theorem dX4_addUnions_54 : decode cX4_addUnions 54 = .ok (.ior, 1) := by decide +kernel
theorem dX4_addUnions_55 : decode cX4_addUnions 55 = .ok (.invokevirtual 93, 3) := by decide +kernel
theorem dX4_addUnions_58 : decode cX4_addUnions 58 = .ok (.lload 5, 2) := by decide +kernel
theorem dX4_addUnions_60 : decode cX4_addUnions 60 = .ok (.iconst 1, 1) := by decide +kernel
theorem dX4_addUnions_61 : decode cX4_addUnions 61 = .ok (.lushr, 1) := by decide +kernel
theorem dX4_addUnions_62 : decode cX4_addUnions 62 = .ok (.lstore 5, 2) := by decide +kernel
theorem dX4_addUnions_64 : decode cX4_addUnions 64 = .ok (.iinc 7 1, 3) := by decide +kernel
theorem dX4_addUnions_67 : decode cX4_addUnions 67 = .ok (.goto (-46), 3) := by decide +kernel
theorem dX4_addUnions_70 : decode cX4_addUnions 70 = .ok (.iinc 4 1, 3) := by decide +kernel
theorem dX4_addUnions_73 : decode cX4_addUnions 73 = .ok (.goto (-70), 3) := by decide +kernel
theorem dX4_addUnions_76 : decode cX4_addUnions 76 = .ok (.return_, 1) := by decide +kernel
theorem dX4_addMoved_0 : decode cX4_addMoved 0 = .ok (.iload_n 3, 1) := by decide +kernel
theorem dX4_addMoved_1 : decode cX4_addMoved 1 = .ok (.bipush 63, 2) := by decide +kernel
theorem dX4_addMoved_3 : decode cX4_addMoved 3 = .ok (.iand, 1) := by decide +kernel
theorem dX4_addMoved_4 : decode cX4_addMoved 4 = .ok (.istore 4, 2) := by decide +kernel
theorem dX4_addMoved_6 : decode cX4_addMoved 6 = .ok (.iload_n 3, 1) := by decide +kernel
theorem dX4_addMoved_7 : decode cX4_addMoved 7 = .ok (.bipush 6, 2) := by decide +kernel
theorem dX4_addMoved_9 : decode cX4_addMoved 9 = .ok (.ishr, 1) := by decide +kernel
theorem dX4_addMoved_10 : decode cX4_addMoved 10 = .ok (.istore 5, 2) := by decide +kernel
theorem dX4_addMoved_12 : decode cX4_addMoved 12 = .ok (.aload_n 0, 1) := by decide +kernel
theorem dX4_addMoved_13 : decode cX4_addMoved 13 = .ok (.getfield 18, 3) := by decide +kernel
theorem dX4_addMoved_16 : decode cX4_addMoved 16 = .ok (.iload 4, 2) := by decide +kernel
theorem dX4_addMoved_18 : decode cX4_addMoved 18 = .ok (.laload, 1) := by decide +kernel
theorem dX4_addMoved_19 : decode cX4_addMoved 19 = .ok (.lstore 6, 2) := by decide +kernel
theorem dX4_addMoved_21 : decode cX4_addMoved 21 = .ok (.iconst 0, 1) := by decide +kernel
theorem dX4_addMoved_22 : decode cX4_addMoved 22 = .ok (.istore 8, 2) := by decide +kernel
theorem dX4_addMoved_24 : decode cX4_addMoved 24 = .ok (.iload 8, 2) := by decide +kernel
theorem dX4_addMoved_26 : decode cX4_addMoved 26 = .ok (.iconst 4, 1) := by decide +kernel
theorem dX4_addMoved_27 : decode cX4_addMoved 27 = .ok (.if_icmp .ge 40, 3) := by decide +kernel
theorem dX4_addMoved_30 : decode cX4_addMoved 30 = .ok (.iload 8, 2) := by decide +kernel
theorem dX4_addMoved_32 : decode cX4_addMoved 32 = .ok (.iload 5, 2) := by decide +kernel
theorem dX4_addMoved_34 : decode cX4_addMoved 34 = .ok (.iand, 1) := by decide +kernel
theorem dX4_addMoved_35 : decode cX4_addMoved 35 = .ok (.ifCond .ne 26, 3) := by decide +kernel
theorem dX4_addMoved_38 : decode cX4_addMoved 38 = .ok (.aload_n 0, 1) := by decide +kernel
theorem dX4_addMoved_39 : decode cX4_addMoved 39 = .ok (.iload_n 1, 1) := by decide +kernel
theorem dX4_addMoved_40 : decode cX4_addMoved 40 = .ok (.iload 8, 2) := by decide +kernel
theorem dX4_addMoved_42 : decode cX4_addMoved 42 = .ok (.iload 5, 2) := by decide +kernel
theorem dX4_addMoved_44 : decode cX4_addMoved 44 = .ok (.ior, 1) := by decide +kernel
theorem dX4_addMoved_45 : decode cX4_addMoved 45 = .ok (.aload_n 0, 1) := by decide +kernel
theorem dX4_addMoved_46 : decode cX4_addMoved 46 = .ok (.iload_n 2, 1) := by decide +kernel
theorem dX4_addMoved_47 : decode cX4_addMoved 47 = .ok (.iload 8, 2) := by decide +kernel
theorem dX4_addMoved_49 : decode cX4_addMoved 49 = .ok (.invokevirtual 113, 3) := by decide +kernel
theorem dX4_addMoved_52 : decode cX4_addMoved 52 = .ok (.lload 6, 2) := by decide +kernel
theorem dX4_addMoved_54 : decode cX4_addMoved 54 = .ok (.land, 1) := by decide +kernel
theorem dX4_addMoved_55 : decode cX4_addMoved 55 = .ok (.iload 4, 2) := by decide +kernel
theorem dX4_addMoved_57 : decode cX4_addMoved 57 = .ok (.lshl, 1) := by decide +kernel
theorem dX4_addMoved_58 : decode cX4_addMoved 58 = .ok (.invokevirtual 117, 3) := by decide +kernel
theorem dX4_addMoved_61 : decode cX4_addMoved 61 = .ok (.iinc 8 1, 3) := by decide +kernel
theorem dX4_addMoved_64 : decode cX4_addMoved 64 = .ok (.goto (-40), 3) := by decide +kernel
theorem dX4_addMoved_67 : decode cX4_addMoved 67 = .ok (.return_, 1) := by decide +kernel
theorem dX4_addReduced_0 : decode cX4_addReduced 0 = .ok (.iload_n 3, 1) := by decide +kernel
theorem dX4_addReduced_1 : decode cX4_addReduced 1 = .ok (.bipush 63, 2) := by decide +kernel
theorem dX4_addReduced_3 : decode cX4_addReduced 3 = .ok (.iand, 1) := by decide +kernel
theorem dX4_addReduced_4 : decode cX4_addReduced 4 = .ok (.istore 4, 2) := by decide +kernel
theorem dX4_addReduced_6 : decode cX4_addReduced 6 = .ok (.iload_n 3, 1) := by decide +kernel
theorem dX4_addReduced_7 : decode cX4_addReduced 7 = .ok (.bipush 6, 2) := by decide +kernel
theorem dX4_addReduced_9 : decode cX4_addReduced 9 = .ok (.ishr, 1) := by decide +kernel
theorem dX4_addReduced_10 : decode cX4_addReduced 10 = .ok (.istore 5, 2) := by decide +kernel
theorem dX4_addReduced_12 : decode cX4_addReduced 12 = .ok (.aload_n 0, 1) := by decide +kernel
theorem dX4_addReduced_13 : decode cX4_addReduced 13 = .ok (.getfield 18, 3) := by decide +kernel
theorem dX4_addReduced_16 : decode cX4_addReduced 16 = .ok (.iload 4, 2) := by decide +kernel
theorem dX4_addReduced_18 : decode cX4_addReduced 18 = .ok (.laload, 1) := by decide +kernel
theorem dX4_addReduced_19 : decode cX4_addReduced 19 = .ok (.lstore 6, 2) := by decide +kernel
theorem dX4_addReduced_21 : decode cX4_addReduced 21 = .ok (.iconst 0, 1) := by decide +kernel
theorem dX4_addReduced_22 : decode cX4_addReduced 22 = .ok (.istore 8, 2) := by decide +kernel
theorem dX4_addReduced_24 : decode cX4_addReduced 24 = .ok (.iload 8, 2) := by decide +kernel
theorem dX4_addReduced_26 : decode cX4_addReduced 26 = .ok (.iconst 4, 1) := by decide +kernel
theorem dX4_addReduced_27 : decode cX4_addReduced 27 = .ok (.if_icmp .ge 40, 3) := by decide +kernel
theorem dX4_addReduced_30 : decode cX4_addReduced 30 = .ok (.iload 8, 2) := by decide +kernel
theorem dX4_addReduced_32 : decode cX4_addReduced 32 = .ok (.iload 5, 2) := by decide +kernel
theorem dX4_addReduced_34 : decode cX4_addReduced 34 = .ok (.iand, 1) := by decide +kernel
theorem dX4_addReduced_35 : decode cX4_addReduced 35 = .ok (.ifCond .ne 26, 3) := by decide +kernel
theorem dX4_addReduced_38 : decode cX4_addReduced 38 = .ok (.aload_n 0, 1) := by decide +kernel
theorem dX4_addReduced_39 : decode cX4_addReduced 39 = .ok (.iload_n 1, 1) := by decide +kernel
theorem dX4_addReduced_40 : decode cX4_addReduced 40 = .ok (.iload 8, 2) := by decide +kernel
theorem dX4_addReduced_42 : decode cX4_addReduced 42 = .ok (.aload_n 0, 1) := by decide +kernel
theorem dX4_addReduced_43 : decode cX4_addReduced 43 = .ok (.iload_n 2, 1) := by decide +kernel
theorem dX4_addReduced_44 : decode cX4_addReduced 44 = .ok (.iload 8, 2) := by decide +kernel
theorem dX4_addReduced_46 : decode cX4_addReduced 46 = .ok (.iload 5, 2) := by decide +kernel
theorem dX4_addReduced_48 : decode cX4_addReduced 48 = .ok (.ior, 1) := by decide +kernel
theorem dX4_addReduced_49 : decode cX4_addReduced 49 = .ok (.invokevirtual 113, 3) := by decide +kernel
theorem dX4_addReduced_52 : decode cX4_addReduced 52 = .ok (.iload 4, 2) := by decide +kernel
theorem dX4_addReduced_54 : decode cX4_addReduced 54 = .ok (.lushr, 1) := by decide +kernel
theorem dX4_addReduced_55 : decode cX4_addReduced 55 = .ok (.lload 6, 2) := by decide +kernel
theorem dX4_addReduced_57 : decode cX4_addReduced 57 = .ok (.land, 1) := by decide +kernel
theorem dX4_addReduced_58 : decode cX4_addReduced 58 = .ok (.invokevirtual 117, 3) := by decide +kernel
theorem dX4_addReduced_61 : decode cX4_addReduced 61 = .ok (.iinc 8 1, 3) := by decide +kernel
theorem dX4_addReduced_64 : decode cX4_addReduced 64 = .ok (.goto (-40), 3) := by decide +kernel
theorem dX4_addReduced_67 : decode cX4_addReduced 67 = .ok (.return_, 1) := by decide +kernel
theorem dX4_addShared_0 : decode cX4_addShared 0 = .ok (.iconst 0, 1) := by decide +kernel
theorem dX4_addShared_1 : decode cX4_addShared 1 = .ok (.istore 4, 2) := by decide +kernel
theorem dX4_addShared_3 : decode cX4_addShared 3 = .ok (.iload 4, 2) := by decide +kernel
theorem dX4_addShared_5 : decode cX4_addShared 5 = .ok (.iconst 4, 1) := by decide +kernel
theorem dX4_addShared_6 : decode cX4_addShared 6 = .ok (.if_icmp .ge 31, 3) := by decide +kernel
theorem dX4_addShared_9 : decode cX4_addShared 9 = .ok (.aload_n 0, 1) := by decide +kernel
theorem dX4_addShared_10 : decode cX4_addShared 10 = .ok (.iload_n 1, 1) := by decide +kernel
theorem dX4_addShared_11 : decode cX4_addShared 11 = .ok (.iload 4, 2) := by decide +kernel
theorem dX4_addShared_13 : decode cX4_addShared 13 = .ok (.aload_n 0, 1) := by decide +kernel
theorem dX4_addShared_14 : decode cX4_addShared 14 = .ok (.iload_n 2, 1) := by decide +kernel
theorem dX4_addShared_15 : decode cX4_addShared 15 = .ok (.iload 4, 2) := by decide +kernel
theorem dX4_addShared_17 : decode cX4_addShared 17 = .ok (.invokevirtual 113, 3) := by decide +kernel
theorem dX4_addShared_20 : decode cX4_addShared 20 = .ok (.aload_n 0, 1) := by decide +kernel
theorem dX4_addShared_21 : decode cX4_addShared 21 = .ok (.iload_n 3, 1) := by decide +kernel
theorem dX4_addShared_22 : decode cX4_addShared 22 = .ok (.iload 4, 2) := by decide +kernel
theorem dX4_addShared_24 : decode cX4_addShared 24 = .ok (.invokevirtual 113, 3) := by decide +kernel
theorem dX4_addShared_27 : decode cX4_addShared 27 = .ok (.land, 1) := by decide +kernel
theorem dX4_addShared_28 : decode cX4_addShared 28 = .ok (.invokevirtual 117, 3) := by decide +kernel
theorem dX4_addShared_31 : decode cX4_addShared 31 = .ok (.iinc 4 1, 3) := by decide +kernel
theorem dX4_addShared_34 : decode cX4_addShared 34 = .ok (.goto (-31), 3) := by decide +kernel
theorem dX4_addShared_37 : decode cX4_addShared 37 = .ok (.return_, 1) := by decide +kernel
theorem dX4_addAllSets_0 : decode cX4_addAllSets 0 = .ok (.iconst 0, 1) := by decide +kernel
theorem dX4_addAllSets_1 : decode cX4_addAllSets 1 = .ok (.istore_n 2, 1) := by decide +kernel
theorem dX4_addAllSets_2 : decode cX4_addAllSets 2 = .ok (.iload_n 2, 1) := by decide +kernel
theorem dX4_addAllSets_3 : decode cX4_addAllSets 3 = .ok (.iconst 4, 1) := by decide +kernel
theorem dX4_addAllSets_4 : decode cX4_addAllSets 4 = .ok (.if_icmp .ge 21, 3) := by decide +kernel
theorem dX4_addAllSets_7 : decode cX4_addAllSets 7 = .ok (.aload_n 0, 1) := by decide +kernel
theorem dX4_addAllSets_8 : decode cX4_addAllSets 8 = .ok (.iload_n 1, 1) := by decide +kernel
theorem dX4_addAllSets_9 : decode cX4_addAllSets 9 = .ok (.iload_n 2, 1) := by decide +kernel
theorem dX4_addAllSets_10 : decode cX4_addAllSets 10 = .ok (.aload_n 0, 1) := by decide +kernel
theorem dX4_addAllSets_11 : decode cX4_addAllSets 11 = .ok (.getfield 15, 3) := by decide +kernel
theorem dX4_addAllSets_14 : decode cX4_addAllSets 14 = .ok (.iload_n 2, 1) := by decide +kernel
theorem dX4_addAllSets_15 : decode cX4_addAllSets 15 = .ok (.laload, 1) := by decide +kernel
theorem dX4_addAllSets_16 : decode cX4_addAllSets 16 = .ok (.invokevirtual 117, 3) := by decide +kernel
theorem dX4_addAllSets_19 : decode cX4_addAllSets 19 = .ok (.iinc 2 1, 3) := by decide +kernel
theorem dX4_addAllSets_22 : decode cX4_addAllSets 22 = .ok (.goto (-20), 3) := by decide +kernel
theorem dX4_addAllSets_25 : decode cX4_addAllSets 25 = .ok (.return_, 1) := by decide +kernel
theorem dX4_add_0 : decode cX4_add 0 = .ok (.aload_n 0, 1) := by decide +kernel
theorem dX4_add_1 : decode cX4_add 1 = .ok (.iload_n 1, 1) := by decide +kernel
theorem dX4_add_2 : decode cX4_add 2 = .ok (.iload_n 2, 1) := by decide +kernel
theorem dX4_add_3 : decode cX4_add 3 = .ok (.bipush 6, 2) := by decide +kernel
theorem dX4_add_5 : decode cX4_add 5 = .ok (.ishr, 1) := by decide +kernel
theorem dX4_add_6 : decode cX4_add 6 = .ok (.lconst 1, 1) := by decide +kernel
theorem dX4_add_7 : decode cX4_add 7 = .ok (.iload_n 2, 1) := by decide +kernel
theorem dX4_add_8 : decode cX4_add 8 = .ok (.bipush 63, 2) := by decide +kernel
theorem dX4_add_10 : decode cX4_add 10 = .ok (.iand, 1) := by decide +kernel
theorem dX4_add_11 : decode cX4_add 11 = .ok (.lshl, 1) := by decide +kernel
theorem dX4_add_12 : decode cX4_add 12 = .ok (.invokevirtual 117, 3) := by decide +kernel
theorem dX4_add_15 : decode cX4_add 15 = .ok (.return_, 1) := by decide +kernel
theorem dX4_has_0 : decode cX4_has 0 = .ok (.aload_n 0, 1) := by decide +kernel
theorem dX4_has_1 : decode cX4_has 1 = .ok (.iload_n 1, 1) := by decide +kernel
theorem dX4_has_2 : decode cX4_has 2 = .ok (.iload_n 2, 1) := by decide +kernel
theorem dX4_has_3 : decode cX4_has 3 = .ok (.bipush 6, 2) := by decide +kernel
theorem dX4_has_5 : decode cX4_has 5 = .ok (.ishr, 1) := by decide +kernel
theorem dX4_has_6 : decode cX4_has 6 = .ok (.invokevirtual 113, 3) := by decide +kernel
theorem dX4_has_9 : decode cX4_has 9 = .ok (.iload_n 2, 1) := by decide +kernel
theorem dX4_has_10 : decode cX4_has 10 = .ok (.bipush 63, 2) := by decide +kernel
theorem dX4_has_12 : decode cX4_has 12 = .ok (.iand, 1) := by decide +kernel
theorem dX4_has_13 : decode cX4_has 13 = .ok (.lushr, 1) := by decide +kernel
theorem dX4_has_14 : decode cX4_has 14 = .ok (.lconst 1, 1) := by decide +kernel
theorem dX4_has_15 : decode cX4_has 15 = .ok (.land, 1) := by decide +kernel
theorem dX4_has_16 : decode cX4_has 16 = .ok (.lconst 0, 1) := by decide +kernel
theorem dX4_has_17 : decode cX4_has 17 = .ok (.lcmp, 1) := by decide +kernel
theorem dX4_has_18 : decode cX4_has 18 = .ok (.ifCond .eq 7, 3) := by decide +kernel
theorem dX4_has_21 : decode cX4_has 21 = .ok (.iconst 1, 1) := by decide +kernel
theorem dX4_has_22 : decode cX4_has 22 = .ok (.goto 4, 3) := by decide +kernel
theorem dX4_has_25 : decode cX4_has 25 = .ok (.iconst 0, 1) := by decide +kernel
theorem dX4_has_26 : decode cX4_has 26 = .ok (.ireturn, 1) := by decide +kernel
theorem dX4_hasGrown_0 : decode cX4_hasGrown 0 = .ok (.iload_n 1, 1) := by decide +kernel
theorem dX4_hasGrown_1 : decode cX4_hasGrown 1 = .ok (.iload_n 2, 1) := by decide +kernel
theorem dX4_hasGrown_2 : decode cX4_hasGrown 2 = .ok (.invokestatic 52, 3) := by decide +kernel
theorem dX4_hasGrown_5 : decode cX4_hasGrown 5 = .ok (.istore_n 3, 1) := by decide +kernel
theorem dX4_hasGrown_6 : decode cX4_hasGrown 6 = .ok (.iload_n 1, 1) := by decide +kernel
theorem dX4_hasGrown_7 : decode cX4_hasGrown 7 = .ok (.iload_n 2, 1) := by decide +kernel
theorem dX4_hasGrown_8 : decode cX4_hasGrown 8 = .ok (.iconst 1, 1) := by decide +kernel
theorem dX4_hasGrown_9 : decode cX4_hasGrown 9 = .ok (.isub, 1) := by decide +kernel
theorem dX4_hasGrown_10 : decode cX4_hasGrown 10 = .ok (.invokestatic 52, 3) := by decide +kernel
theorem dX4_hasGrown_13 : decode cX4_hasGrown 13 = .ok (.istore 4, 2) := by decide +kernel
theorem dX4_hasGrown_15 : decode cX4_hasGrown 15 = .ok (.iconst 0, 1) := by decide +kernel
theorem dX4_hasGrown_16 : decode cX4_hasGrown 16 = .ok (.istore 5, 2) := by decide +kernel
theorem dX4_hasGrown_18 : decode cX4_hasGrown 18 = .ok (.iload 5, 2) := by decide +kernel
theorem dX4_hasGrown_20 : decode cX4_hasGrown 20 = .ok (.iconst 4, 1) := by decide +kernel
theorem dX4_hasGrown_21 : decode cX4_hasGrown 21 = .ok (.if_icmp .ge 30, 3) := by decide +kernel
theorem dX4_hasGrown_24 : decode cX4_hasGrown 24 = .ok (.aload_n 0, 1) := by decide +kernel
theorem dX4_hasGrown_25 : decode cX4_hasGrown 25 = .ok (.iload_n 3, 1) := by decide +kernel
theorem dX4_hasGrown_26 : decode cX4_hasGrown 26 = .ok (.iload 5, 2) := by decide +kernel
theorem dX4_hasGrown_28 : decode cX4_hasGrown 28 = .ok (.invokevirtual 113, 3) := by decide +kernel
theorem dX4_hasGrown_31 : decode cX4_hasGrown 31 = .ok (.aload_n 0, 1) := by decide +kernel
theorem dX4_hasGrown_32 : decode cX4_hasGrown 32 = .ok (.iload 4, 2) := by decide +kernel
theorem dX4_hasGrown_34 : decode cX4_hasGrown 34 = .ok (.iload 5, 2) := by decide +kernel
theorem dX4_hasGrown_36 : decode cX4_hasGrown 36 = .ok (.invokevirtual 113, 3) := by decide +kernel
theorem dX4_hasGrown_39 : decode cX4_hasGrown 39 = .ok (.lcmp, 1) := by decide +kernel
theorem dX4_hasGrown_40 : decode cX4_hasGrown 40 = .ok (.ifCond .eq 5, 3) := by decide +kernel
theorem dX4_hasGrown_43 : decode cX4_hasGrown 43 = .ok (.iconst 1, 1) := by decide +kernel
theorem dX4_hasGrown_44 : decode cX4_hasGrown 44 = .ok (.ireturn, 1) := by decide +kernel
theorem dX4_hasGrown_45 : decode cX4_hasGrown 45 = .ok (.iinc 5 1, 3) := by decide +kernel
theorem dX4_hasGrown_48 : decode cX4_hasGrown 48 = .ok (.goto (-30), 3) := by decide +kernel
theorem dX4_hasGrown_51 : decode cX4_hasGrown 51 = .ok (.iconst 0, 1) := by decide +kernel
theorem dX4_hasGrown_52 : decode cX4_hasGrown 52 = .ok (.ireturn, 1) := by decide +kernel
theorem dX4_clearRow_0 : decode cX4_clearRow 0 = .ok (.iconst 0, 1) := by decide +kernel
theorem dX4_clearRow_1 : decode cX4_clearRow 1 = .ok (.istore_n 2, 1) := by decide +kernel
theorem dX4_clearRow_2 : decode cX4_clearRow 2 = .ok (.iload_n 2, 1) := by decide +kernel
theorem dX4_clearRow_3 : decode cX4_clearRow 3 = .ok (.iconst 4, 1) := by decide +kernel
theorem dX4_clearRow_4 : decode cX4_clearRow 4 = .ok (.if_icmp .ge 33, 3) := by decide +kernel
theorem dX4_clearRow_7 : decode cX4_clearRow 7 = .ok (.iload_n 1, 1) := by decide +kernel
theorem dX4_clearRow_8 : decode cX4_clearRow 8 = .ok (.ifCond .lt 23, 3) := by decide +kernel
theorem dX4_clearRow_11 : decode cX4_clearRow 11 = .ok (.iload_n 1, 1) := by decide +kernel
theorem dX4_clearRow_12 : decode cX4_clearRow 12 = .ok (.iload_n 2, 1) := by decide +kernel
theorem dX4_clearRow_13 : decode cX4_clearRow 13 = .ok (.iadd, 1) := by decide +kernel
theorem dX4_clearRow_14 : decode cX4_clearRow 14 = .ok (.aload_n 0, 1) := by decide +kernel
theorem dX4_clearRow_15 : decode cX4_clearRow 15 = .ok (.getfield 11, 3) := by decide +kernel
theorem dX4_clearRow_18 : decode cX4_clearRow 18 = .ok (.arraylength, 1) := by decide +kernel
theorem dX4_clearRow_19 : decode cX4_clearRow 19 = .ok (.if_icmp .ge 12, 3) := by decide +kernel
theorem dX4_clearRow_22 : decode cX4_clearRow 22 = .ok (.aload_n 0, 1) := by decide +kernel
theorem dX4_clearRow_23 : decode cX4_clearRow 23 = .ok (.getfield 11, 3) := by decide +kernel
theorem dX4_clearRow_26 : decode cX4_clearRow 26 = .ok (.iload_n 1, 1) := by decide +kernel
theorem dX4_clearRow_27 : decode cX4_clearRow 27 = .ok (.iload_n 2, 1) := by decide +kernel
theorem dX4_clearRow_28 : decode cX4_clearRow 28 = .ok (.iadd, 1) := by decide +kernel
theorem dX4_clearRow_29 : decode cX4_clearRow 29 = .ok (.lconst 0, 1) := by decide +kernel
theorem dX4_clearRow_30 : decode cX4_clearRow 30 = .ok (.lastore, 1) := by decide +kernel
theorem dX4_clearRow_31 : decode cX4_clearRow 31 = .ok (.iinc 2 1, 3) := by decide +kernel
theorem dX4_clearRow_34 : decode cX4_clearRow 34 = .ok (.goto (-32), 3) := by decide +kernel
theorem dX4_clearRow_37 : decode cX4_clearRow 37 = .ok (.return_, 1) := by decide +kernel
theorem dX4_wordAt_0 : decode cX4_wordAt 0 = .ok (.iload_n 1, 1) := by decide +kernel
theorem dX4_wordAt_1 : decode cX4_wordAt 1 = .ok (.ifCond .lt 29, 3) := by decide +kernel
theorem dX4_wordAt_4 : decode cX4_wordAt 4 = .ok (.iload_n 2, 1) := by decide +kernel
theorem dX4_wordAt_5 : decode cX4_wordAt 5 = .ok (.ifCond .lt 25, 3) := by decide +kernel
theorem dX4_wordAt_8 : decode cX4_wordAt 8 = .ok (.iload_n 1, 1) := by decide +kernel
theorem dX4_wordAt_9 : decode cX4_wordAt 9 = .ok (.iload_n 2, 1) := by decide +kernel
theorem dX4_wordAt_10 : decode cX4_wordAt 10 = .ok (.iadd, 1) := by decide +kernel
theorem dX4_wordAt_11 : decode cX4_wordAt 11 = .ok (.aload_n 0, 1) := by decide +kernel
theorem dX4_wordAt_12 : decode cX4_wordAt 12 = .ok (.getfield 11, 3) := by decide +kernel
theorem dX4_wordAt_15 : decode cX4_wordAt 15 = .ok (.arraylength, 1) := by decide +kernel
theorem dX4_wordAt_16 : decode cX4_wordAt 16 = .ok (.if_icmp .ge 14, 3) := by decide +kernel
theorem dX4_wordAt_19 : decode cX4_wordAt 19 = .ok (.aload_n 0, 1) := by decide +kernel
theorem dX4_wordAt_20 : decode cX4_wordAt 20 = .ok (.getfield 11, 3) := by decide +kernel
theorem dX4_wordAt_23 : decode cX4_wordAt 23 = .ok (.iload_n 1, 1) := by decide +kernel
theorem dX4_wordAt_24 : decode cX4_wordAt 24 = .ok (.iload_n 2, 1) := by decide +kernel
theorem dX4_wordAt_25 : decode cX4_wordAt 25 = .ok (.iadd, 1) := by decide +kernel
theorem dX4_wordAt_26 : decode cX4_wordAt 26 = .ok (.laload, 1) := by decide +kernel
theorem dX4_wordAt_27 : decode cX4_wordAt 27 = .ok (.goto 4, 3) := by decide +kernel
theorem dX4_wordAt_30 : decode cX4_wordAt 30 = .ok (.lconst 0, 1) := by decide +kernel
theorem dX4_wordAt_31 : decode cX4_wordAt 31 = .ok (.lreturn, 1) := by decide +kernel
theorem dX4_orWord_0 : decode cX4_orWord 0 = .ok (.iload_n 1, 1) := by decide +kernel
theorem dX4_orWord_1 : decode cX4_orWord 1 = .ok (.ifCond .lt 30, 3) := by decide +kernel
theorem dX4_orWord_4 : decode cX4_orWord 4 = .ok (.iload_n 2, 1) := by decide +kernel
theorem dX4_orWord_5 : decode cX4_orWord 5 = .ok (.ifCond .lt 26, 3) := by decide +kernel
theorem dX4_orWord_8 : decode cX4_orWord 8 = .ok (.iload_n 1, 1) := by decide +kernel
theorem dX4_orWord_9 : decode cX4_orWord 9 = .ok (.iload_n 2, 1) := by decide +kernel
theorem dX4_orWord_10 : decode cX4_orWord 10 = .ok (.iadd, 1) := by decide +kernel
theorem dX4_orWord_11 : decode cX4_orWord 11 = .ok (.aload_n 0, 1) := by decide +kernel
theorem dX4_orWord_12 : decode cX4_orWord 12 = .ok (.getfield 11, 3) := by decide +kernel
theorem dX4_orWord_15 : decode cX4_orWord 15 = .ok (.arraylength, 1) := by decide +kernel
theorem dX4_orWord_16 : decode cX4_orWord 16 = .ok (.if_icmp .ge 15, 3) := by decide +kernel
theorem dX4_orWord_19 : decode cX4_orWord 19 = .ok (.aload_n 0, 1) := by decide +kernel
theorem dX4_orWord_20 : decode cX4_orWord 20 = .ok (.getfield 11, 3) := by decide +kernel
theorem dX4_orWord_23 : decode cX4_orWord 23 = .ok (.iload_n 1, 1) := by decide +kernel
theorem dX4_orWord_24 : decode cX4_orWord 24 = .ok (.iload_n 2, 1) := by decide +kernel
theorem dX4_orWord_25 : decode cX4_orWord 25 = .ok (.iadd, 1) := by decide +kernel
theorem dX4_orWord_26 : decode cX4_orWord 26 = .ok (.dup2, 1) := by decide +kernel
theorem dX4_orWord_27 : decode cX4_orWord 27 = .ok (.laload, 1) := by decide +kernel
theorem dX4_orWord_28 : decode cX4_orWord 28 = .ok (.lload_n 3, 1) := by decide +kernel
theorem dX4_orWord_29 : decode cX4_orWord 29 = .ok (.lor, 1) := by decide +kernel
theorem dX4_orWord_30 : decode cX4_orWord 30 = .ok (.lastore, 1) := by decide +kernel
theorem dX4_orWord_31 : decode cX4_orWord 31 = .ok (.return_, 1) := by decide +kernel
theorem dX4_rowOf_0 : decode cX4_rowOf 0 = .ok (.iload_n 0, 1) := by decide +kernel
theorem dX4_rowOf_1 : decode cX4_rowOf 1 = .ok (.ifCond .lt 20, 3) := by decide +kernel
theorem dX4_rowOf_4 : decode cX4_rowOf 4 = .ok (.iload_n 0, 1) := by decide +kernel
theorem dX4_rowOf_5 : decode cX4_rowOf 5 = .ok (.bipush 60, 2) := by decide +kernel
theorem dX4_rowOf_7 : decode cX4_rowOf 7 = .ok (.if_icmp .ge 14, 3) := by decide +kernel
theorem dX4_rowOf_10 : decode cX4_rowOf 10 = .ok (.iload_n 1, 1) := by decide +kernel
theorem dX4_rowOf_11 : decode cX4_rowOf 11 = .ok (.bipush 60, 2) := by decide +kernel
theorem dX4_rowOf_13 : decode cX4_rowOf 13 = .ok (.imul, 1) := by decide +kernel
theorem dX4_rowOf_14 : decode cX4_rowOf 14 = .ok (.iload_n 0, 1) := by decide +kernel
theorem dX4_rowOf_15 : decode cX4_rowOf 15 = .ok (.iadd, 1) := by decide +kernel
theorem dX4_rowOf_16 : decode cX4_rowOf 16 = .ok (.iconst 4, 1) := by decide +kernel
theorem dX4_rowOf_17 : decode cX4_rowOf 17 = .ok (.imul, 1) := by decide +kernel
theorem dX4_rowOf_18 : decode cX4_rowOf 18 = .ok (.goto 4, 3) := by decide +kernel
theorem dX4_rowOf_21 : decode cX4_rowOf 21 = .ok (.iconst (-1), 1) := by decide +kernel
theorem dX4_rowOf_22 : decode cX4_rowOf 22 = .ok (.ireturn, 1) := by decide +kernel
theorem dX5_init_0 : decode cX5_init 0 = .ok (.aload_n 0, 1) := by decide +kernel
theorem dX5_init_1 : decode cX5_init 1 = .ok (.invokespecial 3, 3) := by decide +kernel
theorem dX5_init_4 : decode cX5_init 4 = .ok (.aload_n 0, 1) := by decide +kernel
theorem dX5_init_5 : decode cX5_init 5 = .ok (.iconst 0, 1) := by decide +kernel
theorem dX5_init_6 : decode cX5_init 6 = .ok (.putfield 9, 3) := by decide +kernel
theorem dX5_init_9 : decode cX5_init 9 = .ok (.aload_n 0, 1) := by decide +kernel
theorem dX5_init_10 : decode cX5_init 10 = .ok (.bipush (-6), 2) := by decide +kernel
theorem dX5_init_12 : decode cX5_init 12 = .ok (.putfield 15, 3) := by decide +kernel
theorem dX5_init_15 : decode cX5_init 15 = .ok (.aload_n 0, 1) := by decide +kernel
theorem dX5_init_16 : decode cX5_init 16 = .ok (.aload_n 1, 1) := by decide +kernel
theorem dX5_init_17 : decode cX5_init 17 = .ok (.putfield 18, 3) := by decide +kernel
theorem dX5_init_20 : decode cX5_init 20 = .ok (.aload_n 0, 1) := by decide +kernel
theorem dX5_init_21 : decode cX5_init 21 = .ok (.aload_n 2, 1) := by decide +kernel
theorem dX5_init_22 : decode cX5_init 22 = .ok (.putfield 22, 3) := by decide +kernel
theorem dX5_init_25 : decode cX5_init 25 = .ok (.return_, 1) := by decide +kernel
theorem dX5_readWholeGoal_0 : decode cX5_readWholeGoal 0 = .ok (.aload_n 0, 1) := by decide +kernel
theorem dX5_readWholeGoal_1 : decode cX5_readWholeGoal 1 = .ok (.iconst 1, 1) := by decide +kernel
theorem dX5_readWholeGoal_2 : decode cX5_readWholeGoal 2 = .ok (.invokevirtual 26, 3) := by decide +kernel
theorem dX5_readWholeGoal_5 : decode cX5_readWholeGoal 5 = .ok (.istore_n 1, 1) := by decide +kernel
theorem dX5_readWholeGoal_6 : decode cX5_readWholeGoal 6 = .ok (.aload_n 0, 1) := by decide +kernel
theorem dX5_readWholeGoal_7 : decode cX5_readWholeGoal 7 = .ok (.invokevirtual 30, 3) := by decide +kernel
theorem dX5_readWholeGoal_10 : decode cX5_readWholeGoal 10 = .ok (.iload_n 1, 1) := by decide +kernel
theorem dX5_readWholeGoal_11 : decode cX5_readWholeGoal 11 = .ok (.ireturn, 1) := by decide +kernel
theorem dX5_readWholeOffer_0 : decode cX5_readWholeOffer 0 = .ok (.aload_n 0, 1) := by decide +kernel
theorem dX5_readWholeOffer_1 : decode cX5_readWholeOffer 1 = .ok (.iload_n 1, 1) := by decide +kernel
theorem dX5_readWholeOffer_2 : decode cX5_readWholeOffer 2 = .ok (.iconst 1, 1) := by decide +kernel
theorem dX5_readWholeOffer_3 : decode cX5_readWholeOffer 3 = .ok (.invokevirtual 33, 3) := by decide +kernel
theorem dX5_readWholeOffer_6 : decode cX5_readWholeOffer 6 = .ok (.aload_n 0, 1) := by decide +kernel
theorem dX5_readWholeOffer_7 : decode cX5_readWholeOffer 7 = .ok (.invokevirtual 30, 3) := by decide +kernel
theorem dX5_readWholeOffer_10 : decode cX5_readWholeOffer 10 = .ok (.return_, 1) := by decide +kernel
theorem dX5_failed_0 : decode cX5_failed 0 = .ok (.aload_n 0, 1) := by decide +kernel
theorem dX5_failed_1 : decode cX5_failed 1 = .ok (.getfield 15, 3) := by decide +kernel
theorem dX5_failed_4 : decode cX5_failed 4 = .ok (.bipush (-6), 2) := by decide +kernel
theorem dX5_failed_6 : decode cX5_failed 6 = .ok (.if_icmp .eq 7, 3) := by decide +kernel
theorem dX5_failed_9 : decode cX5_failed 9 = .ok (.iconst 1, 1) := by decide +kernel
theorem dX5_failed_10 : decode cX5_failed 10 = .ok (.goto 4, 3) := by decide +kernel
theorem dX5_failed_13 : decode cX5_failed 13 = .ok (.iconst 0, 1) := by decide +kernel
theorem dX5_failed_14 : decode cX5_failed 14 = .ok (.ireturn, 1) := by decide +kernel
theorem dX5_faultPlace_0 : decode cX5_faultPlace 0 = .ok (.aload_n 0, 1) := by decide +kernel
theorem dX5_faultPlace_1 : decode cX5_faultPlace 1 = .ok (.getfield 15, 3) := by decide +kernel
theorem dX5_faultPlace_4 : decode cX5_faultPlace 4 = .ok (.ireturn, 1) := by decide +kernel
theorem dX5_readGoal_0 : decode cX5_readGoal 0 = .ok (.aload_n 0, 1) := by decide +kernel
theorem dX5_readGoal_1 : decode cX5_readGoal 1 = .ok (.invokevirtual 37, 3) := by decide +kernel
theorem dX5_readGoal_4 : decode cX5_readGoal 4 = .ok (.istore_n 2, 1) := by decide +kernel
theorem dX5_readGoal_5 : decode cX5_readGoal 5 = .ok (.iload_n 1, 1) := by decide +kernel
theorem dX5_readGoal_6 : decode cX5_readGoal 6 = .ok (.bipush 60, 2) := by decide +kernel
theorem dX5_readGoal_8 : decode cX5_readGoal 8 = .ok (.if_icmp .le 8, 3) := by decide +kernel
theorem dX5_readGoal_11 : decode cX5_readGoal 11 = .ok (.aload_n 0, 1) := by decide +kernel
theorem dX5_readGoal_12 : decode cX5_readGoal 12 = .ok (.invokevirtual 41, 3) := by decide +kernel
theorem dX5_readGoal_15 : decode cX5_readGoal 15 = .ok (.ireturn, 1) := by decide +kernel
theorem dX5_readGoal_16 : decode cX5_readGoal 16 = .ok (.iload_n 2, 1) := by decide +kernel
theorem dX5_readGoal_17 : decode cX5_readGoal 17 = .ok (.invokestatic 45, 3) := by decide +kernel
theorem dX5_readGoal_20 : decode cX5_readGoal 20 = .ok (.ifCond .eq 24, 3) := by decide +kernel
theorem dX5_readGoal_23 : decode cX5_readGoal 23 = .ok (.aload_n 0, 1) := by decide +kernel
theorem dX5_readGoal_24 : decode cX5_readGoal 24 = .ok (.dup, 1) := by decide +kernel
theorem dX5_readGoal_25 : decode cX5_readGoal 25 = .ok (.getfield 9, 3) := by decide +kernel
theorem dX5_readGoal_28 : decode cX5_readGoal 28 = .ok (.iconst 1, 1) := by decide +kernel
theorem dX5_readGoal_29 : decode cX5_readGoal 29 = .ok (.iadd, 1) := by decide +kernel
theorem dX5_readGoal_30 : decode cX5_readGoal 30 = .ok (.putfield 9, 3) := by decide +kernel
theorem dX5_readGoal_33 : decode cX5_readGoal 33 = .ok (.aload_n 0, 1) := by decide +kernel
theorem dX5_readGoal_34 : decode cX5_readGoal 34 = .ok (.getfield 22, 3) := by decide +kernel
theorem dX5_readGoal_37 : decode cX5_readGoal 37 = .ok (.iload_n 2, 1) := by decide +kernel
theorem dX5_readGoal_38 : decode cX5_readGoal 38 = .ok (.iconst (-1), 1) := by decide +kernel
theorem dX5_readGoal_39 : decode cX5_readGoal 39 = .ok (.iconst (-1), 1) := by decide +kernel
theorem dX5_readGoal_40 : decode cX5_readGoal 40 = .ok (.invokevirtual 49, 3) := by decide +kernel
theorem dX5_readGoal_43 : decode cX5_readGoal 43 = .ok (.ireturn, 1) := by decide +kernel
theorem dX5_readGoal_44 : decode cX5_readGoal 44 = .ok (.iload_n 2, 1) := by decide +kernel
theorem dX5_readGoal_45 : decode cX5_readGoal 45 = .ok (.lookupswitch 111 #[(33, 72), (40, 99), (49, 51), (84, 51), (91, 105)], 51) := by decide +kernel
theorem dX5_readGoal_96 : decode cX5_readGoal 96 = .ok (.aload_n 0, 1) := by decide +kernel
theorem dX5_readGoal_97 : decode cX5_readGoal 97 = .ok (.dup, 1) := by decide +kernel
theorem dX5_readGoal_98 : decode cX5_readGoal 98 = .ok (.getfield 9, 3) := by decide +kernel
theorem dX5_readGoal_101 : decode cX5_readGoal 101 = .ok (.iconst 1, 1) := by decide +kernel
theorem dX5_readGoal_102 : decode cX5_readGoal 102 = .ok (.iadd, 1) := by decide +kernel
theorem dX5_readGoal_103 : decode cX5_readGoal 103 = .ok (.putfield 9, 3) := by decide +kernel
theorem dX5_readGoal_106 : decode cX5_readGoal 106 = .ok (.aload_n 0, 1) := by decide +kernel
theorem dX5_readGoal_107 : decode cX5_readGoal 107 = .ok (.getfield 22, 3) := by decide +kernel
theorem dX5_readGoal_110 : decode cX5_readGoal 110 = .ok (.iload_n 2, 1) := by decide +kernel
theorem dX5_readGoal_111 : decode cX5_readGoal 111 = .ok (.iconst (-1), 1) := by decide +kernel
theorem dX5_readGoal_112 : decode cX5_readGoal 112 = .ok (.iconst (-1), 1) := by decide +kernel
theorem dX5_readGoal_113 : decode cX5_readGoal 113 = .ok (.invokevirtual 49, 3) := by decide +kernel
theorem dX5_readGoal_116 : decode cX5_readGoal 116 = .ok (.ireturn, 1) := by decide +kernel
theorem dX5_readGoal_117 : decode cX5_readGoal 117 = .ok (.aload_n 0, 1) := by decide +kernel
theorem dX5_readGoal_118 : decode cX5_readGoal 118 = .ok (.dup, 1) := by decide +kernel
theorem dX5_readGoal_119 : decode cX5_readGoal 119 = .ok (.getfield 9, 3) := by decide +kernel
theorem dX5_readGoal_122 : decode cX5_readGoal 122 = .ok (.iconst 1, 1) := by decide +kernel
theorem dX5_readGoal_123 : decode cX5_readGoal 123 = .ok (.iadd, 1) := by decide +kernel
theorem dX5_readGoal_124 : decode cX5_readGoal 124 = .ok (.putfield 9, 3) := by decide +kernel
theorem dX5_readGoal_127 : decode cX5_readGoal 127 = .ok (.aload_n 0, 1) := by decide +kernel
theorem dX5_readGoal_128 : decode cX5_readGoal 128 = .ok (.getfield 22, 3) := by decide +kernel
theorem dX5_readGoal_131 : decode cX5_readGoal 131 = .ok (.iload_n 2, 1) := by decide +kernel
theorem dX5_readGoal_132 : decode cX5_readGoal 132 = .ok (.aload_n 0, 1) := by decide +kernel
theorem dX5_readGoal_133 : decode cX5_readGoal 133 = .ok (.iload_n 1, 1) := by decide +kernel
theorem dX5_readGoal_134 : decode cX5_readGoal 134 = .ok (.iconst 1, 1) := by decide +kernel
theorem dX5_readGoal_135 : decode cX5_readGoal 135 = .ok (.iadd, 1) := by decide +kernel
theorem dX5_readGoal_136 : decode cX5_readGoal 136 = .ok (.invokevirtual 26, 3) := by decide +kernel
theorem dX5_readGoal_139 : decode cX5_readGoal 139 = .ok (.iconst (-1), 1) := by decide +kernel
theorem dX5_readGoal_140 : decode cX5_readGoal 140 = .ok (.invokevirtual 49, 3) := by decide +kernel
theorem dX5_readGoal_143 : decode cX5_readGoal 143 = .ok (.ireturn, 1) := by decide +kernel
theorem dX5_readGoal_144 : decode cX5_readGoal 144 = .ok (.aload_n 0, 1) := by decide +kernel
theorem dX5_readGoal_145 : decode cX5_readGoal 145 = .ok (.iload_n 1, 1) := by decide +kernel
theorem dX5_readGoal_146 : decode cX5_readGoal 146 = .ok (.invokevirtual 55, 3) := by decide +kernel
theorem dX5_readGoal_149 : decode cX5_readGoal 149 = .ok (.ireturn, 1) := by decide +kernel
theorem dX5_readGoal_150 : decode cX5_readGoal 150 = .ok (.aload_n 0, 1) := by decide +kernel
theorem dX5_readGoal_151 : decode cX5_readGoal 151 = .ok (.iload_n 1, 1) := by decide +kernel
theorem dX5_readGoal_152 : decode cX5_readGoal 152 = .ok (.invokevirtual 58, 3) := by decide +kernel
theorem dX5_readGoal_155 : decode cX5_readGoal 155 = .ok (.ireturn, 1) := by decide +kernel
theorem dX5_readGoal_156 : decode cX5_readGoal 156 = .ok (.aload_n 0, 1) := by decide +kernel
theorem dX5_readGoal_157 : decode cX5_readGoal 157 = .ok (.invokevirtual 41, 3) := by decide +kernel
theorem dX5_readGoal_160 : decode cX5_readGoal 160 = .ok (.ireturn, 1) := by decide +kernel
theorem dX5_readPair_0 : decode cX5_readPair 0 = .ok (.aload_n 0, 1) := by decide +kernel
theorem dX5_readPair_1 : decode cX5_readPair 1 = .ok (.bipush 40, 2) := by decide +kernel
theorem dX5_readPair_3 : decode cX5_readPair 3 = .ok (.invokevirtual 61, 3) := by decide +kernel
theorem dX5_readPair_6 : decode cX5_readPair 6 = .ok (.aload_n 0, 1) := by decide +kernel
theorem dX5_readPair_7 : decode cX5_readPair 7 = .ok (.iload_n 1, 1) := by decide +kernel
theorem dX5_readPair_8 : decode cX5_readPair 8 = .ok (.iconst 1, 1) := by decide +kernel
theorem dX5_readPair_9 : decode cX5_readPair 9 = .ok (.iadd, 1) := by decide +kernel
theorem dX5_readPair_10 : decode cX5_readPair 10 = .ok (.invokevirtual 26, 3) := by decide +kernel
theorem dX5_readPair_13 : decode cX5_readPair 13 = .ok (.istore_n 2, 1) := by decide +kernel
theorem dX5_readPair_14 : decode cX5_readPair 14 = .ok (.aload_n 0, 1) := by decide +kernel
theorem dX5_readPair_15 : decode cX5_readPair 15 = .ok (.invokevirtual 37, 3) := by decide +kernel
theorem dX5_readPair_18 : decode cX5_readPair 18 = .ok (.istore_n 3, 1) := by decide +kernel
theorem dX5_readPair_19 : decode cX5_readPair 19 = .ok (.iload_n 3, 1) := by decide +kernel
theorem dX5_readPair_20 : decode cX5_readPair 20 = .ok (.bipush 42, 2) := by decide +kernel
theorem dX5_readPair_22 : decode cX5_readPair 22 = .ok (.if_icmp .eq 20, 3) := by decide +kernel
theorem dX5_readPair_25 : decode cX5_readPair 25 = .ok (.iload_n 3, 1) := by decide +kernel
theorem dX5_readPair_26 : decode cX5_readPair 26 = .ok (.bipush 38, 2) := by decide +kernel
theorem dX5_readPair_28 : decode cX5_readPair 28 = .ok (.if_icmp .eq 14, 3) := by decide +kernel
theorem dX5_readPair_31 : decode cX5_readPair 31 = .ok (.iload_n 3, 1) := by decide +kernel
theorem dX5_readPair_32 : decode cX5_readPair 32 = .ok (.bipush 43, 2) := by decide +kernel
theorem dX5_readPair_34 : decode cX5_readPair 34 = .ok (.if_icmp .eq 8, 3) := by decide +kernel
theorem dX5_readPair_37 : decode cX5_readPair 37 = .ok (.aload_n 0, 1) := by decide +kernel
theorem dX5_readPair_38 : decode cX5_readPair 38 = .ok (.invokevirtual 41, 3) := by decide +kernel
theorem dX5_readPair_41 : decode cX5_readPair 41 = .ok (.ireturn, 1) := by decide +kernel
theorem dX5_readPair_42 : decode cX5_readPair 42 = .ok (.aload_n 0, 1) := by decide +kernel
theorem dX5_readPair_43 : decode cX5_readPair 43 = .ok (.dup, 1) := by decide +kernel
theorem dX5_readPair_44 : decode cX5_readPair 44 = .ok (.getfield 9, 3) := by decide +kernel
theorem dX5_readPair_47 : decode cX5_readPair 47 = .ok (.iconst 1, 1) := by decide +kernel
theorem dX5_readPair_48 : decode cX5_readPair 48 = .ok (.iadd, 1) := by decide +kernel
theorem dX5_readPair_49 : decode cX5_readPair 49 = .ok (.putfield 9, 3) := by decide +kernel
theorem dX5_readPair_52 : decode cX5_readPair 52 = .ok (.aload_n 0, 1) := by decide +kernel
theorem dX5_readPair_53 : decode cX5_readPair 53 = .ok (.iload_n 1, 1) := by decide +kernel
theorem dX5_readPair_54 : decode cX5_readPair 54 = .ok (.iconst 1, 1) := by decide +kernel
theorem dX5_readPair_55 : decode cX5_readPair 55 = .ok (.iadd, 1) := by decide +kernel
theorem dX5_readPair_56 : decode cX5_readPair 56 = .ok (.invokevirtual 26, 3) := by decide +kernel
theorem dX5_readPair_59 : decode cX5_readPair 59 = .ok (.istore 4, 2) := by decide +kernel
theorem dX5_readPair_61 : decode cX5_readPair 61 = .ok (.aload_n 0, 1) := by decide +kernel
theorem dX5_readPair_62 : decode cX5_readPair 62 = .ok (.bipush 41, 2) := by decide +kernel
theorem dX5_readPair_64 : decode cX5_readPair 64 = .ok (.invokevirtual 61, 3) := by decide +kernel
theorem dX5_readPair_67 : decode cX5_readPair 67 = .ok (.aload_n 0, 1) := by decide +kernel
theorem dX5_readPair_68 : decode cX5_readPair 68 = .ok (.getfield 22, 3) := by decide +kernel
theorem dX5_readPair_71 : decode cX5_readPair 71 = .ok (.iload_n 3, 1) := by decide +kernel
theorem dX5_readPair_72 : decode cX5_readPair 72 = .ok (.iload_n 2, 1) := by decide +kernel
theorem dX5_readPair_73 : decode cX5_readPair 73 = .ok (.iload 4, 2) := by decide +kernel
theorem dX5_readPair_75 : decode cX5_readPair 75 = .ok (.invokevirtual 49, 3) := by decide +kernel
theorem dX5_readPair_78 : decode cX5_readPair 78 = .ok (.ireturn, 1) := by decide +kernel
theorem dX5_readLoan_0 : decode cX5_readLoan 0 = .ok (.aload_n 0, 1) := by decide +kernel
theorem dX5_readLoan_1 : decode cX5_readLoan 1 = .ok (.bipush 91, 2) := by decide +kernel
theorem dX5_readLoan_3 : decode cX5_readLoan 3 = .ok (.invokevirtual 61, 3) := by decide +kernel
theorem dX5_readLoan_6 : decode cX5_readLoan 6 = .ok (.aload_n 0, 1) := by decide +kernel
theorem dX5_readLoan_7 : decode cX5_readLoan 7 = .ok (.getfield 22, 3) := by decide +kernel
theorem dX5_readLoan_10 : decode cX5_readLoan 10 = .ok (.invokevirtual 65, 3) := by decide +kernel
theorem dX5_readLoan_13 : decode cX5_readLoan 13 = .ok (.istore_n 2, 1) := by decide +kernel
theorem dX5_readLoan_14 : decode cX5_readLoan 14 = .ok (.aload_n 0, 1) := by decide +kernel
theorem dX5_readLoan_15 : decode cX5_readLoan 15 = .ok (.iload_n 2, 1) := by decide +kernel
theorem dX5_readLoan_16 : decode cX5_readLoan 16 = .ok (.iload_n 1, 1) := by decide +kernel
theorem dX5_readLoan_17 : decode cX5_readLoan 17 = .ok (.invokevirtual 33, 3) := by decide +kernel
theorem dX5_readLoan_20 : decode cX5_readLoan 20 = .ok (.aload_n 0, 1) := by decide +kernel
theorem dX5_readLoan_21 : decode cX5_readLoan 21 = .ok (.bipush 93, 2) := by decide +kernel
theorem dX5_readLoan_23 : decode cX5_readLoan 23 = .ok (.invokevirtual 61, 3) := by decide +kernel
theorem dX5_readLoan_26 : decode cX5_readLoan 26 = .ok (.aload_n 0, 1) := by decide +kernel
theorem dX5_readLoan_27 : decode cX5_readLoan 27 = .ok (.getfield 22, 3) := by decide +kernel
theorem dX5_readLoan_30 : decode cX5_readLoan 30 = .ok (.bipush 91, 2) := by decide +kernel
theorem dX5_readLoan_32 : decode cX5_readLoan 32 = .ok (.aload_n 0, 1) := by decide +kernel
theorem dX5_readLoan_33 : decode cX5_readLoan 33 = .ok (.iload_n 1, 1) := by decide +kernel
theorem dX5_readLoan_34 : decode cX5_readLoan 34 = .ok (.iconst 1, 1) := by decide +kernel
theorem dX5_readLoan_35 : decode cX5_readLoan 35 = .ok (.iadd, 1) := by decide +kernel
theorem dX5_readLoan_36 : decode cX5_readLoan 36 = .ok (.invokevirtual 26, 3) := by decide +kernel
theorem dX5_readLoan_39 : decode cX5_readLoan 39 = .ok (.iload_n 2, 1) := by decide +kernel
theorem dX5_readLoan_40 : decode cX5_readLoan 40 = .ok (.invokevirtual 49, 3) := by decide +kernel
theorem dX5_readLoan_43 : decode cX5_readLoan 43 = .ok (.ireturn, 1) := by decide +kernel
theorem dX5_readOffer_0 : decode cX5_readOffer 0 = .ok (.aload_n 0, 1) := by decide +kernel
theorem dX5_readOffer_1 : decode cX5_readOffer 1 = .ok (.iload_n 1, 1) := by decide +kernel
theorem dX5_readOffer_2 : decode cX5_readOffer 2 = .ok (.iconst 0, 1) := by decide +kernel
theorem dX5_readOffer_3 : decode cX5_readOffer 3 = .ok (.iload_n 2, 1) := by decide +kernel
theorem dX5_readOffer_4 : decode cX5_readOffer 4 = .ok (.invokevirtual 68, 3) := by decide +kernel
theorem dX5_readOffer_7 : decode cX5_readOffer 7 = .ok (.iconst 1, 1) := by decide +kernel
theorem dX5_readOffer_8 : decode cX5_readOffer 8 = .ok (.istore_n 3, 1) := by decide +kernel
theorem dX5_readOffer_9 : decode cX5_readOffer 9 = .ok (.iload_n 3, 1) := by decide +kernel
theorem dX5_readOffer_10 : decode cX5_readOffer 10 = .ok (.iconst 3, 1) := by decide +kernel
theorem dX5_readOffer_11 : decode cX5_readOffer 11 = .ok (.if_icmp .ge 35, 3) := by decide +kernel
theorem dX5_readOffer_14 : decode cX5_readOffer 14 = .ok (.aload_n 0, 1) := by decide +kernel
theorem dX5_readOffer_15 : decode cX5_readOffer 15 = .ok (.invokevirtual 37, 3) := by decide +kernel
theorem dX5_readOffer_18 : decode cX5_readOffer 18 = .ok (.bipush 124, 2) := by decide +kernel
theorem dX5_readOffer_20 : decode cX5_readOffer 20 = .ok (.if_icmp .ne 26, 3) := by decide +kernel
theorem dX5_readOffer_23 : decode cX5_readOffer 23 = .ok (.aload_n 0, 1) := by decide +kernel
theorem dX5_readOffer_24 : decode cX5_readOffer 24 = .ok (.dup, 1) := by decide +kernel
theorem dX5_readOffer_25 : decode cX5_readOffer 25 = .ok (.getfield 9, 3) := by decide +kernel
theorem dX5_readOffer_28 : decode cX5_readOffer 28 = .ok (.iconst 1, 1) := by decide +kernel
theorem dX5_readOffer_29 : decode cX5_readOffer 29 = .ok (.iadd, 1) := by decide +kernel
theorem dX5_readOffer_30 : decode cX5_readOffer 30 = .ok (.putfield 9, 3) := by decide +kernel
theorem dX5_readOffer_33 : decode cX5_readOffer 33 = .ok (.aload_n 0, 1) := by decide +kernel
theorem dX5_readOffer_34 : decode cX5_readOffer 34 = .ok (.iload_n 1, 1) := by decide +kernel
theorem dX5_readOffer_35 : decode cX5_readOffer 35 = .ok (.iload_n 3, 1) := by decide +kernel
theorem dX5_readOffer_36 : decode cX5_readOffer 36 = .ok (.iload_n 2, 1) := by decide +kernel
theorem dX5_readOffer_37 : decode cX5_readOffer 37 = .ok (.invokevirtual 68, 3) := by decide +kernel
theorem dX5_readOffer_40 : decode cX5_readOffer 40 = .ok (.iinc 3 1, 3) := by decide +kernel
theorem dX5_readOffer_43 : decode cX5_readOffer 43 = .ok (.goto (-34), 3) := by decide +kernel
theorem dX5_readOffer_46 : decode cX5_readOffer 46 = .ok (.return_, 1) := by decide +kernel
theorem dX5_readFace_0 : decode cX5_readFace 0 = .ok (.aload_n 0, 1) := by decide +kernel
theorem dX5_readFace_1 : decode cX5_readFace 1 = .ok (.invokevirtual 37, 3) := by decide +kernel
theorem dX5_readFace_4 : decode cX5_readFace 4 = .ok (.istore 4, 2) := by decide +kernel
theorem dX5_readFace_6 : decode cX5_readFace 6 = .ok (.iload 4, 2) := by decide +kernel
theorem dX5_readFace_8 : decode cX5_readFace 8 = .ok (.invokestatic 45, 3) := by decide +kernel
theorem dX5_readFace_11 : decode cX5_readFace 11 = .ok (.ifCond .ne 9, 3) := by decide +kernel
theorem dX5_readFace_14 : decode cX5_readFace 14 = .ok (.aload_n 0, 1) := by decide +kernel
theorem dX5_readFace_15 : decode cX5_readFace 15 = .ok (.invokevirtual 41, 3) := by decide +kernel
theorem dX5_readFace_18 : decode cX5_readFace 18 = .ok (.pop, 1) := by decide +kernel
theorem dX5_readFace_19 : decode cX5_readFace 19 = .ok (.return_, 1) := by decide +kernel
theorem dX5_readFace_20 : decode cX5_readFace 20 = .ok (.aload_n 0, 1) := by decide +kernel
theorem dX5_readFace_21 : decode cX5_readFace 21 = .ok (.dup, 1) := by decide +kernel
theorem dX5_readFace_22 : decode cX5_readFace 22 = .ok (.getfield 9, 3) := by decide +kernel
theorem dX5_readFace_25 : decode cX5_readFace 25 = .ok (.iconst 1, 1) := by decide +kernel
theorem dX5_readFace_26 : decode cX5_readFace 26 = .ok (.iadd, 1) := by decide +kernel
theorem dX5_readFace_27 : decode cX5_readFace 27 = .ok (.putfield 9, 3) := by decide +kernel
theorem dX5_readFace_30 : decode cX5_readFace 30 = .ok (.iconst (-1), 1) := by decide +kernel
theorem dX5_readFace_31 : decode cX5_readFace 31 = .ok (.istore 5, 2) := by decide +kernel
theorem dX5_readFace_33 : decode cX5_readFace 33 = .ok (.aload_n 0, 1) := by decide +kernel
theorem dX5_readFace_34 : decode cX5_readFace 34 = .ok (.invokevirtual 37, 3) := by decide +kernel
theorem dX5_readFace_37 : decode cX5_readFace 37 = .ok (.bipush 60, 2) := by decide +kernel
theorem dX5_readFace_39 : decode cX5_readFace 39 = .ok (.if_icmp .ne 22, 3) := by decide +kernel
theorem dX5_readFace_42 : decode cX5_readFace 42 = .ok (.aload_n 0, 1) := by decide +kernel
theorem dX5_readFace_43 : decode cX5_readFace 43 = .ok (.dup, 1) := by decide +kernel
theorem dX5_readFace_44 : decode cX5_readFace 44 = .ok (.getfield 9, 3) := by decide +kernel
theorem dX5_readFace_47 : decode cX5_readFace 47 = .ok (.iconst 1, 1) := by decide +kernel
theorem dX5_readFace_48 : decode cX5_readFace 48 = .ok (.iadd, 1) := by decide +kernel
theorem dX5_readFace_49 : decode cX5_readFace 49 = .ok (.putfield 9, 3) := by decide +kernel
theorem dX5_readFace_52 : decode cX5_readFace 52 = .ok (.aload_n 0, 1) := by decide +kernel
theorem dX5_readFace_53 : decode cX5_readFace 53 = .ok (.iload_n 3, 1) := by decide +kernel
theorem dX5_readFace_54 : decode cX5_readFace 54 = .ok (.iconst 1, 1) := by decide +kernel
theorem dX5_readFace_55 : decode cX5_readFace 55 = .ok (.iadd, 1) := by decide +kernel
theorem dX5_readFace_56 : decode cX5_readFace 56 = .ok (.invokevirtual 26, 3) := by decide +kernel
theorem dX5_readFace_59 : decode cX5_readFace 59 = .ok (.istore 5, 2) := by decide +kernel
theorem dX5_readFace_61 : decode cX5_readFace 61 = .ok (.aload_n 0, 1) := by decide +kernel
theorem dX5_readFace_62 : decode cX5_readFace 62 = .ok (.getfield 22, 3) := by decide +kernel
theorem dX5_readFace_65 : decode cX5_readFace 65 = .ok (.iload_n 1, 1) := by decide +kernel
theorem dX5_readFace_66 : decode cX5_readFace 66 = .ok (.iload_n 2, 1) := by decide +kernel
theorem dX5_readFace_67 : decode cX5_readFace 67 = .ok (.iload 4, 2) := by decide +kernel
theorem dX5_readFace_69 : decode cX5_readFace 69 = .ok (.iload 5, 2) := by decide +kernel
theorem dX5_readFace_71 : decode cX5_readFace 71 = .ok (.invokevirtual 72, 3) := by decide +kernel
theorem dX5_readFace_74 : decode cX5_readFace 74 = .ok (.return_, 1) := by decide +kernel
theorem dX5_next_0 : decode cX5_next 0 = .ok (.aload_n 0, 1) := by decide +kernel
theorem dX5_next_1 : decode cX5_next 1 = .ok (.getfield 15, 3) := by decide +kernel
theorem dX5_next_4 : decode cX5_next 4 = .ok (.bipush (-6), 2) := by decide +kernel
theorem dX5_next_6 : decode cX5_next 6 = .ok (.if_icmp .ne 34, 3) := by decide +kernel
theorem dX5_next_9 : decode cX5_next 9 = .ok (.aload_n 0, 1) := by decide +kernel
theorem dX5_next_10 : decode cX5_next 10 = .ok (.getfield 9, 3) := by decide +kernel
theorem dX5_next_13 : decode cX5_next 13 = .ok (.ifCond .lt 27, 3) := by decide +kernel
theorem dX5_next_16 : decode cX5_next 16 = .ok (.aload_n 0, 1) := by decide +kernel
theorem dX5_next_17 : decode cX5_next 17 = .ok (.getfield 9, 3) := by decide +kernel
theorem dX5_next_20 : decode cX5_next 20 = .ok (.aload_n 0, 1) := by decide +kernel
theorem dX5_next_21 : decode cX5_next 21 = .ok (.getfield 18, 3) := by decide +kernel
theorem dX5_next_24 : decode cX5_next 24 = .ok (.arraylength, 1) := by decide +kernel
theorem dX5_next_25 : decode cX5_next 25 = .ok (.if_icmp .ge 15, 3) := by decide +kernel
theorem dX5_next_28 : decode cX5_next 28 = .ok (.aload_n 0, 1) := by decide +kernel
theorem dX5_next_29 : decode cX5_next 29 = .ok (.getfield 18, 3) := by decide +kernel
theorem dX5_next_32 : decode cX5_next 32 = .ok (.aload_n 0, 1) := by decide +kernel
theorem dX5_next_33 : decode cX5_next 33 = .ok (.getfield 9, 3) := by decide +kernel
theorem dX5_next_36 : decode cX5_next 36 = .ok (.caload, 1) := by decide +kernel
theorem dX5_next_37 : decode cX5_next 37 = .ok (.goto 4, 3) := by decide +kernel
theorem dX5_next_40 : decode cX5_next 40 = .ok (.iconst 0, 1) := by decide +kernel
theorem dX5_next_41 : decode cX5_next 41 = .ok (.ireturn, 1) := by decide +kernel
theorem dX5_expect_0 : decode cX5_expect 0 = .ok (.aload_n 0, 1) := by decide +kernel
theorem dX5_expect_1 : decode cX5_expect 1 = .ok (.invokevirtual 37, 3) := by decide +kernel
theorem dX5_expect_4 : decode cX5_expect 4 = .ok (.iload_n 1, 1) := by decide +kernel
theorem dX5_expect_5 : decode cX5_expect 5 = .ok (.if_icmp .ne 16, 3) := by decide +kernel
theorem dX5_expect_8 : decode cX5_expect 8 = .ok (.aload_n 0, 1) := by decide +kernel
theorem dX5_expect_9 : decode cX5_expect 9 = .ok (.dup, 1) := by decide +kernel
theorem dX5_expect_10 : decode cX5_expect 10 = .ok (.getfield 9, 3) := by decide +kernel
theorem dX5_expect_13 : decode cX5_expect 13 = .ok (.iconst 1, 1) := by decide +kernel
theorem dX5_expect_14 : decode cX5_expect 14 = .ok (.iadd, 1) := by decide +kernel
theorem dX5_expect_15 : decode cX5_expect 15 = .ok (.putfield 9, 3) := by decide +kernel
theorem dX5_expect_18 : decode cX5_expect 18 = .ok (.goto 8, 3) := by decide +kernel
theorem dX5_expect_21 : decode cX5_expect 21 = .ok (.aload_n 0, 1) := by decide +kernel
theorem dX5_expect_22 : decode cX5_expect 22 = .ok (.invokevirtual 41, 3) := by decide +kernel
theorem dX5_expect_25 : decode cX5_expect 25 = .ok (.pop, 1) := by decide +kernel
theorem dX5_expect_26 : decode cX5_expect 26 = .ok (.return_, 1) := by decide +kernel
theorem dX5_refuseMore_0 : decode cX5_refuseMore 0 = .ok (.aload_n 0, 1) := by decide +kernel
theorem dX5_refuseMore_1 : decode cX5_refuseMore 1 = .ok (.getfield 9, 3) := by decide +kernel
theorem dX5_refuseMore_4 : decode cX5_refuseMore 4 = .ok (.aload_n 0, 1) := by decide +kernel
theorem dX5_refuseMore_5 : decode cX5_refuseMore 5 = .ok (.getfield 18, 3) := by decide +kernel
theorem dX5_refuseMore_8 : decode cX5_refuseMore 8 = .ok (.arraylength, 1) := by decide +kernel
theorem dX5_refuseMore_9 : decode cX5_refuseMore 9 = .ok (.if_icmp .ge 8, 3) := by decide +kernel
theorem dX5_refuseMore_12 : decode cX5_refuseMore 12 = .ok (.aload_n 0, 1) := by decide +kernel
theorem dX5_refuseMore_13 : decode cX5_refuseMore 13 = .ok (.invokevirtual 41, 3) := by decide +kernel
theorem dX5_refuseMore_16 : decode cX5_refuseMore 16 = .ok (.pop, 1) := by decide +kernel
theorem dX5_refuseMore_17 : decode cX5_refuseMore 17 = .ok (.return_, 1) := by decide +kernel
theorem dX5_refuse_0 : decode cX5_refuse 0 = .ok (.aload_n 0, 1) := by decide +kernel
theorem dX5_refuse_1 : decode cX5_refuse 1 = .ok (.getfield 15, 3) := by decide +kernel
theorem dX5_refuse_4 : decode cX5_refuse 4 = .ok (.bipush (-6), 2) := by decide +kernel
theorem dX5_refuse_6 : decode cX5_refuse 6 = .ok (.if_icmp .ne 11, 3) := by decide +kernel
theorem dX5_refuse_9 : decode cX5_refuse 9 = .ok (.aload_n 0, 1) := by decide +kernel
theorem dX5_refuse_10 : decode cX5_refuse 10 = .ok (.aload_n 0, 1) := by decide +kernel
theorem dX5_refuse_11 : decode cX5_refuse 11 = .ok (.getfield 9, 3) := by decide +kernel
theorem dX5_refuse_14 : decode cX5_refuse 14 = .ok (.putfield 15, 3) := by decide +kernel
theorem dX5_refuse_17 : decode cX5_refuse 17 = .ok (.iconst (-1), 1) := by decide +kernel
theorem dX5_refuse_18 : decode cX5_refuse 18 = .ok (.ireturn, 1) := by decide +kernel
theorem dX5_isAtom_0 : decode cX5_isAtom 0 = .ok (.iload_n 0, 1) := by decide +kernel
theorem dX5_isAtom_1 : decode cX5_isAtom 1 = .ok (.bipush 97, 2) := by decide +kernel
theorem dX5_isAtom_3 : decode cX5_isAtom 3 = .ok (.if_icmp .lt 13, 3) := by decide +kernel
theorem dX5_isAtom_6 : decode cX5_isAtom 6 = .ok (.iload_n 0, 1) := by decide +kernel
theorem dX5_isAtom_7 : decode cX5_isAtom 7 = .ok (.bipush 104, 2) := by decide +kernel
theorem dX5_isAtom_9 : decode cX5_isAtom 9 = .ok (.if_icmp .gt 7, 3) := by decide +kernel
theorem dX5_isAtom_12 : decode cX5_isAtom 12 = .ok (.iconst 1, 1) := by decide +kernel
theorem dX5_isAtom_13 : decode cX5_isAtom 13 = .ok (.goto 4, 3) := by decide +kernel
theorem dX5_isAtom_16 : decode cX5_isAtom 16 = .ok (.iconst 0, 1) := by decide +kernel
theorem dX5_isAtom_17 : decode cX5_isAtom 17 = .ok (.ireturn, 1) := by decide +kernel
theorem dX6_init_0 : decode cX6_init 0 = .ok (.aload_n 0, 1) := by decide +kernel
theorem dX6_init_1 : decode cX6_init 1 = .ok (.invokespecial 3, 3) := by decide +kernel
theorem dX6_init_4 : decode cX6_init 4 = .ok (.aload_n 0, 1) := by decide +kernel
theorem dX6_init_5 : decode cX6_init 5 = .ok (.bipush 10, 2) := by decide +kernel
theorem dX6_init_7 : decode cX6_init 7 = .ok (.anewarray 9, 3) := by decide +kernel
theorem dX6_init_10 : decode cX6_init 10 = .ok (.putfield 11, 3) := by decide +kernel
theorem dX6_init_13 : decode cX6_init 13 = .ok (.return_, 1) := by decide +kernel
theorem dX6_at_0 : decode cX6_at 0 = .ok (.iload_n 1, 1) := by decide +kernel
theorem dX6_at_1 : decode cX6_at 1 = .ok (.ifCond .lt 18, 3) := by decide +kernel
theorem dX6_at_4 : decode cX6_at 4 = .ok (.iload_n 1, 1) := by decide +kernel
theorem dX6_at_5 : decode cX6_at 5 = .ok (.bipush 10, 2) := by decide +kernel
theorem dX6_at_7 : decode cX6_at 7 = .ok (.if_icmp .ge 12, 3) := by decide +kernel
theorem dX6_at_10 : decode cX6_at 10 = .ok (.aload_n 0, 1) := by decide +kernel
theorem dX6_at_11 : decode cX6_at 11 = .ok (.getfield 11, 3) := by decide +kernel
theorem dX6_at_14 : decode cX6_at 14 = .ok (.iload_n 1, 1) := by decide +kernel
theorem dX6_at_15 : decode cX6_at 15 = .ok (.aaload, 1) := by decide +kernel
theorem dX6_at_16 : decode cX6_at 16 = .ok (.goto 4, 3) := by decide +kernel
theorem dX6_at_19 : decode cX6_at 19 = .ok (.aconst_null, 1) := by decide +kernel
theorem dX6_at_20 : decode cX6_at 20 = .ok (.areturn, 1) := by decide +kernel
theorem dX6_set_0 : decode cX6_set 0 = .ok (.iload_n 1, 1) := by decide +kernel
theorem dX6_set_1 : decode cX6_set 1 = .ok (.ifCond .lt 16, 3) := by decide +kernel
theorem dX6_set_4 : decode cX6_set 4 = .ok (.iload_n 1, 1) := by decide +kernel
theorem dX6_set_5 : decode cX6_set 5 = .ok (.bipush 10, 2) := by decide +kernel
theorem dX6_set_7 : decode cX6_set 7 = .ok (.if_icmp .ge 10, 3) := by decide +kernel
theorem dX6_set_10 : decode cX6_set 10 = .ok (.aload_n 0, 1) := by decide +kernel
theorem dX6_set_11 : decode cX6_set 11 = .ok (.getfield 11, 3) := by decide +kernel
theorem dX6_set_14 : decode cX6_set 14 = .ok (.iload_n 1, 1) := by decide +kernel
theorem dX6_set_15 : decode cX6_set 15 = .ok (.aload_n 2, 1) := by decide +kernel
theorem dX6_set_16 : decode cX6_set 16 = .ok (.aastore, 1) := by decide +kernel
theorem dX6_set_17 : decode cX6_set 17 = .ok (.return_, 1) := by decide +kernel
theorem dX6_firstFree_0 : decode cX6_firstFree 0 = .ok (.iload_n 1, 1) := by decide +kernel
theorem dX6_firstFree_1 : decode cX6_firstFree 1 = .ok (.istore_n 3, 1) := by decide +kernel
theorem dX6_firstFree_2 : decode cX6_firstFree 2 = .ok (.iload_n 3, 1) := by decide +kernel
theorem dX6_firstFree_3 : decode cX6_firstFree 3 = .ok (.iload_n 1, 1) := by decide +kernel
theorem dX6_firstFree_4 : decode cX6_firstFree 4 = .ok (.iload_n 2, 1) := by decide +kernel
theorem dX6_firstFree_5 : decode cX6_firstFree 5 = .ok (.iadd, 1) := by decide +kernel
theorem dX6_firstFree_6 : decode cX6_firstFree 6 = .ok (.if_icmp .ge 19, 3) := by decide +kernel
theorem dX6_firstFree_9 : decode cX6_firstFree 9 = .ok (.aload_n 0, 1) := by decide +kernel
theorem dX6_firstFree_10 : decode cX6_firstFree 10 = .ok (.iload_n 3, 1) := by decide +kernel
theorem dX6_firstFree_11 : decode cX6_firstFree 11 = .ok (.invokevirtual 17, 3) := by decide +kernel
theorem dX6_firstFree_14 : decode cX6_firstFree 14 = .ok (.ifnonnull 5, 3) := by decide +kernel
theorem dX6_firstFree_17 : decode cX6_firstFree 17 = .ok (.iload_n 3, 1) := by decide +kernel
theorem dX6_firstFree_18 : decode cX6_firstFree 18 = .ok (.ireturn, 1) := by decide +kernel
theorem dX6_firstFree_19 : decode cX6_firstFree 19 = .ok (.iinc 3 1, 3) := by decide +kernel
theorem dX6_firstFree_22 : decode cX6_firstFree 22 = .ok (.goto (-20), 3) := by decide +kernel
theorem dX6_firstFree_25 : decode cX6_firstFree 25 = .ok (.iconst (-1), 1) := by decide +kernel
theorem dX6_firstFree_26 : decode cX6_firstFree 26 = .ok (.ireturn, 1) := by decide +kernel
theorem dX6_present_0 : decode cX6_present 0 = .ok (.iconst 0, 1) := by decide +kernel
theorem dX6_present_1 : decode cX6_present 1 = .ok (.istore_n 3, 1) := by decide +kernel
theorem dX6_present_2 : decode cX6_present 2 = .ok (.iconst 0, 1) := by decide +kernel
theorem dX6_present_3 : decode cX6_present 3 = .ok (.istore 4, 2) := by decide +kernel
theorem dX6_present_5 : decode cX6_present 5 = .ok (.iload 4, 2) := by decide +kernel
theorem dX6_present_7 : decode cX6_present 7 = .ok (.iload_n 2, 1) := by decide +kernel
theorem dX6_present_8 : decode cX6_present 8 = .ok (.if_icmp .ge 27, 3) := by decide +kernel
theorem dX6_present_11 : decode cX6_present 11 = .ok (.aload_n 0, 1) := by decide +kernel
theorem dX6_present_12 : decode cX6_present 12 = .ok (.iload_n 1, 1) := by decide +kernel
theorem dX6_present_13 : decode cX6_present 13 = .ok (.iload 4, 2) := by decide +kernel
theorem dX6_present_15 : decode cX6_present 15 = .ok (.iadd, 1) := by decide +kernel
theorem dX6_present_16 : decode cX6_present 16 = .ok (.invokevirtual 17, 3) := by decide +kernel
theorem dX6_present_19 : decode cX6_present 19 = .ok (.ifnull 10, 3) := by decide +kernel
theorem dX6_present_22 : decode cX6_present 22 = .ok (.iload_n 3, 1) := by decide +kernel
theorem dX6_present_23 : decode cX6_present 23 = .ok (.iconst 1, 1) := by decide +kernel
theorem dX6_present_24 : decode cX6_present 24 = .ok (.iload 4, 2) := by decide +kernel
theorem dX6_present_26 : decode cX6_present 26 = .ok (.ishl, 1) := by decide +kernel
theorem dX6_present_27 : decode cX6_present 27 = .ok (.ior, 1) := by decide +kernel
theorem dX6_present_28 : decode cX6_present 28 = .ok (.istore_n 3, 1) := by decide +kernel
theorem dX6_present_29 : decode cX6_present 29 = .ok (.iinc 4 1, 3) := by decide +kernel
theorem dX6_present_32 : decode cX6_present 32 = .ok (.goto (-27), 3) := by decide +kernel
theorem dX6_present_35 : decode cX6_present 35 = .ok (.iload_n 3, 1) := by decide +kernel
theorem dX6_present_36 : decode cX6_present 36 = .ok (.ireturn, 1) := by decide +kernel
theorem dX6_nodes_0 : decode cX6_nodes 0 = .ok (.iconst 0, 1) := by decide +kernel
theorem dX6_nodes_1 : decode cX6_nodes 1 = .ok (.istore_n 1, 1) := by decide +kernel
theorem dX6_nodes_2 : decode cX6_nodes 2 = .ok (.aload_n 0, 1) := by decide +kernel
theorem dX6_nodes_3 : decode cX6_nodes 3 = .ok (.getfield 11, 3) := by decide +kernel
theorem dX6_nodes_6 : decode cX6_nodes 6 = .ok (.astore_n 2, 1) := by decide +kernel
theorem dX6_nodes_7 : decode cX6_nodes 7 = .ok (.aload_n 2, 1) := by decide +kernel
theorem dX6_nodes_8 : decode cX6_nodes 8 = .ok (.arraylength, 1) := by decide +kernel
theorem dX6_nodes_9 : decode cX6_nodes 9 = .ok (.istore_n 3, 1) := by decide +kernel
theorem dX6_nodes_10 : decode cX6_nodes 10 = .ok (.iconst 0, 1) := by decide +kernel
theorem dX6_nodes_11 : decode cX6_nodes 11 = .ok (.istore 4, 2) := by decide +kernel
theorem dX6_nodes_13 : decode cX6_nodes 13 = .ok (.iload 4, 2) := by decide +kernel
theorem dX6_nodes_15 : decode cX6_nodes 15 = .ok (.iload_n 3, 1) := by decide +kernel
theorem dX6_nodes_16 : decode cX6_nodes 16 = .ok (.if_icmp .ge 32, 3) := by decide +kernel
theorem dX6_nodes_19 : decode cX6_nodes 19 = .ok (.aload_n 2, 1) := by decide +kernel
theorem dX6_nodes_20 : decode cX6_nodes 20 = .ok (.iload 4, 2) := by decide +kernel
theorem dX6_nodes_22 : decode cX6_nodes 22 = .ok (.aaload, 1) := by decide +kernel
theorem dX6_nodes_23 : decode cX6_nodes 23 = .ok (.astore 5, 2) := by decide +kernel
theorem dX6_nodes_25 : decode cX6_nodes 25 = .ok (.iload_n 1, 1) := by decide +kernel
theorem dX6_nodes_26 : decode cX6_nodes 26 = .ok (.aload 5, 2) := by decide +kernel
theorem dX6_nodes_28 : decode cX6_nodes 28 = .ok (.ifnonnull 7, 3) := by decide +kernel
theorem dX6_nodes_31 : decode cX6_nodes 31 = .ok (.iconst 0, 1) := by decide +kernel
theorem dX6_nodes_32 : decode cX6_nodes 32 = .ok (.goto 8, 3) := by decide +kernel
theorem dX6_nodes_35 : decode cX6_nodes 35 = .ok (.aload 5, 2) := by decide +kernel
theorem dX6_nodes_37 : decode cX6_nodes 37 = .ok (.invokevirtual 21, 3) := by decide +kernel
theorem dX6_nodes_40 : decode cX6_nodes 40 = .ok (.iadd, 1) := by decide +kernel
theorem dX6_nodes_41 : decode cX6_nodes 41 = .ok (.istore_n 1, 1) := by decide +kernel
theorem dX6_nodes_42 : decode cX6_nodes 42 = .ok (.iinc 4 1, 3) := by decide +kernel
theorem dX6_nodes_45 : decode cX6_nodes 45 = .ok (.goto (-32), 3) := by decide +kernel
theorem dX6_nodes_48 : decode cX6_nodes 48 = .ok (.iload_n 1, 1) := by decide +kernel
theorem dX6_nodes_49 : decode cX6_nodes 49 = .ok (.ireturn, 1) := by decide +kernel
theorem dX6_loans_0 : decode cX6_loans 0 = .ok (.iconst 0, 1) := by decide +kernel
theorem dX6_loans_1 : decode cX6_loans 1 = .ok (.istore_n 1, 1) := by decide +kernel
theorem dX6_loans_2 : decode cX6_loans 2 = .ok (.aload_n 0, 1) := by decide +kernel
theorem dX6_loans_3 : decode cX6_loans 3 = .ok (.getfield 11, 3) := by decide +kernel
theorem dX6_loans_6 : decode cX6_loans 6 = .ok (.astore_n 2, 1) := by decide +kernel
theorem dX6_loans_7 : decode cX6_loans 7 = .ok (.aload_n 2, 1) := by decide +kernel
theorem dX6_loans_8 : decode cX6_loans 8 = .ok (.arraylength, 1) := by decide +kernel
theorem dX6_loans_9 : decode cX6_loans 9 = .ok (.istore_n 3, 1) := by decide +kernel
theorem dX6_loans_10 : decode cX6_loans 10 = .ok (.iconst 0, 1) := by decide +kernel
theorem dX6_loans_11 : decode cX6_loans 11 = .ok (.istore 4, 2) := by decide +kernel
theorem dX6_loans_13 : decode cX6_loans 13 = .ok (.iload 4, 2) := by decide +kernel
theorem dX6_loans_15 : decode cX6_loans 15 = .ok (.iload_n 3, 1) := by decide +kernel
theorem dX6_loans_16 : decode cX6_loans 16 = .ok (.if_icmp .ge 32, 3) := by decide +kernel
theorem dX6_loans_19 : decode cX6_loans 19 = .ok (.aload_n 2, 1) := by decide +kernel
theorem dX6_loans_20 : decode cX6_loans 20 = .ok (.iload 4, 2) := by decide +kernel
theorem dX6_loans_22 : decode cX6_loans 22 = .ok (.aaload, 1) := by decide +kernel
theorem dX6_loans_23 : decode cX6_loans 23 = .ok (.astore 5, 2) := by decide +kernel
theorem dX6_loans_25 : decode cX6_loans 25 = .ok (.iload_n 1, 1) := by decide +kernel
theorem dX6_loans_26 : decode cX6_loans 26 = .ok (.aload 5, 2) := by decide +kernel
theorem dX6_loans_28 : decode cX6_loans 28 = .ok (.ifnonnull 7, 3) := by decide +kernel
theorem dX6_loans_31 : decode cX6_loans 31 = .ok (.iconst 0, 1) := by decide +kernel
theorem dX6_loans_32 : decode cX6_loans 32 = .ok (.goto 8, 3) := by decide +kernel
theorem dX6_loans_35 : decode cX6_loans 35 = .ok (.aload 5, 2) := by decide +kernel
theorem dX6_loans_37 : decode cX6_loans 37 = .ok (.invokevirtual 25, 3) := by decide +kernel
theorem dX6_loans_40 : decode cX6_loans 40 = .ok (.iadd, 1) := by decide +kernel
theorem dX6_loans_41 : decode cX6_loans 41 = .ok (.istore_n 1, 1) := by decide +kernel
theorem dX6_loans_42 : decode cX6_loans 42 = .ok (.iinc 4 1, 3) := by decide +kernel
theorem dX6_loans_45 : decode cX6_loans 45 = .ok (.goto (-32), 3) := by decide +kernel
theorem dX6_loans_48 : decode cX6_loans 48 = .ok (.iload_n 1, 1) := by decide +kernel
theorem dX6_loans_49 : decode cX6_loans 49 = .ok (.ireturn, 1) := by decide +kernel
theorem dX6_hasRoom_0 : decode cX6_hasRoom 0 = .ok (.aload_n 0, 1) := by decide +kernel
theorem dX6_hasRoom_1 : decode cX6_hasRoom 1 = .ok (.iload_n 1, 1) := by decide +kernel
theorem dX6_hasRoom_2 : decode cX6_hasRoom 2 = .ok (.invokevirtual 17, 3) := by decide +kernel
theorem dX6_hasRoom_5 : decode cX6_hasRoom 5 = .ok (.astore_n 3, 1) := by decide +kernel
theorem dX6_hasRoom_6 : decode cX6_hasRoom 6 = .ok (.aload_n 3, 1) := by decide +kernel
theorem dX6_hasRoom_7 : decode cX6_hasRoom 7 = .ok (.ifnonnull 7, 3) := by decide +kernel
theorem dX6_hasRoom_10 : decode cX6_hasRoom 10 = .ok (.iconst 0, 1) := by decide +kernel
theorem dX6_hasRoom_11 : decode cX6_hasRoom 11 = .ok (.goto 7, 3) := by decide +kernel
theorem dX6_hasRoom_14 : decode cX6_hasRoom 14 = .ok (.aload_n 3, 1) := by decide +kernel
theorem dX6_hasRoom_15 : decode cX6_hasRoom 15 = .ok (.invokevirtual 21, 3) := by decide +kernel
theorem dX6_hasRoom_18 : decode cX6_hasRoom 18 = .ok (.istore 4, 2) := by decide +kernel
theorem dX6_hasRoom_20 : decode cX6_hasRoom 20 = .ok (.aload_n 3, 1) := by decide +kernel
theorem dX6_hasRoom_21 : decode cX6_hasRoom 21 = .ok (.ifnonnull 7, 3) := by decide +kernel
theorem dX6_hasRoom_24 : decode cX6_hasRoom 24 = .ok (.iconst 0, 1) := by decide +kernel
theorem dX6_hasRoom_25 : decode cX6_hasRoom 25 = .ok (.goto 7, 3) := by decide +kernel
theorem dX6_hasRoom_28 : decode cX6_hasRoom 28 = .ok (.aload_n 3, 1) := by decide +kernel
theorem dX6_hasRoom_29 : decode cX6_hasRoom 29 = .ok (.invokevirtual 25, 3) := by decide +kernel
theorem dX6_hasRoom_32 : decode cX6_hasRoom 32 = .ok (.istore 5, 2) := by decide +kernel
theorem dX6_hasRoom_34 : decode cX6_hasRoom 34 = .ok (.aload_n 0, 1) := by decide +kernel
theorem dX6_hasRoom_35 : decode cX6_hasRoom 35 = .ok (.invokevirtual 28, 3) := by decide +kernel
theorem dX6_hasRoom_38 : decode cX6_hasRoom 38 = .ok (.iload 4, 2) := by decide +kernel
theorem dX6_hasRoom_40 : decode cX6_hasRoom 40 = .ok (.isub, 1) := by decide +kernel
theorem dX6_hasRoom_41 : decode cX6_hasRoom 41 = .ok (.aload_n 2, 1) := by decide +kernel
theorem dX6_hasRoom_42 : decode cX6_hasRoom 42 = .ok (.invokevirtual 21, 3) := by decide +kernel
theorem dX6_hasRoom_45 : decode cX6_hasRoom 45 = .ok (.iadd, 1) := by decide +kernel
theorem dX6_hasRoom_46 : decode cX6_hasRoom 46 = .ok (.bipush 60, 2) := by decide +kernel
theorem dX6_hasRoom_48 : decode cX6_hasRoom 48 = .ok (.if_icmp .gt 23, 3) := by decide +kernel
theorem dX6_hasRoom_51 : decode cX6_hasRoom 51 = .ok (.aload_n 0, 1) := by decide +kernel
theorem dX6_hasRoom_52 : decode cX6_hasRoom 52 = .ok (.invokevirtual 29, 3) := by decide +kernel
theorem dX6_hasRoom_55 : decode cX6_hasRoom 55 = .ok (.iload 5, 2) := by decide +kernel
theorem dX6_hasRoom_57 : decode cX6_hasRoom 57 = .ok (.isub, 1) := by decide +kernel
theorem dX6_hasRoom_58 : decode cX6_hasRoom 58 = .ok (.aload_n 2, 1) := by decide +kernel
theorem dX6_hasRoom_59 : decode cX6_hasRoom 59 = .ok (.invokevirtual 25, 3) := by decide +kernel
theorem dX6_hasRoom_62 : decode cX6_hasRoom 62 = .ok (.iadd, 1) := by decide +kernel
theorem dX6_hasRoom_63 : decode cX6_hasRoom 63 = .ok (.iconst 3, 1) := by decide +kernel
theorem dX6_hasRoom_64 : decode cX6_hasRoom 64 = .ok (.if_icmp .gt 7, 3) := by decide +kernel
theorem dX6_hasRoom_67 : decode cX6_hasRoom 67 = .ok (.iconst 1, 1) := by decide +kernel
theorem dX6_hasRoom_68 : decode cX6_hasRoom 68 = .ok (.goto 4, 3) := by decide +kernel
theorem dX6_hasRoom_71 : decode cX6_hasRoom 71 = .ok (.iconst 0, 1) := by decide +kernel
theorem dX6_hasRoom_72 : decode cX6_hasRoom 72 = .ok (.ireturn, 1) := by decide +kernel
theorem dX7_init_0 : decode cX7_init 0 = .ok (.aload_n 0, 1) := by decide +kernel
theorem dX7_init_1 : decode cX7_init 1 = .ok (.invokespecial 3, 3) := by decide +kernel
theorem dX7_init_4 : decode cX7_init 4 = .ok (.aload_n 0, 1) := by decide +kernel
theorem dX7_init_5 : decode cX7_init 5 = .ok (.bipush 60, 2) := by decide +kernel
theorem dX7_init_7 : decode cX7_init 7 = .ok (.newarray .char, 2) := by decide +kernel
theorem dX7_init_9 : decode cX7_init 9 = .ok (.putfield 9, 3) := by decide +kernel
theorem dX7_init_12 : decode cX7_init 12 = .ok (.aload_n 0, 1) := by decide +kernel
theorem dX7_init_13 : decode cX7_init 13 = .ok (.iconst 0, 1) := by decide +kernel
theorem dX7_init_14 : decode cX7_init 14 = .ok (.putfield 15, 3) := by decide +kernel
theorem dX7_init_17 : decode cX7_init 17 = .ok (.return_, 1) := by decide +kernel
theorem dX7_append_0 : decode cX7_append 0 = .ok (.aload_n 0, 1) := by decide +kernel
theorem dX7_append_1 : decode cX7_append 1 = .ok (.getfield 15, 3) := by decide +kernel
theorem dX7_append_4 : decode cX7_append 4 = .ok (.ifCond .lt 15, 3) := by decide +kernel
theorem dX7_append_7 : decode cX7_append 7 = .ok (.aload_n 0, 1) := by decide +kernel
theorem dX7_append_8 : decode cX7_append 8 = .ok (.getfield 15, 3) := by decide +kernel
theorem dX7_append_11 : decode cX7_append 11 = .ok (.aload_n 0, 1) := by decide +kernel
theorem dX7_append_12 : decode cX7_append 12 = .ok (.getfield 9, 3) := by decide +kernel
theorem dX7_append_15 : decode cX7_append 15 = .ok (.arraylength, 1) := by decide +kernel
theorem dX7_append_16 : decode cX7_append 16 = .ok (.if_icmp .lt 5, 3) := by decide +kernel
theorem dX7_append_19 : decode cX7_append 19 = .ok (.iconst 0, 1) := by decide +kernel
theorem dX7_append_20 : decode cX7_append 20 = .ok (.ireturn, 1) := by decide +kernel
theorem dX7_append_21 : decode cX7_append 21 = .ok (.aload_n 0, 1) := by decide +kernel
theorem dX7_append_22 : decode cX7_append 22 = .ok (.getfield 9, 3) := by decide +kernel
theorem dX7_append_25 : decode cX7_append 25 = .ok (.aload_n 0, 1) := by decide +kernel
theorem dX7_append_26 : decode cX7_append 26 = .ok (.getfield 15, 3) := by decide +kernel
theorem dX7_append_29 : decode cX7_append 29 = .ok (.iload_n 1, 1) := by decide +kernel
theorem dX7_append_30 : decode cX7_append 30 = .ok (.castore, 1) := by decide +kernel
theorem dX7_append_31 : decode cX7_append 31 = .ok (.aload_n 0, 1) := by decide +kernel
theorem dX7_append_32 : decode cX7_append 32 = .ok (.dup, 1) := by decide +kernel
theorem dX7_append_33 : decode cX7_append 33 = .ok (.getfield 15, 3) := by decide +kernel
theorem dX7_append_36 : decode cX7_append 36 = .ok (.iconst 1, 1) := by decide +kernel
theorem dX7_append_37 : decode cX7_append 37 = .ok (.iadd, 1) := by decide +kernel
theorem dX7_append_38 : decode cX7_append 38 = .ok (.putfield 15, 3) := by decide +kernel
theorem dX7_append_41 : decode cX7_append 41 = .ok (.iconst 1, 1) := by decide +kernel
theorem dX7_append_42 : decode cX7_append 42 = .ok (.ireturn, 1) := by decide +kernel
theorem dX7_length_0 : decode cX7_length 0 = .ok (.aload_n 0, 1) := by decide +kernel
theorem dX7_length_1 : decode cX7_length 1 = .ok (.getfield 15, 3) := by decide +kernel
theorem dX7_length_4 : decode cX7_length 4 = .ok (.ireturn, 1) := by decide +kernel
theorem dX7_copy_0 : decode cX7_copy 0 = .ok (.iconst 0, 1) := by decide +kernel
theorem dX7_copy_1 : decode cX7_copy 1 = .ok (.aload_n 0, 1) := by decide +kernel
theorem dX7_copy_2 : decode cX7_copy 2 = .ok (.getfield 15, 3) := by decide +kernel
theorem dX7_copy_5 : decode cX7_copy 5 = .ok (.aload_n 0, 1) := by decide +kernel
theorem dX7_copy_6 : decode cX7_copy 6 = .ok (.getfield 9, 3) := by decide +kernel
theorem dX7_copy_9 : decode cX7_copy 9 = .ok (.arraylength, 1) := by decide +kernel
theorem dX7_copy_10 : decode cX7_copy 10 = .ok (.invokestatic 19, 3) := by decide +kernel
theorem dX7_copy_13 : decode cX7_copy 13 = .ok (.invokestatic 25, 3) := by decide +kernel
theorem dX7_copy_16 : decode cX7_copy 16 = .ok (.newarray .char, 2) := by decide +kernel
theorem dX7_copy_18 : decode cX7_copy 18 = .ok (.astore_n 1, 1) := by decide +kernel
theorem dX7_copy_19 : decode cX7_copy 19 = .ok (.iconst 0, 1) := by decide +kernel
theorem dX7_copy_20 : decode cX7_copy 20 = .ok (.istore_n 2, 1) := by decide +kernel
theorem dX7_copy_21 : decode cX7_copy 21 = .ok (.iload_n 2, 1) := by decide +kernel
theorem dX7_copy_22 : decode cX7_copy 22 = .ok (.aload_n 1, 1) := by decide +kernel
theorem dX7_copy_23 : decode cX7_copy 23 = .ok (.arraylength, 1) := by decide +kernel
theorem dX7_copy_24 : decode cX7_copy 24 = .ok (.if_icmp .ge 27, 3) := by decide +kernel
theorem dX7_copy_27 : decode cX7_copy 27 = .ok (.iload_n 2, 1) := by decide +kernel
theorem dX7_copy_28 : decode cX7_copy 28 = .ok (.aload_n 0, 1) := by decide +kernel
theorem dX7_copy_29 : decode cX7_copy 29 = .ok (.getfield 9, 3) := by decide +kernel
theorem dX7_copy_32 : decode cX7_copy 32 = .ok (.arraylength, 1) := by decide +kernel
theorem dX7_copy_33 : decode cX7_copy 33 = .ok (.if_icmp .ge 18, 3) := by decide +kernel
theorem dX7_copy_36 : decode cX7_copy 36 = .ok (.aload_n 1, 1) := by decide +kernel
theorem dX7_copy_37 : decode cX7_copy 37 = .ok (.iload_n 2, 1) := by decide +kernel
theorem dX7_copy_38 : decode cX7_copy 38 = .ok (.aload_n 0, 1) := by decide +kernel
theorem dX7_copy_39 : decode cX7_copy 39 = .ok (.getfield 9, 3) := by decide +kernel
theorem dX7_copy_42 : decode cX7_copy 42 = .ok (.iload_n 2, 1) := by decide +kernel
theorem dX7_copy_43 : decode cX7_copy 43 = .ok (.caload, 1) := by decide +kernel
theorem dX7_copy_44 : decode cX7_copy 44 = .ok (.castore, 1) := by decide +kernel
theorem dX7_copy_45 : decode cX7_copy 45 = .ok (.iinc 2 1, 3) := by decide +kernel
theorem dX7_copy_48 : decode cX7_copy 48 = .ok (.goto (-27), 3) := by decide +kernel
theorem dX7_copy_51 : decode cX7_copy 51 = .ok (.aload_n 1, 1) := by decide +kernel
theorem dX7_copy_52 : decode cX7_copy 52 = .ok (.areturn, 1) := by decide +kernel
theorem dX7_clear_0 : decode cX7_clear 0 = .ok (.aload_n 0, 1) := by decide +kernel
theorem dX7_clear_1 : decode cX7_clear 1 = .ok (.iconst 0, 1) := by decide +kernel
theorem dX7_clear_2 : decode cX7_clear 2 = .ok (.putfield 15, 3) := by decide +kernel
theorem dX7_clear_5 : decode cX7_clear 5 = .ok (.return_, 1) := by decide +kernel
theorem dX8_init_0 : decode cX8_init 0 = .ok (.aload_n 0, 1) := by decide +kernel
theorem dX8_init_1 : decode cX8_init 1 = .ok (.invokespecial 3, 3) := by decide +kernel
theorem dX8_init_4 : decode cX8_init 4 = .ok (.aload_n 0, 1) := by decide +kernel
theorem dX8_init_5 : decode cX8_init 5 = .ok (.bipush 60, 2) := by decide +kernel
theorem dX8_init_7 : decode cX8_init 7 = .ok (.newarray .int, 2) := by decide +kernel
theorem dX8_init_9 : decode cX8_init 9 = .ok (.putfield 9, 3) := by decide +kernel
theorem dX8_init_12 : decode cX8_init 12 = .ok (.aload_n 0, 1) := by decide +kernel
theorem dX8_init_13 : decode cX8_init 13 = .ok (.iconst 0, 1) := by decide +kernel
theorem dX8_init_14 : decode cX8_init 14 = .ok (.putfield 15, 3) := by decide +kernel
theorem dX8_init_17 : decode cX8_init 17 = .ok (.return_, 1) := by decide +kernel
theorem dX8_append_0 : decode cX8_append 0 = .ok (.aload_n 0, 1) := by decide +kernel
theorem dX8_append_1 : decode cX8_append 1 = .ok (.getfield 15, 3) := by decide +kernel
theorem dX8_append_4 : decode cX8_append 4 = .ok (.ifCond .lt 15, 3) := by decide +kernel
theorem dX8_append_7 : decode cX8_append 7 = .ok (.aload_n 0, 1) := by decide +kernel
theorem dX8_append_8 : decode cX8_append 8 = .ok (.getfield 15, 3) := by decide +kernel
theorem dX8_append_11 : decode cX8_append 11 = .ok (.aload_n 0, 1) := by decide +kernel
theorem dX8_append_12 : decode cX8_append 12 = .ok (.getfield 9, 3) := by decide +kernel
theorem dX8_append_15 : decode cX8_append 15 = .ok (.arraylength, 1) := by decide +kernel
theorem dX8_append_16 : decode cX8_append 16 = .ok (.if_icmp .lt 5, 3) := by decide +kernel
theorem dX8_append_19 : decode cX8_append 19 = .ok (.iconst 0, 1) := by decide +kernel
theorem dX8_append_20 : decode cX8_append 20 = .ok (.ireturn, 1) := by decide +kernel
theorem dX8_append_21 : decode cX8_append 21 = .ok (.aload_n 0, 1) := by decide +kernel
theorem dX8_append_22 : decode cX8_append 22 = .ok (.getfield 9, 3) := by decide +kernel
theorem dX8_append_25 : decode cX8_append 25 = .ok (.aload_n 0, 1) := by decide +kernel
theorem dX8_append_26 : decode cX8_append 26 = .ok (.getfield 15, 3) := by decide +kernel
theorem dX8_append_29 : decode cX8_append 29 = .ok (.iload_n 1, 1) := by decide +kernel
theorem dX8_append_30 : decode cX8_append 30 = .ok (.iastore, 1) := by decide +kernel
theorem dX8_append_31 : decode cX8_append 31 = .ok (.aload_n 0, 1) := by decide +kernel
theorem dX8_append_32 : decode cX8_append 32 = .ok (.dup, 1) := by decide +kernel
theorem dX8_append_33 : decode cX8_append 33 = .ok (.getfield 15, 3) := by decide +kernel
theorem dX8_append_36 : decode cX8_append 36 = .ok (.iconst 1, 1) := by decide +kernel
theorem dX8_append_37 : decode cX8_append 37 = .ok (.iadd, 1) := by decide +kernel
theorem dX8_append_38 : decode cX8_append 38 = .ok (.putfield 15, 3) := by decide +kernel
theorem dX8_append_41 : decode cX8_append 41 = .ok (.iconst 1, 1) := by decide +kernel
theorem dX8_append_42 : decode cX8_append 42 = .ok (.ireturn, 1) := by decide +kernel
theorem dX8_length_0 : decode cX8_length 0 = .ok (.aload_n 0, 1) := by decide +kernel
theorem dX8_length_1 : decode cX8_length 1 = .ok (.getfield 15, 3) := by decide +kernel
theorem dX8_length_4 : decode cX8_length 4 = .ok (.ireturn, 1) := by decide +kernel
theorem dX8_at_0 : decode cX8_at 0 = .ok (.iload_n 1, 1) := by decide +kernel
theorem dX8_at_1 : decode cX8_at 1 = .ok (.ifCond .lt 29, 3) := by decide +kernel
theorem dX8_at_4 : decode cX8_at 4 = .ok (.iload_n 1, 1) := by decide +kernel
theorem dX8_at_5 : decode cX8_at 5 = .ok (.aload_n 0, 1) := by decide +kernel
theorem dX8_at_6 : decode cX8_at 6 = .ok (.getfield 15, 3) := by decide +kernel
theorem dX8_at_9 : decode cX8_at 9 = .ok (.if_icmp .ge 21, 3) := by decide +kernel
theorem dX8_at_12 : decode cX8_at 12 = .ok (.iload_n 1, 1) := by decide +kernel
theorem dX8_at_13 : decode cX8_at 13 = .ok (.aload_n 0, 1) := by decide +kernel
theorem dX8_at_14 : decode cX8_at 14 = .ok (.getfield 9, 3) := by decide +kernel
theorem dX8_at_17 : decode cX8_at 17 = .ok (.arraylength, 1) := by decide +kernel
theorem dX8_at_18 : decode cX8_at 18 = .ok (.if_icmp .ge 12, 3) := by decide +kernel
theorem dX8_at_21 : decode cX8_at 21 = .ok (.aload_n 0, 1) := by decide +kernel
theorem dX8_at_22 : decode cX8_at 22 = .ok (.getfield 9, 3) := by decide +kernel
theorem dX8_at_25 : decode cX8_at 25 = .ok (.iload_n 1, 1) := by decide +kernel
theorem dX8_at_26 : decode cX8_at 26 = .ok (.iaload, 1) := by decide +kernel
theorem dX8_at_27 : decode cX8_at 27 = .ok (.goto 4, 3) := by decide +kernel
theorem dX8_at_30 : decode cX8_at 30 = .ok (.iconst (-1), 1) := by decide +kernel
theorem dX8_at_31 : decode cX8_at 31 = .ok (.ireturn, 1) := by decide +kernel
theorem dX8_clear_0 : decode cX8_clear 0 = .ok (.aload_n 0, 1) := by decide +kernel
theorem dX8_clear_1 : decode cX8_clear 1 = .ok (.iconst 0, 1) := by decide +kernel
theorem dX8_clear_2 : decode cX8_clear 2 = .ok (.putfield 15, 3) := by decide +kernel
theorem dX8_clear_5 : decode cX8_clear 5 = .ok (.return_, 1) := by decide +kernel
theorem dX9_init_0 : decode cX9_init 0 = .ok (.aload_n 0, 1) := by decide +kernel
theorem dX9_init_1 : decode cX9_init 1 = .ok (.invokespecial 5, 3) := by decide +kernel
theorem dX9_init_4 : decode cX9_init 4 = .ok (.aload_n 0, 1) := by decide +kernel
theorem dX9_init_5 : decode cX9_init 5 = .ok (.ldc 11, 2) := by decide +kernel
theorem dX9_init_7 : decode cX9_init 7 = .ok (.newarray .long, 2) := by decide +kernel
theorem dX9_init_9 : decode cX9_init 9 = .ok (.putfield 12, 3) := by decide +kernel
theorem dX9_init_12 : decode cX9_init 12 = .ok (.aload_n 0, 1) := by decide +kernel
theorem dX9_init_13 : decode cX9_init 13 = .ok (.lconst 0, 1) := by decide +kernel
theorem dX9_init_14 : decode cX9_init 14 = .ok (.putfield 16, 3) := by decide +kernel
theorem dX9_init_17 : decode cX9_init 17 = .ok (.aload_n 0, 1) := by decide +kernel
theorem dX9_init_18 : decode cX9_init 18 = .ok (.aload_n 1, 1) := by decide +kernel
theorem dX9_init_19 : decode cX9_init 19 = .ok (.putfield 20, 3) := by decide +kernel
theorem dX9_init_22 : decode cX9_init 22 = .ok (.aload_n 0, 1) := by decide +kernel
theorem dX9_init_23 : decode cX9_init 23 = .ok (.aload_n 2, 1) := by decide +kernel
theorem dX9_init_24 : decode cX9_init 24 = .ok (.putfield 24, 3) := by decide +kernel
theorem dX9_init_27 : decode cX9_init 27 = .ok (.return_, 1) := by decide +kernel
theorem dX9_forget_0 : decode cX9_forget 0 = .ok (.aload_n 0, 1) := by decide +kernel
theorem dX9_forget_1 : decode cX9_forget 1 = .ok (.dup, 1) := by decide +kernel
theorem dX9_forget_2 : decode cX9_forget 2 = .ok (.getfield 16, 3) := by decide +kernel
theorem dX9_forget_5 : decode cX9_forget 5 = .ok (.lconst 1, 1) := by decide +kernel
theorem dX9_forget_6 : decode cX9_forget 6 = .ok (.ladd, 1) := by decide +kernel
theorem dX9_forget_7 : decode cX9_forget 7 = .ok (.putfield 16, 3) := by decide +kernel
theorem dX9_forget_10 : decode cX9_forget 10 = .ok (.return_, 1) := by decide +kernel
theorem dX9_number_0 : decode cX9_number 0 = .ok (.aload_n 0, 1) := by decide +kernel
theorem dX9_number_1 : decode cX9_number 1 = .ok (.aload_n 0, 1) := by decide +kernel
theorem dX9_number_2 : decode cX9_number 2 = .ok (.getfield 20, 3) := by decide +kernel
theorem dX9_number_5 : decode cX9_number 5 = .ok (.invokevirtual 28, 3) := by decide +kernel
theorem dX9_number_8 : decode cX9_number 8 = .ok (.iload_n 1, 1) := by decide +kernel
theorem dX9_number_9 : decode cX9_number 9 = .ok (.iload_n 2, 1) := by decide +kernel
theorem dX9_number_10 : decode cX9_number 10 = .ok (.invokevirtual 34, 3) := by decide +kernel
theorem dX9_number_13 : decode cX9_number 13 = .ok (.l2i, 1) := by decide +kernel
theorem dX9_number_14 : decode cX9_number 14 = .ok (.ireturn, 1) := by decide +kernel
theorem dX9_tally_0 : decode cX9_tally 0 = .ok (.iload_n 3, 1) := by decide +kernel
theorem dX9_tally_1 : decode cX9_tally 1 = .ok (.ifCond .le 16, 3) := by decide +kernel
theorem dX9_tally_4 : decode cX9_tally 4 = .ok (.aload_n 0, 1) := by decide +kernel
theorem dX9_tally_5 : decode cX9_tally 5 = .ok (.getfield 24, 3) := by decide +kernel
theorem dX9_tally_8 : decode cX9_tally 8 = .ok (.iload_n 1, 1) := by decide +kernel
theorem dX9_tally_9 : decode cX9_tally 9 = .ok (.iload_n 2, 1) := by decide +kernel
theorem dX9_tally_10 : decode cX9_tally 10 = .ok (.iload_n 3, 1) := by decide +kernel
theorem dX9_tally_11 : decode cX9_tally 11 = .ok (.invokevirtual 38, 3) := by decide +kernel
theorem dX9_tally_14 : decode cX9_tally 14 = .ok (.ifCond .ne 5, 3) := by decide +kernel
theorem dX9_tally_17 : decode cX9_tally 17 = .ok (.lconst 0, 1) := by decide +kernel
theorem dX9_tally_18 : decode cX9_tally 18 = .ok (.lreturn, 1) := by decide +kernel
theorem dX9_tally_19 : decode cX9_tally 19 = .ok (.iload_n 1, 1) := by decide +kernel
theorem dX9_tally_20 : decode cX9_tally 20 = .ok (.sipush 256, 3) := by decide +kernel
theorem dX9_tally_23 : decode cX9_tally 23 = .ok (.imul, 1) := by decide +kernel
theorem dX9_tally_24 : decode cX9_tally 24 = .ok (.iload_n 2, 1) := by decide +kernel
theorem dX9_tally_25 : decode cX9_tally 25 = .ok (.iadd, 1) := by decide +kernel
theorem dX9_tally_26 : decode cX9_tally 26 = .ok (.bipush 10, 2) := by decide +kernel
theorem dX9_tally_28 : decode cX9_tally 28 = .ok (.imul, 1) := by decide +kernel
theorem dX9_tally_29 : decode cX9_tally 29 = .ok (.iload_n 3, 1) := by decide +kernel
theorem dX9_tally_30 : decode cX9_tally 30 = .ok (.iadd, 1) := by decide +kernel
theorem dX9_tally_31 : decode cX9_tally 31 = .ok (.iconst 1, 1) := by decide +kernel
theorem dX9_tally_32 : decode cX9_tally 32 = .ok (.isub, 1) := by decide +kernel
theorem dX9_tally_33 : decode cX9_tally 33 = .ok (.istore 4, 2) := by decide +kernel
theorem dX9_tally_35 : decode cX9_tally 35 = .ok (.iload 4, 2) := by decide +kernel
theorem dX9_tally_37 : decode cX9_tally 37 = .ok (.ifCond .lt 13, 3) := by decide +kernel
theorem dX9_tally_40 : decode cX9_tally 40 = .ok (.iload 4, 2) := by decide +kernel
theorem dX9_tally_42 : decode cX9_tally 42 = .ok (.aload_n 0, 1) := by decide +kernel
theorem dX9_tally_43 : decode cX9_tally 43 = .ok (.getfield 12, 3) := by decide +kernel
theorem dX9_tally_46 : decode cX9_tally 46 = .ok (.arraylength, 1) := by decide +kernel
theorem dX9_tally_47 : decode cX9_tally 47 = .ok (.if_icmp .lt 5, 3) := by decide +kernel
theorem dX9_tally_50 : decode cX9_tally 50 = .ok (.lconst 0, 1) := by decide +kernel
theorem dX9_tally_51 : decode cX9_tally 51 = .ok (.lreturn, 1) := by decide +kernel
theorem dX9_tally_52 : decode cX9_tally 52 = .ok (.aload_n 0, 1) := by decide +kernel
theorem dX9_tally_53 : decode cX9_tally 53 = .ok (.getfield 12, 3) := by decide +kernel
theorem dX9_tally_56 : decode cX9_tally 56 = .ok (.iload 4, 2) := by decide +kernel
theorem dX9_tally_58 : decode cX9_tally 58 = .ok (.laload, 1) := by decide +kernel
theorem dX9_tally_59 : decode cX9_tally 59 = .ok (.bipush 32, 2) := by decide +kernel
theorem dX9_tally_61 : decode cX9_tally 61 = .ok (.lushr, 1) := by decide +kernel
theorem dX9_tally_62 : decode cX9_tally 62 = .ok (.aload_n 0, 1) := by decide +kernel
theorem dX9_tally_63 : decode cX9_tally 63 = .ok (.getfield 16, 3) := by decide +kernel
theorem dX9_tally_66 : decode cX9_tally 66 = .ok (.lcmp, 1) := by decide +kernel
theorem dX9_tally_67 : decode cX9_tally 67 = .ok (.ifCond .eq 25, 3) := by decide +kernel
theorem dX9_tally_70 : decode cX9_tally 70 = .ok (.aload_n 0, 1) := by decide +kernel
theorem dX9_tally_71 : decode cX9_tally 71 = .ok (.getfield 12, 3) := by decide +kernel
theorem dX9_tally_74 : decode cX9_tally 74 = .ok (.iload 4, 2) := by decide +kernel
theorem dX9_tally_76 : decode cX9_tally 76 = .ok (.aload_n 0, 1) := by decide +kernel
theorem dX9_tally_77 : decode cX9_tally 77 = .ok (.getfield 16, 3) := by decide +kernel
theorem dX9_tally_80 : decode cX9_tally 80 = .ok (.bipush 32, 2) := by decide +kernel
theorem dX9_tally_82 : decode cX9_tally 82 = .ok (.lshl, 1) := by decide +kernel
theorem dX9_tally_83 : decode cX9_tally 83 = .ok (.aload_n 0, 1) := by decide +kernel
theorem dX9_tally_84 : decode cX9_tally 84 = .ok (.iload_n 1, 1) := by decide +kernel
theorem dX9_tally_85 : decode cX9_tally 85 = .ok (.iload_n 2, 1) := by decide +kernel
theorem dX9_tally_86 : decode cX9_tally 86 = .ok (.iload_n 3, 1) := by decide +kernel
theorem dX9_tally_87 : decode cX9_tally 87 = .ok (.invokevirtual 44, 3) := by decide +kernel
theorem dX9_tally_90 : decode cX9_tally 90 = .ok (.lor, 1) := by decide +kernel
theorem dX9_tally_91 : decode cX9_tally 91 = .ok (.lastore, 1) := by decide +kernel
theorem dX9_tally_92 : decode cX9_tally 92 = .ok (.aload_n 0, 1) := by decide +kernel
theorem dX9_tally_93 : decode cX9_tally 93 = .ok (.getfield 12, 3) := by decide +kernel
theorem dX9_tally_96 : decode cX9_tally 96 = .ok (.iload 4, 2) := by decide +kernel
theorem dX9_tally_98 : decode cX9_tally 98 = .ok (.laload, 1) := by decide +kernel
theorem dX9_tally_99 : decode cX9_tally 99 = .ok (.ldc2_w 47, 3) := by decide +kernel
theorem dX9_tally_102 : decode cX9_tally 102 = .ok (.land, 1) := by decide +kernel
theorem dX9_tally_103 : decode cX9_tally 103 = .ok (.lreturn, 1) := by decide +kernel
theorem dX9_tallyByKind_0 : decode cX9_tallyByKind 0 = .ok (.aload_n 0, 1) := by decide +kernel
theorem dX9_tallyByKind_1 : decode cX9_tallyByKind 1 = .ok (.getfield 20, 3) := by decide +kernel
theorem dX9_tallyByKind_4 : decode cX9_tallyByKind 4 = .ok (.iload_n 1, 1) := by decide +kernel
theorem dX9_tallyByKind_5 : decode cX9_tallyByKind 5 = .ok (.invokevirtual 49, 3) := by decide +kernel
theorem dX9_tallyByKind_8 : decode cX9_tallyByKind 8 = .ok (.istore 4, 2) := by decide +kernel
theorem dX9_tallyByKind_10 : decode cX9_tallyByKind 10 = .ok (.aload_n 0, 1) := by decide +kernel
theorem dX9_tallyByKind_11 : decode cX9_tallyByKind 11 = .ok (.getfield 20, 3) := by decide +kernel
theorem dX9_tallyByKind_14 : decode cX9_tallyByKind 14 = .ok (.iload_n 1, 1) := by decide +kernel
theorem dX9_tallyByKind_15 : decode cX9_tallyByKind 15 = .ok (.invokevirtual 53, 3) := by decide +kernel
theorem dX9_tallyByKind_18 : decode cX9_tallyByKind 18 = .ok (.istore 5, 2) := by decide +kernel
theorem dX9_tallyByKind_20 : decode cX9_tallyByKind 20 = .ok (.aload_n 0, 1) := by decide +kernel
theorem dX9_tallyByKind_21 : decode cX9_tallyByKind 21 = .ok (.getfield 20, 3) := by decide +kernel
theorem dX9_tallyByKind_24 : decode cX9_tallyByKind 24 = .ok (.iload_n 1, 1) := by decide +kernel
theorem dX9_tallyByKind_25 : decode cX9_tallyByKind 25 = .ok (.invokevirtual 56, 3) := by decide +kernel
theorem dX9_tallyByKind_28 : decode cX9_tallyByKind 28 = .ok (.istore 6, 2) := by decide +kernel
theorem dX9_tallyByKind_30 : decode cX9_tallyByKind 30 = .ok (.iload 6, 2) := by decide +kernel
theorem dX9_tallyByKind_32 : decode cX9_tallyByKind 32 = .ok (.lookupswitch 162 #[(33, 70), (38, 92), (42, 81), (43, 117), (49, 68), (84, 68), (91, 142)], 68) := by decide +kernel
theorem dX9_tallyByKind_100 : decode cX9_tallyByKind 100 = .ok (.lconst 1, 1) := by decide +kernel
theorem dX9_tallyByKind_101 : decode cX9_tallyByKind 101 = .ok (.lreturn, 1) := by decide +kernel
theorem dX9_tallyByKind_102 : decode cX9_tallyByKind 102 = .ok (.aload_n 0, 1) := by decide +kernel
theorem dX9_tallyByKind_103 : decode cX9_tallyByKind 103 = .ok (.iload 4, 2) := by decide +kernel
theorem dX9_tallyByKind_105 : decode cX9_tallyByKind 105 = .ok (.iload_n 2, 1) := by decide +kernel
theorem dX9_tallyByKind_106 : decode cX9_tallyByKind 106 = .ok (.iload_n 3, 1) := by decide +kernel
theorem dX9_tallyByKind_107 : decode cX9_tallyByKind 107 = .ok (.iconst 1, 1) := by decide +kernel
theorem dX9_tallyByKind_108 : decode cX9_tallyByKind 108 = .ok (.isub, 1) := by decide +kernel
theorem dX9_tallyByKind_109 : decode cX9_tallyByKind 109 = .ok (.invokevirtual 34, 3) := by decide +kernel
theorem dX9_tallyByKind_112 : decode cX9_tallyByKind 112 = .ok (.lreturn, 1) := by decide +kernel
theorem dX9_tallyByKind_113 : decode cX9_tallyByKind 113 = .ok (.aload_n 0, 1) := by decide +kernel
theorem dX9_tallyByKind_114 : decode cX9_tallyByKind 114 = .ok (.iload 4, 2) := by decide +kernel
theorem dX9_tallyByKind_116 : decode cX9_tallyByKind 116 = .ok (.iload 5, 2) := by decide +kernel
theorem dX9_tallyByKind_118 : decode cX9_tallyByKind 118 = .ok (.iload_n 2, 1) := by decide +kernel
theorem dX9_tallyByKind_119 : decode cX9_tallyByKind 119 = .ok (.iload_n 3, 1) := by decide +kernel
theorem dX9_tallyByKind_120 : decode cX9_tallyByKind 120 = .ok (.invokevirtual 60, 3) := by decide +kernel
theorem dX9_tallyByKind_123 : decode cX9_tallyByKind 123 = .ok (.lreturn, 1) := by decide +kernel
theorem dX9_tallyByKind_124 : decode cX9_tallyByKind 124 = .ok (.aload_n 0, 1) := by decide +kernel
theorem dX9_tallyByKind_125 : decode cX9_tallyByKind 125 = .ok (.iload 4, 2) := by decide +kernel
theorem dX9_tallyByKind_127 : decode cX9_tallyByKind 127 = .ok (.iload_n 2, 1) := by decide +kernel
theorem dX9_tallyByKind_128 : decode cX9_tallyByKind 128 = .ok (.iload_n 3, 1) := by decide +kernel
theorem dX9_tallyByKind_129 : decode cX9_tallyByKind 129 = .ok (.iconst 1, 1) := by decide +kernel
theorem dX9_tallyByKind_130 : decode cX9_tallyByKind 130 = .ok (.isub, 1) := by decide +kernel
theorem dX9_tallyByKind_131 : decode cX9_tallyByKind 131 = .ok (.invokevirtual 34, 3) := by decide +kernel
theorem dX9_tallyByKind_134 : decode cX9_tallyByKind 134 = .ok (.aload_n 0, 1) := by decide +kernel
theorem dX9_tallyByKind_135 : decode cX9_tallyByKind 135 = .ok (.iload 5, 2) := by decide +kernel
theorem dX9_tallyByKind_137 : decode cX9_tallyByKind 137 = .ok (.iload_n 2, 1) := by decide +kernel
theorem dX9_tallyByKind_138 : decode cX9_tallyByKind 138 = .ok (.iload_n 3, 1) := by decide +kernel
theorem dX9_tallyByKind_139 : decode cX9_tallyByKind 139 = .ok (.iconst 1, 1) := by decide +kernel
theorem dX9_tallyByKind_140 : decode cX9_tallyByKind 140 = .ok (.isub, 1) := by decide +kernel
theorem dX9_tallyByKind_141 : decode cX9_tallyByKind 141 = .ok (.invokevirtual 34, 3) := by decide +kernel
theorem dX9_tallyByKind_144 : decode cX9_tallyByKind 144 = .ok (.lmul, 1) := by decide +kernel
theorem dX9_tallyByKind_145 : decode cX9_tallyByKind 145 = .ok (.invokestatic 64, 3) := by decide +kernel
theorem dX9_tallyByKind_148 : decode cX9_tallyByKind 148 = .ok (.lreturn, 1) := by decide +kernel
theorem dX9_tallyByKind_149 : decode cX9_tallyByKind 149 = .ok (.aload_n 0, 1) := by decide +kernel
theorem dX9_tallyByKind_150 : decode cX9_tallyByKind 150 = .ok (.iload 4, 2) := by decide +kernel
theorem dX9_tallyByKind_152 : decode cX9_tallyByKind 152 = .ok (.iload_n 2, 1) := by decide +kernel
theorem dX9_tallyByKind_153 : decode cX9_tallyByKind 153 = .ok (.iload_n 3, 1) := by decide +kernel
theorem dX9_tallyByKind_154 : decode cX9_tallyByKind 154 = .ok (.iconst 1, 1) := by decide +kernel
theorem dX9_tallyByKind_155 : decode cX9_tallyByKind 155 = .ok (.isub, 1) := by decide +kernel
theorem dX9_tallyByKind_156 : decode cX9_tallyByKind 156 = .ok (.invokevirtual 34, 3) := by decide +kernel
theorem dX9_tallyByKind_159 : decode cX9_tallyByKind 159 = .ok (.aload_n 0, 1) := by decide +kernel
theorem dX9_tallyByKind_160 : decode cX9_tallyByKind 160 = .ok (.iload 5, 2) := by decide +kernel
theorem dX9_tallyByKind_162 : decode cX9_tallyByKind 162 = .ok (.iload_n 2, 1) := by decide +kernel
theorem dX9_tallyByKind_163 : decode cX9_tallyByKind 163 = .ok (.iload_n 3, 1) := by decide +kernel
theorem dX9_tallyByKind_164 : decode cX9_tallyByKind 164 = .ok (.iconst 1, 1) := by decide +kernel
theorem dX9_tallyByKind_165 : decode cX9_tallyByKind 165 = .ok (.isub, 1) := by decide +kernel
theorem dX9_tallyByKind_166 : decode cX9_tallyByKind 166 = .ok (.invokevirtual 34, 3) := by decide +kernel
theorem dX9_tallyByKind_169 : decode cX9_tallyByKind 169 = .ok (.ladd, 1) := by decide +kernel
theorem dX9_tallyByKind_170 : decode cX9_tallyByKind 170 = .ok (.invokestatic 64, 3) := by decide +kernel
theorem dX9_tallyByKind_173 : decode cX9_tallyByKind 173 = .ok (.lreturn, 1) := by decide +kernel
theorem dX9_tallyByKind_174 : decode cX9_tallyByKind 174 = .ok (.aload_n 0, 1) := by decide +kernel
theorem dX9_tallyByKind_175 : decode cX9_tallyByKind 175 = .ok (.iload 4, 2) := by decide +kernel
theorem dX9_tallyByKind_177 : decode cX9_tallyByKind 177 = .ok (.iload_n 2, 1) := by decide +kernel
theorem dX9_tallyByKind_178 : decode cX9_tallyByKind 178 = .ok (.aload_n 0, 1) := by decide +kernel
theorem dX9_tallyByKind_179 : decode cX9_tallyByKind 179 = .ok (.getfield 20, 3) := by decide +kernel
theorem dX9_tallyByKind_182 : decode cX9_tallyByKind 182 = .ok (.iload_n 1, 1) := by decide +kernel
theorem dX9_tallyByKind_183 : decode cX9_tallyByKind 183 = .ok (.invokevirtual 68, 3) := by decide +kernel
theorem dX9_tallyByKind_186 : decode cX9_tallyByKind 186 = .ok (.ior, 1) := by decide +kernel
theorem dX9_tallyByKind_187 : decode cX9_tallyByKind 187 = .ok (.iload_n 3, 1) := by decide +kernel
theorem dX9_tallyByKind_188 : decode cX9_tallyByKind 188 = .ok (.iconst 1, 1) := by decide +kernel
theorem dX9_tallyByKind_189 : decode cX9_tallyByKind 189 = .ok (.isub, 1) := by decide +kernel
theorem dX9_tallyByKind_190 : decode cX9_tallyByKind 190 = .ok (.invokevirtual 34, 3) := by decide +kernel
theorem dX9_tallyByKind_193 : decode cX9_tallyByKind 193 = .ok (.lreturn, 1) := by decide +kernel
theorem dX9_tallyByKind_194 : decode cX9_tallyByKind 194 = .ok (.aload_n 0, 1) := by decide +kernel
theorem dX9_tallyByKind_195 : decode cX9_tallyByKind 195 = .ok (.iload 6, 2) := by decide +kernel
theorem dX9_tallyByKind_197 : decode cX9_tallyByKind 197 = .ok (.iload_n 2, 1) := by decide +kernel
theorem dX9_tallyByKind_198 : decode cX9_tallyByKind 198 = .ok (.iload_n 3, 1) := by decide +kernel
theorem dX9_tallyByKind_199 : decode cX9_tallyByKind 199 = .ok (.invokevirtual 71, 3) := by decide +kernel
theorem dX9_tallyByKind_202 : decode cX9_tallyByKind 202 = .ok (.lreturn, 1) := by decide +kernel
theorem dX9_tallySplits_0 : decode cX9_tallySplits 0 = .ok (.lconst 0, 1) := by decide +kernel
theorem dX9_tallySplits_1 : decode cX9_tallySplits 1 = .ok (.lstore 5, 2) := by decide +kernel
theorem dX9_tallySplits_3 : decode cX9_tallySplits 3 = .ok (.iconst 0, 1) := by decide +kernel
theorem dX9_tallySplits_4 : decode cX9_tallySplits 4 = .ok (.istore 7, 2) := by decide +kernel
theorem dX9_tallySplits_6 : decode cX9_tallySplits 6 = .ok (.iload_n 3, 1) := by decide +kernel
theorem dX9_tallySplits_7 : decode cX9_tallySplits 7 = .ok (.invokestatic 75, 3) := by decide +kernel
theorem dX9_tallySplits_10 : decode cX9_tallySplits 10 = .ok (.istore 8, 2) := by decide +kernel
theorem dX9_tallySplits_12 : decode cX9_tallySplits 12 = .ok (.iload 8, 2) := by decide +kernel
theorem dX9_tallySplits_14 : decode cX9_tallySplits 14 = .ok (.ifCond .le 78, 3) := by decide +kernel
theorem dX9_tallySplits_17 : decode cX9_tallySplits 17 = .ok (.aload_n 0, 1) := by decide +kernel
theorem dX9_tallySplits_18 : decode cX9_tallySplits 18 = .ok (.getfield 24, 3) := by decide +kernel
theorem dX9_tallySplits_21 : decode cX9_tallySplits 21 = .ok (.iload_n 1, 1) := by decide +kernel
theorem dX9_tallySplits_22 : decode cX9_tallySplits 22 = .ok (.iload 7, 2) := by decide +kernel
theorem dX9_tallySplits_24 : decode cX9_tallySplits 24 = .ok (.iload 4, 2) := by decide +kernel
theorem dX9_tallySplits_26 : decode cX9_tallySplits 26 = .ok (.iconst 1, 1) := by decide +kernel
theorem dX9_tallySplits_27 : decode cX9_tallySplits 27 = .ok (.isub, 1) := by decide +kernel
theorem dX9_tallySplits_28 : decode cX9_tallySplits 28 = .ok (.invokevirtual 38, 3) := by decide +kernel
theorem dX9_tallySplits_31 : decode cX9_tallySplits 31 = .ok (.ifCond .eq 47, 3) := by decide +kernel
theorem dX9_tallySplits_34 : decode cX9_tallySplits 34 = .ok (.aload_n 0, 1) := by decide +kernel
theorem dX9_tallySplits_35 : decode cX9_tallySplits 35 = .ok (.iload_n 2, 1) := by decide +kernel
theorem dX9_tallySplits_36 : decode cX9_tallySplits 36 = .ok (.iload_n 3, 1) := by decide +kernel
theorem dX9_tallySplits_37 : decode cX9_tallySplits 37 = .ok (.iload 7, 2) := by decide +kernel
theorem dX9_tallySplits_39 : decode cX9_tallySplits 39 = .ok (.ixor, 1) := by decide +kernel
theorem dX9_tallySplits_40 : decode cX9_tallySplits 40 = .ok (.iload 4, 2) := by decide +kernel
theorem dX9_tallySplits_42 : decode cX9_tallySplits 42 = .ok (.iconst 1, 1) := by decide +kernel
theorem dX9_tallySplits_43 : decode cX9_tallySplits 43 = .ok (.isub, 1) := by decide +kernel
theorem dX9_tallySplits_44 : decode cX9_tallySplits 44 = .ok (.invokevirtual 34, 3) := by decide +kernel
theorem dX9_tallySplits_47 : decode cX9_tallySplits 47 = .ok (.lstore 9, 2) := by decide +kernel
theorem dX9_tallySplits_49 : decode cX9_tallySplits 49 = .ok (.lload 9, 2) := by decide +kernel
theorem dX9_tallySplits_51 : decode cX9_tallySplits 51 = .ok (.lconst 0, 1) := by decide +kernel
theorem dX9_tallySplits_52 : decode cX9_tallySplits 52 = .ok (.lcmp, 1) := by decide +kernel
theorem dX9_tallySplits_53 : decode cX9_tallySplits 53 = .ok (.ifCond .eq 25, 3) := by decide +kernel
theorem dX9_tallySplits_56 : decode cX9_tallySplits 56 = .ok (.lload 5, 2) := by decide +kernel
theorem dX9_tallySplits_58 : decode cX9_tallySplits 58 = .ok (.aload_n 0, 1) := by decide +kernel
theorem dX9_tallySplits_59 : decode cX9_tallySplits 59 = .ok (.iload_n 1, 1) := by decide +kernel
theorem dX9_tallySplits_60 : decode cX9_tallySplits 60 = .ok (.iload 7, 2) := by decide +kernel
theorem dX9_tallySplits_62 : decode cX9_tallySplits 62 = .ok (.iload 4, 2) := by decide +kernel
theorem dX9_tallySplits_64 : decode cX9_tallySplits 64 = .ok (.iconst 1, 1) := by decide +kernel
theorem dX9_tallySplits_65 : decode cX9_tallySplits 65 = .ok (.isub, 1) := by decide +kernel
theorem dX9_tallySplits_66 : decode cX9_tallySplits 66 = .ok (.invokevirtual 34, 3) := by decide +kernel
theorem dX9_tallySplits_69 : decode cX9_tallySplits 69 = .ok (.lload 9, 2) := by decide +kernel
theorem dX9_tallySplits_71 : decode cX9_tallySplits 71 = .ok (.lmul, 1) := by decide +kernel
theorem dX9_tallySplits_72 : decode cX9_tallySplits 72 = .ok (.ladd, 1) := by decide +kernel
theorem dX9_tallySplits_73 : decode cX9_tallySplits 73 = .ok (.invokestatic 64, 3) := by decide +kernel
theorem dX9_tallySplits_76 : decode cX9_tallySplits 76 = .ok (.lstore 5, 2) := by decide +kernel
theorem dX9_tallySplits_78 : decode cX9_tallySplits 78 = .ok (.iload 7, 2) := by decide +kernel
theorem dX9_tallySplits_80 : decode cX9_tallySplits 80 = .ok (.iload_n 3, 1) := by decide +kernel
theorem dX9_tallySplits_81 : decode cX9_tallySplits 81 = .ok (.invokestatic 78, 3) := by decide +kernel
theorem dX9_tallySplits_84 : decode cX9_tallySplits 84 = .ok (.istore 7, 2) := by decide +kernel
theorem dX9_tallySplits_86 : decode cX9_tallySplits 86 = .ok (.iinc 8 (-1), 3) := by decide +kernel
theorem dX9_tallySplits_89 : decode cX9_tallySplits 89 = .ok (.goto (-77), 3) := by decide +kernel
theorem dX9_tallySplits_92 : decode cX9_tallySplits 92 = .ok (.lload 5, 2) := by decide +kernel
theorem dX9_tallySplits_94 : decode cX9_tallySplits 94 = .ok (.lreturn, 1) := by decide +kernel
theorem dX9_tallyAtom_0 : decode cX9_tallyAtom 0 = .ok (.lconst 0, 1) := by decide +kernel
theorem dX9_tallyAtom_1 : decode cX9_tallyAtom 1 = .ok (.lstore 4, 2) := by decide +kernel
theorem dX9_tallyAtom_3 : decode cX9_tallyAtom 3 = .ok (.iconst 0, 1) := by decide +kernel
theorem dX9_tallyAtom_4 : decode cX9_tallyAtom 4 = .ok (.istore 6, 2) := by decide +kernel
theorem dX9_tallyAtom_6 : decode cX9_tallyAtom 6 = .ok (.iload 6, 2) := by decide +kernel
theorem dX9_tallyAtom_8 : decode cX9_tallyAtom 8 = .ok (.bipush 12, 2) := by decide +kernel
theorem dX9_tallyAtom_10 : decode cX9_tallyAtom 10 = .ok (.if_icmp .ge 79, 3) := by decide +kernel
theorem dX9_tallyAtom_13 : decode cX9_tallyAtom 13 = .ok (.iload 6, 2) := by decide +kernel
theorem dX9_tallyAtom_15 : decode cX9_tallyAtom 15 = .ok (.iload_n 2, 1) := by decide +kernel
theorem dX9_tallyAtom_16 : decode cX9_tallyAtom 16 = .ok (.invokestatic 82, 3) := by decide +kernel
theorem dX9_tallyAtom_19 : decode cX9_tallyAtom 19 = .ok (.istore 7, 2) := by decide +kernel
theorem dX9_tallyAtom_21 : decode cX9_tallyAtom 21 = .ok (.iconst 0, 1) := by decide +kernel
theorem dX9_tallyAtom_22 : decode cX9_tallyAtom 22 = .ok (.istore 8, 2) := by decide +kernel
theorem dX9_tallyAtom_24 : decode cX9_tallyAtom 24 = .ok (.iload 8, 2) := by decide +kernel
theorem dX9_tallyAtom_26 : decode cX9_tallyAtom 26 = .ok (.iconst 3, 1) := by decide +kernel
theorem dX9_tallyAtom_27 : decode cX9_tallyAtom 27 = .ok (.if_icmp .ge 56, 3) := by decide +kernel
theorem dX9_tallyAtom_30 : decode cX9_tallyAtom 30 = .ok (.iload 7, 2) := by decide +kernel
theorem dX9_tallyAtom_32 : decode cX9_tallyAtom 32 = .ok (.iconst (-1), 1) := by decide +kernel
theorem dX9_tallyAtom_33 : decode cX9_tallyAtom 33 = .ok (.if_icmp .eq 50, 3) := by decide +kernel
theorem dX9_tallyAtom_36 : decode cX9_tallyAtom 36 = .ok (.aload_n 0, 1) := by decide +kernel
theorem dX9_tallyAtom_37 : decode cX9_tallyAtom 37 = .ok (.getfield 20, 3) := by decide +kernel
theorem dX9_tallyAtom_40 : decode cX9_tallyAtom 40 = .ok (.iload 6, 2) := by decide +kernel
theorem dX9_tallyAtom_42 : decode cX9_tallyAtom 42 = .ok (.iload 8, 2) := by decide +kernel
theorem dX9_tallyAtom_44 : decode cX9_tallyAtom 44 = .ok (.iload_n 1, 1) := by decide +kernel
theorem dX9_tallyAtom_45 : decode cX9_tallyAtom 45 = .ok (.invokevirtual 85, 3) := by decide +kernel
theorem dX9_tallyAtom_48 : decode cX9_tallyAtom 48 = .ok (.ifCond .eq 29, 3) := by decide +kernel
theorem dX9_tallyAtom_51 : decode cX9_tallyAtom 51 = .ok (.lload 4, 2) := by decide +kernel
theorem dX9_tallyAtom_53 : decode cX9_tallyAtom 53 = .ok (.aload_n 0, 1) := by decide +kernel
theorem dX9_tallyAtom_54 : decode cX9_tallyAtom 54 = .ok (.aload_n 0, 1) := by decide +kernel
theorem dX9_tallyAtom_55 : decode cX9_tallyAtom 55 = .ok (.getfield 20, 3) := by decide +kernel
theorem dX9_tallyAtom_58 : decode cX9_tallyAtom 58 = .ok (.iload 6, 2) := by decide +kernel
theorem dX9_tallyAtom_60 : decode cX9_tallyAtom 60 = .ok (.iload 8, 2) := by decide +kernel
theorem dX9_tallyAtom_62 : decode cX9_tallyAtom 62 = .ok (.invokevirtual 89, 3) := by decide +kernel
theorem dX9_tallyAtom_65 : decode cX9_tallyAtom 65 = .ok (.iload 7, 2) := by decide +kernel
theorem dX9_tallyAtom_67 : decode cX9_tallyAtom 67 = .ok (.iload_n 3, 1) := by decide +kernel
theorem dX9_tallyAtom_68 : decode cX9_tallyAtom 68 = .ok (.invokevirtual 92, 3) := by decide +kernel
theorem dX9_tallyAtom_71 : decode cX9_tallyAtom 71 = .ok (.ladd, 1) := by decide +kernel
theorem dX9_tallyAtom_72 : decode cX9_tallyAtom 72 = .ok (.invokestatic 64, 3) := by decide +kernel
theorem dX9_tallyAtom_75 : decode cX9_tallyAtom 75 = .ok (.lstore 4, 2) := by decide +kernel
theorem dX9_tallyAtom_77 : decode cX9_tallyAtom 77 = .ok (.iinc 8 1, 3) := by decide +kernel
theorem dX9_tallyAtom_80 : decode cX9_tallyAtom 80 = .ok (.goto (-56), 3) := by decide +kernel
theorem dX9_tallyAtom_83 : decode cX9_tallyAtom 83 = .ok (.iinc 6 1, 3) := by decide +kernel
theorem dX9_tallyAtom_86 : decode cX9_tallyAtom 86 = .ok (.goto (-80), 3) := by decide +kernel
theorem dX9_tallyAtom_89 : decode cX9_tallyAtom 89 = .ok (.lload 4, 2) := by decide +kernel
theorem dX9_tallyAtom_91 : decode cX9_tallyAtom 91 = .ok (.lreturn, 1) := by decide +kernel
theorem dX9_tallyFace_0 : decode cX9_tallyFace 0 = .ok (.iload_n 1, 1) := by decide +kernel
theorem dX9_tallyFace_1 : decode cX9_tallyFace 1 = .ok (.iconst (-1), 1) := by decide +kernel
theorem dX9_tallyFace_2 : decode cX9_tallyFace 2 = .ok (.if_icmp .ne 13, 3) := by decide +kernel
theorem dX9_tallyFace_5 : decode cX9_tallyFace 5 = .ok (.iload_n 2, 1) := by decide +kernel
theorem dX9_tallyFace_6 : decode cX9_tallyFace 6 = .ok (.ifCond .ne 7, 3) := by decide +kernel
theorem dX9_tallyFace_9 : decode cX9_tallyFace 9 = .ok (.lconst 1, 1) := by decide +kernel
theorem dX9_tallyFace_10 : decode cX9_tallyFace 10 = .ok (.goto 4, 3) := by decide +kernel
theorem dX9_tallyFace_13 : decode cX9_tallyFace 13 = .ok (.lconst 0, 1) := by decide +kernel
theorem dX9_tallyFace_14 : decode cX9_tallyFace 14 = .ok (.lreturn, 1) := by decide +kernel
theorem dX9_tallyFace_15 : decode cX9_tallyFace 15 = .ok (.aload_n 0, 1) := by decide +kernel
theorem dX9_tallyFace_16 : decode cX9_tallyFace 16 = .ok (.iload_n 1, 1) := by decide +kernel
theorem dX9_tallyFace_17 : decode cX9_tallyFace 17 = .ok (.iload_n 2, 1) := by decide +kernel
theorem dX9_tallyFace_18 : decode cX9_tallyFace 18 = .ok (.iload_n 3, 1) := by decide +kernel
theorem dX9_tallyFace_19 : decode cX9_tallyFace 19 = .ok (.iconst 1, 1) := by decide +kernel
theorem dX9_tallyFace_20 : decode cX9_tallyFace 20 = .ok (.isub, 1) := by decide +kernel
theorem dX9_tallyFace_21 : decode cX9_tallyFace 21 = .ok (.invokevirtual 34, 3) := by decide +kernel
theorem dX9_tallyFace_24 : decode cX9_tallyFace 24 = .ok (.lreturn, 1) := by decide +kernel
theorem dX9_capped_0 : decode cX9_capped 0 = .ok (.lload_n 0, 1) := by decide +kernel
theorem dX9_capped_1 : decode cX9_capped 1 = .ok (.ldc2_w 95, 3) := by decide +kernel
theorem dX9_capped_4 : decode cX9_capped 4 = .ok (.invokestatic 97, 3) := by decide +kernel
theorem dX9_capped_7 : decode cX9_capped 7 = .ok (.lreturn, 1) := by decide +kernel
theorem dX10_init_0 : decode cX10_init 0 = .ok (.aload_n 0, 1) := by decide +kernel
theorem dX10_init_1 : decode cX10_init 1 = .ok (.invokespecial 3, 3) := by decide +kernel
theorem dX10_init_4 : decode cX10_init 4 = .ok (.aload_n 0, 1) := by decide +kernel
theorem dX10_init_5 : decode cX10_init 5 = .ok (.new 9, 3) := by decide +kernel
theorem dX10_init_8 : decode cX10_init 8 = .ok (.dup, 1) := by decide +kernel
theorem dX10_init_9 : decode cX10_init 9 = .ok (.invokespecial 11, 3) := by decide +kernel
theorem dX10_init_12 : decode cX10_init 12 = .ok (.putfield 12, 3) := by decide +kernel
theorem dX10_init_15 : decode cX10_init 15 = .ok (.aload_n 0, 1) := by decide +kernel
theorem dX10_init_16 : decode cX10_init 16 = .ok (.new 16, 3) := by decide +kernel
theorem dX10_init_19 : decode cX10_init 19 = .ok (.dup, 1) := by decide +kernel
theorem dX10_init_20 : decode cX10_init 20 = .ok (.invokespecial 18, 3) := by decide +kernel
theorem dX10_init_23 : decode cX10_init 23 = .ok (.putfield 19, 3) := by decide +kernel
theorem dX10_init_26 : decode cX10_init 26 = .ok (.aload_n 0, 1) := by decide +kernel
theorem dX10_init_27 : decode cX10_init 27 = .ok (.iconst 2, 1) := by decide +kernel
theorem dX10_init_28 : decode cX10_init 28 = .ok (.anewarray 16, 3) := by decide +kernel
theorem dX10_init_31 : decode cX10_init 31 = .ok (.putfield 23, 3) := by decide +kernel
theorem dX10_init_34 : decode cX10_init 34 = .ok (.aload_n 0, 1) := by decide +kernel
theorem dX10_init_35 : decode cX10_init 35 = .ok (.new 27, 3) := by decide +kernel
theorem dX10_init_38 : decode cX10_init 38 = .ok (.dup, 1) := by decide +kernel
theorem dX10_init_39 : decode cX10_init 39 = .ok (.invokespecial 29, 3) := by decide +kernel
theorem dX10_init_42 : decode cX10_init 42 = .ok (.putfield 30, 3) := by decide +kernel
theorem dX10_init_45 : decode cX10_init 45 = .ok (.aload_n 0, 1) := by decide +kernel
theorem dX10_init_46 : decode cX10_init 46 = .ok (.new 27, 3) := by decide +kernel
theorem dX10_init_49 : decode cX10_init 49 = .ok (.dup, 1) := by decide +kernel
theorem dX10_init_50 : decode cX10_init 50 = .ok (.invokespecial 29, 3) := by decide +kernel
theorem dX10_init_53 : decode cX10_init 53 = .ok (.putfield 34, 3) := by decide +kernel
theorem dX10_init_56 : decode cX10_init 56 = .ok (.aload_n 0, 1) := by decide +kernel
theorem dX10_init_57 : decode cX10_init 57 = .ok (.new 37, 3) := by decide +kernel
theorem dX10_init_60 : decode cX10_init 60 = .ok (.dup, 1) := by decide +kernel
theorem dX10_init_61 : decode cX10_init 61 = .ok (.aload_n 0, 1) := by decide +kernel
theorem dX10_init_62 : decode cX10_init 62 = .ok (.getfield 34, 3) := by decide +kernel
theorem dX10_init_65 : decode cX10_init 65 = .ok (.invokespecial 39, 3) := by decide +kernel
theorem dX10_init_68 : decode cX10_init 68 = .ok (.putfield 42, 3) := by decide +kernel
theorem dX10_init_71 : decode cX10_init 71 = .ok (.aload_n 0, 1) := by decide +kernel
theorem dX10_init_72 : decode cX10_init 72 = .ok (.new 46, 3) := by decide +kernel
theorem dX10_init_75 : decode cX10_init 75 = .ok (.dup, 1) := by decide +kernel
theorem dX10_init_76 : decode cX10_init 76 = .ok (.aload_n 0, 1) := by decide +kernel
theorem dX10_init_77 : decode cX10_init 77 = .ok (.getfield 34, 3) := by decide +kernel
theorem dX10_init_80 : decode cX10_init 80 = .ok (.aload_n 0, 1) := by decide +kernel
theorem dX10_init_81 : decode cX10_init 81 = .ok (.getfield 42, 3) := by decide +kernel
theorem dX10_init_84 : decode cX10_init 84 = .ok (.invokespecial 48, 3) := by decide +kernel
theorem dX10_init_87 : decode cX10_init 87 = .ok (.putfield 51, 3) := by decide +kernel
theorem dX10_init_90 : decode cX10_init 90 = .ok (.aload_n 0, 1) := by decide +kernel
theorem dX10_init_91 : decode cX10_init 91 = .ok (.new 55, 3) := by decide +kernel
theorem dX10_init_94 : decode cX10_init 94 = .ok (.dup, 1) := by decide +kernel
theorem dX10_init_95 : decode cX10_init 95 = .ok (.aload_n 0, 1) := by decide +kernel
theorem dX10_init_96 : decode cX10_init 96 = .ok (.getfield 34, 3) := by decide +kernel
theorem dX10_init_99 : decode cX10_init 99 = .ok (.aload_n 0, 1) := by decide +kernel
theorem dX10_init_100 : decode cX10_init 100 = .ok (.getfield 42, 3) := by decide +kernel
theorem dX10_init_103 : decode cX10_init 103 = .ok (.invokespecial 57, 3) := by decide +kernel
theorem dX10_init_106 : decode cX10_init 106 = .ok (.putfield 58, 3) := by decide +kernel
theorem dX10_init_109 : decode cX10_init 109 = .ok (.aload_n 0, 1) := by decide +kernel
theorem dX10_init_110 : decode cX10_init 110 = .ok (.new 62, 3) := by decide +kernel
theorem dX10_init_113 : decode cX10_init 113 = .ok (.dup, 1) := by decide +kernel
theorem dX10_init_114 : decode cX10_init 114 = .ok (.invokespecial 64, 3) := by decide +kernel
theorem dX10_init_117 : decode cX10_init 117 = .ok (.putfield 65, 3) := by decide +kernel
theorem dX10_init_120 : decode cX10_init 120 = .ok (.aload_n 0, 1) := by decide +kernel
theorem dX10_init_121 : decode cX10_init 121 = .ok (.new 69, 3) := by decide +kernel
theorem dX10_init_124 : decode cX10_init 124 = .ok (.dup, 1) := by decide +kernel
theorem dX10_init_125 : decode cX10_init 125 = .ok (.aload_n 0, 1) := by decide +kernel
theorem dX10_init_126 : decode cX10_init 126 = .ok (.getfield 34, 3) := by decide +kernel
theorem dX10_init_129 : decode cX10_init 129 = .ok (.aload_n 0, 1) := by decide +kernel
theorem dX10_init_130 : decode cX10_init 130 = .ok (.getfield 65, 3) := by decide +kernel
theorem dX10_init_133 : decode cX10_init 133 = .ok (.invokespecial 71, 3) := by decide +kernel
theorem dX10_init_136 : decode cX10_init 136 = .ok (.putfield 74, 3) := by decide +kernel
theorem dX10_init_139 : decode cX10_init 139 = .ok (.aload_n 0, 1) := by decide +kernel
theorem dX10_init_140 : decode cX10_init 140 = .ok (.bipush (-6), 2) := by decide +kernel
theorem dX10_init_142 : decode cX10_init 142 = .ok (.putfield 78, 3) := by decide +kernel
theorem dX10_init_145 : decode cX10_init 145 = .ok (.aload_n 0, 1) := by decide +kernel
theorem dX10_init_146 : decode cX10_init 146 = .ok (.iconst 1, 1) := by decide +kernel
theorem dX10_init_147 : decode cX10_init 147 = .ok (.putfield 82, 3) := by decide +kernel
theorem dX10_init_150 : decode cX10_init 150 = .ok (.return_, 1) := by decide +kernel
theorem dX10_say_0 : decode cX10_say 0 = .ok (.iload_n 1, 1) := by decide +kernel
theorem dX10_say_1 : decode cX10_say 1 = .ok (.bipush 33, 2) := by decide +kernel
theorem dX10_say_3 : decode cX10_say 3 = .ok (.if_icmp .lt 9, 3) := by decide +kernel
theorem dX10_say_6 : decode cX10_say 6 = .ok (.iload_n 1, 1) := by decide +kernel
theorem dX10_say_7 : decode cX10_say 7 = .ok (.bipush 126, 2) := by decide +kernel
theorem dX10_say_9 : decode cX10_say 9 = .ok (.if_icmp .le 6, 3) := by decide +kernel
theorem dX10_say_12 : decode cX10_say 12 = .ok (.bipush (-2), 2) := by decide +kernel
theorem dX10_say_14 : decode cX10_say 14 = .ok (.ireturn, 1) := by decide +kernel
theorem dX10_say_15 : decode cX10_say 15 = .ok (.aload_n 0, 1) := by decide +kernel
theorem dX10_say_16 : decode cX10_say 16 = .ok (.getfield 12, 3) := by decide +kernel
theorem dX10_say_19 : decode cX10_say 19 = .ok (.iload_n 1, 1) := by decide +kernel
theorem dX10_say_20 : decode cX10_say 20 = .ok (.i2c, 1) := by decide +kernel
theorem dX10_say_21 : decode cX10_say 21 = .ok (.invokevirtual 86, 3) := by decide +kernel
theorem dX10_say_24 : decode cX10_say 24 = .ok (.ifCond .eq 13, 3) := by decide +kernel
theorem dX10_say_27 : decode cX10_say 27 = .ok (.aload_n 0, 1) := by decide +kernel
theorem dX10_say_28 : decode cX10_say 28 = .ok (.getfield 12, 3) := by decide +kernel
theorem dX10_say_31 : decode cX10_say 31 = .ok (.invokevirtual 90, 3) := by decide +kernel
theorem dX10_say_34 : decode cX10_say 34 = .ok (.goto 5, 3) := by decide +kernel
theorem dX10_say_37 : decode cX10_say 37 = .ok (.bipush (-4), 2) := by decide +kernel
theorem dX10_say_39 : decode cX10_say 39 = .ok (.ireturn, 1) := by decide +kernel
theorem dX10_wipe_0 : decode cX10_wipe 0 = .ok (.aload_n 0, 1) := by decide +kernel
theorem dX10_wipe_1 : decode cX10_wipe 1 = .ok (.getfield 12, 3) := by decide +kernel
theorem dX10_wipe_4 : decode cX10_wipe 4 = .ok (.invokevirtual 90, 3) := by decide +kernel
theorem dX10_wipe_7 : decode cX10_wipe 7 = .ok (.istore_n 1, 1) := by decide +kernel
theorem dX10_wipe_8 : decode cX10_wipe 8 = .ok (.aload_n 0, 1) := by decide +kernel
theorem dX10_wipe_9 : decode cX10_wipe 9 = .ok (.getfield 12, 3) := by decide +kernel
theorem dX10_wipe_12 : decode cX10_wipe 12 = .ok (.invokevirtual 94, 3) := by decide +kernel
theorem dX10_wipe_15 : decode cX10_wipe 15 = .ok (.iload_n 1, 1) := by decide +kernel
theorem dX10_wipe_16 : decode cX10_wipe 16 = .ok (.ireturn, 1) := by decide +kernel
theorem dX10_resource_0 : decode cX10_resource 0 = .ok (.aload_n 0, 1) := by decide +kernel
theorem dX10_resource_1 : decode cX10_resource 1 = .ok (.iconst 1, 1) := by decide +kernel
theorem dX10_resource_2 : decode cX10_resource 2 = .ok (.iconst 5, 1) := by decide +kernel
theorem dX10_resource_3 : decode cX10_resource 3 = .ok (.invokevirtual 97, 3) := by decide +kernel
theorem dX10_resource_6 : decode cX10_resource 6 = .ok (.ireturn, 1) := by decide +kernel
theorem dX10_well_0 : decode cX10_well 0 = .ok (.aload_n 0, 1) := by decide +kernel
theorem dX10_well_1 : decode cX10_well 1 = .ok (.bipush 6, 2) := by decide +kernel
theorem dX10_well_3 : decode cX10_well 3 = .ok (.iconst 4, 1) := by decide +kernel
theorem dX10_well_4 : decode cX10_well 4 = .ok (.invokevirtual 97, 3) := by decide +kernel
theorem dX10_well_7 : decode cX10_well 7 = .ok (.ireturn, 1) := by decide +kernel
theorem dX10_goal_0 : decode cX10_goal 0 = .ok (.aload_n 0, 1) := by decide +kernel
theorem dX10_goal_1 : decode cX10_goal 1 = .ok (.iconst 0, 1) := by decide +kernel
theorem dX10_goal_2 : decode cX10_goal 2 = .ok (.invokevirtual 101, 3) := by decide +kernel
theorem dX10_goal_5 : decode cX10_goal 5 = .ok (.astore_n 1, 1) := by decide +kernel
theorem dX10_goal_6 : decode cX10_goal 6 = .ok (.aload_n 1, 1) := by decide +kernel
theorem dX10_goal_7 : decode cX10_goal 7 = .ok (.ifnonnull 6, 3) := by decide +kernel
theorem dX10_goal_10 : decode cX10_goal 10 = .ok (.bipush (-7), 2) := by decide +kernel
theorem dX10_goal_12 : decode cX10_goal 12 = .ok (.ireturn, 1) := by decide +kernel
theorem dX10_goal_13 : decode cX10_goal 13 = .ok (.aload_n 0, 1) := by decide +kernel
theorem dX10_goal_14 : decode cX10_goal 14 = .ok (.getfield 19, 3) := by decide +kernel
theorem dX10_goal_17 : decode cX10_goal 17 = .ok (.iconst 0, 1) := by decide +kernel
theorem dX10_goal_18 : decode cX10_goal 18 = .ok (.aload_n 1, 1) := by decide +kernel
theorem dX10_goal_19 : decode cX10_goal 19 = .ok (.invokevirtual 105, 3) := by decide +kernel
theorem dX10_goal_22 : decode cX10_goal 22 = .ok (.ifCond .ne 6, 3) := by decide +kernel
theorem dX10_goal_25 : decode cX10_goal 25 = .ok (.bipush (-4), 2) := by decide +kernel
theorem dX10_goal_27 : decode cX10_goal 27 = .ok (.ireturn, 1) := by decide +kernel
theorem dX10_goal_28 : decode cX10_goal 28 = .ok (.aload_n 0, 1) := by decide +kernel
theorem dX10_goal_29 : decode cX10_goal 29 = .ok (.iconst 0, 1) := by decide +kernel
theorem dX10_goal_30 : decode cX10_goal 30 = .ok (.aload_n 1, 1) := by decide +kernel
theorem dX10_goal_31 : decode cX10_goal 31 = .ok (.invokevirtual 109, 3) := by decide +kernel
theorem dX10_goal_34 : decode cX10_goal 34 = .ok (.aload_n 1, 1) := by decide +kernel
theorem dX10_goal_35 : decode cX10_goal 35 = .ok (.invokevirtual 113, 3) := by decide +kernel
theorem dX10_goal_38 : decode cX10_goal 38 = .ok (.ireturn, 1) := by decide +kernel
theorem dX10_drop_0 : decode cX10_drop 0 = .ok (.iload_n 1, 1) := by decide +kernel
theorem dX10_drop_1 : decode cX10_drop 1 = .ok (.tableswitch 49 0 2 #[27, 35, 44], 27) := by decide +kernel
theorem dX10_drop_28 : decode cX10_drop 28 = .ok (.aload_n 0, 1) := by decide +kernel
theorem dX10_drop_29 : decode cX10_drop 29 = .ok (.iconst 1, 1) := by decide +kernel
theorem dX10_drop_30 : decode cX10_drop 30 = .ok (.iconst 5, 1) := by decide +kernel
theorem dX10_drop_31 : decode cX10_drop 31 = .ok (.iload_n 2, 1) := by decide +kernel
theorem dX10_drop_32 : decode cX10_drop 32 = .ok (.invokevirtual 118, 3) := by decide +kernel
theorem dX10_drop_35 : decode cX10_drop 35 = .ok (.ireturn, 1) := by decide +kernel
theorem dX10_drop_36 : decode cX10_drop 36 = .ok (.aload_n 0, 1) := by decide +kernel
theorem dX10_drop_37 : decode cX10_drop 37 = .ok (.bipush 6, 2) := by decide +kernel
theorem dX10_drop_39 : decode cX10_drop 39 = .ok (.iconst 4, 1) := by decide +kernel
theorem dX10_drop_40 : decode cX10_drop 40 = .ok (.iload_n 2, 1) := by decide +kernel
theorem dX10_drop_41 : decode cX10_drop 41 = .ok (.invokevirtual 118, 3) := by decide +kernel
theorem dX10_drop_44 : decode cX10_drop 44 = .ok (.ireturn, 1) := by decide +kernel
theorem dX10_drop_45 : decode cX10_drop 45 = .ok (.aload_n 0, 1) := by decide +kernel
theorem dX10_drop_46 : decode cX10_drop 46 = .ok (.invokevirtual 122, 3) := by decide +kernel
theorem dX10_drop_49 : decode cX10_drop 49 = .ok (.ireturn, 1) := by decide +kernel
theorem dX10_drop_50 : decode cX10_drop 50 = .ok (.bipush (-2), 2) := by decide +kernel
theorem dX10_drop_52 : decode cX10_drop 52 = .ok (.ireturn, 1) := by decide +kernel
theorem dX10_height_0 : decode cX10_height 0 = .ok (.aload_n 0, 1) := by decide +kernel
theorem dX10_height_1 : decode cX10_height 1 = .ok (.iload_n 1, 1) := by decide +kernel
theorem dX10_height_2 : decode cX10_height 2 = .ok (.invokevirtual 125, 3) := by decide +kernel
theorem dX10_height_5 : decode cX10_height 5 = .ok (.ifCond .ne 5, 3) := by decide +kernel
theorem dX10_height_8 : decode cX10_height 8 = .ok (.iconst (-1), 1) := by decide +kernel
theorem dX10_height_9 : decode cX10_height 9 = .ok (.ireturn, 1) := by decide +kernel
theorem dX10_height_10 : decode cX10_height 10 = .ok (.aload_n 0, 1) := by decide +kernel
theorem dX10_height_11 : decode cX10_height 11 = .ok (.invokevirtual 129, 3) := by decide +kernel
theorem dX10_height_14 : decode cX10_height 14 = .ok (.ifCond .ne 6, 3) := by decide +kernel
theorem dX10_height_17 : decode cX10_height 17 = .ok (.bipush (-3), 2) := by decide +kernel
theorem dX10_height_19 : decode cX10_height 19 = .ok (.ireturn, 1) := by decide +kernel
theorem dX10_height_20 : decode cX10_height 20 = .ok (.aload_n 0, 1) := by decide +kernel
theorem dX10_height_21 : decode cX10_height 21 = .ok (.invokevirtual 133, 3) := by decide +kernel
theorem dX10_height_24 : decode cX10_height 24 = .ok (.aload_n 0, 1) := by decide +kernel
theorem dX10_height_25 : decode cX10_height 25 = .ok (.getfield 42, 3) := by decide +kernel
theorem dX10_height_28 : decode cX10_height 28 = .ok (.aload_n 0, 1) := by decide +kernel
theorem dX10_height_29 : decode cX10_height 29 = .ok (.getfield 34, 3) := by decide +kernel
theorem dX10_height_32 : decode cX10_height 32 = .ok (.invokevirtual 136, 3) := by decide +kernel
theorem dX10_height_35 : decode cX10_height 35 = .ok (.iload_n 1, 1) := by decide +kernel
theorem dX10_height_36 : decode cX10_height 36 = .ok (.invokevirtual 139, 3) := by decide +kernel
theorem dX10_height_39 : decode cX10_height 39 = .ok (.ireturn, 1) := by decide +kernel
theorem dX10_left_0 : decode cX10_left 0 = .ok (.iload_n 1, 1) := by decide +kernel
theorem dX10_left_1 : decode cX10_left 1 = .ok (.ifCond .lt 14, 3) := by decide +kernel
theorem dX10_left_4 : decode cX10_left 4 = .ok (.iload_n 1, 1) := by decide +kernel
theorem dX10_left_5 : decode cX10_left 5 = .ok (.bipush 10, 2) := by decide +kernel
theorem dX10_left_7 : decode cX10_left 7 = .ok (.if_icmp .gt 8, 3) := by decide +kernel
theorem dX10_left_10 : decode cX10_left 10 = .ok (.iload_n 2, 1) := by decide +kernel
theorem dX10_left_11 : decode cX10_left 11 = .ok (.iconst (-1), 1) := by decide +kernel
theorem dX10_left_12 : decode cX10_left 12 = .ok (.if_icmp .ge 6, 3) := by decide +kernel
theorem dX10_left_15 : decode cX10_left 15 = .ok (.bipush (-2), 2) := by decide +kernel
theorem dX10_left_17 : decode cX10_left 17 = .ok (.ireturn, 1) := by decide +kernel
theorem dX10_left_18 : decode cX10_left 18 = .ok (.aload_n 0, 1) := by decide +kernel
theorem dX10_left_19 : decode cX10_left 19 = .ok (.invokevirtual 129, 3) := by decide +kernel
theorem dX10_left_22 : decode cX10_left 22 = .ok (.ifCond .ne 6, 3) := by decide +kernel
theorem dX10_left_25 : decode cX10_left 25 = .ok (.bipush (-3), 2) := by decide +kernel
theorem dX10_left_27 : decode cX10_left 27 = .ok (.ireturn, 1) := by decide +kernel
theorem dX10_left_28 : decode cX10_left 28 = .ok (.aload_n 0, 1) := by decide +kernel
theorem dX10_left_29 : decode cX10_left 29 = .ok (.invokevirtual 133, 3) := by decide +kernel
theorem dX10_left_32 : decode cX10_left 32 = .ok (.aload_n 0, 1) := by decide +kernel
theorem dX10_left_33 : decode cX10_left 33 = .ok (.invokevirtual 142, 3) := by decide +kernel
theorem dX10_left_36 : decode cX10_left 36 = .ok (.istore_n 3, 1) := by decide +kernel
theorem dX10_left_37 : decode cX10_left 37 = .ok (.iconst 0, 1) := by decide +kernel
theorem dX10_left_38 : decode cX10_left 38 = .ok (.istore 4, 2) := by decide +kernel
theorem dX10_left_40 : decode cX10_left 40 = .ok (.iconst 0, 1) := by decide +kernel
theorem dX10_left_41 : decode cX10_left 41 = .ok (.istore 5, 2) := by decide +kernel
theorem dX10_left_43 : decode cX10_left 43 = .ok (.iload 5, 2) := by decide +kernel
theorem dX10_left_45 : decode cX10_left 45 = .ok (.iload_n 3, 1) := by decide +kernel
theorem dX10_left_46 : decode cX10_left 46 = .ok (.if_icmp .gt 54, 3) := by decide +kernel
theorem dX10_left_49 : decode cX10_left 49 = .ok (.iload 5, 2) := by decide +kernel
theorem dX10_left_51 : decode cX10_left 51 = .ok (.iload_n 3, 1) := by decide +kernel
theorem dX10_left_52 : decode cX10_left 52 = .ok (.iconst (-1), 1) := by decide +kernel
theorem dX10_left_53 : decode cX10_left 53 = .ok (.ixor, 1) := by decide +kernel
theorem dX10_left_54 : decode cX10_left 54 = .ok (.iand, 1) := by decide +kernel
theorem dX10_left_55 : decode cX10_left 55 = .ok (.ifCond .ne 39, 3) := by decide +kernel
theorem dX10_left_58 : decode cX10_left 58 = .ok (.aload_n 0, 1) := by decide +kernel
theorem dX10_left_59 : decode cX10_left 59 = .ok (.getfield 42, 3) := by decide +kernel
theorem dX10_left_62 : decode cX10_left 62 = .ok (.aload_n 0, 1) := by decide +kernel
theorem dX10_left_63 : decode cX10_left 63 = .ok (.getfield 34, 3) := by decide +kernel
theorem dX10_left_66 : decode cX10_left 66 = .ok (.invokevirtual 136, 3) := by decide +kernel
theorem dX10_left_69 : decode cX10_left 69 = .ok (.iload_n 3, 1) := by decide +kernel
theorem dX10_left_70 : decode cX10_left 70 = .ok (.iload 5, 2) := by decide +kernel
theorem dX10_left_72 : decode cX10_left 72 = .ok (.iconst (-1), 1) := by decide +kernel
theorem dX10_left_73 : decode cX10_left 73 = .ok (.ixor, 1) := by decide +kernel
theorem dX10_left_74 : decode cX10_left 74 = .ok (.iand, 1) := by decide +kernel
theorem dX10_left_75 : decode cX10_left 75 = .ok (.iload_n 1, 1) := by decide +kernel
theorem dX10_left_76 : decode cX10_left 76 = .ok (.invokevirtual 145, 3) := by decide +kernel
theorem dX10_left_79 : decode cX10_left 79 = .ok (.ifCond .eq 15, 3) := by decide +kernel
theorem dX10_left_82 : decode cX10_left 82 = .ok (.iload 4, 2) := by decide +kernel
theorem dX10_left_84 : decode cX10_left 84 = .ok (.iload_n 2, 1) := by decide +kernel
theorem dX10_left_85 : decode cX10_left 85 = .ok (.if_icmp .ne 6, 3) := by decide +kernel
theorem dX10_left_88 : decode cX10_left 88 = .ok (.iload 5, 2) := by decide +kernel
theorem dX10_left_90 : decode cX10_left 90 = .ok (.ireturn, 1) := by decide +kernel
theorem dX10_left_91 : decode cX10_left 91 = .ok (.iinc 4 1, 3) := by decide +kernel
theorem dX10_left_94 : decode cX10_left 94 = .ok (.iinc 5 1, 3) := by decide +kernel
theorem dX10_left_97 : decode cX10_left 97 = .ok (.goto (-54), 3) := by decide +kernel
theorem dX10_left_100 : decode cX10_left 100 = .ok (.iload_n 2, 1) := by decide +kernel
theorem dX10_left_101 : decode cX10_left 101 = .ok (.iconst (-1), 1) := by decide +kernel
theorem dX10_left_102 : decode cX10_left 102 = .ok (.if_icmp .ne 8, 3) := by decide +kernel
theorem dX10_left_105 : decode cX10_left 105 = .ok (.iload 4, 2) := by decide +kernel
theorem dX10_left_107 : decode cX10_left 107 = .ok (.goto 5, 3) := by decide +kernel
theorem dX10_left_110 : decode cX10_left 110 = .ok (.bipush (-6), 2) := by decide +kernel
theorem dX10_left_112 : decode cX10_left 112 = .ok (.ireturn, 1) := by decide +kernel
theorem dX10_ways_0 : decode cX10_ways 0 = .ok (.aload_n 0, 1) := by decide +kernel
theorem dX10_ways_1 : decode cX10_ways 1 = .ok (.iload_n 1, 1) := by decide +kernel
theorem dX10_ways_2 : decode cX10_ways 2 = .ok (.invokevirtual 125, 3) := by decide +kernel
theorem dX10_ways_5 : decode cX10_ways 5 = .ok (.ifCond .ne 5, 3) := by decide +kernel
theorem dX10_ways_8 : decode cX10_ways 8 = .ok (.iconst (-1), 1) := by decide +kernel
theorem dX10_ways_9 : decode cX10_ways 9 = .ok (.ireturn, 1) := by decide +kernel
theorem dX10_ways_10 : decode cX10_ways 10 = .ok (.iload_n 2, 1) := by decide +kernel
theorem dX10_ways_11 : decode cX10_ways 11 = .ok (.ifCond .lt 9, 3) := by decide +kernel
theorem dX10_ways_14 : decode cX10_ways 14 = .ok (.iload_n 2, 1) := by decide +kernel
theorem dX10_ways_15 : decode cX10_ways 15 = .ok (.bipush 10, 2) := by decide +kernel
theorem dX10_ways_17 : decode cX10_ways 17 = .ok (.if_icmp .le 6, 3) := by decide +kernel
theorem dX10_ways_20 : decode cX10_ways 20 = .ok (.bipush (-2), 2) := by decide +kernel
theorem dX10_ways_22 : decode cX10_ways 22 = .ok (.ireturn, 1) := by decide +kernel
theorem dX10_ways_23 : decode cX10_ways 23 = .ok (.aload_n 0, 1) := by decide +kernel
theorem dX10_ways_24 : decode cX10_ways 24 = .ok (.invokevirtual 129, 3) := by decide +kernel
theorem dX10_ways_27 : decode cX10_ways 27 = .ok (.ifCond .ne 6, 3) := by decide +kernel
theorem dX10_ways_30 : decode cX10_ways 30 = .ok (.bipush (-3), 2) := by decide +kernel
theorem dX10_ways_32 : decode cX10_ways 32 = .ok (.ireturn, 1) := by decide +kernel
theorem dX10_ways_33 : decode cX10_ways 33 = .ok (.aload_n 0, 1) := by decide +kernel
theorem dX10_ways_34 : decode cX10_ways 34 = .ok (.invokevirtual 133, 3) := by decide +kernel
theorem dX10_ways_37 : decode cX10_ways 37 = .ok (.aload_n 0, 1) := by decide +kernel
theorem dX10_ways_38 : decode cX10_ways 38 = .ok (.getfield 51, 3) := by decide +kernel
theorem dX10_ways_41 : decode cX10_ways 41 = .ok (.iload_n 1, 1) := by decide +kernel
theorem dX10_ways_42 : decode cX10_ways 42 = .ok (.iload_n 2, 1) := by decide +kernel
theorem dX10_ways_43 : decode cX10_ways 43 = .ok (.invokevirtual 149, 3) := by decide +kernel
theorem dX10_ways_46 : decode cX10_ways 46 = .ok (.ireturn, 1) := by decide +kernel
theorem dX10_fewest_0 : decode cX10_fewest 0 = .ok (.aload_n 0, 1) := by decide +kernel
theorem dX10_fewest_1 : decode cX10_fewest 1 = .ok (.invokevirtual 129, 3) := by decide +kernel
theorem dX10_fewest_4 : decode cX10_fewest 4 = .ok (.ifCond .ne 6, 3) := by decide +kernel
theorem dX10_fewest_7 : decode cX10_fewest 7 = .ok (.bipush (-3), 2) := by decide +kernel
theorem dX10_fewest_9 : decode cX10_fewest 9 = .ok (.ireturn, 1) := by decide +kernel
theorem dX10_fewest_10 : decode cX10_fewest 10 = .ok (.aload_n 0, 1) := by decide +kernel
theorem dX10_fewest_11 : decode cX10_fewest 11 = .ok (.invokevirtual 133, 3) := by decide +kernel
theorem dX10_fewest_14 : decode cX10_fewest 14 = .ok (.aload_n 0, 1) := by decide +kernel
theorem dX10_fewest_15 : decode cX10_fewest 15 = .ok (.invokevirtual 142, 3) := by decide +kernel
theorem dX10_fewest_18 : decode cX10_fewest 18 = .ok (.istore_n 1, 1) := by decide +kernel
theorem dX10_fewest_19 : decode cX10_fewest 19 = .ok (.bipush (-6), 2) := by decide +kernel
theorem dX10_fewest_21 : decode cX10_fewest 21 = .ok (.istore_n 2, 1) := by decide +kernel
theorem dX10_fewest_22 : decode cX10_fewest 22 = .ok (.bipush 6, 2) := by decide +kernel
theorem dX10_fewest_24 : decode cX10_fewest 24 = .ok (.istore_n 3, 1) := by decide +kernel
theorem dX10_fewest_25 : decode cX10_fewest 25 = .ok (.iconst 0, 1) := by decide +kernel
theorem dX10_fewest_26 : decode cX10_fewest 26 = .ok (.istore 4, 2) := by decide +kernel
theorem dX10_fewest_28 : decode cX10_fewest 28 = .ok (.iload 4, 2) := by decide +kernel
theorem dX10_fewest_30 : decode cX10_fewest 30 = .ok (.iload_n 1, 1) := by decide +kernel
theorem dX10_fewest_31 : decode cX10_fewest 31 = .ok (.if_icmp .gt 45, 3) := by decide +kernel
theorem dX10_fewest_34 : decode cX10_fewest 34 = .ok (.iload 4, 2) := by decide +kernel
theorem dX10_fewest_36 : decode cX10_fewest 36 = .ok (.iload_n 1, 1) := by decide +kernel
theorem dX10_fewest_37 : decode cX10_fewest 37 = .ok (.iconst (-1), 1) := by decide +kernel
theorem dX10_fewest_38 : decode cX10_fewest 38 = .ok (.ixor, 1) := by decide +kernel
theorem dX10_fewest_39 : decode cX10_fewest 39 = .ok (.iand, 1) := by decide +kernel
theorem dX10_fewest_40 : decode cX10_fewest 40 = .ok (.ifCond .ne 30, 3) := by decide +kernel
theorem dX10_fewest_43 : decode cX10_fewest 43 = .ok (.iload 4, 2) := by decide +kernel
theorem dX10_fewest_45 : decode cX10_fewest 45 = .ok (.invokestatic 152, 3) := by decide +kernel
theorem dX10_fewest_48 : decode cX10_fewest 48 = .ok (.iload_n 3, 1) := by decide +kernel
theorem dX10_fewest_49 : decode cX10_fewest 49 = .ok (.if_icmp .ge 21, 3) := by decide +kernel
theorem dX10_fewest_52 : decode cX10_fewest 52 = .ok (.aload_n 0, 1) := by decide +kernel
theorem dX10_fewest_53 : decode cX10_fewest 53 = .ok (.iload 4, 2) := by decide +kernel
theorem dX10_fewest_55 : decode cX10_fewest 55 = .ok (.invokevirtual 158, 3) := by decide +kernel
theorem dX10_fewest_58 : decode cX10_fewest 58 = .ok (.ifCond .eq 12, 3) := by decide +kernel
theorem dX10_fewest_61 : decode cX10_fewest 61 = .ok (.iload 4, 2) := by decide +kernel
theorem dX10_fewest_63 : decode cX10_fewest 63 = .ok (.istore_n 2, 1) := by decide +kernel
theorem dX10_fewest_64 : decode cX10_fewest 64 = .ok (.iload 4, 2) := by decide +kernel
theorem dX10_fewest_66 : decode cX10_fewest 66 = .ok (.invokestatic 152, 3) := by decide +kernel
theorem dX10_fewest_69 : decode cX10_fewest 69 = .ok (.istore_n 3, 1) := by decide +kernel
theorem dX10_fewest_70 : decode cX10_fewest 70 = .ok (.iinc 4 1, 3) := by decide +kernel
theorem dX10_fewest_73 : decode cX10_fewest 73 = .ok (.goto (-45), 3) := by decide +kernel
theorem dX10_fewest_76 : decode cX10_fewest 76 = .ok (.iload_n 2, 1) := by decide +kernel
theorem dX10_fewest_77 : decode cX10_fewest 77 = .ok (.ireturn, 1) := by decide +kernel
theorem dX10_needed_0 : decode cX10_needed 0 = .ok (.aload_n 0, 1) := by decide +kernel
theorem dX10_needed_1 : decode cX10_needed 1 = .ok (.invokevirtual 129, 3) := by decide +kernel
theorem dX10_needed_4 : decode cX10_needed 4 = .ok (.ifCond .ne 6, 3) := by decide +kernel
theorem dX10_needed_7 : decode cX10_needed 7 = .ok (.bipush (-3), 2) := by decide +kernel
theorem dX10_needed_9 : decode cX10_needed 9 = .ok (.ireturn, 1) := by decide +kernel
theorem dX10_needed_10 : decode cX10_needed 10 = .ok (.aload_n 0, 1) := by decide +kernel
theorem dX10_needed_11 : decode cX10_needed 11 = .ok (.invokevirtual 133, 3) := by decide +kernel
theorem dX10_needed_14 : decode cX10_needed 14 = .ok (.aload_n 0, 1) := by decide +kernel
theorem dX10_needed_15 : decode cX10_needed 15 = .ok (.invokevirtual 142, 3) := by decide +kernel
theorem dX10_needed_18 : decode cX10_needed 18 = .ok (.istore_n 1, 1) := by decide +kernel
theorem dX10_needed_19 : decode cX10_needed 19 = .ok (.iconst 0, 1) := by decide +kernel
theorem dX10_needed_20 : decode cX10_needed 20 = .ok (.istore_n 2, 1) := by decide +kernel
theorem dX10_needed_21 : decode cX10_needed 21 = .ok (.iconst 0, 1) := by decide +kernel
theorem dX10_needed_22 : decode cX10_needed 22 = .ok (.istore_n 3, 1) := by decide +kernel
theorem dX10_needed_23 : decode cX10_needed 23 = .ok (.iload_n 3, 1) := by decide +kernel
theorem dX10_needed_24 : decode cX10_needed 24 = .ok (.iconst 5, 1) := by decide +kernel
theorem dX10_needed_25 : decode cX10_needed 25 = .ok (.if_icmp .ge 37, 3) := by decide +kernel
theorem dX10_needed_28 : decode cX10_needed 28 = .ok (.iconst 1, 1) := by decide +kernel
theorem dX10_needed_29 : decode cX10_needed 29 = .ok (.iload_n 3, 1) := by decide +kernel
theorem dX10_needed_30 : decode cX10_needed 30 = .ok (.ishl, 1) := by decide +kernel
theorem dX10_needed_31 : decode cX10_needed 31 = .ok (.istore 4, 2) := by decide +kernel
theorem dX10_needed_33 : decode cX10_needed 33 = .ok (.iload_n 1, 1) := by decide +kernel
theorem dX10_needed_34 : decode cX10_needed 34 = .ok (.iload 4, 2) := by decide +kernel
theorem dX10_needed_36 : decode cX10_needed 36 = .ok (.iand, 1) := by decide +kernel
theorem dX10_needed_37 : decode cX10_needed 37 = .ok (.ifCond .eq 19, 3) := by decide +kernel
theorem dX10_needed_40 : decode cX10_needed 40 = .ok (.aload_n 0, 1) := by decide +kernel
theorem dX10_needed_41 : decode cX10_needed 41 = .ok (.iload_n 1, 1) := by decide +kernel
theorem dX10_needed_42 : decode cX10_needed 42 = .ok (.iload 4, 2) := by decide +kernel
theorem dX10_needed_44 : decode cX10_needed 44 = .ok (.ixor, 1) := by decide +kernel
theorem dX10_needed_45 : decode cX10_needed 45 = .ok (.invokevirtual 158, 3) := by decide +kernel
theorem dX10_needed_48 : decode cX10_needed 48 = .ok (.ifCond .ne 8, 3) := by decide +kernel
theorem dX10_needed_51 : decode cX10_needed 51 = .ok (.iload_n 2, 1) := by decide +kernel
theorem dX10_needed_52 : decode cX10_needed 52 = .ok (.iload 4, 2) := by decide +kernel
theorem dX10_needed_54 : decode cX10_needed 54 = .ok (.ior, 1) := by decide +kernel
theorem dX10_needed_55 : decode cX10_needed 55 = .ok (.istore_n 2, 1) := by decide +kernel
theorem dX10_needed_56 : decode cX10_needed 56 = .ok (.iinc 3 1, 3) := by decide +kernel
theorem dX10_needed_59 : decode cX10_needed 59 = .ok (.goto (-36), 3) := by decide +kernel
theorem dX10_needed_62 : decode cX10_needed 62 = .ok (.iload_n 2, 1) := by decide +kernel
theorem dX10_needed_63 : decode cX10_needed 63 = .ok (.ireturn, 1) := by decide +kernel
theorem dX10_term_0 : decode cX10_term 0 = .ok (.iload_n 1, 1) := by decide +kernel
theorem dX10_term_1 : decode cX10_term 1 = .ok (.iconst (-1), 1) := by decide +kernel
theorem dX10_term_2 : decode cX10_term 2 = .ok (.if_icmp .ge 6, 3) := by decide +kernel
theorem dX10_term_5 : decode cX10_term 5 = .ok (.bipush (-2), 2) := by decide +kernel
theorem dX10_term_7 : decode cX10_term 7 = .ok (.ireturn, 1) := by decide +kernel
theorem dX10_term_8 : decode cX10_term 8 = .ok (.aload_n 0, 1) := by decide +kernel
theorem dX10_term_9 : decode cX10_term 9 = .ok (.invokevirtual 129, 3) := by decide +kernel
theorem dX10_term_12 : decode cX10_term 12 = .ok (.ifCond .ne 6, 3) := by decide +kernel
theorem dX10_term_15 : decode cX10_term 15 = .ok (.bipush (-3), 2) := by decide +kernel
theorem dX10_term_17 : decode cX10_term 17 = .ok (.ireturn, 1) := by decide +kernel
theorem dX10_term_18 : decode cX10_term 18 = .ok (.aload_n 0, 1) := by decide +kernel
theorem dX10_term_19 : decode cX10_term 19 = .ok (.invokevirtual 133, 3) := by decide +kernel
theorem dX10_term_22 : decode cX10_term 22 = .ok (.aload_n 0, 1) := by decide +kernel
theorem dX10_term_23 : decode cX10_term 23 = .ok (.getfield 58, 3) := by decide +kernel
theorem dX10_term_26 : decode cX10_term 26 = .ok (.aload_n 0, 1) := by decide +kernel
theorem dX10_term_27 : decode cX10_term 27 = .ok (.invokevirtual 142, 3) := by decide +kernel
theorem dX10_term_30 : decode cX10_term 30 = .ok (.invokevirtual 161, 3) := by decide +kernel
theorem dX10_term_33 : decode cX10_term 33 = .ok (.aload_n 0, 1) := by decide +kernel
theorem dX10_term_34 : decode cX10_term 34 = .ok (.getfield 58, 3) := by decide +kernel
theorem dX10_term_37 : decode cX10_term 37 = .ok (.invokevirtual 165, 3) := by decide +kernel
theorem dX10_term_40 : decode cX10_term 40 = .ok (.ifCond .ne 6, 3) := by decide +kernel
theorem dX10_term_43 : decode cX10_term 43 = .ok (.bipush (-6), 2) := by decide +kernel
theorem dX10_term_45 : decode cX10_term 45 = .ok (.ireturn, 1) := by decide +kernel
theorem dX10_term_46 : decode cX10_term 46 = .ok (.iload_n 1, 1) := by decide +kernel
theorem dX10_term_47 : decode cX10_term 47 = .ok (.iconst (-1), 1) := by decide +kernel
theorem dX10_term_48 : decode cX10_term 48 = .ok (.if_icmp .ne 11, 3) := by decide +kernel
theorem dX10_term_51 : decode cX10_term 51 = .ok (.aload_n 0, 1) := by decide +kernel
theorem dX10_term_52 : decode cX10_term 52 = .ok (.getfield 58, 3) := by decide +kernel
theorem dX10_term_55 : decode cX10_term 55 = .ok (.invokevirtual 168, 3) := by decide +kernel
theorem dX10_term_58 : decode cX10_term 58 = .ok (.ireturn, 1) := by decide +kernel
theorem dX10_term_59 : decode cX10_term 59 = .ok (.iload_n 1, 1) := by decide +kernel
theorem dX10_term_60 : decode cX10_term 60 = .ok (.aload_n 0, 1) := by decide +kernel
theorem dX10_term_61 : decode cX10_term 61 = .ok (.getfield 58, 3) := by decide +kernel
theorem dX10_term_64 : decode cX10_term 64 = .ok (.invokevirtual 168, 3) := by decide +kernel
theorem dX10_term_67 : decode cX10_term 67 = .ok (.if_icmp .ge 14, 3) := by decide +kernel
theorem dX10_term_70 : decode cX10_term 70 = .ok (.aload_n 0, 1) := by decide +kernel
theorem dX10_term_71 : decode cX10_term 71 = .ok (.getfield 58, 3) := by decide +kernel
theorem dX10_term_74 : decode cX10_term 74 = .ok (.iload_n 1, 1) := by decide +kernel
theorem dX10_term_75 : decode cX10_term 75 = .ok (.invokevirtual 169, 3) := by decide +kernel
theorem dX10_term_78 : decode cX10_term 78 = .ok (.goto 5, 3) := by decide +kernel
theorem dX10_term_81 : decode cX10_term 81 = .ok (.bipush (-6), 2) := by decide +kernel
theorem dX10_term_83 : decode cX10_term 83 = .ok (.ireturn, 1) := by decide +kernel
theorem dX10_uses_0 : decode cX10_uses 0 = .ok (.iload_n 1, 1) := by decide +kernel
theorem dX10_uses_1 : decode cX10_uses 1 = .ok (.ifCond .eq 11, 3) := by decide +kernel
theorem dX10_uses_4 : decode cX10_uses 4 = .ok (.iload_n 1, 1) := by decide +kernel
theorem dX10_uses_5 : decode cX10_uses 5 = .ok (.iconst 1, 1) := by decide +kernel
theorem dX10_uses_6 : decode cX10_uses 6 = .ok (.if_icmp .eq 6, 3) := by decide +kernel
theorem dX10_uses_9 : decode cX10_uses 9 = .ok (.bipush (-2), 2) := by decide +kernel
theorem dX10_uses_11 : decode cX10_uses 11 = .ok (.ireturn, 1) := by decide +kernel
theorem dX10_uses_12 : decode cX10_uses 12 = .ok (.iload_n 2, 1) := by decide +kernel
theorem dX10_uses_13 : decode cX10_uses 13 = .ok (.ifCond .lt 17, 3) := by decide +kernel
theorem dX10_uses_16 : decode cX10_uses 16 = .ok (.iload_n 2, 1) := by decide +kernel
theorem dX10_uses_17 : decode cX10_uses 17 = .ok (.iload_n 1, 1) := by decide +kernel
theorem dX10_uses_18 : decode cX10_uses 18 = .ok (.ifCond .ne 8, 3) := by decide +kernel
theorem dX10_uses_21 : decode cX10_uses 21 = .ok (.bipush 8, 2) := by decide +kernel
theorem dX10_uses_23 : decode cX10_uses 23 = .ok (.goto 4, 3) := by decide +kernel
theorem dX10_uses_26 : decode cX10_uses 26 = .ok (.iconst 4, 1) := by decide +kernel
theorem dX10_uses_27 : decode cX10_uses 27 = .ok (.if_icmp .lt 5, 3) := by decide +kernel
theorem dX10_uses_30 : decode cX10_uses 30 = .ok (.iconst (-1), 1) := by decide +kernel
theorem dX10_uses_31 : decode cX10_uses 31 = .ok (.ireturn, 1) := by decide +kernel
theorem dX10_uses_32 : decode cX10_uses 32 = .ok (.aload_n 0, 1) := by decide +kernel
theorem dX10_uses_33 : decode cX10_uses 33 = .ok (.invokevirtual 129, 3) := by decide +kernel
theorem dX10_uses_36 : decode cX10_uses 36 = .ok (.ifCond .ne 6, 3) := by decide +kernel
theorem dX10_uses_39 : decode cX10_uses 39 = .ok (.bipush (-3), 2) := by decide +kernel
theorem dX10_uses_41 : decode cX10_uses 41 = .ok (.ireturn, 1) := by decide +kernel
theorem dX10_uses_42 : decode cX10_uses 42 = .ok (.aload_n 0, 1) := by decide +kernel
theorem dX10_uses_43 : decode cX10_uses 43 = .ok (.invokevirtual 133, 3) := by decide +kernel
theorem dX10_uses_46 : decode cX10_uses 46 = .ok (.aload_n 0, 1) := by decide +kernel
theorem dX10_uses_47 : decode cX10_uses 47 = .ok (.getfield 58, 3) := by decide +kernel
theorem dX10_uses_50 : decode cX10_uses 50 = .ok (.aload_n 0, 1) := by decide +kernel
theorem dX10_uses_51 : decode cX10_uses 51 = .ok (.invokevirtual 142, 3) := by decide +kernel
theorem dX10_uses_54 : decode cX10_uses 54 = .ok (.invokevirtual 161, 3) := by decide +kernel
theorem dX10_uses_57 : decode cX10_uses 57 = .ok (.aload_n 0, 1) := by decide +kernel
theorem dX10_uses_58 : decode cX10_uses 58 = .ok (.getfield 58, 3) := by decide +kernel
theorem dX10_uses_61 : decode cX10_uses 61 = .ok (.iload_n 1, 1) := by decide +kernel
theorem dX10_uses_62 : decode cX10_uses 62 = .ok (.ifCond .ne 7, 3) := by decide +kernel
theorem dX10_uses_65 : decode cX10_uses 65 = .ok (.iload_n 2, 1) := by decide +kernel
theorem dX10_uses_66 : decode cX10_uses 66 = .ok (.goto 7, 3) := by decide +kernel
theorem dX10_uses_69 : decode cX10_uses 69 = .ok (.bipush 8, 2) := by decide +kernel
theorem dX10_uses_71 : decode cX10_uses 71 = .ok (.iload_n 2, 1) := by decide +kernel
theorem dX10_uses_72 : decode cX10_uses 72 = .ok (.iadd, 1) := by decide +kernel
theorem dX10_uses_73 : decode cX10_uses 73 = .ok (.invokevirtual 172, 3) := by decide +kernel
theorem dX10_uses_76 : decode cX10_uses 76 = .ok (.ireturn, 1) := by decide +kernel
theorem dX10_put_0 : decode cX10_put 0 = .ok (.iload_n 1, 1) := by decide +kernel
theorem dX10_put_1 : decode cX10_put 1 = .ok (.ifCond .lt 10, 3) := by decide +kernel
theorem dX10_put_4 : decode cX10_put 4 = .ok (.iload_n 1, 1) := by decide +kernel
theorem dX10_put_5 : decode cX10_put 5 = .ok (.sipush 499, 3) := by decide +kernel
theorem dX10_put_8 : decode cX10_put 8 = .ok (.if_icmp .le 6, 3) := by decide +kernel
theorem dX10_put_11 : decode cX10_put 11 = .ok (.bipush (-2), 2) := by decide +kernel
theorem dX10_put_13 : decode cX10_put 13 = .ok (.ireturn, 1) := by decide +kernel
theorem dX10_put_14 : decode cX10_put 14 = .ok (.aload_n 0, 1) := by decide +kernel
theorem dX10_put_15 : decode cX10_put 15 = .ok (.getfield 65, 3) := by decide +kernel
theorem dX10_put_18 : decode cX10_put 18 = .ok (.iload_n 1, 1) := by decide +kernel
theorem dX10_put_19 : decode cX10_put 19 = .ok (.invokevirtual 175, 3) := by decide +kernel
theorem dX10_put_22 : decode cX10_put 22 = .ok (.ifCond .eq 13, 3) := by decide +kernel
theorem dX10_put_25 : decode cX10_put 25 = .ok (.aload_n 0, 1) := by decide +kernel
theorem dX10_put_26 : decode cX10_put 26 = .ok (.getfield 65, 3) := by decide +kernel
theorem dX10_put_29 : decode cX10_put 29 = .ok (.invokevirtual 177, 3) := by decide +kernel
theorem dX10_put_32 : decode cX10_put 32 = .ok (.goto 5, 3) := by decide +kernel
theorem dX10_put_35 : decode cX10_put 35 = .ok (.bipush (-4), 2) := by decide +kernel
theorem dX10_put_37 : decode cX10_put 37 = .ok (.ireturn, 1) := by decide +kernel
theorem dX10_trial_0 : decode cX10_trial 0 = .ok (.iload_n 1, 1) := by decide +kernel
theorem dX10_trial_1 : decode cX10_trial 1 = .ok (.ifCond .eq 11, 3) := by decide +kernel
theorem dX10_trial_4 : decode cX10_trial 4 = .ok (.iload_n 1, 1) := by decide +kernel
theorem dX10_trial_5 : decode cX10_trial 5 = .ok (.iconst 1, 1) := by decide +kernel
theorem dX10_trial_6 : decode cX10_trial 6 = .ok (.if_icmp .eq 6, 3) := by decide +kernel
theorem dX10_trial_9 : decode cX10_trial 9 = .ok (.bipush (-2), 2) := by decide +kernel
theorem dX10_trial_11 : decode cX10_trial 11 = .ok (.ireturn, 1) := by decide +kernel
theorem dX10_trial_12 : decode cX10_trial 12 = .ok (.iload_n 1, 1) := by decide +kernel
theorem dX10_trial_13 : decode cX10_trial 13 = .ok (.iconst 1, 1) := by decide +kernel
theorem dX10_trial_14 : decode cX10_trial 14 = .ok (.if_icmp .ne 13, 3) := by decide +kernel
theorem dX10_trial_17 : decode cX10_trial 17 = .ok (.aload_n 0, 1) := by decide +kernel
theorem dX10_trial_18 : decode cX10_trial 18 = .ok (.invokevirtual 129, 3) := by decide +kernel
theorem dX10_trial_21 : decode cX10_trial 21 = .ok (.ifCond .ne 6, 3) := by decide +kernel
theorem dX10_trial_24 : decode cX10_trial 24 = .ok (.bipush (-3), 2) := by decide +kernel
theorem dX10_trial_26 : decode cX10_trial 26 = .ok (.ireturn, 1) := by decide +kernel
theorem dX10_trial_27 : decode cX10_trial 27 = .ok (.aload_n 0, 1) := by decide +kernel
theorem dX10_trial_28 : decode cX10_trial 28 = .ok (.getfield 65, 3) := by decide +kernel
theorem dX10_trial_31 : decode cX10_trial 31 = .ok (.invokevirtual 178, 3) := by decide +kernel
theorem dX10_trial_34 : decode cX10_trial 34 = .ok (.iload_n 1, 1) := by decide +kernel
theorem dX10_trial_35 : decode cX10_trial 35 = .ok (.iconst 1, 1) := by decide +kernel
theorem dX10_trial_36 : decode cX10_trial 36 = .ok (.if_icmp .ne 59, 3) := by decide +kernel
theorem dX10_trial_39 : decode cX10_trial 39 = .ok (.aload_n 0, 1) := by decide +kernel
theorem dX10_trial_40 : decode cX10_trial 40 = .ok (.invokevirtual 133, 3) := by decide +kernel
theorem dX10_trial_43 : decode cX10_trial 43 = .ok (.aload_n 0, 1) := by decide +kernel
theorem dX10_trial_44 : decode cX10_trial 44 = .ok (.getfield 58, 3) := by decide +kernel
theorem dX10_trial_47 : decode cX10_trial 47 = .ok (.aload_n 0, 1) := by decide +kernel
theorem dX10_trial_48 : decode cX10_trial 48 = .ok (.invokevirtual 142, 3) := by decide +kernel
theorem dX10_trial_51 : decode cX10_trial 51 = .ok (.invokevirtual 161, 3) := by decide +kernel
theorem dX10_trial_54 : decode cX10_trial 54 = .ok (.iconst 0, 1) := by decide +kernel
theorem dX10_trial_55 : decode cX10_trial 55 = .ok (.istore_n 2, 1) := by decide +kernel
theorem dX10_trial_56 : decode cX10_trial 56 = .ok (.iload_n 2, 1) := by decide +kernel
theorem dX10_trial_57 : decode cX10_trial 57 = .ok (.aload_n 0, 1) := by decide +kernel
theorem dX10_trial_58 : decode cX10_trial 58 = .ok (.getfield 58, 3) := by decide +kernel
theorem dX10_trial_61 : decode cX10_trial 61 = .ok (.invokevirtual 168, 3) := by decide +kernel
theorem dX10_trial_64 : decode cX10_trial 64 = .ok (.if_icmp .ge 31, 3) := by decide +kernel
theorem dX10_trial_67 : decode cX10_trial 67 = .ok (.iload_n 2, 1) := by decide +kernel
theorem dX10_trial_68 : decode cX10_trial 68 = .ok (.bipush 60, 2) := by decide +kernel
theorem dX10_trial_70 : decode cX10_trial 70 = .ok (.if_icmp .ge 25, 3) := by decide +kernel
theorem dX10_trial_73 : decode cX10_trial 73 = .ok (.aload_n 0, 1) := by decide +kernel
theorem dX10_trial_74 : decode cX10_trial 74 = .ok (.getfield 65, 3) := by decide +kernel
theorem dX10_trial_77 : decode cX10_trial 77 = .ok (.aload_n 0, 1) := by decide +kernel
theorem dX10_trial_78 : decode cX10_trial 78 = .ok (.getfield 58, 3) := by decide +kernel
theorem dX10_trial_81 : decode cX10_trial 81 = .ok (.iload_n 2, 1) := by decide +kernel
theorem dX10_trial_82 : decode cX10_trial 82 = .ok (.invokevirtual 169, 3) := by decide +kernel
theorem dX10_trial_85 : decode cX10_trial 85 = .ok (.invokevirtual 175, 3) := by decide +kernel
theorem dX10_trial_88 : decode cX10_trial 88 = .ok (.pop, 1) := by decide +kernel
theorem dX10_trial_89 : decode cX10_trial 89 = .ok (.iinc 2 1, 3) := by decide +kernel
theorem dX10_trial_92 : decode cX10_trial 92 = .ok (.goto (-36), 3) := by decide +kernel
theorem dX10_trial_95 : decode cX10_trial 95 = .ok (.aload_n 0, 1) := by decide +kernel
theorem dX10_trial_96 : decode cX10_trial 96 = .ok (.getfield 65, 3) := by decide +kernel
theorem dX10_trial_99 : decode cX10_trial 99 = .ok (.invokevirtual 177, 3) := by decide +kernel
theorem dX10_trial_102 : decode cX10_trial 102 = .ok (.ireturn, 1) := by decide +kernel
theorem dX10_check_0 : decode cX10_check 0 = .ok (.iload_n 1, 1) := by decide +kernel
theorem dX10_check_1 : decode cX10_check 1 = .ok (.ifCond .lt 8, 3) := by decide +kernel
theorem dX10_check_4 : decode cX10_check 4 = .ok (.iload_n 1, 1) := by decide +kernel
theorem dX10_check_5 : decode cX10_check 5 = .ok (.iconst 2, 1) := by decide +kernel
theorem dX10_check_6 : decode cX10_check 6 = .ok (.if_icmp .le 6, 3) := by decide +kernel
theorem dX10_check_9 : decode cX10_check 9 = .ok (.bipush (-2), 2) := by decide +kernel
theorem dX10_check_11 : decode cX10_check 11 = .ok (.ireturn, 1) := by decide +kernel
theorem dX10_check_12 : decode cX10_check 12 = .ok (.aload_n 0, 1) := by decide +kernel
theorem dX10_check_13 : decode cX10_check 13 = .ok (.invokevirtual 129, 3) := by decide +kernel
theorem dX10_check_16 : decode cX10_check 16 = .ok (.ifCond .ne 6, 3) := by decide +kernel
theorem dX10_check_19 : decode cX10_check 19 = .ok (.bipush (-3), 2) := by decide +kernel
theorem dX10_check_21 : decode cX10_check 21 = .ok (.ireturn, 1) := by decide +kernel
theorem dX10_check_22 : decode cX10_check 22 = .ok (.aload_n 0, 1) := by decide +kernel
theorem dX10_check_23 : decode cX10_check 23 = .ok (.invokevirtual 133, 3) := by decide +kernel
theorem dX10_check_26 : decode cX10_check 26 = .ok (.aload_n 0, 1) := by decide +kernel
theorem dX10_check_27 : decode cX10_check 27 = .ok (.getfield 74, 3) := by decide +kernel
theorem dX10_check_30 : decode cX10_check 30 = .ok (.aload_n 0, 1) := by decide +kernel
theorem dX10_check_31 : decode cX10_check 31 = .ok (.invokevirtual 142, 3) := by decide +kernel
theorem dX10_check_34 : decode cX10_check 34 = .ok (.invokevirtual 179, 3) := by decide +kernel
theorem dX10_check_37 : decode cX10_check 37 = .ok (.iload_n 1, 1) := by decide +kernel
theorem dX10_check_38 : decode cX10_check 38 = .ok (.ifCond .ne 11, 3) := by decide +kernel
theorem dX10_check_41 : decode cX10_check 41 = .ok (.aload_n 0, 1) := by decide +kernel
theorem dX10_check_42 : decode cX10_check 42 = .ok (.getfield 74, 3) := by decide +kernel
theorem dX10_check_45 : decode cX10_check 45 = .ok (.invokevirtual 181, 3) := by decide +kernel
theorem dX10_check_48 : decode cX10_check 48 = .ok (.ireturn, 1) := by decide +kernel
theorem dX10_check_49 : decode cX10_check 49 = .ok (.iload_n 1, 1) := by decide +kernel
theorem dX10_check_50 : decode cX10_check 50 = .ok (.iconst 1, 1) := by decide +kernel
theorem dX10_check_51 : decode cX10_check 51 = .ok (.if_icmp .ne 13, 3) := by decide +kernel
theorem dX10_check_54 : decode cX10_check 54 = .ok (.aload_n 0, 1) := by decide +kernel
theorem dX10_check_55 : decode cX10_check 55 = .ok (.getfield 74, 3) := by decide +kernel
theorem dX10_check_58 : decode cX10_check 58 = .ok (.invokevirtual 184, 3) := by decide +kernel
theorem dX10_check_61 : decode cX10_check 61 = .ok (.goto 10, 3) := by decide +kernel
theorem dX10_check_64 : decode cX10_check 64 = .ok (.aload_n 0, 1) := by decide +kernel
theorem dX10_check_65 : decode cX10_check 65 = .ok (.getfield 74, 3) := by decide +kernel
theorem dX10_check_68 : decode cX10_check 68 = .ok (.invokevirtual 187, 3) := by decide +kernel
theorem dX10_check_71 : decode cX10_check 71 = .ok (.ireturn, 1) := by decide +kernel
theorem dX10_count_0 : decode cX10_count 0 = .ok (.iload_n 1, 1) := by decide +kernel
theorem dX10_count_1 : decode cX10_count 1 = .ok (.tableswitch 113 0 7 #[47, 52, 63, 76, 84, 92, 100, 108], 47) := by decide +kernel
theorem dX10_count_48 : decode cX10_count 48 = .ok (.aload_n 0, 1) := by decide +kernel
theorem dX10_count_49 : decode cX10_count 49 = .ok (.invokevirtual 142, 3) := by decide +kernel
theorem dX10_count_52 : decode cX10_count 52 = .ok (.ireturn, 1) := by decide +kernel
theorem dX10_count_53 : decode cX10_count 53 = .ok (.aload_n 0, 1) := by decide +kernel
theorem dX10_count_54 : decode cX10_count 54 = .ok (.getfield 19, 3) := by decide +kernel
theorem dX10_count_57 : decode cX10_count 57 = .ok (.bipush 6, 2) := by decide +kernel
theorem dX10_count_59 : decode cX10_count 59 = .ok (.iconst 4, 1) := by decide +kernel
theorem dX10_count_60 : decode cX10_count 60 = .ok (.invokevirtual 194, 3) := by decide +kernel
theorem dX10_count_63 : decode cX10_count 63 = .ok (.ireturn, 1) := by decide +kernel
theorem dX10_count_64 : decode cX10_count 64 = .ok (.aload_n 0, 1) := by decide +kernel
theorem dX10_count_65 : decode cX10_count 65 = .ok (.invokevirtual 129, 3) := by decide +kernel
theorem dX10_count_68 : decode cX10_count 68 = .ok (.ifCond .eq 7, 3) := by decide +kernel
theorem dX10_count_71 : decode cX10_count 71 = .ok (.iconst 1, 1) := by decide +kernel
theorem dX10_count_72 : decode cX10_count 72 = .ok (.goto 4, 3) := by decide +kernel
theorem dX10_count_75 : decode cX10_count 75 = .ok (.iconst 0, 1) := by decide +kernel
theorem dX10_count_76 : decode cX10_count 76 = .ok (.ireturn, 1) := by decide +kernel
theorem dX10_count_77 : decode cX10_count 77 = .ok (.aload_n 0, 1) := by decide +kernel
theorem dX10_count_78 : decode cX10_count 78 = .ok (.getfield 19, 3) := by decide +kernel
theorem dX10_count_81 : decode cX10_count 81 = .ok (.invokevirtual 197, 3) := by decide +kernel
theorem dX10_count_84 : decode cX10_count 84 = .ok (.ireturn, 1) := by decide +kernel
theorem dX10_count_85 : decode cX10_count 85 = .ok (.aload_n 0, 1) := by decide +kernel
theorem dX10_count_86 : decode cX10_count 86 = .ok (.getfield 19, 3) := by decide +kernel
theorem dX10_count_89 : decode cX10_count 89 = .ok (.invokevirtual 198, 3) := by decide +kernel
theorem dX10_count_92 : decode cX10_count 92 = .ok (.ireturn, 1) := by decide +kernel
theorem dX10_count_93 : decode cX10_count 93 = .ok (.aload_n 0, 1) := by decide +kernel
theorem dX10_count_94 : decode cX10_count 94 = .ok (.getfield 12, 3) := by decide +kernel
theorem dX10_count_97 : decode cX10_count 97 = .ok (.invokevirtual 90, 3) := by decide +kernel
theorem dX10_count_100 : decode cX10_count 100 = .ok (.ireturn, 1) := by decide +kernel
theorem dX10_count_101 : decode cX10_count 101 = .ok (.aload_n 0, 1) := by decide +kernel
theorem dX10_count_102 : decode cX10_count 102 = .ok (.getfield 65, 3) := by decide +kernel
theorem dX10_count_105 : decode cX10_count 105 = .ok (.invokevirtual 177, 3) := by decide +kernel
theorem dX10_count_108 : decode cX10_count 108 = .ok (.ireturn, 1) := by decide +kernel
theorem dX10_count_109 : decode cX10_count 109 = .ok (.aload_n 0, 1) := by decide +kernel
theorem dX10_count_110 : decode cX10_count 110 = .ok (.invokevirtual 201, 3) := by decide +kernel
theorem dX10_count_113 : decode cX10_count 113 = .ok (.ireturn, 1) := by decide +kernel
theorem dX10_count_114 : decode cX10_count 114 = .ok (.bipush (-2), 2) := by decide +kernel
theorem dX10_count_116 : decode cX10_count 116 = .ok (.ireturn, 1) := by decide +kernel
theorem dX10_readText_0 : decode cX10_readText 0 = .ok (.aload_n 0, 1) := by decide +kernel
theorem dX10_readText_1 : decode cX10_readText 1 = .ok (.getfield 12, 3) := by decide +kernel
theorem dX10_readText_4 : decode cX10_readText 4 = .ok (.invokevirtual 204, 3) := by decide +kernel
theorem dX10_readText_7 : decode cX10_readText 7 = .ok (.astore_n 2, 1) := by decide +kernel
theorem dX10_readText_8 : decode cX10_readText 8 = .ok (.aload_n 0, 1) := by decide +kernel
theorem dX10_readText_9 : decode cX10_readText 9 = .ok (.getfield 30, 3) := by decide +kernel
theorem dX10_readText_12 : decode cX10_readText 12 = .ok (.invokevirtual 208, 3) := by decide +kernel
theorem dX10_readText_15 : decode cX10_readText 15 = .ok (.new 209, 3) := by decide +kernel
theorem dX10_readText_18 : decode cX10_readText 18 = .ok (.dup, 1) := by decide +kernel
theorem dX10_readText_19 : decode cX10_readText 19 = .ok (.aload_n 2, 1) := by decide +kernel
theorem dX10_readText_20 : decode cX10_readText 20 = .ok (.aload_n 0, 1) := by decide +kernel
theorem dX10_readText_21 : decode cX10_readText 21 = .ok (.getfield 30, 3) := by decide +kernel
theorem dX10_readText_24 : decode cX10_readText 24 = .ok (.invokespecial 211, 3) := by decide +kernel
theorem dX10_readText_27 : decode cX10_readText 27 = .ok (.astore_n 3, 1) := by decide +kernel
theorem dX10_readText_28 : decode cX10_readText 28 = .ok (.iload_n 1, 1) := by decide +kernel
theorem dX10_readText_29 : decode cX10_readText 29 = .ok (.ifCond .eq 11, 3) := by decide +kernel
theorem dX10_readText_32 : decode cX10_readText 32 = .ok (.aload_n 3, 1) := by decide +kernel
theorem dX10_readText_33 : decode cX10_readText 33 = .ok (.iconst 0, 1) := by decide +kernel
theorem dX10_readText_34 : decode cX10_readText 34 = .ok (.invokevirtual 214, 3) := by decide +kernel
theorem dX10_readText_37 : decode cX10_readText 37 = .ok (.goto 8, 3) := by decide +kernel
theorem dX10_readText_40 : decode cX10_readText 40 = .ok (.aload_n 3, 1) := by decide +kernel
theorem dX10_readText_41 : decode cX10_readText 41 = .ok (.invokevirtual 217, 3) := by decide +kernel
theorem dX10_readText_44 : decode cX10_readText 44 = .ok (.pop, 1) := by decide +kernel
theorem dX10_readText_45 : decode cX10_readText 45 = .ok (.aload_n 3, 1) := by decide +kernel
theorem dX10_readText_46 : decode cX10_readText 46 = .ok (.invokevirtual 220, 3) := by decide +kernel
theorem dX10_readText_49 : decode cX10_readText 49 = .ok (.ifCond .eq 13, 3) := by decide +kernel
theorem dX10_readText_52 : decode cX10_readText 52 = .ok (.aload_n 0, 1) := by decide +kernel
theorem dX10_readText_53 : decode cX10_readText 53 = .ok (.aload_n 3, 1) := by decide +kernel
theorem dX10_readText_54 : decode cX10_readText 54 = .ok (.invokevirtual 223, 3) := by decide +kernel
theorem dX10_readText_57 : decode cX10_readText 57 = .ok (.putfield 78, 3) := by decide +kernel
theorem dX10_readText_60 : decode cX10_readText 60 = .ok (.aconst_null, 1) := by decide +kernel
theorem dX10_readText_61 : decode cX10_readText 61 = .ok (.areturn, 1) := by decide +kernel
theorem dX10_readText_62 : decode cX10_readText 62 = .ok (.new 114, 3) := by decide +kernel
theorem dX10_readText_65 : decode cX10_readText 65 = .ok (.dup, 1) := by decide +kernel
theorem dX10_readText_66 : decode cX10_readText 66 = .ok (.aload_n 2, 1) := by decide +kernel
theorem dX10_readText_67 : decode cX10_readText 67 = .ok (.aload_n 0, 1) := by decide +kernel
theorem dX10_readText_68 : decode cX10_readText 68 = .ok (.getfield 30, 3) := by decide +kernel
theorem dX10_readText_71 : decode cX10_readText 71 = .ok (.invokevirtual 226, 3) := by decide +kernel
theorem dX10_readText_74 : decode cX10_readText 74 = .ok (.aload_n 0, 1) := by decide +kernel
theorem dX10_readText_75 : decode cX10_readText 75 = .ok (.getfield 30, 3) := by decide +kernel
theorem dX10_readText_78 : decode cX10_readText 78 = .ok (.invokevirtual 227, 3) := by decide +kernel
theorem dX10_readText_81 : decode cX10_readText 81 = .ok (.invokespecial 228, 3) := by decide +kernel
theorem dX10_readText_84 : decode cX10_readText 84 = .ok (.areturn, 1) := by decide +kernel
theorem dX10_takeOffer_0 : decode cX10_takeOffer 0 = .ok (.aload_n 0, 1) := by decide +kernel
theorem dX10_takeOffer_1 : decode cX10_takeOffer 1 = .ok (.iconst 1, 1) := by decide +kernel
theorem dX10_takeOffer_2 : decode cX10_takeOffer 2 = .ok (.invokevirtual 101, 3) := by decide +kernel
theorem dX10_takeOffer_5 : decode cX10_takeOffer 5 = .ok (.astore_n 3, 1) := by decide +kernel
theorem dX10_takeOffer_6 : decode cX10_takeOffer 6 = .ok (.aload_n 3, 1) := by decide +kernel
theorem dX10_takeOffer_7 : decode cX10_takeOffer 7 = .ok (.ifnonnull 6, 3) := by decide +kernel
theorem dX10_takeOffer_10 : decode cX10_takeOffer 10 = .ok (.bipush (-7), 2) := by decide +kernel
theorem dX10_takeOffer_12 : decode cX10_takeOffer 12 = .ok (.ireturn, 1) := by decide +kernel
theorem dX10_takeOffer_13 : decode cX10_takeOffer 13 = .ok (.aload_n 0, 1) := by decide +kernel
theorem dX10_takeOffer_14 : decode cX10_takeOffer 14 = .ok (.getfield 19, 3) := by decide +kernel
theorem dX10_takeOffer_17 : decode cX10_takeOffer 17 = .ok (.iload_n 1, 1) := by decide +kernel
theorem dX10_takeOffer_18 : decode cX10_takeOffer 18 = .ok (.iload_n 2, 1) := by decide +kernel
theorem dX10_takeOffer_19 : decode cX10_takeOffer 19 = .ok (.invokevirtual 231, 3) := by decide +kernel
theorem dX10_takeOffer_22 : decode cX10_takeOffer 22 = .ok (.istore 4, 2) := by decide +kernel
theorem dX10_takeOffer_24 : decode cX10_takeOffer 24 = .ok (.iload 4, 2) := by decide +kernel
theorem dX10_takeOffer_26 : decode cX10_takeOffer 26 = .ok (.iconst (-1), 1) := by decide +kernel
theorem dX10_takeOffer_27 : decode cX10_takeOffer 27 = .ok (.if_icmp .eq 16, 3) := by decide +kernel
theorem dX10_takeOffer_30 : decode cX10_takeOffer 30 = .ok (.aload_n 0, 1) := by decide +kernel
theorem dX10_takeOffer_31 : decode cX10_takeOffer 31 = .ok (.getfield 19, 3) := by decide +kernel
theorem dX10_takeOffer_34 : decode cX10_takeOffer 34 = .ok (.iload 4, 2) := by decide +kernel
theorem dX10_takeOffer_36 : decode cX10_takeOffer 36 = .ok (.aload_n 3, 1) := by decide +kernel
theorem dX10_takeOffer_37 : decode cX10_takeOffer 37 = .ok (.invokevirtual 105, 3) := by decide +kernel
theorem dX10_takeOffer_40 : decode cX10_takeOffer 40 = .ok (.ifCond .ne 6, 3) := by decide +kernel
theorem dX10_takeOffer_43 : decode cX10_takeOffer 43 = .ok (.bipush (-4), 2) := by decide +kernel
theorem dX10_takeOffer_45 : decode cX10_takeOffer 45 = .ok (.ireturn, 1) := by decide +kernel
theorem dX10_takeOffer_46 : decode cX10_takeOffer 46 = .ok (.aload_n 0, 1) := by decide +kernel
theorem dX10_takeOffer_47 : decode cX10_takeOffer 47 = .ok (.iload 4, 2) := by decide +kernel
theorem dX10_takeOffer_49 : decode cX10_takeOffer 49 = .ok (.aload_n 3, 1) := by decide +kernel
theorem dX10_takeOffer_50 : decode cX10_takeOffer 50 = .ok (.invokevirtual 109, 3) := by decide +kernel
theorem dX10_takeOffer_53 : decode cX10_takeOffer 53 = .ok (.iload 4, 2) := by decide +kernel
theorem dX10_takeOffer_55 : decode cX10_takeOffer 55 = .ok (.iload_n 1, 1) := by decide +kernel
theorem dX10_takeOffer_56 : decode cX10_takeOffer 56 = .ok (.isub, 1) := by decide +kernel
theorem dX10_takeOffer_57 : decode cX10_takeOffer 57 = .ok (.ireturn, 1) := by decide +kernel
theorem dX10_settle_0 : decode cX10_settle 0 = .ok (.aload_n 0, 1) := by decide +kernel
theorem dX10_settle_1 : decode cX10_settle 1 = .ok (.getfield 19, 3) := by decide +kernel
theorem dX10_settle_4 : decode cX10_settle 4 = .ok (.iload_n 1, 1) := by decide +kernel
theorem dX10_settle_5 : decode cX10_settle 5 = .ok (.aload_n 2, 1) := by decide +kernel
theorem dX10_settle_6 : decode cX10_settle 6 = .ok (.invokevirtual 234, 3) := by decide +kernel
theorem dX10_settle_9 : decode cX10_settle 9 = .ok (.aload_n 0, 1) := by decide +kernel
theorem dX10_settle_10 : decode cX10_settle 10 = .ok (.getfield 12, 3) := by decide +kernel
theorem dX10_settle_13 : decode cX10_settle 13 = .ok (.invokevirtual 94, 3) := by decide +kernel
theorem dX10_settle_16 : decode cX10_settle 16 = .ok (.aload_n 0, 1) := by decide +kernel
theorem dX10_settle_17 : decode cX10_settle 17 = .ok (.iconst 1, 1) := by decide +kernel
theorem dX10_settle_18 : decode cX10_settle 18 = .ok (.putfield 82, 3) := by decide +kernel
theorem dX10_settle_21 : decode cX10_settle 21 = .ok (.return_, 1) := by decide +kernel
theorem dX10_dropNumbered_0 : decode cX10_dropNumbered 0 = .ok (.iload_n 3, 1) := by decide +kernel
theorem dX10_dropNumbered_1 : decode cX10_dropNumbered 1 = .ok (.ifCond .lt 21, 3) := by decide +kernel
theorem dX10_dropNumbered_4 : decode cX10_dropNumbered 4 = .ok (.iload_n 3, 1) := by decide +kernel
theorem dX10_dropNumbered_5 : decode cX10_dropNumbered 5 = .ok (.iload_n 2, 1) := by decide +kernel
theorem dX10_dropNumbered_6 : decode cX10_dropNumbered 6 = .ok (.if_icmp .ge 16, 3) := by decide +kernel
theorem dX10_dropNumbered_9 : decode cX10_dropNumbered 9 = .ok (.aload_n 0, 1) := by decide +kernel
theorem dX10_dropNumbered_10 : decode cX10_dropNumbered 10 = .ok (.getfield 19, 3) := by decide +kernel
theorem dX10_dropNumbered_13 : decode cX10_dropNumbered 13 = .ok (.iload_n 1, 1) := by decide +kernel
theorem dX10_dropNumbered_14 : decode cX10_dropNumbered 14 = .ok (.iload_n 3, 1) := by decide +kernel
theorem dX10_dropNumbered_15 : decode cX10_dropNumbered 15 = .ok (.iadd, 1) := by decide +kernel
theorem dX10_dropNumbered_16 : decode cX10_dropNumbered 16 = .ok (.invokevirtual 237, 3) := by decide +kernel
theorem dX10_dropNumbered_19 : decode cX10_dropNumbered 19 = .ok (.ifnonnull 5, 3) := by decide +kernel
theorem dX10_dropNumbered_22 : decode cX10_dropNumbered 22 = .ok (.iconst (-1), 1) := by decide +kernel
theorem dX10_dropNumbered_23 : decode cX10_dropNumbered 23 = .ok (.ireturn, 1) := by decide +kernel
theorem dX10_dropNumbered_24 : decode cX10_dropNumbered 24 = .ok (.aload_n 0, 1) := by decide +kernel
theorem dX10_dropNumbered_25 : decode cX10_dropNumbered 25 = .ok (.getfield 19, 3) := by decide +kernel
theorem dX10_dropNumbered_28 : decode cX10_dropNumbered 28 = .ok (.iload_n 1, 1) := by decide +kernel
theorem dX10_dropNumbered_29 : decode cX10_dropNumbered 29 = .ok (.iload_n 3, 1) := by decide +kernel
theorem dX10_dropNumbered_30 : decode cX10_dropNumbered 30 = .ok (.iadd, 1) := by decide +kernel
theorem dX10_dropNumbered_31 : decode cX10_dropNumbered 31 = .ok (.aconst_null, 1) := by decide +kernel
theorem dX10_dropNumbered_32 : decode cX10_dropNumbered 32 = .ok (.invokevirtual 234, 3) := by decide +kernel
theorem dX10_dropNumbered_35 : decode cX10_dropNumbered 35 = .ok (.aload_n 0, 1) := by decide +kernel
theorem dX10_dropNumbered_36 : decode cX10_dropNumbered 36 = .ok (.iconst 1, 1) := by decide +kernel
theorem dX10_dropNumbered_37 : decode cX10_dropNumbered 37 = .ok (.putfield 82, 3) := by decide +kernel
theorem dX10_dropNumbered_40 : decode cX10_dropNumbered 40 = .ok (.aload_n 0, 1) := by decide +kernel
theorem dX10_dropNumbered_41 : decode cX10_dropNumbered 41 = .ok (.getfield 19, 3) := by decide +kernel
theorem dX10_dropNumbered_44 : decode cX10_dropNumbered 44 = .ok (.iload_n 1, 1) := by decide +kernel
theorem dX10_dropNumbered_45 : decode cX10_dropNumbered 45 = .ok (.iload_n 2, 1) := by decide +kernel
theorem dX10_dropNumbered_46 : decode cX10_dropNumbered 46 = .ok (.invokevirtual 194, 3) := by decide +kernel
theorem dX10_dropNumbered_49 : decode cX10_dropNumbered 49 = .ok (.invokestatic 152, 3) := by decide +kernel
theorem dX10_dropNumbered_52 : decode cX10_dropNumbered 52 = .ok (.ireturn, 1) := by decide +kernel
theorem dX10_dropGoal_0 : decode cX10_dropGoal 0 = .ok (.aload_n 0, 1) := by decide +kernel
theorem dX10_dropGoal_1 : decode cX10_dropGoal 1 = .ok (.invokevirtual 129, 3) := by decide +kernel
theorem dX10_dropGoal_4 : decode cX10_dropGoal 4 = .ok (.ifCond .ne 6, 3) := by decide +kernel
theorem dX10_dropGoal_7 : decode cX10_dropGoal 7 = .ok (.bipush (-3), 2) := by decide +kernel
theorem dX10_dropGoal_9 : decode cX10_dropGoal 9 = .ok (.ireturn, 1) := by decide +kernel
theorem dX10_dropGoal_10 : decode cX10_dropGoal 10 = .ok (.aload_n 0, 1) := by decide +kernel
theorem dX10_dropGoal_11 : decode cX10_dropGoal 11 = .ok (.getfield 19, 3) := by decide +kernel
theorem dX10_dropGoal_14 : decode cX10_dropGoal 14 = .ok (.iconst 0, 1) := by decide +kernel
theorem dX10_dropGoal_15 : decode cX10_dropGoal 15 = .ok (.aconst_null, 1) := by decide +kernel
theorem dX10_dropGoal_16 : decode cX10_dropGoal 16 = .ok (.invokevirtual 234, 3) := by decide +kernel
theorem dX10_dropGoal_19 : decode cX10_dropGoal 19 = .ok (.aload_n 0, 1) := by decide +kernel
theorem dX10_dropGoal_20 : decode cX10_dropGoal 20 = .ok (.iconst 1, 1) := by decide +kernel
theorem dX10_dropGoal_21 : decode cX10_dropGoal 21 = .ok (.putfield 82, 3) := by decide +kernel
theorem dX10_dropGoal_24 : decode cX10_dropGoal 24 = .ok (.iconst 0, 1) := by decide +kernel
theorem dX10_dropGoal_25 : decode cX10_dropGoal 25 = .ok (.ireturn, 1) := by decide +kernel
theorem dX10_hasGoal_0 : decode cX10_hasGoal 0 = .ok (.aload_n 0, 1) := by decide +kernel
theorem dX10_hasGoal_1 : decode cX10_hasGoal 1 = .ok (.getfield 19, 3) := by decide +kernel
theorem dX10_hasGoal_4 : decode cX10_hasGoal 4 = .ok (.iconst 0, 1) := by decide +kernel
theorem dX10_hasGoal_5 : decode cX10_hasGoal 5 = .ok (.invokevirtual 237, 3) := by decide +kernel
theorem dX10_hasGoal_8 : decode cX10_hasGoal 8 = .ok (.ifnull 7, 3) := by decide +kernel
theorem dX10_hasGoal_11 : decode cX10_hasGoal 11 = .ok (.iconst 1, 1) := by decide +kernel
theorem dX10_hasGoal_12 : decode cX10_hasGoal 12 = .ok (.goto 4, 3) := by decide +kernel
theorem dX10_hasGoal_15 : decode cX10_hasGoal 15 = .ok (.iconst 0, 1) := by decide +kernel
theorem dX10_hasGoal_16 : decode cX10_hasGoal 16 = .ok (.ireturn, 1) := by decide +kernel
theorem dX10_allResources_0 : decode cX10_allResources 0 = .ok (.aload_n 0, 1) := by decide +kernel
theorem dX10_allResources_1 : decode cX10_allResources 1 = .ok (.getfield 19, 3) := by decide +kernel
theorem dX10_allResources_4 : decode cX10_allResources 4 = .ok (.iconst 1, 1) := by decide +kernel
theorem dX10_allResources_5 : decode cX10_allResources 5 = .ok (.iconst 5, 1) := by decide +kernel
theorem dX10_allResources_6 : decode cX10_allResources 6 = .ok (.invokevirtual 194, 3) := by decide +kernel
theorem dX10_allResources_9 : decode cX10_allResources 9 = .ok (.ireturn, 1) := by decide +kernel
theorem dX10_isSetOfResources_0 : decode cX10_isSetOfResources 0 = .ok (.iload_n 1, 1) := by decide +kernel
theorem dX10_isSetOfResources_1 : decode cX10_isSetOfResources 1 = .ok (.ifCond .lt 18, 3) := by decide +kernel
theorem dX10_isSetOfResources_4 : decode cX10_isSetOfResources 4 = .ok (.iload_n 1, 1) := by decide +kernel
theorem dX10_isSetOfResources_5 : decode cX10_isSetOfResources 5 = .ok (.aload_n 0, 1) := by decide +kernel
theorem dX10_isSetOfResources_6 : decode cX10_isSetOfResources 6 = .ok (.invokevirtual 142, 3) := by decide +kernel
theorem dX10_isSetOfResources_9 : decode cX10_isSetOfResources 9 = .ok (.iconst (-1), 1) := by decide +kernel
theorem dX10_isSetOfResources_10 : decode cX10_isSetOfResources 10 = .ok (.ixor, 1) := by decide +kernel
theorem dX10_isSetOfResources_11 : decode cX10_isSetOfResources 11 = .ok (.iand, 1) := by decide +kernel
theorem dX10_isSetOfResources_12 : decode cX10_isSetOfResources 12 = .ok (.ifCond .ne 7, 3) := by decide +kernel
theorem dX10_isSetOfResources_15 : decode cX10_isSetOfResources 15 = .ok (.iconst 1, 1) := by decide +kernel
theorem dX10_isSetOfResources_16 : decode cX10_isSetOfResources 16 = .ok (.goto 4, 3) := by decide +kernel
theorem dX10_isSetOfResources_19 : decode cX10_isSetOfResources 19 = .ok (.iconst 0, 1) := by decide +kernel
theorem dX10_isSetOfResources_20 : decode cX10_isSetOfResources 20 = .ok (.ireturn, 1) := by decide +kernel
theorem dX10_isProvable_0 : decode cX10_isProvable 0 = .ok (.aload_n 0, 1) := by decide +kernel
theorem dX10_isProvable_1 : decode cX10_isProvable 1 = .ok (.getfield 42, 3) := by decide +kernel
theorem dX10_isProvable_4 : decode cX10_isProvable 4 = .ok (.aload_n 0, 1) := by decide +kernel
theorem dX10_isProvable_5 : decode cX10_isProvable 5 = .ok (.getfield 34, 3) := by decide +kernel
theorem dX10_isProvable_8 : decode cX10_isProvable 8 = .ok (.invokevirtual 136, 3) := by decide +kernel
theorem dX10_isProvable_11 : decode cX10_isProvable 11 = .ok (.iload_n 1, 1) := by decide +kernel
theorem dX10_isProvable_12 : decode cX10_isProvable 12 = .ok (.bipush 10, 2) := by decide +kernel
theorem dX10_isProvable_14 : decode cX10_isProvable 14 = .ok (.invokevirtual 145, 3) := by decide +kernel
theorem dX10_isProvable_17 : decode cX10_isProvable 17 = .ok (.ireturn, 1) := by decide +kernel
theorem dX10_savedPlaces_0 : decode cX10_savedPlaces 0 = .ok (.iconst 0, 1) := by decide +kernel
theorem dX10_savedPlaces_1 : decode cX10_savedPlaces 1 = .ok (.istore_n 1, 1) := by decide +kernel
theorem dX10_savedPlaces_2 : decode cX10_savedPlaces 2 = .ok (.iconst 0, 1) := by decide +kernel
theorem dX10_savedPlaces_3 : decode cX10_savedPlaces 3 = .ok (.istore_n 2, 1) := by decide +kernel
theorem dX10_savedPlaces_4 : decode cX10_savedPlaces 4 = .ok (.iload_n 2, 1) := by decide +kernel
theorem dX10_savedPlaces_5 : decode cX10_savedPlaces 5 = .ok (.iconst 2, 1) := by decide +kernel
theorem dX10_savedPlaces_6 : decode cX10_savedPlaces 6 = .ok (.if_icmp .ge 24, 3) := by decide +kernel
theorem dX10_savedPlaces_9 : decode cX10_savedPlaces 9 = .ok (.aload_n 0, 1) := by decide +kernel
theorem dX10_savedPlaces_10 : decode cX10_savedPlaces 10 = .ok (.getfield 23, 3) := by decide +kernel
theorem dX10_savedPlaces_13 : decode cX10_savedPlaces 13 = .ok (.iload_n 2, 1) := by decide +kernel
theorem dX10_savedPlaces_14 : decode cX10_savedPlaces 14 = .ok (.aaload, 1) := by decide +kernel
theorem dX10_savedPlaces_15 : decode cX10_savedPlaces 15 = .ok (.ifnull 9, 3) := by decide +kernel
theorem dX10_savedPlaces_18 : decode cX10_savedPlaces 18 = .ok (.iload_n 1, 1) := by decide +kernel
theorem dX10_savedPlaces_19 : decode cX10_savedPlaces 19 = .ok (.iconst 1, 1) := by decide +kernel
theorem dX10_savedPlaces_20 : decode cX10_savedPlaces 20 = .ok (.iload_n 2, 1) := by decide +kernel
theorem dX10_savedPlaces_21 : decode cX10_savedPlaces 21 = .ok (.ishl, 1) := by decide +kernel
theorem dX10_savedPlaces_22 : decode cX10_savedPlaces 22 = .ok (.ior, 1) := by decide +kernel
theorem dX10_savedPlaces_23 : decode cX10_savedPlaces 23 = .ok (.istore_n 1, 1) := by decide +kernel
theorem dX10_savedPlaces_24 : decode cX10_savedPlaces 24 = .ok (.iinc 2 1, 3) := by decide +kernel
theorem dX10_savedPlaces_27 : decode cX10_savedPlaces 27 = .ok (.goto (-23), 3) := by decide +kernel
theorem dX10_savedPlaces_30 : decode cX10_savedPlaces 30 = .ok (.iload_n 1, 1) := by decide +kernel
theorem dX10_savedPlaces_31 : decode cX10_savedPlaces 31 = .ok (.ireturn, 1) := by decide +kernel
theorem dX10_prepare_0 : decode cX10_prepare 0 = .ok (.aload_n 0, 1) := by decide +kernel
theorem dX10_prepare_1 : decode cX10_prepare 1 = .ok (.getfield 82, 3) := by decide +kernel
theorem dX10_prepare_4 : decode cX10_prepare 4 = .ok (.ifCond .eq 40, 3) := by decide +kernel
theorem dX10_prepare_7 : decode cX10_prepare 7 = .ok (.aload_n 0, 1) := by decide +kernel
theorem dX10_prepare_8 : decode cX10_prepare 8 = .ok (.getfield 34, 3) := by decide +kernel
theorem dX10_prepare_11 : decode cX10_prepare 11 = .ok (.aload_n 0, 1) := by decide +kernel
theorem dX10_prepare_12 : decode cX10_prepare 12 = .ok (.getfield 19, 3) := by decide +kernel
theorem dX10_prepare_15 : decode cX10_prepare 15 = .ok (.invokevirtual 240, 3) := by decide +kernel
theorem dX10_prepare_18 : decode cX10_prepare 18 = .ok (.aload_n 0, 1) := by decide +kernel
theorem dX10_prepare_19 : decode cX10_prepare 19 = .ok (.getfield 42, 3) := by decide +kernel
theorem dX10_prepare_22 : decode cX10_prepare 22 = .ok (.invokevirtual 243, 3) := by decide +kernel
theorem dX10_prepare_25 : decode cX10_prepare 25 = .ok (.aload_n 0, 1) := by decide +kernel
theorem dX10_prepare_26 : decode cX10_prepare 26 = .ok (.getfield 51, 3) := by decide +kernel
theorem dX10_prepare_29 : decode cX10_prepare 29 = .ok (.invokevirtual 246, 3) := by decide +kernel
theorem dX10_prepare_32 : decode cX10_prepare 32 = .ok (.aload_n 0, 1) := by decide +kernel
theorem dX10_prepare_33 : decode cX10_prepare 33 = .ok (.getfield 58, 3) := by decide +kernel
theorem dX10_prepare_36 : decode cX10_prepare 36 = .ok (.invokevirtual 249, 3) := by decide +kernel
theorem dX10_prepare_39 : decode cX10_prepare 39 = .ok (.aload_n 0, 1) := by decide +kernel
theorem dX10_prepare_40 : decode cX10_prepare 40 = .ok (.iconst 0, 1) := by decide +kernel
theorem dX10_prepare_41 : decode cX10_prepare 41 = .ok (.putfield 82, 3) := by decide +kernel
theorem dX10_prepare_44 : decode cX10_prepare 44 = .ok (.return_, 1) := by decide +kernel
theorem dX10_partsOf_0 : decode cX10_partsOf 0 = .ok (.iconst 1, 1) := by decide +kernel
theorem dX10_partsOf_1 : decode cX10_partsOf 1 = .ok (.iload_n 0, 1) := by decide +kernel
