theorem dX10_allResources_1 : decode cX10_allResources 1 = .ok (.getfield 19, 3) := by decide +kernel
theorem dX10_allResources_4 : decode cX10_allResources 4 = .ok (.iconst 1, 1) := by decide +kernel
theorem dX10_allResources_5 : decode cX10_allResources 5 = .ok (.iconst 5, 1) := by decide +kernel
theorem dX10_allResources_6 : decode cX10_allResources 6 = .ok (.invokevirtual 194, 3) := by decide +kernel
theorem dX10_allResources_9 : decode cX10_allResources 9 = .ok (.ireturn, 1) := by decide +kernel
theorem dX10_isSetOfResources_0 : decode cX10_isSetOfResources 0 = .ok (.iload_n 1, 1) := by decide +kernel
theorem dX10_isSetOfResources_1 : decode cX10_isSetOfResources 1 = .ok (.ifCond .lt 18, 3) := by decide +kernel
theorem dX10_isSetOfResources_4 : decode cX10_isSetOfResources 4 = .ok (.iload_n 1, 1) := by decide +kernel
theorem dX10_isSetOfResources_5 : decode cX10_isSetOfResources 5 = .ok (.aload_n 0, 1) := by decide +kernel
theorem dX10_isSetOfResources_6 : decode cX10_isSetOfResources 6 = .ok (.invokevirtual 142, 3) := by decide +kernel
theorem dX10_isSetOfResources_9 : decode cX10_isSetOfResources 9 = .ok (.iconst (-1), 1) := by decide +kernel
theorem dX10_isSetOfResources_10 : decode cX10_isSetOfResources 10 = .ok (.ixor, 1) := by decide +kernel
theorem dX10_isSetOfResources_11 : decode cX10_isSetOfResources 11 = .ok (.iand, 1) := by decide +kernel
theorem dX10_isSetOfResources_12 : decode cX10_isSetOfResources 12 = .ok (.ifCond .ne 7, 3) := by decide +kernel
theorem dX10_isSetOfResources_15 : decode cX10_isSetOfResources 15 = .ok (.iconst 1, 1) := by decide +kernel
theorem dX10_isSetOfResources_16 : decode cX10_isSetOfResources 16 = .ok (.goto 4, 3) := by decide +kernel
theorem dX10_isSetOfResources_19 : decode cX10_isSetOfResources 19 = .ok (.iconst 0, 1) := by decide +kernel
theorem dX10_isSetOfResources_20 : decode cX10_isSetOfResources 20 = .ok (.ireturn, 1) := by decide +kernel
theorem dX10_isProvable_0 : decode cX10_isProvable 0 = .ok (.aload_n 0, 1) := by decide +kernel
theorem dX10_isProvable_1 : decode cX10_isProvable 1 = .ok (.getfield 42, 3) := by decide +kernel
theorem dX10_isProvable_4 : decode cX10_isProvable 4 = .ok (.aload_n 0, 1) := by decide +kernel
theorem dX10_isProvable_5 : decode cX10_isProvable 5 = .ok (.getfield 34, 3) := by decide +kernel
theorem dX10_isProvable_8 : decode cX10_isProvable 8 = .ok (.invokevirtual 136, 3) := by decide +kernel
theorem dX10_isProvable_11 : decode cX10_isProvable 11 = .ok (.iload_n 1, 1) := by decide +kernel
theorem dX10_isProvable_12 : decode cX10_isProvable 12 = .ok (.bipush 10, 2) := by decide +kernel
theorem dX10_isProvable_14 : decode cX10_isProvable 14 = .ok (.invokevirtual 145, 3) := by decide +kernel
theorem dX10_isProvable_17 : decode cX10_isProvable 17 = .ok (.ireturn, 1) := by decide +kernel
theorem dX10_savedPlaces_0 : decode cX10_savedPlaces 0 = .ok (.iconst 0, 1) := by decide +kernel
theorem dX10_savedPlaces_1 : decode cX10_savedPlaces 1 = .ok (.istore_n 1, 1) := by decide +kernel
theorem dX10_savedPlaces_2 : decode cX10_savedPlaces 2 = .ok (.iconst 0, 1) := by decide +kernel
theorem dX10_savedPlaces_3 : decode cX10_savedPlaces 3 = .ok (.istore_n 2, 1) := by decide +kernel
theorem dX10_savedPlaces_4 : decode cX10_savedPlaces 4 = .ok (.iload_n 2, 1) := by decide +kernel
theorem dX10_savedPlaces_5 : decode cX10_savedPlaces 5 = .ok (.iconst 2, 1) := by decide +kernel
theorem dX10_savedPlaces_6 : decode cX10_savedPlaces 6 = .ok (.if_icmp .ge 24, 3) := by decide +kernel
theorem dX10_savedPlaces_9 : decode cX10_savedPlaces 9 = .ok (.aload_n 0, 1) := by decide +kernel
theorem dX10_savedPlaces_10 : decode cX10_savedPlaces 10 = .ok (.getfield 23, 3) := by decide +kernel
theorem dX10_savedPlaces_13 : decode cX10_savedPlaces 13 = .ok (.iload_n 2, 1) := by decide +kernel
theorem dX10_savedPlaces_14 : decode cX10_savedPlaces 14 = .ok (.aaload, 1) := by decide +kernel
theorem dX10_savedPlaces_15 : decode cX10_savedPlaces 15 = .ok (.ifnull 9, 3) := by decide +kernel
theorem dX10_savedPlaces_18 : decode cX10_savedPlaces 18 = .ok (.iload_n 1, 1) := by decide +kernel
theorem dX10_savedPlaces_19 : decode cX10_savedPlaces 19 = .ok (.iconst 1, 1) := by decide +kernel
theorem dX10_savedPlaces_20 : decode cX10_savedPlaces 20 = .ok (.iload_n 2, 1) := by decide +kernel
theorem dX10_savedPlaces_21 : decode cX10_savedPlaces 21 = .ok (.ishl, 1) := by decide +kernel
theorem dX10_savedPlaces_22 : decode cX10_savedPlaces 22 = .ok (.ior, 1) := by decide +kernel
theorem dX10_savedPlaces_23 : decode cX10_savedPlaces 23 = .ok (.istore_n 1, 1) := by decide +kernel
theorem dX10_savedPlaces_24 : decode cX10_savedPlaces 24 = .ok (.iinc 2 1, 3) := by decide +kernel
theorem dX10_savedPlaces_27 : decode cX10_savedPlaces 27 = .ok (.goto (-23), 3) := by decide +kernel
theorem dX10_savedPlaces_30 : decode cX10_savedPlaces 30 = .ok (.iload_n 1, 1) := by decide +kernel
theorem dX10_savedPlaces_31 : decode cX10_savedPlaces 31 = .ok (.ireturn, 1) := by decide +kernel
theorem dX10_prepare_0 : decode cX10_prepare 0 = .ok (.aload_n 0, 1) := by decide +kernel
theorem dX10_prepare_1 : decode cX10_prepare 1 = .ok (.getfield 82, 3) := by decide +kernel
theorem dX10_prepare_4 : decode cX10_prepare 4 = .ok (.ifCond .eq 40, 3) := by decide +kernel
theorem dX10_prepare_7 : decode cX10_prepare 7 = .ok (.aload_n 0, 1) := by decide +kernel
theorem dX10_prepare_8 : decode cX10_prepare 8 = .ok (.getfield 34, 3) := by decide +kernel
theorem dX10_prepare_11 : decode cX10_prepare 11 = .ok (.aload_n 0, 1) := by decide +kernel
theorem dX10_prepare_12 : decode cX10_prepare 12 = .ok (.getfield 19, 3) := by decide +kernel
theorem dX10_prepare_15 : decode cX10_prepare 15 = .ok (.invokevirtual 240, 3) := by decide +kernel
theorem dX10_prepare_18 : decode cX10_prepare 18 = .ok (.aload_n 0, 1) := by decide +kernel
theorem dX10_prepare_19 : decode cX10_prepare 19 = .ok (.getfield 42, 3) := by decide +kernel
theorem dX10_prepare_22 : decode cX10_prepare 22 = .ok (.invokevirtual 243, 3) := by decide +kernel
theorem dX10_prepare_25 : decode cX10_prepare 25 = .ok (.aload_n 0, 1) := by decide +kernel
theorem dX10_prepare_26 : decode cX10_prepare 26 = .ok (.getfield 51, 3) := by decide +kernel
theorem dX10_prepare_29 : decode cX10_prepare 29 = .ok (.invokevirtual 246, 3) := by decide +kernel
theorem dX10_prepare_32 : decode cX10_prepare 32 = .ok (.aload_n 0, 1) := by decide +kernel
theorem dX10_prepare_33 : decode cX10_prepare 33 = .ok (.getfield 58, 3) := by decide +kernel
theorem dX10_prepare_36 : decode cX10_prepare 36 = .ok (.invokevirtual 249, 3) := by decide +kernel
theorem dX10_prepare_39 : decode cX10_prepare 39 = .ok (.aload_n 0, 1) := by decide +kernel
theorem dX10_prepare_40 : decode cX10_prepare 40 = .ok (.iconst 0, 1) := by decide +kernel
theorem dX10_prepare_41 : decode cX10_prepare 41 = .ok (.putfield 82, 3) := by decide +kernel
theorem dX10_prepare_44 : decode cX10_prepare 44 = .ok (.return_, 1) := by decide +kernel
theorem dX10_partsOf_0 : decode cX10_partsOf 0 = .ok (.iconst 1, 1) := by decide +kernel
theorem dX10_partsOf_1 : decode cX10_partsOf 1 = .ok (.iload_n 0, 1) := by decide +kernel
theorem dX10_partsOf_2 : decode cX10_partsOf 2 = .ok (.sipush 255, 3) := by decide +kernel
theorem dX10_partsOf_5 : decode cX10_partsOf 5 = .ok (.iand, 1) := by decide +kernel
theorem dX10_partsOf_6 : decode cX10_partsOf 6 = .ok (.invokestatic 152, 3) := by decide +kernel
theorem dX10_partsOf_9 : decode cX10_partsOf 9 = .ok (.ishl, 1) := by decide +kernel
theorem dX10_partsOf_10 : decode cX10_partsOf 10 = .ok (.ireturn, 1) := by decide +kernel
theorem dX10_nextPart_0 : decode cX10_nextPart 0 = .ok (.iload_n 0, 1) := by decide +kernel
theorem dX10_nextPart_1 : decode cX10_nextPart 1 = .ok (.iload_n 1, 1) := by decide +kernel
theorem dX10_nextPart_2 : decode cX10_nextPart 2 = .ok (.isub, 1) := by decide +kernel
theorem dX10_nextPart_3 : decode cX10_nextPart 3 = .ok (.iload_n 1, 1) := by decide +kernel
theorem dX10_nextPart_4 : decode cX10_nextPart 4 = .ok (.iand, 1) := by decide +kernel
theorem dX10_nextPart_5 : decode cX10_nextPart 5 = .ok (.ireturn, 1) := by decide +kernel
theorem dX11_init_0 : decode cX11_init 0 = .ok (.aload_n 0, 1) := by decide +kernel
theorem dX11_init_1 : decode cX11_init 1 = .ok (.invokespecial 1, 3) := by decide +kernel
theorem dX11_init_4 : decode cX11_init 4 = .ok (.aload_n 0, 1) := by decide +kernel
theorem dX11_init_5 : decode cX11_init 5 = .ok (.sipush 660, 3) := by decide +kernel
theorem dX11_init_8 : decode cX11_init 8 = .ok (.newarray .int, 2) := by decide +kernel
theorem dX11_init_10 : decode cX11_init 10 = .ok (.putfield 7, 3) := by decide +kernel
theorem dX11_init_13 : decode cX11_init 13 = .ok (.aload_n 0, 1) := by decide +kernel
theorem dX11_init_14 : decode cX11_init 14 = .ok (.bipush 11, 2) := by decide +kernel
theorem dX11_init_16 : decode cX11_init 16 = .ok (.newarray .int, 2) := by decide +kernel
theorem dX11_init_18 : decode cX11_init 18 = .ok (.putfield 13, 3) := by decide +kernel
theorem dX11_init_21 : decode cX11_init 21 = .ok (.aload_n 0, 1) := by decide +kernel
theorem dX11_init_22 : decode cX11_init 22 = .ok (.bipush (-6), 2) := by decide +kernel
theorem dX11_init_24 : decode cX11_init 24 = .ok (.putfield 16, 3) := by decide +kernel
theorem dX11_init_27 : decode cX11_init 27 = .ok (.aload_n 0, 1) := by decide +kernel
theorem dX11_init_28 : decode cX11_init 28 = .ok (.bipush 60, 2) := by decide +kernel
theorem dX11_init_30 : decode cX11_init 30 = .ok (.newarray .int, 2) := by decide +kernel
theorem dX11_init_32 : decode cX11_init 32 = .ok (.putfield 20, 3) := by decide +kernel
theorem dX11_init_35 : decode cX11_init 35 = .ok (.aload_n 0, 1) := by decide +kernel
theorem dX11_init_36 : decode cX11_init 36 = .ok (.bipush 64, 2) := by decide +kernel
theorem dX11_init_38 : decode cX11_init 38 = .ok (.newarray .int, 2) := by decide +kernel
theorem dX11_init_40 : decode cX11_init 40 = .ok (.putfield 23, 3) := by decide +kernel
theorem dX11_init_43 : decode cX11_init 43 = .ok (.aload_n 0, 1) := by decide +kernel
theorem dX11_init_44 : decode cX11_init 44 = .ok (.bipush 64, 2) := by decide +kernel
theorem dX11_init_46 : decode cX11_init 46 = .ok (.newarray .int, 2) := by decide +kernel
theorem dX11_init_48 : decode cX11_init 48 = .ok (.putfield 26, 3) := by decide +kernel
theorem dX11_init_51 : decode cX11_init 51 = .ok (.aload_n 0, 1) := by decide +kernel
theorem dX11_init_52 : decode cX11_init 52 = .ok (.bipush 64, 2) := by decide +kernel
theorem dX11_init_54 : decode cX11_init 54 = .ok (.newarray .int, 2) := by decide +kernel
theorem dX11_init_56 : decode cX11_init 56 = .ok (.putfield 29, 3) := by decide +kernel
theorem dX11_init_59 : decode cX11_init 59 = .ok (.aload_n 0, 1) := by decide +kernel
theorem dX11_init_60 : decode cX11_init 60 = .ok (.bipush 12, 2) := by decide +kernel
theorem dX11_init_62 : decode cX11_init 62 = .ok (.newarray .int, 2) := by decide +kernel
theorem dX11_init_64 : decode cX11_init 64 = .ok (.putfield 32, 3) := by decide +kernel
theorem dX11_init_67 : decode cX11_init 67 = .ok (.aload_n 0, 1) := by decide +kernel
theorem dX11_init_68 : decode cX11_init 68 = .ok (.bipush 36, 2) := by decide +kernel
theorem dX11_init_70 : decode cX11_init 70 = .ok (.newarray .int, 2) := by decide +kernel
theorem dX11_init_72 : decode cX11_init 72 = .ok (.putfield 35, 3) := by decide +kernel
theorem dX11_init_75 : decode cX11_init 75 = .ok (.aload_n 0, 1) := by decide +kernel
theorem dX11_init_76 : decode cX11_init 76 = .ok (.bipush 36, 2) := by decide +kernel
theorem dX11_init_78 : decode cX11_init 78 = .ok (.newarray .int, 2) := by decide +kernel
theorem dX11_init_80 : decode cX11_init 80 = .ok (.putfield 38, 3) := by decide +kernel
theorem dX11_init_83 : decode cX11_init 83 = .ok (.aload_n 0, 1) := by decide +kernel
theorem dX11_init_84 : decode cX11_init 84 = .ok (.sipush 128, 3) := by decide +kernel
theorem dX11_init_87 : decode cX11_init 87 = .ok (.newarray .int, 2) := by decide +kernel
theorem dX11_init_89 : decode cX11_init 89 = .ok (.putfield 41, 3) := by decide +kernel
theorem dX11_init_92 : decode cX11_init 92 = .ok (.aload_n 0, 1) := by decide +kernel
theorem dX11_init_93 : decode cX11_init 93 = .ok (.sipush 128, 3) := by decide +kernel
theorem dX11_init_96 : decode cX11_init 96 = .ok (.newarray .int, 2) := by decide +kernel
theorem dX11_init_98 : decode cX11_init 98 = .ok (.putfield 44, 3) := by decide +kernel
theorem dX11_init_101 : decode cX11_init 101 = .ok (.aload_n 0, 1) := by decide +kernel
theorem dX11_init_102 : decode cX11_init 102 = .ok (.sipush 128, 3) := by decide +kernel
theorem dX11_init_105 : decode cX11_init 105 = .ok (.newarray .int, 2) := by decide +kernel
theorem dX11_init_107 : decode cX11_init 107 = .ok (.putfield 47, 3) := by decide +kernel
theorem dX11_init_110 : decode cX11_init 110 = .ok (.aload_n 0, 1) := by decide +kernel
theorem dX11_init_111 : decode cX11_init 111 = .ok (.sipush 128, 3) := by decide +kernel
theorem dX11_init_114 : decode cX11_init 114 = .ok (.newarray .int, 2) := by decide +kernel
theorem dX11_init_116 : decode cX11_init 116 = .ok (.putfield 50, 3) := by decide +kernel
theorem dX11_init_119 : decode cX11_init 119 = .ok (.aload_n 0, 1) := by decide +kernel
theorem dX11_init_120 : decode cX11_init 120 = .ok (.iconst 1, 1) := by decide +kernel
theorem dX11_init_121 : decode cX11_init 121 = .ok (.putfield 53, 3) := by decide +kernel
theorem dX11_init_124 : decode cX11_init 124 = .ok (.aload_n 0, 1) := by decide +kernel
theorem dX11_init_125 : decode cX11_init 125 = .ok (.sipush 15360, 3) := by decide +kernel
theorem dX11_init_128 : decode cX11_init 128 = .ok (.newarray .int, 2) := by decide +kernel
theorem dX11_init_130 : decode cX11_init 130 = .ok (.putfield 57, 3) := by decide +kernel
theorem dX11_init_133 : decode cX11_init 133 = .ok (.aload_n 0, 1) := by decide +kernel
theorem dX11_init_134 : decode cX11_init 134 = .ok (.sipush 15360, 3) := by decide +kernel
theorem dX11_init_137 : decode cX11_init 137 = .ok (.newarray .long, 2) := by decide +kernel
theorem dX11_init_139 : decode cX11_init 139 = .ok (.putfield 60, 3) := by decide +kernel
theorem dX11_init_142 : decode cX11_init 142 = .ok (.aload_n 0, 1) := by decide +kernel
theorem dX11_init_143 : decode cX11_init 143 = .ok (.sipush 15360, 3) := by decide +kernel
theorem dX11_init_146 : decode cX11_init 146 = .ok (.newarray .long, 2) := by decide +kernel
theorem dX11_init_148 : decode cX11_init 148 = .ok (.putfield 64, 3) := by decide +kernel
theorem dX11_init_151 : decode cX11_init 151 = .ok (.aload_n 0, 1) := by decide +kernel
theorem dX11_init_152 : decode cX11_init 152 = .ok (.sipush 1024, 3) := by decide +kernel
theorem dX11_init_155 : decode cX11_init 155 = .ok (.newarray .int, 2) := by decide +kernel
theorem dX11_init_157 : decode cX11_init 157 = .ok (.putfield 67, 3) := by decide +kernel
theorem dX11_init_160 : decode cX11_init 160 = .ok (.aload_n 0, 1) := by decide +kernel
theorem dX11_init_161 : decode cX11_init 161 = .ok (.bipush 64, 2) := by decide +kernel
theorem dX11_init_163 : decode cX11_init 163 = .ok (.newarray .int, 2) := by decide +kernel
theorem dX11_init_165 : decode cX11_init 165 = .ok (.putfield 70, 3) := by decide +kernel
theorem dX11_init_168 : decode cX11_init 168 = .ok (.aload_n 0, 1) := by decide +kernel
theorem dX11_init_169 : decode cX11_init 169 = .ok (.bipush 64, 2) := by decide +kernel
theorem dX11_init_171 : decode cX11_init 171 = .ok (.newarray .int, 2) := by decide +kernel
theorem dX11_init_173 : decode cX11_init 173 = .ok (.putfield 73, 3) := by decide +kernel
theorem dX11_init_176 : decode cX11_init 176 = .ok (.aload_n 0, 1) := by decide +kernel
theorem dX11_init_177 : decode cX11_init 177 = .ok (.bipush 64, 2) := by decide +kernel
theorem dX11_init_179 : decode cX11_init 179 = .ok (.newarray .int, 2) := by decide +kernel
theorem dX11_init_181 : decode cX11_init 181 = .ok (.putfield 76, 3) := by decide +kernel
theorem dX11_init_184 : decode cX11_init 184 = .ok (.aload_n 0, 1) := by decide +kernel
theorem dX11_init_185 : decode cX11_init 185 = .ok (.sipush 1200, 3) := by decide +kernel
theorem dX11_init_188 : decode cX11_init 188 = .ok (.newarray .int, 2) := by decide +kernel
theorem dX11_init_190 : decode cX11_init 190 = .ok (.putfield 79, 3) := by decide +kernel
theorem dX11_init_193 : decode cX11_init 193 = .ok (.aload_n 0, 1) := by decide +kernel
theorem dX11_init_194 : decode cX11_init 194 = .ok (.bipush 20, 2) := by decide +kernel
theorem dX11_init_196 : decode cX11_init 196 = .ok (.newarray .int, 2) := by decide +kernel
theorem dX11_init_198 : decode cX11_init 198 = .ok (.putfield 82, 3) := by decide +kernel
theorem dX11_init_201 : decode cX11_init 201 = .ok (.aload_n 0, 1) := by decide +kernel
theorem dX11_init_202 : decode cX11_init 202 = .ok (.iconst 2, 1) := by decide +kernel
theorem dX11_init_203 : decode cX11_init 203 = .ok (.newarray .boolean, 2) := by decide +kernel
theorem dX11_init_205 : decode cX11_init 205 = .ok (.putfield 85, 3) := by decide +kernel
theorem dX11_init_208 : decode cX11_init 208 = .ok (.iconst 0, 1) := by decide +kernel
theorem dX11_init_209 : decode cX11_init 209 = .ok (.istore_n 1, 1) := by decide +kernel
theorem dX11_init_210 : decode cX11_init 210 = .ok (.iload_n 1, 1) := by decide +kernel
theorem dX11_init_211 : decode cX11_init 211 = .ok (.bipush 10, 2) := by decide +kernel
theorem dX11_init_213 : decode cX11_init 213 = .ok (.if_icmp .ge 17, 3) := by decide +kernel
theorem dX11_init_216 : decode cX11_init 216 = .ok (.aload_n 0, 1) := by decide +kernel
theorem dX11_init_217 : decode cX11_init 217 = .ok (.getfield 13, 3) := by decide +kernel
theorem dX11_init_220 : decode cX11_init 220 = .ok (.iload_n 1, 1) := by decide +kernel
theorem dX11_init_221 : decode cX11_init 221 = .ok (.bipush (-6), 2) := by decide +kernel
theorem dX11_init_223 : decode cX11_init 223 = .ok (.iastore, 1) := by decide +kernel
theorem dX11_init_224 : decode cX11_init 224 = .ok (.iinc 1 1, 3) := by decide +kernel
theorem dX11_init_227 : decode cX11_init 227 = .ok (.goto (-17), 3) := by decide +kernel
theorem dX11_init_230 : decode cX11_init 230 = .ok (.return_, 1) := by decide +kernel
theorem dX11_in_0 : decode cX11_in 0 = .ok (.iload_n 0, 1) := by decide +kernel
theorem dX11_in_1 : decode cX11_in 1 = .ok (.iload_n 1, 1) := by decide +kernel
theorem dX11_in_2 : decode cX11_in 2 = .ok (.if_icmp .lt 12, 3) := by decide +kernel
theorem dX11_in_5 : decode cX11_in 5 = .ok (.iload_n 0, 1) := by decide +kernel
theorem dX11_in_6 : decode cX11_in 6 = .ok (.iload_n 2, 1) := by decide +kernel
theorem dX11_in_7 : decode cX11_in 7 = .ok (.if_icmp .gt 7, 3) := by decide +kernel
theorem dX11_in_10 : decode cX11_in 10 = .ok (.iconst 1, 1) := by decide +kernel
theorem dX11_in_11 : decode cX11_in 11 = .ok (.goto 4, 3) := by decide +kernel
theorem dX11_in_14 : decode cX11_in 14 = .ok (.iconst 0, 1) := by decide +kernel
theorem dX11_in_15 : decode cX11_in 15 = .ok (.ireturn, 1) := by decide +kernel
theorem dX11_has_0 : decode cX11_has 0 = .ok (.iload_n 0, 1) := by decide +kernel
theorem dX11_has_1 : decode cX11_has 1 = .ok (.iload_n 1, 1) := by decide +kernel
theorem dX11_has_2 : decode cX11_has 2 = .ok (.ishr, 1) := by decide +kernel
theorem dX11_has_3 : decode cX11_has 3 = .ok (.iconst 1, 1) := by decide +kernel
theorem dX11_has_4 : decode cX11_has 4 = .ok (.iand, 1) := by decide +kernel
theorem dX11_has_5 : decode cX11_has 5 = .ok (.iconst 1, 1) := by decide +kernel
theorem dX11_has_6 : decode cX11_has 6 = .ok (.if_icmp .ne 7, 3) := by decide +kernel
theorem dX11_has_9 : decode cX11_has 9 = .ok (.iconst 1, 1) := by decide +kernel
theorem dX11_has_10 : decode cX11_has 10 = .ok (.goto 4, 3) := by decide +kernel
theorem dX11_has_13 : decode cX11_has 13 = .ok (.iconst 0, 1) := by decide +kernel
theorem dX11_has_14 : decode cX11_has 14 = .ok (.ireturn, 1) := by decide +kernel
theorem dX11_push_0 : decode cX11_push 0 = .ok (.aload_n 0, 1) := by decide +kernel
theorem dX11_push_1 : decode cX11_push 1 = .ok (.getfield 41, 3) := by decide +kernel
theorem dX11_push_4 : decode cX11_push 4 = .ok (.aload_n 0, 1) := by decide +kernel
theorem dX11_push_5 : decode cX11_push 5 = .ok (.getfield 89, 3) := by decide +kernel
theorem dX11_push_8 : decode cX11_push 8 = .ok (.iload_n 1, 1) := by decide +kernel
theorem dX11_push_9 : decode cX11_push 9 = .ok (.iastore, 1) := by decide +kernel
theorem dX11_push_10 : decode cX11_push 10 = .ok (.aload_n 0, 1) := by decide +kernel
theorem dX11_push_11 : decode cX11_push 11 = .ok (.getfield 44, 3) := by decide +kernel
theorem dX11_push_14 : decode cX11_push 14 = .ok (.aload_n 0, 1) := by decide +kernel
theorem dX11_push_15 : decode cX11_push 15 = .ok (.getfield 89, 3) := by decide +kernel
theorem dX11_push_18 : decode cX11_push 18 = .ok (.iload_n 2, 1) := by decide +kernel
theorem dX11_push_19 : decode cX11_push 19 = .ok (.iastore, 1) := by decide +kernel
theorem dX11_push_20 : decode cX11_push 20 = .ok (.aload_n 0, 1) := by decide +kernel
theorem dX11_push_21 : decode cX11_push 21 = .ok (.getfield 47, 3) := by decide +kernel
theorem dX11_push_24 : decode cX11_push 24 = .ok (.aload_n 0, 1) := by decide +kernel
theorem dX11_push_25 : decode cX11_push 25 = .ok (.getfield 89, 3) := by decide +kernel
theorem dX11_push_28 : decode cX11_push 28 = .ok (.iload_n 3, 1) := by decide +kernel
theorem dX11_push_29 : decode cX11_push 29 = .ok (.iastore, 1) := by decide +kernel
theorem dX11_push_30 : decode cX11_push 30 = .ok (.aload_n 0, 1) := by decide +kernel
theorem dX11_push_31 : decode cX11_push 31 = .ok (.getfield 50, 3) := by decide +kernel
theorem dX11_push_34 : decode cX11_push 34 = .ok (.aload_n 0, 1) := by decide +kernel
theorem dX11_push_35 : decode cX11_push 35 = .ok (.getfield 89, 3) := by decide +kernel
theorem dX11_push_38 : decode cX11_push 38 = .ok (.iconst 0, 1) := by decide +kernel
theorem dX11_push_39 : decode cX11_push 39 = .ok (.iastore, 1) := by decide +kernel
theorem dX11_push_40 : decode cX11_push 40 = .ok (.aload_n 0, 1) := by decide +kernel
theorem dX11_push_41 : decode cX11_push 41 = .ok (.dup, 1) := by decide +kernel
theorem dX11_push_42 : decode cX11_push 42 = .ok (.getfield 89, 3) := by decide +kernel
theorem dX11_push_45 : decode cX11_push 45 = .ok (.iconst 1, 1) := by decide +kernel
theorem dX11_push_46 : decode cX11_push 46 = .ok (.iadd, 1) := by decide +kernel
theorem dX11_push_47 : decode cX11_push 47 = .ok (.putfield 89, 3) := by decide +kernel
theorem dX11_push_50 : decode cX11_push 50 = .ok (.return_, 1) := by decide +kernel
theorem dX11_begin_0 : decode cX11_begin 0 = .ok (.aload_n 0, 1) := by decide +kernel
theorem dX11_begin_1 : decode cX11_begin 1 = .ok (.getfield 92, 3) := by decide +kernel
theorem dX11_begin_4 : decode cX11_begin 4 = .ok (.istore_n 3, 1) := by decide +kernel
theorem dX11_begin_5 : decode cX11_begin 5 = .ok (.aload_n 0, 1) := by decide +kernel
theorem dX11_begin_6 : decode cX11_begin 6 = .ok (.dup, 1) := by decide +kernel
theorem dX11_begin_7 : decode cX11_begin 7 = .ok (.getfield 92, 3) := by decide +kernel
theorem dX11_begin_10 : decode cX11_begin 10 = .ok (.iconst 1, 1) := by decide +kernel
theorem dX11_begin_11 : decode cX11_begin 11 = .ok (.iadd, 1) := by decide +kernel
theorem dX11_begin_12 : decode cX11_begin 12 = .ok (.putfield 92, 3) := by decide +kernel
theorem dX11_begin_15 : decode cX11_begin 15 = .ok (.aload_n 0, 1) := by decide +kernel
theorem dX11_begin_16 : decode cX11_begin 16 = .ok (.getfield 95, 3) := by decide +kernel
theorem dX11_begin_19 : decode cX11_begin 19 = .ok (.ifCond .eq 140, 3) := by decide +kernel
theorem dX11_begin_22 : decode cX11_begin 22 = .ok (.aload_n 0, 1) := by decide +kernel
theorem dX11_begin_23 : decode cX11_begin 23 = .ok (.getfield 23, 3) := by decide +kernel
theorem dX11_begin_26 : decode cX11_begin 26 = .ok (.iload_n 3, 1) := by decide +kernel
theorem dX11_begin_27 : decode cX11_begin 27 = .ok (.iload_n 1, 1) := by decide +kernel
theorem dX11_begin_28 : decode cX11_begin 28 = .ok (.iastore, 1) := by decide +kernel
theorem dX11_begin_29 : decode cX11_begin 29 = .ok (.aload_n 0, 1) := by decide +kernel
theorem dX11_begin_30 : decode cX11_begin 30 = .ok (.getfield 26, 3) := by decide +kernel
theorem dX11_begin_33 : decode cX11_begin 33 = .ok (.iload_n 3, 1) := by decide +kernel
theorem dX11_begin_34 : decode cX11_begin 34 = .ok (.iload_n 2, 1) := by decide +kernel
theorem dX11_begin_35 : decode cX11_begin 35 = .ok (.iastore, 1) := by decide +kernel
theorem dX11_begin_36 : decode cX11_begin 36 = .ok (.aload_n 0, 1) := by decide +kernel
theorem dX11_begin_37 : decode cX11_begin 37 = .ok (.getfield 29, 3) := by decide +kernel
theorem dX11_begin_40 : decode cX11_begin 40 = .ok (.iload_n 3, 1) := by decide +kernel
theorem dX11_begin_41 : decode cX11_begin 41 = .ok (.bipush (-6), 2) := by decide +kernel
theorem dX11_begin_43 : decode cX11_begin 43 = .ok (.iastore, 1) := by decide +kernel
theorem dX11_begin_44 : decode cX11_begin 44 = .ok (.aload_n 0, 1) := by decide +kernel
theorem dX11_begin_45 : decode cX11_begin 45 = .ok (.getfield 89, 3) := by decide +kernel
theorem dX11_begin_48 : decode cX11_begin 48 = .ok (.iconst 1, 1) := by decide +kernel
theorem dX11_begin_49 : decode cX11_begin 49 = .ok (.isub, 1) := by decide +kernel
theorem dX11_begin_50 : decode cX11_begin 50 = .ok (.istore 4, 2) := by decide +kernel
theorem dX11_begin_52 : decode cX11_begin 52 = .ok (.aload_n 0, 1) := by decide +kernel
theorem dX11_begin_53 : decode cX11_begin 53 = .ok (.getfield 41, 3) := by decide +kernel
theorem dX11_begin_56 : decode cX11_begin 56 = .ok (.iload 4, 2) := by decide +kernel
theorem dX11_begin_58 : decode cX11_begin 58 = .ok (.iaload, 1) := by decide +kernel
theorem dX11_begin_59 : decode cX11_begin 59 = .ok (.tableswitch 87 0 4 #[33, 87, 41, 87, 57], 33) := by decide +kernel
theorem dX11_begin_92 : decode cX11_begin 92 = .ok (.aload_n 0, 1) := by decide +kernel
theorem dX11_begin_93 : decode cX11_begin 93 = .ok (.iload_n 3, 1) := by decide +kernel
theorem dX11_begin_94 : decode cX11_begin 94 = .ok (.putfield 98, 3) := by decide +kernel
theorem dX11_begin_97 : decode cX11_begin 97 = .ok (.goto 62, 3) := by decide +kernel
theorem dX11_begin_100 : decode cX11_begin 100 = .ok (.aload_n 0, 1) := by decide +kernel
theorem dX11_begin_101 : decode cX11_begin 101 = .ok (.getfield 29, 3) := by decide +kernel
theorem dX11_begin_104 : decode cX11_begin 104 = .ok (.aload_n 0, 1) := by decide +kernel
theorem dX11_begin_105 : decode cX11_begin 105 = .ok (.getfield 44, 3) := by decide +kernel
theorem dX11_begin_108 : decode cX11_begin 108 = .ok (.iload 4, 2) := by decide +kernel
theorem dX11_begin_110 : decode cX11_begin 110 = .ok (.iaload, 1) := by decide +kernel
theorem dX11_begin_111 : decode cX11_begin 111 = .ok (.iload_n 3, 1) := by decide +kernel
theorem dX11_begin_112 : decode cX11_begin 112 = .ok (.iastore, 1) := by decide +kernel
theorem dX11_begin_113 : decode cX11_begin 113 = .ok (.goto 46, 3) := by decide +kernel
theorem dX11_begin_116 : decode cX11_begin 116 = .ok (.aload_n 0, 1) := by decide +kernel
theorem dX11_begin_117 : decode cX11_begin 117 = .ok (.getfield 38, 3) := by decide +kernel
theorem dX11_begin_120 : decode cX11_begin 120 = .ok (.iconst 3, 1) := by decide +kernel
theorem dX11_begin_121 : decode cX11_begin 121 = .ok (.aload_n 0, 1) := by decide +kernel
theorem dX11_begin_122 : decode cX11_begin 122 = .ok (.getfield 47, 3) := by decide +kernel
theorem dX11_begin_125 : decode cX11_begin 125 = .ok (.iload 4, 2) := by decide +kernel
theorem dX11_begin_127 : decode cX11_begin 127 = .ok (.iaload, 1) := by decide +kernel
theorem dX11_begin_128 : decode cX11_begin 128 = .ok (.imul, 1) := by decide +kernel
theorem dX11_begin_129 : decode cX11_begin 129 = .ok (.aload_n 0, 1) := by decide +kernel
theorem dX11_begin_130 : decode cX11_begin 130 = .ok (.getfield 50, 3) := by decide +kernel
theorem dX11_begin_133 : decode cX11_begin 133 = .ok (.iload 4, 2) := by decide +kernel
theorem dX11_begin_135 : decode cX11_begin 135 = .ok (.iconst 1, 1) := by decide +kernel
theorem dX11_begin_136 : decode cX11_begin 136 = .ok (.isub, 1) := by decide +kernel
theorem dX11_begin_137 : decode cX11_begin 137 = .ok (.iaload, 1) := by decide +kernel
theorem dX11_begin_138 : decode cX11_begin 138 = .ok (.iadd, 1) := by decide +kernel
theorem dX11_begin_139 : decode cX11_begin 139 = .ok (.iconst 1, 1) := by decide +kernel
theorem dX11_begin_140 : decode cX11_begin 140 = .ok (.isub, 1) := by decide +kernel
theorem dX11_begin_141 : decode cX11_begin 141 = .ok (.iload_n 3, 1) := by decide +kernel
theorem dX11_begin_142 : decode cX11_begin 142 = .ok (.iastore, 1) := by decide +kernel
theorem dX11_begin_143 : decode cX11_begin 143 = .ok (.goto 16, 3) := by decide +kernel
theorem dX11_begin_146 : decode cX11_begin 146 = .ok (.aload_n 0, 1) := by decide +kernel
theorem dX11_begin_147 : decode cX11_begin 147 = .ok (.getfield 26, 3) := by decide +kernel
theorem dX11_begin_150 : decode cX11_begin 150 = .ok (.aload_n 0, 1) := by decide +kernel
theorem dX11_begin_151 : decode cX11_begin 151 = .ok (.getfield 44, 3) := by decide +kernel
theorem dX11_begin_154 : decode cX11_begin 154 = .ok (.iload 4, 2) := by decide +kernel
theorem dX11_begin_156 : decode cX11_begin 156 = .ok (.iaload, 1) := by decide +kernel
theorem dX11_begin_157 : decode cX11_begin 157 = .ok (.iload_n 3, 1) := by decide +kernel
theorem dX11_begin_158 : decode cX11_begin 158 = .ok (.iastore, 1) := by decide +kernel
theorem dX11_begin_159 : decode cX11_begin 159 = .ok (.iload_n 3, 1) := by decide +kernel
theorem dX11_begin_160 : decode cX11_begin 160 = .ok (.ireturn, 1) := by decide +kernel
theorem dX11_complete_0 : decode cX11_complete 0 = .ok (.aload_n 0, 1) := by decide +kernel
theorem dX11_complete_1 : decode cX11_complete 1 = .ok (.getfield 41, 3) := by decide +kernel
theorem dX11_complete_4 : decode cX11_complete 4 = .ok (.aload_n 0, 1) := by decide +kernel
theorem dX11_complete_5 : decode cX11_complete 5 = .ok (.getfield 89, 3) := by decide +kernel
theorem dX11_complete_8 : decode cX11_complete 8 = .ok (.iconst 1, 1) := by decide +kernel
theorem dX11_complete_9 : decode cX11_complete 9 = .ok (.isub, 1) := by decide +kernel
theorem dX11_complete_10 : decode cX11_complete 10 = .ok (.iaload, 1) := by decide +kernel
theorem dX11_complete_11 : decode cX11_complete 11 = .ok (.iconst 3, 1) := by decide +kernel
theorem dX11_complete_12 : decode cX11_complete 12 = .ok (.if_icmp .ne 16, 3) := by decide +kernel
theorem dX11_complete_15 : decode cX11_complete 15 = .ok (.aload_n 0, 1) := by decide +kernel
theorem dX11_complete_16 : decode cX11_complete 16 = .ok (.dup, 1) := by decide +kernel
theorem dX11_complete_17 : decode cX11_complete 17 = .ok (.getfield 89, 3) := by decide +kernel
theorem dX11_complete_20 : decode cX11_complete 20 = .ok (.iconst 1, 1) := by decide +kernel
theorem dX11_complete_21 : decode cX11_complete 21 = .ok (.isub, 1) := by decide +kernel
theorem dX11_complete_22 : decode cX11_complete 22 = .ok (.putfield 89, 3) := by decide +kernel
theorem dX11_complete_25 : decode cX11_complete 25 = .ok (.goto (-25), 3) := by decide +kernel
theorem dX11_complete_28 : decode cX11_complete 28 = .ok (.aload_n 0, 1) := by decide +kernel
theorem dX11_complete_29 : decode cX11_complete 29 = .ok (.getfield 41, 3) := by decide +kernel
theorem dX11_complete_32 : decode cX11_complete 32 = .ok (.aload_n 0, 1) := by decide +kernel
theorem dX11_complete_33 : decode cX11_complete 33 = .ok (.getfield 89, 3) := by decide +kernel
theorem dX11_complete_36 : decode cX11_complete 36 = .ok (.iconst 1, 1) := by decide +kernel
theorem dX11_complete_37 : decode cX11_complete 37 = .ok (.isub, 1) := by decide +kernel
theorem dX11_complete_38 : decode cX11_complete 38 = .ok (.iaload, 1) := by decide +kernel
theorem dX11_complete_39 : decode cX11_complete 39 = .ok (.tableswitch 50 0 2 #[25, 34, 42], 25) := by decide +kernel
theorem dX11_complete_64 : decode cX11_complete 64 = .ok (.aload_n 0, 1) := by decide +kernel
theorem dX11_complete_65 : decode cX11_complete 65 = .ok (.bipush 6, 2) := by decide +kernel
theorem dX11_complete_67 : decode cX11_complete 67 = .ok (.putfield 101, 3) := by decide +kernel
theorem dX11_complete_70 : decode cX11_complete 70 = .ok (.goto 34, 3) := by decide +kernel
theorem dX11_complete_73 : decode cX11_complete 73 = .ok (.aload_n 0, 1) := by decide +kernel
theorem dX11_complete_74 : decode cX11_complete 74 = .ok (.iconst 1, 1) := by decide +kernel
theorem dX11_complete_75 : decode cX11_complete 75 = .ok (.putfield 101, 3) := by decide +kernel
theorem dX11_complete_78 : decode cX11_complete 78 = .ok (.goto 26, 3) := by decide +kernel
theorem dX11_complete_81 : decode cX11_complete 81 = .ok (.aload_n 0, 1) := by decide +kernel
theorem dX11_complete_82 : decode cX11_complete 82 = .ok (.iconst 2, 1) := by decide +kernel
theorem dX11_complete_83 : decode cX11_complete 83 = .ok (.putfield 101, 3) := by decide +kernel
theorem dX11_complete_86 : decode cX11_complete 86 = .ok (.goto 18, 3) := by decide +kernel
theorem dX11_complete_89 : decode cX11_complete 89 = .ok (.aload_n 0, 1) := by decide +kernel
theorem dX11_complete_90 : decode cX11_complete 90 = .ok (.dup, 1) := by decide +kernel
theorem dX11_complete_91 : decode cX11_complete 91 = .ok (.getfield 89, 3) := by decide +kernel
theorem dX11_complete_94 : decode cX11_complete 94 = .ok (.iconst 1, 1) := by decide +kernel
theorem dX11_complete_95 : decode cX11_complete 95 = .ok (.isub, 1) := by decide +kernel
theorem dX11_complete_96 : decode cX11_complete 96 = .ok (.putfield 89, 3) := by decide +kernel
theorem dX11_complete_99 : decode cX11_complete 99 = .ok (.aload_n 0, 1) := by decide +kernel
theorem dX11_complete_100 : decode cX11_complete 100 = .ok (.iconst 5, 1) := by decide +kernel
theorem dX11_complete_101 : decode cX11_complete 101 = .ok (.putfield 101, 3) := by decide +kernel
theorem dX11_complete_104 : decode cX11_complete 104 = .ok (.return_, 1) := by decide +kernel
theorem dX11_isLetter_0 : decode cX11_isLetter 0 = .ok (.iload_n 0, 1) := by decide +kernel
theorem dX11_isLetter_1 : decode cX11_isLetter 1 = .ok (.bipush 97, 2) := by decide +kernel
theorem dX11_isLetter_3 : decode cX11_isLetter 3 = .ok (.bipush 104, 2) := by decide +kernel
theorem dX11_isLetter_5 : decode cX11_isLetter 5 = .ok (.invokestatic 104, 3) := by decide +kernel
theorem dX11_isLetter_8 : decode cX11_isLetter 8 = .ok (.ireturn, 1) := by decide +kernel
theorem dX11_readGoal_0 : decode cX11_readGoal 0 = .ok (.iload_n 1, 1) := by decide +kernel
theorem dX11_readGoal_1 : decode cX11_readGoal 1 = .ok (.invokestatic 108, 3) := by decide +kernel
theorem dX11_readGoal_4 : decode cX11_readGoal 4 = .ok (.ifCond .eq 16, 3) := by decide +kernel
theorem dX11_readGoal_7 : decode cX11_readGoal 7 = .ok (.aload_n 0, 1) := by decide +kernel
theorem dX11_readGoal_8 : decode cX11_readGoal 8 = .ok (.iconst 0, 1) := by decide +kernel
theorem dX11_readGoal_9 : decode cX11_readGoal 9 = .ok (.iload_n 1, 1) := by decide +kernel
theorem dX11_readGoal_10 : decode cX11_readGoal 10 = .ok (.invokevirtual 112, 3) := by decide +kernel
theorem dX11_readGoal_13 : decode cX11_readGoal 13 = .ok (.pop, 1) := by decide +kernel
theorem dX11_readGoal_14 : decode cX11_readGoal 14 = .ok (.aload_n 0, 1) := by decide +kernel
theorem dX11_readGoal_15 : decode cX11_readGoal 15 = .ok (.invokevirtual 116, 3) := by decide +kernel
theorem dX11_readGoal_18 : decode cX11_readGoal 18 = .ok (.iconst 1, 1) := by decide +kernel
theorem dX11_readGoal_19 : decode cX11_readGoal 19 = .ok (.ireturn, 1) := by decide +kernel
theorem dX11_readGoal_20 : decode cX11_readGoal 20 = .ok (.iload_n 1, 1) := by decide +kernel
theorem dX11_readGoal_21 : decode cX11_readGoal 21 = .ok (.lookupswitch 117 #[(33, 79), (40, 95), (49, 51), (84, 65), (91, 111)], 51) := by decide +kernel
theorem dX11_readGoal_72 : decode cX11_readGoal 72 = .ok (.aload_n 0, 1) := by decide +kernel
theorem dX11_readGoal_73 : decode cX11_readGoal 73 = .ok (.iconst 1, 1) := by decide +kernel
theorem dX11_readGoal_74 : decode cX11_readGoal 74 = .ok (.bipush (-6), 2) := by decide +kernel
theorem dX11_readGoal_76 : decode cX11_readGoal 76 = .ok (.invokevirtual 112, 3) := by decide +kernel
theorem dX11_readGoal_79 : decode cX11_readGoal 79 = .ok (.pop, 1) := by decide +kernel
theorem dX11_readGoal_80 : decode cX11_readGoal 80 = .ok (.aload_n 0, 1) := by decide +kernel
theorem dX11_readGoal_81 : decode cX11_readGoal 81 = .ok (.invokevirtual 116, 3) := by decide +kernel
theorem dX11_readGoal_84 : decode cX11_readGoal 84 = .ok (.iconst 1, 1) := by decide +kernel
theorem dX11_readGoal_85 : decode cX11_readGoal 85 = .ok (.ireturn, 1) := by decide +kernel
theorem dX11_readGoal_86 : decode cX11_readGoal 86 = .ok (.aload_n 0, 1) := by decide +kernel
theorem dX11_readGoal_87 : decode cX11_readGoal 87 = .ok (.iconst 2, 1) := by decide +kernel
theorem dX11_readGoal_88 : decode cX11_readGoal 88 = .ok (.bipush (-6), 2) := by decide +kernel
theorem dX11_readGoal_90 : decode cX11_readGoal 90 = .ok (.invokevirtual 112, 3) := by decide +kernel
theorem dX11_readGoal_93 : decode cX11_readGoal 93 = .ok (.pop, 1) := by decide +kernel
theorem dX11_readGoal_94 : decode cX11_readGoal 94 = .ok (.aload_n 0, 1) := by decide +kernel
theorem dX11_readGoal_95 : decode cX11_readGoal 95 = .ok (.invokevirtual 116, 3) := by decide +kernel
theorem dX11_readGoal_98 : decode cX11_readGoal 98 = .ok (.iconst 1, 1) := by decide +kernel
theorem dX11_readGoal_99 : decode cX11_readGoal 99 = .ok (.ireturn, 1) := by decide +kernel
theorem dX11_readGoal_100 : decode cX11_readGoal 100 = .ok (.aload_n 0, 1) := by decide +kernel
theorem dX11_readGoal_101 : decode cX11_readGoal 101 = .ok (.iconst 3, 1) := by decide +kernel
theorem dX11_readGoal_102 : decode cX11_readGoal 102 = .ok (.aload_n 0, 1) := by decide +kernel
theorem dX11_readGoal_103 : decode cX11_readGoal 103 = .ok (.iconst 3, 1) := by decide +kernel
theorem dX11_readGoal_104 : decode cX11_readGoal 104 = .ok (.bipush (-6), 2) := by decide +kernel
theorem dX11_readGoal_106 : decode cX11_readGoal 106 = .ok (.invokevirtual 112, 3) := by decide +kernel
theorem dX11_readGoal_109 : decode cX11_readGoal 109 = .ok (.bipush (-6), 2) := by decide +kernel
theorem dX11_readGoal_111 : decode cX11_readGoal 111 = .ok (.invokevirtual 119, 3) := by decide +kernel
theorem dX11_readGoal_114 : decode cX11_readGoal 114 = .ok (.iconst 1, 1) := by decide +kernel
theorem dX11_readGoal_115 : decode cX11_readGoal 115 = .ok (.ireturn, 1) := by decide +kernel
theorem dX11_readGoal_116 : decode cX11_readGoal 116 = .ok (.aload_n 0, 1) := by decide +kernel
theorem dX11_readGoal_117 : decode cX11_readGoal 117 = .ok (.iconst 1, 1) := by decide +kernel
theorem dX11_readGoal_118 : decode cX11_readGoal 118 = .ok (.aload_n 0, 1) := by decide +kernel
theorem dX11_readGoal_119 : decode cX11_readGoal 119 = .ok (.iconst 4, 1) := by decide +kernel
theorem dX11_readGoal_120 : decode cX11_readGoal 120 = .ok (.bipush (-6), 2) := by decide +kernel
theorem dX11_readGoal_122 : decode cX11_readGoal 122 = .ok (.invokevirtual 112, 3) := by decide +kernel
theorem dX11_readGoal_125 : decode cX11_readGoal 125 = .ok (.bipush (-6), 2) := by decide +kernel
theorem dX11_readGoal_127 : decode cX11_readGoal 127 = .ok (.invokevirtual 119, 3) := by decide +kernel
theorem dX11_readGoal_130 : decode cX11_readGoal 130 = .ok (.iconst 1, 1) := by decide +kernel
theorem dX11_readGoal_131 : decode cX11_readGoal 131 = .ok (.ireturn, 1) := by decide +kernel
theorem dX11_readGoal_132 : decode cX11_readGoal 132 = .ok (.aload_n 0, 1) := by decide +kernel
theorem dX11_readGoal_133 : decode cX11_readGoal 133 = .ok (.invokevirtual 123, 3) := by decide +kernel
theorem dX11_readGoal_136 : decode cX11_readGoal 136 = .ok (.iconst 1, 1) := by decide +kernel
theorem dX11_readGoal_137 : decode cX11_readGoal 137 = .ok (.ireturn, 1) := by decide +kernel
theorem dX11_readGoal_138 : decode cX11_readGoal 138 = .ok (.iconst 0, 1) := by decide +kernel
theorem dX11_readGoal_139 : decode cX11_readGoal 139 = .ok (.ireturn, 1) := by decide +kernel
theorem dX11_beginLoan_0 : decode cX11_beginLoan 0 = .ok (.aload_n 0, 1) := by decide +kernel
theorem dX11_beginLoan_1 : decode cX11_beginLoan 1 = .ok (.bipush 7, 2) := by decide +kernel
theorem dX11_beginLoan_3 : decode cX11_beginLoan 3 = .ok (.bipush (-6), 2) := by decide +kernel
theorem dX11_beginLoan_5 : decode cX11_beginLoan 5 = .ok (.invokevirtual 112, 3) := by decide +kernel
theorem dX11_beginLoan_8 : decode cX11_beginLoan 8 = .ok (.istore_n 1, 1) := by decide +kernel
theorem dX11_beginLoan_9 : decode cX11_beginLoan 9 = .ok (.iconst 5, 1) := by decide +kernel
theorem dX11_beginLoan_10 : decode cX11_beginLoan 10 = .ok (.aload_n 0, 1) := by decide +kernel
theorem dX11_beginLoan_11 : decode cX11_beginLoan 11 = .ok (.getfield 126, 3) := by decide +kernel
theorem dX11_beginLoan_14 : decode cX11_beginLoan 14 = .ok (.iadd, 1) := by decide +kernel
theorem dX11_beginLoan_15 : decode cX11_beginLoan 15 = .ok (.istore_n 2, 1) := by decide +kernel
theorem dX11_beginLoan_16 : decode cX11_beginLoan 16 = .ok (.aload_n 0, 1) := by decide +kernel
theorem dX11_beginLoan_17 : decode cX11_beginLoan 17 = .ok (.dup, 1) := by decide +kernel
theorem dX11_beginLoan_18 : decode cX11_beginLoan 18 = .ok (.getfield 126, 3) := by decide +kernel
theorem dX11_beginLoan_21 : decode cX11_beginLoan 21 = .ok (.iconst 1, 1) := by decide +kernel
theorem dX11_beginLoan_22 : decode cX11_beginLoan 22 = .ok (.iadd, 1) := by decide +kernel
theorem dX11_beginLoan_23 : decode cX11_beginLoan 23 = .ok (.putfield 126, 3) := by decide +kernel
theorem dX11_beginLoan_26 : decode cX11_beginLoan 26 = .ok (.aload_n 0, 1) := by decide +kernel
theorem dX11_beginLoan_27 : decode cX11_beginLoan 27 = .ok (.getfield 95, 3) := by decide +kernel
theorem dX11_beginLoan_30 : decode cX11_beginLoan 30 = .ok (.ifCond .eq 17, 3) := by decide +kernel
theorem dX11_beginLoan_33 : decode cX11_beginLoan 33 = .ok (.aload_n 0, 1) := by decide +kernel
theorem dX11_beginLoan_34 : decode cX11_beginLoan 34 = .ok (.getfield 29, 3) := by decide +kernel
theorem dX11_beginLoan_37 : decode cX11_beginLoan 37 = .ok (.iload_n 1, 1) := by decide +kernel
theorem dX11_beginLoan_38 : decode cX11_beginLoan 38 = .ok (.iload_n 2, 1) := by decide +kernel
theorem dX11_beginLoan_39 : decode cX11_beginLoan 39 = .ok (.iastore, 1) := by decide +kernel
theorem dX11_beginLoan_40 : decode cX11_beginLoan 40 = .ok (.aload_n 0, 1) := by decide +kernel
theorem dX11_beginLoan_41 : decode cX11_beginLoan 41 = .ok (.getfield 32, 3) := by decide +kernel
theorem dX11_beginLoan_44 : decode cX11_beginLoan 44 = .ok (.iload_n 2, 1) := by decide +kernel
theorem dX11_beginLoan_45 : decode cX11_beginLoan 45 = .ok (.iconst 0, 1) := by decide +kernel
theorem dX11_beginLoan_46 : decode cX11_beginLoan 46 = .ok (.iastore, 1) := by decide +kernel
theorem dX11_beginLoan_47 : decode cX11_beginLoan 47 = .ok (.aload_n 0, 1) := by decide +kernel
theorem dX11_beginLoan_48 : decode cX11_beginLoan 48 = .ok (.bipush 6, 2) := by decide +kernel
theorem dX11_beginLoan_50 : decode cX11_beginLoan 50 = .ok (.iload_n 1, 1) := by decide +kernel
theorem dX11_beginLoan_51 : decode cX11_beginLoan 51 = .ok (.iload_n 2, 1) := by decide +kernel
theorem dX11_beginLoan_52 : decode cX11_beginLoan 52 = .ok (.invokevirtual 119, 3) := by decide +kernel
theorem dX11_beginLoan_55 : decode cX11_beginLoan 55 = .ok (.aload_n 0, 1) := by decide +kernel
theorem dX11_beginLoan_56 : decode cX11_beginLoan 56 = .ok (.iconst 3, 1) := by decide +kernel
theorem dX11_beginLoan_57 : decode cX11_beginLoan 57 = .ok (.putfield 101, 3) := by decide +kernel
theorem dX11_beginLoan_60 : decode cX11_beginLoan 60 = .ok (.return_, 1) := by decide +kernel
theorem dX11_readSign_0 : decode cX11_readSign 0 = .ok (.iload_n 1, 1) := by decide +kernel
theorem dX11_readSign_1 : decode cX11_readSign 1 = .ok (.bipush 42, 2) := by decide +kernel
theorem dX11_readSign_3 : decode cX11_readSign 3 = .ok (.if_icmp .ne 7, 3) := by decide +kernel
theorem dX11_readSign_6 : decode cX11_readSign 6 = .ok (.iconst 4, 1) := by decide +kernel
theorem dX11_readSign_7 : decode cX11_readSign 7 = .ok (.goto 26, 3) := by decide +kernel
theorem dX11_readSign_10 : decode cX11_readSign 10 = .ok (.iload_n 1, 1) := by decide +kernel
theorem dX11_readSign_11 : decode cX11_readSign 11 = .ok (.bipush 38, 2) := by decide +kernel
theorem dX11_readSign_13 : decode cX11_readSign 13 = .ok (.if_icmp .ne 7, 3) := by decide +kernel
theorem dX11_readSign_16 : decode cX11_readSign 16 = .ok (.iconst 5, 1) := by decide +kernel
theorem dX11_readSign_17 : decode cX11_readSign 17 = .ok (.goto 16, 3) := by decide +kernel
theorem dX11_readSign_20 : decode cX11_readSign 20 = .ok (.iload_n 1, 1) := by decide +kernel
theorem dX11_readSign_21 : decode cX11_readSign 21 = .ok (.bipush 43, 2) := by decide +kernel
theorem dX11_readSign_23 : decode cX11_readSign 23 = .ok (.if_icmp .ne 8, 3) := by decide +kernel
theorem dX11_readSign_26 : decode cX11_readSign 26 = .ok (.bipush 6, 2) := by decide +kernel
theorem dX11_readSign_28 : decode cX11_readSign 28 = .ok (.goto 5, 3) := by decide +kernel
theorem dX11_readSign_31 : decode cX11_readSign 31 = .ok (.bipush (-6), 2) := by decide +kernel
theorem dX11_readSign_33 : decode cX11_readSign 33 = .ok (.istore_n 2, 1) := by decide +kernel
theorem dX11_readSign_34 : decode cX11_readSign 34 = .ok (.iload_n 2, 1) := by decide +kernel
theorem dX11_readSign_35 : decode cX11_readSign 35 = .ok (.ifCond .ge 5, 3) := by decide +kernel
theorem dX11_readSign_38 : decode cX11_readSign 38 = .ok (.iconst 0, 1) := by decide +kernel
theorem dX11_readSign_39 : decode cX11_readSign 39 = .ok (.ireturn, 1) := by decide +kernel
theorem dX11_readSign_40 : decode cX11_readSign 40 = .ok (.aload_n 0, 1) := by decide +kernel
theorem dX11_readSign_41 : decode cX11_readSign 41 = .ok (.getfield 95, 3) := by decide +kernel
theorem dX11_readSign_44 : decode cX11_readSign 44 = .ok (.ifCond .eq 20, 3) := by decide +kernel
theorem dX11_readSign_47 : decode cX11_readSign 47 = .ok (.aload_n 0, 1) := by decide +kernel
theorem dX11_readSign_48 : decode cX11_readSign 48 = .ok (.getfield 23, 3) := by decide +kernel
theorem dX11_readSign_51 : decode cX11_readSign 51 = .ok (.aload_n 0, 1) := by decide +kernel
theorem dX11_readSign_52 : decode cX11_readSign 52 = .ok (.getfield 44, 3) := by decide +kernel
theorem dX11_readSign_55 : decode cX11_readSign 55 = .ok (.aload_n 0, 1) := by decide +kernel
theorem dX11_readSign_56 : decode cX11_readSign 56 = .ok (.getfield 89, 3) := by decide +kernel
theorem dX11_readSign_59 : decode cX11_readSign 59 = .ok (.iconst 1, 1) := by decide +kernel
theorem dX11_readSign_60 : decode cX11_readSign 60 = .ok (.isub, 1) := by decide +kernel
theorem dX11_readSign_61 : decode cX11_readSign 61 = .ok (.iaload, 1) := by decide +kernel
theorem dX11_readSign_62 : decode cX11_readSign 62 = .ok (.iload_n 2, 1) := by decide +kernel
theorem dX11_readSign_63 : decode cX11_readSign 63 = .ok (.iastore, 1) := by decide +kernel
theorem dX11_readSign_64 : decode cX11_readSign 64 = .ok (.aload_n 0, 1) := by decide +kernel
theorem dX11_readSign_65 : decode cX11_readSign 65 = .ok (.getfield 41, 3) := by decide +kernel
theorem dX11_readSign_68 : decode cX11_readSign 68 = .ok (.aload_n 0, 1) := by decide +kernel
theorem dX11_readSign_69 : decode cX11_readSign 69 = .ok (.getfield 89, 3) := by decide +kernel
theorem dX11_readSign_72 : decode cX11_readSign 72 = .ok (.iconst 1, 1) := by decide +kernel
theorem dX11_readSign_73 : decode cX11_readSign 73 = .ok (.isub, 1) := by decide +kernel
theorem dX11_readSign_74 : decode cX11_readSign 74 = .ok (.iconst 2, 1) := by decide +kernel
theorem dX11_readSign_75 : decode cX11_readSign 75 = .ok (.iastore, 1) := by decide +kernel
theorem dX11_readSign_76 : decode cX11_readSign 76 = .ok (.aload_n 0, 1) := by decide +kernel
theorem dX11_readSign_77 : decode cX11_readSign 77 = .ok (.iconst 0, 1) := by decide +kernel
theorem dX11_readSign_78 : decode cX11_readSign 78 = .ok (.putfield 101, 3) := by decide +kernel
theorem dX11_readSign_81 : decode cX11_readSign 81 = .ok (.iconst 1, 1) := by decide +kernel
theorem dX11_readSign_82 : decode cX11_readSign 82 = .ok (.ireturn, 1) := by decide +kernel
theorem dX11_readHead_0 : decode cX11_readHead 0 = .ok (.iload_n 1, 1) := by decide +kernel
theorem dX11_readHead_1 : decode cX11_readHead 1 = .ok (.invokestatic 108, 3) := by decide +kernel
theorem dX11_readHead_4 : decode cX11_readHead 4 = .ok (.ifCond .ne 5, 3) := by decide +kernel
theorem dX11_readHead_7 : decode cX11_readHead 7 = .ok (.iconst 0, 1) := by decide +kernel
theorem dX11_readHead_8 : decode cX11_readHead 8 = .ok (.ireturn, 1) := by decide +kernel
theorem dX11_readHead_9 : decode cX11_readHead 9 = .ok (.aload_n 0, 1) := by decide +kernel
theorem dX11_readHead_10 : decode cX11_readHead 10 = .ok (.getfield 89, 3) := by decide +kernel
theorem dX11_readHead_13 : decode cX11_readHead 13 = .ok (.iconst 1, 1) := by decide +kernel
theorem dX11_readHead_14 : decode cX11_readHead 14 = .ok (.isub, 1) := by decide +kernel
theorem dX11_readHead_15 : decode cX11_readHead 15 = .ok (.istore_n 2, 1) := by decide +kernel
theorem dX11_readHead_16 : decode cX11_readHead 16 = .ok (.aload_n 0, 1) := by decide +kernel
theorem dX11_readHead_17 : decode cX11_readHead 17 = .ok (.getfield 95, 3) := by decide +kernel
theorem dX11_readHead_20 : decode cX11_readHead 20 = .ok (.ifCond .eq 53, 3) := by decide +kernel
theorem dX11_readHead_23 : decode cX11_readHead 23 = .ok (.iconst 3, 1) := by decide +kernel
theorem dX11_readHead_24 : decode cX11_readHead 24 = .ok (.aload_n 0, 1) := by decide +kernel
theorem dX11_readHead_25 : decode cX11_readHead 25 = .ok (.getfield 47, 3) := by decide +kernel
theorem dX11_readHead_28 : decode cX11_readHead 28 = .ok (.iload_n 2, 1) := by decide +kernel
theorem dX11_readHead_29 : decode cX11_readHead 29 = .ok (.iaload, 1) := by decide +kernel
theorem dX11_readHead_30 : decode cX11_readHead 30 = .ok (.imul, 1) := by decide +kernel
theorem dX11_readHead_31 : decode cX11_readHead 31 = .ok (.aload_n 0, 1) := by decide +kernel
theorem dX11_readHead_32 : decode cX11_readHead 32 = .ok (.getfield 50, 3) := by decide +kernel
theorem dX11_readHead_35 : decode cX11_readHead 35 = .ok (.iload_n 2, 1) := by decide +kernel
theorem dX11_readHead_36 : decode cX11_readHead 36 = .ok (.iaload, 1) := by decide +kernel
theorem dX11_readHead_37 : decode cX11_readHead 37 = .ok (.iadd, 1) := by decide +kernel
theorem dX11_readHead_38 : decode cX11_readHead 38 = .ok (.istore_n 3, 1) := by decide +kernel
theorem dX11_readHead_39 : decode cX11_readHead 39 = .ok (.aload_n 0, 1) := by decide +kernel
theorem dX11_readHead_40 : decode cX11_readHead 40 = .ok (.getfield 35, 3) := by decide +kernel
theorem dX11_readHead_43 : decode cX11_readHead 43 = .ok (.iload_n 3, 1) := by decide +kernel
theorem dX11_readHead_44 : decode cX11_readHead 44 = .ok (.iload_n 1, 1) := by decide +kernel
theorem dX11_readHead_45 : decode cX11_readHead 45 = .ok (.iastore, 1) := by decide +kernel
theorem dX11_readHead_46 : decode cX11_readHead 46 = .ok (.aload_n 0, 1) := by decide +kernel
theorem dX11_readHead_47 : decode cX11_readHead 47 = .ok (.getfield 38, 3) := by decide +kernel
theorem dX11_readHead_50 : decode cX11_readHead 50 = .ok (.iload_n 3, 1) := by decide +kernel
theorem dX11_readHead_51 : decode cX11_readHead 51 = .ok (.bipush (-6), 2) := by decide +kernel
theorem dX11_readHead_53 : decode cX11_readHead 53 = .ok (.iastore, 1) := by decide +kernel
theorem dX11_readHead_54 : decode cX11_readHead 54 = .ok (.aload_n 0, 1) := by decide +kernel
theorem dX11_readHead_55 : decode cX11_readHead 55 = .ok (.getfield 32, 3) := by decide +kernel
theorem dX11_readHead_58 : decode cX11_readHead 58 = .ok (.aload_n 0, 1) := by decide +kernel
theorem dX11_readHead_59 : decode cX11_readHead 59 = .ok (.getfield 47, 3) := by decide +kernel
theorem dX11_readHead_62 : decode cX11_readHead 62 = .ok (.iload_n 2, 1) := by decide +kernel
theorem dX11_readHead_63 : decode cX11_readHead 63 = .ok (.iaload, 1) := by decide +kernel
theorem dX11_readHead_64 : decode cX11_readHead 64 = .ok (.aload_n 0, 1) := by decide +kernel
theorem dX11_readHead_65 : decode cX11_readHead 65 = .ok (.getfield 50, 3) := by decide +kernel
theorem dX11_readHead_68 : decode cX11_readHead 68 = .ok (.iload_n 2, 1) := by decide +kernel
theorem dX11_readHead_69 : decode cX11_readHead 69 = .ok (.iaload, 1) := by decide +kernel
theorem dX11_readHead_70 : decode cX11_readHead 70 = .ok (.iconst 1, 1) := by decide +kernel
theorem dX11_readHead_71 : decode cX11_readHead 71 = .ok (.iadd, 1) := by decide +kernel
theorem dX11_readHead_72 : decode cX11_readHead 72 = .ok (.iastore, 1) := by decide +kernel
theorem dX11_readHead_73 : decode cX11_readHead 73 = .ok (.aload_n 0, 1) := by decide +kernel
theorem dX11_readHead_74 : decode cX11_readHead 74 = .ok (.getfield 50, 3) := by decide +kernel
theorem dX11_readHead_77 : decode cX11_readHead 77 = .ok (.iload_n 2, 1) := by decide +kernel
theorem dX11_readHead_78 : decode cX11_readHead 78 = .ok (.dup2, 1) := by decide +kernel
theorem dX11_readHead_79 : decode cX11_readHead 79 = .ok (.iaload, 1) := by decide +kernel
theorem dX11_readHead_80 : decode cX11_readHead 80 = .ok (.iconst 1, 1) := by decide +kernel
theorem dX11_readHead_81 : decode cX11_readHead 81 = .ok (.iadd, 1) := by decide +kernel
theorem dX11_readHead_82 : decode cX11_readHead 82 = .ok (.iastore, 1) := by decide +kernel
theorem dX11_readHead_83 : decode cX11_readHead 83 = .ok (.aload_n 0, 1) := by decide +kernel
theorem dX11_readHead_84 : decode cX11_readHead 84 = .ok (.iconst 4, 1) := by decide +kernel
theorem dX11_readHead_85 : decode cX11_readHead 85 = .ok (.putfield 101, 3) := by decide +kernel
theorem dX11_readHead_88 : decode cX11_readHead 88 = .ok (.iconst 1, 1) := by decide +kernel
theorem dX11_readHead_89 : decode cX11_readHead 89 = .ok (.ireturn, 1) := by decide +kernel
theorem dX11_readBehind_0 : decode cX11_readBehind 0 = .ok (.aload_n 0, 1) := by decide +kernel
theorem dX11_readBehind_1 : decode cX11_readBehind 1 = .ok (.getfield 89, 3) := by decide +kernel
theorem dX11_readBehind_4 : decode cX11_readBehind 4 = .ok (.iconst 1, 1) := by decide +kernel
theorem dX11_readBehind_5 : decode cX11_readBehind 5 = .ok (.isub, 1) := by decide +kernel
theorem dX11_readBehind_6 : decode cX11_readBehind 6 = .ok (.istore_n 2, 1) := by decide +kernel
theorem dX11_readBehind_7 : decode cX11_readBehind 7 = .ok (.iload_n 1, 1) := by decide +kernel
theorem dX11_readBehind_8 : decode cX11_readBehind 8 = .ok (.bipush 60, 2) := by decide +kernel
theorem dX11_readBehind_10 : decode cX11_readBehind 10 = .ok (.if_icmp .ne 31, 3) := by decide +kernel
theorem dX11_readBehind_13 : decode cX11_readBehind 13 = .ok (.aload_n 0, 1) := by decide +kernel
theorem dX11_readBehind_14 : decode cX11_readBehind 14 = .ok (.getfield 101, 3) := by decide +kernel
theorem dX11_readBehind_17 : decode cX11_readBehind 17 = .ok (.iconst 4, 1) := by decide +kernel
theorem dX11_readBehind_18 : decode cX11_readBehind 18 = .ok (.if_icmp .ne 23, 3) := by decide +kernel
theorem dX11_readBehind_21 : decode cX11_readBehind 21 = .ok (.aload_n 0, 1) := by decide +kernel
theorem dX11_readBehind_22 : decode cX11_readBehind 22 = .ok (.iconst 4, 1) := by decide +kernel
theorem dX11_readBehind_23 : decode cX11_readBehind 23 = .ok (.bipush (-6), 2) := by decide +kernel
theorem dX11_readBehind_25 : decode cX11_readBehind 25 = .ok (.aload_n 0, 1) := by decide +kernel
theorem dX11_readBehind_26 : decode cX11_readBehind 26 = .ok (.getfield 47, 3) := by decide +kernel
theorem dX11_readBehind_29 : decode cX11_readBehind 29 = .ok (.iload_n 2, 1) := by decide +kernel
theorem dX11_readBehind_30 : decode cX11_readBehind 30 = .ok (.iaload, 1) := by decide +kernel
theorem dX11_readBehind_31 : decode cX11_readBehind 31 = .ok (.invokevirtual 119, 3) := by decide +kernel
theorem dX11_readBehind_34 : decode cX11_readBehind 34 = .ok (.aload_n 0, 1) := by decide +kernel
theorem dX11_readBehind_35 : decode cX11_readBehind 35 = .ok (.iconst 0, 1) := by decide +kernel
theorem dX11_readBehind_36 : decode cX11_readBehind 36 = .ok (.putfield 101, 3) := by decide +kernel
theorem dX11_readBehind_39 : decode cX11_readBehind 39 = .ok (.iconst 1, 1) := by decide +kernel
theorem dX11_readBehind_40 : decode cX11_readBehind 40 = .ok (.ireturn, 1) := by decide +kernel
theorem dX11_readBehind_41 : decode cX11_readBehind 41 = .ok (.iload_n 1, 1) := by decide +kernel
theorem dX11_readBehind_42 : decode cX11_readBehind 42 = .ok (.bipush 124, 2) := by decide +kernel
theorem dX11_readBehind_44 : decode cX11_readBehind 44 = .ok (.if_icmp .ne 20, 3) := by decide +kernel
theorem dX11_readBehind_47 : decode cX11_readBehind 47 = .ok (.aload_n 0, 1) := by decide +kernel
theorem dX11_readBehind_48 : decode cX11_readBehind 48 = .ok (.getfield 50, 3) := by decide +kernel
theorem dX11_readBehind_51 : decode cX11_readBehind 51 = .ok (.iload_n 2, 1) := by decide +kernel
theorem dX11_readBehind_52 : decode cX11_readBehind 52 = .ok (.iaload, 1) := by decide +kernel
theorem dX11_readBehind_53 : decode cX11_readBehind 53 = .ok (.iconst 3, 1) := by decide +kernel
theorem dX11_readBehind_54 : decode cX11_readBehind 54 = .ok (.if_icmp .ge 10, 3) := by decide +kernel
theorem dX11_readBehind_57 : decode cX11_readBehind 57 = .ok (.aload_n 0, 1) := by decide +kernel
theorem dX11_readBehind_58 : decode cX11_readBehind 58 = .ok (.iconst 3, 1) := by decide +kernel
theorem dX11_readBehind_59 : decode cX11_readBehind 59 = .ok (.putfield 101, 3) := by decide +kernel
theorem dX11_readBehind_62 : decode cX11_readBehind 62 = .ok (.iconst 1, 1) := by decide +kernel
theorem dX11_readBehind_63 : decode cX11_readBehind 63 = .ok (.ireturn, 1) := by decide +kernel
theorem dX11_readBehind_64 : decode cX11_readBehind 64 = .ok (.iload_n 1, 1) := by decide +kernel
theorem dX11_readBehind_65 : decode cX11_readBehind 65 = .ok (.bipush 93, 2) := by decide +kernel
theorem dX11_readBehind_67 : decode cX11_readBehind 67 = .ok (.if_icmp .ne 28, 3) := by decide +kernel
theorem dX11_readBehind_70 : decode cX11_readBehind 70 = .ok (.aload_n 0, 1) := by decide +kernel
theorem dX11_readBehind_71 : decode cX11_readBehind 71 = .ok (.getfield 41, 3) := by decide +kernel
theorem dX11_readBehind_74 : decode cX11_readBehind 74 = .ok (.iload_n 2, 1) := by decide +kernel
theorem dX11_readBehind_75 : decode cX11_readBehind 75 = .ok (.iaload, 1) := by decide +kernel
theorem dX11_readBehind_76 : decode cX11_readBehind 76 = .ok (.bipush 6, 2) := by decide +kernel
theorem dX11_readBehind_78 : decode cX11_readBehind 78 = .ok (.if_icmp .ne 17, 3) := by decide +kernel
theorem dX11_readBehind_81 : decode cX11_readBehind 81 = .ok (.aload_n 0, 1) := by decide +kernel
theorem dX11_readBehind_82 : decode cX11_readBehind 82 = .ok (.getfield 41, 3) := by decide +kernel
theorem dX11_readBehind_85 : decode cX11_readBehind 85 = .ok (.iload_n 2, 1) := by decide +kernel
theorem dX11_readBehind_86 : decode cX11_readBehind 86 = .ok (.iconst 3, 1) := by decide +kernel
theorem dX11_readBehind_87 : decode cX11_readBehind 87 = .ok (.iastore, 1) := by decide +kernel
theorem dX11_readBehind_88 : decode cX11_readBehind 88 = .ok (.aload_n 0, 1) := by decide +kernel
theorem dX11_readBehind_89 : decode cX11_readBehind 89 = .ok (.iconst 0, 1) := by decide +kernel
theorem dX11_readBehind_90 : decode cX11_readBehind 90 = .ok (.putfield 101, 3) := by decide +kernel
theorem dX11_readBehind_93 : decode cX11_readBehind 93 = .ok (.iconst 1, 1) := by decide +kernel
theorem dX11_readBehind_94 : decode cX11_readBehind 94 = .ok (.ireturn, 1) := by decide +kernel
theorem dX11_readBehind_95 : decode cX11_readBehind 95 = .ok (.iconst 0, 1) := by decide +kernel
theorem dX11_readBehind_96 : decode cX11_readBehind 96 = .ok (.ireturn, 1) := by decide +kernel
theorem dX11_reads_0 : decode cX11_reads 0 = .ok (.aload_n 0, 1) := by decide +kernel
theorem dX11_reads_1 : decode cX11_reads 1 = .ok (.getfield 101, 3) := by decide +kernel
theorem dX11_reads_4 : decode cX11_reads 4 = .ok (.tableswitch 88 0 5 #[40, 46, 52, 76, 82, 82], 40) := by decide +kernel
theorem dX11_reads_44 : decode cX11_reads 44 = .ok (.aload_n 0, 1) := by decide +kernel
theorem dX11_reads_45 : decode cX11_reads 45 = .ok (.iload_n 1, 1) := by decide +kernel
theorem dX11_reads_46 : decode cX11_reads 46 = .ok (.invokevirtual 129, 3) := by decide +kernel
theorem dX11_reads_49 : decode cX11_reads 49 = .ok (.ireturn, 1) := by decide +kernel
theorem dX11_reads_50 : decode cX11_reads 50 = .ok (.aload_n 0, 1) := by decide +kernel
theorem dX11_reads_51 : decode cX11_reads 51 = .ok (.iload_n 1, 1) := by decide +kernel
theorem dX11_reads_52 : decode cX11_reads 52 = .ok (.invokevirtual 132, 3) := by decide +kernel
theorem dX11_reads_55 : decode cX11_reads 55 = .ok (.ireturn, 1) := by decide +kernel
theorem dX11_reads_56 : decode cX11_reads 56 = .ok (.iload_n 1, 1) := by decide +kernel
theorem dX11_reads_57 : decode cX11_reads 57 = .ok (.bipush 41, 2) := by decide +kernel
theorem dX11_reads_59 : decode cX11_reads 59 = .ok (.if_icmp .eq 5, 3) := by decide +kernel
theorem dX11_reads_62 : decode cX11_reads 62 = .ok (.iconst 0, 1) := by decide +kernel
theorem dX11_reads_63 : decode cX11_reads 63 = .ok (.ireturn, 1) := by decide +kernel
theorem dX11_reads_64 : decode cX11_reads 64 = .ok (.aload_n 0, 1) := by decide +kernel
theorem dX11_reads_65 : decode cX11_reads 65 = .ok (.dup, 1) := by decide +kernel
theorem dX11_reads_66 : decode cX11_reads 66 = .ok (.getfield 89, 3) := by decide +kernel
theorem dX11_reads_69 : decode cX11_reads 69 = .ok (.iconst 1, 1) := by decide +kernel
theorem dX11_reads_70 : decode cX11_reads 70 = .ok (.isub, 1) := by decide +kernel
theorem dX11_reads_71 : decode cX11_reads 71 = .ok (.putfield 89, 3) := by decide +kernel
theorem dX11_reads_74 : decode cX11_reads 74 = .ok (.aload_n 0, 1) := by decide +kernel
theorem dX11_reads_75 : decode cX11_reads 75 = .ok (.invokevirtual 116, 3) := by decide +kernel
theorem dX11_reads_78 : decode cX11_reads 78 = .ok (.iconst 1, 1) := by decide +kernel
theorem dX11_reads_79 : decode cX11_reads 79 = .ok (.ireturn, 1) := by decide +kernel
theorem dX11_reads_80 : decode cX11_reads 80 = .ok (.aload_n 0, 1) := by decide +kernel
theorem dX11_reads_81 : decode cX11_reads 81 = .ok (.iload_n 1, 1) := by decide +kernel
theorem dX11_reads_82 : decode cX11_reads 82 = .ok (.invokevirtual 135, 3) := by decide +kernel
theorem dX11_reads_85 : decode cX11_reads 85 = .ok (.ireturn, 1) := by decide +kernel
theorem dX11_reads_86 : decode cX11_reads 86 = .ok (.aload_n 0, 1) := by decide +kernel
theorem dX11_reads_87 : decode cX11_reads 87 = .ok (.iload_n 1, 1) := by decide +kernel
theorem dX11_reads_88 : decode cX11_reads 88 = .ok (.invokevirtual 138, 3) := by decide +kernel
theorem dX11_reads_91 : decode cX11_reads 91 = .ok (.ireturn, 1) := by decide +kernel
theorem dX11_reads_92 : decode cX11_reads 92 = .ok (.iconst 0, 1) := by decide +kernel
theorem dX11_reads_93 : decode cX11_reads 93 = .ok (.ireturn, 1) := by decide +kernel
theorem dX11_read_0 : decode cX11_read 0 = .ok (.aload_n 0, 1) := by decide +kernel
theorem dX11_read_1 : decode cX11_read 1 = .ok (.iconst 0, 1) := by decide +kernel
theorem dX11_read_2 : decode cX11_read 2 = .ok (.putfield 89, 3) := by decide +kernel
theorem dX11_read_5 : decode cX11_read 5 = .ok (.aload_n 0, 1) := by decide +kernel
theorem dX11_read_6 : decode cX11_read 6 = .ok (.iload_n 2, 1) := by decide +kernel
theorem dX11_read_7 : decode cX11_read 7 = .ok (.ifCond .ge 7, 3) := by decide +kernel
theorem dX11_read_10 : decode cX11_read 10 = .ok (.iconst 0, 1) := by decide +kernel
theorem dX11_read_11 : decode cX11_read 11 = .ok (.goto 4, 3) := by decide +kernel
theorem dX11_read_14 : decode cX11_read 14 = .ok (.iconst 5, 1) := by decide +kernel
theorem dX11_read_15 : decode cX11_read 15 = .ok (.bipush (-6), 2) := by decide +kernel
theorem dX11_read_17 : decode cX11_read 17 = .ok (.iload_n 2, 1) := by decide +kernel
theorem dX11_read_18 : decode cX11_read 18 = .ok (.invokevirtual 119, 3) := by decide +kernel
theorem dX11_read_21 : decode cX11_read 21 = .ok (.aload_n 0, 1) := by decide +kernel
theorem dX11_read_22 : decode cX11_read 22 = .ok (.iload_n 2, 1) := by decide +kernel
theorem dX11_read_23 : decode cX11_read 23 = .ok (.ifCond .ge 7, 3) := by decide +kernel
theorem dX11_read_26 : decode cX11_read 26 = .ok (.iconst 0, 1) := by decide +kernel
theorem dX11_read_27 : decode cX11_read 27 = .ok (.goto 4, 3) := by decide +kernel
theorem dX11_read_30 : decode cX11_read 30 = .ok (.iconst 3, 1) := by decide +kernel
theorem dX11_read_31 : decode cX11_read 31 = .ok (.putfield 101, 3) := by decide +kernel
theorem dX11_read_34 : decode cX11_read 34 = .ok (.iconst 0, 1) := by decide +kernel
theorem dX11_read_35 : decode cX11_read 35 = .ok (.istore_n 3, 1) := by decide +kernel
theorem dX11_read_36 : decode cX11_read 36 = .ok (.iload_n 3, 1) := by decide +kernel
theorem dX11_read_37 : decode cX11_read 37 = .ok (.aload_n 0, 1) := by decide +kernel
theorem dX11_read_38 : decode cX11_read 38 = .ok (.getfield 13, 3) := by decide +kernel
theorem dX11_read_41 : decode cX11_read 41 = .ok (.iload_n 1, 1) := by decide +kernel
theorem dX11_read_42 : decode cX11_read 42 = .ok (.iaload, 1) := by decide +kernel
theorem dX11_read_43 : decode cX11_read 43 = .ok (.if_icmp .ge 29, 3) := by decide +kernel
theorem dX11_read_46 : decode cX11_read 46 = .ok (.aload_n 0, 1) := by decide +kernel
theorem dX11_read_47 : decode cX11_read 47 = .ok (.aload_n 0, 1) := by decide +kernel
theorem dX11_read_48 : decode cX11_read 48 = .ok (.getfield 7, 3) := by decide +kernel
theorem dX11_read_51 : decode cX11_read 51 = .ok (.bipush 60, 2) := by decide +kernel
theorem dX11_read_53 : decode cX11_read 53 = .ok (.iload_n 1, 1) := by decide +kernel
theorem dX11_read_54 : decode cX11_read 54 = .ok (.imul, 1) := by decide +kernel
theorem dX11_read_55 : decode cX11_read 55 = .ok (.iload_n 3, 1) := by decide +kernel
theorem dX11_read_56 : decode cX11_read 56 = .ok (.iadd, 1) := by decide +kernel
theorem dX11_read_57 : decode cX11_read 57 = .ok (.iaload, 1) := by decide +kernel
theorem dX11_read_58 : decode cX11_read 58 = .ok (.invokevirtual 141, 3) := by decide +kernel
theorem dX11_read_61 : decode cX11_read 61 = .ok (.ifCond .ne 5, 3) := by decide +kernel
theorem dX11_read_64 : decode cX11_read 64 = .ok (.iload_n 3, 1) := by decide +kernel
theorem dX11_read_65 : decode cX11_read 65 = .ok (.ireturn, 1) := by decide +kernel
theorem dX11_read_66 : decode cX11_read 66 = .ok (.iinc 3 1, 3) := by decide +kernel
theorem dX11_read_69 : decode cX11_read 69 = .ok (.goto (-33), 3) := by decide +kernel
theorem dX11_read_72 : decode cX11_read 72 = .ok (.aload_n 0, 1) := by decide +kernel
theorem dX11_read_73 : decode cX11_read 73 = .ok (.getfield 101, 3) := by decide +kernel
theorem dX11_read_76 : decode cX11_read 76 = .ok (.bipush 6, 2) := by decide +kernel
theorem dX11_read_78 : decode cX11_read 78 = .ok (.if_icmp .eq 34, 3) := by decide +kernel
theorem dX11_read_81 : decode cX11_read 81 = .ok (.aload_n 0, 1) := by decide +kernel
theorem dX11_read_82 : decode cX11_read 82 = .ok (.getfield 101, 3) := by decide +kernel
theorem dX11_read_85 : decode cX11_read 85 = .ok (.iconst 4, 1) := by decide +kernel
theorem dX11_read_86 : decode cX11_read 86 = .ok (.if_icmp .eq 11, 3) := by decide +kernel
theorem dX11_read_89 : decode cX11_read 89 = .ok (.aload_n 0, 1) := by decide +kernel
theorem dX11_read_90 : decode cX11_read 90 = .ok (.getfield 101, 3) := by decide +kernel
theorem dX11_read_93 : decode cX11_read 93 = .ok (.iconst 5, 1) := by decide +kernel
theorem dX11_read_94 : decode cX11_read 94 = .ok (.if_icmp .ne 22, 3) := by decide +kernel
theorem dX11_read_97 : decode cX11_read 97 = .ok (.aload_n 0, 1) := by decide +kernel
theorem dX11_read_98 : decode cX11_read 98 = .ok (.getfield 41, 3) := by decide +kernel
theorem dX11_read_101 : decode cX11_read 101 = .ok (.aload_n 0, 1) := by decide +kernel
theorem dX11_read_102 : decode cX11_read 102 = .ok (.getfield 89, 3) := by decide +kernel
theorem dX11_read_105 : decode cX11_read 105 = .ok (.iconst 1, 1) := by decide +kernel
theorem dX11_read_106 : decode cX11_read 106 = .ok (.isub, 1) := by decide +kernel
theorem dX11_read_107 : decode cX11_read 107 = .ok (.iaload, 1) := by decide +kernel
theorem dX11_read_108 : decode cX11_read 108 = .ok (.iconst 5, 1) := by decide +kernel
theorem dX11_read_109 : decode cX11_read 109 = .ok (.if_icmp .ne 7, 3) := by decide +kernel
theorem dX11_read_112 : decode cX11_read 112 = .ok (.iconst 1, 1) := by decide +kernel
theorem dX11_read_113 : decode cX11_read 113 = .ok (.goto 4, 3) := by decide +kernel
theorem dX11_read_116 : decode cX11_read 116 = .ok (.iconst 0, 1) := by decide +kernel
theorem dX11_read_117 : decode cX11_read 117 = .ok (.istore_n 3, 1) := by decide +kernel
theorem dX11_read_118 : decode cX11_read 118 = .ok (.iload_n 3, 1) := by decide +kernel
theorem dX11_read_119 : decode cX11_read 119 = .ok (.ifCond .eq 8, 3) := by decide +kernel
theorem dX11_read_122 : decode cX11_read 122 = .ok (.bipush (-6), 2) := by decide +kernel
theorem dX11_read_124 : decode cX11_read 124 = .ok (.goto 9, 3) := by decide +kernel
theorem dX11_read_127 : decode cX11_read 127 = .ok (.aload_n 0, 1) := by decide +kernel
theorem dX11_read_128 : decode cX11_read 128 = .ok (.getfield 13, 3) := by decide +kernel
theorem dX11_read_131 : decode cX11_read 131 = .ok (.iload_n 1, 1) := by decide +kernel
theorem dX11_read_132 : decode cX11_read 132 = .ok (.iaload, 1) := by decide +kernel
theorem dX11_read_133 : decode cX11_read 133 = .ok (.ireturn, 1) := by decide +kernel
theorem dX11_offerOf_0 : decode cX11_offerOf 0 = .ok (.iload_n 0, 1) := by decide +kernel
theorem dX11_offerOf_1 : decode cX11_offerOf 1 = .ok (.ifCond .ne 8, 3) := by decide +kernel
theorem dX11_offerOf_4 : decode cX11_offerOf 4 = .ok (.bipush (-6), 2) := by decide +kernel
theorem dX11_offerOf_6 : decode cX11_offerOf 6 = .ok (.goto 18, 3) := by decide +kernel
theorem dX11_offerOf_9 : decode cX11_offerOf 9 = .ok (.iload_n 0, 1) := by decide +kernel
theorem dX11_offerOf_10 : decode cX11_offerOf 10 = .ok (.bipush 6, 2) := by decide +kernel
theorem dX11_offerOf_12 : decode cX11_offerOf 12 = .ok (.if_icmp .ge 9, 3) := by decide +kernel
theorem dX11_offerOf_15 : decode cX11_offerOf 15 = .ok (.iload_n 0, 1) := by decide +kernel
theorem dX11_offerOf_16 : decode cX11_offerOf 16 = .ok (.iconst 1, 1) := by decide +kernel
theorem dX11_offerOf_17 : decode cX11_offerOf 17 = .ok (.isub, 1) := by decide +kernel
theorem dX11_offerOf_18 : decode cX11_offerOf 18 = .ok (.goto 6, 3) := by decide +kernel
theorem dX11_offerOf_21 : decode cX11_offerOf 21 = .ok (.iload_n 0, 1) := by decide +kernel
theorem dX11_offerOf_22 : decode cX11_offerOf 22 = .ok (.iconst 2, 1) := by decide +kernel
theorem dX11_offerOf_23 : decode cX11_offerOf 23 = .ok (.iadd, 1) := by decide +kernel
theorem dX11_offerOf_24 : decode cX11_offerOf 24 = .ok (.ireturn, 1) := by decide +kernel
theorem dX11_readAll_0 : decode cX11_readAll 0 = .ok (.aload_n 0, 1) := by decide +kernel
theorem dX11_readAll_1 : decode cX11_readAll 1 = .ok (.iconst 0, 1) := by decide +kernel
theorem dX11_readAll_2 : decode cX11_readAll 2 = .ok (.putfield 92, 3) := by decide +kernel
theorem dX11_readAll_5 : decode cX11_readAll 5 = .ok (.aload_n 0, 1) := by decide +kernel
theorem dX11_readAll_6 : decode cX11_readAll 6 = .ok (.iconst 0, 1) := by decide +kernel
theorem dX11_readAll_7 : decode cX11_readAll 7 = .ok (.putfield 126, 3) := by decide +kernel
theorem dX11_readAll_10 : decode cX11_readAll 10 = .ok (.aload_n 0, 1) := by decide +kernel
theorem dX11_readAll_11 : decode cX11_readAll 11 = .ok (.iload_n 1, 1) := by decide +kernel
theorem dX11_readAll_12 : decode cX11_readAll 12 = .ok (.putfield 95, 3) := by decide +kernel
theorem dX11_readAll_15 : decode cX11_readAll 15 = .ok (.iconst 0, 1) := by decide +kernel
theorem dX11_readAll_16 : decode cX11_readAll 16 = .ok (.istore_n 3, 1) := by decide +kernel
theorem dX11_readAll_17 : decode cX11_readAll 17 = .ok (.iload_n 3, 1) := by decide +kernel
theorem dX11_readAll_18 : decode cX11_readAll 18 = .ok (.bipush 12, 2) := by decide +kernel
theorem dX11_readAll_20 : decode cX11_readAll 20 = .ok (.if_icmp .ge 20, 3) := by decide +kernel
theorem dX11_readAll_23 : decode cX11_readAll 23 = .ok (.iload_n 1, 1) := by decide +kernel
theorem dX11_readAll_24 : decode cX11_readAll 24 = .ok (.ifCond .eq 16, 3) := by decide +kernel
theorem dX11_readAll_27 : decode cX11_readAll 27 = .ok (.aload_n 0, 1) := by decide +kernel
theorem dX11_readAll_28 : decode cX11_readAll 28 = .ok (.getfield 32, 3) := by decide +kernel
theorem dX11_readAll_31 : decode cX11_readAll 31 = .ok (.iload_n 3, 1) := by decide +kernel
theorem dX11_readAll_32 : decode cX11_readAll 32 = .ok (.iconst 0, 1) := by decide +kernel
theorem dX11_readAll_33 : decode cX11_readAll 33 = .ok (.iastore, 1) := by decide +kernel
theorem dX11_readAll_34 : decode cX11_readAll 34 = .ok (.iinc 3 1, 3) := by decide +kernel
theorem dX11_readAll_37 : decode cX11_readAll 37 = .ok (.goto (-20), 3) := by decide +kernel
theorem dX11_readAll_40 : decode cX11_readAll 40 = .ok (.iconst 0, 1) := by decide +kernel
theorem dX11_readAll_41 : decode cX11_readAll 41 = .ok (.istore_n 3, 1) := by decide +kernel
theorem dX11_readAll_42 : decode cX11_readAll 42 = .ok (.iload_n 3, 1) := by decide +kernel
theorem dX11_readAll_43 : decode cX11_readAll 43 = .ok (.bipush 10, 2) := by decide +kernel
theorem dX11_readAll_45 : decode cX11_readAll 45 = .ok (.if_icmp .ge 33, 3) := by decide +kernel
theorem dX11_readAll_48 : decode cX11_readAll 48 = .ok (.iload_n 3, 1) := by decide +kernel
theorem dX11_readAll_49 : decode cX11_readAll 49 = .ok (.iload_n 2, 1) := by decide +kernel
theorem dX11_readAll_50 : decode cX11_readAll 50 = .ok (.if_icmp .eq 22, 3) := by decide +kernel
theorem dX11_readAll_53 : decode cX11_readAll 53 = .ok (.aload_n 0, 1) := by decide +kernel
theorem dX11_readAll_54 : decode cX11_readAll 54 = .ok (.getfield 13, 3) := by decide +kernel
theorem dX11_readAll_57 : decode cX11_readAll 57 = .ok (.iload_n 3, 1) := by decide +kernel
theorem dX11_readAll_58 : decode cX11_readAll 58 = .ok (.iaload, 1) := by decide +kernel
theorem dX11_readAll_59 : decode cX11_readAll 59 = .ok (.ifCond .lt 13, 3) := by decide +kernel
theorem dX11_readAll_62 : decode cX11_readAll 62 = .ok (.aload_n 0, 1) := by decide +kernel
theorem dX11_readAll_63 : decode cX11_readAll 63 = .ok (.iload_n 3, 1) := by decide +kernel
theorem dX11_readAll_64 : decode cX11_readAll 64 = .ok (.iload_n 3, 1) := by decide +kernel
theorem dX11_readAll_65 : decode cX11_readAll 65 = .ok (.invokestatic 144, 3) := by decide +kernel
theorem dX11_readAll_68 : decode cX11_readAll 68 = .ok (.invokevirtual 148, 3) := by decide +kernel
theorem dX11_readAll_71 : decode cX11_readAll 71 = .ok (.pop, 1) := by decide +kernel
theorem dX11_readAll_72 : decode cX11_readAll 72 = .ok (.iinc 3 1, 3) := by decide +kernel
theorem dX11_readAll_75 : decode cX11_readAll 75 = .ok (.goto (-33), 3) := by decide +kernel
theorem dX11_readAll_78 : decode cX11_readAll 78 = .ok (.return_, 1) := by decide +kernel
theorem dX11_say_0 : decode cX11_say 0 = .ok (.iload_n 1, 1) := by decide +kernel
theorem dX11_say_1 : decode cX11_say 1 = .ok (.bipush 33, 2) := by decide +kernel
theorem dX11_say_3 : decode cX11_say 3 = .ok (.bipush 126, 2) := by decide +kernel
theorem dX11_say_5 : decode cX11_say 5 = .ok (.invokestatic 104, 3) := by decide +kernel
theorem dX11_say_8 : decode cX11_say 8 = .ok (.ifCond .ne 6, 3) := by decide +kernel
theorem dX11_say_11 : decode cX11_say 11 = .ok (.bipush (-2), 2) := by decide +kernel
theorem dX11_say_13 : decode cX11_say 13 = .ok (.ireturn, 1) := by decide +kernel
theorem dX11_say_14 : decode cX11_say 14 = .ok (.aload_n 0, 1) := by decide +kernel
theorem dX11_say_15 : decode cX11_say 15 = .ok (.getfield 13, 3) := by decide +kernel
theorem dX11_say_18 : decode cX11_say 18 = .ok (.bipush 10, 2) := by decide +kernel
theorem dX11_say_20 : decode cX11_say 20 = .ok (.iaload, 1) := by decide +kernel
theorem dX11_say_21 : decode cX11_say 21 = .ok (.bipush 60, 2) := by decide +kernel
theorem dX11_say_23 : decode cX11_say 23 = .ok (.if_icmp .ne 6, 3) := by decide +kernel
theorem dX11_say_26 : decode cX11_say 26 = .ok (.bipush (-4), 2) := by decide +kernel
theorem dX11_say_28 : decode cX11_say 28 = .ok (.ireturn, 1) := by decide +kernel
theorem dX11_say_29 : decode cX11_say 29 = .ok (.aload_n 0, 1) := by decide +kernel
theorem dX11_say_30 : decode cX11_say 30 = .ok (.getfield 7, 3) := by decide +kernel
theorem dX11_say_33 : decode cX11_say 33 = .ok (.sipush 600, 3) := by decide +kernel
theorem dX11_say_36 : decode cX11_say 36 = .ok (.aload_n 0, 1) := by decide +kernel
theorem dX11_say_37 : decode cX11_say 37 = .ok (.getfield 13, 3) := by decide +kernel
theorem dX11_say_40 : decode cX11_say 40 = .ok (.bipush 10, 2) := by decide +kernel
theorem dX11_say_42 : decode cX11_say 42 = .ok (.iaload, 1) := by decide +kernel
theorem dX11_say_43 : decode cX11_say 43 = .ok (.iadd, 1) := by decide +kernel
theorem dX11_say_44 : decode cX11_say 44 = .ok (.iload_n 1, 1) := by decide +kernel
theorem dX11_say_45 : decode cX11_say 45 = .ok (.iastore, 1) := by decide +kernel
theorem dX11_say_46 : decode cX11_say 46 = .ok (.aload_n 0, 1) := by decide +kernel
theorem dX11_say_47 : decode cX11_say 47 = .ok (.getfield 13, 3) := by decide +kernel
theorem dX11_say_50 : decode cX11_say 50 = .ok (.bipush 10, 2) := by decide +kernel
theorem dX11_say_52 : decode cX11_say 52 = .ok (.dup2, 1) := by decide +kernel
theorem dX11_say_53 : decode cX11_say 53 = .ok (.iaload, 1) := by decide +kernel
theorem dX11_say_54 : decode cX11_say 54 = .ok (.iconst 1, 1) := by decide +kernel
theorem dX11_say_55 : decode cX11_say 55 = .ok (.iadd, 1) := by decide +kernel
theorem dX11_say_56 : decode cX11_say 56 = .ok (.iastore, 1) := by decide +kernel
theorem dX11_say_57 : decode cX11_say 57 = .ok (.aload_n 0, 1) := by decide +kernel
theorem dX11_say_58 : decode cX11_say 58 = .ok (.getfield 13, 3) := by decide +kernel
theorem dX11_say_61 : decode cX11_say 61 = .ok (.bipush 10, 2) := by decide +kernel
theorem dX11_say_63 : decode cX11_say 63 = .ok (.iaload, 1) := by decide +kernel
theorem dX11_say_64 : decode cX11_say 64 = .ok (.ireturn, 1) := by decide +kernel
theorem dX11_wipe_0 : decode cX11_wipe 0 = .ok (.aload_n 0, 1) := by decide +kernel
theorem dX11_wipe_1 : decode cX11_wipe 1 = .ok (.getfield 13, 3) := by decide +kernel
theorem dX11_wipe_4 : decode cX11_wipe 4 = .ok (.bipush 10, 2) := by decide +kernel
theorem dX11_wipe_6 : decode cX11_wipe 6 = .ok (.iaload, 1) := by decide +kernel
theorem dX11_wipe_7 : decode cX11_wipe 7 = .ok (.istore_n 1, 1) := by decide +kernel
theorem dX11_wipe_8 : decode cX11_wipe 8 = .ok (.aload_n 0, 1) := by decide +kernel
theorem dX11_wipe_9 : decode cX11_wipe 9 = .ok (.getfield 13, 3) := by decide +kernel
theorem dX11_wipe_12 : decode cX11_wipe 12 = .ok (.bipush 10, 2) := by decide +kernel
theorem dX11_wipe_14 : decode cX11_wipe 14 = .ok (.iconst 0, 1) := by decide +kernel
theorem dX11_wipe_15 : decode cX11_wipe 15 = .ok (.iastore, 1) := by decide +kernel
theorem dX11_wipe_16 : decode cX11_wipe 16 = .ok (.iload_n 1, 1) := by decide +kernel
theorem dX11_wipe_17 : decode cX11_wipe 17 = .ok (.ireturn, 1) := by decide +kernel
theorem dX11_take_0 : decode cX11_take 0 = .ok (.aload_n 0, 1) := by decide +kernel
theorem dX11_take_1 : decode cX11_take 1 = .ok (.iconst 1, 1) := by decide +kernel
theorem dX11_take_2 : decode cX11_take 2 = .ok (.putfield 53, 3) := by decide +kernel
theorem dX11_take_5 : decode cX11_take 5 = .ok (.aload_n 0, 1) := by decide +kernel
theorem dX11_take_6 : decode cX11_take 6 = .ok (.iconst 0, 1) := by decide +kernel
theorem dX11_take_7 : decode cX11_take 7 = .ok (.putfield 92, 3) := by decide +kernel
theorem dX11_take_10 : decode cX11_take 10 = .ok (.aload_n 0, 1) := by decide +kernel
theorem dX11_take_11 : decode cX11_take 11 = .ok (.iconst 0, 1) := by decide +kernel
theorem dX11_take_12 : decode cX11_take 12 = .ok (.putfield 126, 3) := by decide +kernel
theorem dX11_take_15 : decode cX11_take 15 = .ok (.aload_n 0, 1) := by decide +kernel
theorem dX11_take_16 : decode cX11_take 16 = .ok (.iconst 0, 1) := by decide +kernel
theorem dX11_take_17 : decode cX11_take 17 = .ok (.putfield 95, 3) := by decide +kernel
theorem dX11_take_20 : decode cX11_take 20 = .ok (.aload_n 0, 1) := by decide +kernel
theorem dX11_take_21 : decode cX11_take 21 = .ok (.bipush 10, 2) := by decide +kernel
theorem dX11_take_23 : decode cX11_take 23 = .ok (.iload_n 3, 1) := by decide +kernel
theorem dX11_take_24 : decode cX11_take 24 = .ok (.ifCond .eq 8, 3) := by decide +kernel
theorem dX11_take_27 : decode cX11_take 27 = .ok (.bipush (-6), 2) := by decide +kernel
theorem dX11_take_29 : decode cX11_take 29 = .ok (.goto 4, 3) := by decide +kernel
theorem dX11_take_32 : decode cX11_take 32 = .ok (.iconst 0, 1) := by decide +kernel
theorem dX11_take_33 : decode cX11_take 33 = .ok (.invokevirtual 148, 3) := by decide +kernel
theorem dX11_take_36 : decode cX11_take 36 = .ok (.istore 4, 2) := by decide +kernel
theorem dX11_take_38 : decode cX11_take 38 = .ok (.iload 4, 2) := by decide +kernel
theorem dX11_take_40 : decode cX11_take 40 = .ok (.ifCond .lt 12, 3) := by decide +kernel
theorem dX11_take_43 : decode cX11_take 43 = .ok (.aload_n 0, 1) := by decide +kernel
theorem dX11_take_44 : decode cX11_take 44 = .ok (.iload 4, 2) := by decide +kernel
theorem dX11_take_46 : decode cX11_take 46 = .ok (.putfield 16, 3) := by decide +kernel
theorem dX11_take_49 : decode cX11_take 49 = .ok (.bipush (-7), 2) := by decide +kernel
theorem dX11_take_51 : decode cX11_take 51 = .ok (.ireturn, 1) := by decide +kernel
theorem dX11_take_52 : decode cX11_take 52 = .ok (.bipush (-6), 2) := by decide +kernel
theorem dX11_take_54 : decode cX11_take 54 = .ok (.istore 5, 2) := by decide +kernel
theorem dX11_take_56 : decode cX11_take 56 = .ok (.iload_n 2, 1) := by decide +kernel
theorem dX11_take_57 : decode cX11_take 57 = .ok (.istore 6, 2) := by decide +kernel
theorem dX11_take_59 : decode cX11_take 59 = .ok (.iload 6, 2) := by decide +kernel
theorem dX11_take_61 : decode cX11_take 61 = .ok (.iload_n 1, 1) := by decide +kernel
theorem dX11_take_62 : decode cX11_take 62 = .ok (.if_icmp .lt 32, 3) := by decide +kernel
theorem dX11_take_65 : decode cX11_take 65 = .ok (.iload_n 3, 1) := by decide +kernel
theorem dX11_take_66 : decode cX11_take 66 = .ok (.ifCond .ne 13, 3) := by decide +kernel
theorem dX11_take_69 : decode cX11_take 69 = .ok (.aload_n 0, 1) := by decide +kernel
theorem dX11_take_70 : decode cX11_take 70 = .ok (.getfield 13, 3) := by decide +kernel
theorem dX11_take_73 : decode cX11_take 73 = .ok (.iload 6, 2) := by decide +kernel
theorem dX11_take_75 : decode cX11_take 75 = .ok (.iaload, 1) := by decide +kernel
theorem dX11_take_76 : decode cX11_take 76 = .ok (.ifCond .ge 8, 3) := by decide +kernel
theorem dX11_take_79 : decode cX11_take 79 = .ok (.iload 6, 2) := by decide +kernel
theorem dX11_take_81 : decode cX11_take 81 = .ok (.goto 5, 3) := by decide +kernel
theorem dX11_take_84 : decode cX11_take 84 = .ok (.iload 5, 2) := by decide +kernel
theorem dX11_take_86 : decode cX11_take 86 = .ok (.istore 5, 2) := by decide +kernel
theorem dX11_take_88 : decode cX11_take 88 = .ok (.iinc 6 (-1), 3) := by decide +kernel
theorem dX11_take_91 : decode cX11_take 91 = .ok (.goto (-32), 3) := by decide +kernel
theorem dX11_take_94 : decode cX11_take 94 = .ok (.aload_n 0, 1) := by decide +kernel
theorem dX11_take_95 : decode cX11_take 95 = .ok (.getfield 92, 3) := by decide +kernel
theorem dX11_take_98 : decode cX11_take 98 = .ok (.istore 6, 2) := by decide +kernel
theorem dX11_take_100 : decode cX11_take 100 = .ok (.aload_n 0, 1) := by decide +kernel
theorem dX11_take_101 : decode cX11_take 101 = .ok (.getfield 126, 3) := by decide +kernel
theorem dX11_take_104 : decode cX11_take 104 = .ok (.istore 7, 2) := by decide +kernel
theorem dX11_take_106 : decode cX11_take 106 = .ok (.aload_n 0, 1) := by decide +kernel
theorem dX11_take_107 : decode cX11_take 107 = .ok (.iconst 0, 1) := by decide +kernel
theorem dX11_take_108 : decode cX11_take 108 = .ok (.iload_n 3, 1) := by decide +kernel
theorem dX11_take_109 : decode cX11_take 109 = .ok (.ifCond .eq 7, 3) := by decide +kernel
theorem dX11_take_112 : decode cX11_take 112 = .ok (.iconst 0, 1) := by decide +kernel
theorem dX11_take_113 : decode cX11_take 113 = .ok (.goto 5, 3) := by decide +kernel
theorem dX11_take_116 : decode cX11_take 116 = .ok (.bipush (-6), 2) := by decide +kernel
theorem dX11_take_118 : decode cX11_take 118 = .ok (.invokevirtual 151, 3) := by decide +kernel
theorem dX11_take_121 : decode cX11_take 121 = .ok (.iload 5, 2) := by decide +kernel
theorem dX11_take_123 : decode cX11_take 123 = .ok (.ifCond .lt 26, 3) := by decide +kernel
theorem dX11_take_126 : decode cX11_take 126 = .ok (.aload_n 0, 1) := by decide +kernel
theorem dX11_take_127 : decode cX11_take 127 = .ok (.getfield 92, 3) := by decide +kernel
theorem dX11_take_130 : decode cX11_take 130 = .ok (.iload 6, 2) := by decide +kernel
theorem dX11_take_132 : decode cX11_take 132 = .ok (.iadd, 1) := by decide +kernel
theorem dX11_take_133 : decode cX11_take 133 = .ok (.bipush 60, 2) := by decide +kernel
theorem dX11_take_135 : decode cX11_take 135 = .ok (.if_icmp .gt 14, 3) := by decide +kernel
theorem dX11_take_138 : decode cX11_take 138 = .ok (.aload_n 0, 1) := by decide +kernel
theorem dX11_take_139 : decode cX11_take 139 = .ok (.getfield 126, 3) := by decide +kernel
theorem dX11_take_142 : decode cX11_take 142 = .ok (.iload 7, 2) := by decide +kernel
theorem dX11_take_144 : decode cX11_take 144 = .ok (.iadd, 1) := by decide +kernel
theorem dX11_take_145 : decode cX11_take 145 = .ok (.iconst 3, 1) := by decide +kernel
theorem dX11_take_146 : decode cX11_take 146 = .ok (.if_icmp .le 6, 3) := by decide +kernel
theorem dX11_take_149 : decode cX11_take 149 = .ok (.bipush (-4), 2) := by decide +kernel
theorem dX11_take_151 : decode cX11_take 151 = .ok (.ireturn, 1) := by decide +kernel
theorem dX11_take_152 : decode cX11_take 152 = .ok (.iconst 0, 1) := by decide +kernel
theorem dX11_take_153 : decode cX11_take 153 = .ok (.istore 8, 2) := by decide +kernel
theorem dX11_take_155 : decode cX11_take 155 = .ok (.iload 8, 2) := by decide +kernel
theorem dX11_take_157 : decode cX11_take 157 = .ok (.aload_n 0, 1) := by decide +kernel
theorem dX11_take_158 : decode cX11_take 158 = .ok (.getfield 13, 3) := by decide +kernel
theorem dX11_take_161 : decode cX11_take 161 = .ok (.bipush 10, 2) := by decide +kernel
theorem dX11_take_163 : decode cX11_take 163 = .ok (.iaload, 1) := by decide +kernel
theorem dX11_take_164 : decode cX11_take 164 = .ok (.if_icmp .ge 33, 3) := by decide +kernel
theorem dX11_take_167 : decode cX11_take 167 = .ok (.aload_n 0, 1) := by decide +kernel
theorem dX11_take_168 : decode cX11_take 168 = .ok (.getfield 7, 3) := by decide +kernel
theorem dX11_take_171 : decode cX11_take 171 = .ok (.bipush 60, 2) := by decide +kernel
theorem dX11_take_173 : decode cX11_take 173 = .ok (.iload 5, 2) := by decide +kernel
theorem dX11_take_175 : decode cX11_take 175 = .ok (.imul, 1) := by decide +kernel
theorem dX11_take_176 : decode cX11_take 176 = .ok (.iload 8, 2) := by decide +kernel
theorem dX11_take_178 : decode cX11_take 178 = .ok (.iadd, 1) := by decide +kernel
theorem dX11_take_179 : decode cX11_take 179 = .ok (.aload_n 0, 1) := by decide +kernel
theorem dX11_take_180 : decode cX11_take 180 = .ok (.getfield 7, 3) := by decide +kernel
theorem dX11_take_183 : decode cX11_take 183 = .ok (.sipush 600, 3) := by decide +kernel
theorem dX11_take_186 : decode cX11_take 186 = .ok (.iload 8, 2) := by decide +kernel
theorem dX11_take_188 : decode cX11_take 188 = .ok (.iadd, 1) := by decide +kernel
theorem dX11_take_189 : decode cX11_take 189 = .ok (.iaload, 1) := by decide +kernel
theorem dX11_take_190 : decode cX11_take 190 = .ok (.iastore, 1) := by decide +kernel
theorem dX11_take_191 : decode cX11_take 191 = .ok (.iinc 8 1, 3) := by decide +kernel
theorem dX11_take_194 : decode cX11_take 194 = .ok (.goto (-39), 3) := by decide +kernel
theorem dX11_take_197 : decode cX11_take 197 = .ok (.aload_n 0, 1) := by decide +kernel
theorem dX11_take_198 : decode cX11_take 198 = .ok (.getfield 13, 3) := by decide +kernel
theorem dX11_take_201 : decode cX11_take 201 = .ok (.iload 5, 2) := by decide +kernel
theorem dX11_take_203 : decode cX11_take 203 = .ok (.aload_n 0, 1) := by decide +kernel
theorem dX11_take_204 : decode cX11_take 204 = .ok (.getfield 13, 3) := by decide +kernel
theorem dX11_take_207 : decode cX11_take 207 = .ok (.bipush 10, 2) := by decide +kernel
theorem dX11_take_209 : decode cX11_take 209 = .ok (.iaload, 1) := by decide +kernel
theorem dX11_take_210 : decode cX11_take 210 = .ok (.iastore, 1) := by decide +kernel
theorem dX11_take_211 : decode cX11_take 211 = .ok (.aload_n 0, 1) := by decide +kernel
theorem dX11_take_212 : decode cX11_take 212 = .ok (.getfield 13, 3) := by decide +kernel
theorem dX11_take_215 : decode cX11_take 215 = .ok (.bipush 10, 2) := by decide +kernel
theorem dX11_take_217 : decode cX11_take 217 = .ok (.iconst 0, 1) := by decide +kernel
theorem dX11_take_218 : decode cX11_take 218 = .ok (.iastore, 1) := by decide +kernel
theorem dX11_take_219 : decode cX11_take 219 = .ok (.iload_n 3, 1) := by decide +kernel
theorem dX11_take_220 : decode cX11_take 220 = .ok (.ifCond .eq 8, 3) := by decide +kernel
theorem dX11_take_223 : decode cX11_take 223 = .ok (.iload 6, 2) := by decide +kernel
theorem dX11_take_225 : decode cX11_take 225 = .ok (.goto 7, 3) := by decide +kernel
theorem dX11_take_228 : decode cX11_take 228 = .ok (.iload 5, 2) := by decide +kernel
theorem dX11_take_230 : decode cX11_take 230 = .ok (.iload_n 1, 1) := by decide +kernel
theorem dX11_take_231 : decode cX11_take 231 = .ok (.isub, 1) := by decide +kernel
theorem dX11_take_232 : decode cX11_take 232 = .ok (.ireturn, 1) := by decide +kernel
theorem dX11_resource_0 : decode cX11_resource 0 = .ok (.aload_n 0, 1) := by decide +kernel
theorem dX11_resource_1 : decode cX11_resource 1 = .ok (.iconst 1, 1) := by decide +kernel
theorem dX11_resource_2 : decode cX11_resource 2 = .ok (.iconst 5, 1) := by decide +kernel
theorem dX11_resource_3 : decode cX11_resource 3 = .ok (.iconst 0, 1) := by decide +kernel
theorem dX11_resource_4 : decode cX11_resource 4 = .ok (.invokevirtual 155, 3) := by decide +kernel
theorem dX11_resource_7 : decode cX11_resource 7 = .ok (.ireturn, 1) := by decide +kernel
theorem dX11_well_0 : decode cX11_well 0 = .ok (.aload_n 0, 1) := by decide +kernel
theorem dX11_well_1 : decode cX11_well 1 = .ok (.bipush 6, 2) := by decide +kernel
theorem dX11_well_3 : decode cX11_well 3 = .ok (.bipush 9, 2) := by decide +kernel
theorem dX11_well_5 : decode cX11_well 5 = .ok (.iconst 0, 1) := by decide +kernel
theorem dX11_well_6 : decode cX11_well 6 = .ok (.invokevirtual 155, 3) := by decide +kernel
theorem dX11_well_9 : decode cX11_well 9 = .ok (.ireturn, 1) := by decide +kernel
theorem dX11_goal_0 : decode cX11_goal 0 = .ok (.aload_n 0, 1) := by decide +kernel
theorem dX11_goal_1 : decode cX11_goal 1 = .ok (.iconst 0, 1) := by decide +kernel
theorem dX11_goal_2 : decode cX11_goal 2 = .ok (.iconst 0, 1) := by decide +kernel
theorem dX11_goal_3 : decode cX11_goal 3 = .ok (.iconst 1, 1) := by decide +kernel
theorem dX11_goal_4 : decode cX11_goal 4 = .ok (.invokevirtual 155, 3) := by decide +kernel
theorem dX11_goal_7 : decode cX11_goal 7 = .ok (.ireturn, 1) := by decide +kernel
theorem dX11_fault_0 : decode cX11_fault 0 = .ok (.aload_n 0, 1) := by decide +kernel
theorem dX11_fault_1 : decode cX11_fault 1 = .ok (.getfield 16, 3) := by decide +kernel
theorem dX11_fault_4 : decode cX11_fault 4 = .ok (.ireturn, 1) := by decide +kernel
theorem dX11_there_0 : decode cX11_there 0 = .ok (.iconst 0, 1) := by decide +kernel
theorem dX11_there_1 : decode cX11_there 1 = .ok (.istore_n 3, 1) := by decide +kernel
theorem dX11_there_2 : decode cX11_there 2 = .ok (.iload_n 1, 1) := by decide +kernel
theorem dX11_there_3 : decode cX11_there 3 = .ok (.istore 4, 2) := by decide +kernel
theorem dX11_there_5 : decode cX11_there 5 = .ok (.iload 4, 2) := by decide +kernel
theorem dX11_there_7 : decode cX11_there 7 = .ok (.iload_n 2, 1) := by decide +kernel
theorem dX11_there_8 : decode cX11_there 8 = .ok (.if_icmp .gt 32, 3) := by decide +kernel
theorem dX11_there_11 : decode cX11_there 11 = .ok (.iload_n 3, 1) := by decide +kernel
theorem dX11_there_12 : decode cX11_there 12 = .ok (.aload_n 0, 1) := by decide +kernel
theorem dX11_there_13 : decode cX11_there 13 = .ok (.getfield 13, 3) := by decide +kernel
theorem dX11_there_16 : decode cX11_there 16 = .ok (.iload 4, 2) := by decide +kernel
theorem dX11_there_18 : decode cX11_there 18 = .ok (.iaload, 1) := by decide +kernel
theorem dX11_there_19 : decode cX11_there 19 = .ok (.ifCond .lt 12, 3) := by decide +kernel
theorem dX11_there_22 : decode cX11_there 22 = .ok (.iconst 1, 1) := by decide +kernel
theorem dX11_there_23 : decode cX11_there 23 = .ok (.iload 4, 2) := by decide +kernel
theorem dX11_there_25 : decode cX11_there 25 = .ok (.iload_n 1, 1) := by decide +kernel
theorem dX11_there_26 : decode cX11_there 26 = .ok (.isub, 1) := by decide +kernel
theorem dX11_there_27 : decode cX11_there 27 = .ok (.ishl, 1) := by decide +kernel
theorem dX11_there_28 : decode cX11_there 28 = .ok (.goto 4, 3) := by decide +kernel
theorem dX11_there_31 : decode cX11_there 31 = .ok (.iconst 0, 1) := by decide +kernel
theorem dX11_there_32 : decode cX11_there 32 = .ok (.ior, 1) := by decide +kernel
theorem dX11_there_33 : decode cX11_there 33 = .ok (.istore_n 3, 1) := by decide +kernel
theorem dX11_there_34 : decode cX11_there 34 = .ok (.iinc 4 1, 3) := by decide +kernel
theorem dX11_there_37 : decode cX11_there 37 = .ok (.goto (-32), 3) := by decide +kernel
theorem dX11_there_40 : decode cX11_there 40 = .ok (.iload_n 3, 1) := by decide +kernel
theorem dX11_there_41 : decode cX11_there 41 = .ok (.ireturn, 1) := by decide +kernel
theorem dX11_bits_0 : decode cX11_bits 0 = .ok (.iconst 0, 1) := by decide +kernel
theorem dX11_bits_1 : decode cX11_bits 1 = .ok (.istore_n 1, 1) := by decide +kernel
theorem dX11_bits_2 : decode cX11_bits 2 = .ok (.iconst 0, 1) := by decide +kernel
theorem dX11_bits_3 : decode cX11_bits 3 = .ok (.istore_n 2, 1) := by decide +kernel
theorem dX11_bits_4 : decode cX11_bits 4 = .ok (.iload_n 2, 1) := by decide +kernel
theorem dX11_bits_5 : decode cX11_bits 5 = .ok (.bipush 12, 2) := by decide +kernel
theorem dX11_bits_7 : decode cX11_bits 7 = .ok (.if_icmp .ge 17, 3) := by decide +kernel
theorem dX11_bits_10 : decode cX11_bits 10 = .ok (.iload_n 1, 1) := by decide +kernel
theorem dX11_bits_11 : decode cX11_bits 11 = .ok (.iload_n 0, 1) := by decide +kernel
theorem dX11_bits_12 : decode cX11_bits 12 = .ok (.iload_n 2, 1) := by decide +kernel
theorem dX11_bits_13 : decode cX11_bits 13 = .ok (.ishr, 1) := by decide +kernel
theorem dX11_bits_14 : decode cX11_bits 14 = .ok (.iconst 1, 1) := by decide +kernel
theorem dX11_bits_15 : decode cX11_bits 15 = .ok (.iand, 1) := by decide +kernel
theorem dX11_bits_16 : decode cX11_bits 16 = .ok (.iadd, 1) := by decide +kernel
theorem dX11_bits_17 : decode cX11_bits 17 = .ok (.istore_n 1, 1) := by decide +kernel
theorem dX11_bits_18 : decode cX11_bits 18 = .ok (.iinc 2 1, 3) := by decide +kernel
theorem dX11_bits_21 : decode cX11_bits 21 = .ok (.goto (-17), 3) := by decide +kernel
theorem dX11_bits_24 : decode cX11_bits 24 = .ok (.iload_n 1, 1) := by decide +kernel
theorem dX11_bits_25 : decode cX11_bits 25 = .ok (.ireturn, 1) := by decide +kernel
theorem dX11_drop_0 : decode cX11_drop 0 = .ok (.iload_n 1, 1) := by decide +kernel
theorem dX11_drop_1 : decode cX11_drop 1 = .ok (.iconst 0, 1) := by decide +kernel
theorem dX11_drop_2 : decode cX11_drop 2 = .ok (.iconst 2, 1) := by decide +kernel
theorem dX11_drop_3 : decode cX11_drop 3 = .ok (.invokestatic 104, 3) := by decide +kernel
theorem dX11_drop_6 : decode cX11_drop 6 = .ok (.ifCond .ne 6, 3) := by decide +kernel
theorem dX11_drop_9 : decode cX11_drop 9 = .ok (.bipush (-2), 2) := by decide +kernel
theorem dX11_drop_11 : decode cX11_drop 11 = .ok (.ireturn, 1) := by decide +kernel
theorem dX11_drop_12 : decode cX11_drop 12 = .ok (.iload_n 1, 1) := by decide +kernel
theorem dX11_drop_13 : decode cX11_drop 13 = .ok (.ifCond .ne 23, 3) := by decide +kernel
theorem dX11_drop_16 : decode cX11_drop 16 = .ok (.iload_n 2, 1) := by decide +kernel
theorem dX11_drop_17 : decode cX11_drop 17 = .ok (.iconst 0, 1) := by decide +kernel
theorem dX11_drop_18 : decode cX11_drop 18 = .ok (.iconst 4, 1) := by decide +kernel
theorem dX11_drop_19 : decode cX11_drop 19 = .ok (.invokestatic 104, 3) := by decide +kernel
theorem dX11_drop_22 : decode cX11_drop 22 = .ok (.ifCond .eq 40, 3) := by decide +kernel
theorem dX11_drop_25 : decode cX11_drop 25 = .ok (.aload_n 0, 1) := by decide +kernel
theorem dX11_drop_26 : decode cX11_drop 26 = .ok (.getfield 13, 3) := by decide +kernel
theorem dX11_drop_29 : decode cX11_drop 29 = .ok (.iconst 1, 1) := by decide +kernel
theorem dX11_drop_30 : decode cX11_drop 30 = .ok (.iload_n 2, 1) := by decide +kernel
theorem dX11_drop_31 : decode cX11_drop 31 = .ok (.iadd, 1) := by decide +kernel
theorem dX11_drop_32 : decode cX11_drop 32 = .ok (.iaload, 1) := by decide +kernel
theorem dX11_drop_33 : decode cX11_drop 33 = .ok (.ifCond .lt 29, 3) := by decide +kernel
theorem dX11_drop_36 : decode cX11_drop 36 = .ok (.iload_n 1, 1) := by decide +kernel
theorem dX11_drop_37 : decode cX11_drop 37 = .ok (.iconst 1, 1) := by decide +kernel
theorem dX11_drop_38 : decode cX11_drop 38 = .ok (.if_icmp .ne 26, 3) := by decide +kernel
theorem dX11_drop_41 : decode cX11_drop 41 = .ok (.iload_n 2, 1) := by decide +kernel
theorem dX11_drop_42 : decode cX11_drop 42 = .ok (.iconst 0, 1) := by decide +kernel
theorem dX11_drop_43 : decode cX11_drop 43 = .ok (.iconst 3, 1) := by decide +kernel
theorem dX11_drop_44 : decode cX11_drop 44 = .ok (.invokestatic 104, 3) := by decide +kernel
theorem dX11_drop_47 : decode cX11_drop 47 = .ok (.ifCond .eq 15, 3) := by decide +kernel
theorem dX11_drop_50 : decode cX11_drop 50 = .ok (.aload_n 0, 1) := by decide +kernel
theorem dX11_drop_51 : decode cX11_drop 51 = .ok (.getfield 13, 3) := by decide +kernel
theorem dX11_drop_54 : decode cX11_drop 54 = .ok (.bipush 6, 2) := by decide +kernel
theorem dX11_drop_56 : decode cX11_drop 56 = .ok (.iload_n 2, 1) := by decide +kernel
theorem dX11_drop_57 : decode cX11_drop 57 = .ok (.iadd, 1) := by decide +kernel
theorem dX11_drop_58 : decode cX11_drop 58 = .ok (.iaload, 1) := by decide +kernel
theorem dX11_drop_59 : decode cX11_drop 59 = .ok (.ifCond .ge 5, 3) := by decide +kernel
theorem dX11_drop_62 : decode cX11_drop 62 = .ok (.iconst (-1), 1) := by decide +kernel
theorem dX11_drop_63 : decode cX11_drop 63 = .ok (.ireturn, 1) := by decide +kernel
theorem dX11_drop_64 : decode cX11_drop 64 = .ok (.iload_n 1, 1) := by decide +kernel
theorem dX11_drop_65 : decode cX11_drop 65 = .ok (.iconst 2, 1) := by decide +kernel
theorem dX11_drop_66 : decode cX11_drop 66 = .ok (.if_icmp .ne 15, 3) := by decide +kernel
theorem dX11_drop_69 : decode cX11_drop 69 = .ok (.aload_n 0, 1) := by decide +kernel
theorem dX11_drop_70 : decode cX11_drop 70 = .ok (.getfield 13, 3) := by decide +kernel
theorem dX11_drop_73 : decode cX11_drop 73 = .ok (.iconst 0, 1) := by decide +kernel
theorem dX11_drop_74 : decode cX11_drop 74 = .ok (.iaload, 1) := by decide +kernel
theorem dX11_drop_75 : decode cX11_drop 75 = .ok (.ifCond .ge 6, 3) := by decide +kernel
theorem dX11_drop_78 : decode cX11_drop 78 = .ok (.bipush (-3), 2) := by decide +kernel
theorem dX11_drop_80 : decode cX11_drop 80 = .ok (.ireturn, 1) := by decide +kernel
theorem dX11_drop_81 : decode cX11_drop 81 = .ok (.aload_n 0, 1) := by decide +kernel
theorem dX11_drop_82 : decode cX11_drop 82 = .ok (.getfield 13, 3) := by decide +kernel
theorem dX11_drop_85 : decode cX11_drop 85 = .ok (.iload_n 1, 1) := by decide +kernel
theorem dX11_drop_86 : decode cX11_drop 86 = .ok (.ifCond .ne 9, 3) := by decide +kernel
theorem dX11_drop_89 : decode cX11_drop 89 = .ok (.iconst 1, 1) := by decide +kernel
theorem dX11_drop_90 : decode cX11_drop 90 = .ok (.iload_n 2, 1) := by decide +kernel
theorem dX11_drop_91 : decode cX11_drop 91 = .ok (.iadd, 1) := by decide +kernel
theorem dX11_drop_92 : decode cX11_drop 92 = .ok (.goto 16, 3) := by decide +kernel
theorem dX11_drop_95 : decode cX11_drop 95 = .ok (.iload_n 1, 1) := by decide +kernel
theorem dX11_drop_96 : decode cX11_drop 96 = .ok (.iconst 1, 1) := by decide +kernel
theorem dX11_drop_97 : decode cX11_drop 97 = .ok (.if_icmp .ne 10, 3) := by decide +kernel
theorem dX11_drop_100 : decode cX11_drop 100 = .ok (.bipush 6, 2) := by decide +kernel
theorem dX11_drop_102 : decode cX11_drop 102 = .ok (.iload_n 2, 1) := by decide +kernel
theorem dX11_drop_103 : decode cX11_drop 103 = .ok (.iadd, 1) := by decide +kernel
theorem dX11_drop_104 : decode cX11_drop 104 = .ok (.goto 4, 3) := by decide +kernel
theorem dX11_drop_107 : decode cX11_drop 107 = .ok (.iconst 0, 1) := by decide +kernel
theorem dX11_drop_108 : decode cX11_drop 108 = .ok (.bipush (-6), 2) := by decide +kernel
theorem dX11_drop_110 : decode cX11_drop 110 = .ok (.iastore, 1) := by decide +kernel
theorem dX11_drop_111 : decode cX11_drop 111 = .ok (.aload_n 0, 1) := by decide +kernel
theorem dX11_drop_112 : decode cX11_drop 112 = .ok (.iconst 1, 1) := by decide +kernel
theorem dX11_drop_113 : decode cX11_drop 113 = .ok (.putfield 53, 3) := by decide +kernel
theorem dX11_drop_116 : decode cX11_drop 116 = .ok (.iload_n 1, 1) := by decide +kernel
theorem dX11_drop_117 : decode cX11_drop 117 = .ok (.ifCond .ne 15, 3) := by decide +kernel
theorem dX11_drop_120 : decode cX11_drop 120 = .ok (.aload_n 0, 1) := by decide +kernel
theorem dX11_drop_121 : decode cX11_drop 121 = .ok (.iconst 1, 1) := by decide +kernel
theorem dX11_drop_122 : decode cX11_drop 122 = .ok (.iconst 5, 1) := by decide +kernel
theorem dX11_drop_123 : decode cX11_drop 123 = .ok (.invokevirtual 159, 3) := by decide +kernel
theorem dX11_drop_126 : decode cX11_drop 126 = .ok (.invokestatic 162, 3) := by decide +kernel
theorem dX11_drop_129 : decode cX11_drop 129 = .ok (.goto 23, 3) := by decide +kernel
theorem dX11_drop_132 : decode cX11_drop 132 = .ok (.iload_n 1, 1) := by decide +kernel
theorem dX11_drop_133 : decode cX11_drop 133 = .ok (.iconst 1, 1) := by decide +kernel
theorem dX11_drop_134 : decode cX11_drop 134 = .ok (.if_icmp .ne 17, 3) := by decide +kernel
theorem dX11_drop_137 : decode cX11_drop 137 = .ok (.aload_n 0, 1) := by decide +kernel
theorem dX11_drop_138 : decode cX11_drop 138 = .ok (.bipush 6, 2) := by decide +kernel
theorem dX11_drop_140 : decode cX11_drop 140 = .ok (.bipush 9, 2) := by decide +kernel
theorem dX11_drop_142 : decode cX11_drop 142 = .ok (.invokevirtual 159, 3) := by decide +kernel
theorem dX11_drop_145 : decode cX11_drop 145 = .ok (.invokestatic 162, 3) := by decide +kernel
theorem dX11_drop_148 : decode cX11_drop 148 = .ok (.goto 4, 3) := by decide +kernel
theorem dX11_drop_151 : decode cX11_drop 151 = .ok (.iconst 0, 1) := by decide +kernel
theorem dX11_drop_152 : decode cX11_drop 152 = .ok (.ireturn, 1) := by decide +kernel
theorem dX11_lay_0 : decode cX11_lay 0 = .ok (.aload_n 0, 1) := by decide +kernel
theorem dX11_lay_1 : decode cX11_lay 1 = .ok (.getfield 53, 3) := by decide +kernel
theorem dX11_lay_4 : decode cX11_lay 4 = .ok (.ifCond .ne 4, 3) := by decide +kernel
theorem dX11_lay_7 : decode cX11_lay 7 = .ok (.return_, 1) := by decide +kernel
theorem dX11_lay_8 : decode cX11_lay 8 = .ok (.aload_n 0, 1) := by decide +kernel
theorem dX11_lay_9 : decode cX11_lay 9 = .ok (.iconst 0, 1) := by decide +kernel
theorem dX11_lay_10 : decode cX11_lay 10 = .ok (.putfield 53, 3) := by decide +kernel
theorem dX11_lay_13 : decode cX11_lay 13 = .ok (.aload_n 0, 1) := by decide +kernel
theorem dX11_lay_14 : decode cX11_lay 14 = .ok (.iconst 1, 1) := by decide +kernel
theorem dX11_lay_15 : decode cX11_lay 15 = .ok (.bipush (-6), 2) := by decide +kernel
theorem dX11_lay_17 : decode cX11_lay 17 = .ok (.invokevirtual 151, 3) := by decide +kernel
theorem dX11_lay_20 : decode cX11_lay 20 = .ok (.iconst 0, 1) := by decide +kernel
theorem dX11_lay_21 : decode cX11_lay 21 = .ok (.istore_n 1, 1) := by decide +kernel
theorem dX11_lay_22 : decode cX11_lay 22 = .ok (.iload_n 1, 1) := by decide +kernel
theorem dX11_lay_23 : decode cX11_lay 23 = .ok (.sipush 256, 3) := by decide +kernel
theorem dX11_lay_26 : decode cX11_lay 26 = .ok (.aload_n 0, 1) := by decide +kernel
theorem dX11_lay_27 : decode cX11_lay 27 = .ok (.getfield 92, 3) := by decide +kernel
theorem dX11_lay_30 : decode cX11_lay 30 = .ok (.imul, 1) := by decide +kernel
theorem dX11_lay_31 : decode cX11_lay 31 = .ok (.if_icmp .ge 16, 3) := by decide +kernel
theorem dX11_lay_34 : decode cX11_lay 34 = .ok (.aload_n 0, 1) := by decide +kernel
theorem dX11_lay_35 : decode cX11_lay 35 = .ok (.getfield 57, 3) := by decide +kernel
theorem dX11_lay_38 : decode cX11_lay 38 = .ok (.iload_n 1, 1) := by decide +kernel
theorem dX11_lay_39 : decode cX11_lay 39 = .ok (.iconst 0, 1) := by decide +kernel
theorem dX11_lay_40 : decode cX11_lay 40 = .ok (.iastore, 1) := by decide +kernel
theorem dX11_lay_41 : decode cX11_lay 41 = .ok (.iinc 1 1, 3) := by decide +kernel
theorem dX11_lay_44 : decode cX11_lay 44 = .ok (.goto (-22), 3) := by decide +kernel
theorem dX11_lay_47 : decode cX11_lay 47 = .ok (.iconst 1, 1) := by decide +kernel
theorem dX11_lay_48 : decode cX11_lay 48 = .ok (.istore_n 1, 1) := by decide +kernel
theorem dX11_lay_49 : decode cX11_lay 49 = .ok (.iload_n 1, 1) := by decide +kernel
theorem dX11_lay_50 : decode cX11_lay 50 = .ok (.bipush 10, 2) := by decide +kernel
theorem dX11_lay_52 : decode cX11_lay 52 = .ok (.if_icmp .gt 63, 3) := by decide +kernel
theorem dX11_lay_55 : decode cX11_lay 55 = .ok (.iconst 0, 1) := by decide +kernel
theorem dX11_lay_56 : decode cX11_lay 56 = .ok (.istore_n 2, 1) := by decide +kernel
theorem dX11_lay_57 : decode cX11_lay 57 = .ok (.iload_n 2, 1) := by decide +kernel
theorem dX11_lay_58 : decode cX11_lay 58 = .ok (.sipush 256, 3) := by decide +kernel
theorem dX11_lay_61 : decode cX11_lay 61 = .ok (.aload_n 0, 1) := by decide +kernel
theorem dX11_lay_62 : decode cX11_lay 62 = .ok (.getfield 92, 3) := by decide +kernel
theorem dX11_lay_65 : decode cX11_lay 65 = .ok (.imul, 1) := by decide +kernel
theorem dX11_lay_66 : decode cX11_lay 66 = .ok (.if_icmp .ge 43, 3) := by decide +kernel
theorem dX11_lay_69 : decode cX11_lay 69 = .ok (.aload_n 0, 1) := by decide +kernel
theorem dX11_lay_70 : decode cX11_lay 70 = .ok (.getfield 57, 3) := by decide +kernel
theorem dX11_lay_73 : decode cX11_lay 73 = .ok (.iload_n 2, 1) := by decide +kernel
theorem dX11_lay_74 : decode cX11_lay 74 = .ok (.iaload, 1) := by decide +kernel
theorem dX11_lay_75 : decode cX11_lay 75 = .ok (.ifCond .ne 28, 3) := by decide +kernel
theorem dX11_lay_78 : decode cX11_lay 78 = .ok (.aload_n 0, 1) := by decide +kernel
theorem dX11_lay_79 : decode cX11_lay 79 = .ok (.iload_n 2, 1) := by decide +kernel
theorem dX11_lay_80 : decode cX11_lay 80 = .ok (.sipush 256, 3) := by decide +kernel
theorem dX11_lay_83 : decode cX11_lay 83 = .ok (.idiv, 1) := by decide +kernel
theorem dX11_lay_84 : decode cX11_lay 84 = .ok (.iload_n 2, 1) := by decide +kernel
theorem dX11_lay_85 : decode cX11_lay 85 = .ok (.sipush 256, 3) := by decide +kernel
theorem dX11_lay_88 : decode cX11_lay 88 = .ok (.irem, 1) := by decide +kernel
theorem dX11_lay_89 : decode cX11_lay 89 = .ok (.iload_n 1, 1) := by decide +kernel
theorem dX11_lay_90 : decode cX11_lay 90 = .ok (.invokevirtual 165, 3) := by decide +kernel
theorem dX11_lay_93 : decode cX11_lay 93 = .ok (.ifCond .eq 10, 3) := by decide +kernel
theorem dX11_lay_96 : decode cX11_lay 96 = .ok (.aload_n 0, 1) := by decide +kernel
theorem dX11_lay_97 : decode cX11_lay 97 = .ok (.getfield 57, 3) := by decide +kernel
theorem dX11_lay_100 : decode cX11_lay 100 = .ok (.iload_n 2, 1) := by decide +kernel
theorem dX11_lay_101 : decode cX11_lay 101 = .ok (.iload_n 1, 1) := by decide +kernel
theorem dX11_lay_102 : decode cX11_lay 102 = .ok (.iastore, 1) := by decide +kernel
theorem dX11_lay_103 : decode cX11_lay 103 = .ok (.iinc 2 1, 3) := by decide +kernel
theorem dX11_lay_106 : decode cX11_lay 106 = .ok (.goto (-49), 3) := by decide +kernel
theorem dX11_lay_109 : decode cX11_lay 109 = .ok (.iinc 1 1, 3) := by decide +kernel
theorem dX11_lay_112 : decode cX11_lay 112 = .ok (.goto (-63), 3) := by decide +kernel
theorem dX11_lay_115 : decode cX11_lay 115 = .ok (.return_, 1) := by decide +kernel
theorem dX11_isBelow_0 : decode cX11_isBelow 0 = .ok (.aload_n 0, 1) := by decide +kernel
theorem dX11_isBelow_1 : decode cX11_isBelow 1 = .ok (.getfield 57, 3) := by decide +kernel
theorem dX11_isBelow_4 : decode cX11_isBelow 4 = .ok (.sipush 256, 3) := by decide +kernel
theorem dX11_isBelow_7 : decode cX11_isBelow 7 = .ok (.iload_n 1, 1) := by decide +kernel
theorem dX11_isBelow_8 : decode cX11_isBelow 8 = .ok (.imul, 1) := by decide +kernel
theorem dX11_isBelow_9 : decode cX11_isBelow 9 = .ok (.iload_n 2, 1) := by decide +kernel
theorem dX11_isBelow_10 : decode cX11_isBelow 10 = .ok (.iadd, 1) := by decide +kernel
theorem dX11_isBelow_11 : decode cX11_isBelow 11 = .ok (.iaload, 1) := by decide +kernel
theorem dX11_isBelow_12 : decode cX11_isBelow 12 = .ok (.istore 4, 2) := by decide +kernel
theorem dX11_isBelow_14 : decode cX11_isBelow 14 = .ok (.iload 4, 2) := by decide +kernel
theorem dX11_isBelow_16 : decode cX11_isBelow 16 = .ok (.ifCond .le 13, 3) := by decide +kernel
theorem dX11_isBelow_19 : decode cX11_isBelow 19 = .ok (.iload 4, 2) := by decide +kernel
theorem dX11_isBelow_21 : decode cX11_isBelow 21 = .ok (.iload_n 3, 1) := by decide +kernel
theorem dX11_isBelow_22 : decode cX11_isBelow 22 = .ok (.if_icmp .ge 7, 3) := by decide +kernel
theorem dX11_isBelow_25 : decode cX11_isBelow 25 = .ok (.iconst 1, 1) := by decide +kernel
theorem dX11_isBelow_26 : decode cX11_isBelow 26 = .ok (.goto 4, 3) := by decide +kernel
theorem dX11_isBelow_29 : decode cX11_isBelow 29 = .ok (.iconst 0, 1) := by decide +kernel
theorem dX11_isBelow_30 : decode cX11_isBelow 30 = .ok (.ireturn, 1) := by decide +kernel
theorem dX11_isTold_0 : decode cX11_isTold 0 = .ok (.iconst 3, 1) := by decide +kernel
theorem dX11_isTold_1 : decode cX11_isTold 1 = .ok (.iload_n 1, 1) := by decide +kernel
theorem dX11_isTold_2 : decode cX11_isTold 2 = .ok (.imul, 1) := by decide +kernel
theorem dX11_isTold_3 : decode cX11_isTold 3 = .ok (.iload_n 2, 1) := by decide +kernel
theorem dX11_isTold_4 : decode cX11_isTold 4 = .ok (.iadd, 1) := by decide +kernel
theorem dX11_isTold_5 : decode cX11_isTold 5 = .ok (.istore 6, 2) := by decide +kernel
theorem dX11_isTold_7 : decode cX11_isTold 7 = .ok (.iload_n 2, 1) := by decide +kernel
theorem dX11_isTold_8 : decode cX11_isTold 8 = .ok (.aload_n 0, 1) := by decide +kernel
theorem dX11_isTold_9 : decode cX11_isTold 9 = .ok (.getfield 32, 3) := by decide +kernel
theorem dX11_isTold_12 : decode cX11_isTold 12 = .ok (.iload_n 1, 1) := by decide +kernel
theorem dX11_isTold_13 : decode cX11_isTold 13 = .ok (.iaload, 1) := by decide +kernel
theorem dX11_isTold_14 : decode cX11_isTold 14 = .ok (.if_icmp .ge 14, 3) := by decide +kernel
theorem dX11_isTold_17 : decode cX11_isTold 17 = .ok (.aload_n 0, 1) := by decide +kernel
theorem dX11_isTold_18 : decode cX11_isTold 18 = .ok (.getfield 35, 3) := by decide +kernel
theorem dX11_isTold_21 : decode cX11_isTold 21 = .ok (.iload 6, 2) := by decide +kernel
theorem dX11_isTold_23 : decode cX11_isTold 23 = .ok (.iaload, 1) := by decide +kernel
theorem dX11_isTold_24 : decode cX11_isTold 24 = .ok (.iload_n 3, 1) := by decide +kernel
theorem dX11_isTold_25 : decode cX11_isTold 25 = .ok (.if_icmp .eq 5, 3) := by decide +kernel
theorem dX11_isTold_28 : decode cX11_isTold 28 = .ok (.iconst 0, 1) := by decide +kernel
theorem dX11_isTold_29 : decode cX11_isTold 29 = .ok (.ireturn, 1) := by decide +kernel
theorem dX11_isTold_30 : decode cX11_isTold 30 = .ok (.aload_n 0, 1) := by decide +kernel
theorem dX11_isTold_31 : decode cX11_isTold 31 = .ok (.getfield 38, 3) := by decide +kernel
theorem dX11_isTold_34 : decode cX11_isTold 34 = .ok (.iload 6, 2) := by decide +kernel
theorem dX11_isTold_36 : decode cX11_isTold 36 = .ok (.iaload, 1) := by decide +kernel
theorem dX11_isTold_37 : decode cX11_isTold 37 = .ok (.ifCond .ge 16, 3) := by decide +kernel
theorem dX11_isTold_40 : decode cX11_isTold 40 = .ok (.iload 4, 2) := by decide +kernel
theorem dX11_isTold_42 : decode cX11_isTold 42 = .ok (.ifCond .ne 7, 3) := by decide +kernel
theorem dX11_isTold_45 : decode cX11_isTold 45 = .ok (.iconst 1, 1) := by decide +kernel
theorem dX11_isTold_46 : decode cX11_isTold 46 = .ok (.goto 22, 3) := by decide +kernel
theorem dX11_isTold_49 : decode cX11_isTold 49 = .ok (.iconst 0, 1) := by decide +kernel
theorem dX11_isTold_50 : decode cX11_isTold 50 = .ok (.goto 18, 3) := by decide +kernel
theorem dX11_isTold_53 : decode cX11_isTold 53 = .ok (.aload_n 0, 1) := by decide +kernel
theorem dX11_isTold_54 : decode cX11_isTold 54 = .ok (.aload_n 0, 1) := by decide +kernel
theorem dX11_isTold_55 : decode cX11_isTold 55 = .ok (.getfield 38, 3) := by decide +kernel
theorem dX11_isTold_58 : decode cX11_isTold 58 = .ok (.iload 6, 2) := by decide +kernel
theorem dX11_isTold_60 : decode cX11_isTold 60 = .ok (.iaload, 1) := by decide +kernel
theorem dX11_isTold_61 : decode cX11_isTold 61 = .ok (.iload 4, 2) := by decide +kernel
theorem dX11_isTold_63 : decode cX11_isTold 63 = .ok (.iload 5, 2) := by decide +kernel
theorem dX11_isTold_65 : decode cX11_isTold 65 = .ok (.invokevirtual 168, 3) := by decide +kernel
theorem dX11_isTold_68 : decode cX11_isTold 68 = .ok (.ireturn, 1) := by decide +kernel
theorem dX11_firstFor_0 : decode cX11_firstFor 0 = .ok (.iconst 0, 1) := by decide +kernel
theorem dX11_firstFor_1 : decode cX11_firstFor 1 = .ok (.istore 4, 2) := by decide +kernel
theorem dX11_firstFor_3 : decode cX11_firstFor 3 = .ok (.iload 4, 2) := by decide +kernel
theorem dX11_firstFor_5 : decode cX11_firstFor 5 = .ok (.bipush 24, 2) := by decide +kernel
theorem dX11_firstFor_7 : decode cX11_firstFor 7 = .ok (.if_icmp .ge 58, 3) := by decide +kernel
theorem dX11_firstFor_10 : decode cX11_firstFor 10 = .ok (.iload 4, 2) := by decide +kernel
theorem dX11_firstFor_12 : decode cX11_firstFor 12 = .ok (.iconst 3, 1) := by decide +kernel
theorem dX11_firstFor_13 : decode cX11_firstFor 13 = .ok (.idiv, 1) := by decide +kernel
theorem dX11_firstFor_14 : decode cX11_firstFor 14 = .ok (.istore 5, 2) := by decide +kernel
theorem dX11_firstFor_16 : decode cX11_firstFor 16 = .ok (.iload_n 2, 1) := by decide +kernel
theorem dX11_firstFor_17 : decode cX11_firstFor 17 = .ok (.iload 5, 2) := by decide +kernel
theorem dX11_firstFor_19 : decode cX11_firstFor 19 = .ok (.invokestatic 171, 3) := by decide +kernel
theorem dX11_firstFor_22 : decode cX11_firstFor 22 = .ok (.ifCond .eq 37, 3) := by decide +kernel
theorem dX11_firstFor_25 : decode cX11_firstFor 25 = .ok (.aload_n 0, 1) := by decide +kernel
theorem dX11_firstFor_26 : decode cX11_firstFor 26 = .ok (.iload 5, 2) := by decide +kernel
theorem dX11_firstFor_28 : decode cX11_firstFor 28 = .ok (.iload 4, 2) := by decide +kernel
theorem dX11_firstFor_30 : decode cX11_firstFor 30 = .ok (.iconst 3, 1) := by decide +kernel
theorem dX11_firstFor_31 : decode cX11_firstFor 31 = .ok (.irem, 1) := by decide +kernel
theorem dX11_firstFor_32 : decode cX11_firstFor 32 = .ok (.iload_n 1, 1) := by decide +kernel
theorem dX11_firstFor_33 : decode cX11_firstFor 33 = .ok (.iload_n 2, 1) := by decide +kernel
theorem dX11_firstFor_34 : decode cX11_firstFor 34 = .ok (.iconst 1, 1) := by decide +kernel
theorem dX11_firstFor_35 : decode cX11_firstFor 35 = .ok (.iload 5, 2) := by decide +kernel
theorem dX11_firstFor_37 : decode cX11_firstFor 37 = .ok (.ishl, 1) := by decide +kernel
theorem dX11_firstFor_38 : decode cX11_firstFor 38 = .ok (.iconst (-1), 1) := by decide +kernel
theorem dX11_firstFor_39 : decode cX11_firstFor 39 = .ok (.ixor, 1) := by decide +kernel
theorem dX11_firstFor_40 : decode cX11_firstFor 40 = .ok (.iand, 1) := by decide +kernel
theorem dX11_firstFor_41 : decode cX11_firstFor 41 = .ok (.iload_n 3, 1) := by decide +kernel
theorem dX11_firstFor_42 : decode cX11_firstFor 42 = .ok (.invokevirtual 175, 3) := by decide +kernel
theorem dX11_firstFor_45 : decode cX11_firstFor 45 = .ok (.ifCond .eq 14, 3) := by decide +kernel
theorem dX11_firstFor_48 : decode cX11_firstFor 48 = .ok (.bipush 10, 2) := by decide +kernel
theorem dX11_firstFor_50 : decode cX11_firstFor 50 = .ok (.iload 5, 2) := by decide +kernel
theorem dX11_firstFor_52 : decode cX11_firstFor 52 = .ok (.imul, 1) := by decide +kernel
theorem dX11_firstFor_53 : decode cX11_firstFor 53 = .ok (.iload 4, 2) := by decide +kernel
theorem dX11_firstFor_55 : decode cX11_firstFor 55 = .ok (.iconst 3, 1) := by decide +kernel
theorem dX11_firstFor_56 : decode cX11_firstFor 56 = .ok (.irem, 1) := by decide +kernel
theorem dX11_firstFor_57 : decode cX11_firstFor 57 = .ok (.iadd, 1) := by decide +kernel
theorem dX11_firstFor_58 : decode cX11_firstFor 58 = .ok (.ireturn, 1) := by decide +kernel
theorem dX11_firstFor_59 : decode cX11_firstFor 59 = .ok (.iinc 4 1, 3) := by decide +kernel
theorem dX11_firstFor_62 : decode cX11_firstFor 62 = .ok (.goto (-59), 3) := by decide +kernel
theorem dX11_firstFor_65 : decode cX11_firstFor 65 = .ok (.iconst 0, 1) := by decide +kernel
theorem dX11_firstFor_66 : decode cX11_firstFor 66 = .ok (.istore 4, 2) := by decide +kernel
theorem dX11_firstFor_68 : decode cX11_firstFor 68 = .ok (.iload 4, 2) := by decide +kernel
theorem dX11_firstFor_70 : decode cX11_firstFor 70 = .ok (.bipush 12, 2) := by decide +kernel
theorem dX11_firstFor_72 : decode cX11_firstFor 72 = .ok (.if_icmp .ge 46, 3) := by decide +kernel
theorem dX11_firstFor_75 : decode cX11_firstFor 75 = .ok (.aload_n 0, 1) := by decide +kernel
theorem dX11_firstFor_76 : decode cX11_firstFor 76 = .ok (.bipush 8, 2) := by decide +kernel
theorem dX11_firstFor_78 : decode cX11_firstFor 78 = .ok (.iload 4, 2) := by decide +kernel
theorem dX11_firstFor_80 : decode cX11_firstFor 80 = .ok (.iconst 3, 1) := by decide +kernel
theorem dX11_firstFor_81 : decode cX11_firstFor 81 = .ok (.idiv, 1) := by decide +kernel
theorem dX11_firstFor_82 : decode cX11_firstFor 82 = .ok (.iadd, 1) := by decide +kernel
theorem dX11_firstFor_83 : decode cX11_firstFor 83 = .ok (.iload 4, 2) := by decide +kernel
theorem dX11_firstFor_85 : decode cX11_firstFor 85 = .ok (.iconst 3, 1) := by decide +kernel
theorem dX11_firstFor_86 : decode cX11_firstFor 86 = .ok (.irem, 1) := by decide +kernel
theorem dX11_firstFor_87 : decode cX11_firstFor 87 = .ok (.iload_n 1, 1) := by decide +kernel
theorem dX11_firstFor_88 : decode cX11_firstFor 88 = .ok (.iload_n 2, 1) := by decide +kernel
theorem dX11_firstFor_89 : decode cX11_firstFor 89 = .ok (.iload_n 3, 1) := by decide +kernel
theorem dX11_firstFor_90 : decode cX11_firstFor 90 = .ok (.invokevirtual 175, 3) := by decide +kernel
theorem dX11_firstFor_93 : decode cX11_firstFor 93 = .ok (.ifCond .eq 19, 3) := by decide +kernel
theorem dX11_firstFor_96 : decode cX11_firstFor 96 = .ok (.bipush 100, 2) := by decide +kernel
theorem dX11_firstFor_98 : decode cX11_firstFor 98 = .ok (.bipush 10, 2) := by decide +kernel
theorem dX11_firstFor_100 : decode cX11_firstFor 100 = .ok (.iload 4, 2) := by decide +kernel
theorem dX11_firstFor_102 : decode cX11_firstFor 102 = .ok (.iconst 3, 1) := by decide +kernel
theorem dX11_firstFor_103 : decode cX11_firstFor 103 = .ok (.idiv, 1) := by decide +kernel
theorem dX11_firstFor_104 : decode cX11_firstFor 104 = .ok (.imul, 1) := by decide +kernel
theorem dX11_firstFor_105 : decode cX11_firstFor 105 = .ok (.iadd, 1) := by decide +kernel
theorem dX11_firstFor_106 : decode cX11_firstFor 106 = .ok (.iload 4, 2) := by decide +kernel
theorem dX11_firstFor_108 : decode cX11_firstFor 108 = .ok (.iconst 3, 1) := by decide +kernel
theorem dX11_firstFor_109 : decode cX11_firstFor 109 = .ok (.irem, 1) := by decide +kernel
theorem dX11_firstFor_110 : decode cX11_firstFor 110 = .ok (.iadd, 1) := by decide +kernel
theorem dX11_firstFor_111 : decode cX11_firstFor 111 = .ok (.ireturn, 1) := by decide +kernel
theorem dX11_firstFor_112 : decode cX11_firstFor 112 = .ok (.iinc 4 1, 3) := by decide +kernel
theorem dX11_firstFor_115 : decode cX11_firstFor 115 = .ok (.goto (-47), 3) := by decide +kernel
theorem dX11_firstFor_118 : decode cX11_firstFor 118 = .ok (.bipush (-6), 2) := by decide +kernel
theorem dX11_firstFor_120 : decode cX11_firstFor 120 = .ok (.ireturn, 1) := by decide +kernel
theorem dX11_firstPart_0 : decode cX11_firstPart 0 = .ok (.iconst 0, 1) := by decide +kernel
theorem dX11_firstPart_1 : decode cX11_firstPart 1 = .ok (.istore 4, 2) := by decide +kernel
theorem dX11_firstPart_3 : decode cX11_firstPart 3 = .ok (.iload 4, 2) := by decide +kernel
theorem dX11_firstPart_5 : decode cX11_firstPart 5 = .ok (.sipush 256, 3) := by decide +kernel
theorem dX11_firstPart_8 : decode cX11_firstPart 8 = .ok (.if_icmp .ge 57, 3) := by decide +kernel
theorem dX11_firstPart_11 : decode cX11_firstPart 11 = .ok (.iload 4, 2) := by decide +kernel
theorem dX11_firstPart_13 : decode cX11_firstPart 13 = .ok (.iload_n 2, 1) := by decide +kernel
theorem dX11_firstPart_14 : decode cX11_firstPart 14 = .ok (.iconst (-1), 1) := by decide +kernel
theorem dX11_firstPart_15 : decode cX11_firstPart 15 = .ok (.ixor, 1) := by decide +kernel
theorem dX11_firstPart_16 : decode cX11_firstPart 16 = .ok (.iand, 1) := by decide +kernel
theorem dX11_firstPart_17 : decode cX11_firstPart 17 = .ok (.ifCond .ne 42, 3) := by decide +kernel
theorem dX11_firstPart_20 : decode cX11_firstPart 20 = .ok (.aload_n 0, 1) := by decide +kernel
theorem dX11_firstPart_21 : decode cX11_firstPart 21 = .ok (.aload_n 0, 1) := by decide +kernel
theorem dX11_firstPart_22 : decode cX11_firstPart 22 = .ok (.getfield 26, 3) := by decide +kernel
theorem dX11_firstPart_25 : decode cX11_firstPart 25 = .ok (.iload_n 1, 1) := by decide +kernel
theorem dX11_firstPart_26 : decode cX11_firstPart 26 = .ok (.iaload, 1) := by decide +kernel
theorem dX11_firstPart_27 : decode cX11_firstPart 27 = .ok (.iload 4, 2) := by decide +kernel
theorem dX11_firstPart_29 : decode cX11_firstPart 29 = .ok (.iload_n 3, 1) := by decide +kernel
theorem dX11_firstPart_30 : decode cX11_firstPart 30 = .ok (.invokevirtual 168, 3) := by decide +kernel
theorem dX11_firstPart_33 : decode cX11_firstPart 33 = .ok (.ifCond .eq 26, 3) := by decide +kernel
theorem dX11_firstPart_36 : decode cX11_firstPart 36 = .ok (.aload_n 0, 1) := by decide +kernel
theorem dX11_firstPart_37 : decode cX11_firstPart 37 = .ok (.aload_n 0, 1) := by decide +kernel
theorem dX11_firstPart_38 : decode cX11_firstPart 38 = .ok (.getfield 29, 3) := by decide +kernel
theorem dX11_firstPart_41 : decode cX11_firstPart 41 = .ok (.iload_n 1, 1) := by decide +kernel
theorem dX11_firstPart_42 : decode cX11_firstPart 42 = .ok (.iaload, 1) := by decide +kernel
theorem dX11_firstPart_43 : decode cX11_firstPart 43 = .ok (.iload_n 2, 1) := by decide +kernel
theorem dX11_firstPart_44 : decode cX11_firstPart 44 = .ok (.iload 4, 2) := by decide +kernel
theorem dX11_firstPart_46 : decode cX11_firstPart 46 = .ok (.iconst (-1), 1) := by decide +kernel
theorem dX11_firstPart_47 : decode cX11_firstPart 47 = .ok (.ixor, 1) := by decide +kernel
theorem dX11_firstPart_48 : decode cX11_firstPart 48 = .ok (.iand, 1) := by decide +kernel
theorem dX11_firstPart_49 : decode cX11_firstPart 49 = .ok (.iload_n 3, 1) := by decide +kernel
theorem dX11_firstPart_50 : decode cX11_firstPart 50 = .ok (.invokevirtual 168, 3) := by decide +kernel
theorem dX11_firstPart_53 : decode cX11_firstPart 53 = .ok (.ifCond .eq 6, 3) := by decide +kernel
theorem dX11_firstPart_56 : decode cX11_firstPart 56 = .ok (.iload 4, 2) := by decide +kernel
theorem dX11_firstPart_58 : decode cX11_firstPart 58 = .ok (.ireturn, 1) := by decide +kernel
theorem dX11_firstPart_59 : decode cX11_firstPart 59 = .ok (.iinc 4 1, 3) := by decide +kernel
theorem dX11_firstPart_62 : decode cX11_firstPart 62 = .ok (.goto (-59), 3) := by decide +kernel
theorem dX11_firstPart_65 : decode cX11_firstPart 65 = .ok (.bipush (-6), 2) := by decide +kernel
theorem dX11_firstPart_67 : decode cX11_firstPart 67 = .ok (.ireturn, 1) := by decide +kernel
theorem dX11_isReached_0 : decode cX11_isReached 0 = .ok (.aload_n 0, 1) := by decide +kernel
theorem dX11_isReached_1 : decode cX11_isReached 1 = .ok (.getfield 26, 3) := by decide +kernel
theorem dX11_isReached_4 : decode cX11_isReached 4 = .ok (.iload_n 1, 1) := by decide +kernel
theorem dX11_isReached_5 : decode cX11_isReached 5 = .ok (.iaload, 1) := by decide +kernel
theorem dX11_isReached_6 : decode cX11_isReached 6 = .ok (.istore 4, 2) := by decide +kernel
theorem dX11_isReached_8 : decode cX11_isReached 8 = .ok (.aload_n 0, 1) := by decide +kernel
theorem dX11_isReached_9 : decode cX11_isReached 9 = .ok (.getfield 29, 3) := by decide +kernel
theorem dX11_isReached_12 : decode cX11_isReached 12 = .ok (.iload_n 1, 1) := by decide +kernel
theorem dX11_isReached_13 : decode cX11_isReached 13 = .ok (.iaload, 1) := by decide +kernel
theorem dX11_isReached_14 : decode cX11_isReached 14 = .ok (.istore 5, 2) := by decide +kernel
theorem dX11_isReached_16 : decode cX11_isReached 16 = .ok (.aload_n 0, 1) := by decide +kernel
theorem dX11_isReached_17 : decode cX11_isReached 17 = .ok (.getfield 23, 3) := by decide +kernel
theorem dX11_isReached_20 : decode cX11_isReached 20 = .ok (.iload_n 1, 1) := by decide +kernel
theorem dX11_isReached_21 : decode cX11_isReached 21 = .ok (.iaload, 1) := by decide +kernel
theorem dX11_isReached_22 : decode cX11_isReached 22 = .ok (.tableswitch 164 0 6 #[42, 59, 69, 71, 92, 108, 136], 42) := by decide +kernel
theorem dX11_isReached_64 : decode cX11_isReached 64 = .ok (.aload_n 0, 1) := by decide +kernel
theorem dX11_isReached_65 : decode cX11_isReached 65 = .ok (.iload 4, 2) := by decide +kernel
theorem dX11_isReached_67 : decode cX11_isReached 67 = .ok (.iload_n 2, 1) := by decide +kernel
theorem dX11_isReached_68 : decode cX11_isReached 68 = .ok (.iload_n 3, 1) := by decide +kernel
theorem dX11_isReached_69 : decode cX11_isReached 69 = .ok (.invokevirtual 179, 3) := by decide +kernel
theorem dX11_isReached_72 : decode cX11_isReached 72 = .ok (.ifCond .lt 7, 3) := by decide +kernel
theorem dX11_isReached_75 : decode cX11_isReached 75 = .ok (.iconst 1, 1) := by decide +kernel
theorem dX11_isReached_76 : decode cX11_isReached 76 = .ok (.goto 4, 3) := by decide +kernel
theorem dX11_isReached_79 : decode cX11_isReached 79 = .ok (.iconst 0, 1) := by decide +kernel
theorem dX11_isReached_80 : decode cX11_isReached 80 = .ok (.ireturn, 1) := by decide +kernel
theorem dX11_isReached_81 : decode cX11_isReached 81 = .ok (.iload_n 2, 1) := by decide +kernel
theorem dX11_isReached_82 : decode cX11_isReached 82 = .ok (.ifCond .ne 7, 3) := by decide +kernel
theorem dX11_isReached_85 : decode cX11_isReached 85 = .ok (.iconst 1, 1) := by decide +kernel
theorem dX11_isReached_86 : decode cX11_isReached 86 = .ok (.goto 4, 3) := by decide +kernel
theorem dX11_isReached_89 : decode cX11_isReached 89 = .ok (.iconst 0, 1) := by decide +kernel
theorem dX11_isReached_90 : decode cX11_isReached 90 = .ok (.ireturn, 1) := by decide +kernel
theorem dX11_isReached_91 : decode cX11_isReached 91 = .ok (.iconst 1, 1) := by decide +kernel
theorem dX11_isReached_92 : decode cX11_isReached 92 = .ok (.ireturn, 1) := by decide +kernel
theorem dX11_isReached_93 : decode cX11_isReached 93 = .ok (.iload_n 2, 1) := by decide +kernel
theorem dX11_isReached_94 : decode cX11_isReached 94 = .ok (.ifCond .ne 18, 3) := by decide +kernel
theorem dX11_isReached_97 : decode cX11_isReached 97 = .ok (.aload_n 0, 1) := by decide +kernel
theorem dX11_isReached_98 : decode cX11_isReached 98 = .ok (.iload 4, 2) := by decide +kernel
theorem dX11_isReached_100 : decode cX11_isReached 100 = .ok (.iconst 0, 1) := by decide +kernel
theorem dX11_isReached_101 : decode cX11_isReached 101 = .ok (.iload_n 3, 1) := by decide +kernel
theorem dX11_isReached_102 : decode cX11_isReached 102 = .ok (.invokevirtual 168, 3) := by decide +kernel
theorem dX11_isReached_105 : decode cX11_isReached 105 = .ok (.ifCond .eq 7, 3) := by decide +kernel
theorem dX11_isReached_108 : decode cX11_isReached 108 = .ok (.iconst 1, 1) := by decide +kernel
theorem dX11_isReached_109 : decode cX11_isReached 109 = .ok (.goto 4, 3) := by decide +kernel
theorem dX11_isReached_112 : decode cX11_isReached 112 = .ok (.iconst 0, 1) := by decide +kernel
theorem dX11_isReached_113 : decode cX11_isReached 113 = .ok (.ireturn, 1) := by decide +kernel
theorem dX11_isReached_114 : decode cX11_isReached 114 = .ok (.aload_n 0, 1) := by decide +kernel
theorem dX11_isReached_115 : decode cX11_isReached 115 = .ok (.iload_n 1, 1) := by decide +kernel
theorem dX11_isReached_116 : decode cX11_isReached 116 = .ok (.iload_n 2, 1) := by decide +kernel
theorem dX11_isReached_117 : decode cX11_isReached 117 = .ok (.iload_n 3, 1) := by decide +kernel
theorem dX11_isReached_118 : decode cX11_isReached 118 = .ok (.invokevirtual 183, 3) := by decide +kernel
theorem dX11_isReached_121 : decode cX11_isReached 121 = .ok (.ifCond .lt 7, 3) := by decide +kernel
theorem dX11_isReached_124 : decode cX11_isReached 124 = .ok (.iconst 1, 1) := by decide +kernel
theorem dX11_isReached_125 : decode cX11_isReached 125 = .ok (.goto 4, 3) := by decide +kernel
theorem dX11_isReached_128 : decode cX11_isReached 128 = .ok (.iconst 0, 1) := by decide +kernel
theorem dX11_isReached_129 : decode cX11_isReached 129 = .ok (.ireturn, 1) := by decide +kernel
theorem dX11_isReached_130 : decode cX11_isReached 130 = .ok (.aload_n 0, 1) := by decide +kernel
theorem dX11_isReached_131 : decode cX11_isReached 131 = .ok (.iload 4, 2) := by decide +kernel
theorem dX11_isReached_133 : decode cX11_isReached 133 = .ok (.iload_n 2, 1) := by decide +kernel
theorem dX11_isReached_134 : decode cX11_isReached 134 = .ok (.iload_n 3, 1) := by decide +kernel
theorem dX11_isReached_135 : decode cX11_isReached 135 = .ok (.invokevirtual 168, 3) := by decide +kernel
theorem dX11_isReached_138 : decode cX11_isReached 138 = .ok (.ifCond .eq 18, 3) := by decide +kernel
theorem dX11_isReached_141 : decode cX11_isReached 141 = .ok (.aload_n 0, 1) := by decide +kernel
theorem dX11_isReached_142 : decode cX11_isReached 142 = .ok (.iload 5, 2) := by decide +kernel
theorem dX11_isReached_144 : decode cX11_isReached 144 = .ok (.iload_n 2, 1) := by decide +kernel
theorem dX11_isReached_145 : decode cX11_isReached 145 = .ok (.iload_n 3, 1) := by decide +kernel
theorem dX11_isReached_146 : decode cX11_isReached 146 = .ok (.invokevirtual 168, 3) := by decide +kernel
theorem dX11_isReached_149 : decode cX11_isReached 149 = .ok (.ifCond .eq 7, 3) := by decide +kernel
theorem dX11_isReached_152 : decode cX11_isReached 152 = .ok (.iconst 1, 1) := by decide +kernel
theorem dX11_isReached_153 : decode cX11_isReached 153 = .ok (.goto 4, 3) := by decide +kernel
theorem dX11_isReached_156 : decode cX11_isReached 156 = .ok (.iconst 0, 1) := by decide +kernel
theorem dX11_isReached_157 : decode cX11_isReached 157 = .ok (.ireturn, 1) := by decide +kernel
theorem dX11_isReached_158 : decode cX11_isReached 158 = .ok (.aload_n 0, 1) := by decide +kernel
theorem dX11_isReached_159 : decode cX11_isReached 159 = .ok (.iload 4, 2) := by decide +kernel
theorem dX11_isReached_161 : decode cX11_isReached 161 = .ok (.iload_n 2, 1) := by decide +kernel
theorem dX11_isReached_162 : decode cX11_isReached 162 = .ok (.iload_n 3, 1) := by decide +kernel
theorem dX11_isReached_163 : decode cX11_isReached 163 = .ok (.invokevirtual 168, 3) := by decide +kernel
theorem dX11_isReached_166 : decode cX11_isReached 166 = .ok (.ifCond .ne 14, 3) := by decide +kernel
theorem dX11_isReached_169 : decode cX11_isReached 169 = .ok (.aload_n 0, 1) := by decide +kernel
theorem dX11_isReached_170 : decode cX11_isReached 170 = .ok (.iload 5, 2) := by decide +kernel
theorem dX11_isReached_172 : decode cX11_isReached 172 = .ok (.iload_n 2, 1) := by decide +kernel
theorem dX11_isReached_173 : decode cX11_isReached 173 = .ok (.iload_n 3, 1) := by decide +kernel
theorem dX11_isReached_174 : decode cX11_isReached 174 = .ok (.invokevirtual 168, 3) := by decide +kernel
theorem dX11_isReached_177 : decode cX11_isReached 177 = .ok (.ifCond .eq 7, 3) := by decide +kernel
theorem dX11_isReached_180 : decode cX11_isReached 180 = .ok (.iconst 1, 1) := by decide +kernel
theorem dX11_isReached_181 : decode cX11_isReached 181 = .ok (.goto 4, 3) := by decide +kernel
theorem dX11_isReached_184 : decode cX11_isReached 184 = .ok (.iconst 0, 1) := by decide +kernel
theorem dX11_isReached_185 : decode cX11_isReached 185 = .ok (.ireturn, 1) := by decide +kernel
theorem dX11_isReached_186 : decode cX11_isReached 186 = .ok (.iload_n 2, 1) := by decide +kernel
theorem dX11_isReached_187 : decode cX11_isReached 187 = .ok (.iload 5, 2) := by decide +kernel
theorem dX11_isReached_189 : decode cX11_isReached 189 = .ok (.invokestatic 171, 3) := by decide +kernel
theorem dX11_isReached_192 : decode cX11_isReached 192 = .ok (.ifCond .ne 23, 3) := by decide +kernel
theorem dX11_isReached_195 : decode cX11_isReached 195 = .ok (.aload_n 0, 1) := by decide +kernel
theorem dX11_isReached_196 : decode cX11_isReached 196 = .ok (.iload 4, 2) := by decide +kernel
theorem dX11_isReached_198 : decode cX11_isReached 198 = .ok (.iload_n 2, 1) := by decide +kernel
theorem dX11_isReached_199 : decode cX11_isReached 199 = .ok (.iconst 1, 1) := by decide +kernel
theorem dX11_isReached_200 : decode cX11_isReached 200 = .ok (.iload 5, 2) := by decide +kernel
theorem dX11_isReached_202 : decode cX11_isReached 202 = .ok (.ishl, 1) := by decide +kernel
theorem dX11_isReached_203 : decode cX11_isReached 203 = .ok (.ior, 1) := by decide +kernel
theorem dX11_isReached_204 : decode cX11_isReached 204 = .ok (.iload_n 3, 1) := by decide +kernel
theorem dX11_isReached_205 : decode cX11_isReached 205 = .ok (.invokevirtual 168, 3) := by decide +kernel
theorem dX11_isReached_208 : decode cX11_isReached 208 = .ok (.ifCond .eq 7, 3) := by decide +kernel
theorem dX11_isReached_211 : decode cX11_isReached 211 = .ok (.iconst 1, 1) := by decide +kernel
theorem dX11_isReached_212 : decode cX11_isReached 212 = .ok (.goto 4, 3) := by decide +kernel
theorem dX11_isReached_215 : decode cX11_isReached 215 = .ok (.iconst 0, 1) := by decide +kernel
theorem dX11_isReached_216 : decode cX11_isReached 216 = .ok (.ireturn, 1) := by decide +kernel
theorem dX11_isGoal_0 : decode cX11_isGoal 0 = .ok (.aload_n 0, 1) := by decide +kernel
theorem dX11_isGoal_1 : decode cX11_isGoal 1 = .ok (.getfield 13, 3) := by decide +kernel
theorem dX11_isGoal_4 : decode cX11_isGoal 4 = .ok (.iconst 0, 1) := by decide +kernel
theorem dX11_isGoal_5 : decode cX11_isGoal 5 = .ok (.iaload, 1) := by decide +kernel
theorem dX11_isGoal_6 : decode cX11_isGoal 6 = .ok (.ifCond .lt 7, 3) := by decide +kernel
theorem dX11_isGoal_9 : decode cX11_isGoal 9 = .ok (.iconst 1, 1) := by decide +kernel
theorem dX11_isGoal_10 : decode cX11_isGoal 10 = .ok (.goto 4, 3) := by decide +kernel
theorem dX11_isGoal_13 : decode cX11_isGoal 13 = .ok (.iconst 0, 1) := by decide +kernel
theorem dX11_isGoal_14 : decode cX11_isGoal 14 = .ok (.ireturn, 1) := by decide +kernel
theorem dX11_all_0 : decode cX11_all 0 = .ok (.aload_n 0, 1) := by decide +kernel
theorem dX11_all_1 : decode cX11_all 1 = .ok (.iconst 1, 1) := by decide +kernel
theorem dX11_all_2 : decode cX11_all 2 = .ok (.iconst 5, 1) := by decide +kernel
theorem dX11_all_3 : decode cX11_all 3 = .ok (.invokevirtual 159, 3) := by decide +kernel
theorem dX11_all_6 : decode cX11_all 6 = .ok (.ireturn, 1) := by decide +kernel
theorem dX11_heightOf_0 : decode cX11_heightOf 0 = .ok (.aload_n 0, 1) := by decide +kernel
theorem dX11_heightOf_1 : decode cX11_heightOf 1 = .ok (.getfield 57, 3) := by decide +kernel
theorem dX11_heightOf_4 : decode cX11_heightOf 4 = .ok (.sipush 256, 3) := by decide +kernel
theorem dX11_heightOf_7 : decode cX11_heightOf 7 = .ok (.aload_n 0, 1) := by decide +kernel
theorem dX11_heightOf_8 : decode cX11_heightOf 8 = .ok (.getfield 98, 3) := by decide +kernel
theorem dX11_heightOf_11 : decode cX11_heightOf 11 = .ok (.imul, 1) := by decide +kernel
theorem dX11_heightOf_12 : decode cX11_heightOf 12 = .ok (.iload_n 1, 1) := by decide +kernel
theorem dX11_heightOf_13 : decode cX11_heightOf 13 = .ok (.iadd, 1) := by decide +kernel
theorem dX11_heightOf_14 : decode cX11_heightOf 14 = .ok (.iaload, 1) := by decide +kernel
theorem dX11_heightOf_15 : decode cX11_heightOf 15 = .ok (.ifCond .ne 8, 3) := by decide +kernel
theorem dX11_heightOf_18 : decode cX11_heightOf 18 = .ok (.bipush (-6), 2) := by decide +kernel
theorem dX11_heightOf_20 : decode cX11_heightOf 20 = .ok (.goto 18, 3) := by decide +kernel
theorem dX11_heightOf_23 : decode cX11_heightOf 23 = .ok (.aload_n 0, 1) := by decide +kernel
theorem dX11_heightOf_24 : decode cX11_heightOf 24 = .ok (.getfield 57, 3) := by decide +kernel
theorem dX11_heightOf_27 : decode cX11_heightOf 27 = .ok (.sipush 256, 3) := by decide +kernel
theorem dX11_heightOf_30 : decode cX11_heightOf 30 = .ok (.aload_n 0, 1) := by decide +kernel
theorem dX11_heightOf_31 : decode cX11_heightOf 31 = .ok (.getfield 98, 3) := by decide +kernel
theorem dX11_heightOf_34 : decode cX11_heightOf 34 = .ok (.imul, 1) := by decide +kernel
theorem dX11_heightOf_35 : decode cX11_heightOf 35 = .ok (.iload_n 1, 1) := by decide +kernel
theorem dX11_heightOf_36 : decode cX11_heightOf 36 = .ok (.iadd, 1) := by decide +kernel
theorem dX11_heightOf_37 : decode cX11_heightOf 37 = .ok (.iaload, 1) := by decide +kernel
theorem dX11_heightOf_38 : decode cX11_heightOf 38 = .ok (.ireturn, 1) := by decide +kernel
theorem dX11_areThere_0 : decode cX11_areThere 0 = .ok (.iload_n 1, 1) := by decide +kernel
theorem dX11_areThere_1 : decode cX11_areThere 1 = .ok (.ifCond .lt 18, 3) := by decide +kernel
theorem dX11_areThere_4 : decode cX11_areThere 4 = .ok (.iload_n 1, 1) := by decide +kernel
theorem dX11_areThere_5 : decode cX11_areThere 5 = .ok (.aload_n 0, 1) := by decide +kernel
theorem dX11_areThere_6 : decode cX11_areThere 6 = .ok (.invokevirtual 186, 3) := by decide +kernel
theorem dX11_areThere_9 : decode cX11_areThere 9 = .ok (.iconst (-1), 1) := by decide +kernel
theorem dX11_areThere_10 : decode cX11_areThere 10 = .ok (.ixor, 1) := by decide +kernel
theorem dX11_areThere_11 : decode cX11_areThere 11 = .ok (.iand, 1) := by decide +kernel
theorem dX11_areThere_12 : decode cX11_areThere 12 = .ok (.ifCond .ne 7, 3) := by decide +kernel
theorem dX11_areThere_15 : decode cX11_areThere 15 = .ok (.iconst 1, 1) := by decide +kernel
theorem dX11_areThere_16 : decode cX11_areThere 16 = .ok (.goto 4, 3) := by decide +kernel
theorem dX11_areThere_19 : decode cX11_areThere 19 = .ok (.iconst 0, 1) := by decide +kernel
theorem dX11_areThere_20 : decode cX11_areThere 20 = .ok (.ireturn, 1) := by decide +kernel
theorem dX11_height_0 : decode cX11_height 0 = .ok (.aload_n 0, 1) := by decide +kernel
theorem dX11_height_1 : decode cX11_height 1 = .ok (.iload_n 1, 1) := by decide +kernel
theorem dX11_height_2 : decode cX11_height 2 = .ok (.invokevirtual 190, 3) := by decide +kernel
theorem dX11_height_5 : decode cX11_height 5 = .ok (.ifCond .ne 5, 3) := by decide +kernel
theorem dX11_height_8 : decode cX11_height 8 = .ok (.iconst (-1), 1) := by decide +kernel
theorem dX11_height_9 : decode cX11_height 9 = .ok (.ireturn, 1) := by decide +kernel
theorem dX11_height_10 : decode cX11_height 10 = .ok (.aload_n 0, 1) := by decide +kernel
theorem dX11_height_11 : decode cX11_height 11 = .ok (.invokevirtual 193, 3) := by decide +kernel
theorem dX11_height_14 : decode cX11_height 14 = .ok (.ifCond .ne 6, 3) := by decide +kernel
theorem dX11_height_17 : decode cX11_height 17 = .ok (.bipush (-3), 2) := by decide +kernel
theorem dX11_height_19 : decode cX11_height 19 = .ok (.ireturn, 1) := by decide +kernel
theorem dX11_height_20 : decode cX11_height 20 = .ok (.aload_n 0, 1) := by decide +kernel
theorem dX11_height_21 : decode cX11_height 21 = .ok (.invokevirtual 197, 3) := by decide +kernel
theorem dX11_height_24 : decode cX11_height 24 = .ok (.aload_n 0, 1) := by decide +kernel
theorem dX11_height_25 : decode cX11_height 25 = .ok (.iload_n 1, 1) := by decide +kernel
theorem dX11_height_26 : decode cX11_height 26 = .ok (.invokevirtual 200, 3) := by decide +kernel
theorem dX11_height_29 : decode cX11_height 29 = .ok (.ireturn, 1) := by decide +kernel
theorem dX11_left_0 : decode cX11_left 0 = .ok (.iload_n 1, 1) := by decide +kernel
theorem dX11_left_1 : decode cX11_left 1 = .ok (.iconst 0, 1) := by decide +kernel
theorem dX11_left_2 : decode cX11_left 2 = .ok (.bipush 10, 2) := by decide +kernel
theorem dX11_left_4 : decode cX11_left 4 = .ok (.invokestatic 104, 3) := by decide +kernel
theorem dX11_left_7 : decode cX11_left 7 = .ok (.ifCond .eq 8, 3) := by decide +kernel
theorem dX11_left_10 : decode cX11_left 10 = .ok (.iload_n 2, 1) := by decide +kernel
theorem dX11_left_11 : decode cX11_left 11 = .ok (.iconst (-1), 1) := by decide +kernel
theorem dX11_left_12 : decode cX11_left 12 = .ok (.if_icmp .ge 6, 3) := by decide +kernel
theorem dX11_left_15 : decode cX11_left 15 = .ok (.bipush (-2), 2) := by decide +kernel
theorem dX11_left_17 : decode cX11_left 17 = .ok (.ireturn, 1) := by decide +kernel
theorem dX11_left_18 : decode cX11_left 18 = .ok (.aload_n 0, 1) := by decide +kernel
theorem dX11_left_19 : decode cX11_left 19 = .ok (.invokevirtual 193, 3) := by decide +kernel
theorem dX11_left_22 : decode cX11_left 22 = .ok (.ifCond .ne 6, 3) := by decide +kernel
theorem dX11_left_25 : decode cX11_left 25 = .ok (.bipush (-3), 2) := by decide +kernel
theorem dX11_left_27 : decode cX11_left 27 = .ok (.ireturn, 1) := by decide +kernel
theorem dX11_left_28 : decode cX11_left 28 = .ok (.aload_n 0, 1) := by decide +kernel
theorem dX11_left_29 : decode cX11_left 29 = .ok (.invokevirtual 197, 3) := by decide +kernel
theorem dX11_left_32 : decode cX11_left 32 = .ok (.iconst 0, 1) := by decide +kernel
theorem dX11_left_33 : decode cX11_left 33 = .ok (.istore_n 3, 1) := by decide +kernel
theorem dX11_left_34 : decode cX11_left 34 = .ok (.iconst 0, 1) := by decide +kernel
theorem dX11_left_35 : decode cX11_left 35 = .ok (.istore 4, 2) := by decide +kernel
theorem dX11_left_37 : decode cX11_left 37 = .ok (.iload 4, 2) := by decide +kernel
theorem dX11_left_39 : decode cX11_left 39 = .ok (.bipush 32, 2) := by decide +kernel
theorem dX11_left_41 : decode cX11_left 41 = .ok (.if_icmp .ge 55, 3) := by decide +kernel
theorem dX11_left_44 : decode cX11_left 44 = .ok (.iload 4, 2) := by decide +kernel
theorem dX11_left_46 : decode cX11_left 46 = .ok (.aload_n 0, 1) := by decide +kernel
theorem dX11_left_47 : decode cX11_left 47 = .ok (.invokevirtual 186, 3) := by decide +kernel
theorem dX11_left_50 : decode cX11_left 50 = .ok (.iconst (-1), 1) := by decide +kernel
theorem dX11_left_51 : decode cX11_left 51 = .ok (.ixor, 1) := by decide +kernel
theorem dX11_left_52 : decode cX11_left 52 = .ok (.iand, 1) := by decide +kernel
theorem dX11_left_53 : decode cX11_left 53 = .ok (.ifCond .ne 37, 3) := by decide +kernel
theorem dX11_left_56 : decode cX11_left 56 = .ok (.aload_n 0, 1) := by decide +kernel
theorem dX11_left_57 : decode cX11_left 57 = .ok (.aload_n 0, 1) := by decide +kernel
theorem dX11_left_58 : decode cX11_left 58 = .ok (.getfield 98, 3) := by decide +kernel
theorem dX11_left_61 : decode cX11_left 61 = .ok (.aload_n 0, 1) := by decide +kernel
theorem dX11_left_62 : decode cX11_left 62 = .ok (.invokevirtual 186, 3) := by decide +kernel
theorem dX11_left_65 : decode cX11_left 65 = .ok (.iload 4, 2) := by decide +kernel
theorem dX11_left_67 : decode cX11_left 67 = .ok (.iconst (-1), 1) := by decide +kernel
theorem dX11_left_68 : decode cX11_left 68 = .ok (.ixor, 1) := by decide +kernel
theorem dX11_left_69 : decode cX11_left 69 = .ok (.iand, 1) := by decide +kernel
theorem dX11_left_70 : decode cX11_left 70 = .ok (.iload_n 1, 1) := by decide +kernel
theorem dX11_left_71 : decode cX11_left 71 = .ok (.iconst 1, 1) := by decide +kernel
theorem dX11_left_72 : decode cX11_left 72 = .ok (.iadd, 1) := by decide +kernel
theorem dX11_left_73 : decode cX11_left 73 = .ok (.invokevirtual 168, 3) := by decide +kernel
theorem dX11_left_76 : decode cX11_left 76 = .ok (.ifCond .eq 14, 3) := by decide +kernel
theorem dX11_left_79 : decode cX11_left 79 = .ok (.iload_n 3, 1) := by decide +kernel
theorem dX11_left_80 : decode cX11_left 80 = .ok (.iload_n 2, 1) := by decide +kernel
theorem dX11_left_81 : decode cX11_left 81 = .ok (.if_icmp .ne 6, 3) := by decide +kernel
theorem dX11_left_84 : decode cX11_left 84 = .ok (.iload 4, 2) := by decide +kernel
theorem dX11_left_86 : decode cX11_left 86 = .ok (.ireturn, 1) := by decide +kernel
theorem dX11_left_87 : decode cX11_left 87 = .ok (.iinc 3 1, 3) := by decide +kernel
theorem dX11_left_90 : decode cX11_left 90 = .ok (.iinc 4 1, 3) := by decide +kernel
theorem dX11_left_93 : decode cX11_left 93 = .ok (.goto (-56), 3) := by decide +kernel
theorem dX11_left_96 : decode cX11_left 96 = .ok (.iload_n 2, 1) := by decide +kernel
theorem dX11_left_97 : decode cX11_left 97 = .ok (.iconst (-1), 1) := by decide +kernel
theorem dX11_left_98 : decode cX11_left 98 = .ok (.if_icmp .ne 7, 3) := by decide +kernel
theorem dX11_left_101 : decode cX11_left 101 = .ok (.iload_n 3, 1) := by decide +kernel
theorem dX11_left_102 : decode cX11_left 102 = .ok (.goto 5, 3) := by decide +kernel
theorem dX11_left_105 : decode cX11_left 105 = .ok (.bipush (-6), 2) := by decide +kernel
theorem dX11_left_107 : decode cX11_left 107 = .ok (.ireturn, 1) := by decide +kernel
theorem dX11_capped_0 : decode cX11_capped 0 = .ok (.lload_n 0, 1) := by decide +kernel
theorem dX11_capped_1 : decode cX11_capped 1 = .ok (.ldc2_w 203, 3) := by decide +kernel
theorem dX11_capped_4 : decode cX11_capped 4 = .ok (.lcmp, 1) := by decide +kernel
theorem dX11_capped_5 : decode cX11_capped 5 = .ok (.ifCond .le 9, 3) := by decide +kernel
theorem dX11_capped_8 : decode cX11_capped 8 = .ok (.ldc2_w 203, 3) := by decide +kernel
theorem dX11_capped_11 : decode cX11_capped 11 = .ok (.goto 4, 3) := by decide +kernel
theorem dX11_capped_14 : decode cX11_capped 14 = .ok (.lload_n 0, 1) := by decide +kernel
theorem dX11_capped_15 : decode cX11_capped 15 = .ok (.lreturn, 1) := by decide +kernel
theorem dX11_waysBelow_0 : decode cX11_waysBelow 0 = .ok (.aload_n 0, 1) := by decide +kernel
theorem dX11_waysBelow_1 : decode cX11_waysBelow 1 = .ok (.getfield 60, 3) := by decide +kernel
theorem dX11_waysBelow_4 : decode cX11_waysBelow 4 = .ok (.sipush 256, 3) := by decide +kernel
theorem dX11_waysBelow_7 : decode cX11_waysBelow 7 = .ok (.iload_n 1, 1) := by decide +kernel
theorem dX11_waysBelow_8 : decode cX11_waysBelow 8 = .ok (.imul, 1) := by decide +kernel
theorem dX11_waysBelow_9 : decode cX11_waysBelow 9 = .ok (.iload_n 2, 1) := by decide +kernel
theorem dX11_waysBelow_10 : decode cX11_waysBelow 10 = .ok (.iadd, 1) := by decide +kernel
theorem dX11_waysBelow_11 : decode cX11_waysBelow 11 = .ok (.laload, 1) := by decide +kernel
theorem dX11_waysBelow_12 : decode cX11_waysBelow 12 = .ok (.lreturn, 1) := by decide +kernel
theorem dX11_waysBy_0 : decode cX11_waysBy 0 = .ok (.lconst 0, 1) := by decide +kernel
theorem dX11_waysBy_1 : decode cX11_waysBy 1 = .ok (.lstore 4, 2) := by decide +kernel
theorem dX11_waysBy_3 : decode cX11_waysBy 3 = .ok (.iconst 0, 1) := by decide +kernel
theorem dX11_waysBy_4 : decode cX11_waysBy 4 = .ok (.istore 6, 2) := by decide +kernel
theorem dX11_waysBy_6 : decode cX11_waysBy 6 = .ok (.iload 6, 2) := by decide +kernel
theorem dX11_waysBy_8 : decode cX11_waysBy 8 = .ok (.aload_n 0, 1) := by decide +kernel
theorem dX11_waysBy_9 : decode cX11_waysBy 9 = .ok (.getfield 32, 3) := by decide +kernel
theorem dX11_waysBy_12 : decode cX11_waysBy 12 = .ok (.iload_n 1, 1) := by decide +kernel
theorem dX11_waysBy_13 : decode cX11_waysBy 13 = .ok (.iaload, 1) := by decide +kernel
theorem dX11_waysBy_14 : decode cX11_waysBy 14 = .ok (.if_icmp .ge 67, 3) := by decide +kernel
theorem dX11_waysBy_17 : decode cX11_waysBy 17 = .ok (.iconst 3, 1) := by decide +kernel
theorem dX11_waysBy_18 : decode cX11_waysBy 18 = .ok (.iload_n 1, 1) := by decide +kernel
theorem dX11_waysBy_19 : decode cX11_waysBy 19 = .ok (.imul, 1) := by decide +kernel
theorem dX11_waysBy_20 : decode cX11_waysBy 20 = .ok (.iload 6, 2) := by decide +kernel
theorem dX11_waysBy_22 : decode cX11_waysBy 22 = .ok (.iadd, 1) := by decide +kernel
theorem dX11_waysBy_23 : decode cX11_waysBy 23 = .ok (.istore 7, 2) := by decide +kernel
theorem dX11_waysBy_25 : decode cX11_waysBy 25 = .ok (.aload_n 0, 1) := by decide +kernel
theorem dX11_waysBy_26 : decode cX11_waysBy 26 = .ok (.getfield 35, 3) := by decide +kernel
theorem dX11_waysBy_29 : decode cX11_waysBy 29 = .ok (.iload 7, 2) := by decide +kernel
theorem dX11_waysBy_31 : decode cX11_waysBy 31 = .ok (.iaload, 1) := by decide +kernel
theorem dX11_waysBy_32 : decode cX11_waysBy 32 = .ok (.iload_n 2, 1) := by decide +kernel
theorem dX11_waysBy_33 : decode cX11_waysBy 33 = .ok (.if_icmp .ne 42, 3) := by decide +kernel
theorem dX11_waysBy_36 : decode cX11_waysBy 36 = .ok (.lload 4, 2) := by decide +kernel
theorem dX11_waysBy_38 : decode cX11_waysBy 38 = .ok (.aload_n 0, 1) := by decide +kernel
theorem dX11_waysBy_39 : decode cX11_waysBy 39 = .ok (.getfield 38, 3) := by decide +kernel
theorem dX11_waysBy_42 : decode cX11_waysBy 42 = .ok (.iload 7, 2) := by decide +kernel
theorem dX11_waysBy_44 : decode cX11_waysBy 44 = .ok (.iaload, 1) := by decide +kernel
theorem dX11_waysBy_45 : decode cX11_waysBy 45 = .ok (.ifCond .ge 15, 3) := by decide +kernel
theorem dX11_waysBy_48 : decode cX11_waysBy 48 = .ok (.iload_n 3, 1) := by decide +kernel
theorem dX11_waysBy_49 : decode cX11_waysBy 49 = .ok (.ifCond .ne 7, 3) := by decide +kernel
theorem dX11_waysBy_52 : decode cX11_waysBy 52 = .ok (.lconst 1, 1) := by decide +kernel
theorem dX11_waysBy_53 : decode cX11_waysBy 53 = .ok (.goto 19, 3) := by decide +kernel
theorem dX11_waysBy_56 : decode cX11_waysBy 56 = .ok (.lconst 0, 1) := by decide +kernel
theorem dX11_waysBy_57 : decode cX11_waysBy 57 = .ok (.goto 15, 3) := by decide +kernel
theorem dX11_waysBy_60 : decode cX11_waysBy 60 = .ok (.aload_n 0, 1) := by decide +kernel
theorem dX11_waysBy_61 : decode cX11_waysBy 61 = .ok (.aload_n 0, 1) := by decide +kernel
theorem dX11_waysBy_62 : decode cX11_waysBy 62 = .ok (.getfield 38, 3) := by decide +kernel
theorem dX11_waysBy_65 : decode cX11_waysBy 65 = .ok (.iload 7, 2) := by decide +kernel
theorem dX11_waysBy_67 : decode cX11_waysBy 67 = .ok (.iaload, 1) := by decide +kernel
theorem dX11_waysBy_68 : decode cX11_waysBy 68 = .ok (.iload_n 3, 1) := by decide +kernel
theorem dX11_waysBy_69 : decode cX11_waysBy 69 = .ok (.invokevirtual 205, 3) := by decide +kernel
theorem dX11_waysBy_72 : decode cX11_waysBy 72 = .ok (.ladd, 1) := by decide +kernel
theorem dX11_waysBy_73 : decode cX11_waysBy 73 = .ok (.lstore 4, 2) := by decide +kernel
theorem dX11_waysBy_75 : decode cX11_waysBy 75 = .ok (.iinc 6 1, 3) := by decide +kernel
theorem dX11_waysBy_78 : decode cX11_waysBy 78 = .ok (.goto (-72), 3) := by decide +kernel
theorem dX11_waysBy_81 : decode cX11_waysBy 81 = .ok (.lload 4, 2) := by decide +kernel
theorem dX11_waysBy_83 : decode cX11_waysBy 83 = .ok (.lreturn, 1) := by decide +kernel
theorem dX11_waysOfAtom_0 : decode cX11_waysOfAtom 0 = .ok (.lconst 0, 1) := by decide +kernel
theorem dX11_waysOfAtom_1 : decode cX11_waysOfAtom 1 = .ok (.lstore_n 3, 1) := by decide +kernel
theorem dX11_waysOfAtom_2 : decode cX11_waysOfAtom 2 = .ok (.iconst 0, 1) := by decide +kernel
theorem dX11_waysOfAtom_3 : decode cX11_waysOfAtom 3 = .ok (.istore 5, 2) := by decide +kernel
theorem dX11_waysOfAtom_5 : decode cX11_waysOfAtom 5 = .ok (.iload 5, 2) := by decide +kernel
theorem dX11_waysOfAtom_7 : decode cX11_waysOfAtom 7 = .ok (.bipush 12, 2) := by decide +kernel
theorem dX11_waysOfAtom_9 : decode cX11_waysOfAtom 9 = .ok (.if_icmp .ge 57, 3) := by decide +kernel
theorem dX11_waysOfAtom_12 : decode cX11_waysOfAtom 12 = .ok (.iload 5, 2) := by decide +kernel
theorem dX11_waysOfAtom_14 : decode cX11_waysOfAtom 14 = .ok (.bipush 7, 2) := by decide +kernel
theorem dX11_waysOfAtom_16 : decode cX11_waysOfAtom 16 = .ok (.if_icmp .le 17, 3) := by decide +kernel
theorem dX11_waysOfAtom_19 : decode cX11_waysOfAtom 19 = .ok (.lload_n 3, 1) := by decide +kernel
theorem dX11_waysOfAtom_20 : decode cX11_waysOfAtom 20 = .ok (.aload_n 0, 1) := by decide +kernel
theorem dX11_waysOfAtom_21 : decode cX11_waysOfAtom 21 = .ok (.iload 5, 2) := by decide +kernel
theorem dX11_waysOfAtom_23 : decode cX11_waysOfAtom 23 = .ok (.iload_n 1, 1) := by decide +kernel
theorem dX11_waysOfAtom_24 : decode cX11_waysOfAtom 24 = .ok (.iload_n 2, 1) := by decide +kernel
theorem dX11_waysOfAtom_25 : decode cX11_waysOfAtom 25 = .ok (.invokevirtual 209, 3) := by decide +kernel
theorem dX11_waysOfAtom_28 : decode cX11_waysOfAtom 28 = .ok (.ladd, 1) := by decide +kernel
theorem dX11_waysOfAtom_29 : decode cX11_waysOfAtom 29 = .ok (.lstore_n 3, 1) := by decide +kernel
theorem dX11_waysOfAtom_30 : decode cX11_waysOfAtom 30 = .ok (.goto 30, 3) := by decide +kernel
theorem dX11_waysOfAtom_33 : decode cX11_waysOfAtom 33 = .ok (.iload_n 2, 1) := by decide +kernel
theorem dX11_waysOfAtom_34 : decode cX11_waysOfAtom 34 = .ok (.iload 5, 2) := by decide +kernel
theorem dX11_waysOfAtom_36 : decode cX11_waysOfAtom 36 = .ok (.invokestatic 171, 3) := by decide +kernel
theorem dX11_waysOfAtom_39 : decode cX11_waysOfAtom 39 = .ok (.ifCond .eq 21, 3) := by decide +kernel
theorem dX11_waysOfAtom_42 : decode cX11_waysOfAtom 42 = .ok (.lload_n 3, 1) := by decide +kernel
theorem dX11_waysOfAtom_43 : decode cX11_waysOfAtom 43 = .ok (.aload_n 0, 1) := by decide +kernel
theorem dX11_waysOfAtom_44 : decode cX11_waysOfAtom 44 = .ok (.iload 5, 2) := by decide +kernel
theorem dX11_waysOfAtom_46 : decode cX11_waysOfAtom 46 = .ok (.iload_n 1, 1) := by decide +kernel
theorem dX11_waysOfAtom_47 : decode cX11_waysOfAtom 47 = .ok (.iload_n 2, 1) := by decide +kernel
theorem dX11_waysOfAtom_48 : decode cX11_waysOfAtom 48 = .ok (.iconst 1, 1) := by decide +kernel
theorem dX11_waysOfAtom_49 : decode cX11_waysOfAtom 49 = .ok (.iload 5, 2) := by decide +kernel
theorem dX11_waysOfAtom_51 : decode cX11_waysOfAtom 51 = .ok (.ishl, 1) := by decide +kernel
theorem dX11_waysOfAtom_52 : decode cX11_waysOfAtom 52 = .ok (.iconst (-1), 1) := by decide +kernel
theorem dX11_waysOfAtom_53 : decode cX11_waysOfAtom 53 = .ok (.ixor, 1) := by decide +kernel
theorem dX11_waysOfAtom_54 : decode cX11_waysOfAtom 54 = .ok (.iand, 1) := by decide +kernel
theorem dX11_waysOfAtom_55 : decode cX11_waysOfAtom 55 = .ok (.invokevirtual 209, 3) := by decide +kernel
theorem dX11_waysOfAtom_58 : decode cX11_waysOfAtom 58 = .ok (.ladd, 1) := by decide +kernel
theorem dX11_waysOfAtom_59 : decode cX11_waysOfAtom 59 = .ok (.lstore_n 3, 1) := by decide +kernel
theorem dX11_waysOfAtom_60 : decode cX11_waysOfAtom 60 = .ok (.iinc 5 1, 3) := by decide +kernel
theorem dX11_waysOfAtom_63 : decode cX11_waysOfAtom 63 = .ok (.goto (-58), 3) := by decide +kernel
theorem dX11_waysOfAtom_66 : decode cX11_waysOfAtom 66 = .ok (.lload_n 3, 1) := by decide +kernel
theorem dX11_waysOfAtom_67 : decode cX11_waysOfAtom 67 = .ok (.lreturn, 1) := by decide +kernel
theorem dX11_waysOfParts_0 : decode cX11_waysOfParts 0 = .ok (.lconst 0, 1) := by decide +kernel
theorem dX11_waysOfParts_1 : decode cX11_waysOfParts 1 = .ok (.lstore_n 3, 1) := by decide +kernel
theorem dX11_waysOfParts_2 : decode cX11_waysOfParts 2 = .ok (.iconst 0, 1) := by decide +kernel
theorem dX11_waysOfParts_3 : decode cX11_waysOfParts 3 = .ok (.istore 5, 2) := by decide +kernel
theorem dX11_waysOfParts_5 : decode cX11_waysOfParts 5 = .ok (.iload 5, 2) := by decide +kernel
theorem dX11_waysOfParts_7 : decode cX11_waysOfParts 7 = .ok (.sipush 256, 3) := by decide +kernel
theorem dX11_waysOfParts_10 : decode cX11_waysOfParts 10 = .ok (.if_icmp .ge 56, 3) := by decide +kernel
theorem dX11_waysOfParts_13 : decode cX11_waysOfParts 13 = .ok (.iload 5, 2) := by decide +kernel
theorem dX11_waysOfParts_15 : decode cX11_waysOfParts 15 = .ok (.iload_n 2, 1) := by decide +kernel
theorem dX11_waysOfParts_16 : decode cX11_waysOfParts 16 = .ok (.iconst (-1), 1) := by decide +kernel
theorem dX11_waysOfParts_17 : decode cX11_waysOfParts 17 = .ok (.ixor, 1) := by decide +kernel
theorem dX11_waysOfParts_18 : decode cX11_waysOfParts 18 = .ok (.iand, 1) := by decide +kernel
theorem dX11_waysOfParts_19 : decode cX11_waysOfParts 19 = .ok (.ifCond .ne 41, 3) := by decide +kernel
theorem dX11_waysOfParts_22 : decode cX11_waysOfParts 22 = .ok (.lload_n 3, 1) := by decide +kernel
theorem dX11_waysOfParts_23 : decode cX11_waysOfParts 23 = .ok (.aload_n 0, 1) := by decide +kernel
theorem dX11_waysOfParts_24 : decode cX11_waysOfParts 24 = .ok (.aload_n 0, 1) := by decide +kernel
theorem dX11_waysOfParts_25 : decode cX11_waysOfParts 25 = .ok (.getfield 26, 3) := by decide +kernel
theorem dX11_waysOfParts_28 : decode cX11_waysOfParts 28 = .ok (.iload_n 1, 1) := by decide +kernel
theorem dX11_waysOfParts_29 : decode cX11_waysOfParts 29 = .ok (.iaload, 1) := by decide +kernel
theorem dX11_waysOfParts_30 : decode cX11_waysOfParts 30 = .ok (.iload 5, 2) := by decide +kernel
theorem dX11_waysOfParts_32 : decode cX11_waysOfParts 32 = .ok (.invokevirtual 205, 3) := by decide +kernel
theorem dX11_waysOfParts_35 : decode cX11_waysOfParts 35 = .ok (.aload_n 0, 1) := by decide +kernel
theorem dX11_waysOfParts_36 : decode cX11_waysOfParts 36 = .ok (.aload_n 0, 1) := by decide +kernel
theorem dX11_waysOfParts_37 : decode cX11_waysOfParts 37 = .ok (.getfield 29, 3) := by decide +kernel
theorem dX11_waysOfParts_40 : decode cX11_waysOfParts 40 = .ok (.iload_n 1, 1) := by decide +kernel
theorem dX11_waysOfParts_41 : decode cX11_waysOfParts 41 = .ok (.iaload, 1) := by decide +kernel
theorem dX11_waysOfParts_42 : decode cX11_waysOfParts 42 = .ok (.iload_n 2, 1) := by decide +kernel
theorem dX11_waysOfParts_43 : decode cX11_waysOfParts 43 = .ok (.iload 5, 2) := by decide +kernel
theorem dX11_waysOfParts_45 : decode cX11_waysOfParts 45 = .ok (.iconst (-1), 1) := by decide +kernel
theorem dX11_waysOfParts_46 : decode cX11_waysOfParts 46 = .ok (.ixor, 1) := by decide +kernel
theorem dX11_waysOfParts_47 : decode cX11_waysOfParts 47 = .ok (.iand, 1) := by decide +kernel
theorem dX11_waysOfParts_48 : decode cX11_waysOfParts 48 = .ok (.invokevirtual 205, 3) := by decide +kernel
theorem dX11_waysOfParts_51 : decode cX11_waysOfParts 51 = .ok (.lmul, 1) := by decide +kernel
theorem dX11_waysOfParts_52 : decode cX11_waysOfParts 52 = .ok (.invokestatic 213, 3) := by decide +kernel
theorem dX11_waysOfParts_55 : decode cX11_waysOfParts 55 = .ok (.ladd, 1) := by decide +kernel
theorem dX11_waysOfParts_56 : decode cX11_waysOfParts 56 = .ok (.invokestatic 213, 3) := by decide +kernel
theorem dX11_waysOfParts_59 : decode cX11_waysOfParts 59 = .ok (.lstore_n 3, 1) := by decide +kernel
theorem dX11_waysOfParts_60 : decode cX11_waysOfParts 60 = .ok (.iinc 5 1, 3) := by decide +kernel
theorem dX11_waysOfParts_63 : decode cX11_waysOfParts 63 = .ok (.goto (-58), 3) := by decide +kernel
theorem dX11_waysOfParts_66 : decode cX11_waysOfParts 66 = .ok (.lload_n 3, 1) := by decide +kernel
theorem dX11_waysOfParts_67 : decode cX11_waysOfParts 67 = .ok (.lreturn, 1) := by decide +kernel
theorem dX11_waysOf_0 : decode cX11_waysOf 0 = .ok (.aload_n 0, 1) := by decide +kernel
theorem dX11_waysOf_1 : decode cX11_waysOf 1 = .ok (.getfield 26, 3) := by decide +kernel
theorem dX11_waysOf_4 : decode cX11_waysOf 4 = .ok (.iload_n 1, 1) := by decide +kernel
theorem dX11_waysOf_5 : decode cX11_waysOf 5 = .ok (.iaload, 1) := by decide +kernel
theorem dX11_waysOf_6 : decode cX11_waysOf 6 = .ok (.istore_n 3, 1) := by decide +kernel
theorem dX11_waysOf_7 : decode cX11_waysOf 7 = .ok (.aload_n 0, 1) := by decide +kernel
theorem dX11_waysOf_8 : decode cX11_waysOf 8 = .ok (.getfield 29, 3) := by decide +kernel
theorem dX11_waysOf_11 : decode cX11_waysOf 11 = .ok (.iload_n 1, 1) := by decide +kernel
theorem dX11_waysOf_12 : decode cX11_waysOf 12 = .ok (.iaload, 1) := by decide +kernel
theorem dX11_waysOf_13 : decode cX11_waysOf 13 = .ok (.istore 4, 2) := by decide +kernel
theorem dX11_waysOf_15 : decode cX11_waysOf 15 = .ok (.aload_n 0, 1) := by decide +kernel
theorem dX11_waysOf_16 : decode cX11_waysOf 16 = .ok (.getfield 23, 3) := by decide +kernel
theorem dX11_waysOf_19 : decode cX11_waysOf 19 = .ok (.iload_n 1, 1) := by decide +kernel
theorem dX11_waysOf_20 : decode cX11_waysOf 20 = .ok (.iaload, 1) := by decide +kernel
theorem dX11_waysOf_21 : decode cX11_waysOf 21 = .ok (.tableswitch 114 0 6 #[43, 50, 60, 62, 77, 84, 99], 43) := by decide +kernel
theorem dX11_waysOf_64 : decode cX11_waysOf 64 = .ok (.aload_n 0, 1) := by decide +kernel
theorem dX11_waysOf_65 : decode cX11_waysOf 65 = .ok (.iload_n 3, 1) := by decide +kernel
theorem dX11_waysOf_66 : decode cX11_waysOf 66 = .ok (.iload_n 2, 1) := by decide +kernel
theorem dX11_waysOf_67 : decode cX11_waysOf 67 = .ok (.invokevirtual 217, 3) := by decide +kernel
theorem dX11_waysOf_70 : decode cX11_waysOf 70 = .ok (.lreturn, 1) := by decide +kernel
theorem dX11_waysOf_71 : decode cX11_waysOf 71 = .ok (.iload_n 2, 1) := by decide +kernel
theorem dX11_waysOf_72 : decode cX11_waysOf 72 = .ok (.ifCond .ne 7, 3) := by decide +kernel
theorem dX11_waysOf_75 : decode cX11_waysOf 75 = .ok (.lconst 1, 1) := by decide +kernel
theorem dX11_waysOf_76 : decode cX11_waysOf 76 = .ok (.goto 4, 3) := by decide +kernel
theorem dX11_waysOf_79 : decode cX11_waysOf 79 = .ok (.lconst 0, 1) := by decide +kernel
theorem dX11_waysOf_80 : decode cX11_waysOf 80 = .ok (.lreturn, 1) := by decide +kernel
theorem dX11_waysOf_81 : decode cX11_waysOf 81 = .ok (.lconst 1, 1) := by decide +kernel
theorem dX11_waysOf_82 : decode cX11_waysOf 82 = .ok (.lreturn, 1) := by decide +kernel
theorem dX11_waysOf_83 : decode cX11_waysOf 83 = .ok (.iload_n 2, 1) := by decide +kernel
theorem dX11_waysOf_84 : decode cX11_waysOf 84 = .ok (.ifCond .ne 12, 3) := by decide +kernel
theorem dX11_waysOf_87 : decode cX11_waysOf 87 = .ok (.aload_n 0, 1) := by decide +kernel
theorem dX11_waysOf_88 : decode cX11_waysOf 88 = .ok (.iload_n 3, 1) := by decide +kernel
theorem dX11_waysOf_89 : decode cX11_waysOf 89 = .ok (.iconst 0, 1) := by decide +kernel
theorem dX11_waysOf_90 : decode cX11_waysOf 90 = .ok (.invokevirtual 205, 3) := by decide +kernel
theorem dX11_waysOf_93 : decode cX11_waysOf 93 = .ok (.goto 4, 3) := by decide +kernel
theorem dX11_waysOf_96 : decode cX11_waysOf 96 = .ok (.lconst 0, 1) := by decide +kernel
theorem dX11_waysOf_97 : decode cX11_waysOf 97 = .ok (.lreturn, 1) := by decide +kernel
theorem dX11_waysOf_98 : decode cX11_waysOf 98 = .ok (.aload_n 0, 1) := by decide +kernel
theorem dX11_waysOf_99 : decode cX11_waysOf 99 = .ok (.iload_n 1, 1) := by decide +kernel
theorem dX11_waysOf_100 : decode cX11_waysOf 100 = .ok (.iload_n 2, 1) := by decide +kernel
theorem dX11_waysOf_101 : decode cX11_waysOf 101 = .ok (.invokevirtual 220, 3) := by decide +kernel
theorem dX11_waysOf_104 : decode cX11_waysOf 104 = .ok (.lreturn, 1) := by decide +kernel
theorem dX11_waysOf_105 : decode cX11_waysOf 105 = .ok (.aload_n 0, 1) := by decide +kernel
theorem dX11_waysOf_106 : decode cX11_waysOf 106 = .ok (.iload_n 3, 1) := by decide +kernel
theorem dX11_waysOf_107 : decode cX11_waysOf 107 = .ok (.iload_n 2, 1) := by decide +kernel
theorem dX11_waysOf_108 : decode cX11_waysOf 108 = .ok (.invokevirtual 205, 3) := by decide +kernel
theorem dX11_waysOf_111 : decode cX11_waysOf 111 = .ok (.aload_n 0, 1) := by decide +kernel
theorem dX11_waysOf_112 : decode cX11_waysOf 112 = .ok (.iload 4, 2) := by decide +kernel
theorem dX11_waysOf_114 : decode cX11_waysOf 114 = .ok (.iload_n 2, 1) := by decide +kernel
theorem dX11_waysOf_115 : decode cX11_waysOf 115 = .ok (.invokevirtual 205, 3) := by decide +kernel
theorem dX11_waysOf_118 : decode cX11_waysOf 118 = .ok (.lmul, 1) := by decide +kernel
theorem dX11_waysOf_119 : decode cX11_waysOf 119 = .ok (.lreturn, 1) := by decide +kernel
theorem dX11_waysOf_120 : decode cX11_waysOf 120 = .ok (.aload_n 0, 1) := by decide +kernel
theorem dX11_waysOf_121 : decode cX11_waysOf 121 = .ok (.iload_n 3, 1) := by decide +kernel
theorem dX11_waysOf_122 : decode cX11_waysOf 122 = .ok (.iload_n 2, 1) := by decide +kernel
theorem dX11_waysOf_123 : decode cX11_waysOf 123 = .ok (.invokevirtual 205, 3) := by decide +kernel
theorem dX11_waysOf_126 : decode cX11_waysOf 126 = .ok (.aload_n 0, 1) := by decide +kernel
theorem dX11_waysOf_127 : decode cX11_waysOf 127 = .ok (.iload 4, 2) := by decide +kernel
theorem dX11_waysOf_129 : decode cX11_waysOf 129 = .ok (.iload_n 2, 1) := by decide +kernel
theorem dX11_waysOf_130 : decode cX11_waysOf 130 = .ok (.invokevirtual 205, 3) := by decide +kernel
theorem dX11_waysOf_133 : decode cX11_waysOf 133 = .ok (.ladd, 1) := by decide +kernel
theorem dX11_waysOf_134 : decode cX11_waysOf 134 = .ok (.lreturn, 1) := by decide +kernel
theorem dX11_waysOf_135 : decode cX11_waysOf 135 = .ok (.iload_n 2, 1) := by decide +kernel
theorem dX11_waysOf_136 : decode cX11_waysOf 136 = .ok (.iload 4, 2) := by decide +kernel
theorem dX11_waysOf_138 : decode cX11_waysOf 138 = .ok (.invokestatic 171, 3) := by decide +kernel
theorem dX11_waysOf_141 : decode cX11_waysOf 141 = .ok (.ifCond .eq 7, 3) := by decide +kernel
theorem dX11_waysOf_144 : decode cX11_waysOf 144 = .ok (.lconst 0, 1) := by decide +kernel
theorem dX11_waysOf_145 : decode cX11_waysOf 145 = .ok (.goto 14, 3) := by decide +kernel
theorem dX11_waysOf_148 : decode cX11_waysOf 148 = .ok (.aload_n 0, 1) := by decide +kernel
theorem dX11_waysOf_149 : decode cX11_waysOf 149 = .ok (.iload_n 3, 1) := by decide +kernel
theorem dX11_waysOf_150 : decode cX11_waysOf 150 = .ok (.iload_n 2, 1) := by decide +kernel
theorem dX11_waysOf_151 : decode cX11_waysOf 151 = .ok (.iconst 1, 1) := by decide +kernel
theorem dX11_waysOf_152 : decode cX11_waysOf 152 = .ok (.iload 4, 2) := by decide +kernel
theorem dX11_waysOf_154 : decode cX11_waysOf 154 = .ok (.ishl, 1) := by decide +kernel
theorem dX11_waysOf_155 : decode cX11_waysOf 155 = .ok (.ior, 1) := by decide +kernel
theorem dX11_waysOf_156 : decode cX11_waysOf 156 = .ok (.invokevirtual 205, 3) := by decide +kernel
theorem dX11_waysOf_159 : decode cX11_waysOf 159 = .ok (.lreturn, 1) := by decide +kernel
theorem dX11_ways_0 : decode cX11_ways 0 = .ok (.aload_n 0, 1) := by decide +kernel
theorem dX11_ways_1 : decode cX11_ways 1 = .ok (.iload_n 1, 1) := by decide +kernel
theorem dX11_ways_2 : decode cX11_ways 2 = .ok (.invokevirtual 190, 3) := by decide +kernel
theorem dX11_ways_5 : decode cX11_ways 5 = .ok (.ifCond .ne 5, 3) := by decide +kernel
theorem dX11_ways_8 : decode cX11_ways 8 = .ok (.iconst (-1), 1) := by decide +kernel
theorem dX11_ways_9 : decode cX11_ways 9 = .ok (.ireturn, 1) := by decide +kernel
theorem dX11_ways_10 : decode cX11_ways 10 = .ok (.iload_n 2, 1) := by decide +kernel
theorem dX11_ways_11 : decode cX11_ways 11 = .ok (.iconst 0, 1) := by decide +kernel
theorem dX11_ways_12 : decode cX11_ways 12 = .ok (.bipush 10, 2) := by decide +kernel
theorem dX11_ways_14 : decode cX11_ways 14 = .ok (.invokestatic 104, 3) := by decide +kernel
theorem dX11_ways_17 : decode cX11_ways 17 = .ok (.ifCond .ne 6, 3) := by decide +kernel
theorem dX11_ways_20 : decode cX11_ways 20 = .ok (.bipush (-2), 2) := by decide +kernel
theorem dX11_ways_22 : decode cX11_ways 22 = .ok (.ireturn, 1) := by decide +kernel
theorem dX11_ways_23 : decode cX11_ways 23 = .ok (.aload_n 0, 1) := by decide +kernel
theorem dX11_ways_24 : decode cX11_ways 24 = .ok (.invokevirtual 193, 3) := by decide +kernel
theorem dX11_ways_27 : decode cX11_ways 27 = .ok (.ifCond .ne 6, 3) := by decide +kernel
theorem dX11_ways_30 : decode cX11_ways 30 = .ok (.bipush (-3), 2) := by decide +kernel
theorem dX11_ways_32 : decode cX11_ways 32 = .ok (.ireturn, 1) := by decide +kernel
theorem dX11_ways_33 : decode cX11_ways 33 = .ok (.aload_n 0, 1) := by decide +kernel
theorem dX11_ways_34 : decode cX11_ways 34 = .ok (.invokevirtual 197, 3) := by decide +kernel
theorem dX11_ways_37 : decode cX11_ways 37 = .ok (.iconst 0, 1) := by decide +kernel
theorem dX11_ways_38 : decode cX11_ways 38 = .ok (.istore_n 3, 1) := by decide +kernel
theorem dX11_ways_39 : decode cX11_ways 39 = .ok (.iload_n 3, 1) := by decide +kernel
theorem dX11_ways_40 : decode cX11_ways 40 = .ok (.sipush 256, 3) := by decide +kernel
theorem dX11_ways_43 : decode cX11_ways 43 = .ok (.aload_n 0, 1) := by decide +kernel
theorem dX11_ways_44 : decode cX11_ways 44 = .ok (.getfield 92, 3) := by decide +kernel
theorem dX11_ways_47 : decode cX11_ways 47 = .ok (.imul, 1) := by decide +kernel
theorem dX11_ways_48 : decode cX11_ways 48 = .ok (.if_icmp .ge 16, 3) := by decide +kernel
theorem dX11_ways_51 : decode cX11_ways 51 = .ok (.aload_n 0, 1) := by decide +kernel
theorem dX11_ways_52 : decode cX11_ways 52 = .ok (.getfield 60, 3) := by decide +kernel
theorem dX11_ways_55 : decode cX11_ways 55 = .ok (.iload_n 3, 1) := by decide +kernel
theorem dX11_ways_56 : decode cX11_ways 56 = .ok (.lconst 0, 1) := by decide +kernel
theorem dX11_ways_57 : decode cX11_ways 57 = .ok (.lastore, 1) := by decide +kernel
theorem dX11_ways_58 : decode cX11_ways 58 = .ok (.iinc 3 1, 3) := by decide +kernel
theorem dX11_ways_61 : decode cX11_ways 61 = .ok (.goto (-22), 3) := by decide +kernel
theorem dX11_ways_64 : decode cX11_ways 64 = .ok (.iconst 1, 1) := by decide +kernel
theorem dX11_ways_65 : decode cX11_ways 65 = .ok (.istore_n 3, 1) := by decide +kernel
theorem dX11_ways_66 : decode cX11_ways 66 = .ok (.iload_n 3, 1) := by decide +kernel
theorem dX11_ways_67 : decode cX11_ways 67 = .ok (.iload_n 2, 1) := by decide +kernel
theorem dX11_ways_68 : decode cX11_ways 68 = .ok (.if_icmp .gt 93, 3) := by decide +kernel
theorem dX11_ways_71 : decode cX11_ways 71 = .ok (.iconst 0, 1) := by decide +kernel
theorem dX11_ways_72 : decode cX11_ways 72 = .ok (.istore 4, 2) := by decide +kernel
theorem dX11_ways_74 : decode cX11_ways 74 = .ok (.iload 4, 2) := by decide +kernel
theorem dX11_ways_76 : decode cX11_ways 76 = .ok (.sipush 256, 3) := by decide +kernel
theorem dX11_ways_79 : decode cX11_ways 79 = .ok (.aload_n 0, 1) := by decide +kernel
theorem dX11_ways_80 : decode cX11_ways 80 = .ok (.getfield 92, 3) := by decide +kernel
theorem dX11_ways_83 : decode cX11_ways 83 = .ok (.imul, 1) := by decide +kernel
theorem dX11_ways_84 : decode cX11_ways 84 = .ok (.if_icmp .ge 35, 3) := by decide +kernel
theorem dX11_ways_87 : decode cX11_ways 87 = .ok (.aload_n 0, 1) := by decide +kernel
theorem dX11_ways_88 : decode cX11_ways 88 = .ok (.getfield 64, 3) := by decide +kernel
theorem dX11_ways_91 : decode cX11_ways 91 = .ok (.iload 4, 2) := by decide +kernel
theorem dX11_ways_93 : decode cX11_ways 93 = .ok (.aload_n 0, 1) := by decide +kernel
theorem dX11_ways_94 : decode cX11_ways 94 = .ok (.iload 4, 2) := by decide +kernel
theorem dX11_ways_96 : decode cX11_ways 96 = .ok (.sipush 256, 3) := by decide +kernel
theorem dX11_ways_99 : decode cX11_ways 99 = .ok (.idiv, 1) := by decide +kernel
theorem dX11_ways_100 : decode cX11_ways 100 = .ok (.iload 4, 2) := by decide +kernel
theorem dX11_ways_102 : decode cX11_ways 102 = .ok (.sipush 256, 3) := by decide +kernel
theorem dX11_ways_105 : decode cX11_ways 105 = .ok (.irem, 1) := by decide +kernel
theorem dX11_ways_106 : decode cX11_ways 106 = .ok (.invokevirtual 223, 3) := by decide +kernel
theorem dX11_ways_109 : decode cX11_ways 109 = .ok (.invokestatic 213, 3) := by decide +kernel
theorem dX11_ways_112 : decode cX11_ways 112 = .ok (.lastore, 1) := by decide +kernel
theorem dX11_ways_113 : decode cX11_ways 113 = .ok (.iinc 4 1, 3) := by decide +kernel
theorem dX11_ways_116 : decode cX11_ways 116 = .ok (.goto (-42), 3) := by decide +kernel
theorem dX11_ways_119 : decode cX11_ways 119 = .ok (.iconst 0, 1) := by decide +kernel
theorem dX11_ways_120 : decode cX11_ways 120 = .ok (.istore 4, 2) := by decide +kernel
theorem dX11_ways_122 : decode cX11_ways 122 = .ok (.iload 4, 2) := by decide +kernel
theorem dX11_ways_124 : decode cX11_ways 124 = .ok (.sipush 256, 3) := by decide +kernel
theorem dX11_ways_127 : decode cX11_ways 127 = .ok (.aload_n 0, 1) := by decide +kernel
theorem dX11_ways_128 : decode cX11_ways 128 = .ok (.getfield 92, 3) := by decide +kernel
theorem dX11_ways_131 : decode cX11_ways 131 = .ok (.imul, 1) := by decide +kernel
theorem dX11_ways_132 : decode cX11_ways 132 = .ok (.if_icmp .ge 23, 3) := by decide +kernel
theorem dX11_ways_135 : decode cX11_ways 135 = .ok (.aload_n 0, 1) := by decide +kernel
theorem dX11_ways_136 : decode cX11_ways 136 = .ok (.getfield 60, 3) := by decide +kernel
theorem dX11_ways_139 : decode cX11_ways 139 = .ok (.iload 4, 2) := by decide +kernel
theorem dX11_ways_141 : decode cX11_ways 141 = .ok (.aload_n 0, 1) := by decide +kernel
theorem dX11_ways_142 : decode cX11_ways 142 = .ok (.getfield 64, 3) := by decide +kernel
theorem dX11_ways_145 : decode cX11_ways 145 = .ok (.iload 4, 2) := by decide +kernel
theorem dX11_ways_147 : decode cX11_ways 147 = .ok (.laload, 1) := by decide +kernel
theorem dX11_ways_148 : decode cX11_ways 148 = .ok (.lastore, 1) := by decide +kernel
theorem dX11_ways_149 : decode cX11_ways 149 = .ok (.iinc 4 1, 3) := by decide +kernel
theorem dX11_ways_152 : decode cX11_ways 152 = .ok (.goto (-30), 3) := by decide +kernel
theorem dX11_ways_155 : decode cX11_ways 155 = .ok (.iinc 3 1, 3) := by decide +kernel
theorem dX11_ways_158 : decode cX11_ways 158 = .ok (.goto (-92), 3) := by decide +kernel
theorem dX11_ways_161 : decode cX11_ways 161 = .ok (.aload_n 0, 1) := by decide +kernel
theorem dX11_ways_162 : decode cX11_ways 162 = .ok (.getfield 60, 3) := by decide +kernel
theorem dX11_ways_165 : decode cX11_ways 165 = .ok (.sipush 256, 3) := by decide +kernel
theorem dX11_ways_168 : decode cX11_ways 168 = .ok (.aload_n 0, 1) := by decide +kernel
theorem dX11_ways_169 : decode cX11_ways 169 = .ok (.getfield 98, 3) := by decide +kernel
theorem dX11_ways_172 : decode cX11_ways 172 = .ok (.imul, 1) := by decide +kernel
theorem dX11_ways_173 : decode cX11_ways 173 = .ok (.iload_n 1, 1) := by decide +kernel
theorem dX11_ways_174 : decode cX11_ways 174 = .ok (.iadd, 1) := by decide +kernel
theorem dX11_ways_175 : decode cX11_ways 175 = .ok (.laload, 1) := by decide +kernel
theorem dX11_ways_176 : decode cX11_ways 176 = .ok (.l2i, 1) := by decide +kernel
theorem dX11_ways_177 : decode cX11_ways 177 = .ok (.ireturn, 1) := by decide +kernel
theorem dX11_fewest_0 : decode cX11_fewest 0 = .ok (.aload_n 0, 1) := by decide +kernel
theorem dX11_fewest_1 : decode cX11_fewest 1 = .ok (.invokevirtual 193, 3) := by decide +kernel
theorem dX11_fewest_4 : decode cX11_fewest 4 = .ok (.ifCond .ne 6, 3) := by decide +kernel
theorem dX11_fewest_7 : decode cX11_fewest 7 = .ok (.bipush (-3), 2) := by decide +kernel
theorem dX11_fewest_9 : decode cX11_fewest 9 = .ok (.ireturn, 1) := by decide +kernel
theorem dX11_fewest_10 : decode cX11_fewest 10 = .ok (.aload_n 0, 1) := by decide +kernel
theorem dX11_fewest_11 : decode cX11_fewest 11 = .ok (.invokevirtual 197, 3) := by decide +kernel
theorem dX11_fewest_14 : decode cX11_fewest 14 = .ok (.bipush (-6), 2) := by decide +kernel
theorem dX11_fewest_16 : decode cX11_fewest 16 = .ok (.istore_n 1, 1) := by decide +kernel
theorem dX11_fewest_17 : decode cX11_fewest 17 = .ok (.iconst 0, 1) := by decide +kernel
theorem dX11_fewest_18 : decode cX11_fewest 18 = .ok (.istore_n 2, 1) := by decide +kernel
theorem dX11_fewest_19 : decode cX11_fewest 19 = .ok (.iload_n 2, 1) := by decide +kernel
theorem dX11_fewest_20 : decode cX11_fewest 20 = .ok (.bipush 32, 2) := by decide +kernel
theorem dX11_fewest_22 : decode cX11_fewest 22 = .ok (.if_icmp .ge 42, 3) := by decide +kernel
theorem dX11_fewest_25 : decode cX11_fewest 25 = .ok (.aload_n 0, 1) := by decide +kernel
theorem dX11_fewest_26 : decode cX11_fewest 26 = .ok (.iload_n 2, 1) := by decide +kernel
theorem dX11_fewest_27 : decode cX11_fewest 27 = .ok (.invokevirtual 190, 3) := by decide +kernel
theorem dX11_fewest_30 : decode cX11_fewest 30 = .ok (.ifCond .eq 28, 3) := by decide +kernel
theorem dX11_fewest_33 : decode cX11_fewest 33 = .ok (.aload_n 0, 1) := by decide +kernel
theorem dX11_fewest_34 : decode cX11_fewest 34 = .ok (.iload_n 2, 1) := by decide +kernel
theorem dX11_fewest_35 : decode cX11_fewest 35 = .ok (.invokevirtual 200, 3) := by decide +kernel
theorem dX11_fewest_38 : decode cX11_fewest 38 = .ok (.ifCond .le 20, 3) := by decide +kernel
theorem dX11_fewest_41 : decode cX11_fewest 41 = .ok (.iload_n 1, 1) := by decide +kernel
theorem dX11_fewest_42 : decode cX11_fewest 42 = .ok (.ifCond .lt 14, 3) := by decide +kernel
theorem dX11_fewest_45 : decode cX11_fewest 45 = .ok (.iload_n 2, 1) := by decide +kernel
theorem dX11_fewest_46 : decode cX11_fewest 46 = .ok (.invokestatic 162, 3) := by decide +kernel
theorem dX11_fewest_49 : decode cX11_fewest 49 = .ok (.iload_n 1, 1) := by decide +kernel
theorem dX11_fewest_50 : decode cX11_fewest 50 = .ok (.invokestatic 162, 3) := by decide +kernel
theorem dX11_fewest_53 : decode cX11_fewest 53 = .ok (.if_icmp .ge 5, 3) := by decide +kernel
theorem dX11_fewest_56 : decode cX11_fewest 56 = .ok (.iload_n 2, 1) := by decide +kernel
theorem dX11_fewest_57 : decode cX11_fewest 57 = .ok (.istore_n 1, 1) := by decide +kernel
theorem dX11_fewest_58 : decode cX11_fewest 58 = .ok (.iinc 2 1, 3) := by decide +kernel
theorem dX11_fewest_61 : decode cX11_fewest 61 = .ok (.goto (-42), 3) := by decide +kernel
theorem dX11_fewest_64 : decode cX11_fewest 64 = .ok (.iload_n 1, 1) := by decide +kernel
theorem dX11_fewest_65 : decode cX11_fewest 65 = .ok (.ireturn, 1) := by decide +kernel
theorem dX11_needed_0 : decode cX11_needed 0 = .ok (.aload_n 0, 1) := by decide +kernel
theorem dX11_needed_1 : decode cX11_needed 1 = .ok (.invokevirtual 193, 3) := by decide +kernel
theorem dX11_needed_4 : decode cX11_needed 4 = .ok (.ifCond .ne 6, 3) := by decide +kernel
theorem dX11_needed_7 : decode cX11_needed 7 = .ok (.bipush (-3), 2) := by decide +kernel
theorem dX11_needed_9 : decode cX11_needed 9 = .ok (.ireturn, 1) := by decide +kernel
theorem dX11_needed_10 : decode cX11_needed 10 = .ok (.aload_n 0, 1) := by decide +kernel
theorem dX11_needed_11 : decode cX11_needed 11 = .ok (.invokevirtual 197, 3) := by decide +kernel
theorem dX11_needed_14 : decode cX11_needed 14 = .ok (.iconst 0, 1) := by decide +kernel
theorem dX11_needed_15 : decode cX11_needed 15 = .ok (.istore_n 1, 1) := by decide +kernel
theorem dX11_needed_16 : decode cX11_needed 16 = .ok (.iconst 0, 1) := by decide +kernel
theorem dX11_needed_17 : decode cX11_needed 17 = .ok (.istore_n 2, 1) := by decide +kernel
theorem dX11_needed_18 : decode cX11_needed 18 = .ok (.iload_n 2, 1) := by decide +kernel
theorem dX11_needed_19 : decode cX11_needed 19 = .ok (.iconst 5, 1) := by decide +kernel
theorem dX11_needed_20 : decode cX11_needed 20 = .ok (.if_icmp .ge 47, 3) := by decide +kernel
theorem dX11_needed_23 : decode cX11_needed 23 = .ok (.iload_n 1, 1) := by decide +kernel
theorem dX11_needed_24 : decode cX11_needed 24 = .ok (.aload_n 0, 1) := by decide +kernel
theorem dX11_needed_25 : decode cX11_needed 25 = .ok (.invokevirtual 186, 3) := by decide +kernel
theorem dX11_needed_28 : decode cX11_needed 28 = .ok (.iload_n 2, 1) := by decide +kernel
theorem dX11_needed_29 : decode cX11_needed 29 = .ok (.invokestatic 171, 3) := by decide +kernel
theorem dX11_needed_32 : decode cX11_needed 32 = .ok (.ifCond .eq 26, 3) := by decide +kernel
theorem dX11_needed_35 : decode cX11_needed 35 = .ok (.aload_n 0, 1) := by decide +kernel
theorem dX11_needed_36 : decode cX11_needed 36 = .ok (.aload_n 0, 1) := by decide +kernel
theorem dX11_needed_37 : decode cX11_needed 37 = .ok (.invokevirtual 186, 3) := by decide +kernel
theorem dX11_needed_40 : decode cX11_needed 40 = .ok (.iconst 1, 1) := by decide +kernel
theorem dX11_needed_41 : decode cX11_needed 41 = .ok (.iload_n 2, 1) := by decide +kernel
theorem dX11_needed_42 : decode cX11_needed 42 = .ok (.ishl, 1) := by decide +kernel
theorem dX11_needed_43 : decode cX11_needed 43 = .ok (.iconst (-1), 1) := by decide +kernel
theorem dX11_needed_44 : decode cX11_needed 44 = .ok (.ixor, 1) := by decide +kernel
theorem dX11_needed_45 : decode cX11_needed 45 = .ok (.iand, 1) := by decide +kernel
theorem dX11_needed_46 : decode cX11_needed 46 = .ok (.invokevirtual 200, 3) := by decide +kernel
theorem dX11_needed_49 : decode cX11_needed 49 = .ok (.ifCond .ge 9, 3) := by decide +kernel
theorem dX11_needed_52 : decode cX11_needed 52 = .ok (.iconst 1, 1) := by decide +kernel
theorem dX11_needed_53 : decode cX11_needed 53 = .ok (.iload_n 2, 1) := by decide +kernel
theorem dX11_needed_54 : decode cX11_needed 54 = .ok (.ishl, 1) := by decide +kernel
theorem dX11_needed_55 : decode cX11_needed 55 = .ok (.goto 4, 3) := by decide +kernel
theorem dX11_needed_58 : decode cX11_needed 58 = .ok (.iconst 0, 1) := by decide +kernel
theorem dX11_needed_59 : decode cX11_needed 59 = .ok (.ior, 1) := by decide +kernel
theorem dX11_needed_60 : decode cX11_needed 60 = .ok (.istore_n 1, 1) := by decide +kernel
theorem dX11_needed_61 : decode cX11_needed 61 = .ok (.iinc 2 1, 3) := by decide +kernel
theorem dX11_needed_64 : decode cX11_needed 64 = .ok (.goto (-46), 3) := by decide +kernel
theorem dX11_needed_67 : decode cX11_needed 67 = .ok (.iload_n 1, 1) := by decide +kernel
theorem dX11_needed_68 : decode cX11_needed 68 = .ok (.ireturn, 1) := by decide +kernel
theorem dX11_await_0 : decode cX11_await 0 = .ok (.aload_n 0, 1) := by decide +kernel
theorem dX11_await_1 : decode cX11_await 1 = .ok (.getfield 70, 3) := by decide +kernel
theorem dX11_await_4 : decode cX11_await 4 = .ok (.aload_n 0, 1) := by decide +kernel
theorem dX11_await_5 : decode cX11_await 5 = .ok (.getfield 226, 3) := by decide +kernel
theorem dX11_await_8 : decode cX11_await 8 = .ok (.iload_n 1, 1) := by decide +kernel
theorem dX11_await_9 : decode cX11_await 9 = .ok (.iastore, 1) := by decide +kernel
theorem dX11_await_10 : decode cX11_await 10 = .ok (.aload_n 0, 1) := by decide +kernel
theorem dX11_await_11 : decode cX11_await 11 = .ok (.getfield 73, 3) := by decide +kernel
theorem dX11_await_14 : decode cX11_await 14 = .ok (.aload_n 0, 1) := by decide +kernel
theorem dX11_await_15 : decode cX11_await 15 = .ok (.getfield 226, 3) := by decide +kernel
theorem dX11_await_18 : decode cX11_await 18 = .ok (.iload_n 2, 1) := by decide +kernel
theorem dX11_await_19 : decode cX11_await 19 = .ok (.iastore, 1) := by decide +kernel
theorem dX11_await_20 : decode cX11_await 20 = .ok (.aload_n 0, 1) := by decide +kernel
theorem dX11_await_21 : decode cX11_await 21 = .ok (.getfield 76, 3) := by decide +kernel
theorem dX11_await_24 : decode cX11_await 24 = .ok (.aload_n 0, 1) := by decide +kernel
theorem dX11_await_25 : decode cX11_await 25 = .ok (.getfield 226, 3) := by decide +kernel
theorem dX11_await_28 : decode cX11_await 28 = .ok (.iload_n 3, 1) := by decide +kernel
theorem dX11_await_29 : decode cX11_await 29 = .ok (.iastore, 1) := by decide +kernel
theorem dX11_await_30 : decode cX11_await 30 = .ok (.aload_n 0, 1) := by decide +kernel
theorem dX11_await_31 : decode cX11_await 31 = .ok (.dup, 1) := by decide +kernel
theorem dX11_await_32 : decode cX11_await 32 = .ok (.getfield 226, 3) := by decide +kernel
theorem dX11_await_35 : decode cX11_await 35 = .ok (.iconst 1, 1) := by decide +kernel
theorem dX11_await_36 : decode cX11_await 36 = .ok (.iadd, 1) := by decide +kernel
theorem dX11_await_37 : decode cX11_await 37 = .ok (.putfield 226, 3) := by decide +kernel
theorem dX11_await_40 : decode cX11_await 40 = .ok (.return_, 1) := by decide +kernel
theorem dX11_tell_0 : decode cX11_tell 0 = .ok (.aload_n 0, 1) := by decide +kernel
theorem dX11_tell_1 : decode cX11_tell 1 = .ok (.getfield 67, 3) := by decide +kernel
theorem dX11_tell_4 : decode cX11_tell 4 = .ok (.aload_n 0, 1) := by decide +kernel
theorem dX11_tell_5 : decode cX11_tell 5 = .ok (.getfield 229, 3) := by decide +kernel
theorem dX11_tell_8 : decode cX11_tell 8 = .ok (.iload_n 1, 1) := by decide +kernel
theorem dX11_tell_9 : decode cX11_tell 9 = .ok (.iastore, 1) := by decide +kernel
theorem dX11_tell_10 : decode cX11_tell 10 = .ok (.aload_n 0, 1) := by decide +kernel
theorem dX11_tell_11 : decode cX11_tell 11 = .ok (.dup, 1) := by decide +kernel
theorem dX11_tell_12 : decode cX11_tell 12 = .ok (.getfield 229, 3) := by decide +kernel
theorem dX11_tell_15 : decode cX11_tell 15 = .ok (.iconst 1, 1) := by decide +kernel
theorem dX11_tell_16 : decode cX11_tell 16 = .ok (.iadd, 1) := by decide +kernel
theorem dX11_tell_17 : decode cX11_tell 17 = .ok (.putfield 229, 3) := by decide +kernel
theorem dX11_tell_20 : decode cX11_tell 20 = .ok (.return_, 1) := by decide +kernel
theorem dX11_tellAtom_0 : decode cX11_tellAtom 0 = .ok (.aload_n 0, 1) := by decide +kernel
theorem dX11_tellAtom_1 : decode cX11_tellAtom 1 = .ok (.iload_n 1, 1) := by decide +kernel
theorem dX11_tellAtom_2 : decode cX11_tellAtom 2 = .ok (.iload_n 2, 1) := by decide +kernel
theorem dX11_tellAtom_3 : decode cX11_tellAtom 3 = .ok (.iload_n 3, 1) := by decide +kernel
theorem dX11_tellAtom_4 : decode cX11_tellAtom 4 = .ok (.invokevirtual 179, 3) := by decide +kernel
theorem dX11_tellAtom_7 : decode cX11_tellAtom 7 = .ok (.istore 4, 2) := by decide +kernel
theorem dX11_tellAtom_9 : decode cX11_tellAtom 9 = .ok (.aload_n 0, 1) := by decide +kernel
theorem dX11_tellAtom_10 : decode cX11_tellAtom 10 = .ok (.iload 4, 2) := by decide +kernel
theorem dX11_tellAtom_12 : decode cX11_tellAtom 12 = .ok (.invokevirtual 232, 3) := by decide +kernel
theorem dX11_tellAtom_15 : decode cX11_tellAtom 15 = .ok (.iload 4, 2) := by decide +kernel
theorem dX11_tellAtom_17 : decode cX11_tellAtom 17 = .ok (.bipush 100, 2) := by decide +kernel
theorem dX11_tellAtom_19 : decode cX11_tellAtom 19 = .ok (.if_icmp .ge 11, 3) := by decide +kernel
theorem dX11_tellAtom_22 : decode cX11_tellAtom 22 = .ok (.iload 4, 2) := by decide +kernel
theorem dX11_tellAtom_24 : decode cX11_tellAtom 24 = .ok (.bipush 10, 2) := by decide +kernel
theorem dX11_tellAtom_26 : decode cX11_tellAtom 26 = .ok (.idiv, 1) := by decide +kernel
theorem dX11_tellAtom_27 : decode cX11_tellAtom 27 = .ok (.goto 14, 3) := by decide +kernel
theorem dX11_tellAtom_30 : decode cX11_tellAtom 30 = .ok (.bipush 8, 2) := by decide +kernel
theorem dX11_tellAtom_32 : decode cX11_tellAtom 32 = .ok (.iload 4, 2) := by decide +kernel
theorem dX11_tellAtom_34 : decode cX11_tellAtom 34 = .ok (.bipush 100, 2) := by decide +kernel
theorem dX11_tellAtom_36 : decode cX11_tellAtom 36 = .ok (.isub, 1) := by decide +kernel
theorem dX11_tellAtom_37 : decode cX11_tellAtom 37 = .ok (.bipush 10, 2) := by decide +kernel
theorem dX11_tellAtom_39 : decode cX11_tellAtom 39 = .ok (.idiv, 1) := by decide +kernel
theorem dX11_tellAtom_40 : decode cX11_tellAtom 40 = .ok (.iadd, 1) := by decide +kernel
theorem dX11_tellAtom_41 : decode cX11_tellAtom 41 = .ok (.istore 5, 2) := by decide +kernel
theorem dX11_tellAtom_43 : decode cX11_tellAtom 43 = .ok (.aload_n 0, 1) := by decide +kernel
theorem dX11_tellAtom_44 : decode cX11_tellAtom 44 = .ok (.getfield 38, 3) := by decide +kernel
theorem dX11_tellAtom_47 : decode cX11_tellAtom 47 = .ok (.iconst 3, 1) := by decide +kernel
theorem dX11_tellAtom_48 : decode cX11_tellAtom 48 = .ok (.iload 5, 2) := by decide +kernel
theorem dX11_tellAtom_50 : decode cX11_tellAtom 50 = .ok (.imul, 1) := by decide +kernel
theorem dX11_tellAtom_51 : decode cX11_tellAtom 51 = .ok (.iload 4, 2) := by decide +kernel
theorem dX11_tellAtom_53 : decode cX11_tellAtom 53 = .ok (.bipush 10, 2) := by decide +kernel
theorem dX11_tellAtom_55 : decode cX11_tellAtom 55 = .ok (.irem, 1) := by decide +kernel
theorem dX11_tellAtom_56 : decode cX11_tellAtom 56 = .ok (.iadd, 1) := by decide +kernel
theorem dX11_tellAtom_57 : decode cX11_tellAtom 57 = .ok (.iaload, 1) := by decide +kernel
theorem dX11_tellAtom_58 : decode cX11_tellAtom 58 = .ok (.istore 6, 2) := by decide +kernel
theorem dX11_tellAtom_60 : decode cX11_tellAtom 60 = .ok (.iload 6, 2) := by decide +kernel
theorem dX11_tellAtom_62 : decode cX11_tellAtom 62 = .ok (.ifCond .lt 31, 3) := by decide +kernel
theorem dX11_tellAtom_65 : decode cX11_tellAtom 65 = .ok (.aload_n 0, 1) := by decide +kernel
theorem dX11_tellAtom_66 : decode cX11_tellAtom 66 = .ok (.iload 6, 2) := by decide +kernel
theorem dX11_tellAtom_68 : decode cX11_tellAtom 68 = .ok (.iload 4, 2) := by decide +kernel
theorem dX11_tellAtom_70 : decode cX11_tellAtom 70 = .ok (.bipush 100, 2) := by decide +kernel
theorem dX11_tellAtom_72 : decode cX11_tellAtom 72 = .ok (.if_icmp .ge 14, 3) := by decide +kernel
theorem dX11_tellAtom_75 : decode cX11_tellAtom 75 = .ok (.iload_n 2, 1) := by decide +kernel
theorem dX11_tellAtom_76 : decode cX11_tellAtom 76 = .ok (.iconst 1, 1) := by decide +kernel
theorem dX11_tellAtom_77 : decode cX11_tellAtom 77 = .ok (.iload 5, 2) := by decide +kernel
theorem dX11_tellAtom_79 : decode cX11_tellAtom 79 = .ok (.ishl, 1) := by decide +kernel
theorem dX11_tellAtom_80 : decode cX11_tellAtom 80 = .ok (.iconst (-1), 1) := by decide +kernel
theorem dX11_tellAtom_81 : decode cX11_tellAtom 81 = .ok (.ixor, 1) := by decide +kernel
theorem dX11_tellAtom_82 : decode cX11_tellAtom 82 = .ok (.iand, 1) := by decide +kernel
theorem dX11_tellAtom_83 : decode cX11_tellAtom 83 = .ok (.goto 4, 3) := by decide +kernel
theorem dX11_tellAtom_86 : decode cX11_tellAtom 86 = .ok (.iload_n 2, 1) := by decide +kernel
theorem dX11_tellAtom_87 : decode cX11_tellAtom 87 = .ok (.iload_n 3, 1) := by decide +kernel
theorem dX11_tellAtom_88 : decode cX11_tellAtom 88 = .ok (.iconst 1, 1) := by decide +kernel
theorem dX11_tellAtom_89 : decode cX11_tellAtom 89 = .ok (.isub, 1) := by decide +kernel
theorem dX11_tellAtom_90 : decode cX11_tellAtom 90 = .ok (.invokevirtual 236, 3) := by decide +kernel
theorem dX11_tellAtom_93 : decode cX11_tellAtom 93 = .ok (.return_, 1) := by decide +kernel
theorem dX11_tellOne_0 : decode cX11_tellOne 0 = .ok (.aload_n 0, 1) := by decide +kernel
theorem dX11_tellOne_1 : decode cX11_tellOne 1 = .ok (.getfield 26, 3) := by decide +kernel
theorem dX11_tellOne_4 : decode cX11_tellOne 4 = .ok (.iload_n 1, 1) := by decide +kernel
theorem dX11_tellOne_5 : decode cX11_tellOne 5 = .ok (.iaload, 1) := by decide +kernel
theorem dX11_tellOne_6 : decode cX11_tellOne 6 = .ok (.istore 4, 2) := by decide +kernel
theorem dX11_tellOne_8 : decode cX11_tellOne 8 = .ok (.aload_n 0, 1) := by decide +kernel
theorem dX11_tellOne_9 : decode cX11_tellOne 9 = .ok (.getfield 29, 3) := by decide +kernel
theorem dX11_tellOne_12 : decode cX11_tellOne 12 = .ok (.iload_n 1, 1) := by decide +kernel
theorem dX11_tellOne_13 : decode cX11_tellOne 13 = .ok (.iaload, 1) := by decide +kernel
theorem dX11_tellOne_14 : decode cX11_tellOne 14 = .ok (.istore 5, 2) := by decide +kernel
theorem dX11_tellOne_16 : decode cX11_tellOne 16 = .ok (.aload_n 0, 1) := by decide +kernel
theorem dX11_tellOne_17 : decode cX11_tellOne 17 = .ok (.getfield 23, 3) := by decide +kernel
theorem dX11_tellOne_20 : decode cX11_tellOne 20 = .ok (.iload_n 1, 1) := by decide +kernel
theorem dX11_tellOne_21 : decode cX11_tellOne 21 = .ok (.iaload, 1) := by decide +kernel
theorem dX11_tellOne_22 : decode cX11_tellOne 22 = .ok (.tableswitch 210 0 7 #[46, 210, 210, 57, 70, 118, 141, 192], 46) := by decide +kernel
theorem dX11_tellOne_68 : decode cX11_tellOne 68 = .ok (.aload_n 0, 1) := by decide +kernel
theorem dX11_tellOne_69 : decode cX11_tellOne 69 = .ok (.iload 4, 2) := by decide +kernel
theorem dX11_tellOne_71 : decode cX11_tellOne 71 = .ok (.iload_n 2, 1) := by decide +kernel
theorem dX11_tellOne_72 : decode cX11_tellOne 72 = .ok (.iload_n 3, 1) := by decide +kernel
theorem dX11_tellOne_73 : decode cX11_tellOne 73 = .ok (.invokevirtual 239, 3) := by decide +kernel
theorem dX11_tellOne_76 : decode cX11_tellOne 76 = .ok (.goto 156, 3) := by decide +kernel
theorem dX11_tellOne_79 : decode cX11_tellOne 79 = .ok (.aload_n 0, 1) := by decide +kernel
theorem dX11_tellOne_80 : decode cX11_tellOne 80 = .ok (.iload 4, 2) := by decide +kernel
theorem dX11_tellOne_82 : decode cX11_tellOne 82 = .ok (.iload_n 2, 1) := by decide +kernel
theorem dX11_tellOne_83 : decode cX11_tellOne 83 = .ok (.iload_n 3, 1) := by decide +kernel
theorem dX11_tellOne_84 : decode cX11_tellOne 84 = .ok (.iconst 1, 1) := by decide +kernel
theorem dX11_tellOne_85 : decode cX11_tellOne 85 = .ok (.isub, 1) := by decide +kernel
theorem dX11_tellOne_86 : decode cX11_tellOne 86 = .ok (.invokevirtual 236, 3) := by decide +kernel
theorem dX11_tellOne_89 : decode cX11_tellOne 89 = .ok (.goto 143, 3) := by decide +kernel
theorem dX11_tellOne_92 : decode cX11_tellOne 92 = .ok (.aload_n 0, 1) := by decide +kernel
theorem dX11_tellOne_93 : decode cX11_tellOne 93 = .ok (.iload_n 1, 1) := by decide +kernel
theorem dX11_tellOne_94 : decode cX11_tellOne 94 = .ok (.iload_n 2, 1) := by decide +kernel
theorem dX11_tellOne_95 : decode cX11_tellOne 95 = .ok (.iload_n 3, 1) := by decide +kernel
theorem dX11_tellOne_96 : decode cX11_tellOne 96 = .ok (.invokevirtual 183, 3) := by decide +kernel
theorem dX11_tellOne_99 : decode cX11_tellOne 99 = .ok (.istore 6, 2) := by decide +kernel
theorem dX11_tellOne_101 : decode cX11_tellOne 101 = .ok (.aload_n 0, 1) := by decide +kernel
theorem dX11_tellOne_102 : decode cX11_tellOne 102 = .ok (.sipush 200, 3) := by decide +kernel
theorem dX11_tellOne_105 : decode cX11_tellOne 105 = .ok (.iload 6, 2) := by decide +kernel
theorem dX11_tellOne_107 : decode cX11_tellOne 107 = .ok (.iadd, 1) := by decide +kernel
theorem dX11_tellOne_108 : decode cX11_tellOne 108 = .ok (.invokevirtual 232, 3) := by decide +kernel
theorem dX11_tellOne_111 : decode cX11_tellOne 111 = .ok (.aload_n 0, 1) := by decide +kernel
theorem dX11_tellOne_112 : decode cX11_tellOne 112 = .ok (.iload 5, 2) := by decide +kernel
theorem dX11_tellOne_114 : decode cX11_tellOne 114 = .ok (.iload_n 2, 1) := by decide +kernel
theorem dX11_tellOne_115 : decode cX11_tellOne 115 = .ok (.iload 6, 2) := by decide +kernel
theorem dX11_tellOne_117 : decode cX11_tellOne 117 = .ok (.iconst (-1), 1) := by decide +kernel
theorem dX11_tellOne_118 : decode cX11_tellOne 118 = .ok (.ixor, 1) := by decide +kernel
theorem dX11_tellOne_119 : decode cX11_tellOne 119 = .ok (.iand, 1) := by decide +kernel
theorem dX11_tellOne_120 : decode cX11_tellOne 120 = .ok (.iload_n 3, 1) := by decide +kernel
theorem dX11_tellOne_121 : decode cX11_tellOne 121 = .ok (.iconst 1, 1) := by decide +kernel
theorem dX11_tellOne_122 : decode cX11_tellOne 122 = .ok (.isub, 1) := by decide +kernel
theorem dX11_tellOne_123 : decode cX11_tellOne 123 = .ok (.invokevirtual 236, 3) := by decide +kernel
theorem dX11_tellOne_126 : decode cX11_tellOne 126 = .ok (.aload_n 0, 1) := by decide +kernel
theorem dX11_tellOne_127 : decode cX11_tellOne 127 = .ok (.iload 4, 2) := by decide +kernel
theorem dX11_tellOne_129 : decode cX11_tellOne 129 = .ok (.iload 6, 2) := by decide +kernel
theorem dX11_tellOne_131 : decode cX11_tellOne 131 = .ok (.iload_n 3, 1) := by decide +kernel
theorem dX11_tellOne_132 : decode cX11_tellOne 132 = .ok (.iconst 1, 1) := by decide +kernel
theorem dX11_tellOne_133 : decode cX11_tellOne 133 = .ok (.isub, 1) := by decide +kernel
theorem dX11_tellOne_134 : decode cX11_tellOne 134 = .ok (.invokevirtual 236, 3) := by decide +kernel
theorem dX11_tellOne_137 : decode cX11_tellOne 137 = .ok (.goto 95, 3) := by decide +kernel
theorem dX11_tellOne_140 : decode cX11_tellOne 140 = .ok (.aload_n 0, 1) := by decide +kernel
theorem dX11_tellOne_141 : decode cX11_tellOne 141 = .ok (.iload 5, 2) := by decide +kernel
theorem dX11_tellOne_143 : decode cX11_tellOne 143 = .ok (.iload_n 2, 1) := by decide +kernel
theorem dX11_tellOne_144 : decode cX11_tellOne 144 = .ok (.iload_n 3, 1) := by decide +kernel
theorem dX11_tellOne_145 : decode cX11_tellOne 145 = .ok (.iconst 1, 1) := by decide +kernel
theorem dX11_tellOne_146 : decode cX11_tellOne 146 = .ok (.isub, 1) := by decide +kernel
theorem dX11_tellOne_147 : decode cX11_tellOne 147 = .ok (.invokevirtual 236, 3) := by decide +kernel
theorem dX11_tellOne_150 : decode cX11_tellOne 150 = .ok (.aload_n 0, 1) := by decide +kernel
theorem dX11_tellOne_151 : decode cX11_tellOne 151 = .ok (.iload 4, 2) := by decide +kernel
theorem dX11_tellOne_153 : decode cX11_tellOne 153 = .ok (.iload_n 2, 1) := by decide +kernel
theorem dX11_tellOne_154 : decode cX11_tellOne 154 = .ok (.iload_n 3, 1) := by decide +kernel
theorem dX11_tellOne_155 : decode cX11_tellOne 155 = .ok (.iconst 1, 1) := by decide +kernel
theorem dX11_tellOne_156 : decode cX11_tellOne 156 = .ok (.isub, 1) := by decide +kernel
theorem dX11_tellOne_157 : decode cX11_tellOne 157 = .ok (.invokevirtual 236, 3) := by decide +kernel
theorem dX11_tellOne_160 : decode cX11_tellOne 160 = .ok (.goto 72, 3) := by decide +kernel
theorem dX11_tellOne_163 : decode cX11_tellOne 163 = .ok (.aload_n 0, 1) := by decide +kernel
theorem dX11_tellOne_164 : decode cX11_tellOne 164 = .ok (.iload 4, 2) := by decide +kernel
theorem dX11_tellOne_166 : decode cX11_tellOne 166 = .ok (.iload_n 2, 1) := by decide +kernel
theorem dX11_tellOne_167 : decode cX11_tellOne 167 = .ok (.iload_n 3, 1) := by decide +kernel
theorem dX11_tellOne_168 : decode cX11_tellOne 168 = .ok (.invokevirtual 168, 3) := by decide +kernel
theorem dX11_tellOne_171 : decode cX11_tellOne 171 = .ok (.istore 7, 2) := by decide +kernel
theorem dX11_tellOne_173 : decode cX11_tellOne 173 = .ok (.aload_n 0, 1) := by decide +kernel
theorem dX11_tellOne_174 : decode cX11_tellOne 174 = .ok (.iload 7, 2) := by decide +kernel
theorem dX11_tellOne_176 : decode cX11_tellOne 176 = .ok (.ifCond .eq 9, 3) := by decide +kernel
theorem dX11_tellOne_179 : decode cX11_tellOne 179 = .ok (.sipush 300, 3) := by decide +kernel
theorem dX11_tellOne_182 : decode cX11_tellOne 182 = .ok (.goto 6, 3) := by decide +kernel
theorem dX11_tellOne_185 : decode cX11_tellOne 185 = .ok (.sipush 301, 3) := by decide +kernel
theorem dX11_tellOne_188 : decode cX11_tellOne 188 = .ok (.invokevirtual 232, 3) := by decide +kernel
theorem dX11_tellOne_191 : decode cX11_tellOne 191 = .ok (.aload_n 0, 1) := by decide +kernel
theorem dX11_tellOne_192 : decode cX11_tellOne 192 = .ok (.iload 7, 2) := by decide +kernel
theorem dX11_tellOne_194 : decode cX11_tellOne 194 = .ok (.ifCond .eq 8, 3) := by decide +kernel
theorem dX11_tellOne_197 : decode cX11_tellOne 197 = .ok (.iload 4, 2) := by decide +kernel
theorem dX11_tellOne_199 : decode cX11_tellOne 199 = .ok (.goto 5, 3) := by decide +kernel
theorem dX11_tellOne_202 : decode cX11_tellOne 202 = .ok (.iload 5, 2) := by decide +kernel
theorem dX11_tellOne_204 : decode cX11_tellOne 204 = .ok (.iload_n 2, 1) := by decide +kernel
theorem dX11_tellOne_205 : decode cX11_tellOne 205 = .ok (.iload_n 3, 1) := by decide +kernel
theorem dX11_tellOne_206 : decode cX11_tellOne 206 = .ok (.iconst 1, 1) := by decide +kernel
theorem dX11_tellOne_207 : decode cX11_tellOne 207 = .ok (.isub, 1) := by decide +kernel
theorem dX11_tellOne_208 : decode cX11_tellOne 208 = .ok (.invokevirtual 236, 3) := by decide +kernel
theorem dX11_tellOne_211 : decode cX11_tellOne 211 = .ok (.goto 21, 3) := by decide +kernel
theorem dX11_tellOne_214 : decode cX11_tellOne 214 = .ok (.aload_n 0, 1) := by decide +kernel
theorem dX11_tellOne_215 : decode cX11_tellOne 215 = .ok (.iload 4, 2) := by decide +kernel
theorem dX11_tellOne_217 : decode cX11_tellOne 217 = .ok (.iload_n 2, 1) := by decide +kernel
theorem dX11_tellOne_218 : decode cX11_tellOne 218 = .ok (.iconst 1, 1) := by decide +kernel
theorem dX11_tellOne_219 : decode cX11_tellOne 219 = .ok (.iload 5, 2) := by decide +kernel
theorem dX11_tellOne_221 : decode cX11_tellOne 221 = .ok (.ishl, 1) := by decide +kernel
theorem dX11_tellOne_222 : decode cX11_tellOne 222 = .ok (.ior, 1) := by decide +kernel
theorem dX11_tellOne_223 : decode cX11_tellOne 223 = .ok (.iload_n 3, 1) := by decide +kernel
theorem dX11_tellOne_224 : decode cX11_tellOne 224 = .ok (.iconst 1, 1) := by decide +kernel
theorem dX11_tellOne_225 : decode cX11_tellOne 225 = .ok (.isub, 1) := by decide +kernel
theorem dX11_tellOne_226 : decode cX11_tellOne 226 = .ok (.invokevirtual 236, 3) := by decide +kernel
theorem dX11_tellOne_229 : decode cX11_tellOne 229 = .ok (.goto 3, 3) := by decide +kernel
theorem dX11_tellOne_232 : decode cX11_tellOne 232 = .ok (.return_, 1) := by decide +kernel
theorem dX11_layWay_0 : decode cX11_layWay 0 = .ok (.aload_n 0, 1) := by decide +kernel
theorem dX11_layWay_1 : decode cX11_layWay 1 = .ok (.invokevirtual 197, 3) := by decide +kernel
theorem dX11_layWay_4 : decode cX11_layWay 4 = .ok (.aload_n 0, 1) := by decide +kernel
theorem dX11_layWay_5 : decode cX11_layWay 5 = .ok (.iconst 0, 1) := by decide +kernel
theorem dX11_layWay_6 : decode cX11_layWay 6 = .ok (.putfield 229, 3) := by decide +kernel
theorem dX11_layWay_9 : decode cX11_layWay 9 = .ok (.aload_n 0, 1) := by decide +kernel
theorem dX11_layWay_10 : decode cX11_layWay 10 = .ok (.iconst 0, 1) := by decide +kernel
theorem dX11_layWay_11 : decode cX11_layWay 11 = .ok (.putfield 226, 3) := by decide +kernel
theorem dX11_layWay_14 : decode cX11_layWay 14 = .ok (.aload_n 0, 1) := by decide +kernel
theorem dX11_layWay_15 : decode cX11_layWay 15 = .ok (.aload_n 0, 1) := by decide +kernel
theorem dX11_layWay_16 : decode cX11_layWay 16 = .ok (.invokevirtual 186, 3) := by decide +kernel
theorem dX11_layWay_19 : decode cX11_layWay 19 = .ok (.invokevirtual 200, 3) := by decide +kernel
theorem dX11_layWay_22 : decode cX11_layWay 22 = .ok (.ifCond .ge 5, 3) := by decide +kernel
theorem dX11_layWay_25 : decode cX11_layWay 25 = .ok (.iconst 0, 1) := by decide +kernel
theorem dX11_layWay_26 : decode cX11_layWay 26 = .ok (.ireturn, 1) := by decide +kernel
theorem dX11_layWay_27 : decode cX11_layWay 27 = .ok (.aload_n 0, 1) := by decide +kernel
theorem dX11_layWay_28 : decode cX11_layWay 28 = .ok (.aload_n 0, 1) := by decide +kernel
theorem dX11_layWay_29 : decode cX11_layWay 29 = .ok (.getfield 98, 3) := by decide +kernel
theorem dX11_layWay_32 : decode cX11_layWay 32 = .ok (.aload_n 0, 1) := by decide +kernel
theorem dX11_layWay_33 : decode cX11_layWay 33 = .ok (.invokevirtual 186, 3) := by decide +kernel
theorem dX11_layWay_36 : decode cX11_layWay 36 = .ok (.aload_n 0, 1) := by decide +kernel
theorem dX11_layWay_37 : decode cX11_layWay 37 = .ok (.aload_n 0, 1) := by decide +kernel
theorem dX11_layWay_38 : decode cX11_layWay 38 = .ok (.invokevirtual 186, 3) := by decide +kernel
theorem dX11_layWay_41 : decode cX11_layWay 41 = .ok (.invokevirtual 200, 3) := by decide +kernel
theorem dX11_layWay_44 : decode cX11_layWay 44 = .ok (.invokevirtual 236, 3) := by decide +kernel
theorem dX11_layWay_47 : decode cX11_layWay 47 = .ok (.aload_n 0, 1) := by decide +kernel
theorem dX11_layWay_48 : decode cX11_layWay 48 = .ok (.getfield 226, 3) := by decide +kernel
theorem dX11_layWay_51 : decode cX11_layWay 51 = .ok (.ifCond .le 47, 3) := by decide +kernel
theorem dX11_layWay_54 : decode cX11_layWay 54 = .ok (.aload_n 0, 1) := by decide +kernel
theorem dX11_layWay_55 : decode cX11_layWay 55 = .ok (.dup, 1) := by decide +kernel
theorem dX11_layWay_56 : decode cX11_layWay 56 = .ok (.getfield 226, 3) := by decide +kernel
theorem dX11_layWay_59 : decode cX11_layWay 59 = .ok (.iconst 1, 1) := by decide +kernel
theorem dX11_layWay_60 : decode cX11_layWay 60 = .ok (.isub, 1) := by decide +kernel
theorem dX11_layWay_61 : decode cX11_layWay 61 = .ok (.putfield 226, 3) := by decide +kernel
theorem dX11_layWay_64 : decode cX11_layWay 64 = .ok (.aload_n 0, 1) := by decide +kernel
theorem dX11_layWay_65 : decode cX11_layWay 65 = .ok (.aload_n 0, 1) := by decide +kernel
theorem dX11_layWay_66 : decode cX11_layWay 66 = .ok (.getfield 70, 3) := by decide +kernel
theorem dX11_layWay_69 : decode cX11_layWay 69 = .ok (.aload_n 0, 1) := by decide +kernel
theorem dX11_layWay_70 : decode cX11_layWay 70 = .ok (.getfield 226, 3) := by decide +kernel
theorem dX11_layWay_73 : decode cX11_layWay 73 = .ok (.iaload, 1) := by decide +kernel
theorem dX11_layWay_74 : decode cX11_layWay 74 = .ok (.aload_n 0, 1) := by decide +kernel
theorem dX11_layWay_75 : decode cX11_layWay 75 = .ok (.getfield 73, 3) := by decide +kernel
theorem dX11_layWay_78 : decode cX11_layWay 78 = .ok (.aload_n 0, 1) := by decide +kernel
theorem dX11_layWay_79 : decode cX11_layWay 79 = .ok (.getfield 226, 3) := by decide +kernel
theorem dX11_layWay_82 : decode cX11_layWay 82 = .ok (.iaload, 1) := by decide +kernel
theorem dX11_layWay_83 : decode cX11_layWay 83 = .ok (.aload_n 0, 1) := by decide +kernel
theorem dX11_layWay_84 : decode cX11_layWay 84 = .ok (.getfield 76, 3) := by decide +kernel
theorem dX11_layWay_87 : decode cX11_layWay 87 = .ok (.aload_n 0, 1) := by decide +kernel
theorem dX11_layWay_88 : decode cX11_layWay 88 = .ok (.getfield 226, 3) := by decide +kernel
theorem dX11_layWay_91 : decode cX11_layWay 91 = .ok (.iaload, 1) := by decide +kernel
theorem dX11_layWay_92 : decode cX11_layWay 92 = .ok (.invokevirtual 242, 3) := by decide +kernel
theorem dX11_layWay_95 : decode cX11_layWay 95 = .ok (.goto (-48), 3) := by decide +kernel
theorem dX11_layWay_98 : decode cX11_layWay 98 = .ok (.iconst 1, 1) := by decide +kernel
theorem dX11_layWay_99 : decode cX11_layWay 99 = .ok (.ireturn, 1) := by decide +kernel
theorem dX11_term_0 : decode cX11_term 0 = .ok (.iload_n 1, 1) := by decide +kernel
theorem dX11_term_1 : decode cX11_term 1 = .ok (.iconst (-1), 1) := by decide +kernel
theorem dX11_term_2 : decode cX11_term 2 = .ok (.if_icmp .ge 6, 3) := by decide +kernel
theorem dX11_term_5 : decode cX11_term 5 = .ok (.bipush (-2), 2) := by decide +kernel
theorem dX11_term_7 : decode cX11_term 7 = .ok (.ireturn, 1) := by decide +kernel
theorem dX11_term_8 : decode cX11_term 8 = .ok (.aload_n 0, 1) := by decide +kernel
theorem dX11_term_9 : decode cX11_term 9 = .ok (.invokevirtual 193, 3) := by decide +kernel
theorem dX11_term_12 : decode cX11_term 12 = .ok (.ifCond .ne 6, 3) := by decide +kernel
theorem dX11_term_15 : decode cX11_term 15 = .ok (.bipush (-3), 2) := by decide +kernel
theorem dX11_term_17 : decode cX11_term 17 = .ok (.ireturn, 1) := by decide +kernel
theorem dX11_term_18 : decode cX11_term 18 = .ok (.aload_n 0, 1) := by decide +kernel
theorem dX11_term_19 : decode cX11_term 19 = .ok (.invokevirtual 245, 3) := by decide +kernel
theorem dX11_term_22 : decode cX11_term 22 = .ok (.ifCond .ne 6, 3) := by decide +kernel
theorem dX11_term_25 : decode cX11_term 25 = .ok (.bipush (-6), 2) := by decide +kernel
theorem dX11_term_27 : decode cX11_term 27 = .ok (.ireturn, 1) := by decide +kernel
theorem dX11_term_28 : decode cX11_term 28 = .ok (.iload_n 1, 1) := by decide +kernel
theorem dX11_term_29 : decode cX11_term 29 = .ok (.iconst (-1), 1) := by decide +kernel
theorem dX11_term_30 : decode cX11_term 30 = .ok (.if_icmp .ne 10, 3) := by decide +kernel
theorem dX11_term_33 : decode cX11_term 33 = .ok (.aload_n 0, 1) := by decide +kernel
theorem dX11_term_34 : decode cX11_term 34 = .ok (.getfield 229, 3) := by decide +kernel
theorem dX11_term_37 : decode cX11_term 37 = .ok (.goto 22, 3) := by decide +kernel
theorem dX11_term_40 : decode cX11_term 40 = .ok (.iload_n 1, 1) := by decide +kernel
theorem dX11_term_41 : decode cX11_term 41 = .ok (.aload_n 0, 1) := by decide +kernel
theorem dX11_term_42 : decode cX11_term 42 = .ok (.getfield 229, 3) := by decide +kernel
theorem dX11_term_45 : decode cX11_term 45 = .ok (.if_icmp .ge 12, 3) := by decide +kernel
theorem dX11_term_48 : decode cX11_term 48 = .ok (.aload_n 0, 1) := by decide +kernel
theorem dX11_term_49 : decode cX11_term 49 = .ok (.getfield 67, 3) := by decide +kernel
theorem dX11_term_52 : decode cX11_term 52 = .ok (.iload_n 1, 1) := by decide +kernel
theorem dX11_term_53 : decode cX11_term 53 = .ok (.iaload, 1) := by decide +kernel
theorem dX11_term_54 : decode cX11_term 54 = .ok (.goto 5, 3) := by decide +kernel
theorem dX11_term_57 : decode cX11_term 57 = .ok (.bipush (-6), 2) := by decide +kernel
theorem dX11_term_59 : decode cX11_term 59 = .ok (.ireturn, 1) := by decide +kernel
theorem dX11_uses_0 : decode cX11_uses 0 = .ok (.iload_n 1, 1) := by decide +kernel
theorem dX11_uses_1 : decode cX11_uses 1 = .ok (.iconst 0, 1) := by decide +kernel
theorem dX11_uses_2 : decode cX11_uses 2 = .ok (.iconst 1, 1) := by decide +kernel
theorem dX11_uses_3 : decode cX11_uses 3 = .ok (.invokestatic 104, 3) := by decide +kernel
theorem dX11_uses_6 : decode cX11_uses 6 = .ok (.ifCond .ne 6, 3) := by decide +kernel
theorem dX11_uses_9 : decode cX11_uses 9 = .ok (.bipush (-2), 2) := by decide +kernel
theorem dX11_uses_11 : decode cX11_uses 11 = .ok (.ireturn, 1) := by decide +kernel
theorem dX11_uses_12 : decode cX11_uses 12 = .ok (.iload_n 2, 1) := by decide +kernel
theorem dX11_uses_13 : decode cX11_uses 13 = .ok (.iconst 0, 1) := by decide +kernel
theorem dX11_uses_14 : decode cX11_uses 14 = .ok (.iload_n 1, 1) := by decide +kernel
theorem dX11_uses_15 : decode cX11_uses 15 = .ok (.ifCond .ne 8, 3) := by decide +kernel
theorem dX11_uses_18 : decode cX11_uses 18 = .ok (.bipush 7, 2) := by decide +kernel
theorem dX11_uses_20 : decode cX11_uses 20 = .ok (.goto 4, 3) := by decide +kernel
theorem dX11_uses_23 : decode cX11_uses 23 = .ok (.iconst 3, 1) := by decide +kernel
theorem dX11_uses_24 : decode cX11_uses 24 = .ok (.invokestatic 104, 3) := by decide +kernel
theorem dX11_uses_27 : decode cX11_uses 27 = .ok (.ifCond .ne 5, 3) := by decide +kernel
theorem dX11_uses_30 : decode cX11_uses 30 = .ok (.iconst (-1), 1) := by decide +kernel
theorem dX11_uses_31 : decode cX11_uses 31 = .ok (.ireturn, 1) := by decide +kernel
theorem dX11_uses_32 : decode cX11_uses 32 = .ok (.aload_n 0, 1) := by decide +kernel
theorem dX11_uses_33 : decode cX11_uses 33 = .ok (.invokevirtual 193, 3) := by decide +kernel
theorem dX11_uses_36 : decode cX11_uses 36 = .ok (.ifCond .ne 6, 3) := by decide +kernel
theorem dX11_uses_39 : decode cX11_uses 39 = .ok (.bipush (-3), 2) := by decide +kernel
theorem dX11_uses_41 : decode cX11_uses 41 = .ok (.ireturn, 1) := by decide +kernel
theorem dX11_uses_42 : decode cX11_uses 42 = .ok (.aload_n 0, 1) := by decide +kernel
theorem dX11_uses_43 : decode cX11_uses 43 = .ok (.invokevirtual 245, 3) := by decide +kernel
theorem dX11_uses_46 : decode cX11_uses 46 = .ok (.pop, 1) := by decide +kernel
theorem dX11_uses_47 : decode cX11_uses 47 = .ok (.iconst 0, 1) := by decide +kernel
theorem dX11_uses_48 : decode cX11_uses 48 = .ok (.istore_n 3, 1) := by decide +kernel
theorem dX11_uses_49 : decode cX11_uses 49 = .ok (.iconst 0, 1) := by decide +kernel
theorem dX11_uses_50 : decode cX11_uses 50 = .ok (.istore 4, 2) := by decide +kernel
theorem dX11_uses_52 : decode cX11_uses 52 = .ok (.iload 4, 2) := by decide +kernel
theorem dX11_uses_54 : decode cX11_uses 54 = .ok (.aload_n 0, 1) := by decide +kernel
theorem dX11_uses_55 : decode cX11_uses 55 = .ok (.getfield 229, 3) := by decide +kernel
theorem dX11_uses_58 : decode cX11_uses 58 = .ok (.if_icmp .ge 49, 3) := by decide +kernel
theorem dX11_uses_61 : decode cX11_uses 61 = .ok (.iload_n 3, 1) := by decide +kernel
theorem dX11_uses_62 : decode cX11_uses 62 = .ok (.aload_n 0, 1) := by decide +kernel
theorem dX11_uses_63 : decode cX11_uses 63 = .ok (.getfield 67, 3) := by decide +kernel
theorem dX11_uses_66 : decode cX11_uses 66 = .ok (.iload 4, 2) := by decide +kernel
theorem dX11_uses_68 : decode cX11_uses 68 = .ok (.iaload, 1) := by decide +kernel
theorem dX11_uses_69 : decode cX11_uses 69 = .ok (.sipush 200, 3) := by decide +kernel
theorem dX11_uses_72 : decode cX11_uses 72 = .ok (.if_icmp .ge 26, 3) := by decide +kernel
theorem dX11_uses_75 : decode cX11_uses 75 = .ok (.aload_n 0, 1) := by decide +kernel
theorem dX11_uses_76 : decode cX11_uses 76 = .ok (.getfield 67, 3) := by decide +kernel
theorem dX11_uses_79 : decode cX11_uses 79 = .ok (.iload 4, 2) := by decide +kernel
theorem dX11_uses_81 : decode cX11_uses 81 = .ok (.iaload, 1) := by decide +kernel
theorem dX11_uses_82 : decode cX11_uses 82 = .ok (.bipush 10, 2) := by decide +kernel
theorem dX11_uses_84 : decode cX11_uses 84 = .ok (.idiv, 1) := by decide +kernel
theorem dX11_uses_85 : decode cX11_uses 85 = .ok (.bipush 10, 2) := by decide +kernel
theorem dX11_uses_87 : decode cX11_uses 87 = .ok (.iload_n 1, 1) := by decide +kernel
theorem dX11_uses_88 : decode cX11_uses 88 = .ok (.imul, 1) := by decide +kernel
theorem dX11_uses_89 : decode cX11_uses 89 = .ok (.iload_n 2, 1) := by decide +kernel
theorem dX11_uses_90 : decode cX11_uses 90 = .ok (.iadd, 1) := by decide +kernel
theorem dX11_uses_91 : decode cX11_uses 91 = .ok (.if_icmp .ne 7, 3) := by decide +kernel
theorem dX11_uses_94 : decode cX11_uses 94 = .ok (.iconst 1, 1) := by decide +kernel
theorem dX11_uses_95 : decode cX11_uses 95 = .ok (.goto 4, 3) := by decide +kernel
theorem dX11_uses_98 : decode cX11_uses 98 = .ok (.iconst 0, 1) := by decide +kernel
theorem dX11_uses_99 : decode cX11_uses 99 = .ok (.iadd, 1) := by decide +kernel
theorem dX11_uses_100 : decode cX11_uses 100 = .ok (.istore_n 3, 1) := by decide +kernel
theorem dX11_uses_101 : decode cX11_uses 101 = .ok (.iinc 4 1, 3) := by decide +kernel
theorem dX11_uses_104 : decode cX11_uses 104 = .ok (.goto (-52), 3) := by decide +kernel
theorem dX11_uses_107 : decode cX11_uses 107 = .ok (.iload_n 3, 1) := by decide +kernel
theorem dX11_uses_108 : decode cX11_uses 108 = .ok (.ireturn, 1) := by decide +kernel
theorem dX11_put_0 : decode cX11_put 0 = .ok (.iload_n 1, 1) := by decide +kernel
theorem dX11_put_1 : decode cX11_put 1 = .ok (.iconst 0, 1) := by decide +kernel
theorem dX11_put_2 : decode cX11_put 2 = .ok (.sipush 499, 3) := by decide +kernel
theorem dX11_put_5 : decode cX11_put 5 = .ok (.invokestatic 104, 3) := by decide +kernel
theorem dX11_put_8 : decode cX11_put 8 = .ok (.ifCond .ne 6, 3) := by decide +kernel
theorem dX11_put_11 : decode cX11_put 11 = .ok (.bipush (-2), 2) := by decide +kernel
theorem dX11_put_13 : decode cX11_put 13 = .ok (.ireturn, 1) := by decide +kernel
theorem dX11_put_14 : decode cX11_put 14 = .ok (.aload_n 0, 1) := by decide +kernel
theorem dX11_put_15 : decode cX11_put 15 = .ok (.getfield 248, 3) := by decide +kernel
theorem dX11_put_18 : decode cX11_put 18 = .ok (.bipush 60, 2) := by decide +kernel
theorem dX11_put_20 : decode cX11_put 20 = .ok (.if_icmp .ne 6, 3) := by decide +kernel
theorem dX11_put_23 : decode cX11_put 23 = .ok (.bipush (-4), 2) := by decide +kernel
theorem dX11_put_25 : decode cX11_put 25 = .ok (.ireturn, 1) := by decide +kernel
theorem dX11_put_26 : decode cX11_put 26 = .ok (.aload_n 0, 1) := by decide +kernel
theorem dX11_put_27 : decode cX11_put 27 = .ok (.getfield 20, 3) := by decide +kernel
theorem dX11_put_30 : decode cX11_put 30 = .ok (.aload_n 0, 1) := by decide +kernel
theorem dX11_put_31 : decode cX11_put 31 = .ok (.getfield 248, 3) := by decide +kernel
theorem dX11_put_34 : decode cX11_put 34 = .ok (.iload_n 1, 1) := by decide +kernel
theorem dX11_put_35 : decode cX11_put 35 = .ok (.iastore, 1) := by decide +kernel
theorem dX11_put_36 : decode cX11_put 36 = .ok (.aload_n 0, 1) := by decide +kernel
theorem dX11_put_37 : decode cX11_put 37 = .ok (.dup, 1) := by decide +kernel
theorem dX11_put_38 : decode cX11_put 38 = .ok (.getfield 248, 3) := by decide +kernel
theorem dX11_put_41 : decode cX11_put 41 = .ok (.iconst 1, 1) := by decide +kernel
theorem dX11_put_42 : decode cX11_put 42 = .ok (.iadd, 1) := by decide +kernel
theorem dX11_put_43 : decode cX11_put 43 = .ok (.putfield 248, 3) := by decide +kernel
theorem dX11_put_46 : decode cX11_put 46 = .ok (.aload_n 0, 1) := by decide +kernel
theorem dX11_put_47 : decode cX11_put 47 = .ok (.getfield 248, 3) := by decide +kernel
theorem dX11_put_50 : decode cX11_put 50 = .ok (.ireturn, 1) := by decide +kernel
theorem dX11_trial_0 : decode cX11_trial 0 = .ok (.iload_n 1, 1) := by decide +kernel
theorem dX11_trial_1 : decode cX11_trial 1 = .ok (.iconst 0, 1) := by decide +kernel
theorem dX11_trial_2 : decode cX11_trial 2 = .ok (.iconst 1, 1) := by decide +kernel
theorem dX11_trial_3 : decode cX11_trial 3 = .ok (.invokestatic 104, 3) := by decide +kernel
theorem dX11_trial_6 : decode cX11_trial 6 = .ok (.ifCond .ne 6, 3) := by decide +kernel
theorem dX11_trial_9 : decode cX11_trial 9 = .ok (.bipush (-2), 2) := by decide +kernel
theorem dX11_trial_11 : decode cX11_trial 11 = .ok (.ireturn, 1) := by decide +kernel
theorem dX11_trial_12 : decode cX11_trial 12 = .ok (.iload_n 1, 1) := by decide +kernel
theorem dX11_trial_13 : decode cX11_trial 13 = .ok (.iconst 1, 1) := by decide +kernel
theorem dX11_trial_14 : decode cX11_trial 14 = .ok (.if_icmp .ne 13, 3) := by decide +kernel
theorem dX11_trial_17 : decode cX11_trial 17 = .ok (.aload_n 0, 1) := by decide +kernel
theorem dX11_trial_18 : decode cX11_trial 18 = .ok (.invokevirtual 193, 3) := by decide +kernel
theorem dX11_trial_21 : decode cX11_trial 21 = .ok (.ifCond .ne 6, 3) := by decide +kernel
theorem dX11_trial_24 : decode cX11_trial 24 = .ok (.bipush (-3), 2) := by decide +kernel
theorem dX11_trial_26 : decode cX11_trial 26 = .ok (.ireturn, 1) := by decide +kernel
theorem dX11_trial_27 : decode cX11_trial 27 = .ok (.aload_n 0, 1) := by decide +kernel
theorem dX11_trial_28 : decode cX11_trial 28 = .ok (.iconst 0, 1) := by decide +kernel
theorem dX11_trial_29 : decode cX11_trial 29 = .ok (.putfield 248, 3) := by decide +kernel
theorem dX11_trial_32 : decode cX11_trial 32 = .ok (.iload_n 1, 1) := by decide +kernel
theorem dX11_trial_33 : decode cX11_trial 33 = .ok (.iconst 1, 1) := by decide +kernel
theorem dX11_trial_34 : decode cX11_trial 34 = .ok (.if_icmp .ne 52, 3) := by decide +kernel
theorem dX11_trial_37 : decode cX11_trial 37 = .ok (.aload_n 0, 1) := by decide +kernel
theorem dX11_trial_38 : decode cX11_trial 38 = .ok (.invokevirtual 245, 3) := by decide +kernel
theorem dX11_trial_41 : decode cX11_trial 41 = .ok (.pop, 1) := by decide +kernel
theorem dX11_trial_42 : decode cX11_trial 42 = .ok (.iconst 0, 1) := by decide +kernel
theorem dX11_trial_43 : decode cX11_trial 43 = .ok (.istore_n 2, 1) := by decide +kernel
theorem dX11_trial_44 : decode cX11_trial 44 = .ok (.iload_n 2, 1) := by decide +kernel
theorem dX11_trial_45 : decode cX11_trial 45 = .ok (.aload_n 0, 1) := by decide +kernel
theorem dX11_trial_46 : decode cX11_trial 46 = .ok (.getfield 229, 3) := by decide +kernel
theorem dX11_trial_49 : decode cX11_trial 49 = .ok (.if_icmp .ge 37, 3) := by decide +kernel
theorem dX11_trial_52 : decode cX11_trial 52 = .ok (.iload_n 2, 1) := by decide +kernel
theorem dX11_trial_53 : decode cX11_trial 53 = .ok (.bipush 60, 2) := by decide +kernel
theorem dX11_trial_55 : decode cX11_trial 55 = .ok (.if_icmp .ge 31, 3) := by decide +kernel
theorem dX11_trial_58 : decode cX11_trial 58 = .ok (.aload_n 0, 1) := by decide +kernel
theorem dX11_trial_59 : decode cX11_trial 59 = .ok (.getfield 20, 3) := by decide +kernel
theorem dX11_trial_62 : decode cX11_trial 62 = .ok (.iload_n 2, 1) := by decide +kernel
theorem dX11_trial_63 : decode cX11_trial 63 = .ok (.aload_n 0, 1) := by decide +kernel
theorem dX11_trial_64 : decode cX11_trial 64 = .ok (.getfield 67, 3) := by decide +kernel
theorem dX11_trial_67 : decode cX11_trial 67 = .ok (.iload_n 2, 1) := by decide +kernel
theorem dX11_trial_68 : decode cX11_trial 68 = .ok (.iaload, 1) := by decide +kernel
theorem dX11_trial_69 : decode cX11_trial 69 = .ok (.iastore, 1) := by decide +kernel
theorem dX11_trial_70 : decode cX11_trial 70 = .ok (.aload_n 0, 1) := by decide +kernel
theorem dX11_trial_71 : decode cX11_trial 71 = .ok (.dup, 1) := by decide +kernel
theorem dX11_trial_72 : decode cX11_trial 72 = .ok (.getfield 248, 3) := by decide +kernel
theorem dX11_trial_75 : decode cX11_trial 75 = .ok (.iconst 1, 1) := by decide +kernel
theorem dX11_trial_76 : decode cX11_trial 76 = .ok (.iadd, 1) := by decide +kernel
theorem dX11_trial_77 : decode cX11_trial 77 = .ok (.putfield 248, 3) := by decide +kernel
theorem dX11_trial_80 : decode cX11_trial 80 = .ok (.iinc 2 1, 3) := by decide +kernel
theorem dX11_trial_83 : decode cX11_trial 83 = .ok (.goto (-39), 3) := by decide +kernel
theorem dX11_trial_86 : decode cX11_trial 86 = .ok (.aload_n 0, 1) := by decide +kernel
theorem dX11_trial_87 : decode cX11_trial 87 = .ok (.getfield 248, 3) := by decide +kernel
theorem dX11_trial_90 : decode cX11_trial 90 = .ok (.ireturn, 1) := by decide +kernel
theorem dX11_checkAtom_0 : decode cX11_checkAtom 0 = .ok (.aload_n 0, 1) := by decide +kernel
theorem dX11_checkAtom_1 : decode cX11_checkAtom 1 = .ok (.getfield 251, 3) := by decide +kernel
theorem dX11_checkAtom_4 : decode cX11_checkAtom 4 = .ok (.aload_n 0, 1) := by decide +kernel
theorem dX11_checkAtom_5 : decode cX11_checkAtom 5 = .ok (.getfield 248, 3) := by decide +kernel
theorem dX11_checkAtom_8 : decode cX11_checkAtom 8 = .ok (.if_icmp .ne 5, 3) := by decide +kernel
theorem dX11_checkAtom_11 : decode cX11_checkAtom 11 = .ok (.iconst 2, 1) := by decide +kernel
theorem dX11_checkAtom_12 : decode cX11_checkAtom 12 = .ok (.ireturn, 1) := by decide +kernel
theorem dX11_checkAtom_13 : decode cX11_checkAtom 13 = .ok (.aload_n 0, 1) := by decide +kernel
theorem dX11_checkAtom_14 : decode cX11_checkAtom 14 = .ok (.getfield 20, 3) := by decide +kernel
theorem dX11_checkAtom_17 : decode cX11_checkAtom 17 = .ok (.aload_n 0, 1) := by decide +kernel
theorem dX11_checkAtom_18 : decode cX11_checkAtom 18 = .ok (.getfield 251, 3) := by decide +kernel
theorem dX11_checkAtom_21 : decode cX11_checkAtom 21 = .ok (.iaload, 1) := by decide +kernel
theorem dX11_checkAtom_22 : decode cX11_checkAtom 22 = .ok (.istore 4, 2) := by decide +kernel
theorem dX11_checkAtom_24 : decode cX11_checkAtom 24 = .ok (.iload 4, 2) := by decide +kernel
theorem dX11_checkAtom_26 : decode cX11_checkAtom 26 = .ok (.bipush 100, 2) := by decide +kernel
theorem dX11_checkAtom_28 : decode cX11_checkAtom 28 = .ok (.if_icmp .ge 11, 3) := by decide +kernel
theorem dX11_checkAtom_31 : decode cX11_checkAtom 31 = .ok (.iload 4, 2) := by decide +kernel
theorem dX11_checkAtom_33 : decode cX11_checkAtom 33 = .ok (.bipush 10, 2) := by decide +kernel
theorem dX11_checkAtom_35 : decode cX11_checkAtom 35 = .ok (.idiv, 1) := by decide +kernel
theorem dX11_checkAtom_36 : decode cX11_checkAtom 36 = .ok (.goto 11, 3) := by decide +kernel
theorem dX11_checkAtom_39 : decode cX11_checkAtom 39 = .ok (.iload 4, 2) := by decide +kernel
theorem dX11_checkAtom_41 : decode cX11_checkAtom 41 = .ok (.bipush 100, 2) := by decide +kernel
theorem dX11_checkAtom_43 : decode cX11_checkAtom 43 = .ok (.isub, 1) := by decide +kernel
theorem dX11_checkAtom_44 : decode cX11_checkAtom 44 = .ok (.bipush 10, 2) := by decide +kernel
theorem dX11_checkAtom_46 : decode cX11_checkAtom 46 = .ok (.idiv, 1) := by decide +kernel
theorem dX11_checkAtom_47 : decode cX11_checkAtom 47 = .ok (.istore 5, 2) := by decide +kernel
theorem dX11_checkAtom_49 : decode cX11_checkAtom 49 = .ok (.iload 4, 2) := by decide +kernel
theorem dX11_checkAtom_51 : decode cX11_checkAtom 51 = .ok (.bipush 100, 2) := by decide +kernel
theorem dX11_checkAtom_53 : decode cX11_checkAtom 53 = .ok (.if_icmp .ge 27, 3) := by decide +kernel
theorem dX11_checkAtom_56 : decode cX11_checkAtom 56 = .ok (.iload 5, 2) := by decide +kernel
theorem dX11_checkAtom_58 : decode cX11_checkAtom 58 = .ok (.bipush 8, 2) := by decide +kernel
theorem dX11_checkAtom_60 : decode cX11_checkAtom 60 = .ok (.if_icmp .ge 16, 3) := by decide +kernel
theorem dX11_checkAtom_63 : decode cX11_checkAtom 63 = .ok (.iload_n 2, 1) := by decide +kernel
theorem dX11_checkAtom_64 : decode cX11_checkAtom 64 = .ok (.iload 5, 2) := by decide +kernel
theorem dX11_checkAtom_66 : decode cX11_checkAtom 66 = .ok (.invokestatic 171, 3) := by decide +kernel
theorem dX11_checkAtom_69 : decode cX11_checkAtom 69 = .ok (.ifCond .eq 7, 3) := by decide +kernel
theorem dX11_checkAtom_72 : decode cX11_checkAtom 72 = .ok (.iconst 1, 1) := by decide +kernel
theorem dX11_checkAtom_73 : decode cX11_checkAtom 73 = .ok (.goto 26, 3) := by decide +kernel
theorem dX11_checkAtom_76 : decode cX11_checkAtom 76 = .ok (.iconst 0, 1) := by decide +kernel
theorem dX11_checkAtom_77 : decode cX11_checkAtom 77 = .ok (.goto 22, 3) := by decide +kernel
theorem dX11_checkAtom_80 : decode cX11_checkAtom 80 = .ok (.iload 4, 2) := by decide +kernel
theorem dX11_checkAtom_82 : decode cX11_checkAtom 82 = .ok (.sipush 200, 3) := by decide +kernel
theorem dX11_checkAtom_85 : decode cX11_checkAtom 85 = .ok (.if_icmp .ge 13, 3) := by decide +kernel
theorem dX11_checkAtom_88 : decode cX11_checkAtom 88 = .ok (.iload 5, 2) := by decide +kernel
theorem dX11_checkAtom_90 : decode cX11_checkAtom 90 = .ok (.iconst 4, 1) := by decide +kernel
theorem dX11_checkAtom_91 : decode cX11_checkAtom 91 = .ok (.if_icmp .ge 7, 3) := by decide +kernel
theorem dX11_checkAtom_94 : decode cX11_checkAtom 94 = .ok (.iconst 1, 1) := by decide +kernel
theorem dX11_checkAtom_95 : decode cX11_checkAtom 95 = .ok (.goto 4, 3) := by decide +kernel
theorem dX11_checkAtom_98 : decode cX11_checkAtom 98 = .ok (.iconst 0, 1) := by decide +kernel
theorem dX11_checkAtom_99 : decode cX11_checkAtom 99 = .ok (.istore 6, 2) := by decide +kernel
theorem dX11_checkAtom_101 : decode cX11_checkAtom 101 = .ok (.iload 4, 2) := by decide +kernel
theorem dX11_checkAtom_103 : decode cX11_checkAtom 103 = .ok (.bipush 100, 2) := by decide +kernel
theorem dX11_checkAtom_105 : decode cX11_checkAtom 105 = .ok (.if_icmp .ge 8, 3) := by decide +kernel
theorem dX11_checkAtom_108 : decode cX11_checkAtom 108 = .ok (.iload 5, 2) := by decide +kernel
theorem dX11_checkAtom_110 : decode cX11_checkAtom 110 = .ok (.goto 8, 3) := by decide +kernel
theorem dX11_checkAtom_113 : decode cX11_checkAtom 113 = .ok (.bipush 8, 2) := by decide +kernel
theorem dX11_checkAtom_115 : decode cX11_checkAtom 115 = .ok (.iload 5, 2) := by decide +kernel
theorem dX11_checkAtom_117 : decode cX11_checkAtom 117 = .ok (.iadd, 1) := by decide +kernel
theorem dX11_checkAtom_118 : decode cX11_checkAtom 118 = .ok (.istore 7, 2) := by decide +kernel
theorem dX11_checkAtom_120 : decode cX11_checkAtom 120 = .ok (.iload 6, 2) := by decide +kernel
theorem dX11_checkAtom_122 : decode cX11_checkAtom 122 = .ok (.ifCond .eq 37, 3) := by decide +kernel
theorem dX11_checkAtom_125 : decode cX11_checkAtom 125 = .ok (.iload 4, 2) := by decide +kernel
theorem dX11_checkAtom_127 : decode cX11_checkAtom 127 = .ok (.bipush 10, 2) := by decide +kernel
theorem dX11_checkAtom_129 : decode cX11_checkAtom 129 = .ok (.irem, 1) := by decide +kernel
theorem dX11_checkAtom_130 : decode cX11_checkAtom 130 = .ok (.aload_n 0, 1) := by decide +kernel
theorem dX11_checkAtom_131 : decode cX11_checkAtom 131 = .ok (.getfield 32, 3) := by decide +kernel
theorem dX11_checkAtom_134 : decode cX11_checkAtom 134 = .ok (.iload 7, 2) := by decide +kernel
theorem dX11_checkAtom_136 : decode cX11_checkAtom 136 = .ok (.iaload, 1) := by decide +kernel
theorem dX11_checkAtom_137 : decode cX11_checkAtom 137 = .ok (.if_icmp .ge 22, 3) := by decide +kernel
theorem dX11_checkAtom_140 : decode cX11_checkAtom 140 = .ok (.aload_n 0, 1) := by decide +kernel
theorem dX11_checkAtom_141 : decode cX11_checkAtom 141 = .ok (.getfield 35, 3) := by decide +kernel
theorem dX11_checkAtom_144 : decode cX11_checkAtom 144 = .ok (.iconst 3, 1) := by decide +kernel
theorem dX11_checkAtom_145 : decode cX11_checkAtom 145 = .ok (.iload 7, 2) := by decide +kernel
theorem dX11_checkAtom_147 : decode cX11_checkAtom 147 = .ok (.imul, 1) := by decide +kernel
theorem dX11_checkAtom_148 : decode cX11_checkAtom 148 = .ok (.iload 4, 2) := by decide +kernel
theorem dX11_checkAtom_150 : decode cX11_checkAtom 150 = .ok (.bipush 10, 2) := by decide +kernel
theorem dX11_checkAtom_152 : decode cX11_checkAtom 152 = .ok (.irem, 1) := by decide +kernel
theorem dX11_checkAtom_153 : decode cX11_checkAtom 153 = .ok (.iadd, 1) := by decide +kernel
theorem dX11_checkAtom_154 : decode cX11_checkAtom 154 = .ok (.iaload, 1) := by decide +kernel
theorem dX11_checkAtom_155 : decode cX11_checkAtom 155 = .ok (.iload_n 1, 1) := by decide +kernel
theorem dX11_checkAtom_156 : decode cX11_checkAtom 156 = .ok (.if_icmp .eq 5, 3) := by decide +kernel
theorem dX11_checkAtom_159 : decode cX11_checkAtom 159 = .ok (.iconst 3, 1) := by decide +kernel
theorem dX11_checkAtom_160 : decode cX11_checkAtom 160 = .ok (.ireturn, 1) := by decide +kernel
theorem dX11_checkAtom_161 : decode cX11_checkAtom 161 = .ok (.aload_n 0, 1) := by decide +kernel
theorem dX11_checkAtom_162 : decode cX11_checkAtom 162 = .ok (.dup, 1) := by decide +kernel
theorem dX11_checkAtom_163 : decode cX11_checkAtom 163 = .ok (.getfield 251, 3) := by decide +kernel
theorem dX11_checkAtom_166 : decode cX11_checkAtom 166 = .ok (.iconst 1, 1) := by decide +kernel
theorem dX11_checkAtom_167 : decode cX11_checkAtom 167 = .ok (.iadd, 1) := by decide +kernel
theorem dX11_checkAtom_168 : decode cX11_checkAtom 168 = .ok (.putfield 251, 3) := by decide +kernel
theorem dX11_checkAtom_171 : decode cX11_checkAtom 171 = .ok (.iload 4, 2) := by decide +kernel
theorem dX11_checkAtom_173 : decode cX11_checkAtom 173 = .ok (.bipush 100, 2) := by decide +kernel
theorem dX11_checkAtom_175 : decode cX11_checkAtom 175 = .ok (.if_icmp .ge 14, 3) := by decide +kernel
theorem dX11_checkAtom_178 : decode cX11_checkAtom 178 = .ok (.iload_n 2, 1) := by decide +kernel
theorem dX11_checkAtom_179 : decode cX11_checkAtom 179 = .ok (.iconst 1, 1) := by decide +kernel
theorem dX11_checkAtom_180 : decode cX11_checkAtom 180 = .ok (.iload 5, 2) := by decide +kernel
theorem dX11_checkAtom_182 : decode cX11_checkAtom 182 = .ok (.ishl, 1) := by decide +kernel
theorem dX11_checkAtom_183 : decode cX11_checkAtom 183 = .ok (.iconst (-1), 1) := by decide +kernel
theorem dX11_checkAtom_184 : decode cX11_checkAtom 184 = .ok (.ixor, 1) := by decide +kernel
theorem dX11_checkAtom_185 : decode cX11_checkAtom 185 = .ok (.iand, 1) := by decide +kernel
theorem dX11_checkAtom_186 : decode cX11_checkAtom 186 = .ok (.goto 4, 3) := by decide +kernel
theorem dX11_checkAtom_189 : decode cX11_checkAtom 189 = .ok (.iload_n 2, 1) := by decide +kernel
theorem dX11_checkAtom_190 : decode cX11_checkAtom 190 = .ok (.istore 8, 2) := by decide +kernel
theorem dX11_checkAtom_192 : decode cX11_checkAtom 192 = .ok (.aload_n 0, 1) := by decide +kernel
theorem dX11_checkAtom_193 : decode cX11_checkAtom 193 = .ok (.getfield 38, 3) := by decide +kernel
theorem dX11_checkAtom_196 : decode cX11_checkAtom 196 = .ok (.iconst 3, 1) := by decide +kernel
theorem dX11_checkAtom_197 : decode cX11_checkAtom 197 = .ok (.iload 7, 2) := by decide +kernel
theorem dX11_checkAtom_199 : decode cX11_checkAtom 199 = .ok (.imul, 1) := by decide +kernel
theorem dX11_checkAtom_200 : decode cX11_checkAtom 200 = .ok (.iload 4, 2) := by decide +kernel
theorem dX11_checkAtom_202 : decode cX11_checkAtom 202 = .ok (.bipush 10, 2) := by decide +kernel
theorem dX11_checkAtom_204 : decode cX11_checkAtom 204 = .ok (.irem, 1) := by decide +kernel
theorem dX11_checkAtom_205 : decode cX11_checkAtom 205 = .ok (.iadd, 1) := by decide +kernel
theorem dX11_checkAtom_206 : decode cX11_checkAtom 206 = .ok (.iaload, 1) := by decide +kernel
theorem dX11_checkAtom_207 : decode cX11_checkAtom 207 = .ok (.istore 9, 2) := by decide +kernel
theorem dX11_checkAtom_209 : decode cX11_checkAtom 209 = .ok (.iload 9, 2) := by decide +kernel
theorem dX11_checkAtom_211 : decode cX11_checkAtom 211 = .ok (.ifCond .lt 16, 3) := by decide +kernel
theorem dX11_checkAtom_214 : decode cX11_checkAtom 214 = .ok (.aload_n 0, 1) := by decide +kernel
theorem dX11_checkAtom_215 : decode cX11_checkAtom 215 = .ok (.iload 9, 2) := by decide +kernel
theorem dX11_checkAtom_217 : decode cX11_checkAtom 217 = .ok (.iload 8, 2) := by decide +kernel
theorem dX11_checkAtom_219 : decode cX11_checkAtom 219 = .ok (.iload_n 3, 1) := by decide +kernel
theorem dX11_checkAtom_220 : decode cX11_checkAtom 220 = .ok (.iconst 1, 1) := by decide +kernel
theorem dX11_checkAtom_221 : decode cX11_checkAtom 221 = .ok (.iadd, 1) := by decide +kernel
theorem dX11_checkAtom_222 : decode cX11_checkAtom 222 = .ok (.invokevirtual 236, 3) := by decide +kernel
theorem dX11_checkAtom_225 : decode cX11_checkAtom 225 = .ok (.iconst 0, 1) := by decide +kernel
theorem dX11_checkAtom_226 : decode cX11_checkAtom 226 = .ok (.ireturn, 1) := by decide +kernel
theorem dX11_checkAtom_227 : decode cX11_checkAtom 227 = .ok (.iload 8, 2) := by decide +kernel
theorem dX11_checkAtom_229 : decode cX11_checkAtom 229 = .ok (.ifCond .ne 7, 3) := by decide +kernel
theorem dX11_checkAtom_232 : decode cX11_checkAtom 232 = .ok (.iconst 0, 1) := by decide +kernel
theorem dX11_checkAtom_233 : decode cX11_checkAtom 233 = .ok (.goto 4, 3) := by decide +kernel
theorem dX11_checkAtom_236 : decode cX11_checkAtom 236 = .ok (.iconst 4, 1) := by decide +kernel
theorem dX11_checkAtom_237 : decode cX11_checkAtom 237 = .ok (.ireturn, 1) := by decide +kernel
theorem dX11_checkParts_0 : decode cX11_checkParts 0 = .ok (.aload_n 0, 1) := by decide +kernel
theorem dX11_checkParts_1 : decode cX11_checkParts 1 = .ok (.getfield 251, 3) := by decide +kernel
theorem dX11_checkParts_4 : decode cX11_checkParts 4 = .ok (.aload_n 0, 1) := by decide +kernel
theorem dX11_checkParts_5 : decode cX11_checkParts 5 = .ok (.getfield 248, 3) := by decide +kernel
theorem dX11_checkParts_8 : decode cX11_checkParts 8 = .ok (.if_icmp .ne 5, 3) := by decide +kernel
theorem dX11_checkParts_11 : decode cX11_checkParts 11 = .ok (.iconst 2, 1) := by decide +kernel
theorem dX11_checkParts_12 : decode cX11_checkParts 12 = .ok (.ireturn, 1) := by decide +kernel
theorem dX11_checkParts_13 : decode cX11_checkParts 13 = .ok (.aload_n 0, 1) := by decide +kernel
theorem dX11_checkParts_14 : decode cX11_checkParts 14 = .ok (.getfield 20, 3) := by decide +kernel
theorem dX11_checkParts_17 : decode cX11_checkParts 17 = .ok (.aload_n 0, 1) := by decide +kernel
theorem dX11_checkParts_18 : decode cX11_checkParts 18 = .ok (.getfield 251, 3) := by decide +kernel
theorem dX11_checkParts_21 : decode cX11_checkParts 21 = .ok (.iaload, 1) := by decide +kernel
theorem dX11_checkParts_22 : decode cX11_checkParts 22 = .ok (.sipush 200, 3) := by decide +kernel
theorem dX11_checkParts_25 : decode cX11_checkParts 25 = .ok (.isub, 1) := by decide +kernel
theorem dX11_checkParts_26 : decode cX11_checkParts 26 = .ok (.istore 4, 2) := by decide +kernel
theorem dX11_checkParts_28 : decode cX11_checkParts 28 = .ok (.iload 4, 2) := by decide +kernel
theorem dX11_checkParts_30 : decode cX11_checkParts 30 = .ok (.ifCond .lt 12, 3) := by decide +kernel
theorem dX11_checkParts_33 : decode cX11_checkParts 33 = .ok (.iload 4, 2) := by decide +kernel
theorem dX11_checkParts_35 : decode cX11_checkParts 35 = .ok (.iload_n 2, 1) := by decide +kernel
theorem dX11_checkParts_36 : decode cX11_checkParts 36 = .ok (.iconst (-1), 1) := by decide +kernel
theorem dX11_checkParts_37 : decode cX11_checkParts 37 = .ok (.ixor, 1) := by decide +kernel
theorem dX11_checkParts_38 : decode cX11_checkParts 38 = .ok (.iand, 1) := by decide +kernel
theorem dX11_checkParts_39 : decode cX11_checkParts 39 = .ok (.ifCond .eq 5, 3) := by decide +kernel
theorem dX11_checkParts_42 : decode cX11_checkParts 42 = .ok (.iconst 3, 1) := by decide +kernel
theorem dX11_checkParts_43 : decode cX11_checkParts 43 = .ok (.ireturn, 1) := by decide +kernel
theorem dX11_checkParts_44 : decode cX11_checkParts 44 = .ok (.aload_n 0, 1) := by decide +kernel
theorem dX11_checkParts_45 : decode cX11_checkParts 45 = .ok (.dup, 1) := by decide +kernel
theorem dX11_checkParts_46 : decode cX11_checkParts 46 = .ok (.getfield 251, 3) := by decide +kernel
theorem dX11_checkParts_49 : decode cX11_checkParts 49 = .ok (.iconst 1, 1) := by decide +kernel
theorem dX11_checkParts_50 : decode cX11_checkParts 50 = .ok (.iadd, 1) := by decide +kernel
theorem dX11_checkParts_51 : decode cX11_checkParts 51 = .ok (.putfield 251, 3) := by decide +kernel
theorem dX11_checkParts_54 : decode cX11_checkParts 54 = .ok (.aload_n 0, 1) := by decide +kernel
theorem dX11_checkParts_55 : decode cX11_checkParts 55 = .ok (.aload_n 0, 1) := by decide +kernel
theorem dX11_checkParts_56 : decode cX11_checkParts 56 = .ok (.getfield 29, 3) := by decide +kernel
theorem dX11_checkParts_59 : decode cX11_checkParts 59 = .ok (.iload_n 1, 1) := by decide +kernel
theorem dX11_checkParts_60 : decode cX11_checkParts 60 = .ok (.iaload, 1) := by decide +kernel
theorem dX11_checkParts_61 : decode cX11_checkParts 61 = .ok (.iload_n 2, 1) := by decide +kernel
theorem dX11_checkParts_62 : decode cX11_checkParts 62 = .ok (.iload 4, 2) := by decide +kernel
theorem dX11_checkParts_64 : decode cX11_checkParts 64 = .ok (.iconst (-1), 1) := by decide +kernel
theorem dX11_checkParts_65 : decode cX11_checkParts 65 = .ok (.ixor, 1) := by decide +kernel
theorem dX11_checkParts_66 : decode cX11_checkParts 66 = .ok (.iand, 1) := by decide +kernel
theorem dX11_checkParts_67 : decode cX11_checkParts 67 = .ok (.iload_n 3, 1) := by decide +kernel
theorem dX11_checkParts_68 : decode cX11_checkParts 68 = .ok (.iconst 1, 1) := by decide +kernel
theorem dX11_checkParts_69 : decode cX11_checkParts 69 = .ok (.iadd, 1) := by decide +kernel
theorem dX11_checkParts_70 : decode cX11_checkParts 70 = .ok (.invokevirtual 236, 3) := by decide +kernel
theorem dX11_checkParts_73 : decode cX11_checkParts 73 = .ok (.aload_n 0, 1) := by decide +kernel
theorem dX11_checkParts_74 : decode cX11_checkParts 74 = .ok (.aload_n 0, 1) := by decide +kernel
theorem dX11_checkParts_75 : decode cX11_checkParts 75 = .ok (.getfield 26, 3) := by decide +kernel
theorem dX11_checkParts_78 : decode cX11_checkParts 78 = .ok (.iload_n 1, 1) := by decide +kernel
theorem dX11_checkParts_79 : decode cX11_checkParts 79 = .ok (.iaload, 1) := by decide +kernel
theorem dX11_checkParts_80 : decode cX11_checkParts 80 = .ok (.iload 4, 2) := by decide +kernel
theorem dX11_checkParts_82 : decode cX11_checkParts 82 = .ok (.iload_n 3, 1) := by decide +kernel
theorem dX11_checkParts_83 : decode cX11_checkParts 83 = .ok (.iconst 1, 1) := by decide +kernel
theorem dX11_checkParts_84 : decode cX11_checkParts 84 = .ok (.iadd, 1) := by decide +kernel
theorem dX11_checkParts_85 : decode cX11_checkParts 85 = .ok (.invokevirtual 236, 3) := by decide +kernel
theorem dX11_checkParts_88 : decode cX11_checkParts 88 = .ok (.iconst 0, 1) := by decide +kernel
theorem dX11_checkParts_89 : decode cX11_checkParts 89 = .ok (.ireturn, 1) := by decide +kernel
theorem dX11_checkPlus_0 : decode cX11_checkPlus 0 = .ok (.aload_n 0, 1) := by decide +kernel
theorem dX11_checkPlus_1 : decode cX11_checkPlus 1 = .ok (.getfield 251, 3) := by decide +kernel
theorem dX11_checkPlus_4 : decode cX11_checkPlus 4 = .ok (.aload_n 0, 1) := by decide +kernel
theorem dX11_checkPlus_5 : decode cX11_checkPlus 5 = .ok (.getfield 248, 3) := by decide +kernel
theorem dX11_checkPlus_8 : decode cX11_checkPlus 8 = .ok (.if_icmp .ne 5, 3) := by decide +kernel
theorem dX11_checkPlus_11 : decode cX11_checkPlus 11 = .ok (.iconst 2, 1) := by decide +kernel
theorem dX11_checkPlus_12 : decode cX11_checkPlus 12 = .ok (.ireturn, 1) := by decide +kernel
theorem dX11_checkPlus_13 : decode cX11_checkPlus 13 = .ok (.aload_n 0, 1) := by decide +kernel
theorem dX11_checkPlus_14 : decode cX11_checkPlus 14 = .ok (.getfield 20, 3) := by decide +kernel
theorem dX11_checkPlus_17 : decode cX11_checkPlus 17 = .ok (.aload_n 0, 1) := by decide +kernel
theorem dX11_checkPlus_18 : decode cX11_checkPlus 18 = .ok (.getfield 251, 3) := by decide +kernel
theorem dX11_checkPlus_21 : decode cX11_checkPlus 21 = .ok (.iaload, 1) := by decide +kernel
theorem dX11_checkPlus_22 : decode cX11_checkPlus 22 = .ok (.sipush 300, 3) := by decide +kernel
theorem dX11_checkPlus_25 : decode cX11_checkPlus 25 = .ok (.sipush 301, 3) := by decide +kernel
theorem dX11_checkPlus_28 : decode cX11_checkPlus 28 = .ok (.invokestatic 104, 3) := by decide +kernel
theorem dX11_checkPlus_31 : decode cX11_checkPlus 31 = .ok (.ifCond .ne 5, 3) := by decide +kernel
theorem dX11_checkPlus_34 : decode cX11_checkPlus 34 = .ok (.iconst 3, 1) := by decide +kernel
theorem dX11_checkPlus_35 : decode cX11_checkPlus 35 = .ok (.ireturn, 1) := by decide +kernel
theorem dX11_checkPlus_36 : decode cX11_checkPlus 36 = .ok (.aload_n 0, 1) := by decide +kernel
theorem dX11_checkPlus_37 : decode cX11_checkPlus 37 = .ok (.aload_n 0, 1) := by decide +kernel
theorem dX11_checkPlus_38 : decode cX11_checkPlus 38 = .ok (.getfield 20, 3) := by decide +kernel
theorem dX11_checkPlus_41 : decode cX11_checkPlus 41 = .ok (.aload_n 0, 1) := by decide +kernel
theorem dX11_checkPlus_42 : decode cX11_checkPlus 42 = .ok (.getfield 251, 3) := by decide +kernel
theorem dX11_checkPlus_45 : decode cX11_checkPlus 45 = .ok (.iaload, 1) := by decide +kernel
theorem dX11_checkPlus_46 : decode cX11_checkPlus 46 = .ok (.sipush 300, 3) := by decide +kernel
theorem dX11_checkPlus_49 : decode cX11_checkPlus 49 = .ok (.if_icmp .ne 12, 3) := by decide +kernel
theorem dX11_checkPlus_52 : decode cX11_checkPlus 52 = .ok (.aload_n 0, 1) := by decide +kernel
theorem dX11_checkPlus_53 : decode cX11_checkPlus 53 = .ok (.getfield 26, 3) := by decide +kernel
theorem dX11_checkPlus_56 : decode cX11_checkPlus 56 = .ok (.iload_n 1, 1) := by decide +kernel
theorem dX11_checkPlus_57 : decode cX11_checkPlus 57 = .ok (.iaload, 1) := by decide +kernel
theorem dX11_checkPlus_58 : decode cX11_checkPlus 58 = .ok (.goto 9, 3) := by decide +kernel
theorem dX11_checkPlus_61 : decode cX11_checkPlus 61 = .ok (.aload_n 0, 1) := by decide +kernel
theorem dX11_checkPlus_62 : decode cX11_checkPlus 62 = .ok (.getfield 29, 3) := by decide +kernel
theorem dX11_checkPlus_65 : decode cX11_checkPlus 65 = .ok (.iload_n 1, 1) := by decide +kernel
theorem dX11_checkPlus_66 : decode cX11_checkPlus 66 = .ok (.iaload, 1) := by decide +kernel
theorem dX11_checkPlus_67 : decode cX11_checkPlus 67 = .ok (.iload_n 2, 1) := by decide +kernel
theorem dX11_checkPlus_68 : decode cX11_checkPlus 68 = .ok (.iload_n 3, 1) := by decide +kernel
theorem dX11_checkPlus_69 : decode cX11_checkPlus 69 = .ok (.iconst 1, 1) := by decide +kernel
theorem dX11_checkPlus_70 : decode cX11_checkPlus 70 = .ok (.iadd, 1) := by decide +kernel
theorem dX11_checkPlus_71 : decode cX11_checkPlus 71 = .ok (.invokevirtual 236, 3) := by decide +kernel
theorem dX11_checkPlus_74 : decode cX11_checkPlus 74 = .ok (.aload_n 0, 1) := by decide +kernel
theorem dX11_checkPlus_75 : decode cX11_checkPlus 75 = .ok (.dup, 1) := by decide +kernel
theorem dX11_checkPlus_76 : decode cX11_checkPlus 76 = .ok (.getfield 251, 3) := by decide +kernel
theorem dX11_checkPlus_79 : decode cX11_checkPlus 79 = .ok (.iconst 1, 1) := by decide +kernel
theorem dX11_checkPlus_80 : decode cX11_checkPlus 80 = .ok (.iadd, 1) := by decide +kernel
theorem dX11_checkPlus_81 : decode cX11_checkPlus 81 = .ok (.putfield 251, 3) := by decide +kernel
theorem dX11_checkPlus_84 : decode cX11_checkPlus 84 = .ok (.iconst 0, 1) := by decide +kernel
theorem dX11_checkPlus_85 : decode cX11_checkPlus 85 = .ok (.ireturn, 1) := by decide +kernel
theorem dX11_checkOne_0 : decode cX11_checkOne 0 = .ok (.aload_n 0, 1) := by decide +kernel
theorem dX11_checkOne_1 : decode cX11_checkOne 1 = .ok (.getfield 23, 3) := by decide +kernel
theorem dX11_checkOne_4 : decode cX11_checkOne 4 = .ok (.iload_n 1, 1) := by decide +kernel
theorem dX11_checkOne_5 : decode cX11_checkOne 5 = .ok (.iaload, 1) := by decide +kernel
theorem dX11_checkOne_6 : decode cX11_checkOne 6 = .ok (.tableswitch 137 0 6 #[42, 55, 65, 67, 91, 99, 129], 42) := by decide +kernel
theorem dX11_checkOne_48 : decode cX11_checkOne 48 = .ok (.aload_n 0, 1) := by decide +kernel
theorem dX11_checkOne_49 : decode cX11_checkOne 49 = .ok (.aload_n 0, 1) := by decide +kernel
theorem dX11_checkOne_50 : decode cX11_checkOne 50 = .ok (.getfield 26, 3) := by decide +kernel
theorem dX11_checkOne_53 : decode cX11_checkOne 53 = .ok (.iload_n 1, 1) := by decide +kernel
theorem dX11_checkOne_54 : decode cX11_checkOne 54 = .ok (.iaload, 1) := by decide +kernel
theorem dX11_checkOne_55 : decode cX11_checkOne 55 = .ok (.iload_n 2, 1) := by decide +kernel
theorem dX11_checkOne_56 : decode cX11_checkOne 56 = .ok (.iload_n 3, 1) := by decide +kernel
theorem dX11_checkOne_57 : decode cX11_checkOne 57 = .ok (.invokevirtual 254, 3) := by decide +kernel
theorem dX11_checkOne_60 : decode cX11_checkOne 60 = .ok (.ireturn, 1) := by decide +kernel
theorem dX11_checkOne_61 : decode cX11_checkOne 61 = .ok (.iload_n 2, 1) := by decide +kernel
theorem dX11_checkOne_62 : decode cX11_checkOne 62 = .ok (.ifCond .ne 7, 3) := by decide +kernel
theorem dX11_checkOne_65 : decode cX11_checkOne 65 = .ok (.iconst 0, 1) := by decide +kernel
theorem dX11_checkOne_66 : decode cX11_checkOne 66 = .ok (.goto 4, 3) := by decide +kernel
theorem dX11_checkOne_69 : decode cX11_checkOne 69 = .ok (.iconst 4, 1) := by decide +kernel
theorem dX11_checkOne_70 : decode cX11_checkOne 70 = .ok (.ireturn, 1) := by decide +kernel
theorem dX11_checkOne_71 : decode cX11_checkOne 71 = .ok (.iconst 0, 1) := by decide +kernel
theorem dX11_checkOne_72 : decode cX11_checkOne 72 = .ok (.ireturn, 1) := by decide +kernel
theorem dX11_checkOne_73 : decode cX11_checkOne 73 = .ok (.aload_n 0, 1) := by decide +kernel
theorem dX11_checkOne_74 : decode cX11_checkOne 74 = .ok (.aload_n 0, 1) := by decide +kernel
theorem dX11_checkOne_75 : decode cX11_checkOne 75 = .ok (.getfield 26, 3) := by decide +kernel
theorem dX11_checkOne_78 : decode cX11_checkOne 78 = .ok (.iload_n 1, 1) := by decide +kernel
theorem dX11_checkOne_79 : decode cX11_checkOne 79 = .ok (.iaload, 1) := by decide +kernel
theorem dX11_checkOne_80 : decode cX11_checkOne 80 = .ok (.iload_n 2, 1) := by decide +kernel
theorem dX11_checkOne_81 : decode cX11_checkOne 81 = .ok (.iload_n 3, 1) := by decide +kernel
theorem dX11_checkOne_82 : decode cX11_checkOne 82 = .ok (.iconst 1, 1) := by decide +kernel
theorem dX11_checkOne_83 : decode cX11_checkOne 83 = .ok (.iadd, 1) := by decide +kernel
theorem dX11_checkOne_84 : decode cX11_checkOne 84 = .ok (.invokevirtual 236, 3) := by decide +kernel
theorem dX11_checkOne_87 : decode cX11_checkOne 87 = .ok (.iload_n 2, 1) := by decide +kernel
theorem dX11_checkOne_88 : decode cX11_checkOne 88 = .ok (.ifCond .ne 7, 3) := by decide +kernel
theorem dX11_checkOne_91 : decode cX11_checkOne 91 = .ok (.iconst 0, 1) := by decide +kernel
theorem dX11_checkOne_92 : decode cX11_checkOne 92 = .ok (.goto 4, 3) := by decide +kernel
theorem dX11_checkOne_95 : decode cX11_checkOne 95 = .ok (.iconst 4, 1) := by decide +kernel
theorem dX11_checkOne_96 : decode cX11_checkOne 96 = .ok (.ireturn, 1) := by decide +kernel
theorem dX11_checkOne_97 : decode cX11_checkOne 97 = .ok (.aload_n 0, 1) := by decide +kernel
theorem dX11_checkOne_98 : decode cX11_checkOne 98 = .ok (.iload_n 1, 1) := by decide +kernel
theorem dX11_checkOne_99 : decode cX11_checkOne 99 = .ok (.iload_n 2, 1) := by decide +kernel
theorem dX11_checkOne_100 : decode cX11_checkOne 100 = .ok (.iload_n 3, 1) := by decide +kernel
theorem dX11_checkOne_101 : decode cX11_checkOne 101 = .ok (.invokevirtual 257, 3) := by decide +kernel
theorem dX11_checkOne_104 : decode cX11_checkOne 104 = .ok (.ireturn, 1) := by decide +kernel
theorem dX11_checkOne_105 : decode cX11_checkOne 105 = .ok (.aload_n 0, 1) := by decide +kernel
theorem dX11_checkOne_106 : decode cX11_checkOne 106 = .ok (.aload_n 0, 1) := by decide +kernel
theorem dX11_checkOne_107 : decode cX11_checkOne 107 = .ok (.getfield 29, 3) := by decide +kernel
theorem dX11_checkOne_110 : decode cX11_checkOne 110 = .ok (.iload_n 1, 1) := by decide +kernel
theorem dX11_checkOne_111 : decode cX11_checkOne 111 = .ok (.iaload, 1) := by decide +kernel
theorem dX11_checkOne_112 : decode cX11_checkOne 112 = .ok (.iload_n 2, 1) := by decide +kernel
theorem dX11_checkOne_113 : decode cX11_checkOne 113 = .ok (.iload_n 3, 1) := by decide +kernel
theorem dX11_checkOne_114 : decode cX11_checkOne 114 = .ok (.iconst 1, 1) := by decide +kernel
theorem dX11_checkOne_115 : decode cX11_checkOne 115 = .ok (.iadd, 1) := by decide +kernel
theorem dX11_checkOne_116 : decode cX11_checkOne 116 = .ok (.invokevirtual 236, 3) := by decide +kernel
theorem dX11_checkOne_119 : decode cX11_checkOne 119 = .ok (.aload_n 0, 1) := by decide +kernel
theorem dX11_checkOne_120 : decode cX11_checkOne 120 = .ok (.aload_n 0, 1) := by decide +kernel
theorem dX11_checkOne_121 : decode cX11_checkOne 121 = .ok (.getfield 26, 3) := by decide +kernel
theorem dX11_checkOne_124 : decode cX11_checkOne 124 = .ok (.iload_n 1, 1) := by decide +kernel
theorem dX11_checkOne_125 : decode cX11_checkOne 125 = .ok (.iaload, 1) := by decide +kernel
theorem dX11_checkOne_126 : decode cX11_checkOne 126 = .ok (.iload_n 2, 1) := by decide +kernel
theorem dX11_checkOne_127 : decode cX11_checkOne 127 = .ok (.iload_n 3, 1) := by decide +kernel
theorem dX11_checkOne_128 : decode cX11_checkOne 128 = .ok (.iconst 1, 1) := by decide +kernel
theorem dX11_checkOne_129 : decode cX11_checkOne 129 = .ok (.iadd, 1) := by decide +kernel
theorem dX11_checkOne_130 : decode cX11_checkOne 130 = .ok (.invokevirtual 236, 3) := by decide +kernel
theorem dX11_checkOne_133 : decode cX11_checkOne 133 = .ok (.iconst 0, 1) := by decide +kernel
theorem dX11_checkOne_134 : decode cX11_checkOne 134 = .ok (.ireturn, 1) := by decide +kernel
theorem dX11_checkOne_135 : decode cX11_checkOne 135 = .ok (.aload_n 0, 1) := by decide +kernel
theorem dX11_checkOne_136 : decode cX11_checkOne 136 = .ok (.iload_n 1, 1) := by decide +kernel
theorem dX11_checkOne_137 : decode cX11_checkOne 137 = .ok (.iload_n 2, 1) := by decide +kernel
theorem dX11_checkOne_138 : decode cX11_checkOne 138 = .ok (.iload_n 3, 1) := by decide +kernel
theorem dX11_checkOne_139 : decode cX11_checkOne 139 = .ok (.invokevirtual 260, 3) := by decide +kernel
theorem dX11_checkOne_142 : decode cX11_checkOne 142 = .ok (.ireturn, 1) := by decide +kernel
theorem dX11_checkOne_143 : decode cX11_checkOne 143 = .ok (.aload_n 0, 1) := by decide +kernel
theorem dX11_checkOne_144 : decode cX11_checkOne 144 = .ok (.aload_n 0, 1) := by decide +kernel
theorem dX11_checkOne_145 : decode cX11_checkOne 145 = .ok (.getfield 26, 3) := by decide +kernel
theorem dX11_checkOne_148 : decode cX11_checkOne 148 = .ok (.iload_n 1, 1) := by decide +kernel
theorem dX11_checkOne_149 : decode cX11_checkOne 149 = .ok (.iaload, 1) := by decide +kernel
theorem dX11_checkOne_150 : decode cX11_checkOne 150 = .ok (.iload_n 2, 1) := by decide +kernel
theorem dX11_checkOne_151 : decode cX11_checkOne 151 = .ok (.iconst 1, 1) := by decide +kernel
theorem dX11_checkOne_152 : decode cX11_checkOne 152 = .ok (.aload_n 0, 1) := by decide +kernel
theorem dX11_checkOne_153 : decode cX11_checkOne 153 = .ok (.getfield 29, 3) := by decide +kernel
theorem dX11_checkOne_156 : decode cX11_checkOne 156 = .ok (.iload_n 1, 1) := by decide +kernel
theorem dX11_checkOne_157 : decode cX11_checkOne 157 = .ok (.iaload, 1) := by decide +kernel
theorem dX11_checkOne_158 : decode cX11_checkOne 158 = .ok (.ishl, 1) := by decide +kernel
theorem dX11_checkOne_159 : decode cX11_checkOne 159 = .ok (.ior, 1) := by decide +kernel
theorem dX11_checkOne_160 : decode cX11_checkOne 160 = .ok (.iload_n 3, 1) := by decide +kernel
theorem dX11_checkOne_161 : decode cX11_checkOne 161 = .ok (.iconst 1, 1) := by decide +kernel
theorem dX11_checkOne_162 : decode cX11_checkOne 162 = .ok (.iadd, 1) := by decide +kernel
theorem dX11_checkOne_163 : decode cX11_checkOne 163 = .ok (.invokevirtual 236, 3) := by decide +kernel
theorem dX11_checkOne_166 : decode cX11_checkOne 166 = .ok (.iload_n 2, 1) := by decide +kernel
theorem dX11_checkOne_167 : decode cX11_checkOne 167 = .ok (.aload_n 0, 1) := by decide +kernel
theorem dX11_checkOne_168 : decode cX11_checkOne 168 = .ok (.getfield 29, 3) := by decide +kernel
theorem dX11_checkOne_171 : decode cX11_checkOne 171 = .ok (.iload_n 1, 1) := by decide +kernel
theorem dX11_checkOne_172 : decode cX11_checkOne 172 = .ok (.iaload, 1) := by decide +kernel
theorem dX11_checkOne_173 : decode cX11_checkOne 173 = .ok (.invokestatic 171, 3) := by decide +kernel
theorem dX11_checkOne_176 : decode cX11_checkOne 176 = .ok (.ifCond .eq 7, 3) := by decide +kernel
theorem dX11_checkOne_179 : decode cX11_checkOne 179 = .ok (.iconst 5, 1) := by decide +kernel
theorem dX11_checkOne_180 : decode cX11_checkOne 180 = .ok (.goto 4, 3) := by decide +kernel
theorem dX11_checkOne_183 : decode cX11_checkOne 183 = .ok (.iconst 0, 1) := by decide +kernel
theorem dX11_checkOne_184 : decode cX11_checkOne 184 = .ok (.ireturn, 1) := by decide +kernel
theorem dX11_checked_0 : decode cX11_checked 0 = .ok (.aload_n 0, 1) := by decide +kernel
theorem dX11_checked_1 : decode cX11_checked 1 = .ok (.invokevirtual 197, 3) := by decide +kernel
theorem dX11_checked_4 : decode cX11_checked 4 = .ok (.aload_n 0, 1) := by decide +kernel
theorem dX11_checked_5 : decode cX11_checked 5 = .ok (.iconst 0, 1) := by decide +kernel
theorem dX11_checked_6 : decode cX11_checked 6 = .ok (.putfield 251, 3) := by decide +kernel
theorem dX11_checked_9 : decode cX11_checked 9 = .ok (.aload_n 0, 1) := by decide +kernel
theorem dX11_checked_10 : decode cX11_checked 10 = .ok (.iconst 0, 1) := by decide +kernel
theorem dX11_checked_11 : decode cX11_checked 11 = .ok (.putfield 263, 3) := by decide +kernel
theorem dX11_checked_14 : decode cX11_checked 14 = .ok (.aload_n 0, 1) := by decide +kernel
theorem dX11_checked_15 : decode cX11_checked 15 = .ok (.iconst 0, 1) := by decide +kernel
theorem dX11_checked_16 : decode cX11_checked 16 = .ok (.putfield 226, 3) := by decide +kernel
theorem dX11_checked_19 : decode cX11_checked 19 = .ok (.aload_n 0, 1) := by decide +kernel
theorem dX11_checked_20 : decode cX11_checked 20 = .ok (.aload_n 0, 1) := by decide +kernel
theorem dX11_checked_21 : decode cX11_checked 21 = .ok (.getfield 98, 3) := by decide +kernel
theorem dX11_checked_24 : decode cX11_checked 24 = .ok (.aload_n 0, 1) := by decide +kernel
theorem dX11_checked_25 : decode cX11_checked 25 = .ok (.invokevirtual 186, 3) := by decide +kernel
theorem dX11_checked_28 : decode cX11_checked 28 = .ok (.iconst 1, 1) := by decide +kernel
theorem dX11_checked_29 : decode cX11_checked 29 = .ok (.invokevirtual 236, 3) := by decide +kernel
theorem dX11_checked_32 : decode cX11_checked 32 = .ok (.aload_n 0, 1) := by decide +kernel
theorem dX11_checked_33 : decode cX11_checked 33 = .ok (.getfield 226, 3) := by decide +kernel
theorem dX11_checked_36 : decode cX11_checked 36 = .ok (.ifCond .le 84, 3) := by decide +kernel
theorem dX11_checked_39 : decode cX11_checked 39 = .ok (.aload_n 0, 1) := by decide +kernel
theorem dX11_checked_40 : decode cX11_checked 40 = .ok (.dup, 1) := by decide +kernel
theorem dX11_checked_41 : decode cX11_checked 41 = .ok (.getfield 226, 3) := by decide +kernel
theorem dX11_checked_44 : decode cX11_checked 44 = .ok (.iconst 1, 1) := by decide +kernel
theorem dX11_checked_45 : decode cX11_checked 45 = .ok (.isub, 1) := by decide +kernel
theorem dX11_checked_46 : decode cX11_checked 46 = .ok (.putfield 226, 3) := by decide +kernel
theorem dX11_checked_49 : decode cX11_checked 49 = .ok (.aload_n 0, 1) := by decide +kernel
theorem dX11_checked_50 : decode cX11_checked 50 = .ok (.getfield 76, 3) := by decide +kernel
theorem dX11_checked_53 : decode cX11_checked 53 = .ok (.aload_n 0, 1) := by decide +kernel
theorem dX11_checked_54 : decode cX11_checked 54 = .ok (.getfield 226, 3) := by decide +kernel
theorem dX11_checked_57 : decode cX11_checked 57 = .ok (.iaload, 1) := by decide +kernel
theorem dX11_checked_58 : decode cX11_checked 58 = .ok (.istore_n 1, 1) := by decide +kernel
theorem dX11_checked_59 : decode cX11_checked 59 = .ok (.iload_n 1, 1) := by decide +kernel
theorem dX11_checked_60 : decode cX11_checked 60 = .ok (.bipush 12, 2) := by decide +kernel
theorem dX11_checked_62 : decode cX11_checked 62 = .ok (.if_icmp .le 5, 3) := by decide +kernel
theorem dX11_checked_65 : decode cX11_checked 65 = .ok (.iconst 1, 1) := by decide +kernel
theorem dX11_checked_66 : decode cX11_checked 66 = .ok (.ireturn, 1) := by decide +kernel
theorem dX11_checked_67 : decode cX11_checked 67 = .ok (.aload_n 0, 1) := by decide +kernel
theorem dX11_checked_68 : decode cX11_checked 68 = .ok (.iload_n 1, 1) := by decide +kernel
theorem dX11_checked_69 : decode cX11_checked 69 = .ok (.aload_n 0, 1) := by decide +kernel
theorem dX11_checked_70 : decode cX11_checked 70 = .ok (.getfield 263, 3) := by decide +kernel
theorem dX11_checked_73 : decode cX11_checked 73 = .ok (.if_icmp .le 7, 3) := by decide +kernel
theorem dX11_checked_76 : decode cX11_checked 76 = .ok (.iload_n 1, 1) := by decide +kernel
theorem dX11_checked_77 : decode cX11_checked 77 = .ok (.goto 7, 3) := by decide +kernel
theorem dX11_checked_80 : decode cX11_checked 80 = .ok (.aload_n 0, 1) := by decide +kernel
theorem dX11_checked_81 : decode cX11_checked 81 = .ok (.getfield 263, 3) := by decide +kernel
theorem dX11_checked_84 : decode cX11_checked 84 = .ok (.putfield 263, 3) := by decide +kernel
theorem dX11_checked_87 : decode cX11_checked 87 = .ok (.aload_n 0, 1) := by decide +kernel
theorem dX11_checked_88 : decode cX11_checked 88 = .ok (.aload_n 0, 1) := by decide +kernel
theorem dX11_checked_89 : decode cX11_checked 89 = .ok (.getfield 70, 3) := by decide +kernel
theorem dX11_checked_92 : decode cX11_checked 92 = .ok (.aload_n 0, 1) := by decide +kernel
theorem dX11_checked_93 : decode cX11_checked 93 = .ok (.getfield 226, 3) := by decide +kernel
theorem dX11_checked_96 : decode cX11_checked 96 = .ok (.iaload, 1) := by decide +kernel
theorem dX11_checked_97 : decode cX11_checked 97 = .ok (.aload_n 0, 1) := by decide +kernel
theorem dX11_checked_98 : decode cX11_checked 98 = .ok (.getfield 73, 3) := by decide +kernel
theorem dX11_checked_101 : decode cX11_checked 101 = .ok (.aload_n 0, 1) := by decide +kernel
theorem dX11_checked_102 : decode cX11_checked 102 = .ok (.getfield 226, 3) := by decide +kernel
theorem dX11_checked_105 : decode cX11_checked 105 = .ok (.iaload, 1) := by decide +kernel
theorem dX11_checked_106 : decode cX11_checked 106 = .ok (.iload_n 1, 1) := by decide +kernel
theorem dX11_checked_107 : decode cX11_checked 107 = .ok (.invokevirtual 266, 3) := by decide +kernel
theorem dX11_checked_110 : decode cX11_checked 110 = .ok (.istore_n 2, 1) := by decide +kernel
theorem dX11_checked_111 : decode cX11_checked 111 = .ok (.iload_n 2, 1) := by decide +kernel
theorem dX11_checked_112 : decode cX11_checked 112 = .ok (.ifCond .le 5, 3) := by decide +kernel
theorem dX11_checked_115 : decode cX11_checked 115 = .ok (.iload_n 2, 1) := by decide +kernel
theorem dX11_checked_116 : decode cX11_checked 116 = .ok (.ireturn, 1) := by decide +kernel
theorem dX11_checked_117 : decode cX11_checked 117 = .ok (.goto (-85), 3) := by decide +kernel
theorem dX11_checked_120 : decode cX11_checked 120 = .ok (.aload_n 0, 1) := by decide +kernel
theorem dX11_checked_121 : decode cX11_checked 121 = .ok (.getfield 251, 3) := by decide +kernel
theorem dX11_checked_124 : decode cX11_checked 124 = .ok (.aload_n 0, 1) := by decide +kernel
theorem dX11_checked_125 : decode cX11_checked 125 = .ok (.getfield 248, 3) := by decide +kernel
theorem dX11_checked_128 : decode cX11_checked 128 = .ok (.if_icmp .ge 8, 3) := by decide +kernel
theorem dX11_checked_131 : decode cX11_checked 131 = .ok (.bipush 6, 2) := by decide +kernel
theorem dX11_checked_133 : decode cX11_checked 133 = .ok (.goto 4, 3) := by decide +kernel
theorem dX11_checked_136 : decode cX11_checked 136 = .ok (.iconst 0, 1) := by decide +kernel
theorem dX11_checked_137 : decode cX11_checked 137 = .ok (.ireturn, 1) := by decide +kernel
theorem dX11_check_0 : decode cX11_check 0 = .ok (.iload_n 1, 1) := by decide +kernel
theorem dX11_check_1 : decode cX11_check 1 = .ok (.iconst 0, 1) := by decide +kernel
theorem dX11_check_2 : decode cX11_check 2 = .ok (.iconst 2, 1) := by decide +kernel
theorem dX11_check_3 : decode cX11_check 3 = .ok (.invokestatic 104, 3) := by decide +kernel
theorem dX11_check_6 : decode cX11_check 6 = .ok (.ifCond .ne 6, 3) := by decide +kernel
theorem dX11_check_9 : decode cX11_check 9 = .ok (.bipush (-2), 2) := by decide +kernel
theorem dX11_check_11 : decode cX11_check 11 = .ok (.ireturn, 1) := by decide +kernel
theorem dX11_check_12 : decode cX11_check 12 = .ok (.aload_n 0, 1) := by decide +kernel
theorem dX11_check_13 : decode cX11_check 13 = .ok (.invokevirtual 193, 3) := by decide +kernel
theorem dX11_check_16 : decode cX11_check 16 = .ok (.ifCond .ne 6, 3) := by decide +kernel
theorem dX11_check_19 : decode cX11_check 19 = .ok (.bipush (-3), 2) := by decide +kernel
theorem dX11_check_21 : decode cX11_check 21 = .ok (.ireturn, 1) := by decide +kernel
theorem dX11_check_22 : decode cX11_check 22 = .ok (.aload_n 0, 1) := by decide +kernel
theorem dX11_check_23 : decode cX11_check 23 = .ok (.invokevirtual 269, 3) := by decide +kernel
theorem dX11_check_26 : decode cX11_check 26 = .ok (.istore_n 2, 1) := by decide +kernel
theorem dX11_check_27 : decode cX11_check 27 = .ok (.iload_n 1, 1) := by decide +kernel
theorem dX11_check_28 : decode cX11_check 28 = .ok (.ifCond .ne 7, 3) := by decide +kernel
theorem dX11_check_31 : decode cX11_check 31 = .ok (.iload_n 2, 1) := by decide +kernel
theorem dX11_check_32 : decode cX11_check 32 = .ok (.goto 19, 3) := by decide +kernel
theorem dX11_check_35 : decode cX11_check 35 = .ok (.iload_n 1, 1) := by decide +kernel
theorem dX11_check_36 : decode cX11_check 36 = .ok (.iconst 1, 1) := by decide +kernel
theorem dX11_check_37 : decode cX11_check 37 = .ok (.if_icmp .ne 10, 3) := by decide +kernel
theorem dX11_check_40 : decode cX11_check 40 = .ok (.aload_n 0, 1) := by decide +kernel
theorem dX11_check_41 : decode cX11_check 41 = .ok (.getfield 251, 3) := by decide +kernel
theorem dX11_check_44 : decode cX11_check 44 = .ok (.goto 7, 3) := by decide +kernel
theorem dX11_check_47 : decode cX11_check 47 = .ok (.aload_n 0, 1) := by decide +kernel
theorem dX11_check_48 : decode cX11_check 48 = .ok (.getfield 263, 3) := by decide +kernel
theorem dX11_check_51 : decode cX11_check 51 = .ok (.ireturn, 1) := by decide +kernel
theorem dX11_image_0 : decode cX11_image 0 = .ok (.iload_n 1, 1) := by decide +kernel
theorem dX11_image_1 : decode cX11_image 1 = .ok (.iconst 0, 1) := by decide +kernel
theorem dX11_image_2 : decode cX11_image 2 = .ok (.iconst 1, 1) := by decide +kernel
theorem dX11_image_3 : decode cX11_image 3 = .ok (.invokestatic 104, 3) := by decide +kernel
theorem dX11_image_6 : decode cX11_image 6 = .ok (.ifCond .ne 6, 3) := by decide +kernel
theorem dX11_image_9 : decode cX11_image 9 = .ok (.bipush (-2), 2) := by decide +kernel
theorem dX11_image_11 : decode cX11_image 11 = .ok (.ireturn, 1) := by decide +kernel
theorem dX11_image_12 : decode cX11_image 12 = .ok (.iconst 0, 1) := by decide +kernel
theorem dX11_image_13 : decode cX11_image 13 = .ok (.istore_n 2, 1) := by decide +kernel
theorem dX11_image_14 : decode cX11_image 14 = .ok (.iload_n 2, 1) := by decide +kernel
theorem dX11_image_15 : decode cX11_image 15 = .ok (.sipush 600, 3) := by decide +kernel
theorem dX11_image_18 : decode cX11_image 18 = .ok (.if_icmp .ge 27, 3) := by decide +kernel
theorem dX11_image_21 : decode cX11_image 21 = .ok (.aload_n 0, 1) := by decide +kernel
theorem dX11_image_22 : decode cX11_image 22 = .ok (.getfield 79, 3) := by decide +kernel
theorem dX11_image_25 : decode cX11_image 25 = .ok (.sipush 600, 3) := by decide +kernel
theorem dX11_image_28 : decode cX11_image 28 = .ok (.iload_n 1, 1) := by decide +kernel
theorem dX11_image_29 : decode cX11_image 29 = .ok (.imul, 1) := by decide +kernel
theorem dX11_image_30 : decode cX11_image 30 = .ok (.iload_n 2, 1) := by decide +kernel
theorem dX11_image_31 : decode cX11_image 31 = .ok (.iadd, 1) := by decide +kernel
theorem dX11_image_32 : decode cX11_image 32 = .ok (.aload_n 0, 1) := by decide +kernel
theorem dX11_image_33 : decode cX11_image 33 = .ok (.getfield 7, 3) := by decide +kernel
theorem dX11_image_36 : decode cX11_image 36 = .ok (.iload_n 2, 1) := by decide +kernel
theorem dX11_image_37 : decode cX11_image 37 = .ok (.iaload, 1) := by decide +kernel
theorem dX11_image_38 : decode cX11_image 38 = .ok (.iastore, 1) := by decide +kernel
theorem dX11_image_39 : decode cX11_image 39 = .ok (.iinc 2 1, 3) := by decide +kernel
theorem dX11_image_42 : decode cX11_image 42 = .ok (.goto (-28), 3) := by decide +kernel
theorem dX11_image_45 : decode cX11_image 45 = .ok (.iconst 0, 1) := by decide +kernel
theorem dX11_image_46 : decode cX11_image 46 = .ok (.istore_n 2, 1) := by decide +kernel
theorem dX11_image_47 : decode cX11_image 47 = .ok (.iload_n 2, 1) := by decide +kernel
theorem dX11_image_48 : decode cX11_image 48 = .ok (.bipush 10, 2) := by decide +kernel
theorem dX11_image_50 : decode cX11_image 50 = .ok (.if_icmp .ge 26, 3) := by decide +kernel
theorem dX11_image_53 : decode cX11_image 53 = .ok (.aload_n 0, 1) := by decide +kernel
theorem dX11_image_54 : decode cX11_image 54 = .ok (.getfield 82, 3) := by decide +kernel
theorem dX11_image_57 : decode cX11_image 57 = .ok (.bipush 10, 2) := by decide +kernel
theorem dX11_image_59 : decode cX11_image 59 = .ok (.iload_n 1, 1) := by decide +kernel
theorem dX11_image_60 : decode cX11_image 60 = .ok (.imul, 1) := by decide +kernel
theorem dX11_image_61 : decode cX11_image 61 = .ok (.iload_n 2, 1) := by decide +kernel
theorem dX11_image_62 : decode cX11_image 62 = .ok (.iadd, 1) := by decide +kernel
theorem dX11_image_63 : decode cX11_image 63 = .ok (.aload_n 0, 1) := by decide +kernel
theorem dX11_image_64 : decode cX11_image 64 = .ok (.getfield 13, 3) := by decide +kernel
theorem dX11_image_67 : decode cX11_image 67 = .ok (.iload_n 2, 1) := by decide +kernel
theorem dX11_image_68 : decode cX11_image 68 = .ok (.iaload, 1) := by decide +kernel
theorem dX11_image_69 : decode cX11_image 69 = .ok (.iastore, 1) := by decide +kernel
theorem dX11_image_70 : decode cX11_image 70 = .ok (.iinc 2 1, 3) := by decide +kernel
theorem dX11_image_73 : decode cX11_image 73 = .ok (.goto (-26), 3) := by decide +kernel
theorem dX11_image_76 : decode cX11_image 76 = .ok (.aload_n 0, 1) := by decide +kernel
theorem dX11_image_77 : decode cX11_image 77 = .ok (.getfield 85, 3) := by decide +kernel
theorem dX11_image_80 : decode cX11_image 80 = .ok (.iload_n 1, 1) := by decide +kernel
theorem dX11_image_81 : decode cX11_image 81 = .ok (.iconst 1, 1) := by decide +kernel
theorem dX11_image_82 : decode cX11_image 82 = .ok (.bastore, 1) := by decide +kernel
theorem dX11_image_83 : decode cX11_image 83 = .ok (.iconst 1, 1) := by decide +kernel
theorem dX11_image_84 : decode cX11_image 84 = .ok (.ireturn, 1) := by decide +kernel
theorem dX11_restore_0 : decode cX11_restore 0 = .ok (.iload_n 1, 1) := by decide +kernel
theorem dX11_restore_1 : decode cX11_restore 1 = .ok (.iconst 0, 1) := by decide +kernel
theorem dX11_restore_2 : decode cX11_restore 2 = .ok (.iconst 1, 1) := by decide +kernel
theorem dX11_restore_3 : decode cX11_restore 3 = .ok (.invokestatic 104, 3) := by decide +kernel
theorem dX11_restore_6 : decode cX11_restore 6 = .ok (.ifCond .ne 6, 3) := by decide +kernel
theorem dX11_restore_9 : decode cX11_restore 9 = .ok (.bipush (-2), 2) := by decide +kernel
theorem dX11_restore_11 : decode cX11_restore 11 = .ok (.ireturn, 1) := by decide +kernel
theorem dX11_restore_12 : decode cX11_restore 12 = .ok (.aload_n 0, 1) := by decide +kernel
theorem dX11_restore_13 : decode cX11_restore 13 = .ok (.getfield 85, 3) := by decide +kernel
theorem dX11_restore_16 : decode cX11_restore 16 = .ok (.iload_n 1, 1) := by decide +kernel
theorem dX11_restore_17 : decode cX11_restore 17 = .ok (.baload, 1) := by decide +kernel
theorem dX11_restore_18 : decode cX11_restore 18 = .ok (.ifCond .ne 6, 3) := by decide +kernel
theorem dX11_restore_21 : decode cX11_restore 21 = .ok (.bipush (-3), 2) := by decide +kernel
theorem dX11_restore_23 : decode cX11_restore 23 = .ok (.ireturn, 1) := by decide +kernel
theorem dX11_restore_24 : decode cX11_restore 24 = .ok (.iconst 0, 1) := by decide +kernel
theorem dX11_restore_25 : decode cX11_restore 25 = .ok (.istore_n 2, 1) := by decide +kernel
theorem dX11_restore_26 : decode cX11_restore 26 = .ok (.iload_n 2, 1) := by decide +kernel
theorem dX11_restore_27 : decode cX11_restore 27 = .ok (.sipush 600, 3) := by decide +kernel
theorem dX11_restore_30 : decode cX11_restore 30 = .ok (.if_icmp .ge 27, 3) := by decide +kernel
theorem dX11_restore_33 : decode cX11_restore 33 = .ok (.aload_n 0, 1) := by decide +kernel
theorem dX11_restore_34 : decode cX11_restore 34 = .ok (.getfield 7, 3) := by decide +kernel
theorem dX11_restore_37 : decode cX11_restore 37 = .ok (.iload_n 2, 1) := by decide +kernel
theorem dX11_restore_38 : decode cX11_restore 38 = .ok (.aload_n 0, 1) := by decide +kernel
theorem dX11_restore_39 : decode cX11_restore 39 = .ok (.getfield 79, 3) := by decide +kernel
theorem dX11_restore_42 : decode cX11_restore 42 = .ok (.sipush 600, 3) := by decide +kernel
theorem dX11_restore_45 : decode cX11_restore 45 = .ok (.iload_n 1, 1) := by decide +kernel
theorem dX11_restore_46 : decode cX11_restore 46 = .ok (.imul, 1) := by decide +kernel
theorem dX11_restore_47 : decode cX11_restore 47 = .ok (.iload_n 2, 1) := by decide +kernel
theorem dX11_restore_48 : decode cX11_restore 48 = .ok (.iadd, 1) := by decide +kernel
theorem dX11_restore_49 : decode cX11_restore 49 = .ok (.iaload, 1) := by decide +kernel
theorem dX11_restore_50 : decode cX11_restore 50 = .ok (.iastore, 1) := by decide +kernel
theorem dX11_restore_51 : decode cX11_restore 51 = .ok (.iinc 2 1, 3) := by decide +kernel
theorem dX11_restore_54 : decode cX11_restore 54 = .ok (.goto (-28), 3) := by decide +kernel
theorem dX11_restore_57 : decode cX11_restore 57 = .ok (.iconst 0, 1) := by decide +kernel
theorem dX11_restore_58 : decode cX11_restore 58 = .ok (.istore_n 2, 1) := by decide +kernel
theorem dX11_restore_59 : decode cX11_restore 59 = .ok (.iload_n 2, 1) := by decide +kernel
theorem dX11_restore_60 : decode cX11_restore 60 = .ok (.bipush 10, 2) := by decide +kernel
theorem dX11_restore_62 : decode cX11_restore 62 = .ok (.if_icmp .ge 26, 3) := by decide +kernel
theorem dX11_restore_65 : decode cX11_restore 65 = .ok (.aload_n 0, 1) := by decide +kernel
theorem dX11_restore_66 : decode cX11_restore 66 = .ok (.getfield 13, 3) := by decide +kernel
theorem dX11_restore_69 : decode cX11_restore 69 = .ok (.iload_n 2, 1) := by decide +kernel
theorem dX11_restore_70 : decode cX11_restore 70 = .ok (.aload_n 0, 1) := by decide +kernel
theorem dX11_restore_71 : decode cX11_restore 71 = .ok (.getfield 82, 3) := by decide +kernel
theorem dX11_restore_74 : decode cX11_restore 74 = .ok (.bipush 10, 2) := by decide +kernel
theorem dX11_restore_76 : decode cX11_restore 76 = .ok (.iload_n 1, 1) := by decide +kernel
theorem dX11_restore_77 : decode cX11_restore 77 = .ok (.imul, 1) := by decide +kernel
theorem dX11_restore_78 : decode cX11_restore 78 = .ok (.iload_n 2, 1) := by decide +kernel
theorem dX11_restore_79 : decode cX11_restore 79 = .ok (.iadd, 1) := by decide +kernel
theorem dX11_restore_80 : decode cX11_restore 80 = .ok (.iaload, 1) := by decide +kernel
theorem dX11_restore_81 : decode cX11_restore 81 = .ok (.iastore, 1) := by decide +kernel
theorem dX11_restore_82 : decode cX11_restore 82 = .ok (.iinc 2 1, 3) := by decide +kernel
theorem dX11_restore_85 : decode cX11_restore 85 = .ok (.goto (-26), 3) := by decide +kernel
theorem dX11_restore_88 : decode cX11_restore 88 = .ok (.aload_n 0, 1) := by decide +kernel
theorem dX11_restore_89 : decode cX11_restore 89 = .ok (.iconst 1, 1) := by decide +kernel
theorem dX11_restore_90 : decode cX11_restore 90 = .ok (.putfield 53, 3) := by decide +kernel
theorem dX11_restore_93 : decode cX11_restore 93 = .ok (.iconst 1, 1) := by decide +kernel
theorem dX11_restore_94 : decode cX11_restore 94 = .ok (.ireturn, 1) := by decide +kernel
theorem dX11_count_0 : decode cX11_count 0 = .ok (.iload_n 1, 1) := by decide +kernel
theorem dX11_count_1 : decode cX11_count 1 = .ok (.tableswitch 135 0 7 #[47, 52, 61, 74, 83, 92, 100, 105], 47) := by decide +kernel
theorem dX11_count_48 : decode cX11_count 48 = .ok (.aload_n 0, 1) := by decide +kernel
theorem dX11_count_49 : decode cX11_count 49 = .ok (.invokevirtual 186, 3) := by decide +kernel
theorem dX11_count_52 : decode cX11_count 52 = .ok (.ireturn, 1) := by decide +kernel
theorem dX11_count_53 : decode cX11_count 53 = .ok (.aload_n 0, 1) := by decide +kernel
theorem dX11_count_54 : decode cX11_count 54 = .ok (.bipush 6, 2) := by decide +kernel
theorem dX11_count_56 : decode cX11_count 56 = .ok (.bipush 9, 2) := by decide +kernel
theorem dX11_count_58 : decode cX11_count 58 = .ok (.invokevirtual 159, 3) := by decide +kernel
theorem dX11_count_61 : decode cX11_count 61 = .ok (.ireturn, 1) := by decide +kernel
theorem dX11_count_62 : decode cX11_count 62 = .ok (.aload_n 0, 1) := by decide +kernel
theorem dX11_count_63 : decode cX11_count 63 = .ok (.invokevirtual 193, 3) := by decide +kernel
theorem dX11_count_66 : decode cX11_count 66 = .ok (.ifCond .eq 7, 3) := by decide +kernel
theorem dX11_count_69 : decode cX11_count 69 = .ok (.iconst 1, 1) := by decide +kernel
theorem dX11_count_70 : decode cX11_count 70 = .ok (.goto 4, 3) := by decide +kernel
theorem dX11_count_73 : decode cX11_count 73 = .ok (.iconst 0, 1) := by decide +kernel
theorem dX11_count_74 : decode cX11_count 74 = .ok (.ireturn, 1) := by decide +kernel
theorem dX11_count_75 : decode cX11_count 75 = .ok (.aload_n 0, 1) := by decide +kernel
theorem dX11_count_76 : decode cX11_count 76 = .ok (.invokevirtual 197, 3) := by decide +kernel
theorem dX11_count_79 : decode cX11_count 79 = .ok (.aload_n 0, 1) := by decide +kernel
theorem dX11_count_80 : decode cX11_count 80 = .ok (.getfield 92, 3) := by decide +kernel
theorem dX11_count_83 : decode cX11_count 83 = .ok (.ireturn, 1) := by decide +kernel
theorem dX11_count_84 : decode cX11_count 84 = .ok (.aload_n 0, 1) := by decide +kernel
theorem dX11_count_85 : decode cX11_count 85 = .ok (.invokevirtual 197, 3) := by decide +kernel
theorem dX11_count_88 : decode cX11_count 88 = .ok (.aload_n 0, 1) := by decide +kernel
theorem dX11_count_89 : decode cX11_count 89 = .ok (.getfield 126, 3) := by decide +kernel
theorem dX11_count_92 : decode cX11_count 92 = .ok (.ireturn, 1) := by decide +kernel
theorem dX11_count_93 : decode cX11_count 93 = .ok (.aload_n 0, 1) := by decide +kernel
theorem dX11_count_94 : decode cX11_count 94 = .ok (.getfield 13, 3) := by decide +kernel
theorem dX11_count_97 : decode cX11_count 97 = .ok (.bipush 10, 2) := by decide +kernel
theorem dX11_count_99 : decode cX11_count 99 = .ok (.iaload, 1) := by decide +kernel
theorem dX11_count_100 : decode cX11_count 100 = .ok (.ireturn, 1) := by decide +kernel
theorem dX11_count_101 : decode cX11_count 101 = .ok (.aload_n 0, 1) := by decide +kernel
theorem dX11_count_102 : decode cX11_count 102 = .ok (.getfield 248, 3) := by decide +kernel
theorem dX11_count_105 : decode cX11_count 105 = .ok (.ireturn, 1) := by decide +kernel
theorem dX11_count_106 : decode cX11_count 106 = .ok (.aload_n 0, 1) := by decide +kernel
theorem dX11_count_107 : decode cX11_count 107 = .ok (.getfield 85, 3) := by decide +kernel
theorem dX11_count_110 : decode cX11_count 110 = .ok (.iconst 0, 1) := by decide +kernel
theorem dX11_count_111 : decode cX11_count 111 = .ok (.baload, 1) := by decide +kernel
theorem dX11_count_112 : decode cX11_count 112 = .ok (.ifCond .eq 7, 3) := by decide +kernel
theorem dX11_count_115 : decode cX11_count 115 = .ok (.iconst 1, 1) := by decide +kernel
theorem dX11_count_116 : decode cX11_count 116 = .ok (.goto 4, 3) := by decide +kernel
theorem dX11_count_119 : decode cX11_count 119 = .ok (.iconst 0, 1) := by decide +kernel
theorem dX11_count_120 : decode cX11_count 120 = .ok (.aload_n 0, 1) := by decide +kernel
theorem dX11_count_121 : decode cX11_count 121 = .ok (.getfield 85, 3) := by decide +kernel
theorem dX11_count_124 : decode cX11_count 124 = .ok (.iconst 1, 1) := by decide +kernel
theorem dX11_count_125 : decode cX11_count 125 = .ok (.baload, 1) := by decide +kernel
theorem dX11_count_126 : decode cX11_count 126 = .ok (.ifCond .eq 7, 3) := by decide +kernel
theorem dX11_count_129 : decode cX11_count 129 = .ok (.iconst 2, 1) := by decide +kernel
theorem dX11_count_130 : decode cX11_count 130 = .ok (.goto 4, 3) := by decide +kernel
theorem dX11_count_133 : decode cX11_count 133 = .ok (.iconst 0, 1) := by decide +kernel
theorem dX11_count_134 : decode cX11_count 134 = .ok (.iadd, 1) := by decide +kernel
theorem dX11_count_135 : decode cX11_count 135 = .ok (.ireturn, 1) := by decide +kernel
theorem dX11_count_136 : decode cX11_count 136 = .ok (.bipush (-2), 2) := by decide +kernel
theorem dX11_count_138 : decode cX11_count 138 = .ok (.ireturn, 1) := by decide +kernel
theorem dJ6_bitCount_0f7a4_0 : decode cJ6_bitCount_0f7a4 0 = .ok (.iload_n 0, 1) := by decide +kernel
theorem dJ6_bitCount_0f7a4_1 : decode cJ6_bitCount_0f7a4 1 = .ok (.iload_n 0, 1) := by decide +kernel
theorem dJ6_bitCount_0f7a4_2 : decode cJ6_bitCount_0f7a4 2 = .ok (.iconst 1, 1) := by decide +kernel
theorem dJ6_bitCount_0f7a4_3 : decode cJ6_bitCount_0f7a4 3 = .ok (.iushr, 1) := by decide +kernel
theorem dJ6_bitCount_0f7a4_4 : decode cJ6_bitCount_0f7a4 4 = .ok (.ldc_w 265, 3) := by decide +kernel
theorem dJ6_bitCount_0f7a4_7 : decode cJ6_bitCount_0f7a4 7 = .ok (.iand, 1) := by decide +kernel
theorem dJ6_bitCount_0f7a4_8 : decode cJ6_bitCount_0f7a4 8 = .ok (.isub, 1) := by decide +kernel
theorem dJ6_bitCount_0f7a4_9 : decode cJ6_bitCount_0f7a4 9 = .ok (.istore_n 0, 1) := by decide +kernel
theorem dJ6_bitCount_0f7a4_10 : decode cJ6_bitCount_0f7a4 10 = .ok (.iload_n 0, 1) := by decide +kernel
theorem dJ6_bitCount_0f7a4_11 : decode cJ6_bitCount_0f7a4 11 = .ok (.ldc_w 266, 3) := by decide +kernel
theorem dJ6_bitCount_0f7a4_14 : decode cJ6_bitCount_0f7a4 14 = .ok (.iand, 1) := by decide +kernel
theorem dJ6_bitCount_0f7a4_15 : decode cJ6_bitCount_0f7a4 15 = .ok (.iload_n 0, 1) := by decide +kernel
theorem dJ6_bitCount_0f7a4_16 : decode cJ6_bitCount_0f7a4 16 = .ok (.iconst 2, 1) := by decide +kernel
theorem dJ6_bitCount_0f7a4_17 : decode cJ6_bitCount_0f7a4 17 = .ok (.iushr, 1) := by decide +kernel
theorem dJ6_bitCount_0f7a4_18 : decode cJ6_bitCount_0f7a4 18 = .ok (.ldc_w 266, 3) := by decide +kernel
theorem dJ6_bitCount_0f7a4_21 : decode cJ6_bitCount_0f7a4 21 = .ok (.iand, 1) := by decide +kernel
theorem dJ6_bitCount_0f7a4_22 : decode cJ6_bitCount_0f7a4 22 = .ok (.iadd, 1) := by decide +kernel
theorem dJ6_bitCount_0f7a4_23 : decode cJ6_bitCount_0f7a4 23 = .ok (.istore_n 0, 1) := by decide +kernel
theorem dJ6_bitCount_0f7a4_24 : decode cJ6_bitCount_0f7a4 24 = .ok (.iload_n 0, 1) := by decide +kernel
theorem dJ6_bitCount_0f7a4_25 : decode cJ6_bitCount_0f7a4 25 = .ok (.iload_n 0, 1) := by decide +kernel
theorem dJ6_bitCount_0f7a4_26 : decode cJ6_bitCount_0f7a4 26 = .ok (.iconst 4, 1) := by decide +kernel
theorem dJ6_bitCount_0f7a4_27 : decode cJ6_bitCount_0f7a4 27 = .ok (.iushr, 1) := by decide +kernel
theorem dJ6_bitCount_0f7a4_28 : decode cJ6_bitCount_0f7a4 28 = .ok (.iadd, 1) := by decide +kernel
theorem dJ6_bitCount_0f7a4_29 : decode cJ6_bitCount_0f7a4 29 = .ok (.ldc_w 267, 3) := by decide +kernel
theorem dJ6_bitCount_0f7a4_32 : decode cJ6_bitCount_0f7a4 32 = .ok (.iand, 1) := by decide +kernel
theorem dJ6_bitCount_0f7a4_33 : decode cJ6_bitCount_0f7a4 33 = .ok (.istore_n 0, 1) := by decide +kernel
theorem dJ6_bitCount_0f7a4_34 : decode cJ6_bitCount_0f7a4 34 = .ok (.iload_n 0, 1) := by decide +kernel
theorem dJ6_bitCount_0f7a4_35 : decode cJ6_bitCount_0f7a4 35 = .ok (.iload_n 0, 1) := by decide +kernel
theorem dJ6_bitCount_0f7a4_36 : decode cJ6_bitCount_0f7a4 36 = .ok (.bipush 8, 2) := by decide +kernel
theorem dJ6_bitCount_0f7a4_38 : decode cJ6_bitCount_0f7a4 38 = .ok (.iushr, 1) := by decide +kernel
theorem dJ6_bitCount_0f7a4_39 : decode cJ6_bitCount_0f7a4 39 = .ok (.iadd, 1) := by decide +kernel
theorem dJ6_bitCount_0f7a4_40 : decode cJ6_bitCount_0f7a4 40 = .ok (.istore_n 0, 1) := by decide +kernel
theorem dJ6_bitCount_0f7a4_41 : decode cJ6_bitCount_0f7a4 41 = .ok (.iload_n 0, 1) := by decide +kernel
theorem dJ6_bitCount_0f7a4_42 : decode cJ6_bitCount_0f7a4 42 = .ok (.iload_n 0, 1) := by decide +kernel
theorem dJ6_bitCount_0f7a4_43 : decode cJ6_bitCount_0f7a4 43 = .ok (.bipush 16, 2) := by decide +kernel
theorem dJ6_bitCount_0f7a4_45 : decode cJ6_bitCount_0f7a4 45 = .ok (.iushr, 1) := by decide +kernel
theorem dJ6_bitCount_0f7a4_46 : decode cJ6_bitCount_0f7a4 46 = .ok (.iadd, 1) := by decide +kernel
theorem dJ6_bitCount_0f7a4_47 : decode cJ6_bitCount_0f7a4 47 = .ok (.istore_n 0, 1) := by decide +kernel
theorem dJ6_bitCount_0f7a4_48 : decode cJ6_bitCount_0f7a4 48 = .ok (.iload_n 0, 1) := by decide +kernel
theorem dJ6_bitCount_0f7a4_49 : decode cJ6_bitCount_0f7a4 49 = .ok (.bipush 63, 2) := by decide +kernel
theorem dJ6_bitCount_0f7a4_51 : decode cJ6_bitCount_0f7a4 51 = .ok (.iand, 1) := by decide +kernel
theorem dJ6_bitCount_0f7a4_52 : decode cJ6_bitCount_0f7a4 52 = .ok (.ireturn, 1) := by decide +kernel
theorem dJ9_max_7cf53_0 : decode cJ9_max_7cf53 0 = .ok (.iload_n 0, 1) := by decide +kernel
theorem dJ9_max_7cf53_1 : decode cJ9_max_7cf53 1 = .ok (.iload_n 1, 1) := by decide +kernel
theorem dJ9_max_7cf53_2 : decode cJ9_max_7cf53 2 = .ok (.if_icmp .lt 7, 3) := by decide +kernel
theorem dJ9_max_7cf53_5 : decode cJ9_max_7cf53 5 = .ok (.iload_n 0, 1) := by decide +kernel
theorem dJ9_max_7cf53_6 : decode cJ9_max_7cf53 6 = .ok (.goto 4, 3) := by decide +kernel
theorem dJ9_max_7cf53_9 : decode cJ9_max_7cf53 9 = .ok (.iload_n 1, 1) := by decide +kernel
theorem dJ9_max_7cf53_10 : decode cJ9_max_7cf53 10 = .ok (.ireturn, 1) := by decide +kernel
theorem dJ9_min_7cf53_0 : decode cJ9_min_7cf53 0 = .ok (.iload_n 0, 1) := by decide +kernel
theorem dJ9_min_7cf53_1 : decode cJ9_min_7cf53 1 = .ok (.iload_n 1, 1) := by decide +kernel
theorem dJ9_min_7cf53_2 : decode cJ9_min_7cf53 2 = .ok (.if_icmp .gt 7, 3) := by decide +kernel
theorem dJ9_min_7cf53_5 : decode cJ9_min_7cf53 5 = .ok (.iload_n 0, 1) := by decide +kernel
theorem dJ9_min_7cf53_6 : decode cJ9_min_7cf53 6 = .ok (.goto 4, 3) := by decide +kernel
theorem dJ9_min_7cf53_9 : decode cJ9_min_7cf53 9 = .ok (.iload_n 1, 1) := by decide +kernel
theorem dJ9_min_7cf53_10 : decode cJ9_min_7cf53 10 = .ok (.ireturn, 1) := by decide +kernel
theorem dJ9_min_f86c9_0 : decode cJ9_min_f86c9 0 = .ok (.lload_n 0, 1) := by decide +kernel
theorem dJ9_min_f86c9_1 : decode cJ9_min_f86c9 1 = .ok (.lload_n 2, 1) := by decide +kernel
theorem dJ9_min_f86c9_2 : decode cJ9_min_f86c9 2 = .ok (.lcmp, 1) := by decide +kernel
theorem dJ9_min_f86c9_3 : decode cJ9_min_f86c9 3 = .ok (.ifCond .gt 7, 3) := by decide +kernel
theorem dJ9_min_f86c9_6 : decode cJ9_min_f86c9 6 = .ok (.lload_n 0, 1) := by decide +kernel
theorem dJ9_min_f86c9_7 : decode cJ9_min_f86c9 7 = .ok (.goto 4, 3) := by decide +kernel
theorem dJ9_min_f86c9_10 : decode cJ9_min_f86c9 10 = .ok (.lload_n 2, 1) := by decide +kernel
theorem dJ9_min_f86c9_11 : decode cJ9_min_f86c9 11 = .ok (.lreturn, 1) := by decide +kernel
theorem dL_law_0 : decode cL_law 0 = .ok (.new 7, 3) := by decide +kernel
theorem dL_law_3 : decode cL_law 3 = .ok (.dup, 1) := by decide +kernel
theorem dL_law_4 : decode cL_law 4 = .ok (.invokespecial 9, 3) := by decide +kernel
theorem dL_law_7 : decode cL_law 7 = .ok (.astore_n 1, 1) := by decide +kernel
theorem dL_law_8 : decode cL_law 8 = .ok (.new 10, 3) := by decide +kernel
theorem dL_law_11 : decode cL_law 11 = .ok (.dup, 1) := by decide +kernel
theorem dL_law_12 : decode cL_law 12 = .ok (.invokespecial 12, 3) := by decide +kernel
theorem dL_law_15 : decode cL_law 15 = .ok (.astore_n 2, 1) := by decide +kernel
theorem dL_law_16 : decode cL_law 16 = .ok (.iconst 0, 1) := by decide +kernel
theorem dL_law_17 : decode cL_law 17 = .ok (.istore_n 3, 1) := by decide +kernel
theorem dL_law_18 : decode cL_law 18 = .ok (.iload_n 3, 1) := by decide +kernel
theorem dL_law_19 : decode cL_law 19 = .ok (.aload_n 0, 1) := by decide +kernel
theorem dL_law_20 : decode cL_law 20 = .ok (.arraylength, 1) := by decide +kernel
theorem dL_law_21 : decode cL_law 21 = .ok (.iconst 3, 1) := by decide +kernel
theorem dL_law_22 : decode cL_law 22 = .ok (.isub, 1) := by decide +kernel
theorem dL_law_23 : decode cL_law 23 = .ok (.if_icmp .gt 541, 3) := by decide +kernel
theorem dL_law_26 : decode cL_law 26 = .ok (.aload_n 0, 1) := by decide +kernel
theorem dL_law_27 : decode cL_law 27 = .ok (.iload_n 3, 1) := by decide +kernel
theorem dL_law_28 : decode cL_law 28 = .ok (.iaload, 1) := by decide +kernel
theorem dL_law_29 : decode cL_law 29 = .ok (.bipush 31, 2) := by decide +kernel
theorem dL_law_31 : decode cL_law 31 = .ok (.iand, 1) := by decide +kernel
theorem dL_law_32 : decode cL_law 32 = .ok (.tableswitch 526 0 19 #[96, 119, 132, 145, 158, 171, 184, 217, 240, 273, 306, 319, 332, 355, 388, 411, 434, 457, 480, 503], 96) := by decide +kernel
theorem dL_law_128 : decode cL_law 128 = .ok (.aload_n 1, 1) := by decide +kernel
theorem dL_law_129 : decode cL_law 129 = .ok (.aload_n 0, 1) := by decide +kernel
theorem dL_law_130 : decode cL_law 130 = .ok (.iload_n 3, 1) := by decide +kernel
theorem dL_law_131 : decode cL_law 131 = .ok (.iconst 1, 1) := by decide +kernel
theorem dL_law_132 : decode cL_law 132 = .ok (.iadd, 1) := by decide +kernel
theorem dL_law_133 : decode cL_law 133 = .ok (.iaload, 1) := by decide +kernel
theorem dL_law_134 : decode cL_law 134 = .ok (.invokevirtual 13, 3) := by decide +kernel
theorem dL_law_137 : decode cL_law 137 = .ok (.aload_n 2, 1) := by decide +kernel
theorem dL_law_138 : decode cL_law 138 = .ok (.aload_n 0, 1) := by decide +kernel
theorem dL_law_139 : decode cL_law 139 = .ok (.iload_n 3, 1) := by decide +kernel
theorem dL_law_140 : decode cL_law 140 = .ok (.iconst 1, 1) := by decide +kernel
theorem dL_law_141 : decode cL_law 141 = .ok (.iadd, 1) := by decide +kernel
theorem dL_law_142 : decode cL_law 142 = .ok (.iaload, 1) := by decide +kernel
theorem dL_law_143 : decode cL_law 143 = .ok (.invokevirtual 17, 3) := by decide +kernel
theorem dL_law_146 : decode cL_law 146 = .ok (.if_icmp .eq 412, 3) := by decide +kernel
theorem dL_law_149 : decode cL_law 149 = .ok (.iconst 0, 1) := by decide +kernel
theorem dL_law_150 : decode cL_law 150 = .ok (.ireturn, 1) := by decide +kernel
theorem dL_law_151 : decode cL_law 151 = .ok (.aload_n 1, 1) := by decide +kernel
theorem dL_law_152 : decode cL_law 152 = .ok (.invokevirtual 18, 3) := by decide +kernel
theorem dL_law_155 : decode cL_law 155 = .ok (.aload_n 2, 1) := by decide +kernel
theorem dL_law_156 : decode cL_law 156 = .ok (.invokevirtual 22, 3) := by decide +kernel
theorem dL_law_159 : decode cL_law 159 = .ok (.if_icmp .eq 399, 3) := by decide +kernel
theorem dL_law_162 : decode cL_law 162 = .ok (.iconst 0, 1) := by decide +kernel
theorem dL_law_163 : decode cL_law 163 = .ok (.ireturn, 1) := by decide +kernel
theorem dL_law_164 : decode cL_law 164 = .ok (.aload_n 1, 1) := by decide +kernel
theorem dL_law_165 : decode cL_law 165 = .ok (.invokevirtual 23, 3) := by decide +kernel
theorem dL_law_168 : decode cL_law 168 = .ok (.aload_n 2, 1) := by decide +kernel
theorem dL_law_169 : decode cL_law 169 = .ok (.invokevirtual 26, 3) := by decide +kernel
theorem dL_law_172 : decode cL_law 172 = .ok (.if_icmp .eq 386, 3) := by decide +kernel
theorem dL_law_175 : decode cL_law 175 = .ok (.iconst 0, 1) := by decide +kernel
theorem dL_law_176 : decode cL_law 176 = .ok (.ireturn, 1) := by decide +kernel
theorem dL_law_177 : decode cL_law 177 = .ok (.aload_n 1, 1) := by decide +kernel
theorem dL_law_178 : decode cL_law 178 = .ok (.invokevirtual 27, 3) := by decide +kernel
theorem dL_law_181 : decode cL_law 181 = .ok (.aload_n 2, 1) := by decide +kernel
theorem dL_law_182 : decode cL_law 182 = .ok (.invokevirtual 30, 3) := by decide +kernel
theorem dL_law_185 : decode cL_law 185 = .ok (.if_icmp .eq 373, 3) := by decide +kernel
theorem dL_law_188 : decode cL_law 188 = .ok (.iconst 0, 1) := by decide +kernel
theorem dL_law_189 : decode cL_law 189 = .ok (.ireturn, 1) := by decide +kernel
theorem dL_law_190 : decode cL_law 190 = .ok (.aload_n 1, 1) := by decide +kernel
theorem dL_law_191 : decode cL_law 191 = .ok (.invokevirtual 31, 3) := by decide +kernel
theorem dL_law_194 : decode cL_law 194 = .ok (.aload_n 2, 1) := by decide +kernel
theorem dL_law_195 : decode cL_law 195 = .ok (.invokevirtual 34, 3) := by decide +kernel
theorem dL_law_198 : decode cL_law 198 = .ok (.if_icmp .eq 360, 3) := by decide +kernel
theorem dL_law_201 : decode cL_law 201 = .ok (.iconst 0, 1) := by decide +kernel
theorem dL_law_202 : decode cL_law 202 = .ok (.ireturn, 1) := by decide +kernel
theorem dL_law_203 : decode cL_law 203 = .ok (.aload_n 1, 1) := by decide +kernel
theorem dL_law_204 : decode cL_law 204 = .ok (.invokevirtual 35, 3) := by decide +kernel
theorem dL_law_207 : decode cL_law 207 = .ok (.aload_n 2, 1) := by decide +kernel
theorem dL_law_208 : decode cL_law 208 = .ok (.invokevirtual 38, 3) := by decide +kernel
theorem dL_law_211 : decode cL_law 211 = .ok (.if_icmp .eq 347, 3) := by decide +kernel
theorem dL_law_214 : decode cL_law 214 = .ok (.iconst 0, 1) := by decide +kernel
theorem dL_law_215 : decode cL_law 215 = .ok (.ireturn, 1) := by decide +kernel
theorem dL_law_216 : decode cL_law 216 = .ok (.aload_n 1, 1) := by decide +kernel
theorem dL_law_217 : decode cL_law 217 = .ok (.aload_n 0, 1) := by decide +kernel
theorem dL_law_218 : decode cL_law 218 = .ok (.iload_n 3, 1) := by decide +kernel
theorem dL_law_219 : decode cL_law 219 = .ok (.iconst 1, 1) := by decide +kernel
theorem dL_law_220 : decode cL_law 220 = .ok (.iadd, 1) := by decide +kernel
theorem dL_law_221 : decode cL_law 221 = .ok (.iaload, 1) := by decide +kernel
theorem dL_law_222 : decode cL_law 222 = .ok (.aload_n 0, 1) := by decide +kernel
theorem dL_law_223 : decode cL_law 223 = .ok (.iload_n 3, 1) := by decide +kernel
theorem dL_law_224 : decode cL_law 224 = .ok (.iconst 2, 1) := by decide +kernel
theorem dL_law_225 : decode cL_law 225 = .ok (.iadd, 1) := by decide +kernel
theorem dL_law_226 : decode cL_law 226 = .ok (.iaload, 1) := by decide +kernel
theorem dL_law_227 : decode cL_law 227 = .ok (.invokevirtual 39, 3) := by decide +kernel
theorem dL_law_230 : decode cL_law 230 = .ok (.aload_n 2, 1) := by decide +kernel
theorem dL_law_231 : decode cL_law 231 = .ok (.aload_n 0, 1) := by decide +kernel
theorem dL_law_232 : decode cL_law 232 = .ok (.iload_n 3, 1) := by decide +kernel
theorem dL_law_233 : decode cL_law 233 = .ok (.iconst 1, 1) := by decide +kernel
theorem dL_law_234 : decode cL_law 234 = .ok (.iadd, 1) := by decide +kernel
theorem dL_law_235 : decode cL_law 235 = .ok (.iaload, 1) := by decide +kernel
theorem dL_law_236 : decode cL_law 236 = .ok (.aload_n 0, 1) := by decide +kernel
theorem dL_law_237 : decode cL_law 237 = .ok (.iload_n 3, 1) := by decide +kernel
theorem dL_law_238 : decode cL_law 238 = .ok (.iconst 2, 1) := by decide +kernel
theorem dL_law_239 : decode cL_law 239 = .ok (.iadd, 1) := by decide +kernel
theorem dL_law_240 : decode cL_law 240 = .ok (.iaload, 1) := by decide +kernel
theorem dL_law_241 : decode cL_law 241 = .ok (.invokevirtual 43, 3) := by decide +kernel
theorem dL_law_244 : decode cL_law 244 = .ok (.if_icmp .eq 314, 3) := by decide +kernel
theorem dL_law_247 : decode cL_law 247 = .ok (.iconst 0, 1) := by decide +kernel
theorem dL_law_248 : decode cL_law 248 = .ok (.ireturn, 1) := by decide +kernel
theorem dL_law_249 : decode cL_law 249 = .ok (.aload_n 1, 1) := by decide +kernel
theorem dL_law_250 : decode cL_law 250 = .ok (.aload_n 0, 1) := by decide +kernel
theorem dL_law_251 : decode cL_law 251 = .ok (.iload_n 3, 1) := by decide +kernel
theorem dL_law_252 : decode cL_law 252 = .ok (.iconst 1, 1) := by decide +kernel
theorem dL_law_253 : decode cL_law 253 = .ok (.iadd, 1) := by decide +kernel
theorem dL_law_254 : decode cL_law 254 = .ok (.iaload, 1) := by decide +kernel
theorem dL_law_255 : decode cL_law 255 = .ok (.invokevirtual 44, 3) := by decide +kernel
theorem dL_law_258 : decode cL_law 258 = .ok (.aload_n 2, 1) := by decide +kernel
theorem dL_law_259 : decode cL_law 259 = .ok (.aload_n 0, 1) := by decide +kernel
theorem dL_law_260 : decode cL_law 260 = .ok (.iload_n 3, 1) := by decide +kernel
theorem dL_law_261 : decode cL_law 261 = .ok (.iconst 1, 1) := by decide +kernel
theorem dL_law_262 : decode cL_law 262 = .ok (.iadd, 1) := by decide +kernel
theorem dL_law_263 : decode cL_law 263 = .ok (.iaload, 1) := by decide +kernel
theorem dL_law_264 : decode cL_law 264 = .ok (.invokevirtual 47, 3) := by decide +kernel
theorem dL_law_267 : decode cL_law 267 = .ok (.if_icmp .eq 291, 3) := by decide +kernel
theorem dL_law_270 : decode cL_law 270 = .ok (.iconst 0, 1) := by decide +kernel
theorem dL_law_271 : decode cL_law 271 = .ok (.ireturn, 1) := by decide +kernel
theorem dL_law_272 : decode cL_law 272 = .ok (.aload_n 1, 1) := by decide +kernel
theorem dL_law_273 : decode cL_law 273 = .ok (.aload_n 0, 1) := by decide +kernel
theorem dL_law_274 : decode cL_law 274 = .ok (.iload_n 3, 1) := by decide +kernel
theorem dL_law_275 : decode cL_law 275 = .ok (.iconst 1, 1) := by decide +kernel
theorem dL_law_276 : decode cL_law 276 = .ok (.iadd, 1) := by decide +kernel
theorem dL_law_277 : decode cL_law 277 = .ok (.iaload, 1) := by decide +kernel
theorem dL_law_278 : decode cL_law 278 = .ok (.aload_n 0, 1) := by decide +kernel
theorem dL_law_279 : decode cL_law 279 = .ok (.iload_n 3, 1) := by decide +kernel
theorem dL_law_280 : decode cL_law 280 = .ok (.iconst 2, 1) := by decide +kernel
theorem dL_law_281 : decode cL_law 281 = .ok (.iadd, 1) := by decide +kernel
theorem dL_law_282 : decode cL_law 282 = .ok (.iaload, 1) := by decide +kernel
theorem dL_law_283 : decode cL_law 283 = .ok (.invokevirtual 48, 3) := by decide +kernel
theorem dL_law_286 : decode cL_law 286 = .ok (.aload_n 2, 1) := by decide +kernel
theorem dL_law_287 : decode cL_law 287 = .ok (.aload_n 0, 1) := by decide +kernel
theorem dL_law_288 : decode cL_law 288 = .ok (.iload_n 3, 1) := by decide +kernel
theorem dL_law_289 : decode cL_law 289 = .ok (.iconst 1, 1) := by decide +kernel
theorem dL_law_290 : decode cL_law 290 = .ok (.iadd, 1) := by decide +kernel
theorem dL_law_291 : decode cL_law 291 = .ok (.iaload, 1) := by decide +kernel
theorem dL_law_292 : decode cL_law 292 = .ok (.aload_n 0, 1) := by decide +kernel
theorem dL_law_293 : decode cL_law 293 = .ok (.iload_n 3, 1) := by decide +kernel
theorem dL_law_294 : decode cL_law 294 = .ok (.iconst 2, 1) := by decide +kernel
theorem dL_law_295 : decode cL_law 295 = .ok (.iadd, 1) := by decide +kernel
theorem dL_law_296 : decode cL_law 296 = .ok (.iaload, 1) := by decide +kernel
theorem dL_law_297 : decode cL_law 297 = .ok (.invokevirtual 51, 3) := by decide +kernel
theorem dL_law_300 : decode cL_law 300 = .ok (.if_icmp .eq 258, 3) := by decide +kernel
theorem dL_law_303 : decode cL_law 303 = .ok (.iconst 0, 1) := by decide +kernel
theorem dL_law_304 : decode cL_law 304 = .ok (.ireturn, 1) := by decide +kernel
theorem dL_law_305 : decode cL_law 305 = .ok (.aload_n 1, 1) := by decide +kernel
theorem dL_law_306 : decode cL_law 306 = .ok (.aload_n 0, 1) := by decide +kernel
theorem dL_law_307 : decode cL_law 307 = .ok (.iload_n 3, 1) := by decide +kernel
theorem dL_law_308 : decode cL_law 308 = .ok (.iconst 1, 1) := by decide +kernel
theorem dL_law_309 : decode cL_law 309 = .ok (.iadd, 1) := by decide +kernel
theorem dL_law_310 : decode cL_law 310 = .ok (.iaload, 1) := by decide +kernel
theorem dL_law_311 : decode cL_law 311 = .ok (.aload_n 0, 1) := by decide +kernel
theorem dL_law_312 : decode cL_law 312 = .ok (.iload_n 3, 1) := by decide +kernel
theorem dL_law_313 : decode cL_law 313 = .ok (.iconst 2, 1) := by decide +kernel
theorem dL_law_314 : decode cL_law 314 = .ok (.iadd, 1) := by decide +kernel
theorem dL_law_315 : decode cL_law 315 = .ok (.iaload, 1) := by decide +kernel
theorem dL_law_316 : decode cL_law 316 = .ok (.invokevirtual 52, 3) := by decide +kernel
theorem dL_law_319 : decode cL_law 319 = .ok (.aload_n 2, 1) := by decide +kernel
theorem dL_law_320 : decode cL_law 320 = .ok (.aload_n 0, 1) := by decide +kernel
theorem dL_law_321 : decode cL_law 321 = .ok (.iload_n 3, 1) := by decide +kernel
theorem dL_law_322 : decode cL_law 322 = .ok (.iconst 1, 1) := by decide +kernel
theorem dL_law_323 : decode cL_law 323 = .ok (.iadd, 1) := by decide +kernel
theorem dL_law_324 : decode cL_law 324 = .ok (.iaload, 1) := by decide +kernel
theorem dL_law_325 : decode cL_law 325 = .ok (.aload_n 0, 1) := by decide +kernel
theorem dL_law_326 : decode cL_law 326 = .ok (.iload_n 3, 1) := by decide +kernel
theorem dL_law_327 : decode cL_law 327 = .ok (.iconst 2, 1) := by decide +kernel
theorem dL_law_328 : decode cL_law 328 = .ok (.iadd, 1) := by decide +kernel
theorem dL_law_329 : decode cL_law 329 = .ok (.iaload, 1) := by decide +kernel
theorem dL_law_330 : decode cL_law 330 = .ok (.invokevirtual 55, 3) := by decide +kernel
theorem dL_law_333 : decode cL_law 333 = .ok (.if_icmp .eq 225, 3) := by decide +kernel
theorem dL_law_336 : decode cL_law 336 = .ok (.iconst 0, 1) := by decide +kernel
theorem dL_law_337 : decode cL_law 337 = .ok (.ireturn, 1) := by decide +kernel
theorem dL_law_338 : decode cL_law 338 = .ok (.aload_n 1, 1) := by decide +kernel
theorem dL_law_339 : decode cL_law 339 = .ok (.invokevirtual 56, 3) := by decide +kernel
theorem dL_law_342 : decode cL_law 342 = .ok (.aload_n 2, 1) := by decide +kernel
theorem dL_law_343 : decode cL_law 343 = .ok (.invokevirtual 59, 3) := by decide +kernel
theorem dL_law_346 : decode cL_law 346 = .ok (.if_icmp .eq 212, 3) := by decide +kernel
theorem dL_law_349 : decode cL_law 349 = .ok (.iconst 0, 1) := by decide +kernel
theorem dL_law_350 : decode cL_law 350 = .ok (.ireturn, 1) := by decide +kernel
theorem dL_law_351 : decode cL_law 351 = .ok (.aload_n 1, 1) := by decide +kernel
theorem dL_law_352 : decode cL_law 352 = .ok (.invokevirtual 60, 3) := by decide +kernel
theorem dL_law_355 : decode cL_law 355 = .ok (.aload_n 2, 1) := by decide +kernel
theorem dL_law_356 : decode cL_law 356 = .ok (.invokevirtual 63, 3) := by decide +kernel
theorem dL_law_359 : decode cL_law 359 = .ok (.if_icmp .eq 199, 3) := by decide +kernel
theorem dL_law_362 : decode cL_law 362 = .ok (.iconst 0, 1) := by decide +kernel
theorem dL_law_363 : decode cL_law 363 = .ok (.ireturn, 1) := by decide +kernel
theorem dL_law_364 : decode cL_law 364 = .ok (.aload_n 1, 1) := by decide +kernel
theorem dL_law_365 : decode cL_law 365 = .ok (.aload_n 0, 1) := by decide +kernel
theorem dL_law_366 : decode cL_law 366 = .ok (.iload_n 3, 1) := by decide +kernel
theorem dL_law_367 : decode cL_law 367 = .ok (.iconst 1, 1) := by decide +kernel
theorem dL_law_368 : decode cL_law 368 = .ok (.iadd, 1) := by decide +kernel
theorem dL_law_369 : decode cL_law 369 = .ok (.iaload, 1) := by decide +kernel
theorem dL_law_370 : decode cL_law 370 = .ok (.invokevirtual 64, 3) := by decide +kernel
theorem dL_law_373 : decode cL_law 373 = .ok (.aload_n 2, 1) := by decide +kernel
theorem dL_law_374 : decode cL_law 374 = .ok (.aload_n 0, 1) := by decide +kernel
theorem dL_law_375 : decode cL_law 375 = .ok (.iload_n 3, 1) := by decide +kernel
theorem dL_law_376 : decode cL_law 376 = .ok (.iconst 1, 1) := by decide +kernel
theorem dL_law_377 : decode cL_law 377 = .ok (.iadd, 1) := by decide +kernel
theorem dL_law_378 : decode cL_law 378 = .ok (.iaload, 1) := by decide +kernel
theorem dL_law_379 : decode cL_law 379 = .ok (.invokevirtual 67, 3) := by decide +kernel
theorem dL_law_382 : decode cL_law 382 = .ok (.if_icmp .eq 176, 3) := by decide +kernel
theorem dL_law_385 : decode cL_law 385 = .ok (.iconst 0, 1) := by decide +kernel
theorem dL_law_386 : decode cL_law 386 = .ok (.ireturn, 1) := by decide +kernel
theorem dL_law_387 : decode cL_law 387 = .ok (.aload_n 1, 1) := by decide +kernel
theorem dL_law_388 : decode cL_law 388 = .ok (.aload_n 0, 1) := by decide +kernel
theorem dL_law_389 : decode cL_law 389 = .ok (.iload_n 3, 1) := by decide +kernel
theorem dL_law_390 : decode cL_law 390 = .ok (.iconst 1, 1) := by decide +kernel
theorem dL_law_391 : decode cL_law 391 = .ok (.iadd, 1) := by decide +kernel
theorem dL_law_392 : decode cL_law 392 = .ok (.iaload, 1) := by decide +kernel
theorem dL_law_393 : decode cL_law 393 = .ok (.aload_n 0, 1) := by decide +kernel
theorem dL_law_394 : decode cL_law 394 = .ok (.iload_n 3, 1) := by decide +kernel
theorem dL_law_395 : decode cL_law 395 = .ok (.iconst 2, 1) := by decide +kernel
theorem dL_law_396 : decode cL_law 396 = .ok (.iadd, 1) := by decide +kernel
theorem dL_law_397 : decode cL_law 397 = .ok (.iaload, 1) := by decide +kernel
theorem dL_law_398 : decode cL_law 398 = .ok (.invokevirtual 68, 3) := by decide +kernel
theorem dL_law_401 : decode cL_law 401 = .ok (.aload_n 2, 1) := by decide +kernel
theorem dL_law_402 : decode cL_law 402 = .ok (.aload_n 0, 1) := by decide +kernel
theorem dL_law_403 : decode cL_law 403 = .ok (.iload_n 3, 1) := by decide +kernel
theorem dL_law_404 : decode cL_law 404 = .ok (.iconst 1, 1) := by decide +kernel
theorem dL_law_405 : decode cL_law 405 = .ok (.iadd, 1) := by decide +kernel
theorem dL_law_406 : decode cL_law 406 = .ok (.iaload, 1) := by decide +kernel
theorem dL_law_407 : decode cL_law 407 = .ok (.aload_n 0, 1) := by decide +kernel
theorem dL_law_408 : decode cL_law 408 = .ok (.iload_n 3, 1) := by decide +kernel
theorem dL_law_409 : decode cL_law 409 = .ok (.iconst 2, 1) := by decide +kernel
theorem dL_law_410 : decode cL_law 410 = .ok (.iadd, 1) := by decide +kernel
theorem dL_law_411 : decode cL_law 411 = .ok (.iaload, 1) := by decide +kernel
theorem dL_law_412 : decode cL_law 412 = .ok (.invokevirtual 71, 3) := by decide +kernel
theorem dL_law_415 : decode cL_law 415 = .ok (.if_icmp .eq 143, 3) := by decide +kernel
theorem dL_law_418 : decode cL_law 418 = .ok (.iconst 0, 1) := by decide +kernel
theorem dL_law_419 : decode cL_law 419 = .ok (.ireturn, 1) := by decide +kernel
theorem dL_law_420 : decode cL_law 420 = .ok (.aload_n 1, 1) := by decide +kernel
theorem dL_law_421 : decode cL_law 421 = .ok (.aload_n 0, 1) := by decide +kernel
theorem dL_law_422 : decode cL_law 422 = .ok (.iload_n 3, 1) := by decide +kernel
theorem dL_law_423 : decode cL_law 423 = .ok (.iconst 1, 1) := by decide +kernel
theorem dL_law_424 : decode cL_law 424 = .ok (.iadd, 1) := by decide +kernel
theorem dL_law_425 : decode cL_law 425 = .ok (.iaload, 1) := by decide +kernel
theorem dL_law_426 : decode cL_law 426 = .ok (.invokevirtual 72, 3) := by decide +kernel
theorem dL_law_429 : decode cL_law 429 = .ok (.aload_n 2, 1) := by decide +kernel
theorem dL_law_430 : decode cL_law 430 = .ok (.aload_n 0, 1) := by decide +kernel
theorem dL_law_431 : decode cL_law 431 = .ok (.iload_n 3, 1) := by decide +kernel
theorem dL_law_432 : decode cL_law 432 = .ok (.iconst 1, 1) := by decide +kernel
theorem dL_law_433 : decode cL_law 433 = .ok (.iadd, 1) := by decide +kernel
theorem dL_law_434 : decode cL_law 434 = .ok (.iaload, 1) := by decide +kernel
theorem dL_law_435 : decode cL_law 435 = .ok (.invokevirtual 75, 3) := by decide +kernel
theorem dL_law_438 : decode cL_law 438 = .ok (.if_icmp .eq 120, 3) := by decide +kernel
theorem dL_law_441 : decode cL_law 441 = .ok (.iconst 0, 1) := by decide +kernel
theorem dL_law_442 : decode cL_law 442 = .ok (.ireturn, 1) := by decide +kernel
theorem dL_law_443 : decode cL_law 443 = .ok (.aload_n 1, 1) := by decide +kernel
theorem dL_law_444 : decode cL_law 444 = .ok (.aload_n 0, 1) := by decide +kernel
theorem dL_law_445 : decode cL_law 445 = .ok (.iload_n 3, 1) := by decide +kernel
theorem dL_law_446 : decode cL_law 446 = .ok (.iconst 1, 1) := by decide +kernel
theorem dL_law_447 : decode cL_law 447 = .ok (.iadd, 1) := by decide +kernel
theorem dL_law_448 : decode cL_law 448 = .ok (.iaload, 1) := by decide +kernel
theorem dL_law_449 : decode cL_law 449 = .ok (.invokevirtual 76, 3) := by decide +kernel
theorem dL_law_452 : decode cL_law 452 = .ok (.aload_n 2, 1) := by decide +kernel
theorem dL_law_453 : decode cL_law 453 = .ok (.aload_n 0, 1) := by decide +kernel
theorem dL_law_454 : decode cL_law 454 = .ok (.iload_n 3, 1) := by decide +kernel
theorem dL_law_455 : decode cL_law 455 = .ok (.iconst 1, 1) := by decide +kernel
theorem dL_law_456 : decode cL_law 456 = .ok (.iadd, 1) := by decide +kernel
theorem dL_law_457 : decode cL_law 457 = .ok (.iaload, 1) := by decide +kernel
theorem dL_law_458 : decode cL_law 458 = .ok (.invokevirtual 79, 3) := by decide +kernel
theorem dL_law_461 : decode cL_law 461 = .ok (.if_icmp .eq 97, 3) := by decide +kernel
theorem dL_law_464 : decode cL_law 464 = .ok (.iconst 0, 1) := by decide +kernel
theorem dL_law_465 : decode cL_law 465 = .ok (.ireturn, 1) := by decide +kernel
theorem dL_law_466 : decode cL_law 466 = .ok (.aload_n 1, 1) := by decide +kernel
theorem dL_law_467 : decode cL_law 467 = .ok (.aload_n 0, 1) := by decide +kernel
theorem dL_law_468 : decode cL_law 468 = .ok (.iload_n 3, 1) := by decide +kernel
theorem dL_law_469 : decode cL_law 469 = .ok (.iconst 1, 1) := by decide +kernel
theorem dL_law_470 : decode cL_law 470 = .ok (.iadd, 1) := by decide +kernel
theorem dL_law_471 : decode cL_law 471 = .ok (.iaload, 1) := by decide +kernel
theorem dL_law_472 : decode cL_law 472 = .ok (.invokevirtual 80, 3) := by decide +kernel
theorem dL_law_475 : decode cL_law 475 = .ok (.aload_n 2, 1) := by decide +kernel
theorem dL_law_476 : decode cL_law 476 = .ok (.aload_n 0, 1) := by decide +kernel
theorem dL_law_477 : decode cL_law 477 = .ok (.iload_n 3, 1) := by decide +kernel
theorem dL_law_478 : decode cL_law 478 = .ok (.iconst 1, 1) := by decide +kernel
theorem dL_law_479 : decode cL_law 479 = .ok (.iadd, 1) := by decide +kernel
theorem dL_law_480 : decode cL_law 480 = .ok (.iaload, 1) := by decide +kernel
theorem dL_law_481 : decode cL_law 481 = .ok (.invokevirtual 83, 3) := by decide +kernel
theorem dL_law_484 : decode cL_law 484 = .ok (.if_icmp .eq 74, 3) := by decide +kernel
theorem dL_law_487 : decode cL_law 487 = .ok (.iconst 0, 1) := by decide +kernel
theorem dL_law_488 : decode cL_law 488 = .ok (.ireturn, 1) := by decide +kernel
theorem dL_law_489 : decode cL_law 489 = .ok (.aload_n 1, 1) := by decide +kernel
theorem dL_law_490 : decode cL_law 490 = .ok (.aload_n 0, 1) := by decide +kernel
theorem dL_law_491 : decode cL_law 491 = .ok (.iload_n 3, 1) := by decide +kernel
theorem dL_law_492 : decode cL_law 492 = .ok (.iconst 1, 1) := by decide +kernel
theorem dL_law_493 : decode cL_law 493 = .ok (.iadd, 1) := by decide +kernel
theorem dL_law_494 : decode cL_law 494 = .ok (.iaload, 1) := by decide +kernel
theorem dL_law_495 : decode cL_law 495 = .ok (.invokevirtual 84, 3) := by decide +kernel
theorem dL_law_498 : decode cL_law 498 = .ok (.aload_n 2, 1) := by decide +kernel
theorem dL_law_499 : decode cL_law 499 = .ok (.aload_n 0, 1) := by decide +kernel
theorem dL_law_500 : decode cL_law 500 = .ok (.iload_n 3, 1) := by decide +kernel
theorem dL_law_501 : decode cL_law 501 = .ok (.iconst 1, 1) := by decide +kernel
theorem dL_law_502 : decode cL_law 502 = .ok (.iadd, 1) := by decide +kernel
theorem dL_law_503 : decode cL_law 503 = .ok (.iaload, 1) := by decide +kernel
theorem dL_law_504 : decode cL_law 504 = .ok (.invokevirtual 87, 3) := by decide +kernel
theorem dL_law_507 : decode cL_law 507 = .ok (.if_icmp .eq 51, 3) := by decide +kernel
theorem dL_law_510 : decode cL_law 510 = .ok (.iconst 0, 1) := by decide +kernel
theorem dL_law_511 : decode cL_law 511 = .ok (.ireturn, 1) := by decide +kernel
theorem dL_law_512 : decode cL_law 512 = .ok (.aload_n 1, 1) := by decide +kernel
theorem dL_law_513 : decode cL_law 513 = .ok (.aload_n 0, 1) := by decide +kernel
theorem dL_law_514 : decode cL_law 514 = .ok (.iload_n 3, 1) := by decide +kernel
theorem dL_law_515 : decode cL_law 515 = .ok (.iconst 1, 1) := by decide +kernel
theorem dL_law_516 : decode cL_law 516 = .ok (.iadd, 1) := by decide +kernel
theorem dL_law_517 : decode cL_law 517 = .ok (.iaload, 1) := by decide +kernel
theorem dL_law_518 : decode cL_law 518 = .ok (.invokevirtual 88, 3) := by decide +kernel
theorem dL_law_521 : decode cL_law 521 = .ok (.aload_n 2, 1) := by decide +kernel
theorem dL_law_522 : decode cL_law 522 = .ok (.aload_n 0, 1) := by decide +kernel
theorem dL_law_523 : decode cL_law 523 = .ok (.iload_n 3, 1) := by decide +kernel
theorem dL_law_524 : decode cL_law 524 = .ok (.iconst 1, 1) := by decide +kernel
theorem dL_law_525 : decode cL_law 525 = .ok (.iadd, 1) := by decide +kernel
theorem dL_law_526 : decode cL_law 526 = .ok (.iaload, 1) := by decide +kernel
theorem dL_law_527 : decode cL_law 527 = .ok (.invokevirtual 91, 3) := by decide +kernel
theorem dL_law_530 : decode cL_law 530 = .ok (.if_icmp .eq 28, 3) := by decide +kernel
theorem dL_law_533 : decode cL_law 533 = .ok (.iconst 0, 1) := by decide +kernel
theorem dL_law_534 : decode cL_law 534 = .ok (.ireturn, 1) := by decide +kernel
theorem dL_law_535 : decode cL_law 535 = .ok (.aload_n 1, 1) := by decide +kernel
theorem dL_law_536 : decode cL_law 536 = .ok (.aload_n 0, 1) := by decide +kernel
theorem dL_law_537 : decode cL_law 537 = .ok (.iload_n 3, 1) := by decide +kernel
theorem dL_law_538 : decode cL_law 538 = .ok (.iconst 1, 1) := by decide +kernel
theorem dL_law_539 : decode cL_law 539 = .ok (.iadd, 1) := by decide +kernel
theorem dL_law_540 : decode cL_law 540 = .ok (.iaload, 1) := by decide +kernel
theorem dL_law_541 : decode cL_law 541 = .ok (.invokevirtual 92, 3) := by decide +kernel
theorem dL_law_544 : decode cL_law 544 = .ok (.aload_n 2, 1) := by decide +kernel
theorem dL_law_545 : decode cL_law 545 = .ok (.aload_n 0, 1) := by decide +kernel
theorem dL_law_546 : decode cL_law 546 = .ok (.iload_n 3, 1) := by decide +kernel
theorem dL_law_547 : decode cL_law 547 = .ok (.iconst 1, 1) := by decide +kernel
theorem dL_law_548 : decode cL_law 548 = .ok (.iadd, 1) := by decide +kernel
theorem dL_law_549 : decode cL_law 549 = .ok (.iaload, 1) := by decide +kernel
theorem dL_law_550 : decode cL_law 550 = .ok (.invokevirtual 95, 3) := by decide +kernel
theorem dL_law_553 : decode cL_law 553 = .ok (.if_icmp .eq 5, 3) := by decide +kernel
theorem dL_law_556 : decode cL_law 556 = .ok (.iconst 0, 1) := by decide +kernel
theorem dL_law_557 : decode cL_law 557 = .ok (.ireturn, 1) := by decide +kernel
theorem dL_law_558 : decode cL_law 558 = .ok (.iinc 3 3, 3) := by decide +kernel
theorem dL_law_561 : decode cL_law 561 = .ok (.goto (-543), 3) := by decide +kernel
theorem dL_law_564 : decode cL_law 564 = .ok (.iconst 1, 1) := by decide +kernel
theorem dL_law_565 : decode cL_law 565 = .ok (.ireturn, 1) := by decide +kernel
