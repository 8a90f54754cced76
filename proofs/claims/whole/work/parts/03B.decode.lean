theorem dX10_init_0 : decode cX10_init 0 = .ok (.aload_n 0, 1) := by decide +kernel
theorem dX10_init_1 : decode cX10_init 1 = .ok (.invokespecial 1, 3) := by decide +kernel
theorem dX10_init_4 : decode cX10_init 4 = .ok (.aload_n 0, 1) := by decide +kernel
theorem dX10_init_5 : decode cX10_init 5 = .ok (.new 7, 3) := by decide +kernel
theorem dX10_init_8 : decode cX10_init 8 = .ok (.dup, 1) := by decide +kernel
theorem dX10_init_9 : decode cX10_init 9 = .ok (.invokespecial 9, 3) := by decide +kernel
theorem dX10_init_12 : decode cX10_init 12 = .ok (.putfield 10, 3) := by decide +kernel
theorem dX10_init_15 : decode cX10_init 15 = .ok (.aload_n 0, 1) := by decide +kernel
theorem dX10_init_16 : decode cX10_init 16 = .ok (.new 16, 3) := by decide +kernel
theorem dX10_init_19 : decode cX10_init 19 = .ok (.dup, 1) := by decide +kernel
theorem dX10_init_20 : decode cX10_init 20 = .ok (.invokespecial 18, 3) := by decide +kernel
theorem dX10_init_23 : decode cX10_init 23 = .ok (.putfield 19, 3) := by decide +kernel
theorem dX10_init_26 : decode cX10_init 26 = .ok (.aload_n 0, 1) := by decide +kernel
theorem dX10_init_27 : decode cX10_init 27 = .ok (.new 23, 3) := by decide +kernel
theorem dX10_init_30 : decode cX10_init 30 = .ok (.dup, 1) := by decide +kernel
theorem dX10_init_31 : decode cX10_init 31 = .ok (.invokespecial 25, 3) := by decide +kernel
theorem dX10_init_34 : decode cX10_init 34 = .ok (.putfield 26, 3) := by decide +kernel
theorem dX10_init_37 : decode cX10_init 37 = .ok (.aload_n 0, 1) := by decide +kernel
theorem dX10_init_38 : decode cX10_init 38 = .ok (.new 30, 3) := by decide +kernel
theorem dX10_init_41 : decode cX10_init 41 = .ok (.dup, 1) := by decide +kernel
theorem dX10_init_42 : decode cX10_init 42 = .ok (.invokespecial 32, 3) := by decide +kernel
theorem dX10_init_45 : decode cX10_init 45 = .ok (.putfield 33, 3) := by decide +kernel
theorem dX10_init_48 : decode cX10_init 48 = .ok (.aload_n 0, 1) := by decide +kernel
theorem dX10_init_49 : decode cX10_init 49 = .ok (.new 37, 3) := by decide +kernel
theorem dX10_init_52 : decode cX10_init 52 = .ok (.dup, 1) := by decide +kernel
theorem dX10_init_53 : decode cX10_init 53 = .ok (.invokespecial 39, 3) := by decide +kernel
theorem dX10_init_56 : decode cX10_init 56 = .ok (.putfield 40, 3) := by decide +kernel
theorem dX10_init_59 : decode cX10_init 59 = .ok (.aload_n 0, 1) := by decide +kernel
theorem dX10_init_60 : decode cX10_init 60 = .ok (.new 44, 3) := by decide +kernel
theorem dX10_init_63 : decode cX10_init 63 = .ok (.dup, 1) := by decide +kernel
theorem dX10_init_64 : decode cX10_init 64 = .ok (.invokespecial 46, 3) := by decide +kernel
theorem dX10_init_67 : decode cX10_init 67 = .ok (.putfield 47, 3) := by decide +kernel
theorem dX10_init_70 : decode cX10_init 70 = .ok (.aload_n 0, 1) := by decide +kernel
theorem dX10_init_71 : decode cX10_init 71 = .ok (.iconst 2, 1) := by decide +kernel
theorem dX10_init_72 : decode cX10_init 72 = .ok (.anewarray 37, 3) := by decide +kernel
theorem dX10_init_75 : decode cX10_init 75 = .ok (.dup, 1) := by decide +kernel
theorem dX10_init_76 : decode cX10_init 76 = .ok (.iconst 0, 1) := by decide +kernel
theorem dX10_init_77 : decode cX10_init 77 = .ok (.new 37, 3) := by decide +kernel
theorem dX10_init_80 : decode cX10_init 80 = .ok (.dup, 1) := by decide +kernel
theorem dX10_init_81 : decode cX10_init 81 = .ok (.invokespecial 39, 3) := by decide +kernel
theorem dX10_init_84 : decode cX10_init 84 = .ok (.aastore, 1) := by decide +kernel
theorem dX10_init_85 : decode cX10_init 85 = .ok (.dup, 1) := by decide +kernel
theorem dX10_init_86 : decode cX10_init 86 = .ok (.iconst 1, 1) := by decide +kernel
theorem dX10_init_87 : decode cX10_init 87 = .ok (.new 37, 3) := by decide +kernel
theorem dX10_init_90 : decode cX10_init 90 = .ok (.dup, 1) := by decide +kernel
theorem dX10_init_91 : decode cX10_init 91 = .ok (.invokespecial 39, 3) := by decide +kernel
theorem dX10_init_94 : decode cX10_init 94 = .ok (.aastore, 1) := by decide +kernel
theorem dX10_init_95 : decode cX10_init 95 = .ok (.putfield 51, 3) := by decide +kernel
theorem dX10_init_98 : decode cX10_init 98 = .ok (.aload_n 0, 1) := by decide +kernel
theorem dX10_init_99 : decode cX10_init 99 = .ok (.iconst 2, 1) := by decide +kernel
theorem dX10_init_100 : decode cX10_init 100 = .ok (.newarray .boolean, 2) := by decide +kernel
theorem dX10_init_102 : decode cX10_init 102 = .ok (.putfield 55, 3) := by decide +kernel
theorem dX10_init_105 : decode cX10_init 105 = .ok (.aload_n 0, 1) := by decide +kernel
theorem dX10_init_106 : decode cX10_init 106 = .ok (.new 59, 3) := by decide +kernel
theorem dX10_init_109 : decode cX10_init 109 = .ok (.dup, 1) := by decide +kernel
theorem dX10_init_110 : decode cX10_init 110 = .ok (.invokespecial 61, 3) := by decide +kernel
theorem dX10_init_113 : decode cX10_init 113 = .ok (.putfield 62, 3) := by decide +kernel
theorem dX10_init_116 : decode cX10_init 116 = .ok (.aload_n 0, 1) := by decide +kernel
theorem dX10_init_117 : decode cX10_init 117 = .ok (.new 66, 3) := by decide +kernel
theorem dX10_init_120 : decode cX10_init 120 = .ok (.dup, 1) := by decide +kernel
theorem dX10_init_121 : decode cX10_init 121 = .ok (.invokespecial 68, 3) := by decide +kernel
theorem dX10_init_124 : decode cX10_init 124 = .ok (.putfield 69, 3) := by decide +kernel
theorem dX10_init_127 : decode cX10_init 127 = .ok (.aload_n 0, 1) := by decide +kernel
theorem dX10_init_128 : decode cX10_init 128 = .ok (.bipush 21, 2) := by decide +kernel
theorem dX10_init_130 : decode cX10_init 130 = .ok (.newarray .int, 2) := by decide +kernel
theorem dX10_init_132 : decode cX10_init 132 = .ok (.putfield 73, 3) := by decide +kernel
theorem dX10_init_135 : decode cX10_init 135 = .ok (.aload_n 0, 1) := by decide +kernel
theorem dX10_init_136 : decode cX10_init 136 = .ok (.bipush 10, 2) := by decide +kernel
theorem dX10_init_138 : decode cX10_init 138 = .ok (.newarray .int, 2) := by decide +kernel
theorem dX10_init_140 : decode cX10_init 140 = .ok (.putfield 77, 3) := by decide +kernel
theorem dX10_init_143 : decode cX10_init 143 = .ok (.aload_n 0, 1) := by decide +kernel
theorem dX10_init_144 : decode cX10_init 144 = .ok (.bipush 10, 2) := by decide +kernel
theorem dX10_init_146 : decode cX10_init 146 = .ok (.newarray .int, 2) := by decide +kernel
theorem dX10_init_148 : decode cX10_init 148 = .ok (.putfield 80, 3) := by decide +kernel
theorem dX10_init_151 : decode cX10_init 151 = .ok (.aload_n 0, 1) := by decide +kernel
theorem dX10_init_152 : decode cX10_init 152 = .ok (.iconst 5, 1) := by decide +kernel
theorem dX10_init_153 : decode cX10_init 153 = .ok (.newarray .int, 2) := by decide +kernel
theorem dX10_init_155 : decode cX10_init 155 = .ok (.putfield 83, 3) := by decide +kernel
theorem dX10_init_158 : decode cX10_init 158 = .ok (.aload_n 0, 1) := by decide +kernel
theorem dX10_init_159 : decode cX10_init 159 = .ok (.iconst 4, 1) := by decide +kernel
theorem dX10_init_160 : decode cX10_init 160 = .ok (.newarray .int, 2) := by decide +kernel
theorem dX10_init_162 : decode cX10_init 162 = .ok (.putfield 86, 3) := by decide +kernel
theorem dX10_init_165 : decode cX10_init 165 = .ok (.aload_n 0, 1) := by decide +kernel
theorem dX10_init_166 : decode cX10_init 166 = .ok (.new 89, 3) := by decide +kernel
theorem dX10_init_169 : decode cX10_init 169 = .ok (.dup, 1) := by decide +kernel
theorem dX10_init_170 : decode cX10_init 170 = .ok (.invokespecial 91, 3) := by decide +kernel
theorem dX10_init_173 : decode cX10_init 173 = .ok (.putfield 92, 3) := by decide +kernel
theorem dX10_init_176 : decode cX10_init 176 = .ok (.aload_n 0, 1) := by decide +kernel
theorem dX10_init_177 : decode cX10_init 177 = .ok (.new 89, 3) := by decide +kernel
theorem dX10_init_180 : decode cX10_init 180 = .ok (.dup, 1) := by decide +kernel
theorem dX10_init_181 : decode cX10_init 181 = .ok (.invokespecial 91, 3) := by decide +kernel
theorem dX10_init_184 : decode cX10_init 184 = .ok (.putfield 96, 3) := by decide +kernel
theorem dX10_init_187 : decode cX10_init 187 = .ok (.aload_n 0, 1) := by decide +kernel
theorem dX10_init_188 : decode cX10_init 188 = .ok (.iconst 1, 1) := by decide +kernel
theorem dX10_init_189 : decode cX10_init 189 = .ok (.putfield 99, 3) := by decide +kernel
theorem dX10_init_192 : decode cX10_init 192 = .ok (.aload_n 0, 1) := by decide +kernel
theorem dX10_init_193 : decode cX10_init 193 = .ok (.iconst 0, 1) := by decide +kernel
theorem dX10_init_194 : decode cX10_init 194 = .ok (.putfield 103, 3) := by decide +kernel
theorem dX10_init_197 : decode cX10_init 197 = .ok (.aload_n 0, 1) := by decide +kernel
theorem dX10_init_198 : decode cX10_init 198 = .ok (.iconst 0, 1) := by decide +kernel
theorem dX10_init_199 : decode cX10_init 199 = .ok (.putfield 106, 3) := by decide +kernel
theorem dX10_init_202 : decode cX10_init 202 = .ok (.return_, 1) := by decide +kernel
theorem dX10_sign_0 : decode cX10_sign 0 = .ok (.aload_n 0, 1) := by decide +kernel
theorem dX10_sign_1 : decode cX10_sign 1 = .ok (.getfield 10, 3) := by decide +kernel
theorem dX10_sign_4 : decode cX10_sign 4 = .ok (.iload_n 1, 1) := by decide +kernel
theorem dX10_sign_5 : decode cX10_sign 5 = .ok (.invokevirtual 109, 3) := by decide +kernel
theorem dX10_sign_8 : decode cX10_sign 8 = .ok (.ifCond .eq 13, 3) := by decide +kernel
theorem dX10_sign_11 : decode cX10_sign 11 = .ok (.aload_n 0, 1) := by decide +kernel
theorem dX10_sign_12 : decode cX10_sign 12 = .ok (.getfield 10, 3) := by decide +kernel
theorem dX10_sign_15 : decode cX10_sign 15 = .ok (.getfield 113, 3) := by decide +kernel
theorem dX10_sign_18 : decode cX10_sign 18 = .ok (.goto 4, 3) := by decide +kernel
theorem dX10_sign_21 : decode cX10_sign 21 = .ok (.iconst (-1), 1) := by decide +kernel
theorem dX10_sign_22 : decode cX10_sign 22 = .ok (.ireturn, 1) := by decide +kernel
theorem dX10_end_0 : decode cX10_end 0 = .ok (.iload_n 1, 1) := by decide +kernel
theorem dX10_end_1 : decode cX10_end 1 = .ok (.ifCond .lt 14, 3) := by decide +kernel
theorem dX10_end_4 : decode cX10_end 4 = .ok (.iload_n 1, 1) := by decide +kernel
theorem dX10_end_5 : decode cX10_end 5 = .ok (.aload_n 0, 1) := by decide +kernel
theorem dX10_end_6 : decode cX10_end 6 = .ok (.getfield 10, 3) := by decide +kernel
theorem dX10_end_9 : decode cX10_end 9 = .ok (.getfield 113, 3) := by decide +kernel
theorem dX10_end_12 : decode cX10_end 12 = .ok (.if_icmp .le 5, 3) := by decide +kernel
theorem dX10_end_15 : decode cX10_end 15 = .ok (.iconst 0, 1) := by decide +kernel
theorem dX10_end_16 : decode cX10_end 16 = .ok (.ireturn, 1) := by decide +kernel
theorem dX10_end_17 : decode cX10_end 17 = .ok (.aload_n 0, 1) := by decide +kernel
theorem dX10_end_18 : decode cX10_end 18 = .ok (.getfield 10, 3) := by decide +kernel
theorem dX10_end_21 : decode cX10_end 21 = .ok (.iload_n 1, 1) := by decide +kernel
theorem dX10_end_22 : decode cX10_end 22 = .ok (.putfield 113, 3) := by decide +kernel
theorem dX10_end_25 : decode cX10_end 25 = .ok (.iconst 1, 1) := by decide +kernel
theorem dX10_end_26 : decode cX10_end 26 = .ok (.ireturn, 1) := by decide +kernel
theorem dX10_road_0 : decode cX10_road 0 = .ok (.iload_n 1, 1) := by decide +kernel
theorem dX10_road_1 : decode cX10_road 1 = .ok (.aload_n 0, 1) := by decide +kernel
theorem dX10_road_2 : decode cX10_road 2 = .ok (.invokevirtual 116, 3) := by decide +kernel
theorem dX10_road_5 : decode cX10_road 5 = .ok (.if_icmp .lt 9, 3) := by decide +kernel
theorem dX10_road_8 : decode cX10_road 8 = .ok (.iload_n 1, 1) := by decide +kernel
theorem dX10_road_9 : decode cX10_road 9 = .ok (.bipush 6, 2) := by decide +kernel
theorem dX10_road_11 : decode cX10_road 11 = .ok (.if_icmp .le 5, 3) := by decide +kernel
theorem dX10_road_14 : decode cX10_road 14 = .ok (.iconst (-1), 1) := by decide +kernel
theorem dX10_road_15 : decode cX10_road 15 = .ok (.ireturn, 1) := by decide +kernel
theorem dX10_road_16 : decode cX10_road 16 = .ok (.aload_n 0, 1) := by decide +kernel
theorem dX10_road_17 : decode cX10_road 17 = .ok (.getfield 99, 3) := by decide +kernel
theorem dX10_road_20 : decode cX10_road 20 = .ok (.istore_n 2, 1) := by decide +kernel
theorem dX10_road_21 : decode cX10_road 21 = .ok (.aload_n 0, 1) := by decide +kernel
theorem dX10_road_22 : decode cX10_road 22 = .ok (.getfield 40, 3) := by decide +kernel
theorem dX10_road_25 : decode cX10_road 25 = .ok (.iload_n 1, 1) := by decide +kernel
theorem dX10_road_26 : decode cX10_road 26 = .ok (.invokevirtual 120, 3) := by decide +kernel
theorem dX10_road_29 : decode cX10_road 29 = .ok (.aload_n 0, 1) := by decide +kernel
theorem dX10_road_30 : decode cX10_road 30 = .ok (.iload_n 1, 1) := by decide +kernel
theorem dX10_road_31 : decode cX10_road 31 = .ok (.putfield 99, 3) := by decide +kernel
theorem dX10_road_34 : decode cX10_road 34 = .ok (.aload_n 0, 1) := by decide +kernel
theorem dX10_road_35 : decode cX10_road 35 = .ok (.invokevirtual 124, 3) := by decide +kernel
theorem dX10_road_38 : decode cX10_road 38 = .ok (.iload_n 2, 1) := by decide +kernel
theorem dX10_road_39 : decode cX10_road 39 = .ok (.ireturn, 1) := by decide +kernel
theorem dX10_words_0 : decode cX10_words 0 = .ok (.aload_n 0, 1) := by decide +kernel
theorem dX10_words_1 : decode cX10_words 1 = .ok (.iconst 0, 1) := by decide +kernel
theorem dX10_words_2 : decode cX10_words 2 = .ok (.bipush 76, 2) := by decide +kernel
theorem dX10_words_4 : decode cX10_words 4 = .ok (.aload_n 0, 1) := by decide +kernel
theorem dX10_words_5 : decode cX10_words 5 = .ok (.getfield 26, 3) := by decide +kernel
theorem dX10_words_8 : decode cX10_words 8 = .ok (.getfield 127, 3) := by decide +kernel
theorem dX10_words_11 : decode cX10_words 11 = .ok (.bipush 10, 2) := by decide +kernel
theorem dX10_words_13 : decode cX10_words 13 = .ok (.invokevirtual 128, 3) := by decide +kernel
theorem dX10_words_16 : decode cX10_words 16 = .ok (.istore_n 1, 1) := by decide +kernel
theorem dX10_words_17 : decode cX10_words 17 = .ok (.iload_n 1, 1) := by decide +kernel
theorem dX10_words_18 : decode cX10_words 18 = .ok (.ifCond .le 20, 3) := by decide +kernel
theorem dX10_words_21 : decode cX10_words 21 = .ok (.aload_n 0, 1) := by decide +kernel
theorem dX10_words_22 : decode cX10_words 22 = .ok (.getfield 26, 3) := by decide +kernel
theorem dX10_words_25 : decode cX10_words 25 = .ok (.dup, 1) := by decide +kernel
theorem dX10_words_26 : decode cX10_words 26 = .ok (.getfield 127, 3) := by decide +kernel
theorem dX10_words_29 : decode cX10_words 29 = .ok (.iload_n 1, 1) := by decide +kernel
theorem dX10_words_30 : decode cX10_words 30 = .ok (.iadd, 1) := by decide +kernel
theorem dX10_words_31 : decode cX10_words 31 = .ok (.putfield 127, 3) := by decide +kernel
theorem dX10_words_34 : decode cX10_words 34 = .ok (.aload_n 0, 1) := by decide +kernel
theorem dX10_words_35 : decode cX10_words 35 = .ok (.invokevirtual 124, 3) := by decide +kernel
theorem dX10_words_38 : decode cX10_words 38 = .ok (.iload_n 1, 1) := by decide +kernel
theorem dX10_words_39 : decode cX10_words 39 = .ok (.ireturn, 1) := by decide +kernel
theorem dX10_travellers_0 : decode cX10_travellers 0 = .ok (.aload_n 0, 1) := by decide +kernel
theorem dX10_travellers_1 : decode cX10_travellers 1 = .ok (.iconst 1, 1) := by decide +kernel
theorem dX10_travellers_2 : decode cX10_travellers 2 = .ok (.bipush 40, 2) := by decide +kernel
theorem dX10_travellers_4 : decode cX10_travellers 4 = .ok (.aload_n 0, 1) := by decide +kernel
theorem dX10_travellers_5 : decode cX10_travellers 5 = .ok (.getfield 103, 3) := by decide +kernel
theorem dX10_travellers_8 : decode cX10_travellers 8 = .ok (.iconst 4, 1) := by decide +kernel
theorem dX10_travellers_9 : decode cX10_travellers 9 = .ok (.invokevirtual 128, 3) := by decide +kernel
theorem dX10_travellers_12 : decode cX10_travellers 12 = .ok (.istore_n 1, 1) := by decide +kernel
theorem dX10_travellers_13 : decode cX10_travellers 13 = .ok (.iload_n 1, 1) := by decide +kernel
theorem dX10_travellers_14 : decode cX10_travellers 14 = .ok (.ifCond .le 17, 3) := by decide +kernel
theorem dX10_travellers_17 : decode cX10_travellers 17 = .ok (.aload_n 0, 1) := by decide +kernel
theorem dX10_travellers_18 : decode cX10_travellers 18 = .ok (.dup, 1) := by decide +kernel
theorem dX10_travellers_19 : decode cX10_travellers 19 = .ok (.getfield 103, 3) := by decide +kernel
theorem dX10_travellers_22 : decode cX10_travellers 22 = .ok (.iload_n 1, 1) := by decide +kernel
theorem dX10_travellers_23 : decode cX10_travellers 23 = .ok (.iadd, 1) := by decide +kernel
theorem dX10_travellers_24 : decode cX10_travellers 24 = .ok (.putfield 103, 3) := by decide +kernel
theorem dX10_travellers_27 : decode cX10_travellers 27 = .ok (.aload_n 0, 1) := by decide +kernel
theorem dX10_travellers_28 : decode cX10_travellers 28 = .ok (.invokevirtual 124, 3) := by decide +kernel
theorem dX10_travellers_31 : decode cX10_travellers 31 = .ok (.iload_n 1, 1) := by decide +kernel
theorem dX10_travellers_32 : decode cX10_travellers 32 = .ok (.ireturn, 1) := by decide +kernel
theorem dX10_errands_0 : decode cX10_errands 0 = .ok (.aload_n 0, 1) := by decide +kernel
theorem dX10_errands_1 : decode cX10_errands 1 = .ok (.iconst 2, 1) := by decide +kernel
theorem dX10_errands_2 : decode cX10_errands 2 = .ok (.bipush 76, 2) := by decide +kernel
theorem dX10_errands_4 : decode cX10_errands 4 = .ok (.aload_n 0, 1) := by decide +kernel
theorem dX10_errands_5 : decode cX10_errands 5 = .ok (.getfield 33, 3) := by decide +kernel
theorem dX10_errands_8 : decode cX10_errands 8 = .ok (.getfield 132, 3) := by decide +kernel
theorem dX10_errands_11 : decode cX10_errands 11 = .ok (.bipush 8, 2) := by decide +kernel
theorem dX10_errands_13 : decode cX10_errands 13 = .ok (.invokevirtual 128, 3) := by decide +kernel
theorem dX10_errands_16 : decode cX10_errands 16 = .ok (.istore_n 1, 1) := by decide +kernel
theorem dX10_errands_17 : decode cX10_errands 17 = .ok (.iload_n 1, 1) := by decide +kernel
theorem dX10_errands_18 : decode cX10_errands 18 = .ok (.ifCond .le 20, 3) := by decide +kernel
theorem dX10_errands_21 : decode cX10_errands 21 = .ok (.aload_n 0, 1) := by decide +kernel
theorem dX10_errands_22 : decode cX10_errands 22 = .ok (.getfield 33, 3) := by decide +kernel
theorem dX10_errands_25 : decode cX10_errands 25 = .ok (.dup, 1) := by decide +kernel
theorem dX10_errands_26 : decode cX10_errands 26 = .ok (.getfield 132, 3) := by decide +kernel
theorem dX10_errands_29 : decode cX10_errands 29 = .ok (.iload_n 1, 1) := by decide +kernel
theorem dX10_errands_30 : decode cX10_errands 30 = .ok (.iadd, 1) := by decide +kernel
theorem dX10_errands_31 : decode cX10_errands 31 = .ok (.putfield 132, 3) := by decide +kernel
theorem dX10_errands_34 : decode cX10_errands 34 = .ok (.aload_n 0, 1) := by decide +kernel
theorem dX10_errands_35 : decode cX10_errands 35 = .ok (.invokevirtual 124, 3) := by decide +kernel
theorem dX10_errands_38 : decode cX10_errands 38 = .ok (.iload_n 1, 1) := by decide +kernel
theorem dX10_errands_39 : decode cX10_errands 39 = .ok (.ireturn, 1) := by decide +kernel
theorem dX10_rule_0 : decode cX10_rule 0 = .ok (.aload_n 0, 1) := by decide +kernel
theorem dX10_rule_1 : decode cX10_rule 1 = .ok (.invokevirtual 133, 3) := by decide +kernel
theorem dX10_rule_4 : decode cX10_rule 4 = .ok (.istore_n 1, 1) := by decide +kernel
theorem dX10_rule_5 : decode cX10_rule 5 = .ok (.iload_n 1, 1) := by decide +kernel
theorem dX10_rule_6 : decode cX10_rule 6 = .ok (.ifCond .ne 21, 3) := by decide +kernel
theorem dX10_rule_9 : decode cX10_rule 9 = .ok (.aload_n 0, 1) := by decide +kernel
theorem dX10_rule_10 : decode cX10_rule 10 = .ok (.getfield 92, 3) := by decide +kernel
theorem dX10_rule_13 : decode cX10_rule 13 = .ok (.astore_n 2, 1) := by decide +kernel
theorem dX10_rule_14 : decode cX10_rule 14 = .ok (.aload_n 0, 1) := by decide +kernel
theorem dX10_rule_15 : decode cX10_rule 15 = .ok (.aload_n 0, 1) := by decide +kernel
theorem dX10_rule_16 : decode cX10_rule 16 = .ok (.getfield 96, 3) := by decide +kernel
theorem dX10_rule_19 : decode cX10_rule 19 = .ok (.putfield 92, 3) := by decide +kernel
theorem dX10_rule_22 : decode cX10_rule 22 = .ok (.aload_n 0, 1) := by decide +kernel
theorem dX10_rule_23 : decode cX10_rule 23 = .ok (.aload_n 2, 1) := by decide +kernel
theorem dX10_rule_24 : decode cX10_rule 24 = .ok (.putfield 96, 3) := by decide +kernel
theorem dX10_rule_27 : decode cX10_rule 27 = .ok (.iload_n 1, 1) := by decide +kernel
theorem dX10_rule_28 : decode cX10_rule 28 = .ok (.ireturn, 1) := by decide +kernel
theorem dX10_word_0 : decode cX10_word 0 = .ok (.aload_n 0, 1) := by decide +kernel
theorem dX10_word_1 : decode cX10_word 1 = .ok (.iload_n 1, 1) := by decide +kernel
theorem dX10_word_2 : decode cX10_word 2 = .ok (.invokevirtual 136, 3) := by decide +kernel
theorem dX10_word_5 : decode cX10_word 5 = .ok (.ifCond .ne 11, 3) := by decide +kernel
theorem dX10_word_8 : decode cX10_word 8 = .ok (.new 139, 3) := by decide +kernel
theorem dX10_word_11 : decode cX10_word 11 = .ok (.dup, 1) := by decide +kernel
theorem dX10_word_12 : decode cX10_word 12 = .ok (.invokespecial 141, 3) := by decide +kernel
theorem dX10_word_15 : decode cX10_word 15 = .ok (.athrow, 1) := by decide +kernel
theorem dX10_word_16 : decode cX10_word 16 = .ok (.iload_n 2, 1) := by decide +kernel
theorem dX10_word_17 : decode cX10_word 17 = .ok (.tableswitch 102 0 8 #[51, 61, 70, 80, 90, 90, 90, 90, 90], 51) := by decide +kernel
theorem dX10_word_68 : decode cX10_word 68 = .ok (.aload_n 0, 1) := by decide +kernel
theorem dX10_word_69 : decode cX10_word 69 = .ok (.getfield 26, 3) := by decide +kernel
theorem dX10_word_72 : decode cX10_word 72 = .ok (.getfield 142, 3) := by decide +kernel
theorem dX10_word_75 : decode cX10_word 75 = .ok (.iload_n 1, 1) := by decide +kernel
theorem dX10_word_76 : decode cX10_word 76 = .ok (.iaload, 1) := by decide +kernel
theorem dX10_word_77 : decode cX10_word 77 = .ok (.ireturn, 1) := by decide +kernel
theorem dX10_word_78 : decode cX10_word 78 = .ok (.aload_n 0, 1) := by decide +kernel
theorem dX10_word_79 : decode cX10_word 79 = .ok (.getfield 26, 3) := by decide +kernel
theorem dX10_word_82 : decode cX10_word 82 = .ok (.iload_n 1, 1) := by decide +kernel
theorem dX10_word_83 : decode cX10_word 83 = .ok (.invokevirtual 145, 3) := by decide +kernel
theorem dX10_word_86 : decode cX10_word 86 = .ok (.ireturn, 1) := by decide +kernel
theorem dX10_word_87 : decode cX10_word 87 = .ok (.aload_n 0, 1) := by decide +kernel
theorem dX10_word_88 : decode cX10_word 88 = .ok (.getfield 26, 3) := by decide +kernel
theorem dX10_word_91 : decode cX10_word 91 = .ok (.getfield 149, 3) := by decide +kernel
theorem dX10_word_94 : decode cX10_word 94 = .ok (.iload_n 1, 1) := by decide +kernel
theorem dX10_word_95 : decode cX10_word 95 = .ok (.iaload, 1) := by decide +kernel
theorem dX10_word_96 : decode cX10_word 96 = .ok (.ireturn, 1) := by decide +kernel
theorem dX10_word_97 : decode cX10_word 97 = .ok (.aload_n 0, 1) := by decide +kernel
theorem dX10_word_98 : decode cX10_word 98 = .ok (.getfield 26, 3) := by decide +kernel
theorem dX10_word_101 : decode cX10_word 101 = .ok (.getfield 152, 3) := by decide +kernel
theorem dX10_word_104 : decode cX10_word 104 = .ok (.iload_n 1, 1) := by decide +kernel
theorem dX10_word_105 : decode cX10_word 105 = .ok (.iaload, 1) := by decide +kernel
theorem dX10_word_106 : decode cX10_word 106 = .ok (.ireturn, 1) := by decide +kernel
theorem dX10_word_107 : decode cX10_word 107 = .ok (.aload_n 0, 1) := by decide +kernel
theorem dX10_word_108 : decode cX10_word 108 = .ok (.getfield 26, 3) := by decide +kernel
theorem dX10_word_111 : decode cX10_word 111 = .ok (.iload_n 1, 1) := by decide +kernel
theorem dX10_word_112 : decode cX10_word 112 = .ok (.iload_n 2, 1) := by decide +kernel
theorem dX10_word_113 : decode cX10_word 113 = .ok (.iconst 4, 1) := by decide +kernel
theorem dX10_word_114 : decode cX10_word 114 = .ok (.isub, 1) := by decide +kernel
theorem dX10_word_115 : decode cX10_word 115 = .ok (.invokevirtual 155, 3) := by decide +kernel
theorem dX10_word_118 : decode cX10_word 118 = .ok (.ireturn, 1) := by decide +kernel
theorem dX10_word_119 : decode cX10_word 119 = .ok (.new 139, 3) := by decide +kernel
theorem dX10_word_122 : decode cX10_word 122 = .ok (.dup, 1) := by decide +kernel
theorem dX10_word_123 : decode cX10_word 123 = .ok (.invokespecial 141, 3) := by decide +kernel
theorem dX10_word_126 : decode cX10_word 126 = .ok (.athrow, 1) := by decide +kernel
theorem dX10_traveller_0 : decode cX10_traveller 0 = .ok (.aload_n 0, 1) := by decide +kernel
theorem dX10_traveller_1 : decode cX10_traveller 1 = .ok (.iload_n 1, 1) := by decide +kernel
theorem dX10_traveller_2 : decode cX10_traveller 2 = .ok (.invokevirtual 159, 3) := by decide +kernel
theorem dX10_traveller_5 : decode cX10_traveller 5 = .ok (.ifCond .ne 11, 3) := by decide +kernel
theorem dX10_traveller_8 : decode cX10_traveller 8 = .ok (.new 139, 3) := by decide +kernel
theorem dX10_traveller_11 : decode cX10_traveller 11 = .ok (.dup, 1) := by decide +kernel
theorem dX10_traveller_12 : decode cX10_traveller 12 = .ok (.invokespecial 141, 3) := by decide +kernel
theorem dX10_traveller_15 : decode cX10_traveller 15 = .ok (.athrow, 1) := by decide +kernel
theorem dX10_traveller_16 : decode cX10_traveller 16 = .ok (.iload_n 2, 1) := by decide +kernel
theorem dX10_traveller_17 : decode cX10_traveller 17 = .ok (.tableswitch 115 0 4 #[35, 45, 55, 65, 84], 35) := by decide +kernel
theorem dX10_traveller_52 : decode cX10_traveller 52 = .ok (.aload_n 0, 1) := by decide +kernel
theorem dX10_traveller_53 : decode cX10_traveller 53 = .ok (.getfield 40, 3) := by decide +kernel
theorem dX10_traveller_56 : decode cX10_traveller 56 = .ok (.getfield 162, 3) := by decide +kernel
theorem dX10_traveller_59 : decode cX10_traveller 59 = .ok (.iload_n 1, 1) := by decide +kernel
theorem dX10_traveller_60 : decode cX10_traveller 60 = .ok (.iaload, 1) := by decide +kernel
theorem dX10_traveller_61 : decode cX10_traveller 61 = .ok (.ireturn, 1) := by decide +kernel
theorem dX10_traveller_62 : decode cX10_traveller 62 = .ok (.aload_n 0, 1) := by decide +kernel
theorem dX10_traveller_63 : decode cX10_traveller 63 = .ok (.getfield 40, 3) := by decide +kernel
theorem dX10_traveller_66 : decode cX10_traveller 66 = .ok (.getfield 165, 3) := by decide +kernel
theorem dX10_traveller_69 : decode cX10_traveller 69 = .ok (.iload_n 1, 1) := by decide +kernel
theorem dX10_traveller_70 : decode cX10_traveller 70 = .ok (.iaload, 1) := by decide +kernel
theorem dX10_traveller_71 : decode cX10_traveller 71 = .ok (.ireturn, 1) := by decide +kernel
theorem dX10_traveller_72 : decode cX10_traveller 72 = .ok (.aload_n 0, 1) := by decide +kernel
theorem dX10_traveller_73 : decode cX10_traveller 73 = .ok (.getfield 40, 3) := by decide +kernel
theorem dX10_traveller_76 : decode cX10_traveller 76 = .ok (.getfield 168, 3) := by decide +kernel
theorem dX10_traveller_79 : decode cX10_traveller 79 = .ok (.iload_n 1, 1) := by decide +kernel
theorem dX10_traveller_80 : decode cX10_traveller 80 = .ok (.iaload, 1) := by decide +kernel
theorem dX10_traveller_81 : decode cX10_traveller 81 = .ok (.ireturn, 1) := by decide +kernel
theorem dX10_traveller_82 : decode cX10_traveller 82 = .ok (.aload_n 0, 1) := by decide +kernel
theorem dX10_traveller_83 : decode cX10_traveller 83 = .ok (.getfield 33, 3) := by decide +kernel
theorem dX10_traveller_86 : decode cX10_traveller 86 = .ok (.iload_n 1, 1) := by decide +kernel
theorem dX10_traveller_87 : decode cX10_traveller 87 = .ok (.invokevirtual 171, 3) := by decide +kernel
theorem dX10_traveller_90 : decode cX10_traveller 90 = .ok (.aload_n 0, 1) := by decide +kernel
theorem dX10_traveller_91 : decode cX10_traveller 91 = .ok (.getfield 40, 3) := by decide +kernel
theorem dX10_traveller_94 : decode cX10_traveller 94 = .ok (.getfield 174, 3) := by decide +kernel
theorem dX10_traveller_97 : decode cX10_traveller 97 = .ok (.iconst (-1), 1) := by decide +kernel
theorem dX10_traveller_98 : decode cX10_traveller 98 = .ok (.ixor, 1) := by decide +kernel
theorem dX10_traveller_99 : decode cX10_traveller 99 = .ok (.iand, 1) := by decide +kernel
theorem dX10_traveller_100 : decode cX10_traveller 100 = .ok (.ireturn, 1) := by decide +kernel
theorem dX10_traveller_101 : decode cX10_traveller 101 = .ok (.aload_n 0, 1) := by decide +kernel
theorem dX10_traveller_102 : decode cX10_traveller 102 = .ok (.getfield 33, 3) := by decide +kernel
theorem dX10_traveller_105 : decode cX10_traveller 105 = .ok (.aload_n 0, 1) := by decide +kernel
theorem dX10_traveller_106 : decode cX10_traveller 106 = .ok (.getfield 33, 3) := by decide +kernel
theorem dX10_traveller_109 : decode cX10_traveller 109 = .ok (.getfield 177, 3) := by decide +kernel
theorem dX10_traveller_112 : decode cX10_traveller 112 = .ok (.aload_n 0, 1) := by decide +kernel
theorem dX10_traveller_113 : decode cX10_traveller 113 = .ok (.getfield 33, 3) := by decide +kernel
theorem dX10_traveller_116 : decode cX10_traveller 116 = .ok (.iload_n 1, 1) := by decide +kernel
theorem dX10_traveller_117 : decode cX10_traveller 117 = .ok (.invokevirtual 171, 3) := by decide +kernel
theorem dX10_traveller_120 : decode cX10_traveller 120 = .ok (.aload_n 0, 1) := by decide +kernel
theorem dX10_traveller_121 : decode cX10_traveller 121 = .ok (.getfield 40, 3) := by decide +kernel
theorem dX10_traveller_124 : decode cX10_traveller 124 = .ok (.getfield 174, 3) := by decide +kernel
theorem dX10_traveller_127 : decode cX10_traveller 127 = .ok (.iand, 1) := by decide +kernel
theorem dX10_traveller_128 : decode cX10_traveller 128 = .ok (.invokevirtual 180, 3) := by decide +kernel
theorem dX10_traveller_131 : decode cX10_traveller 131 = .ok (.ireturn, 1) := by decide +kernel
theorem dX10_traveller_132 : decode cX10_traveller 132 = .ok (.new 139, 3) := by decide +kernel
theorem dX10_traveller_135 : decode cX10_traveller 135 = .ok (.dup, 1) := by decide +kernel
theorem dX10_traveller_136 : decode cX10_traveller 136 = .ok (.invokespecial 141, 3) := by decide +kernel
theorem dX10_traveller_139 : decode cX10_traveller 139 = .ok (.athrow, 1) := by decide +kernel
theorem dX10_errand_0 : decode cX10_errand 0 = .ok (.iload_n 1, 1) := by decide +kernel
theorem dX10_errand_1 : decode cX10_errand 1 = .ok (.ifCond .lt 14, 3) := by decide +kernel
theorem dX10_errand_4 : decode cX10_errand 4 = .ok (.iload_n 1, 1) := by decide +kernel
theorem dX10_errand_5 : decode cX10_errand 5 = .ok (.aload_n 0, 1) := by decide +kernel
theorem dX10_errand_6 : decode cX10_errand 6 = .ok (.getfield 33, 3) := by decide +kernel
theorem dX10_errand_9 : decode cX10_errand 9 = .ok (.getfield 132, 3) := by decide +kernel
theorem dX10_errand_12 : decode cX10_errand 12 = .ok (.if_icmp .lt 11, 3) := by decide +kernel
theorem dX10_errand_15 : decode cX10_errand 15 = .ok (.new 139, 3) := by decide +kernel
theorem dX10_errand_18 : decode cX10_errand 18 = .ok (.dup, 1) := by decide +kernel
theorem dX10_errand_19 : decode cX10_errand 19 = .ok (.invokespecial 141, 3) := by decide +kernel
theorem dX10_errand_22 : decode cX10_errand 22 = .ok (.athrow, 1) := by decide +kernel
theorem dX10_errand_23 : decode cX10_errand 23 = .ok (.iload_n 2, 1) := by decide +kernel
theorem dX10_errand_24 : decode cX10_errand 24 = .ok (.tableswitch 88 0 4 #[36, 46, 56, 66, 76], 36) := by decide +kernel
theorem dX10_errand_60 : decode cX10_errand 60 = .ok (.aload_n 0, 1) := by decide +kernel
theorem dX10_errand_61 : decode cX10_errand 61 = .ok (.getfield 33, 3) := by decide +kernel
theorem dX10_errand_64 : decode cX10_errand 64 = .ok (.getfield 184, 3) := by decide +kernel
theorem dX10_errand_67 : decode cX10_errand 67 = .ok (.iload_n 1, 1) := by decide +kernel
theorem dX10_errand_68 : decode cX10_errand 68 = .ok (.iaload, 1) := by decide +kernel
theorem dX10_errand_69 : decode cX10_errand 69 = .ok (.ireturn, 1) := by decide +kernel
theorem dX10_errand_70 : decode cX10_errand 70 = .ok (.aload_n 0, 1) := by decide +kernel
theorem dX10_errand_71 : decode cX10_errand 71 = .ok (.getfield 33, 3) := by decide +kernel
theorem dX10_errand_74 : decode cX10_errand 74 = .ok (.getfield 187, 3) := by decide +kernel
theorem dX10_errand_77 : decode cX10_errand 77 = .ok (.iload_n 1, 1) := by decide +kernel
theorem dX10_errand_78 : decode cX10_errand 78 = .ok (.iaload, 1) := by decide +kernel
theorem dX10_errand_79 : decode cX10_errand 79 = .ok (.ireturn, 1) := by decide +kernel
theorem dX10_errand_80 : decode cX10_errand 80 = .ok (.aload_n 0, 1) := by decide +kernel
theorem dX10_errand_81 : decode cX10_errand 81 = .ok (.getfield 33, 3) := by decide +kernel
theorem dX10_errand_84 : decode cX10_errand 84 = .ok (.getfield 190, 3) := by decide +kernel
theorem dX10_errand_87 : decode cX10_errand 87 = .ok (.iload_n 1, 1) := by decide +kernel
theorem dX10_errand_88 : decode cX10_errand 88 = .ok (.iaload, 1) := by decide +kernel
theorem dX10_errand_89 : decode cX10_errand 89 = .ok (.ireturn, 1) := by decide +kernel
theorem dX10_errand_90 : decode cX10_errand 90 = .ok (.aload_n 0, 1) := by decide +kernel
theorem dX10_errand_91 : decode cX10_errand 91 = .ok (.getfield 33, 3) := by decide +kernel
theorem dX10_errand_94 : decode cX10_errand 94 = .ok (.getfield 177, 3) := by decide +kernel
theorem dX10_errand_97 : decode cX10_errand 97 = .ok (.iload_n 1, 1) := by decide +kernel
theorem dX10_errand_98 : decode cX10_errand 98 = .ok (.iaload, 1) := by decide +kernel
theorem dX10_errand_99 : decode cX10_errand 99 = .ok (.ireturn, 1) := by decide +kernel
theorem dX10_errand_100 : decode cX10_errand 100 = .ok (.aload_n 0, 1) := by decide +kernel
theorem dX10_errand_101 : decode cX10_errand 101 = .ok (.getfield 40, 3) := by decide +kernel
theorem dX10_errand_104 : decode cX10_errand 104 = .ok (.getfield 174, 3) := by decide +kernel
theorem dX10_errand_107 : decode cX10_errand 107 = .ok (.iload_n 1, 1) := by decide +kernel
theorem dX10_errand_108 : decode cX10_errand 108 = .ok (.ishr, 1) := by decide +kernel
theorem dX10_errand_109 : decode cX10_errand 109 = .ok (.iconst 1, 1) := by decide +kernel
theorem dX10_errand_110 : decode cX10_errand 110 = .ok (.iand, 1) := by decide +kernel
theorem dX10_errand_111 : decode cX10_errand 111 = .ok (.ireturn, 1) := by decide +kernel
theorem dX10_errand_112 : decode cX10_errand 112 = .ok (.new 139, 3) := by decide +kernel
theorem dX10_errand_115 : decode cX10_errand 115 = .ok (.dup, 1) := by decide +kernel
theorem dX10_errand_116 : decode cX10_errand 116 = .ok (.invokespecial 141, 3) := by decide +kernel
theorem dX10_errand_119 : decode cX10_errand 119 = .ok (.athrow, 1) := by decide +kernel
theorem dX10_book_0 : decode cX10_book 0 = .ok (.aload_n 0, 1) := by decide +kernel
theorem dX10_book_1 : decode cX10_book 1 = .ok (.iload_n 1, 1) := by decide +kernel
theorem dX10_book_2 : decode cX10_book 2 = .ok (.invokevirtual 191, 3) := by decide +kernel
theorem dX10_book_5 : decode cX10_book 5 = .ok (.ifCond .eq 12, 3) := by decide +kernel
theorem dX10_book_8 : decode cX10_book 8 = .ok (.iload_n 2, 1) := by decide +kernel
theorem dX10_book_9 : decode cX10_book 9 = .ok (.ifCond .lt 8, 3) := by decide +kernel
theorem dX10_book_12 : decode cX10_book 12 = .ok (.iload_n 2, 1) := by decide +kernel
theorem dX10_book_13 : decode cX10_book 13 = .ok (.iconst 5, 1) := by decide +kernel
theorem dX10_book_14 : decode cX10_book 14 = .ok (.if_icmp .lt 11, 3) := by decide +kernel
theorem dX10_book_17 : decode cX10_book 17 = .ok (.new 139, 3) := by decide +kernel
theorem dX10_book_20 : decode cX10_book 20 = .ok (.dup, 1) := by decide +kernel
theorem dX10_book_21 : decode cX10_book 21 = .ok (.invokespecial 141, 3) := by decide +kernel
theorem dX10_book_24 : decode cX10_book 24 = .ok (.athrow, 1) := by decide +kernel
theorem dX10_book_25 : decode cX10_book 25 = .ok (.aload_n 0, 1) := by decide +kernel
theorem dX10_book_26 : decode cX10_book 26 = .ok (.getfield 40, 3) := by decide +kernel
theorem dX10_book_29 : decode cX10_book 29 = .ok (.getfield 194, 3) := by decide +kernel
theorem dX10_book_32 : decode cX10_book 32 = .ok (.iload_n 1, 1) := by decide +kernel
theorem dX10_book_33 : decode cX10_book 33 = .ok (.iconst 5, 1) := by decide +kernel
theorem dX10_book_34 : decode cX10_book 34 = .ok (.imul, 1) := by decide +kernel
theorem dX10_book_35 : decode cX10_book 35 = .ok (.iload_n 2, 1) := by decide +kernel
theorem dX10_book_36 : decode cX10_book 36 = .ok (.iadd, 1) := by decide +kernel
theorem dX10_book_37 : decode cX10_book 37 = .ok (.iaload, 1) := by decide +kernel
theorem dX10_book_38 : decode cX10_book 38 = .ok (.ireturn, 1) := by decide +kernel
theorem dX10_sheet_0 : decode cX10_sheet 0 = .ok (.iload_n 1, 1) := by decide +kernel
theorem dX10_sheet_1 : decode cX10_sheet 1 = .ok (.ifCond .lt 13, 3) := by decide +kernel
theorem dX10_sheet_4 : decode cX10_sheet 4 = .ok (.iload_n 1, 1) := by decide +kernel
theorem dX10_sheet_5 : decode cX10_sheet 5 = .ok (.iconst 3, 1) := by decide +kernel
theorem dX10_sheet_6 : decode cX10_sheet 6 = .ok (.if_icmp .gt 8, 3) := by decide +kernel
theorem dX10_sheet_9 : decode cX10_sheet 9 = .ok (.iload_n 2, 1) := by decide +kernel
theorem dX10_sheet_10 : decode cX10_sheet 10 = .ok (.iconst 4, 1) := by decide +kernel
theorem dX10_sheet_11 : decode cX10_sheet 11 = .ok (.if_icmp .le 5, 3) := by decide +kernel
theorem dX10_sheet_14 : decode cX10_sheet 14 = .ok (.iconst (-1), 1) := by decide +kernel
theorem dX10_sheet_15 : decode cX10_sheet 15 = .ok (.ireturn, 1) := by decide +kernel
theorem dX10_sheet_16 : decode cX10_sheet 16 = .ok (.iload_n 1, 1) := by decide +kernel
theorem dX10_sheet_17 : decode cX10_sheet 17 = .ok (.iconst 3, 1) := by decide +kernel
theorem dX10_sheet_18 : decode cX10_sheet 18 = .ok (.if_icmp .ne 7, 3) := by decide +kernel
theorem dX10_sheet_21 : decode cX10_sheet 21 = .ok (.iconst 1, 1) := by decide +kernel
theorem dX10_sheet_22 : decode cX10_sheet 22 = .ok (.goto 4, 3) := by decide +kernel
theorem dX10_sheet_25 : decode cX10_sheet 25 = .ok (.iconst 0, 1) := by decide +kernel
theorem dX10_sheet_26 : decode cX10_sheet 26 = .ok (.istore 5, 2) := by decide +kernel
theorem dX10_sheet_28 : decode cX10_sheet 28 = .ok (.iload 5, 2) := by decide +kernel
theorem dX10_sheet_30 : decode cX10_sheet 30 = .ok (.ifCond .ne 10, 3) := by decide +kernel
theorem dX10_sheet_33 : decode cX10_sheet 33 = .ok (.iload_n 2, 1) := by decide +kernel
theorem dX10_sheet_34 : decode cX10_sheet 34 = .ok (.ifCond .ge 6, 3) := by decide +kernel
theorem dX10_sheet_37 : decode cX10_sheet 37 = .ok (.bipush (-2), 2) := by decide +kernel
theorem dX10_sheet_39 : decode cX10_sheet 39 = .ok (.ireturn, 1) := by decide +kernel
theorem dX10_sheet_40 : decode cX10_sheet 40 = .ok (.iconst 0, 1) := by decide +kernel
theorem dX10_sheet_41 : decode cX10_sheet 41 = .ok (.istore 6, 2) := by decide +kernel
theorem dX10_sheet_43 : decode cX10_sheet 43 = .ok (.iload 6, 2) := by decide +kernel
theorem dX10_sheet_45 : decode cX10_sheet 45 = .ok (.aload_n 0, 1) := by decide +kernel
theorem dX10_sheet_46 : decode cX10_sheet 46 = .ok (.getfield 103, 3) := by decide +kernel
theorem dX10_sheet_49 : decode cX10_sheet 49 = .ok (.if_icmp .ge 51, 3) := by decide +kernel
theorem dX10_sheet_52 : decode cX10_sheet 52 = .ok (.aload_n 0, 1) := by decide +kernel
theorem dX10_sheet_53 : decode cX10_sheet 53 = .ok (.getfield 40, 3) := by decide +kernel
theorem dX10_sheet_56 : decode cX10_sheet 56 = .ok (.getfield 165, 3) := by decide +kernel
theorem dX10_sheet_59 : decode cX10_sheet 59 = .ok (.iload 6, 2) := by decide +kernel
theorem dX10_sheet_61 : decode cX10_sheet 61 = .ok (.iload 5, 2) := by decide +kernel
theorem dX10_sheet_63 : decode cX10_sheet 63 = .ok (.ifCond .ne 9, 3) := by decide +kernel
theorem dX10_sheet_66 : decode cX10_sheet 66 = .ok (.iload 6, 2) := by decide +kernel
theorem dX10_sheet_68 : decode cX10_sheet 68 = .ok (.iload_n 2, 1) := by decide +kernel
theorem dX10_sheet_69 : decode cX10_sheet 69 = .ok (.if_icmp .lt 7, 3) := by decide +kernel
theorem dX10_sheet_72 : decode cX10_sheet 72 = .ok (.iconst 0, 1) := by decide +kernel
theorem dX10_sheet_73 : decode cX10_sheet 73 = .ok (.goto 20, 3) := by decide +kernel
theorem dX10_sheet_76 : decode cX10_sheet 76 = .ok (.iload_n 1, 1) := by decide +kernel
theorem dX10_sheet_77 : decode cX10_sheet 77 = .ok (.iload_n 3, 1) := by decide +kernel
theorem dX10_sheet_78 : decode cX10_sheet 78 = .ok (.iload 6, 2) := by decide +kernel
theorem dX10_sheet_80 : decode cX10_sheet 80 = .ok (.iload 4, 2) := by decide +kernel
theorem dX10_sheet_82 : decode cX10_sheet 82 = .ok (.imul, 1) := by decide +kernel
theorem dX10_sheet_83 : decode cX10_sheet 83 = .ok (.iadd, 1) := by decide +kernel
theorem dX10_sheet_84 : decode cX10_sheet 84 = .ok (.invokestatic 197, 3) := by decide +kernel
theorem dX10_sheet_87 : decode cX10_sheet 87 = .ok (.sipush 9999, 3) := by decide +kernel
theorem dX10_sheet_90 : decode cX10_sheet 90 = .ok (.invokestatic 200, 3) := by decide +kernel
theorem dX10_sheet_93 : decode cX10_sheet 93 = .ok (.iastore, 1) := by decide +kernel
theorem dX10_sheet_94 : decode cX10_sheet 94 = .ok (.iinc 6 1, 3) := by decide +kernel
theorem dX10_sheet_97 : decode cX10_sheet 97 = .ok (.goto (-54), 3) := by decide +kernel
theorem dX10_sheet_100 : decode cX10_sheet 100 = .ok (.iload 5, 2) := by decide +kernel
theorem dX10_sheet_102 : decode cX10_sheet 102 = .ok (.ifCond .eq 8, 3) := by decide +kernel
theorem dX10_sheet_105 : decode cX10_sheet 105 = .ok (.bipush (-3), 2) := by decide +kernel
theorem dX10_sheet_107 : decode cX10_sheet 107 = .ok (.goto 7, 3) := by decide +kernel
theorem dX10_sheet_110 : decode cX10_sheet 110 = .ok (.aload_n 0, 1) := by decide +kernel
theorem dX10_sheet_111 : decode cX10_sheet 111 = .ok (.invokevirtual 203, 3) := by decide +kernel
theorem dX10_sheet_114 : decode cX10_sheet 114 = .ok (.ireturn, 1) := by decide +kernel
theorem dX10_toll_0 : decode cX10_toll 0 = .ok (.aload_n 0, 1) := by decide +kernel
theorem dX10_toll_1 : decode cX10_toll 1 = .ok (.iload_n 1, 1) := by decide +kernel
theorem dX10_toll_2 : decode cX10_toll 2 = .ok (.invokevirtual 136, 3) := by decide +kernel
theorem dX10_toll_5 : decode cX10_toll 5 = .ok (.ifCond .eq 11, 3) := by decide +kernel
theorem dX10_toll_8 : decode cX10_toll 8 = .ok (.aload_n 0, 1) := by decide +kernel
theorem dX10_toll_9 : decode cX10_toll 9 = .ok (.iload_n 2, 1) := by decide +kernel
theorem dX10_toll_10 : decode cX10_toll 10 = .ok (.invokevirtual 191, 3) := by decide +kernel
theorem dX10_toll_13 : decode cX10_toll 13 = .ok (.ifCond .ne 5, 3) := by decide +kernel
theorem dX10_toll_16 : decode cX10_toll 16 = .ok (.iconst (-1), 1) := by decide +kernel
theorem dX10_toll_17 : decode cX10_toll 17 = .ok (.ireturn, 1) := by decide +kernel
theorem dX10_toll_18 : decode cX10_toll 18 = .ok (.aload_n 0, 1) := by decide +kernel
theorem dX10_toll_19 : decode cX10_toll 19 = .ok (.getfield 92, 3) := by decide +kernel
theorem dX10_toll_22 : decode cX10_toll 22 = .ok (.aload_n 0, 1) := by decide +kernel
theorem dX10_toll_23 : decode cX10_toll 23 = .ok (.getfield 26, 3) := by decide +kernel
theorem dX10_toll_26 : decode cX10_toll 26 = .ok (.iload_n 1, 1) := by decide +kernel
theorem dX10_toll_27 : decode cX10_toll 27 = .ok (.iload_n 2, 1) := by decide +kernel
theorem dX10_toll_28 : decode cX10_toll 28 = .ok (.aload_n 0, 1) := by decide +kernel
theorem dX10_toll_29 : decode cX10_toll 29 = .ok (.getfield 40, 3) := by decide +kernel
theorem dX10_toll_32 : decode cX10_toll 32 = .ok (.getfield 206, 3) := by decide +kernel
theorem dX10_toll_35 : decode cX10_toll 35 = .ok (.invokevirtual 209, 3) := by decide +kernel
theorem dX10_toll_38 : decode cX10_toll 38 = .ok (.istore_n 3, 1) := by decide +kernel
theorem dX10_toll_39 : decode cX10_toll 39 = .ok (.aload_n 0, 1) := by decide +kernel
theorem dX10_toll_40 : decode cX10_toll 40 = .ok (.getfield 19, 3) := by decide +kernel
theorem dX10_toll_43 : decode cX10_toll 43 = .ok (.invokevirtual 213, 3) := by decide +kernel
theorem dX10_toll_46 : decode cX10_toll 46 = .ok (.iconst 0, 1) := by decide +kernel
theorem dX10_toll_47 : decode cX10_toll 47 = .ok (.istore 4, 2) := by decide +kernel
theorem dX10_toll_49 : decode cX10_toll 49 = .ok (.iload 4, 2) := by decide +kernel
theorem dX10_toll_51 : decode cX10_toll 51 = .ok (.iconst 5, 1) := by decide +kernel
theorem dX10_toll_52 : decode cX10_toll 52 = .ok (.if_icmp .ge 27, 3) := by decide +kernel
theorem dX10_toll_55 : decode cX10_toll 55 = .ok (.aload_n 0, 1) := by decide +kernel
theorem dX10_toll_56 : decode cX10_toll 56 = .ok (.getfield 19, 3) := by decide +kernel
theorem dX10_toll_59 : decode cX10_toll 59 = .ok (.aload_n 0, 1) := by decide +kernel
theorem dX10_toll_60 : decode cX10_toll 60 = .ok (.getfield 92, 3) := by decide +kernel
theorem dX10_toll_63 : decode cX10_toll 63 = .ok (.getfield 216, 3) := by decide +kernel
theorem dX10_toll_66 : decode cX10_toll 66 = .ok (.iload 4, 2) := by decide +kernel
theorem dX10_toll_68 : decode cX10_toll 68 = .ok (.iaload, 1) := by decide +kernel
theorem dX10_toll_69 : decode cX10_toll 69 = .ok (.i2l, 1) := by decide +kernel
theorem dX10_toll_70 : decode cX10_toll 70 = .ok (.invokevirtual 219, 3) := by decide +kernel
theorem dX10_toll_73 : decode cX10_toll 73 = .ok (.iinc 4 1, 3) := by decide +kernel
theorem dX10_toll_76 : decode cX10_toll 76 = .ok (.goto (-27), 3) := by decide +kernel
theorem dX10_toll_79 : decode cX10_toll 79 = .ok (.iload_n 3, 1) := by decide +kernel
theorem dX10_toll_80 : decode cX10_toll 80 = .ok (.ireturn, 1) := by decide +kernel
theorem dX10_walk_0 : decode cX10_walk 0 = .ok (.aload_n 0, 1) := by decide +kernel
theorem dX10_walk_1 : decode cX10_walk 1 = .ok (.getfield 47, 3) := by decide +kernel
theorem dX10_walk_4 : decode cX10_walk 4 = .ok (.aload_n 0, 1) := by decide +kernel
theorem dX10_walk_5 : decode cX10_walk 5 = .ok (.getfield 40, 3) := by decide +kernel
theorem dX10_walk_8 : decode cX10_walk 8 = .ok (.invokevirtual 223, 3) := by decide +kernel
theorem dX10_walk_11 : decode cX10_walk 11 = .ok (.aload_n 0, 1) := by decide +kernel
theorem dX10_walk_12 : decode cX10_walk 12 = .ok (.iload_n 1, 1) := by decide +kernel
theorem dX10_walk_13 : decode cX10_walk 13 = .ok (.iload_n 2, 1) := by decide +kernel
theorem dX10_walk_14 : decode cX10_walk 14 = .ok (.invokevirtual 227, 3) := by decide +kernel
theorem dX10_walk_17 : decode cX10_walk 17 = .ok (.istore_n 3, 1) := by decide +kernel
theorem dX10_walk_18 : decode cX10_walk 18 = .ok (.iload_n 3, 1) := by decide +kernel
theorem dX10_walk_19 : decode cX10_walk 19 = .ok (.ifCond .lt 10, 3) := by decide +kernel
theorem dX10_walk_22 : decode cX10_walk 22 = .ok (.aload_n 0, 1) := by decide +kernel
theorem dX10_walk_23 : decode cX10_walk 23 = .ok (.getfield 47, 3) := by decide +kernel
theorem dX10_walk_26 : decode cX10_walk 26 = .ok (.invokevirtual 230, 3) := by decide +kernel
theorem dX10_walk_29 : decode cX10_walk 29 = .ok (.iload_n 3, 1) := by decide +kernel
theorem dX10_walk_30 : decode cX10_walk 30 = .ok (.ireturn, 1) := by decide +kernel
theorem dX10_pause_0 : decode cX10_pause 0 = .ok (.iload_n 1, 1) := by decide +kernel
theorem dX10_pause_1 : decode cX10_pause 1 = .ok (.ifCond .lt 9, 3) := by decide +kernel
theorem dX10_pause_4 : decode cX10_pause 4 = .ok (.iload_n 1, 1) := by decide +kernel
theorem dX10_pause_5 : decode cX10_pause 5 = .ok (.bipush 99, 2) := by decide +kernel
theorem dX10_pause_7 : decode cX10_pause 7 = .ok (.if_icmp .le 5, 3) := by decide +kernel
theorem dX10_pause_10 : decode cX10_pause 10 = .ok (.iconst (-1), 1) := by decide +kernel
theorem dX10_pause_11 : decode cX10_pause 11 = .ok (.ireturn, 1) := by decide +kernel
theorem dX10_pause_12 : decode cX10_pause 12 = .ok (.iload_n 1, 1) := by decide +kernel
theorem dX10_pause_13 : decode cX10_pause 13 = .ok (.ifCond .le 21, 3) := by decide +kernel
theorem dX10_pause_16 : decode cX10_pause 16 = .ok (.aload_n 0, 1) := by decide +kernel
theorem dX10_pause_17 : decode cX10_pause 17 = .ok (.getfield 47, 3) := by decide +kernel
theorem dX10_pause_20 : decode cX10_pause 20 = .ok (.aload_n 0, 1) := by decide +kernel
theorem dX10_pause_21 : decode cX10_pause 21 = .ok (.getfield 40, 3) := by decide +kernel
theorem dX10_pause_24 : decode cX10_pause 24 = .ok (.invokevirtual 223, 3) := by decide +kernel
theorem dX10_pause_27 : decode cX10_pause 27 = .ok (.aload_n 0, 1) := by decide +kernel
theorem dX10_pause_28 : decode cX10_pause 28 = .ok (.getfield 47, 3) := by decide +kernel
theorem dX10_pause_31 : decode cX10_pause 31 = .ok (.invokevirtual 230, 3) := by decide +kernel
theorem dX10_pause_34 : decode cX10_pause 34 = .ok (.aload_n 0, 1) := by decide +kernel
theorem dX10_pause_35 : decode cX10_pause 35 = .ok (.getfield 40, 3) := by decide +kernel
theorem dX10_pause_38 : decode cX10_pause 38 = .ok (.dup, 1) := by decide +kernel
theorem dX10_pause_39 : decode cX10_pause 39 = .ok (.getfield 206, 3) := by decide +kernel
theorem dX10_pause_42 : decode cX10_pause 42 = .ok (.iload_n 1, 1) := by decide +kernel
theorem dX10_pause_43 : decode cX10_pause 43 = .ok (.iadd, 1) := by decide +kernel
theorem dX10_pause_44 : decode cX10_pause 44 = .ok (.putfield 206, 3) := by decide +kernel
theorem dX10_pause_47 : decode cX10_pause 47 = .ok (.aload_n 0, 1) := by decide +kernel
theorem dX10_pause_48 : decode cX10_pause 48 = .ok (.getfield 40, 3) := by decide +kernel
theorem dX10_pause_51 : decode cX10_pause 51 = .ok (.getfield 206, 3) := by decide +kernel
theorem dX10_pause_54 : decode cX10_pause 54 = .ok (.ireturn, 1) := by decide +kernel
theorem dX10_say_0 : decode cX10_say 0 = .ok (.aload_n 0, 1) := by decide +kernel
theorem dX10_say_1 : decode cX10_say 1 = .ok (.getfield 47, 3) := by decide +kernel
theorem dX10_say_4 : decode cX10_say 4 = .ok (.aload_n 0, 1) := by decide +kernel
theorem dX10_say_5 : decode cX10_say 5 = .ok (.getfield 40, 3) := by decide +kernel
theorem dX10_say_8 : decode cX10_say 8 = .ok (.invokevirtual 223, 3) := by decide +kernel
theorem dX10_say_11 : decode cX10_say 11 = .ok (.aload_n 0, 1) := by decide +kernel
theorem dX10_say_12 : decode cX10_say 12 = .ok (.iload_n 1, 1) := by decide +kernel
theorem dX10_say_13 : decode cX10_say 13 = .ok (.iload_n 2, 1) := by decide +kernel
theorem dX10_say_14 : decode cX10_say 14 = .ok (.invokevirtual 233, 3) := by decide +kernel
theorem dX10_say_17 : decode cX10_say 17 = .ok (.istore_n 3, 1) := by decide +kernel
theorem dX10_say_18 : decode cX10_say 18 = .ok (.iload_n 3, 1) := by decide +kernel
theorem dX10_say_19 : decode cX10_say 19 = .ok (.ifCond .lt 22, 3) := by decide +kernel
theorem dX10_say_22 : decode cX10_say 22 = .ok (.aload_n 0, 1) := by decide +kernel
theorem dX10_say_23 : decode cX10_say 23 = .ok (.getfield 47, 3) := by decide +kernel
theorem dX10_say_26 : decode cX10_say 26 = .ok (.invokevirtual 230, 3) := by decide +kernel
theorem dX10_say_29 : decode cX10_say 29 = .ok (.aload_n 0, 1) := by decide +kernel
theorem dX10_say_30 : decode cX10_say 30 = .ok (.getfield 19, 3) := by decide +kernel
theorem dX10_say_33 : decode cX10_say 33 = .ok (.aload_n 0, 1) := by decide +kernel
theorem dX10_say_34 : decode cX10_say 34 = .ok (.getfield 106, 3) := by decide +kernel
theorem dX10_say_37 : decode cX10_say 37 = .ok (.i2l, 1) := by decide +kernel
theorem dX10_say_38 : decode cX10_say 38 = .ok (.invokevirtual 236, 3) := by decide +kernel
theorem dX10_say_41 : decode cX10_say 41 = .ok (.iload_n 3, 1) := by decide +kernel
theorem dX10_say_42 : decode cX10_say 42 = .ok (.ireturn, 1) := by decide +kernel
theorem dX10_alms_0 : decode cX10_alms 0 = .ok (.aload_n 0, 1) := by decide +kernel
theorem dX10_alms_1 : decode cX10_alms 1 = .ok (.iload_n 1, 1) := by decide +kernel
theorem dX10_alms_2 : decode cX10_alms 2 = .ok (.invokevirtual 159, 3) := by decide +kernel
theorem dX10_alms_5 : decode cX10_alms 5 = .ok (.ifCond .eq 28, 3) := by decide +kernel
theorem dX10_alms_8 : decode cX10_alms 8 = .ok (.aload_n 0, 1) := by decide +kernel
theorem dX10_alms_9 : decode cX10_alms 9 = .ok (.iload_n 2, 1) := by decide +kernel
theorem dX10_alms_10 : decode cX10_alms 10 = .ok (.invokevirtual 159, 3) := by decide +kernel
theorem dX10_alms_13 : decode cX10_alms 13 = .ok (.ifCond .eq 20, 3) := by decide +kernel
theorem dX10_alms_16 : decode cX10_alms 16 = .ok (.iload_n 1, 1) := by decide +kernel
theorem dX10_alms_17 : decode cX10_alms 17 = .ok (.iload_n 2, 1) := by decide +kernel
theorem dX10_alms_18 : decode cX10_alms 18 = .ok (.if_icmp .eq 15, 3) := by decide +kernel
theorem dX10_alms_21 : decode cX10_alms 21 = .ok (.iload_n 3, 1) := by decide +kernel
theorem dX10_alms_22 : decode cX10_alms 22 = .ok (.iconst 1, 1) := by decide +kernel
theorem dX10_alms_23 : decode cX10_alms 23 = .ok (.if_icmp .lt 10, 3) := by decide +kernel
theorem dX10_alms_26 : decode cX10_alms 26 = .ok (.iload_n 3, 1) := by decide +kernel
theorem dX10_alms_27 : decode cX10_alms 27 = .ok (.sipush 9999, 3) := by decide +kernel
theorem dX10_alms_30 : decode cX10_alms 30 = .ok (.if_icmp .le 5, 3) := by decide +kernel
theorem dX10_alms_33 : decode cX10_alms 33 = .ok (.iconst (-1), 1) := by decide +kernel
theorem dX10_alms_34 : decode cX10_alms 34 = .ok (.ireturn, 1) := by decide +kernel
theorem dX10_alms_35 : decode cX10_alms 35 = .ok (.aload_n 0, 1) := by decide +kernel
theorem dX10_alms_36 : decode cX10_alms 36 = .ok (.getfield 40, 3) := by decide +kernel
theorem dX10_alms_39 : decode cX10_alms 39 = .ok (.getfield 162, 3) := by decide +kernel
theorem dX10_alms_42 : decode cX10_alms 42 = .ok (.iload_n 1, 1) := by decide +kernel
theorem dX10_alms_43 : decode cX10_alms 43 = .ok (.iaload, 1) := by decide +kernel
theorem dX10_alms_44 : decode cX10_alms 44 = .ok (.aload_n 0, 1) := by decide +kernel
theorem dX10_alms_45 : decode cX10_alms 45 = .ok (.getfield 40, 3) := by decide +kernel
theorem dX10_alms_48 : decode cX10_alms 48 = .ok (.getfield 162, 3) := by decide +kernel
theorem dX10_alms_51 : decode cX10_alms 51 = .ok (.iload_n 2, 1) := by decide +kernel
theorem dX10_alms_52 : decode cX10_alms 52 = .ok (.iaload, 1) := by decide +kernel
theorem dX10_alms_53 : decode cX10_alms 53 = .ok (.if_icmp .eq 6, 3) := by decide +kernel
theorem dX10_alms_56 : decode cX10_alms 56 = .ok (.bipush (-3), 2) := by decide +kernel
theorem dX10_alms_58 : decode cX10_alms 58 = .ok (.ireturn, 1) := by decide +kernel
theorem dX10_alms_59 : decode cX10_alms 59 = .ok (.aload_n 0, 1) := by decide +kernel
theorem dX10_alms_60 : decode cX10_alms 60 = .ok (.getfield 40, 3) := by decide +kernel
theorem dX10_alms_63 : decode cX10_alms 63 = .ok (.getfield 165, 3) := by decide +kernel
theorem dX10_alms_66 : decode cX10_alms 66 = .ok (.iload_n 1, 1) := by decide +kernel
theorem dX10_alms_67 : decode cX10_alms 67 = .ok (.iaload, 1) := by decide +kernel
theorem dX10_alms_68 : decode cX10_alms 68 = .ok (.iload_n 3, 1) := by decide +kernel
theorem dX10_alms_69 : decode cX10_alms 69 = .ok (.if_icmp .ge 6, 3) := by decide +kernel
theorem dX10_alms_72 : decode cX10_alms 72 = .ok (.bipush (-2), 2) := by decide +kernel
theorem dX10_alms_74 : decode cX10_alms 74 = .ok (.ireturn, 1) := by decide +kernel
theorem dX10_alms_75 : decode cX10_alms 75 = .ok (.aload_n 0, 1) := by decide +kernel
theorem dX10_alms_76 : decode cX10_alms 76 = .ok (.getfield 47, 3) := by decide +kernel
theorem dX10_alms_79 : decode cX10_alms 79 = .ok (.aload_n 0, 1) := by decide +kernel
theorem dX10_alms_80 : decode cX10_alms 80 = .ok (.getfield 40, 3) := by decide +kernel
theorem dX10_alms_83 : decode cX10_alms 83 = .ok (.invokevirtual 223, 3) := by decide +kernel
theorem dX10_alms_86 : decode cX10_alms 86 = .ok (.aload_n 0, 1) := by decide +kernel
theorem dX10_alms_87 : decode cX10_alms 87 = .ok (.getfield 47, 3) := by decide +kernel
theorem dX10_alms_90 : decode cX10_alms 90 = .ok (.invokevirtual 230, 3) := by decide +kernel
theorem dX10_alms_93 : decode cX10_alms 93 = .ok (.aload_n 0, 1) := by decide +kernel
theorem dX10_alms_94 : decode cX10_alms 94 = .ok (.getfield 40, 3) := by decide +kernel
theorem dX10_alms_97 : decode cX10_alms 97 = .ok (.getfield 165, 3) := by decide +kernel
theorem dX10_alms_100 : decode cX10_alms 100 = .ok (.iload_n 1, 1) := by decide +kernel
theorem dX10_alms_101 : decode cX10_alms 101 = .ok (.dup2, 1) := by decide +kernel
theorem dX10_alms_102 : decode cX10_alms 102 = .ok (.iaload, 1) := by decide +kernel
theorem dX10_alms_103 : decode cX10_alms 103 = .ok (.iload_n 3, 1) := by decide +kernel
theorem dX10_alms_104 : decode cX10_alms 104 = .ok (.isub, 1) := by decide +kernel
theorem dX10_alms_105 : decode cX10_alms 105 = .ok (.iastore, 1) := by decide +kernel
theorem dX10_alms_106 : decode cX10_alms 106 = .ok (.aload_n 0, 1) := by decide +kernel
theorem dX10_alms_107 : decode cX10_alms 107 = .ok (.getfield 40, 3) := by decide +kernel
theorem dX10_alms_110 : decode cX10_alms 110 = .ok (.getfield 165, 3) := by decide +kernel
theorem dX10_alms_113 : decode cX10_alms 113 = .ok (.iload_n 2, 1) := by decide +kernel
theorem dX10_alms_114 : decode cX10_alms 114 = .ok (.aload_n 0, 1) := by decide +kernel
theorem dX10_alms_115 : decode cX10_alms 115 = .ok (.getfield 40, 3) := by decide +kernel
theorem dX10_alms_118 : decode cX10_alms 118 = .ok (.getfield 165, 3) := by decide +kernel
theorem dX10_alms_121 : decode cX10_alms 121 = .ok (.iload_n 2, 1) := by decide +kernel
theorem dX10_alms_122 : decode cX10_alms 122 = .ok (.iaload, 1) := by decide +kernel
theorem dX10_alms_123 : decode cX10_alms 123 = .ok (.iload_n 3, 1) := by decide +kernel
theorem dX10_alms_124 : decode cX10_alms 124 = .ok (.iadd, 1) := by decide +kernel
theorem dX10_alms_125 : decode cX10_alms 125 = .ok (.sipush 9999, 3) := by decide +kernel
theorem dX10_alms_128 : decode cX10_alms 128 = .ok (.invokestatic 200, 3) := by decide +kernel
theorem dX10_alms_131 : decode cX10_alms 131 = .ok (.iastore, 1) := by decide +kernel
theorem dX10_alms_132 : decode cX10_alms 132 = .ok (.aload_n 0, 1) := by decide +kernel
theorem dX10_alms_133 : decode cX10_alms 133 = .ok (.getfield 40, 3) := by decide +kernel
theorem dX10_alms_136 : decode cX10_alms 136 = .ok (.getfield 165, 3) := by decide +kernel
theorem dX10_alms_139 : decode cX10_alms 139 = .ok (.iload_n 2, 1) := by decide +kernel
theorem dX10_alms_140 : decode cX10_alms 140 = .ok (.iaload, 1) := by decide +kernel
theorem dX10_alms_141 : decode cX10_alms 141 = .ok (.ireturn, 1) := by decide +kernel
theorem dX10_journey_0 : decode cX10_journey 0 = .ok (.aload_n 0, 1) := by decide +kernel
theorem dX10_journey_1 : decode cX10_journey 1 = .ok (.iconst 3, 1) := by decide +kernel
theorem dX10_journey_2 : decode cX10_journey 2 = .ok (.bipush 60, 2) := by decide +kernel
theorem dX10_journey_4 : decode cX10_journey 4 = .ok (.iconst 0, 1) := by decide +kernel
theorem dX10_journey_5 : decode cX10_journey 5 = .ok (.bipush 21, 2) := by decide +kernel
theorem dX10_journey_7 : decode cX10_journey 7 = .ok (.invokevirtual 128, 3) := by decide +kernel
theorem dX10_journey_10 : decode cX10_journey 10 = .ok (.istore_n 1, 1) := by decide +kernel
theorem dX10_journey_11 : decode cX10_journey 11 = .ok (.iload_n 1, 1) := by decide +kernel
theorem dX10_journey_12 : decode cX10_journey 12 = .ok (.ifCond .ge 5, 3) := by decide +kernel
theorem dX10_journey_15 : decode cX10_journey 15 = .ok (.iload_n 1, 1) := by decide +kernel
theorem dX10_journey_16 : decode cX10_journey 16 = .ok (.ireturn, 1) := by decide +kernel
theorem dX10_journey_17 : decode cX10_journey 17 = .ok (.aload_n 0, 1) := by decide +kernel
theorem dX10_journey_18 : decode cX10_journey 18 = .ok (.getfield 47, 3) := by decide +kernel
theorem dX10_journey_21 : decode cX10_journey 21 = .ok (.aload_n 0, 1) := by decide +kernel
theorem dX10_journey_22 : decode cX10_journey 22 = .ok (.getfield 40, 3) := by decide +kernel
theorem dX10_journey_25 : decode cX10_journey 25 = .ok (.invokevirtual 223, 3) := by decide +kernel
theorem dX10_journey_28 : decode cX10_journey 28 = .ok (.iconst 0, 1) := by decide +kernel
theorem dX10_journey_29 : decode cX10_journey 29 = .ok (.istore_n 2, 1) := by decide +kernel
theorem dX10_journey_30 : decode cX10_journey 30 = .ok (.iconst 0, 1) := by decide +kernel
theorem dX10_journey_31 : decode cX10_journey 31 = .ok (.istore_n 3, 1) := by decide +kernel
theorem dX10_journey_32 : decode cX10_journey 32 = .ok (.iconst 0, 1) := by decide +kernel
theorem dX10_journey_33 : decode cX10_journey 33 = .ok (.istore 4, 2) := by decide +kernel
theorem dX10_journey_35 : decode cX10_journey 35 = .ok (.iload_n 3, 1) := by decide +kernel
theorem dX10_journey_36 : decode cX10_journey 36 = .ok (.iload_n 1, 1) := by decide +kernel
theorem dX10_journey_37 : decode cX10_journey 37 = .ok (.if_icmp .ge 42, 3) := by decide +kernel
theorem dX10_journey_40 : decode cX10_journey 40 = .ok (.iload 4, 2) := by decide +kernel
theorem dX10_journey_42 : decode cX10_journey 42 = .ok (.ifCond .ne 37, 3) := by decide +kernel
theorem dX10_journey_45 : decode cX10_journey 45 = .ok (.aload_n 0, 1) := by decide +kernel
theorem dX10_journey_46 : decode cX10_journey 46 = .ok (.aload_n 0, 1) := by decide +kernel
theorem dX10_journey_47 : decode cX10_journey 47 = .ok (.getfield 73, 3) := by decide +kernel
theorem dX10_journey_50 : decode cX10_journey 50 = .ok (.iload_n 3, 1) := by decide +kernel
theorem dX10_journey_51 : decode cX10_journey 51 = .ok (.iaload, 1) := by decide +kernel
theorem dX10_journey_52 : decode cX10_journey 52 = .ok (.invokevirtual 239, 3) := by decide +kernel
theorem dX10_journey_55 : decode cX10_journey 55 = .ok (.istore 5, 2) := by decide +kernel
theorem dX10_journey_57 : decode cX10_journey 57 = .ok (.iload 5, 2) := by decide +kernel
theorem dX10_journey_59 : decode cX10_journey 59 = .ok (.ifCond .ge 9, 3) := by decide +kernel
theorem dX10_journey_62 : decode cX10_journey 62 = .ok (.iconst 1, 1) := by decide +kernel
theorem dX10_journey_63 : decode cX10_journey 63 = .ok (.istore 4, 2) := by decide +kernel
theorem dX10_journey_65 : decode cX10_journey 65 = .ok (.goto 11, 3) := by decide +kernel
theorem dX10_journey_68 : decode cX10_journey 68 = .ok (.iload_n 2, 1) := by decide +kernel
theorem dX10_journey_69 : decode cX10_journey 69 = .ok (.iload 5, 2) := by decide +kernel
theorem dX10_journey_71 : decode cX10_journey 71 = .ok (.iadd, 1) := by decide +kernel
theorem dX10_journey_72 : decode cX10_journey 72 = .ok (.istore_n 2, 1) := by decide +kernel
theorem dX10_journey_73 : decode cX10_journey 73 = .ok (.iinc 3 1, 3) := by decide +kernel
theorem dX10_journey_76 : decode cX10_journey 76 = .ok (.goto (-41), 3) := by decide +kernel
theorem dX10_journey_79 : decode cX10_journey 79 = .ok (.iload_n 3, 1) := by decide +kernel
theorem dX10_journey_80 : decode cX10_journey 80 = .ok (.ifCond .le 10, 3) := by decide +kernel
theorem dX10_journey_83 : decode cX10_journey 83 = .ok (.aload_n 0, 1) := by decide +kernel
theorem dX10_journey_84 : decode cX10_journey 84 = .ok (.getfield 47, 3) := by decide +kernel
theorem dX10_journey_87 : decode cX10_journey 87 = .ok (.invokevirtual 230, 3) := by decide +kernel
theorem dX10_journey_90 : decode cX10_journey 90 = .ok (.aload_n 0, 1) := by decide +kernel
theorem dX10_journey_91 : decode cX10_journey 91 = .ok (.getfield 19, 3) := by decide +kernel
theorem dX10_journey_94 : decode cX10_journey 94 = .ok (.iload 4, 2) := by decide +kernel
theorem dX10_journey_96 : decode cX10_journey 96 = .ok (.ifCond .eq 7, 3) := by decide +kernel
theorem dX10_journey_99 : decode cX10_journey 99 = .ok (.lconst 1, 1) := by decide +kernel
theorem dX10_journey_100 : decode cX10_journey 100 = .ok (.goto 4, 3) := by decide +kernel
theorem dX10_journey_103 : decode cX10_journey 103 = .ok (.lconst 0, 1) := by decide +kernel
theorem dX10_journey_104 : decode cX10_journey 104 = .ok (.iload_n 2, 1) := by decide +kernel
theorem dX10_journey_105 : decode cX10_journey 105 = .ok (.i2l, 1) := by decide +kernel
theorem dX10_journey_106 : decode cX10_journey 106 = .ok (.invokevirtual 242, 3) := by decide +kernel
theorem dX10_journey_109 : decode cX10_journey 109 = .ok (.iload_n 3, 1) := by decide +kernel
theorem dX10_journey_110 : decode cX10_journey 110 = .ok (.ireturn, 1) := by decide +kernel
theorem dX10_undo_0 : decode cX10_undo 0 = .ok (.aload_n 0, 1) := by decide +kernel
theorem dX10_undo_1 : decode cX10_undo 1 = .ok (.getfield 47, 3) := by decide +kernel
theorem dX10_undo_4 : decode cX10_undo 4 = .ok (.aload_n 0, 1) := by decide +kernel
theorem dX10_undo_5 : decode cX10_undo 5 = .ok (.getfield 40, 3) := by decide +kernel
theorem dX10_undo_8 : decode cX10_undo 8 = .ok (.invokevirtual 245, 3) := by decide +kernel
theorem dX10_undo_11 : decode cX10_undo 11 = .ok (.ifCond .eq 13, 3) := by decide +kernel
theorem dX10_undo_14 : decode cX10_undo 14 = .ok (.aload_n 0, 1) := by decide +kernel
theorem dX10_undo_15 : decode cX10_undo 15 = .ok (.getfield 47, 3) := by decide +kernel
theorem dX10_undo_18 : decode cX10_undo 18 = .ok (.getfield 249, 3) := by decide +kernel
theorem dX10_undo_21 : decode cX10_undo 21 = .ok (.goto 4, 3) := by decide +kernel
theorem dX10_undo_24 : decode cX10_undo 24 = .ok (.iconst (-1), 1) := by decide +kernel
theorem dX10_undo_25 : decode cX10_undo 25 = .ok (.ireturn, 1) := by decide +kernel
theorem dX10_cheapest_0 : decode cX10_cheapest 0 = .ok (.iload_n 1, 1) := by decide +kernel
theorem dX10_cheapest_1 : decode cX10_cheapest 1 = .ok (.invokestatic 250, 3) := by decide +kernel
theorem dX10_cheapest_4 : decode cX10_cheapest 4 = .ok (.ifCond .eq 11, 3) := by decide +kernel
theorem dX10_cheapest_7 : decode cX10_cheapest 7 = .ok (.aload_n 0, 1) := by decide +kernel
theorem dX10_cheapest_8 : decode cX10_cheapest 8 = .ok (.iload_n 2, 1) := by decide +kernel
theorem dX10_cheapest_9 : decode cX10_cheapest 9 = .ok (.invokevirtual 191, 3) := by decide +kernel
theorem dX10_cheapest_12 : decode cX10_cheapest 12 = .ok (.ifCond .ne 5, 3) := by decide +kernel
theorem dX10_cheapest_15 : decode cX10_cheapest 15 = .ok (.iconst (-1), 1) := by decide +kernel
theorem dX10_cheapest_16 : decode cX10_cheapest 16 = .ok (.ireturn, 1) := by decide +kernel
theorem dX10_cheapest_17 : decode cX10_cheapest 17 = .ok (.aload_n 0, 1) := by decide +kernel
theorem dX10_cheapest_18 : decode cX10_cheapest 18 = .ok (.aload_n 0, 1) := by decide +kernel
theorem dX10_cheapest_19 : decode cX10_cheapest 19 = .ok (.getfield 92, 3) := by decide +kernel
theorem dX10_cheapest_22 : decode cX10_cheapest 22 = .ok (.iload_n 2, 1) := by decide +kernel
theorem dX10_cheapest_23 : decode cX10_cheapest 23 = .ok (.aload_n 0, 1) := by decide +kernel
theorem dX10_cheapest_24 : decode cX10_cheapest 24 = .ok (.getfield 77, 3) := by decide +kernel
theorem dX10_cheapest_27 : decode cX10_cheapest 27 = .ok (.invokevirtual 253, 3) := by decide +kernel
theorem dX10_cheapest_30 : decode cX10_cheapest 30 = .ok (.aload_n 0, 1) := by decide +kernel
theorem dX10_cheapest_31 : decode cX10_cheapest 31 = .ok (.iload_n 1, 1) := by decide +kernel
theorem dX10_cheapest_32 : decode cX10_cheapest 32 = .ok (.iconst 0, 1) := by decide +kernel
theorem dX10_cheapest_33 : decode cX10_cheapest 33 = .ok (.invokevirtual 257, 3) := by decide +kernel
theorem dX10_cheapest_36 : decode cX10_cheapest 36 = .ok (.istore_n 3, 1) := by decide +kernel
theorem dX10_cheapest_37 : decode cX10_cheapest 37 = .ok (.iload_n 3, 1) := by decide +kernel
theorem dX10_cheapest_38 : decode cX10_cheapest 38 = .ok (.iconst (-1), 1) := by decide +kernel
theorem dX10_cheapest_39 : decode cX10_cheapest 39 = .ok (.if_icmp .ne 6, 3) := by decide +kernel
theorem dX10_cheapest_42 : decode cX10_cheapest 42 = .ok (.bipush (-2), 2) := by decide +kernel
theorem dX10_cheapest_44 : decode cX10_cheapest 44 = .ok (.ireturn, 1) := by decide +kernel
theorem dX10_cheapest_45 : decode cX10_cheapest 45 = .ok (.aload_n 0, 1) := by decide +kernel
theorem dX10_cheapest_46 : decode cX10_cheapest 46 = .ok (.getfield 19, 3) := by decide +kernel
theorem dX10_cheapest_49 : decode cX10_cheapest 49 = .ok (.aload_n 0, 1) := by decide +kernel
theorem dX10_cheapest_50 : decode cX10_cheapest 50 = .ok (.getfield 77, 3) := by decide +kernel
theorem dX10_cheapest_53 : decode cX10_cheapest 53 = .ok (.iload_n 3, 1) := by decide +kernel
theorem dX10_cheapest_54 : decode cX10_cheapest 54 = .ok (.iaload, 1) := by decide +kernel
theorem dX10_cheapest_55 : decode cX10_cheapest 55 = .ok (.i2l, 1) := by decide +kernel
theorem dX10_cheapest_56 : decode cX10_cheapest 56 = .ok (.aload_n 0, 1) := by decide +kernel
theorem dX10_cheapest_57 : decode cX10_cheapest 57 = .ok (.getfield 26, 3) := by decide +kernel
theorem dX10_cheapest_60 : decode cX10_cheapest 60 = .ok (.iload_n 1, 1) := by decide +kernel
theorem dX10_cheapest_61 : decode cX10_cheapest 61 = .ok (.invokevirtual 260, 3) := by decide +kernel
theorem dX10_cheapest_64 : decode cX10_cheapest 64 = .ok (.i2l, 1) := by decide +kernel
theorem dX10_cheapest_65 : decode cX10_cheapest 65 = .ok (.invokevirtual 242, 3) := by decide +kernel
theorem dX10_cheapest_68 : decode cX10_cheapest 68 = .ok (.iload_n 3, 1) := by decide +kernel
theorem dX10_cheapest_69 : decode cX10_cheapest 69 = .ok (.ireturn, 1) := by decide +kernel
theorem dX10_sentence_0 : decode cX10_sentence 0 = .ok (.aload_n 0, 1) := by decide +kernel
theorem dX10_sentence_1 : decode cX10_sentence 1 = .ok (.getfield 10, 3) := by decide +kernel
theorem dX10_sentence_4 : decode cX10_sentence 4 = .ok (.bipush 12, 2) := by decide +kernel
theorem dX10_sentence_6 : decode cX10_sentence 6 = .ok (.invokevirtual 263, 3) := by decide +kernel
theorem dX10_sentence_9 : decode cX10_sentence 9 = .ok (.aload_n 0, 1) := by decide +kernel
theorem dX10_sentence_10 : decode cX10_sentence 10 = .ok (.iload_n 1, 1) := by decide +kernel
theorem dX10_sentence_11 : decode cX10_sentence 11 = .ok (.invokevirtual 191, 3) := by decide +kernel
theorem dX10_sentence_14 : decode cX10_sentence 14 = .ok (.ifCond .eq 13, 3) := by decide +kernel
theorem dX10_sentence_17 : decode cX10_sentence 17 = .ok (.aload_n 0, 1) := by decide +kernel
theorem dX10_sentence_18 : decode cX10_sentence 18 = .ok (.iconst 1, 1) := by decide +kernel
theorem dX10_sentence_19 : decode cX10_sentence 19 = .ok (.bipush 12, 2) := by decide +kernel
theorem dX10_sentence_21 : decode cX10_sentence 21 = .ok (.invokevirtual 266, 3) := by decide +kernel
theorem dX10_sentence_24 : decode cX10_sentence 24 = .ok (.goto 5, 3) := by decide +kernel
theorem dX10_sentence_27 : decode cX10_sentence 27 = .ok (.bipush (-100), 2) := by decide +kernel
theorem dX10_sentence_29 : decode cX10_sentence 29 = .ok (.istore_n 2, 1) := by decide +kernel
theorem dX10_sentence_30 : decode cX10_sentence 30 = .ok (.aload_n 0, 1) := by decide +kernel
theorem dX10_sentence_31 : decode cX10_sentence 31 = .ok (.getfield 10, 3) := by decide +kernel
theorem dX10_sentence_34 : decode cX10_sentence 34 = .ok (.getfield 113, 3) := by decide +kernel
theorem dX10_sentence_37 : decode cX10_sentence 37 = .ok (.istore_n 3, 1) := by decide +kernel
theorem dX10_sentence_38 : decode cX10_sentence 38 = .ok (.aload_n 0, 1) := by decide +kernel
theorem dX10_sentence_39 : decode cX10_sentence 39 = .ok (.getfield 10, 3) := by decide +kernel
theorem dX10_sentence_42 : decode cX10_sentence 42 = .ok (.iconst 0, 1) := by decide +kernel
theorem dX10_sentence_43 : decode cX10_sentence 43 = .ok (.putfield 113, 3) := by decide +kernel
theorem dX10_sentence_46 : decode cX10_sentence 46 = .ok (.iload_n 2, 1) := by decide +kernel
theorem dX10_sentence_47 : decode cX10_sentence 47 = .ok (.ifCond .ge 5, 3) := by decide +kernel
theorem dX10_sentence_50 : decode cX10_sentence 50 = .ok (.iload_n 2, 1) := by decide +kernel
theorem dX10_sentence_51 : decode cX10_sentence 51 = .ok (.ireturn, 1) := by decide +kernel
theorem dX10_sentence_52 : decode cX10_sentence 52 = .ok (.aload_n 0, 1) := by decide +kernel
theorem dX10_sentence_53 : decode cX10_sentence 53 = .ok (.aload_n 0, 1) := by decide +kernel
theorem dX10_sentence_54 : decode cX10_sentence 54 = .ok (.getfield 92, 3) := by decide +kernel
theorem dX10_sentence_57 : decode cX10_sentence 57 = .ok (.iload_n 1, 1) := by decide +kernel
theorem dX10_sentence_58 : decode cX10_sentence 58 = .ok (.aload_n 0, 1) := by decide +kernel
theorem dX10_sentence_59 : decode cX10_sentence 59 = .ok (.getfield 77, 3) := by decide +kernel
theorem dX10_sentence_62 : decode cX10_sentence 62 = .ok (.invokevirtual 253, 3) := by decide +kernel
theorem dX10_sentence_65 : decode cX10_sentence 65 = .ok (.aload_n 0, 1) := by decide +kernel
theorem dX10_sentence_66 : decode cX10_sentence 66 = .ok (.getfield 69, 3) := by decide +kernel
theorem dX10_sentence_69 : decode cX10_sentence 69 = .ok (.aload_n 0, 1) := by decide +kernel
theorem dX10_sentence_70 : decode cX10_sentence 70 = .ok (.getfield 26, 3) := by decide +kernel
theorem dX10_sentence_73 : decode cX10_sentence 73 = .ok (.aload_n 0, 1) := by decide +kernel
theorem dX10_sentence_74 : decode cX10_sentence 74 = .ok (.getfield 77, 3) := by decide +kernel
theorem dX10_sentence_77 : decode cX10_sentence 77 = .ok (.aload_n 0, 1) := by decide +kernel
theorem dX10_sentence_78 : decode cX10_sentence 78 = .ok (.getfield 10, 3) := by decide +kernel
theorem dX10_sentence_81 : decode cX10_sentence 81 = .ok (.getfield 269, 3) := by decide +kernel
theorem dX10_sentence_84 : decode cX10_sentence 84 = .ok (.iload_n 3, 1) := by decide +kernel
theorem dX10_sentence_85 : decode cX10_sentence 85 = .ok (.invokevirtual 272, 3) := by decide +kernel
theorem dX10_sentence_88 : decode cX10_sentence 88 = .ok (.istore 4, 2) := by decide +kernel
theorem dX10_sentence_90 : decode cX10_sentence 90 = .ok (.iload 4, 2) := by decide +kernel
theorem dX10_sentence_92 : decode cX10_sentence 92 = .ok (.ifCond .ge 7, 3) := by decide +kernel
theorem dX10_sentence_95 : decode cX10_sentence 95 = .ok (.sipush (-200), 3) := by decide +kernel
theorem dX10_sentence_98 : decode cX10_sentence 98 = .ok (.ireturn, 1) := by decide +kernel
theorem dX10_sentence_99 : decode cX10_sentence 99 = .ok (.aload_n 0, 1) := by decide +kernel
theorem dX10_sentence_100 : decode cX10_sentence 100 = .ok (.iload_n 3, 1) := by decide +kernel
theorem dX10_sentence_101 : decode cX10_sentence 101 = .ok (.invokevirtual 276, 3) := by decide +kernel
theorem dX10_sentence_104 : decode cX10_sentence 104 = .ok (.iload 4, 2) := by decide +kernel
theorem dX10_sentence_106 : decode cX10_sentence 106 = .ok (.ireturn, 1) := by decide +kernel
theorem dX10_when_0 : decode cX10_when 0 = .ok (.aload_n 0, 1) := by decide +kernel
theorem dX10_when_1 : decode cX10_when 1 = .ok (.iload_n 1, 1) := by decide +kernel
theorem dX10_when_2 : decode cX10_when 2 = .ok (.invokevirtual 136, 3) := by decide +kernel
theorem dX10_when_5 : decode cX10_when 5 = .ok (.ifCond .eq 11, 3) := by decide +kernel
theorem dX10_when_8 : decode cX10_when 8 = .ok (.aload_n 0, 1) := by decide +kernel
theorem dX10_when_9 : decode cX10_when 9 = .ok (.iload_n 2, 1) := by decide +kernel
theorem dX10_when_10 : decode cX10_when 10 = .ok (.invokevirtual 191, 3) := by decide +kernel
theorem dX10_when_13 : decode cX10_when 13 = .ok (.ifCond .ne 5, 3) := by decide +kernel
theorem dX10_when_16 : decode cX10_when 16 = .ok (.iconst (-1), 1) := by decide +kernel
theorem dX10_when_17 : decode cX10_when 17 = .ok (.ireturn, 1) := by decide +kernel
theorem dX10_when_18 : decode cX10_when 18 = .ok (.aload_n 0, 1) := by decide +kernel
theorem dX10_when_19 : decode cX10_when 19 = .ok (.getfield 92, 3) := by decide +kernel
theorem dX10_when_22 : decode cX10_when 22 = .ok (.aload_n 0, 1) := by decide +kernel
theorem dX10_when_23 : decode cX10_when 23 = .ok (.getfield 26, 3) := by decide +kernel
theorem dX10_when_26 : decode cX10_when 26 = .ok (.iload_n 1, 1) := by decide +kernel
theorem dX10_when_27 : decode cX10_when 27 = .ok (.iload_n 2, 1) := by decide +kernel
theorem dX10_when_28 : decode cX10_when 28 = .ok (.aload_n 0, 1) := by decide +kernel
theorem dX10_when_29 : decode cX10_when 29 = .ok (.getfield 40, 3) := by decide +kernel
theorem dX10_when_32 : decode cX10_when 32 = .ok (.getfield 206, 3) := by decide +kernel
theorem dX10_when_35 : decode cX10_when 35 = .ok (.invokevirtual 209, 3) := by decide +kernel
theorem dX10_when_38 : decode cX10_when 38 = .ok (.istore_n 3, 1) := by decide +kernel
theorem dX10_when_39 : decode cX10_when 39 = .ok (.iload_n 3, 1) := by decide +kernel
theorem dX10_when_40 : decode cX10_when 40 = .ok (.istore 4, 2) := by decide +kernel
theorem dX10_when_42 : decode cX10_when 42 = .ok (.iconst 0, 1) := by decide +kernel
theorem dX10_when_43 : decode cX10_when 43 = .ok (.istore 5, 2) := by decide +kernel
theorem dX10_when_45 : decode cX10_when 45 = .ok (.iconst 1, 1) := by decide +kernel
theorem dX10_when_46 : decode cX10_when 46 = .ok (.istore 6, 2) := by decide +kernel
theorem dX10_when_48 : decode cX10_when 48 = .ok (.iload 6, 2) := by decide +kernel
theorem dX10_when_50 : decode cX10_when 50 = .ok (.bipush 24, 2) := by decide +kernel
theorem dX10_when_52 : decode cX10_when 52 = .ok (.if_icmp .ge 49, 3) := by decide +kernel
theorem dX10_when_55 : decode cX10_when 55 = .ok (.aload_n 0, 1) := by decide +kernel
theorem dX10_when_56 : decode cX10_when 56 = .ok (.getfield 92, 3) := by decide +kernel
theorem dX10_when_59 : decode cX10_when 59 = .ok (.aload_n 0, 1) := by decide +kernel
theorem dX10_when_60 : decode cX10_when 60 = .ok (.getfield 26, 3) := by decide +kernel
theorem dX10_when_63 : decode cX10_when 63 = .ok (.iload_n 1, 1) := by decide +kernel
theorem dX10_when_64 : decode cX10_when 64 = .ok (.iload_n 2, 1) := by decide +kernel
theorem dX10_when_65 : decode cX10_when 65 = .ok (.aload_n 0, 1) := by decide +kernel
theorem dX10_when_66 : decode cX10_when 66 = .ok (.getfield 40, 3) := by decide +kernel
theorem dX10_when_69 : decode cX10_when 69 = .ok (.getfield 206, 3) := by decide +kernel
theorem dX10_when_72 : decode cX10_when 72 = .ok (.iload 6, 2) := by decide +kernel
theorem dX10_when_74 : decode cX10_when 74 = .ok (.iadd, 1) := by decide +kernel
theorem dX10_when_75 : decode cX10_when 75 = .ok (.invokevirtual 209, 3) := by decide +kernel
theorem dX10_when_78 : decode cX10_when 78 = .ok (.istore 7, 2) := by decide +kernel
theorem dX10_when_80 : decode cX10_when 80 = .ok (.iload 7, 2) := by decide +kernel
theorem dX10_when_82 : decode cX10_when 82 = .ok (.iload 4, 2) := by decide +kernel
theorem dX10_when_84 : decode cX10_when 84 = .ok (.if_icmp .ge 11, 3) := by decide +kernel
theorem dX10_when_87 : decode cX10_when 87 = .ok (.iload 7, 2) := by decide +kernel
theorem dX10_when_89 : decode cX10_when 89 = .ok (.istore 4, 2) := by decide +kernel
theorem dX10_when_91 : decode cX10_when 91 = .ok (.iload 6, 2) := by decide +kernel
theorem dX10_when_93 : decode cX10_when 93 = .ok (.istore 5, 2) := by decide +kernel
theorem dX10_when_95 : decode cX10_when 95 = .ok (.iinc 6 1, 3) := by decide +kernel
theorem dX10_when_98 : decode cX10_when 98 = .ok (.goto (-50), 3) := by decide +kernel
theorem dX10_when_101 : decode cX10_when 101 = .ok (.aload_n 0, 1) := by decide +kernel
theorem dX10_when_102 : decode cX10_when 102 = .ok (.getfield 19, 3) := by decide +kernel
theorem dX10_when_105 : decode cX10_when 105 = .ok (.iload 4, 2) := by decide +kernel
theorem dX10_when_107 : decode cX10_when 107 = .ok (.i2l, 1) := by decide +kernel
theorem dX10_when_108 : decode cX10_when 108 = .ok (.iload_n 3, 1) := by decide +kernel
theorem dX10_when_109 : decode cX10_when 109 = .ok (.i2l, 1) := by decide +kernel
theorem dX10_when_110 : decode cX10_when 110 = .ok (.invokevirtual 242, 3) := by decide +kernel
theorem dX10_when_113 : decode cX10_when 113 = .ok (.iload 5, 2) := by decide +kernel
theorem dX10_when_115 : decode cX10_when 115 = .ok (.ireturn, 1) := by decide +kernel
theorem dX10_shortest_0 : decode cX10_shortest 0 = .ok (.iload_n 1, 1) := by decide +kernel
theorem dX10_shortest_1 : decode cX10_shortest 1 = .ok (.invokestatic 250, 3) := by decide +kernel
theorem dX10_shortest_4 : decode cX10_shortest 4 = .ok (.ifCond .eq 22, 3) := by decide +kernel
theorem dX10_shortest_7 : decode cX10_shortest 7 = .ok (.aload_n 0, 1) := by decide +kernel
theorem dX10_shortest_8 : decode cX10_shortest 8 = .ok (.iload_n 2, 1) := by decide +kernel
theorem dX10_shortest_9 : decode cX10_shortest 9 = .ok (.invokevirtual 191, 3) := by decide +kernel
theorem dX10_shortest_12 : decode cX10_shortest 12 = .ok (.ifCond .eq 14, 3) := by decide +kernel
theorem dX10_shortest_15 : decode cX10_shortest 15 = .ok (.iload_n 3, 1) := by decide +kernel
theorem dX10_shortest_16 : decode cX10_shortest 16 = .ok (.ifCond .lt 10, 3) := by decide +kernel
theorem dX10_shortest_19 : decode cX10_shortest 19 = .ok (.iload_n 3, 1) := by decide +kernel
theorem dX10_shortest_20 : decode cX10_shortest 20 = .ok (.sipush 9999, 3) := by decide +kernel
theorem dX10_shortest_23 : decode cX10_shortest 23 = .ok (.if_icmp .le 5, 3) := by decide +kernel
theorem dX10_shortest_26 : decode cX10_shortest 26 = .ok (.iconst (-1), 1) := by decide +kernel
theorem dX10_shortest_27 : decode cX10_shortest 27 = .ok (.ireturn, 1) := by decide +kernel
theorem dX10_shortest_28 : decode cX10_shortest 28 = .ok (.aload_n 0, 1) := by decide +kernel
theorem dX10_shortest_29 : decode cX10_shortest 29 = .ok (.aload_n 0, 1) := by decide +kernel
theorem dX10_shortest_30 : decode cX10_shortest 30 = .ok (.getfield 92, 3) := by decide +kernel
theorem dX10_shortest_33 : decode cX10_shortest 33 = .ok (.iload_n 2, 1) := by decide +kernel
theorem dX10_shortest_34 : decode cX10_shortest 34 = .ok (.aload_n 0, 1) := by decide +kernel
theorem dX10_shortest_35 : decode cX10_shortest 35 = .ok (.getfield 77, 3) := by decide +kernel
theorem dX10_shortest_38 : decode cX10_shortest 38 = .ok (.invokevirtual 253, 3) := by decide +kernel
theorem dX10_shortest_41 : decode cX10_shortest 41 = .ok (.iconst (-1), 1) := by decide +kernel
theorem dX10_shortest_42 : decode cX10_shortest 42 = .ok (.istore 4, 2) := by decide +kernel
theorem dX10_shortest_44 : decode cX10_shortest 44 = .ok (.iconst 0, 1) := by decide +kernel
theorem dX10_shortest_45 : decode cX10_shortest 45 = .ok (.istore 5, 2) := by decide +kernel
theorem dX10_shortest_47 : decode cX10_shortest 47 = .ok (.iload 5, 2) := by decide +kernel
theorem dX10_shortest_49 : decode cX10_shortest 49 = .ok (.aload_n 0, 1) := by decide +kernel
theorem dX10_shortest_50 : decode cX10_shortest 50 = .ok (.getfield 26, 3) := by decide +kernel
theorem dX10_shortest_53 : decode cX10_shortest 53 = .ok (.getfield 127, 3) := by decide +kernel
theorem dX10_shortest_56 : decode cX10_shortest 56 = .ok (.if_icmp .ge 54, 3) := by decide +kernel
theorem dX10_shortest_59 : decode cX10_shortest 59 = .ok (.aload_n 0, 1) := by decide +kernel
theorem dX10_shortest_60 : decode cX10_shortest 60 = .ok (.getfield 26, 3) := by decide +kernel
theorem dX10_shortest_63 : decode cX10_shortest 63 = .ok (.iload 5, 2) := by decide +kernel
theorem dX10_shortest_65 : decode cX10_shortest 65 = .ok (.iload_n 1, 1) := by decide +kernel
theorem dX10_shortest_66 : decode cX10_shortest 66 = .ok (.invokevirtual 279, 3) := by decide +kernel
theorem dX10_shortest_69 : decode cX10_shortest 69 = .ok (.ifCond .eq 35, 3) := by decide +kernel
theorem dX10_shortest_72 : decode cX10_shortest 72 = .ok (.aload_n 0, 1) := by decide +kernel
theorem dX10_shortest_73 : decode cX10_shortest 73 = .ok (.getfield 77, 3) := by decide +kernel
theorem dX10_shortest_76 : decode cX10_shortest 76 = .ok (.iload 5, 2) := by decide +kernel
theorem dX10_shortest_78 : decode cX10_shortest 78 = .ok (.iaload, 1) := by decide +kernel
theorem dX10_shortest_79 : decode cX10_shortest 79 = .ok (.iload_n 3, 1) := by decide +kernel
theorem dX10_shortest_80 : decode cX10_shortest 80 = .ok (.if_icmp .gt 24, 3) := by decide +kernel
theorem dX10_shortest_83 : decode cX10_shortest 83 = .ok (.iload 4, 2) := by decide +kernel
theorem dX10_shortest_85 : decode cX10_shortest 85 = .ok (.iconst (-1), 1) := by decide +kernel
theorem dX10_shortest_86 : decode cX10_shortest 86 = .ok (.if_icmp .eq 14, 3) := by decide +kernel
theorem dX10_shortest_89 : decode cX10_shortest 89 = .ok (.aload_n 0, 1) := by decide +kernel
theorem dX10_shortest_90 : decode cX10_shortest 90 = .ok (.iload 5, 2) := by decide +kernel
theorem dX10_shortest_92 : decode cX10_shortest 92 = .ok (.iload 4, 2) := by decide +kernel
theorem dX10_shortest_94 : decode cX10_shortest 94 = .ok (.invokevirtual 283, 3) := by decide +kernel
theorem dX10_shortest_97 : decode cX10_shortest 97 = .ok (.ifCond .eq 7, 3) := by decide +kernel
theorem dX10_shortest_100 : decode cX10_shortest 100 = .ok (.iload 5, 2) := by decide +kernel
theorem dX10_shortest_102 : decode cX10_shortest 102 = .ok (.istore 4, 2) := by decide +kernel
theorem dX10_shortest_104 : decode cX10_shortest 104 = .ok (.iinc 5 1, 3) := by decide +kernel
theorem dX10_shortest_107 : decode cX10_shortest 107 = .ok (.goto (-60), 3) := by decide +kernel
theorem dX10_shortest_110 : decode cX10_shortest 110 = .ok (.iload 4, 2) := by decide +kernel
theorem dX10_shortest_112 : decode cX10_shortest 112 = .ok (.iconst (-1), 1) := by decide +kernel
theorem dX10_shortest_113 : decode cX10_shortest 113 = .ok (.if_icmp .ne 6, 3) := by decide +kernel
theorem dX10_shortest_116 : decode cX10_shortest 116 = .ok (.bipush (-2), 2) := by decide +kernel
theorem dX10_shortest_118 : decode cX10_shortest 118 = .ok (.ireturn, 1) := by decide +kernel
theorem dX10_shortest_119 : decode cX10_shortest 119 = .ok (.aload_n 0, 1) := by decide +kernel
theorem dX10_shortest_120 : decode cX10_shortest 120 = .ok (.getfield 19, 3) := by decide +kernel
theorem dX10_shortest_123 : decode cX10_shortest 123 = .ok (.aload_n 0, 1) := by decide +kernel
theorem dX10_shortest_124 : decode cX10_shortest 124 = .ok (.getfield 26, 3) := by decide +kernel
theorem dX10_shortest_127 : decode cX10_shortest 127 = .ok (.getfield 142, 3) := by decide +kernel
theorem dX10_shortest_130 : decode cX10_shortest 130 = .ok (.iload 4, 2) := by decide +kernel
theorem dX10_shortest_132 : decode cX10_shortest 132 = .ok (.iaload, 1) := by decide +kernel
theorem dX10_shortest_133 : decode cX10_shortest 133 = .ok (.i2l, 1) := by decide +kernel
theorem dX10_shortest_134 : decode cX10_shortest 134 = .ok (.aload_n 0, 1) := by decide +kernel
theorem dX10_shortest_135 : decode cX10_shortest 135 = .ok (.getfield 77, 3) := by decide +kernel
theorem dX10_shortest_138 : decode cX10_shortest 138 = .ok (.iload 4, 2) := by decide +kernel
theorem dX10_shortest_140 : decode cX10_shortest 140 = .ok (.iaload, 1) := by decide +kernel
theorem dX10_shortest_141 : decode cX10_shortest 141 = .ok (.i2l, 1) := by decide +kernel
theorem dX10_shortest_142 : decode cX10_shortest 142 = .ok (.invokevirtual 242, 3) := by decide +kernel
theorem dX10_shortest_145 : decode cX10_shortest 145 = .ok (.iload 4, 2) := by decide +kernel
theorem dX10_shortest_147 : decode cX10_shortest 147 = .ok (.ireturn, 1) := by decide +kernel
theorem dX10_differ_0 : decode cX10_differ 0 = .ok (.aload_n 0, 1) := by decide +kernel
theorem dX10_differ_1 : decode cX10_differ 1 = .ok (.iload_n 1, 1) := by decide +kernel
theorem dX10_differ_2 : decode cX10_differ 2 = .ok (.invokevirtual 136, 3) := by decide +kernel
theorem dX10_differ_5 : decode cX10_differ 5 = .ok (.ifCond .eq 11, 3) := by decide +kernel
theorem dX10_differ_8 : decode cX10_differ 8 = .ok (.aload_n 0, 1) := by decide +kernel
theorem dX10_differ_9 : decode cX10_differ 9 = .ok (.iload_n 2, 1) := by decide +kernel
theorem dX10_differ_10 : decode cX10_differ 10 = .ok (.invokevirtual 136, 3) := by decide +kernel
theorem dX10_differ_13 : decode cX10_differ 13 = .ok (.ifCond .ne 5, 3) := by decide +kernel
theorem dX10_differ_16 : decode cX10_differ 16 = .ok (.iconst (-1), 1) := by decide +kernel
theorem dX10_differ_17 : decode cX10_differ 17 = .ok (.ireturn, 1) := by decide +kernel
theorem dX10_differ_18 : decode cX10_differ 18 = .ok (.aload_n 0, 1) := by decide +kernel
theorem dX10_differ_19 : decode cX10_differ 19 = .ok (.getfield 19, 3) := by decide +kernel
theorem dX10_differ_22 : decode cX10_differ 22 = .ok (.aload_n 0, 1) := by decide +kernel
theorem dX10_differ_23 : decode cX10_differ 23 = .ok (.getfield 62, 3) := by decide +kernel
theorem dX10_differ_26 : decode cX10_differ 26 = .ok (.aload_n 0, 1) := by decide +kernel
theorem dX10_differ_27 : decode cX10_differ 27 = .ok (.getfield 26, 3) := by decide +kernel
theorem dX10_differ_30 : decode cX10_differ 30 = .ok (.iload_n 1, 1) := by decide +kernel
theorem dX10_differ_31 : decode cX10_differ 31 = .ok (.iload_n 2, 1) := by decide +kernel
theorem dX10_differ_32 : decode cX10_differ 32 = .ok (.invokevirtual 286, 3) := by decide +kernel
theorem dX10_differ_35 : decode cX10_differ 35 = .ok (.i2l, 1) := by decide +kernel
theorem dX10_differ_36 : decode cX10_differ 36 = .ok (.invokevirtual 236, 3) := by decide +kernel
theorem dX10_differ_39 : decode cX10_differ 39 = .ok (.aload_n 0, 1) := by decide +kernel
theorem dX10_differ_40 : decode cX10_differ 40 = .ok (.getfield 62, 3) := by decide +kernel
theorem dX10_differ_43 : decode cX10_differ 43 = .ok (.aload_n 0, 1) := by decide +kernel
theorem dX10_differ_44 : decode cX10_differ 44 = .ok (.getfield 26, 3) := by decide +kernel
theorem dX10_differ_47 : decode cX10_differ 47 = .ok (.iload_n 1, 1) := by decide +kernel
theorem dX10_differ_48 : decode cX10_differ 48 = .ok (.iload_n 2, 1) := by decide +kernel
theorem dX10_differ_49 : decode cX10_differ 49 = .ok (.invokevirtual 290, 3) := by decide +kernel
theorem dX10_differ_52 : decode cX10_differ 52 = .ok (.ireturn, 1) := by decide +kernel
theorem dX10_near_0 : decode cX10_near 0 = .ok (.aload_n 0, 1) := by decide +kernel
theorem dX10_near_1 : decode cX10_near 1 = .ok (.iload_n 1, 1) := by decide +kernel
theorem dX10_near_2 : decode cX10_near 2 = .ok (.invokevirtual 136, 3) := by decide +kernel
theorem dX10_near_5 : decode cX10_near 5 = .ok (.ifCond .ne 5, 3) := by decide +kernel
theorem dX10_near_8 : decode cX10_near 8 = .ok (.iconst (-1), 1) := by decide +kernel
theorem dX10_near_9 : decode cX10_near 9 = .ok (.ireturn, 1) := by decide +kernel
theorem dX10_near_10 : decode cX10_near 10 = .ok (.iconst (-1), 1) := by decide +kernel
theorem dX10_near_11 : decode cX10_near 11 = .ok (.istore_n 2, 1) := by decide +kernel
theorem dX10_near_12 : decode cX10_near 12 = .ok (.iconst 0, 1) := by decide +kernel
theorem dX10_near_13 : decode cX10_near 13 = .ok (.istore_n 3, 1) := by decide +kernel
theorem dX10_near_14 : decode cX10_near 14 = .ok (.iconst 0, 1) := by decide +kernel
theorem dX10_near_15 : decode cX10_near 15 = .ok (.istore 4, 2) := by decide +kernel
theorem dX10_near_17 : decode cX10_near 17 = .ok (.iload 4, 2) := by decide +kernel
theorem dX10_near_19 : decode cX10_near 19 = .ok (.aload_n 0, 1) := by decide +kernel
theorem dX10_near_20 : decode cX10_near 20 = .ok (.getfield 26, 3) := by decide +kernel
theorem dX10_near_23 : decode cX10_near 23 = .ok (.getfield 127, 3) := by decide +kernel
theorem dX10_near_26 : decode cX10_near 26 = .ok (.if_icmp .ge 58, 3) := by decide +kernel
theorem dX10_near_29 : decode cX10_near 29 = .ok (.iload 4, 2) := by decide +kernel
theorem dX10_near_31 : decode cX10_near 31 = .ok (.iload_n 1, 1) := by decide +kernel
theorem dX10_near_32 : decode cX10_near 32 = .ok (.if_icmp .ne 7, 3) := by decide +kernel
theorem dX10_near_35 : decode cX10_near 35 = .ok (.iconst 0, 1) := by decide +kernel
theorem dX10_near_36 : decode cX10_near 36 = .ok (.goto 17, 3) := by decide +kernel
theorem dX10_near_39 : decode cX10_near 39 = .ok (.aload_n 0, 1) := by decide +kernel
theorem dX10_near_40 : decode cX10_near 40 = .ok (.getfield 62, 3) := by decide +kernel
theorem dX10_near_43 : decode cX10_near 43 = .ok (.aload_n 0, 1) := by decide +kernel
theorem dX10_near_44 : decode cX10_near 44 = .ok (.getfield 26, 3) := by decide +kernel
theorem dX10_near_47 : decode cX10_near 47 = .ok (.iload_n 1, 1) := by decide +kernel
theorem dX10_near_48 : decode cX10_near 48 = .ok (.iload 4, 2) := by decide +kernel
theorem dX10_near_50 : decode cX10_near 50 = .ok (.invokevirtual 290, 3) := by decide +kernel
theorem dX10_near_53 : decode cX10_near 53 = .ok (.istore 5, 2) := by decide +kernel
theorem dX10_near_55 : decode cX10_near 55 = .ok (.iload 4, 2) := by decide +kernel
theorem dX10_near_57 : decode cX10_near 57 = .ok (.iload_n 1, 1) := by decide +kernel
theorem dX10_near_58 : decode cX10_near 58 = .ok (.if_icmp .eq 20, 3) := by decide +kernel
theorem dX10_near_61 : decode cX10_near 61 = .ok (.iload_n 2, 1) := by decide +kernel
theorem dX10_near_62 : decode cX10_near 62 = .ok (.iconst (-1), 1) := by decide +kernel
theorem dX10_near_63 : decode cX10_near 63 = .ok (.if_icmp .eq 9, 3) := by decide +kernel
theorem dX10_near_66 : decode cX10_near 66 = .ok (.iload 5, 2) := by decide +kernel
theorem dX10_near_68 : decode cX10_near 68 = .ok (.iload_n 3, 1) := by decide +kernel
theorem dX10_near_69 : decode cX10_near 69 = .ok (.if_icmp .ge 9, 3) := by decide +kernel
theorem dX10_near_72 : decode cX10_near 72 = .ok (.iload 4, 2) := by decide +kernel
theorem dX10_near_74 : decode cX10_near 74 = .ok (.istore_n 2, 1) := by decide +kernel
theorem dX10_near_75 : decode cX10_near 75 = .ok (.iload 5, 2) := by decide +kernel
theorem dX10_near_77 : decode cX10_near 77 = .ok (.istore_n 3, 1) := by decide +kernel
theorem dX10_near_78 : decode cX10_near 78 = .ok (.iinc 4 1, 3) := by decide +kernel
theorem dX10_near_81 : decode cX10_near 81 = .ok (.goto (-64), 3) := by decide +kernel
theorem dX10_near_84 : decode cX10_near 84 = .ok (.iload_n 2, 1) := by decide +kernel
theorem dX10_near_85 : decode cX10_near 85 = .ok (.iconst (-1), 1) := by decide +kernel
theorem dX10_near_86 : decode cX10_near 86 = .ok (.if_icmp .ne 6, 3) := by decide +kernel
theorem dX10_near_89 : decode cX10_near 89 = .ok (.bipush (-2), 2) := by decide +kernel
theorem dX10_near_91 : decode cX10_near 91 = .ok (.ireturn, 1) := by decide +kernel
theorem dX10_near_92 : decode cX10_near 92 = .ok (.aload_n 0, 1) := by decide +kernel
theorem dX10_near_93 : decode cX10_near 93 = .ok (.getfield 19, 3) := by decide +kernel
theorem dX10_near_96 : decode cX10_near 96 = .ok (.iload_n 3, 1) := by decide +kernel
theorem dX10_near_97 : decode cX10_near 97 = .ok (.i2l, 1) := by decide +kernel
theorem dX10_near_98 : decode cX10_near 98 = .ok (.aload_n 0, 1) := by decide +kernel
theorem dX10_near_99 : decode cX10_near 99 = .ok (.getfield 26, 3) := by decide +kernel
theorem dX10_near_102 : decode cX10_near 102 = .ok (.iload_n 1, 1) := by decide +kernel
theorem dX10_near_103 : decode cX10_near 103 = .ok (.iload_n 2, 1) := by decide +kernel
theorem dX10_near_104 : decode cX10_near 104 = .ok (.invokevirtual 293, 3) := by decide +kernel
theorem dX10_near_107 : decode cX10_near 107 = .ok (.ifCond .eq 7, 3) := by decide +kernel
theorem dX10_near_110 : decode cX10_near 110 = .ok (.lconst 1, 1) := by decide +kernel
theorem dX10_near_111 : decode cX10_near 111 = .ok (.goto 4, 3) := by decide +kernel
theorem dX10_near_114 : decode cX10_near 114 = .ok (.lconst 0, 1) := by decide +kernel
theorem dX10_near_115 : decode cX10_near 115 = .ok (.invokevirtual 242, 3) := by decide +kernel
theorem dX10_near_118 : decode cX10_near 118 = .ok (.iload_n 2, 1) := by decide +kernel
theorem dX10_near_119 : decode cX10_near 119 = .ok (.ireturn, 1) := by decide +kernel
theorem dX10_heard_0 : decode cX10_heard 0 = .ok (.aload_n 0, 1) := by decide +kernel
theorem dX10_heard_1 : decode cX10_heard 1 = .ok (.iload_n 1, 1) := by decide +kernel
theorem dX10_heard_2 : decode cX10_heard 2 = .ok (.invokevirtual 136, 3) := by decide +kernel
theorem dX10_heard_5 : decode cX10_heard 5 = .ok (.ifCond .eq 22, 3) := by decide +kernel
theorem dX10_heard_8 : decode cX10_heard 8 = .ok (.iload_n 2, 1) := by decide +kernel
theorem dX10_heard_9 : decode cX10_heard 9 = .ok (.ifCond .lt 18, 3) := by decide +kernel
theorem dX10_heard_12 : decode cX10_heard 12 = .ok (.iload_n 2, 1) := by decide +kernel
theorem dX10_heard_13 : decode cX10_heard 13 = .ok (.bipush 10, 2) := by decide +kernel
theorem dX10_heard_15 : decode cX10_heard 15 = .ok (.if_icmp .gt 12, 3) := by decide +kernel
theorem dX10_heard_18 : decode cX10_heard 18 = .ok (.iload_n 3, 1) := by decide +kernel
theorem dX10_heard_19 : decode cX10_heard 19 = .ok (.ifCond .lt 8, 3) := by decide +kernel
theorem dX10_heard_22 : decode cX10_heard 22 = .ok (.iload_n 3, 1) := by decide +kernel
theorem dX10_heard_23 : decode cX10_heard 23 = .ok (.iconst 2, 1) := by decide +kernel
theorem dX10_heard_24 : decode cX10_heard 24 = .ok (.if_icmp .le 5, 3) := by decide +kernel
theorem dX10_heard_27 : decode cX10_heard 27 = .ok (.iconst (-1), 1) := by decide +kernel
theorem dX10_heard_28 : decode cX10_heard 28 = .ok (.ireturn, 1) := by decide +kernel
theorem dX10_heard_29 : decode cX10_heard 29 = .ok (.aload_n 0, 1) := by decide +kernel
theorem dX10_heard_30 : decode cX10_heard 30 = .ok (.getfield 26, 3) := by decide +kernel
theorem dX10_heard_33 : decode cX10_heard 33 = .ok (.getfield 142, 3) := by decide +kernel
theorem dX10_heard_36 : decode cX10_heard 36 = .ok (.iload_n 1, 1) := by decide +kernel
theorem dX10_heard_37 : decode cX10_heard 37 = .ok (.iaload, 1) := by decide +kernel
theorem dX10_heard_38 : decode cX10_heard 38 = .ok (.istore 4, 2) := by decide +kernel
theorem dX10_heard_40 : decode cX10_heard 40 = .ok (.lconst 0, 1) := by decide +kernel
theorem dX10_heard_41 : decode cX10_heard 41 = .ok (.lstore 5, 2) := by decide +kernel
theorem dX10_heard_43 : decode cX10_heard 43 = .ok (.lconst 1, 1) := by decide +kernel
theorem dX10_heard_44 : decode cX10_heard 44 = .ok (.lstore 7, 2) := by decide +kernel
theorem dX10_heard_46 : decode cX10_heard 46 = .ok (.iconst 0, 1) := by decide +kernel
theorem dX10_heard_47 : decode cX10_heard 47 = .ok (.istore 9, 2) := by decide +kernel
theorem dX10_heard_49 : decode cX10_heard 49 = .ok (.iload 9, 2) := by decide +kernel
theorem dX10_heard_51 : decode cX10_heard 51 = .ok (.iload_n 3, 1) := by decide +kernel
theorem dX10_heard_52 : decode cX10_heard 52 = .ok (.if_icmp .gt 60, 3) := by decide +kernel
theorem dX10_heard_55 : decode cX10_heard 55 = .ok (.iload 9, 2) := by decide +kernel
theorem dX10_heard_57 : decode cX10_heard 57 = .ok (.iload 4, 2) := by decide +kernel
theorem dX10_heard_59 : decode cX10_heard 59 = .ok (.if_icmp .gt 53, 3) := by decide +kernel
theorem dX10_heard_62 : decode cX10_heard 62 = .ok (.lload 5, 2) := by decide +kernel
theorem dX10_heard_64 : decode cX10_heard 64 = .ok (.lload 7, 2) := by decide +kernel
theorem dX10_heard_66 : decode cX10_heard 66 = .ok (.iload_n 2, 1) := by decide +kernel
theorem dX10_heard_67 : decode cX10_heard 67 = .ok (.iload 4, 2) := by decide +kernel
theorem dX10_heard_69 : decode cX10_heard 69 = .ok (.iload 9, 2) := by decide +kernel
theorem dX10_heard_71 : decode cX10_heard 71 = .ok (.isub, 1) := by decide +kernel
theorem dX10_heard_72 : decode cX10_heard 72 = .ok (.invokestatic 296, 3) := by decide +kernel
theorem dX10_heard_75 : decode cX10_heard 75 = .ok (.lmul, 1) := by decide +kernel
theorem dX10_heard_76 : decode cX10_heard 76 = .ok (.bipush 10, 2) := by decide +kernel
theorem dX10_heard_78 : decode cX10_heard 78 = .ok (.iload_n 2, 1) := by decide +kernel
theorem dX10_heard_79 : decode cX10_heard 79 = .ok (.isub, 1) := by decide +kernel
theorem dX10_heard_80 : decode cX10_heard 80 = .ok (.iload 9, 2) := by decide +kernel
theorem dX10_heard_82 : decode cX10_heard 82 = .ok (.invokestatic 296, 3) := by decide +kernel
theorem dX10_heard_85 : decode cX10_heard 85 = .ok (.lmul, 1) := by decide +kernel
theorem dX10_heard_86 : decode cX10_heard 86 = .ok (.ladd, 1) := by decide +kernel
theorem dX10_heard_87 : decode cX10_heard 87 = .ok (.lstore 5, 2) := by decide +kernel
theorem dX10_heard_89 : decode cX10_heard 89 = .ok (.lload 7, 2) := by decide +kernel
theorem dX10_heard_91 : decode cX10_heard 91 = .ok (.iload 4, 2) := by decide +kernel
theorem dX10_heard_93 : decode cX10_heard 93 = .ok (.iload 9, 2) := by decide +kernel
theorem dX10_heard_95 : decode cX10_heard 95 = .ok (.isub, 1) := by decide +kernel
theorem dX10_heard_96 : decode cX10_heard 96 = .ok (.i2l, 1) := by decide +kernel
theorem dX10_heard_97 : decode cX10_heard 97 = .ok (.lmul, 1) := by decide +kernel
theorem dX10_heard_98 : decode cX10_heard 98 = .ok (.iload 9, 2) := by decide +kernel
theorem dX10_heard_100 : decode cX10_heard 100 = .ok (.iconst 1, 1) := by decide +kernel
theorem dX10_heard_101 : decode cX10_heard 101 = .ok (.iadd, 1) := by decide +kernel
theorem dX10_heard_102 : decode cX10_heard 102 = .ok (.i2l, 1) := by decide +kernel
theorem dX10_heard_103 : decode cX10_heard 103 = .ok (.ldiv, 1) := by decide +kernel
theorem dX10_heard_104 : decode cX10_heard 104 = .ok (.lstore 7, 2) := by decide +kernel
theorem dX10_heard_106 : decode cX10_heard 106 = .ok (.iinc 9 1, 3) := by decide +kernel
theorem dX10_heard_109 : decode cX10_heard 109 = .ok (.goto (-60), 3) := by decide +kernel
theorem dX10_heard_112 : decode cX10_heard 112 = .ok (.bipush 10, 2) := by decide +kernel
theorem dX10_heard_114 : decode cX10_heard 114 = .ok (.iload 4, 2) := by decide +kernel
theorem dX10_heard_116 : decode cX10_heard 116 = .ok (.invokestatic 296, 3) := by decide +kernel
theorem dX10_heard_119 : decode cX10_heard 119 = .ok (.lstore 9, 2) := by decide +kernel
theorem dX10_heard_121 : decode cX10_heard 121 = .ok (.lload 5, 2) := by decide +kernel
theorem dX10_heard_123 : decode cX10_heard 123 = .ok (.lload 9, 2) := by decide +kernel
theorem dX10_heard_125 : decode cX10_heard 125 = .ok (.invokestatic 300, 3) := by decide +kernel
theorem dX10_heard_128 : decode cX10_heard 128 = .ok (.lstore 11, 2) := by decide +kernel
theorem dX10_heard_130 : decode cX10_heard 130 = .ok (.aload_n 0, 1) := by decide +kernel
theorem dX10_heard_131 : decode cX10_heard 131 = .ok (.getfield 19, 3) := by decide +kernel
theorem dX10_heard_134 : decode cX10_heard 134 = .ok (.lload 5, 2) := by decide +kernel
theorem dX10_heard_136 : decode cX10_heard 136 = .ok (.lload 11, 2) := by decide +kernel
theorem dX10_heard_138 : decode cX10_heard 138 = .ok (.ldiv, 1) := by decide +kernel
theorem dX10_heard_139 : decode cX10_heard 139 = .ok (.lload 9, 2) := by decide +kernel
theorem dX10_heard_141 : decode cX10_heard 141 = .ok (.lload 11, 2) := by decide +kernel
theorem dX10_heard_143 : decode cX10_heard 143 = .ok (.ldiv, 1) := by decide +kernel
theorem dX10_heard_144 : decode cX10_heard 144 = .ok (.invokevirtual 242, 3) := by decide +kernel
theorem dX10_heard_147 : decode cX10_heard 147 = .ok (.iconst 0, 1) := by decide +kernel
theorem dX10_heard_148 : decode cX10_heard 148 = .ok (.ireturn, 1) := by decide +kernel
theorem dX10_code_0 : decode cX10_code 0 = .ok (.iload_n 1, 1) := by decide +kernel
theorem dX10_code_1 : decode cX10_code 1 = .ok (.ifCond .lt 9, 3) := by decide +kernel
theorem dX10_code_4 : decode cX10_code 4 = .ok (.iload_n 1, 1) := by decide +kernel
theorem dX10_code_5 : decode cX10_code 5 = .ok (.bipush 6, 2) := by decide +kernel
theorem dX10_code_7 : decode cX10_code 7 = .ok (.if_icmp .le 5, 3) := by decide +kernel
theorem dX10_code_10 : decode cX10_code 10 = .ok (.iconst (-1), 1) := by decide +kernel
theorem dX10_code_11 : decode cX10_code 11 = .ok (.ireturn, 1) := by decide +kernel
theorem dX10_code_12 : decode cX10_code 12 = .ok (.aload_n 0, 1) := by decide +kernel
theorem dX10_code_13 : decode cX10_code 13 = .ok (.aload_n 0, 1) := by decide +kernel
theorem dX10_code_14 : decode cX10_code 14 = .ok (.getfield 92, 3) := by decide +kernel
theorem dX10_code_17 : decode cX10_code 17 = .ok (.iconst 0, 1) := by decide +kernel
theorem dX10_code_18 : decode cX10_code 18 = .ok (.aload_n 0, 1) := by decide +kernel
theorem dX10_code_19 : decode cX10_code 19 = .ok (.getfield 77, 3) := by decide +kernel
theorem dX10_code_22 : decode cX10_code 22 = .ok (.invokevirtual 253, 3) := by decide +kernel
theorem dX10_code_25 : decode cX10_code 25 = .ok (.aload_n 0, 1) := by decide +kernel
theorem dX10_code_26 : decode cX10_code 26 = .ok (.getfield 62, 3) := by decide +kernel
theorem dX10_code_29 : decode cX10_code 29 = .ok (.aload_n 0, 1) := by decide +kernel
theorem dX10_code_30 : decode cX10_code 30 = .ok (.getfield 26, 3) := by decide +kernel
theorem dX10_code_33 : decode cX10_code 33 = .ok (.iload_n 1, 1) := by decide +kernel
theorem dX10_code_34 : decode cX10_code 34 = .ok (.invokevirtual 304, 3) := by decide +kernel
theorem dX10_code_37 : decode cX10_code 37 = .ok (.iconst 0, 1) := by decide +kernel
theorem dX10_code_38 : decode cX10_code 38 = .ok (.istore_n 2, 1) := by decide +kernel
theorem dX10_code_39 : decode cX10_code 39 = .ok (.iconst 1, 1) := by decide +kernel
theorem dX10_code_40 : decode cX10_code 40 = .ok (.istore_n 3, 1) := by decide +kernel
theorem dX10_code_41 : decode cX10_code 41 = .ok (.iload_n 3, 1) := by decide +kernel
theorem dX10_code_42 : decode cX10_code 42 = .ok (.iconst 1, 1) := by decide +kernel
theorem dX10_code_43 : decode cX10_code 43 = .ok (.aload_n 0, 1) := by decide +kernel
theorem dX10_code_44 : decode cX10_code 44 = .ok (.getfield 26, 3) := by decide +kernel
theorem dX10_code_47 : decode cX10_code 47 = .ok (.getfield 127, 3) := by decide +kernel
theorem dX10_code_50 : decode cX10_code 50 = .ok (.ishl, 1) := by decide +kernel
theorem dX10_code_51 : decode cX10_code 51 = .ok (.if_icmp .ge 63, 3) := by decide +kernel
theorem dX10_code_54 : decode cX10_code 54 = .ok (.iload_n 3, 1) := by decide +kernel
theorem dX10_code_55 : decode cX10_code 55 = .ok (.invokestatic 308, 3) := by decide +kernel
theorem dX10_code_58 : decode cX10_code 58 = .ok (.iload_n 2, 1) := by decide +kernel
theorem dX10_code_59 : decode cX10_code 59 = .ok (.invokestatic 308, 3) := by decide +kernel
theorem dX10_code_62 : decode cX10_code 62 = .ok (.isub, 1) := by decide +kernel
theorem dX10_code_63 : decode cX10_code 63 = .ok (.istore 4, 2) := by decide +kernel
theorem dX10_code_65 : decode cX10_code 65 = .ok (.iload 4, 2) := by decide +kernel
theorem dX10_code_67 : decode cX10_code 67 = .ok (.ifCond .lt 41, 3) := by decide +kernel
theorem dX10_code_70 : decode cX10_code 70 = .ok (.aload_n 0, 1) := by decide +kernel
theorem dX10_code_71 : decode cX10_code 71 = .ok (.getfield 62, 3) := by decide +kernel
theorem dX10_code_74 : decode cX10_code 74 = .ok (.iload_n 3, 1) := by decide +kernel
theorem dX10_code_75 : decode cX10_code 75 = .ok (.aload_n 0, 1) := by decide +kernel
theorem dX10_code_76 : decode cX10_code 76 = .ok (.getfield 26, 3) := by decide +kernel
theorem dX10_code_79 : decode cX10_code 79 = .ok (.getfield 127, 3) := by decide +kernel
theorem dX10_code_82 : decode cX10_code 82 = .ok (.invokevirtual 313, 3) := by decide +kernel
theorem dX10_code_85 : decode cX10_code 85 = .ok (.ifCond .eq 23, 3) := by decide +kernel
theorem dX10_code_88 : decode cX10_code 88 = .ok (.iload 4, 2) := by decide +kernel
theorem dX10_code_90 : decode cX10_code 90 = .ok (.ifCond .gt 16, 3) := by decide +kernel
theorem dX10_code_93 : decode cX10_code 93 = .ok (.aload_n 0, 1) := by decide +kernel
theorem dX10_code_94 : decode cX10_code 94 = .ok (.iload_n 3, 1) := by decide +kernel
theorem dX10_code_95 : decode cX10_code 95 = .ok (.invokevirtual 316, 3) := by decide +kernel
theorem dX10_code_98 : decode cX10_code 98 = .ok (.aload_n 0, 1) := by decide +kernel
theorem dX10_code_99 : decode cX10_code 99 = .ok (.iload_n 2, 1) := by decide +kernel
theorem dX10_code_100 : decode cX10_code 100 = .ok (.invokevirtual 316, 3) := by decide +kernel
theorem dX10_code_103 : decode cX10_code 103 = .ok (.if_icmp .ge 5, 3) := by decide +kernel
theorem dX10_code_106 : decode cX10_code 106 = .ok (.iload_n 3, 1) := by decide +kernel
theorem dX10_code_107 : decode cX10_code 107 = .ok (.istore_n 2, 1) := by decide +kernel
theorem dX10_code_108 : decode cX10_code 108 = .ok (.iinc 3 1, 3) := by decide +kernel
theorem dX10_code_111 : decode cX10_code 111 = .ok (.goto (-70), 3) := by decide +kernel
theorem dX10_code_114 : decode cX10_code 114 = .ok (.aload_n 0, 1) := by decide +kernel
theorem dX10_code_115 : decode cX10_code 115 = .ok (.getfield 19, 3) := by decide +kernel
theorem dX10_code_118 : decode cX10_code 118 = .ok (.iload_n 2, 1) := by decide +kernel
theorem dX10_code_119 : decode cX10_code 119 = .ok (.i2l, 1) := by decide +kernel
theorem dX10_code_120 : decode cX10_code 120 = .ok (.invokevirtual 236, 3) := by decide +kernel
theorem dX10_code_123 : decode cX10_code 123 = .ok (.iload_n 2, 1) := by decide +kernel
theorem dX10_code_124 : decode cX10_code 124 = .ok (.invokestatic 308, 3) := by decide +kernel
theorem dX10_code_127 : decode cX10_code 127 = .ok (.ireturn, 1) := by decide +kernel
theorem dX10_trip_0 : decode cX10_trip 0 = .ok (.aload_n 0, 1) := by decide +kernel
theorem dX10_trip_1 : decode cX10_trip 1 = .ok (.iload_n 1, 1) := by decide +kernel
theorem dX10_trip_2 : decode cX10_trip 2 = .ok (.invokevirtual 159, 3) := by decide +kernel
theorem dX10_trip_5 : decode cX10_trip 5 = .ok (.ifCond .eq 13, 3) := by decide +kernel
theorem dX10_trip_8 : decode cX10_trip 8 = .ok (.iload_n 2, 1) := by decide +kernel
theorem dX10_trip_9 : decode cX10_trip 9 = .ok (.ifCond .lt 9, 3) := by decide +kernel
theorem dX10_trip_12 : decode cX10_trip 12 = .ok (.iload_n 2, 1) := by decide +kernel
theorem dX10_trip_13 : decode cX10_trip 13 = .ok (.bipush 12, 2) := by decide +kernel
theorem dX10_trip_15 : decode cX10_trip 15 = .ok (.if_icmp .le 5, 3) := by decide +kernel
theorem dX10_trip_18 : decode cX10_trip 18 = .ok (.iconst (-1), 1) := by decide +kernel
theorem dX10_trip_19 : decode cX10_trip 19 = .ok (.ireturn, 1) := by decide +kernel
theorem dX10_trip_20 : decode cX10_trip 20 = .ok (.aload_n 0, 1) := by decide +kernel
theorem dX10_trip_21 : decode cX10_trip 21 = .ok (.iload_n 1, 1) := by decide +kernel
theorem dX10_trip_22 : decode cX10_trip 22 = .ok (.iload_n 2, 1) := by decide +kernel
theorem dX10_trip_23 : decode cX10_trip 23 = .ok (.iconst 0, 1) := by decide +kernel
theorem dX10_trip_24 : decode cX10_trip 24 = .ok (.invokevirtual 319, 3) := by decide +kernel
theorem dX10_trip_27 : decode cX10_trip 27 = .ok (.istore_n 3, 1) := by decide +kernel
theorem dX10_trip_28 : decode cX10_trip 28 = .ok (.iload_n 3, 1) := by decide +kernel
theorem dX10_trip_29 : decode cX10_trip 29 = .ok (.ifCond .ge 6, 3) := by decide +kernel
theorem dX10_trip_32 : decode cX10_trip 32 = .ok (.bipush (-2), 2) := by decide +kernel
theorem dX10_trip_34 : decode cX10_trip 34 = .ok (.ireturn, 1) := by decide +kernel
theorem dX10_trip_35 : decode cX10_trip 35 = .ok (.aload_n 0, 1) := by decide +kernel
theorem dX10_trip_36 : decode cX10_trip 36 = .ok (.getfield 19, 3) := by decide +kernel
theorem dX10_trip_39 : decode cX10_trip 39 = .ok (.iload_n 3, 1) := by decide +kernel
theorem dX10_trip_40 : decode cX10_trip 40 = .ok (.i2l, 1) := by decide +kernel
theorem dX10_trip_41 : decode cX10_trip 41 = .ok (.aload_n 0, 1) := by decide +kernel
theorem dX10_trip_42 : decode cX10_trip 42 = .ok (.getfield 69, 3) := by decide +kernel
theorem dX10_trip_45 : decode cX10_trip 45 = .ok (.getfield 323, 3) := by decide +kernel
theorem dX10_trip_48 : decode cX10_trip 48 = .ok (.i2l, 1) := by decide +kernel
theorem dX10_trip_49 : decode cX10_trip 49 = .ok (.invokevirtual 242, 3) := by decide +kernel
theorem dX10_trip_52 : decode cX10_trip 52 = .ok (.aload_n 0, 1) := by decide +kernel
theorem dX10_trip_53 : decode cX10_trip 53 = .ok (.getfield 69, 3) := by decide +kernel
theorem dX10_trip_56 : decode cX10_trip 56 = .ok (.getfield 326, 3) := by decide +kernel
theorem dX10_trip_59 : decode cX10_trip 59 = .ok (.ireturn, 1) := by decide +kernel
theorem dX10_haste_0 : decode cX10_haste 0 = .ok (.aload_n 0, 1) := by decide +kernel
theorem dX10_haste_1 : decode cX10_haste 1 = .ok (.iload_n 1, 1) := by decide +kernel
theorem dX10_haste_2 : decode cX10_haste 2 = .ok (.invokevirtual 159, 3) := by decide +kernel
theorem dX10_haste_5 : decode cX10_haste 5 = .ok (.ifCond .ne 5, 3) := by decide +kernel
theorem dX10_haste_8 : decode cX10_haste 8 = .ok (.iconst (-1), 1) := by decide +kernel
theorem dX10_haste_9 : decode cX10_haste 9 = .ok (.ireturn, 1) := by decide +kernel
theorem dX10_haste_10 : decode cX10_haste 10 = .ok (.aload_n 0, 1) := by decide +kernel
theorem dX10_haste_11 : decode cX10_haste 11 = .ok (.iload_n 1, 1) := by decide +kernel
theorem dX10_haste_12 : decode cX10_haste 12 = .ok (.bipush 12, 2) := by decide +kernel
theorem dX10_haste_14 : decode cX10_haste 14 = .ok (.iconst 1, 1) := by decide +kernel
theorem dX10_haste_15 : decode cX10_haste 15 = .ok (.invokevirtual 319, 3) := by decide +kernel
theorem dX10_haste_18 : decode cX10_haste 18 = .ok (.istore_n 2, 1) := by decide +kernel
theorem dX10_haste_19 : decode cX10_haste 19 = .ok (.iload_n 2, 1) := by decide +kernel
theorem dX10_haste_20 : decode cX10_haste 20 = .ok (.ifCond .ge 6, 3) := by decide +kernel
theorem dX10_haste_23 : decode cX10_haste 23 = .ok (.bipush (-2), 2) := by decide +kernel
theorem dX10_haste_25 : decode cX10_haste 25 = .ok (.ireturn, 1) := by decide +kernel
theorem dX10_haste_26 : decode cX10_haste 26 = .ok (.aload_n 0, 1) := by decide +kernel
theorem dX10_haste_27 : decode cX10_haste 27 = .ok (.getfield 19, 3) := by decide +kernel
theorem dX10_haste_30 : decode cX10_haste 30 = .ok (.aload_n 0, 1) := by decide +kernel
theorem dX10_haste_31 : decode cX10_haste 31 = .ok (.getfield 69, 3) := by decide +kernel
theorem dX10_haste_34 : decode cX10_haste 34 = .ok (.getfield 326, 3) := by decide +kernel
theorem dX10_haste_37 : decode cX10_haste 37 = .ok (.i2l, 1) := by decide +kernel
theorem dX10_haste_38 : decode cX10_haste 38 = .ok (.invokevirtual 236, 3) := by decide +kernel
theorem dX10_haste_41 : decode cX10_haste 41 = .ok (.iload_n 2, 1) := by decide +kernel
theorem dX10_haste_42 : decode cX10_haste 42 = .ok (.ireturn, 1) := by decide +kernel
theorem dX10_best_0 : decode cX10_best 0 = .ok (.aload_n 0, 1) := by decide +kernel
theorem dX10_best_1 : decode cX10_best 1 = .ok (.iload_n 1, 1) := by decide +kernel
theorem dX10_best_2 : decode cX10_best 2 = .ok (.invokevirtual 159, 3) := by decide +kernel
theorem dX10_best_5 : decode cX10_best 5 = .ok (.ifCond .ne 5, 3) := by decide +kernel
theorem dX10_best_8 : decode cX10_best 8 = .ok (.iconst (-1), 1) := by decide +kernel
theorem dX10_best_9 : decode cX10_best 9 = .ok (.ireturn, 1) := by decide +kernel
theorem dX10_best_10 : decode cX10_best 10 = .ok (.aload_n 0, 1) := by decide +kernel
theorem dX10_best_11 : decode cX10_best 11 = .ok (.iload_n 1, 1) := by decide +kernel
theorem dX10_best_12 : decode cX10_best 12 = .ok (.invokevirtual 329, 3) := by decide +kernel
theorem dX10_best_15 : decode cX10_best 15 = .ok (.istore_n 2, 1) := by decide +kernel
theorem dX10_best_16 : decode cX10_best 16 = .ok (.iconst 0, 1) := by decide +kernel
theorem dX10_best_17 : decode cX10_best 17 = .ok (.istore_n 3, 1) := by decide +kernel
theorem dX10_best_18 : decode cX10_best 18 = .ok (.iconst 0, 1) := by decide +kernel
theorem dX10_best_19 : decode cX10_best 19 = .ok (.istore 4, 2) := by decide +kernel
theorem dX10_best_21 : decode cX10_best 21 = .ok (.iconst 0, 1) := by decide +kernel
theorem dX10_best_22 : decode cX10_best 22 = .ok (.istore 5, 2) := by decide +kernel
theorem dX10_best_24 : decode cX10_best 24 = .ok (.iconst 1, 1) := by decide +kernel
theorem dX10_best_25 : decode cX10_best 25 = .ok (.istore 6, 2) := by decide +kernel
theorem dX10_best_27 : decode cX10_best 27 = .ok (.iload 6, 2) := by decide +kernel
theorem dX10_best_29 : decode cX10_best 29 = .ok (.iload_n 2, 1) := by decide +kernel
theorem dX10_best_30 : decode cX10_best 30 = .ok (.if_icmp .gt 106, 3) := by decide +kernel
theorem dX10_best_33 : decode cX10_best 33 = .ok (.iload 6, 2) := by decide +kernel
theorem dX10_best_35 : decode cX10_best 35 = .ok (.iload_n 2, 1) := by decide +kernel
theorem dX10_best_36 : decode cX10_best 36 = .ok (.iconst (-1), 1) := by decide +kernel
theorem dX10_best_37 : decode cX10_best 37 = .ok (.ixor, 1) := by decide +kernel
theorem dX10_best_38 : decode cX10_best 38 = .ok (.iand, 1) := by decide +kernel
theorem dX10_best_39 : decode cX10_best 39 = .ok (.ifCond .ne 22, 3) := by decide +kernel
theorem dX10_best_42 : decode cX10_best 42 = .ok (.aload_n 0, 1) := by decide +kernel
theorem dX10_best_43 : decode cX10_best 43 = .ok (.getfield 33, 3) := by decide +kernel
theorem dX10_best_46 : decode cX10_best 46 = .ok (.aload_n 0, 1) := by decide +kernel
theorem dX10_best_47 : decode cX10_best 47 = .ok (.getfield 33, 3) := by decide +kernel
theorem dX10_best_50 : decode cX10_best 50 = .ok (.getfield 332, 3) := by decide +kernel
theorem dX10_best_53 : decode cX10_best 53 = .ok (.iload 6, 2) := by decide +kernel
theorem dX10_best_55 : decode cX10_best 55 = .ok (.invokevirtual 180, 3) := by decide +kernel
theorem dX10_best_58 : decode cX10_best 58 = .ok (.goto 6, 3) := by decide +kernel
theorem dX10_best_61 : decode cX10_best 61 = .ok (.sipush 10000, 3) := by decide +kernel
theorem dX10_best_64 : decode cX10_best 64 = .ok (.istore 7, 2) := by decide +kernel
theorem dX10_best_66 : decode cX10_best 66 = .ok (.iload 7, 2) := by decide +kernel
theorem dX10_best_68 : decode cX10_best 68 = .ok (.aload_n 0, 1) := by decide +kernel
theorem dX10_best_69 : decode cX10_best 69 = .ok (.getfield 40, 3) := by decide +kernel
theorem dX10_best_72 : decode cX10_best 72 = .ok (.getfield 165, 3) := by decide +kernel
theorem dX10_best_75 : decode cX10_best 75 = .ok (.iload_n 1, 1) := by decide +kernel
theorem dX10_best_76 : decode cX10_best 76 = .ok (.iaload, 1) := by decide +kernel
theorem dX10_best_77 : decode cX10_best 77 = .ok (.if_icmp .gt 53, 3) := by decide +kernel
theorem dX10_best_80 : decode cX10_best 80 = .ok (.aload_n 0, 1) := by decide +kernel
theorem dX10_best_81 : decode cX10_best 81 = .ok (.getfield 33, 3) := by decide +kernel
theorem dX10_best_84 : decode cX10_best 84 = .ok (.aload_n 0, 1) := by decide +kernel
theorem dX10_best_85 : decode cX10_best 85 = .ok (.getfield 33, 3) := by decide +kernel
theorem dX10_best_88 : decode cX10_best 88 = .ok (.getfield 177, 3) := by decide +kernel
theorem dX10_best_91 : decode cX10_best 91 = .ok (.iload 6, 2) := by decide +kernel
theorem dX10_best_93 : decode cX10_best 93 = .ok (.invokevirtual 180, 3) := by decide +kernel
theorem dX10_best_96 : decode cX10_best 96 = .ok (.istore 8, 2) := by decide +kernel
theorem dX10_best_98 : decode cX10_best 98 = .ok (.iload 8, 2) := by decide +kernel
theorem dX10_best_100 : decode cX10_best 100 = .ok (.iload 4, 2) := by decide +kernel
theorem dX10_best_102 : decode cX10_best 102 = .ok (.if_icmp .gt 17, 3) := by decide +kernel
theorem dX10_best_105 : decode cX10_best 105 = .ok (.iload 8, 2) := by decide +kernel
theorem dX10_best_107 : decode cX10_best 107 = .ok (.iload 4, 2) := by decide +kernel
theorem dX10_best_109 : decode cX10_best 109 = .ok (.if_icmp .ne 21, 3) := by decide +kernel
theorem dX10_best_112 : decode cX10_best 112 = .ok (.iload 7, 2) := by decide +kernel
theorem dX10_best_114 : decode cX10_best 114 = .ok (.iload 5, 2) := by decide +kernel
theorem dX10_best_116 : decode cX10_best 116 = .ok (.if_icmp .ge 14, 3) := by decide +kernel
theorem dX10_best_119 : decode cX10_best 119 = .ok (.iload 6, 2) := by decide +kernel
theorem dX10_best_121 : decode cX10_best 121 = .ok (.istore_n 3, 1) := by decide +kernel
theorem dX10_best_122 : decode cX10_best 122 = .ok (.iload 8, 2) := by decide +kernel
theorem dX10_best_124 : decode cX10_best 124 = .ok (.istore 4, 2) := by decide +kernel
theorem dX10_best_126 : decode cX10_best 126 = .ok (.iload 7, 2) := by decide +kernel
theorem dX10_best_128 : decode cX10_best 128 = .ok (.istore 5, 2) := by decide +kernel
theorem dX10_best_130 : decode cX10_best 130 = .ok (.iinc 6 1, 3) := by decide +kernel
theorem dX10_best_133 : decode cX10_best 133 = .ok (.goto (-106), 3) := by decide +kernel
theorem dX10_best_136 : decode cX10_best 136 = .ok (.aload_n 0, 1) := by decide +kernel
theorem dX10_best_137 : decode cX10_best 137 = .ok (.getfield 19, 3) := by decide +kernel
theorem dX10_best_140 : decode cX10_best 140 = .ok (.iload_n 3, 1) := by decide +kernel
theorem dX10_best_141 : decode cX10_best 141 = .ok (.i2l, 1) := by decide +kernel
theorem dX10_best_142 : decode cX10_best 142 = .ok (.iload 5, 2) := by decide +kernel
theorem dX10_best_144 : decode cX10_best 144 = .ok (.i2l, 1) := by decide +kernel
theorem dX10_best_145 : decode cX10_best 145 = .ok (.invokevirtual 242, 3) := by decide +kernel
theorem dX10_best_148 : decode cX10_best 148 = .ok (.iload 4, 2) := by decide +kernel
theorem dX10_best_150 : decode cX10_best 150 = .ok (.ireturn, 1) := by decide +kernel
theorem dX10_takes_0 : decode cX10_takes 0 = .ok (.aload_n 0, 1) := by decide +kernel
theorem dX10_takes_1 : decode cX10_takes 1 = .ok (.iload_n 1, 1) := by decide +kernel
theorem dX10_takes_2 : decode cX10_takes 2 = .ok (.invokevirtual 191, 3) := by decide +kernel
theorem dX10_takes_5 : decode cX10_takes 5 = .ok (.ifCond .eq 13, 3) := by decide +kernel
theorem dX10_takes_8 : decode cX10_takes 8 = .ok (.iload_n 2, 1) := by decide +kernel
theorem dX10_takes_9 : decode cX10_takes 9 = .ok (.ifCond .lt 9, 3) := by decide +kernel
theorem dX10_takes_12 : decode cX10_takes 12 = .ok (.iload_n 2, 1) := by decide +kernel
theorem dX10_takes_13 : decode cX10_takes 13 = .ok (.bipush 99, 2) := by decide +kernel
theorem dX10_takes_15 : decode cX10_takes 15 = .ok (.if_icmp .le 5, 3) := by decide +kernel
theorem dX10_takes_18 : decode cX10_takes 18 = .ok (.iconst (-1), 1) := by decide +kernel
theorem dX10_takes_19 : decode cX10_takes 19 = .ok (.ireturn, 1) := by decide +kernel
theorem dX10_takes_20 : decode cX10_takes 20 = .ok (.aload_n 0, 1) := by decide +kernel
theorem dX10_takes_21 : decode cX10_takes 21 = .ok (.aload_n 0, 1) := by decide +kernel
theorem dX10_takes_22 : decode cX10_takes 22 = .ok (.getfield 92, 3) := by decide +kernel
theorem dX10_takes_25 : decode cX10_takes 25 = .ok (.iload_n 1, 1) := by decide +kernel
theorem dX10_takes_26 : decode cX10_takes 26 = .ok (.aload_n 0, 1) := by decide +kernel
theorem dX10_takes_27 : decode cX10_takes 27 = .ok (.getfield 77, 3) := by decide +kernel
theorem dX10_takes_30 : decode cX10_takes 30 = .ok (.invokevirtual 253, 3) := by decide +kernel
theorem dX10_takes_33 : decode cX10_takes 33 = .ok (.aload_n 0, 1) := by decide +kernel
theorem dX10_takes_34 : decode cX10_takes 34 = .ok (.iload_n 1, 1) := by decide +kernel
theorem dX10_takes_35 : decode cX10_takes 35 = .ok (.iload_n 2, 1) := by decide +kernel
theorem dX10_takes_36 : decode cX10_takes 36 = .ok (.invokevirtual 335, 3) := by decide +kernel
theorem dX10_takes_39 : decode cX10_takes 39 = .ok (.istore_n 3, 1) := by decide +kernel
theorem dX10_takes_40 : decode cX10_takes 40 = .ok (.aload_n 0, 1) := by decide +kernel
theorem dX10_takes_41 : decode cX10_takes 41 = .ok (.getfield 19, 3) := by decide +kernel
theorem dX10_takes_44 : decode cX10_takes 44 = .ok (.aload_n 0, 1) := by decide +kernel
theorem dX10_takes_45 : decode cX10_takes 45 = .ok (.getfield 106, 3) := by decide +kernel
theorem dX10_takes_48 : decode cX10_takes 48 = .ok (.i2l, 1) := by decide +kernel
theorem dX10_takes_49 : decode cX10_takes 49 = .ok (.invokevirtual 236, 3) := by decide +kernel
theorem dX10_takes_52 : decode cX10_takes 52 = .ok (.iload_n 3, 1) := by decide +kernel
theorem dX10_takes_53 : decode cX10_takes 53 = .ok (.ireturn, 1) := by decide +kernel
theorem dX10_greed_0 : decode cX10_greed 0 = .ok (.aload_n 0, 1) := by decide +kernel
theorem dX10_greed_1 : decode cX10_greed 1 = .ok (.iload_n 1, 1) := by decide +kernel
theorem dX10_greed_2 : decode cX10_greed 2 = .ok (.invokevirtual 191, 3) := by decide +kernel
theorem dX10_greed_5 : decode cX10_greed 5 = .ok (.ifCond .ne 5, 3) := by decide +kernel
theorem dX10_greed_8 : decode cX10_greed 8 = .ok (.iconst (-1), 1) := by decide +kernel
theorem dX10_greed_9 : decode cX10_greed 9 = .ok (.ireturn, 1) := by decide +kernel
theorem dX10_greed_10 : decode cX10_greed 10 = .ok (.aload_n 0, 1) := by decide +kernel
theorem dX10_greed_11 : decode cX10_greed 11 = .ok (.aload_n 0, 1) := by decide +kernel
theorem dX10_greed_12 : decode cX10_greed 12 = .ok (.getfield 92, 3) := by decide +kernel
theorem dX10_greed_15 : decode cX10_greed 15 = .ok (.iload_n 1, 1) := by decide +kernel
theorem dX10_greed_16 : decode cX10_greed 16 = .ok (.aload_n 0, 1) := by decide +kernel
theorem dX10_greed_17 : decode cX10_greed 17 = .ok (.getfield 77, 3) := by decide +kernel
theorem dX10_greed_20 : decode cX10_greed 20 = .ok (.invokevirtual 253, 3) := by decide +kernel
theorem dX10_greed_23 : decode cX10_greed 23 = .ok (.aload_n 0, 1) := by decide +kernel
theorem dX10_greed_24 : decode cX10_greed 24 = .ok (.iload_n 1, 1) := by decide +kernel
theorem dX10_greed_25 : decode cX10_greed 25 = .ok (.iconst 0, 1) := by decide +kernel
theorem dX10_greed_26 : decode cX10_greed 26 = .ok (.invokevirtual 335, 3) := by decide +kernel
theorem dX10_greed_29 : decode cX10_greed 29 = .ok (.istore_n 2, 1) := by decide +kernel
theorem dX10_greed_30 : decode cX10_greed 30 = .ok (.iload_n 2, 1) := by decide +kernel
theorem dX10_greed_31 : decode cX10_greed 31 = .ok (.istore_n 3, 1) := by decide +kernel
theorem dX10_greed_32 : decode cX10_greed 32 = .ok (.iconst 0, 1) := by decide +kernel
theorem dX10_greed_33 : decode cX10_greed 33 = .ok (.istore 4, 2) := by decide +kernel
theorem dX10_greed_35 : decode cX10_greed 35 = .ok (.iconst 1, 1) := by decide +kernel
theorem dX10_greed_36 : decode cX10_greed 36 = .ok (.istore 5, 2) := by decide +kernel
theorem dX10_greed_38 : decode cX10_greed 38 = .ok (.iload 5, 2) := by decide +kernel
theorem dX10_greed_40 : decode cX10_greed 40 = .ok (.bipush 99, 2) := by decide +kernel
theorem dX10_greed_42 : decode cX10_greed 42 = .ok (.if_icmp .gt 31, 3) := by decide +kernel
theorem dX10_greed_45 : decode cX10_greed 45 = .ok (.aload_n 0, 1) := by decide +kernel
theorem dX10_greed_46 : decode cX10_greed 46 = .ok (.iload_n 1, 1) := by decide +kernel
theorem dX10_greed_47 : decode cX10_greed 47 = .ok (.iload 5, 2) := by decide +kernel
theorem dX10_greed_49 : decode cX10_greed 49 = .ok (.invokevirtual 335, 3) := by decide +kernel
theorem dX10_greed_52 : decode cX10_greed 52 = .ok (.istore 6, 2) := by decide +kernel
theorem dX10_greed_54 : decode cX10_greed 54 = .ok (.iload 6, 2) := by decide +kernel
theorem dX10_greed_56 : decode cX10_greed 56 = .ok (.iload_n 3, 1) := by decide +kernel
theorem dX10_greed_57 : decode cX10_greed 57 = .ok (.if_icmp .le 10, 3) := by decide +kernel
theorem dX10_greed_60 : decode cX10_greed 60 = .ok (.iload 6, 2) := by decide +kernel
theorem dX10_greed_62 : decode cX10_greed 62 = .ok (.istore_n 3, 1) := by decide +kernel
theorem dX10_greed_63 : decode cX10_greed 63 = .ok (.iload 5, 2) := by decide +kernel
theorem dX10_greed_65 : decode cX10_greed 65 = .ok (.istore 4, 2) := by decide +kernel
theorem dX10_greed_67 : decode cX10_greed 67 = .ok (.iinc 5 1, 3) := by decide +kernel
theorem dX10_greed_70 : decode cX10_greed 70 = .ok (.goto (-32), 3) := by decide +kernel
theorem dX10_greed_73 : decode cX10_greed 73 = .ok (.aload_n 0, 1) := by decide +kernel
theorem dX10_greed_74 : decode cX10_greed 74 = .ok (.getfield 19, 3) := by decide +kernel
theorem dX10_greed_77 : decode cX10_greed 77 = .ok (.iload_n 3, 1) := by decide +kernel
theorem dX10_greed_78 : decode cX10_greed 78 = .ok (.i2l, 1) := by decide +kernel
theorem dX10_greed_79 : decode cX10_greed 79 = .ok (.iload_n 2, 1) := by decide +kernel
theorem dX10_greed_80 : decode cX10_greed 80 = .ok (.i2l, 1) := by decide +kernel
theorem dX10_greed_81 : decode cX10_greed 81 = .ok (.invokevirtual 242, 3) := by decide +kernel
theorem dX10_greed_84 : decode cX10_greed 84 = .ok (.iload 4, 2) := by decide +kernel
theorem dX10_greed_86 : decode cX10_greed 86 = .ok (.ireturn, 1) := by decide +kernel
theorem dX10_law_0 : decode cX10_law 0 = .ok (.aload_n 0, 1) := by decide +kernel
theorem dX10_law_1 : decode cX10_law 1 = .ok (.invokevirtual 133, 3) := by decide +kernel
theorem dX10_law_4 : decode cX10_law 4 = .ok (.istore_n 2, 1) := by decide +kernel
theorem dX10_law_5 : decode cX10_law 5 = .ok (.aload_n 0, 1) := by decide +kernel
theorem dX10_law_6 : decode cX10_law 6 = .ok (.iload_n 1, 1) := by decide +kernel
theorem dX10_law_7 : decode cX10_law 7 = .ok (.invokevirtual 191, 3) := by decide +kernel
theorem dX10_law_10 : decode cX10_law 10 = .ok (.ifCond .ne 6, 3) := by decide +kernel
theorem dX10_law_13 : decode cX10_law 13 = .ok (.bipush (-100), 2) := by decide +kernel
theorem dX10_law_15 : decode cX10_law 15 = .ok (.ireturn, 1) := by decide +kernel
theorem dX10_law_16 : decode cX10_law 16 = .ok (.iload_n 2, 1) := by decide +kernel
theorem dX10_law_17 : decode cX10_law 17 = .ok (.ifCond .ge 5, 3) := by decide +kernel
theorem dX10_law_20 : decode cX10_law 20 = .ok (.iload_n 2, 1) := by decide +kernel
theorem dX10_law_21 : decode cX10_law 21 = .ok (.ireturn, 1) := by decide +kernel
theorem dX10_law_22 : decode cX10_law 22 = .ok (.aload_n 0, 1) := by decide +kernel
theorem dX10_law_23 : decode cX10_law 23 = .ok (.aload_n 0, 1) := by decide +kernel
theorem dX10_law_24 : decode cX10_law 24 = .ok (.getfield 92, 3) := by decide +kernel
theorem dX10_law_27 : decode cX10_law 27 = .ok (.iload_n 1, 1) := by decide +kernel
theorem dX10_law_28 : decode cX10_law 28 = .ok (.aload_n 0, 1) := by decide +kernel
theorem dX10_law_29 : decode cX10_law 29 = .ok (.getfield 77, 3) := by decide +kernel
theorem dX10_law_32 : decode cX10_law 32 = .ok (.invokevirtual 253, 3) := by decide +kernel
theorem dX10_law_35 : decode cX10_law 35 = .ok (.aload_n 0, 1) := by decide +kernel
theorem dX10_law_36 : decode cX10_law 36 = .ok (.aload_n 0, 1) := by decide +kernel
theorem dX10_law_37 : decode cX10_law 37 = .ok (.getfield 96, 3) := by decide +kernel
theorem dX10_law_40 : decode cX10_law 40 = .ok (.iload_n 1, 1) := by decide +kernel
theorem dX10_law_41 : decode cX10_law 41 = .ok (.aload_n 0, 1) := by decide +kernel
theorem dX10_law_42 : decode cX10_law 42 = .ok (.getfield 80, 3) := by decide +kernel
theorem dX10_law_45 : decode cX10_law 45 = .ok (.invokevirtual 253, 3) := by decide +kernel
theorem dX10_law_48 : decode cX10_law 48 = .ok (.iconst 0, 1) := by decide +kernel
theorem dX10_law_49 : decode cX10_law 49 = .ok (.istore_n 3, 1) := by decide +kernel
theorem dX10_law_50 : decode cX10_law 50 = .ok (.iconst 0, 1) := by decide +kernel
theorem dX10_law_51 : decode cX10_law 51 = .ok (.istore 4, 2) := by decide +kernel
theorem dX10_law_53 : decode cX10_law 53 = .ok (.iconst 0, 1) := by decide +kernel
theorem dX10_law_54 : decode cX10_law 54 = .ok (.istore 5, 2) := by decide +kernel
theorem dX10_law_56 : decode cX10_law 56 = .ok (.iconst 0, 1) := by decide +kernel
theorem dX10_law_57 : decode cX10_law 57 = .ok (.istore 6, 2) := by decide +kernel
theorem dX10_law_59 : decode cX10_law 59 = .ok (.iload 6, 2) := by decide +kernel
theorem dX10_law_61 : decode cX10_law 61 = .ok (.aload_n 0, 1) := by decide +kernel
theorem dX10_law_62 : decode cX10_law 62 = .ok (.getfield 26, 3) := by decide +kernel
theorem dX10_law_65 : decode cX10_law 65 = .ok (.getfield 127, 3) := by decide +kernel
theorem dX10_law_68 : decode cX10_law 68 = .ok (.if_icmp .ge 52, 3) := by decide +kernel
theorem dX10_law_71 : decode cX10_law 71 = .ok (.aload_n 0, 1) := by decide +kernel
theorem dX10_law_72 : decode cX10_law 72 = .ok (.getfield 80, 3) := by decide +kernel
theorem dX10_law_75 : decode cX10_law 75 = .ok (.iload 6, 2) := by decide +kernel
theorem dX10_law_77 : decode cX10_law 77 = .ok (.iaload, 1) := by decide +kernel
theorem dX10_law_78 : decode cX10_law 78 = .ok (.aload_n 0, 1) := by decide +kernel
theorem dX10_law_79 : decode cX10_law 79 = .ok (.getfield 77, 3) := by decide +kernel
theorem dX10_law_82 : decode cX10_law 82 = .ok (.iload 6, 2) := by decide +kernel
theorem dX10_law_84 : decode cX10_law 84 = .ok (.iaload, 1) := by decide +kernel
theorem dX10_law_85 : decode cX10_law 85 = .ok (.isub, 1) := by decide +kernel
theorem dX10_law_86 : decode cX10_law 86 = .ok (.istore 7, 2) := by decide +kernel
theorem dX10_law_88 : decode cX10_law 88 = .ok (.iload 5, 2) := by decide +kernel
theorem dX10_law_90 : decode cX10_law 90 = .ok (.iload 7, 2) := by decide +kernel
theorem dX10_law_92 : decode cX10_law 92 = .ok (.iadd, 1) := by decide +kernel
theorem dX10_law_93 : decode cX10_law 93 = .ok (.istore 5, 2) := by decide +kernel
theorem dX10_law_95 : decode cX10_law 95 = .ok (.iload 7, 2) := by decide +kernel
theorem dX10_law_97 : decode cX10_law 97 = .ok (.ifCond .le 9, 3) := by decide +kernel
theorem dX10_law_100 : decode cX10_law 100 = .ok (.iinc 3 1, 3) := by decide +kernel
theorem dX10_law_103 : decode cX10_law 103 = .ok (.goto 11, 3) := by decide +kernel
theorem dX10_law_106 : decode cX10_law 106 = .ok (.iload 7, 2) := by decide +kernel
theorem dX10_law_108 : decode cX10_law 108 = .ok (.ifCond .ge 6, 3) := by decide +kernel
theorem dX10_law_111 : decode cX10_law 111 = .ok (.iinc 4 1, 3) := by decide +kernel
theorem dX10_law_114 : decode cX10_law 114 = .ok (.iinc 6 1, 3) := by decide +kernel
theorem dX10_law_117 : decode cX10_law 117 = .ok (.goto (-58), 3) := by decide +kernel
theorem dX10_law_120 : decode cX10_law 120 = .ok (.aload_n 0, 1) := by decide +kernel
theorem dX10_law_121 : decode cX10_law 121 = .ok (.getfield 19, 3) := by decide +kernel
theorem dX10_law_124 : decode cX10_law 124 = .ok (.iload 4, 2) := by decide +kernel
theorem dX10_law_126 : decode cX10_law 126 = .ok (.i2l, 1) := by decide +kernel
theorem dX10_law_127 : decode cX10_law 127 = .ok (.iload 5, 2) := by decide +kernel
theorem dX10_law_129 : decode cX10_law 129 = .ok (.i2l, 1) := by decide +kernel
theorem dX10_law_130 : decode cX10_law 130 = .ok (.invokevirtual 242, 3) := by decide +kernel
theorem dX10_law_133 : decode cX10_law 133 = .ok (.iload_n 3, 1) := by decide +kernel
theorem dX10_law_134 : decode cX10_law 134 = .ok (.ireturn, 1) := by decide +kernel
theorem dX10_said_0 : decode cX10_said 0 = .ok (.aload_n 0, 1) := by decide +kernel
theorem dX10_said_1 : decode cX10_said 1 = .ok (.getfield 10, 3) := by decide +kernel
theorem dX10_said_4 : decode cX10_said 4 = .ok (.iconst 5, 1) := by decide +kernel
theorem dX10_said_5 : decode cX10_said 5 = .ok (.invokevirtual 263, 3) := by decide +kernel
theorem dX10_said_8 : decode cX10_said 8 = .ok (.aload_n 0, 1) := by decide +kernel
theorem dX10_said_9 : decode cX10_said 9 = .ok (.iconst 5, 1) := by decide +kernel
theorem dX10_said_10 : decode cX10_said 10 = .ok (.iconst 5, 1) := by decide +kernel
theorem dX10_said_11 : decode cX10_said 11 = .ok (.invokevirtual 266, 3) := by decide +kernel
theorem dX10_said_14 : decode cX10_said 14 = .ok (.istore_n 1, 1) := by decide +kernel
theorem dX10_said_15 : decode cX10_said 15 = .ok (.aload_n 0, 1) := by decide +kernel
theorem dX10_said_16 : decode cX10_said 16 = .ok (.getfield 10, 3) := by decide +kernel
theorem dX10_said_19 : decode cX10_said 19 = .ok (.iconst 0, 1) := by decide +kernel
theorem dX10_said_20 : decode cX10_said 20 = .ok (.putfield 113, 3) := by decide +kernel
theorem dX10_said_23 : decode cX10_said 23 = .ok (.iload_n 1, 1) := by decide +kernel
theorem dX10_said_24 : decode cX10_said 24 = .ok (.ifCond .ge 5, 3) := by decide +kernel
theorem dX10_said_27 : decode cX10_said 27 = .ok (.iload_n 1, 1) := by decide +kernel
theorem dX10_said_28 : decode cX10_said 28 = .ok (.ireturn, 1) := by decide +kernel
theorem dX10_said_29 : decode cX10_said 29 = .ok (.iconst 0, 1) := by decide +kernel
theorem dX10_said_30 : decode cX10_said 30 = .ok (.istore_n 2, 1) := by decide +kernel
theorem dX10_said_31 : decode cX10_said 31 = .ok (.iload_n 2, 1) := by decide +kernel
theorem dX10_said_32 : decode cX10_said 32 = .ok (.iconst 5, 1) := by decide +kernel
theorem dX10_said_33 : decode cX10_said 33 = .ok (.if_icmp .ge 27, 3) := by decide +kernel
theorem dX10_said_36 : decode cX10_said 36 = .ok (.aload_n 0, 1) := by decide +kernel
theorem dX10_said_37 : decode cX10_said 37 = .ok (.getfield 83, 3) := by decide +kernel
theorem dX10_said_40 : decode cX10_said 40 = .ok (.iload_n 2, 1) := by decide +kernel
theorem dX10_said_41 : decode cX10_said 41 = .ok (.aload_n 0, 1) := by decide +kernel
theorem dX10_said_42 : decode cX10_said 42 = .ok (.getfield 10, 3) := by decide +kernel
theorem dX10_said_45 : decode cX10_said 45 = .ok (.getfield 269, 3) := by decide +kernel
theorem dX10_said_48 : decode cX10_said 48 = .ok (.iload_n 2, 1) := by decide +kernel
theorem dX10_said_49 : decode cX10_said 49 = .ok (.iaload, 1) := by decide +kernel
theorem dX10_said_50 : decode cX10_said 50 = .ok (.bipush 48, 2) := by decide +kernel
theorem dX10_said_52 : decode cX10_said 52 = .ok (.isub, 1) := by decide +kernel
theorem dX10_said_53 : decode cX10_said 53 = .ok (.iastore, 1) := by decide +kernel
theorem dX10_said_54 : decode cX10_said 54 = .ok (.iinc 2 1, 3) := by decide +kernel
theorem dX10_said_57 : decode cX10_said 57 = .ok (.goto (-26), 3) := by decide +kernel
theorem dX10_said_60 : decode cX10_said 60 = .ok (.aload_n 0, 1) := by decide +kernel
theorem dX10_said_61 : decode cX10_said 61 = .ok (.getfield 19, 3) := by decide +kernel
theorem dX10_said_64 : decode cX10_said 64 = .ok (.invokevirtual 213, 3) := by decide +kernel
theorem dX10_said_67 : decode cX10_said 67 = .ok (.iconst 0, 1) := by decide +kernel
theorem dX10_said_68 : decode cX10_said 68 = .ok (.istore_n 2, 1) := by decide +kernel
theorem dX10_said_69 : decode cX10_said 69 = .ok (.iconst 1, 1) := by decide +kernel
theorem dX10_said_70 : decode cX10_said 70 = .ok (.istore_n 3, 1) := by decide +kernel
theorem dX10_said_71 : decode cX10_said 71 = .ok (.iload_n 3, 1) := by decide +kernel
theorem dX10_said_72 : decode cX10_said 72 = .ok (.iconst 4, 1) := by decide +kernel
theorem dX10_said_73 : decode cX10_said 73 = .ok (.if_icmp .gt 27, 3) := by decide +kernel
theorem dX10_said_76 : decode cX10_said 76 = .ok (.aload_n 0, 1) := by decide +kernel
theorem dX10_said_77 : decode cX10_said 77 = .ok (.getfield 26, 3) := by decide +kernel
theorem dX10_said_80 : decode cX10_said 80 = .ok (.getfield 127, 3) := by decide +kernel
theorem dX10_said_83 : decode cX10_said 83 = .ok (.ifCond .le 17, 3) := by decide +kernel
theorem dX10_said_86 : decode cX10_said 86 = .ok (.iload_n 2, 1) := by decide +kernel
theorem dX10_said_87 : decode cX10_said 87 = .ok (.aload_n 0, 1) := by decide +kernel
theorem dX10_said_88 : decode cX10_said 88 = .ok (.iload_n 3, 1) := by decide +kernel
theorem dX10_said_89 : decode cX10_said 89 = .ok (.invokevirtual 338, 3) := by decide +kernel
theorem dX10_said_92 : decode cX10_said 92 = .ok (.iadd, 1) := by decide +kernel
theorem dX10_said_93 : decode cX10_said 93 = .ok (.istore_n 2, 1) := by decide +kernel
theorem dX10_said_94 : decode cX10_said 94 = .ok (.iinc 3 1, 3) := by decide +kernel
theorem dX10_said_97 : decode cX10_said 97 = .ok (.goto (-26), 3) := by decide +kernel
theorem dX10_said_100 : decode cX10_said 100 = .ok (.iload_n 2, 1) := by decide +kernel
theorem dX10_said_101 : decode cX10_said 101 = .ok (.ireturn, 1) := by decide +kernel
theorem dX10_ask_0 : decode cX10_ask 0 = .ok (.aload_n 0, 1) := by decide +kernel
theorem dX10_ask_1 : decode cX10_ask 1 = .ok (.getfield 26, 3) := by decide +kernel
theorem dX10_ask_4 : decode cX10_ask 4 = .ok (.getfield 127, 3) := by decide +kernel
theorem dX10_ask_7 : decode cX10_ask 7 = .ok (.ifCond .ne 6, 3) := by decide +kernel
theorem dX10_ask_10 : decode cX10_ask 10 = .ok (.bipush (-2), 2) := by decide +kernel
theorem dX10_ask_12 : decode cX10_ask 12 = .ok (.ireturn, 1) := by decide +kernel
theorem dX10_ask_13 : decode cX10_ask 13 = .ok (.iconst 0, 1) := by decide +kernel
theorem dX10_ask_14 : decode cX10_ask 14 = .ok (.istore_n 1, 1) := by decide +kernel
theorem dX10_ask_15 : decode cX10_ask 15 = .ok (.aload_n 0, 1) := by decide +kernel
theorem dX10_ask_16 : decode cX10_ask 16 = .ok (.getfield 26, 3) := by decide +kernel
theorem dX10_ask_19 : decode cX10_ask 19 = .ok (.iconst 0, 1) := by decide +kernel
theorem dX10_ask_20 : decode cX10_ask 20 = .ok (.invokevirtual 341, 3) := by decide +kernel
theorem dX10_ask_23 : decode cX10_ask 23 = .ok (.istore_n 2, 1) := by decide +kernel
theorem dX10_ask_24 : decode cX10_ask 24 = .ok (.iconst 1, 1) := by decide +kernel
theorem dX10_ask_25 : decode cX10_ask 25 = .ok (.istore_n 3, 1) := by decide +kernel
theorem dX10_ask_26 : decode cX10_ask 26 = .ok (.iload_n 3, 1) := by decide +kernel
theorem dX10_ask_27 : decode cX10_ask 27 = .ok (.iconst 5, 1) := by decide +kernel
theorem dX10_ask_28 : decode cX10_ask 28 = .ok (.if_icmp .ge 30, 3) := by decide +kernel
theorem dX10_ask_31 : decode cX10_ask 31 = .ok (.aload_n 0, 1) := by decide +kernel
theorem dX10_ask_32 : decode cX10_ask 32 = .ok (.getfield 26, 3) := by decide +kernel
theorem dX10_ask_35 : decode cX10_ask 35 = .ok (.iload_n 3, 1) := by decide +kernel
theorem dX10_ask_36 : decode cX10_ask 36 = .ok (.invokevirtual 341, 3) := by decide +kernel
theorem dX10_ask_39 : decode cX10_ask 39 = .ok (.istore 4, 2) := by decide +kernel
theorem dX10_ask_41 : decode cX10_ask 41 = .ok (.iload 4, 2) := by decide +kernel
theorem dX10_ask_43 : decode cX10_ask 43 = .ok (.iload_n 2, 1) := by decide +kernel
theorem dX10_ask_44 : decode cX10_ask 44 = .ok (.if_icmp .ge 8, 3) := by decide +kernel
theorem dX10_ask_47 : decode cX10_ask 47 = .ok (.iload_n 3, 1) := by decide +kernel
theorem dX10_ask_48 : decode cX10_ask 48 = .ok (.istore_n 1, 1) := by decide +kernel
theorem dX10_ask_49 : decode cX10_ask 49 = .ok (.iload 4, 2) := by decide +kernel
theorem dX10_ask_51 : decode cX10_ask 51 = .ok (.istore_n 2, 1) := by decide +kernel
theorem dX10_ask_52 : decode cX10_ask 52 = .ok (.iinc 3 1, 3) := by decide +kernel
theorem dX10_ask_55 : decode cX10_ask 55 = .ok (.goto (-29), 3) := by decide +kernel
theorem dX10_ask_58 : decode cX10_ask 58 = .ok (.aload_n 0, 1) := by decide +kernel
theorem dX10_ask_59 : decode cX10_ask 59 = .ok (.getfield 19, 3) := by decide +kernel
theorem dX10_ask_62 : decode cX10_ask 62 = .ok (.iload_n 2, 1) := by decide +kernel
theorem dX10_ask_63 : decode cX10_ask 63 = .ok (.i2l, 1) := by decide +kernel
theorem dX10_ask_64 : decode cX10_ask 64 = .ok (.invokevirtual 236, 3) := by decide +kernel
theorem dX10_ask_67 : decode cX10_ask 67 = .ok (.iload_n 1, 1) := by decide +kernel
theorem dX10_ask_68 : decode cX10_ask 68 = .ok (.ireturn, 1) := by decide +kernel
theorem dX10_years_0 : decode cX10_years 0 = .ok (.aload_n 0, 1) := by decide +kernel
theorem dX10_years_1 : decode cX10_years 1 = .ok (.getfield 103, 3) := by decide +kernel
theorem dX10_years_4 : decode cX10_years 4 = .ok (.ifCond .eq 13, 3) := by decide +kernel
theorem dX10_years_7 : decode cX10_years 7 = .ok (.aload_n 0, 1) := by decide +kernel
theorem dX10_years_8 : decode cX10_years 8 = .ok (.getfield 26, 3) := by decide +kernel
theorem dX10_years_11 : decode cX10_years 11 = .ok (.getfield 127, 3) := by decide +kernel
theorem dX10_years_14 : decode cX10_years 14 = .ok (.ifCond .ne 6, 3) := by decide +kernel
theorem dX10_years_17 : decode cX10_years 17 = .ok (.bipush (-2), 2) := by decide +kernel
theorem dX10_years_19 : decode cX10_years 19 = .ok (.ireturn, 1) := by decide +kernel
theorem dX10_years_20 : decode cX10_years 20 = .ok (.iload_n 2, 1) := by decide +kernel
theorem dX10_years_21 : decode cX10_years 21 = .ok (.iconst 1, 1) := by decide +kernel
theorem dX10_years_22 : decode cX10_years 22 = .ok (.if_icmp .lt 9, 3) := by decide +kernel
theorem dX10_years_25 : decode cX10_years 25 = .ok (.iload_n 2, 1) := by decide +kernel
theorem dX10_years_26 : decode cX10_years 26 = .ok (.bipush 60, 2) := by decide +kernel
theorem dX10_years_28 : decode cX10_years 28 = .ok (.if_icmp .le 5, 3) := by decide +kernel
theorem dX10_years_31 : decode cX10_years 31 = .ok (.iconst (-1), 1) := by decide +kernel
theorem dX10_years_32 : decode cX10_years 32 = .ok (.ireturn, 1) := by decide +kernel
theorem dX10_years_33 : decode cX10_years 33 = .ok (.aload_n 0, 1) := by decide +kernel
theorem dX10_years_34 : decode cX10_years 34 = .ok (.getfield 47, 3) := by decide +kernel
theorem dX10_years_37 : decode cX10_years 37 = .ok (.aload_n 0, 1) := by decide +kernel
theorem dX10_years_38 : decode cX10_years 38 = .ok (.getfield 40, 3) := by decide +kernel
theorem dX10_years_41 : decode cX10_years 41 = .ok (.invokevirtual 223, 3) := by decide +kernel
theorem dX10_years_44 : decode cX10_years 44 = .ok (.new 344, 3) := by decide +kernel
theorem dX10_years_47 : decode cX10_years 47 = .ok (.dup, 1) := by decide +kernel
theorem dX10_years_48 : decode cX10_years 48 = .ok (.iload_n 1, 1) := by decide +kernel
theorem dX10_years_49 : decode cX10_years 49 = .ok (.invokespecial 346, 3) := by decide +kernel
theorem dX10_years_52 : decode cX10_years 52 = .ok (.astore_n 3, 1) := by decide +kernel
theorem dX10_years_53 : decode cX10_years 53 = .ok (.aload_n 0, 1) := by decide +kernel
theorem dX10_years_54 : decode cX10_years 54 = .ok (.getfield 40, 3) := by decide +kernel
theorem dX10_years_57 : decode cX10_years 57 = .ok (.getfield 174, 3) := by decide +kernel
theorem dX10_years_60 : decode cX10_years 60 = .ok (.invokestatic 308, 3) := by decide +kernel
theorem dX10_years_63 : decode cX10_years 63 = .ok (.istore 4, 2) := by decide +kernel
theorem dX10_years_65 : decode cX10_years 65 = .ok (.iconst 0, 1) := by decide +kernel
theorem dX10_years_66 : decode cX10_years 66 = .ok (.istore 5, 2) := by decide +kernel
theorem dX10_years_68 : decode cX10_years 68 = .ok (.iconst 0, 1) := by decide +kernel
theorem dX10_years_69 : decode cX10_years 69 = .ok (.istore 6, 2) := by decide +kernel
theorem dX10_years_71 : decode cX10_years 71 = .ok (.iconst 0, 1) := by decide +kernel
theorem dX10_years_72 : decode cX10_years 72 = .ok (.istore 7, 2) := by decide +kernel
theorem dX10_years_74 : decode cX10_years 74 = .ok (.iload 7, 2) := by decide +kernel
theorem dX10_years_76 : decode cX10_years 76 = .ok (.iload_n 2, 1) := by decide +kernel
theorem dX10_years_77 : decode cX10_years 77 = .ok (.if_icmp .ge 47, 3) := by decide +kernel
theorem dX10_years_80 : decode cX10_years 80 = .ok (.aload_n 0, 1) := by decide +kernel
theorem dX10_years_81 : decode cX10_years 81 = .ok (.aload_n 3, 1) := by decide +kernel
theorem dX10_years_82 : decode cX10_years 82 = .ok (.invokevirtual 348, 3) := by decide +kernel
theorem dX10_years_85 : decode cX10_years 85 = .ok (.istore 8, 2) := by decide +kernel
theorem dX10_years_87 : decode cX10_years 87 = .ok (.iload 8, 2) := by decide +kernel
theorem dX10_years_89 : decode cX10_years 89 = .ok (.ifCond .ge 9, 3) := by decide +kernel
theorem dX10_years_92 : decode cX10_years 92 = .ok (.iinc 6 1, 3) := by decide +kernel
theorem dX10_years_95 : decode cX10_years 95 = .ok (.goto 10, 3) := by decide +kernel
theorem dX10_years_98 : decode cX10_years 98 = .ok (.iload 5, 2) := by decide +kernel
theorem dX10_years_100 : decode cX10_years 100 = .ok (.iload 8, 2) := by decide +kernel
theorem dX10_years_102 : decode cX10_years 102 = .ok (.iadd, 1) := by decide +kernel
theorem dX10_years_103 : decode cX10_years 103 = .ok (.istore 5, 2) := by decide +kernel
theorem dX10_years_105 : decode cX10_years 105 = .ok (.aload_n 0, 1) := by decide +kernel
theorem dX10_years_106 : decode cX10_years 106 = .ok (.getfield 40, 3) := by decide +kernel
theorem dX10_years_109 : decode cX10_years 109 = .ok (.dup, 1) := by decide +kernel
theorem dX10_years_110 : decode cX10_years 110 = .ok (.getfield 206, 3) := by decide +kernel
theorem dX10_years_113 : decode cX10_years 113 = .ok (.iconst 1, 1) := by decide +kernel
theorem dX10_years_114 : decode cX10_years 114 = .ok (.iadd, 1) := by decide +kernel
theorem dX10_years_115 : decode cX10_years 115 = .ok (.putfield 206, 3) := by decide +kernel
theorem dX10_years_118 : decode cX10_years 118 = .ok (.iinc 7 1, 3) := by decide +kernel
theorem dX10_years_121 : decode cX10_years 121 = .ok (.goto (-47), 3) := by decide +kernel
theorem dX10_years_124 : decode cX10_years 124 = .ok (.aload_n 0, 1) := by decide +kernel
theorem dX10_years_125 : decode cX10_years 125 = .ok (.getfield 40, 3) := by decide +kernel
theorem dX10_years_128 : decode cX10_years 128 = .ok (.getfield 174, 3) := by decide +kernel
theorem dX10_years_131 : decode cX10_years 131 = .ok (.invokestatic 308, 3) := by decide +kernel
theorem dX10_years_134 : decode cX10_years 134 = .ok (.iload 4, 2) := by decide +kernel
theorem dX10_years_136 : decode cX10_years 136 = .ok (.isub, 1) := by decide +kernel
theorem dX10_years_137 : decode cX10_years 137 = .ok (.istore 7, 2) := by decide +kernel
theorem dX10_years_139 : decode cX10_years 139 = .ok (.aload_n 0, 1) := by decide +kernel
theorem dX10_years_140 : decode cX10_years 140 = .ok (.getfield 47, 3) := by decide +kernel
theorem dX10_years_143 : decode cX10_years 143 = .ok (.aload_n 0, 1) := by decide +kernel
theorem dX10_years_144 : decode cX10_years 144 = .ok (.getfield 40, 3) := by decide +kernel
theorem dX10_years_147 : decode cX10_years 147 = .ok (.invokevirtual 352, 3) := by decide +kernel
theorem dX10_years_150 : decode cX10_years 150 = .ok (.aload_n 0, 1) := by decide +kernel
theorem dX10_years_151 : decode cX10_years 151 = .ok (.getfield 19, 3) := by decide +kernel
theorem dX10_years_154 : decode cX10_years 154 = .ok (.iload 5, 2) := by decide +kernel
theorem dX10_years_156 : decode cX10_years 156 = .ok (.i2l, 1) := by decide +kernel
theorem dX10_years_157 : decode cX10_years 157 = .ok (.iload 6, 2) := by decide +kernel
theorem dX10_years_159 : decode cX10_years 159 = .ok (.i2l, 1) := by decide +kernel
theorem dX10_years_160 : decode cX10_years 160 = .ok (.invokevirtual 242, 3) := by decide +kernel
theorem dX10_years_163 : decode cX10_years 163 = .ok (.iload 7, 2) := by decide +kernel
theorem dX10_years_165 : decode cX10_years 165 = .ok (.ireturn, 1) := by decide +kernel
theorem dX10_keep_0 : decode cX10_keep 0 = .ok (.iload_n 1, 1) := by decide +kernel
theorem dX10_keep_1 : decode cX10_keep 1 = .ok (.ifCond .lt 8, 3) := by decide +kernel
theorem dX10_keep_4 : decode cX10_keep 4 = .ok (.iload_n 1, 1) := by decide +kernel
theorem dX10_keep_5 : decode cX10_keep 5 = .ok (.iconst 2, 1) := by decide +kernel
theorem dX10_keep_6 : decode cX10_keep 6 = .ok (.if_icmp .lt 5, 3) := by decide +kernel
theorem dX10_keep_9 : decode cX10_keep 9 = .ok (.iconst 0, 1) := by decide +kernel
theorem dX10_keep_10 : decode cX10_keep 10 = .ok (.ireturn, 1) := by decide +kernel
theorem dX10_keep_11 : decode cX10_keep 11 = .ok (.aload_n 0, 1) := by decide +kernel
theorem dX10_keep_12 : decode cX10_keep 12 = .ok (.getfield 51, 3) := by decide +kernel
theorem dX10_keep_15 : decode cX10_keep 15 = .ok (.iload_n 1, 1) := by decide +kernel
theorem dX10_keep_16 : decode cX10_keep 16 = .ok (.aaload, 1) := by decide +kernel
theorem dX10_keep_17 : decode cX10_keep 17 = .ok (.aload_n 0, 1) := by decide +kernel
theorem dX10_keep_18 : decode cX10_keep 18 = .ok (.getfield 40, 3) := by decide +kernel
theorem dX10_keep_21 : decode cX10_keep 21 = .ok (.invokevirtual 355, 3) := by decide +kernel
theorem dX10_keep_24 : decode cX10_keep 24 = .ok (.aload_n 0, 1) := by decide +kernel
theorem dX10_keep_25 : decode cX10_keep 25 = .ok (.getfield 55, 3) := by decide +kernel
theorem dX10_keep_28 : decode cX10_keep 28 = .ok (.iload_n 1, 1) := by decide +kernel
theorem dX10_keep_29 : decode cX10_keep 29 = .ok (.iconst 1, 1) := by decide +kernel
theorem dX10_keep_30 : decode cX10_keep 30 = .ok (.bastore, 1) := by decide +kernel
theorem dX10_keep_31 : decode cX10_keep 31 = .ok (.iconst 1, 1) := by decide +kernel
theorem dX10_keep_32 : decode cX10_keep 32 = .ok (.ireturn, 1) := by decide +kernel
theorem dX10_again_0 : decode cX10_again 0 = .ok (.iload_n 1, 1) := by decide +kernel
theorem dX10_again_1 : decode cX10_again 1 = .ok (.ifCond .lt 17, 3) := by decide +kernel
theorem dX10_again_4 : decode cX10_again 4 = .ok (.iload_n 1, 1) := by decide +kernel
theorem dX10_again_5 : decode cX10_again 5 = .ok (.iconst 2, 1) := by decide +kernel
theorem dX10_again_6 : decode cX10_again 6 = .ok (.if_icmp .ge 12, 3) := by decide +kernel
theorem dX10_again_9 : decode cX10_again 9 = .ok (.aload_n 0, 1) := by decide +kernel
theorem dX10_again_10 : decode cX10_again 10 = .ok (.getfield 55, 3) := by decide +kernel
theorem dX10_again_13 : decode cX10_again 13 = .ok (.iload_n 1, 1) := by decide +kernel
theorem dX10_again_14 : decode cX10_again 14 = .ok (.baload, 1) := by decide +kernel
theorem dX10_again_15 : decode cX10_again 15 = .ok (.ifCond .ne 5, 3) := by decide +kernel
theorem dX10_again_18 : decode cX10_again 18 = .ok (.iconst 0, 1) := by decide +kernel
theorem dX10_again_19 : decode cX10_again 19 = .ok (.ireturn, 1) := by decide +kernel
theorem dX10_again_20 : decode cX10_again 20 = .ok (.aload_n 0, 1) := by decide +kernel
theorem dX10_again_21 : decode cX10_again 21 = .ok (.getfield 40, 3) := by decide +kernel
theorem dX10_again_24 : decode cX10_again 24 = .ok (.aload_n 0, 1) := by decide +kernel
theorem dX10_again_25 : decode cX10_again 25 = .ok (.getfield 51, 3) := by decide +kernel
theorem dX10_again_28 : decode cX10_again 28 = .ok (.iload_n 1, 1) := by decide +kernel
theorem dX10_again_29 : decode cX10_again 29 = .ok (.aaload, 1) := by decide +kernel
theorem dX10_again_30 : decode cX10_again 30 = .ok (.invokevirtual 355, 3) := by decide +kernel
theorem dX10_again_33 : decode cX10_again 33 = .ok (.aload_n 0, 1) := by decide +kernel
theorem dX10_again_34 : decode cX10_again 34 = .ok (.getfield 47, 3) := by decide +kernel
theorem dX10_again_37 : decode cX10_again 37 = .ok (.iconst 0, 1) := by decide +kernel
theorem dX10_again_38 : decode cX10_again 38 = .ok (.putfield 249, 3) := by decide +kernel
theorem dX10_again_41 : decode cX10_again 41 = .ok (.iconst 1, 1) := by decide +kernel
theorem dX10_again_42 : decode cX10_again 42 = .ok (.ireturn, 1) := by decide +kernel
theorem dX10_count_0 : decode cX10_count 0 = .ok (.iload_n 1, 1) := by decide +kernel
theorem dX10_count_1 : decode cX10_count 1 = .ok (.tableswitch 150 0 11 #[63, 68, 76, 81, 89, 97, 105, 113, 118, 126, 134, 142], 63) := by decide +kernel
theorem dX10_count_64 : decode cX10_count 64 = .ok (.aload_n 0, 1) := by decide +kernel
theorem dX10_count_65 : decode cX10_count 65 = .ok (.getfield 99, 3) := by decide +kernel
theorem dX10_count_68 : decode cX10_count 68 = .ok (.ireturn, 1) := by decide +kernel
theorem dX10_count_69 : decode cX10_count 69 = .ok (.aload_n 0, 1) := by decide +kernel
theorem dX10_count_70 : decode cX10_count 70 = .ok (.getfield 26, 3) := by decide +kernel
theorem dX10_count_73 : decode cX10_count 73 = .ok (.getfield 127, 3) := by decide +kernel
theorem dX10_count_76 : decode cX10_count 76 = .ok (.ireturn, 1) := by decide +kernel
theorem dX10_count_77 : decode cX10_count 77 = .ok (.aload_n 0, 1) := by decide +kernel
theorem dX10_count_78 : decode cX10_count 78 = .ok (.getfield 103, 3) := by decide +kernel
theorem dX10_count_81 : decode cX10_count 81 = .ok (.ireturn, 1) := by decide +kernel
theorem dX10_count_82 : decode cX10_count 82 = .ok (.aload_n 0, 1) := by decide +kernel
theorem dX10_count_83 : decode cX10_count 83 = .ok (.getfield 33, 3) := by decide +kernel
theorem dX10_count_86 : decode cX10_count 86 = .ok (.getfield 132, 3) := by decide +kernel
theorem dX10_count_89 : decode cX10_count 89 = .ok (.ireturn, 1) := by decide +kernel
theorem dX10_count_90 : decode cX10_count 90 = .ok (.aload_n 0, 1) := by decide +kernel
theorem dX10_count_91 : decode cX10_count 91 = .ok (.getfield 40, 3) := by decide +kernel
theorem dX10_count_94 : decode cX10_count 94 = .ok (.getfield 206, 3) := by decide +kernel
theorem dX10_count_97 : decode cX10_count 97 = .ok (.ireturn, 1) := by decide +kernel
theorem dX10_count_98 : decode cX10_count 98 = .ok (.aload_n 0, 1) := by decide +kernel
theorem dX10_count_99 : decode cX10_count 99 = .ok (.getfield 40, 3) := by decide +kernel
theorem dX10_count_102 : decode cX10_count 102 = .ok (.getfield 174, 3) := by decide +kernel
theorem dX10_count_105 : decode cX10_count 105 = .ok (.ireturn, 1) := by decide +kernel
theorem dX10_count_106 : decode cX10_count 106 = .ok (.aload_n 0, 1) := by decide +kernel
theorem dX10_count_107 : decode cX10_count 107 = .ok (.getfield 40, 3) := by decide +kernel
theorem dX10_count_110 : decode cX10_count 110 = .ok (.invokevirtual 358, 3) := by decide +kernel
theorem dX10_count_113 : decode cX10_count 113 = .ok (.ireturn, 1) := by decide +kernel
theorem dX10_count_114 : decode cX10_count 114 = .ok (.aload_n 0, 1) := by decide +kernel
theorem dX10_count_115 : decode cX10_count 115 = .ok (.invokevirtual 203, 3) := by decide +kernel
theorem dX10_count_118 : decode cX10_count 118 = .ok (.ireturn, 1) := by decide +kernel
theorem dX10_count_119 : decode cX10_count 119 = .ok (.aload_n 0, 1) := by decide +kernel
theorem dX10_count_120 : decode cX10_count 120 = .ok (.getfield 26, 3) := by decide +kernel
theorem dX10_count_123 : decode cX10_count 123 = .ok (.invokevirtual 361, 3) := by decide +kernel
theorem dX10_count_126 : decode cX10_count 126 = .ok (.ireturn, 1) := by decide +kernel
theorem dX10_count_127 : decode cX10_count 127 = .ok (.aload_n 0, 1) := by decide +kernel
theorem dX10_count_128 : decode cX10_count 128 = .ok (.getfield 47, 3) := by decide +kernel
theorem dX10_count_131 : decode cX10_count 131 = .ok (.getfield 249, 3) := by decide +kernel
theorem dX10_count_134 : decode cX10_count 134 = .ok (.ireturn, 1) := by decide +kernel
theorem dX10_count_135 : decode cX10_count 135 = .ok (.aload_n 0, 1) := by decide +kernel
theorem dX10_count_136 : decode cX10_count 136 = .ok (.getfield 19, 3) := by decide +kernel
theorem dX10_count_139 : decode cX10_count 139 = .ok (.getfield 364, 3) := by decide +kernel
theorem dX10_count_142 : decode cX10_count 142 = .ok (.ireturn, 1) := by decide +kernel
theorem dX10_count_143 : decode cX10_count 143 = .ok (.aload_n 0, 1) := by decide +kernel
theorem dX10_count_144 : decode cX10_count 144 = .ok (.getfield 10, 3) := by decide +kernel
theorem dX10_count_147 : decode cX10_count 147 = .ok (.getfield 113, 3) := by decide +kernel
theorem dX10_count_150 : decode cX10_count 150 = .ok (.ireturn, 1) := by decide +kernel
theorem dX10_count_151 : decode cX10_count 151 = .ok (.iconst (-1), 1) := by decide +kernel
theorem dX10_count_152 : decode cX10_count 152 = .ok (.ireturn, 1) := by decide +kernel
theorem dX10_row_0 : decode cX10_row 0 = .ok (.iload_n 1, 1) := by decide +kernel
theorem dX10_row_1 : decode cX10_row 1 = .ok (.ifCond .lt 14, 3) := by decide +kernel
theorem dX10_row_4 : decode cX10_row 4 = .ok (.iload_n 1, 1) := by decide +kernel
theorem dX10_row_5 : decode cX10_row 5 = .ok (.aload_n 0, 1) := by decide +kernel
theorem dX10_row_6 : decode cX10_row 6 = .ok (.getfield 19, 3) := by decide +kernel
theorem dX10_row_9 : decode cX10_row 9 = .ok (.getfield 364, 3) := by decide +kernel
theorem dX10_row_12 : decode cX10_row 12 = .ok (.if_icmp .lt 11, 3) := by decide +kernel
theorem dX10_row_15 : decode cX10_row 15 = .ok (.new 139, 3) := by decide +kernel
theorem dX10_row_18 : decode cX10_row 18 = .ok (.dup, 1) := by decide +kernel
theorem dX10_row_19 : decode cX10_row 19 = .ok (.invokespecial 141, 3) := by decide +kernel
theorem dX10_row_22 : decode cX10_row 22 = .ok (.athrow, 1) := by decide +kernel
theorem dX10_row_23 : decode cX10_row 23 = .ok (.aload_n 0, 1) := by decide +kernel
theorem dX10_row_24 : decode cX10_row 24 = .ok (.getfield 19, 3) := by decide +kernel
theorem dX10_row_27 : decode cX10_row 27 = .ok (.getfield 365, 3) := by decide +kernel
theorem dX10_row_30 : decode cX10_row 30 = .ok (.iload_n 1, 1) := by decide +kernel
theorem dX10_row_31 : decode cX10_row 31 = .ok (.laload, 1) := by decide +kernel
theorem dX10_row_32 : decode cX10_row 32 = .ok (.lreturn, 1) := by decide +kernel
theorem dX10_isStation_0 : decode cX10_isStation 0 = .ok (.iload_n 1, 1) := by decide +kernel
theorem dX10_isStation_1 : decode cX10_isStation 1 = .ok (.ifCond .lt 15, 3) := by decide +kernel
theorem dX10_isStation_4 : decode cX10_isStation 4 = .ok (.iload_n 1, 1) := by decide +kernel
theorem dX10_isStation_5 : decode cX10_isStation 5 = .ok (.aload_n 0, 1) := by decide +kernel
theorem dX10_isStation_6 : decode cX10_isStation 6 = .ok (.getfield 99, 3) := by decide +kernel
theorem dX10_isStation_9 : decode cX10_isStation 9 = .ok (.if_icmp .ge 7, 3) := by decide +kernel
theorem dX10_isStation_12 : decode cX10_isStation 12 = .ok (.iconst 1, 1) := by decide +kernel
theorem dX10_isStation_13 : decode cX10_isStation 13 = .ok (.goto 4, 3) := by decide +kernel
theorem dX10_isStation_16 : decode cX10_isStation 16 = .ok (.iconst 0, 1) := by decide +kernel
theorem dX10_isStation_17 : decode cX10_isStation 17 = .ok (.ireturn, 1) := by decide +kernel
theorem dX10_isWord_0 : decode cX10_isWord 0 = .ok (.iload_n 1, 1) := by decide +kernel
theorem dX10_isWord_1 : decode cX10_isWord 1 = .ok (.ifCond .lt 18, 3) := by decide +kernel
theorem dX10_isWord_4 : decode cX10_isWord 4 = .ok (.iload_n 1, 1) := by decide +kernel
theorem dX10_isWord_5 : decode cX10_isWord 5 = .ok (.aload_n 0, 1) := by decide +kernel
theorem dX10_isWord_6 : decode cX10_isWord 6 = .ok (.getfield 26, 3) := by decide +kernel
theorem dX10_isWord_9 : decode cX10_isWord 9 = .ok (.getfield 127, 3) := by decide +kernel
theorem dX10_isWord_12 : decode cX10_isWord 12 = .ok (.if_icmp .ge 7, 3) := by decide +kernel
theorem dX10_isWord_15 : decode cX10_isWord 15 = .ok (.iconst 1, 1) := by decide +kernel
theorem dX10_isWord_16 : decode cX10_isWord 16 = .ok (.goto 4, 3) := by decide +kernel
theorem dX10_isWord_19 : decode cX10_isWord 19 = .ok (.iconst 0, 1) := by decide +kernel
theorem dX10_isWord_20 : decode cX10_isWord 20 = .ok (.ireturn, 1) := by decide +kernel
theorem dX10_isTraveller_0 : decode cX10_isTraveller 0 = .ok (.iload_n 1, 1) := by decide +kernel
theorem dX10_isTraveller_1 : decode cX10_isTraveller 1 = .ok (.ifCond .lt 15, 3) := by decide +kernel
theorem dX10_isTraveller_4 : decode cX10_isTraveller 4 = .ok (.iload_n 1, 1) := by decide +kernel
theorem dX10_isTraveller_5 : decode cX10_isTraveller 5 = .ok (.aload_n 0, 1) := by decide +kernel
theorem dX10_isTraveller_6 : decode cX10_isTraveller 6 = .ok (.getfield 103, 3) := by decide +kernel
theorem dX10_isTraveller_9 : decode cX10_isTraveller 9 = .ok (.if_icmp .ge 7, 3) := by decide +kernel
theorem dX10_isTraveller_12 : decode cX10_isTraveller 12 = .ok (.iconst 1, 1) := by decide +kernel
theorem dX10_isTraveller_13 : decode cX10_isTraveller 13 = .ok (.goto 4, 3) := by decide +kernel
theorem dX10_isTraveller_16 : decode cX10_isTraveller 16 = .ok (.iconst 0, 1) := by decide +kernel
theorem dX10_isTraveller_17 : decode cX10_isTraveller 17 = .ok (.ireturn, 1) := by decide +kernel
theorem dX10_isMeaning_0 : decode cX10_isMeaning 0 = .ok (.iload_n 0, 1) := by decide +kernel
theorem dX10_isMeaning_1 : decode cX10_isMeaning 1 = .ok (.ifCond .lt 13, 3) := by decide +kernel
theorem dX10_isMeaning_4 : decode cX10_isMeaning 4 = .ok (.iload_n 0, 1) := by decide +kernel
theorem dX10_isMeaning_5 : decode cX10_isMeaning 5 = .ok (.bipush 10, 2) := by decide +kernel
theorem dX10_isMeaning_7 : decode cX10_isMeaning 7 = .ok (.if_icmp .ge 7, 3) := by decide +kernel
theorem dX10_isMeaning_10 : decode cX10_isMeaning 10 = .ok (.iconst 1, 1) := by decide +kernel
theorem dX10_isMeaning_11 : decode cX10_isMeaning 11 = .ok (.goto 4, 3) := by decide +kernel
theorem dX10_isMeaning_14 : decode cX10_isMeaning 14 = .ok (.iconst 0, 1) := by decide +kernel
theorem dX10_isMeaning_15 : decode cX10_isMeaning 15 = .ok (.ireturn, 1) := by decide +kernel
theorem dX10_stationsNeeded_0 : decode cX10_stationsNeeded 0 = .ok (.iconst 1, 1) := by decide +kernel
theorem dX10_stationsNeeded_1 : decode cX10_stationsNeeded 1 = .ok (.istore_n 1, 1) := by decide +kernel
theorem dX10_stationsNeeded_2 : decode cX10_stationsNeeded 2 = .ok (.iconst 0, 1) := by decide +kernel
theorem dX10_stationsNeeded_3 : decode cX10_stationsNeeded 3 = .ok (.istore_n 2, 1) := by decide +kernel
theorem dX10_stationsNeeded_4 : decode cX10_stationsNeeded 4 = .ok (.iload_n 2, 1) := by decide +kernel
theorem dX10_stationsNeeded_5 : decode cX10_stationsNeeded 5 = .ok (.aload_n 0, 1) := by decide +kernel
theorem dX10_stationsNeeded_6 : decode cX10_stationsNeeded 6 = .ok (.getfield 103, 3) := by decide +kernel
theorem dX10_stationsNeeded_9 : decode cX10_stationsNeeded 9 = .ok (.if_icmp .ge 25, 3) := by decide +kernel
theorem dX10_stationsNeeded_12 : decode cX10_stationsNeeded 12 = .ok (.iload_n 1, 1) := by decide +kernel
theorem dX10_stationsNeeded_13 : decode cX10_stationsNeeded 13 = .ok (.aload_n 0, 1) := by decide +kernel
theorem dX10_stationsNeeded_14 : decode cX10_stationsNeeded 14 = .ok (.getfield 40, 3) := by decide +kernel
theorem dX10_stationsNeeded_17 : decode cX10_stationsNeeded 17 = .ok (.getfield 162, 3) := by decide +kernel
theorem dX10_stationsNeeded_20 : decode cX10_stationsNeeded 20 = .ok (.iload_n 2, 1) := by decide +kernel
theorem dX10_stationsNeeded_21 : decode cX10_stationsNeeded 21 = .ok (.iaload, 1) := by decide +kernel
theorem dX10_stationsNeeded_22 : decode cX10_stationsNeeded 22 = .ok (.iconst 1, 1) := by decide +kernel
theorem dX10_stationsNeeded_23 : decode cX10_stationsNeeded 23 = .ok (.iadd, 1) := by decide +kernel
theorem dX10_stationsNeeded_24 : decode cX10_stationsNeeded 24 = .ok (.invokestatic 369, 3) := by decide +kernel
theorem dX10_stationsNeeded_27 : decode cX10_stationsNeeded 27 = .ok (.istore_n 1, 1) := by decide +kernel
theorem dX10_stationsNeeded_28 : decode cX10_stationsNeeded 28 = .ok (.iinc 2 1, 3) := by decide +kernel
theorem dX10_stationsNeeded_31 : decode cX10_stationsNeeded 31 = .ok (.goto (-27), 3) := by decide +kernel
theorem dX10_stationsNeeded_34 : decode cX10_stationsNeeded 34 = .ok (.iconst 0, 1) := by decide +kernel
theorem dX10_stationsNeeded_35 : decode cX10_stationsNeeded 35 = .ok (.istore_n 2, 1) := by decide +kernel
theorem dX10_stationsNeeded_36 : decode cX10_stationsNeeded 36 = .ok (.iload_n 2, 1) := by decide +kernel
theorem dX10_stationsNeeded_37 : decode cX10_stationsNeeded 37 = .ok (.aload_n 0, 1) := by decide +kernel
theorem dX10_stationsNeeded_38 : decode cX10_stationsNeeded 38 = .ok (.getfield 33, 3) := by decide +kernel
theorem dX10_stationsNeeded_41 : decode cX10_stationsNeeded 41 = .ok (.getfield 132, 3) := by decide +kernel
theorem dX10_stationsNeeded_44 : decode cX10_stationsNeeded 44 = .ok (.if_icmp .ge 25, 3) := by decide +kernel
theorem dX10_stationsNeeded_47 : decode cX10_stationsNeeded 47 = .ok (.iload_n 1, 1) := by decide +kernel
theorem dX10_stationsNeeded_48 : decode cX10_stationsNeeded 48 = .ok (.aload_n 0, 1) := by decide +kernel
theorem dX10_stationsNeeded_49 : decode cX10_stationsNeeded 49 = .ok (.getfield 33, 3) := by decide +kernel
theorem dX10_stationsNeeded_52 : decode cX10_stationsNeeded 52 = .ok (.getfield 190, 3) := by decide +kernel
theorem dX10_stationsNeeded_55 : decode cX10_stationsNeeded 55 = .ok (.iload_n 2, 1) := by decide +kernel
theorem dX10_stationsNeeded_56 : decode cX10_stationsNeeded 56 = .ok (.iaload, 1) := by decide +kernel
theorem dX10_stationsNeeded_57 : decode cX10_stationsNeeded 57 = .ok (.iconst 1, 1) := by decide +kernel
theorem dX10_stationsNeeded_58 : decode cX10_stationsNeeded 58 = .ok (.iadd, 1) := by decide +kernel
theorem dX10_stationsNeeded_59 : decode cX10_stationsNeeded 59 = .ok (.invokestatic 369, 3) := by decide +kernel
theorem dX10_stationsNeeded_62 : decode cX10_stationsNeeded 62 = .ok (.istore_n 1, 1) := by decide +kernel
theorem dX10_stationsNeeded_63 : decode cX10_stationsNeeded 63 = .ok (.iinc 2 1, 3) := by decide +kernel
theorem dX10_stationsNeeded_66 : decode cX10_stationsNeeded 66 = .ok (.goto (-30), 3) := by decide +kernel
theorem dX10_stationsNeeded_69 : decode cX10_stationsNeeded 69 = .ok (.iload_n 1, 1) := by decide +kernel
theorem dX10_stationsNeeded_70 : decode cX10_stationsNeeded 70 = .ok (.ireturn, 1) := by decide +kernel
theorem dX10_pursesInAll_0 : decode cX10_pursesInAll 0 = .ok (.iconst 0, 1) := by decide +kernel
theorem dX10_pursesInAll_1 : decode cX10_pursesInAll 1 = .ok (.istore_n 1, 1) := by decide +kernel
theorem dX10_pursesInAll_2 : decode cX10_pursesInAll 2 = .ok (.iconst 0, 1) := by decide +kernel
theorem dX10_pursesInAll_3 : decode cX10_pursesInAll 3 = .ok (.istore_n 2, 1) := by decide +kernel
theorem dX10_pursesInAll_4 : decode cX10_pursesInAll 4 = .ok (.iload_n 2, 1) := by decide +kernel
theorem dX10_pursesInAll_5 : decode cX10_pursesInAll 5 = .ok (.aload_n 0, 1) := by decide +kernel
theorem dX10_pursesInAll_6 : decode cX10_pursesInAll 6 = .ok (.getfield 103, 3) := by decide +kernel
theorem dX10_pursesInAll_9 : decode cX10_pursesInAll 9 = .ok (.if_icmp .ge 21, 3) := by decide +kernel
theorem dX10_pursesInAll_12 : decode cX10_pursesInAll 12 = .ok (.iload_n 1, 1) := by decide +kernel
theorem dX10_pursesInAll_13 : decode cX10_pursesInAll 13 = .ok (.aload_n 0, 1) := by decide +kernel
theorem dX10_pursesInAll_14 : decode cX10_pursesInAll 14 = .ok (.getfield 40, 3) := by decide +kernel
theorem dX10_pursesInAll_17 : decode cX10_pursesInAll 17 = .ok (.getfield 165, 3) := by decide +kernel
theorem dX10_pursesInAll_20 : decode cX10_pursesInAll 20 = .ok (.iload_n 2, 1) := by decide +kernel
theorem dX10_pursesInAll_21 : decode cX10_pursesInAll 21 = .ok (.iaload, 1) := by decide +kernel
theorem dX10_pursesInAll_22 : decode cX10_pursesInAll 22 = .ok (.iadd, 1) := by decide +kernel
theorem dX10_pursesInAll_23 : decode cX10_pursesInAll 23 = .ok (.istore_n 1, 1) := by decide +kernel
theorem dX10_pursesInAll_24 : decode cX10_pursesInAll 24 = .ok (.iinc 2 1, 3) := by decide +kernel
theorem dX10_pursesInAll_27 : decode cX10_pursesInAll 27 = .ok (.goto (-23), 3) := by decide +kernel
theorem dX10_pursesInAll_30 : decode cX10_pursesInAll 30 = .ok (.iload_n 1, 1) := by decide +kernel
theorem dX10_pursesInAll_31 : decode cX10_pursesInAll 31 = .ok (.ireturn, 1) := by decide +kernel
theorem dX10_forget_0 : decode cX10_forget 0 = .ok (.aload_n 0, 1) := by decide +kernel
theorem dX10_forget_1 : decode cX10_forget 1 = .ok (.getfield 47, 3) := by decide +kernel
theorem dX10_forget_4 : decode cX10_forget 4 = .ok (.iconst 0, 1) := by decide +kernel
theorem dX10_forget_5 : decode cX10_forget 5 = .ok (.putfield 249, 3) := by decide +kernel
theorem dX10_forget_8 : decode cX10_forget 8 = .ok (.iconst 0, 1) := by decide +kernel
theorem dX10_forget_9 : decode cX10_forget 9 = .ok (.istore_n 1, 1) := by decide +kernel
theorem dX10_forget_10 : decode cX10_forget 10 = .ok (.iload_n 1, 1) := by decide +kernel
theorem dX10_forget_11 : decode cX10_forget 11 = .ok (.iconst 2, 1) := by decide +kernel
theorem dX10_forget_12 : decode cX10_forget 12 = .ok (.if_icmp .ge 16, 3) := by decide +kernel
theorem dX10_forget_15 : decode cX10_forget 15 = .ok (.aload_n 0, 1) := by decide +kernel
theorem dX10_forget_16 : decode cX10_forget 16 = .ok (.getfield 55, 3) := by decide +kernel
theorem dX10_forget_19 : decode cX10_forget 19 = .ok (.iload_n 1, 1) := by decide +kernel
theorem dX10_forget_20 : decode cX10_forget 20 = .ok (.iconst 0, 1) := by decide +kernel
theorem dX10_forget_21 : decode cX10_forget 21 = .ok (.bastore, 1) := by decide +kernel
theorem dX10_forget_22 : decode cX10_forget 22 = .ok (.iinc 1 1, 3) := by decide +kernel
theorem dX10_forget_25 : decode cX10_forget 25 = .ok (.goto (-15), 3) := by decide +kernel
theorem dX10_forget_28 : decode cX10_forget 28 = .ok (.return_, 1) := by decide +kernel
theorem dX10_between_0 : decode cX10_between 0 = .ok (.iload_n 0, 1) := by decide +kernel
theorem dX10_between_1 : decode cX10_between 1 = .ok (.ifCond .ge 7, 3) := by decide +kernel
theorem dX10_between_4 : decode cX10_between 4 = .ok (.iconst 0, 1) := by decide +kernel
theorem dX10_between_5 : decode cX10_between 5 = .ok (.goto 8, 3) := by decide +kernel
theorem dX10_between_8 : decode cX10_between 8 = .ok (.iload_n 0, 1) := by decide +kernel
theorem dX10_between_9 : decode cX10_between 9 = .ok (.iload_n 1, 1) := by decide +kernel
theorem dX10_between_10 : decode cX10_between 10 = .ok (.invokestatic 374, 3) := by decide +kernel
theorem dX10_between_13 : decode cX10_between 13 = .ok (.ireturn, 1) := by decide +kernel
theorem dX10_entry_0 : decode cX10_entry 0 = .ok (.iload_n 0, 1) := by decide +kernel
theorem dX10_entry_1 : decode cX10_entry 1 = .ok (.ifCond .ne 6, 3) := by decide +kernel
theorem dX10_entry_4 : decode cX10_entry 4 = .ok (.iload_n 1, 1) := by decide +kernel
theorem dX10_entry_5 : decode cX10_entry 5 = .ok (.i2b, 1) := by decide +kernel
theorem dX10_entry_6 : decode cX10_entry 6 = .ok (.ireturn, 1) := by decide +kernel
theorem dX10_entry_7 : decode cX10_entry 7 = .ok (.iload_n 0, 1) := by decide +kernel
theorem dX10_entry_8 : decode cX10_entry 8 = .ok (.iconst 1, 1) := by decide +kernel
theorem dX10_entry_9 : decode cX10_entry 9 = .ok (.if_icmp .ne 8, 3) := by decide +kernel
theorem dX10_entry_12 : decode cX10_entry 12 = .ok (.iload_n 1, 1) := by decide +kernel
theorem dX10_entry_13 : decode cX10_entry 13 = .ok (.i2s, 1) := by decide +kernel
theorem dX10_entry_14 : decode cX10_entry 14 = .ok (.goto 4, 3) := by decide +kernel
theorem dX10_entry_17 : decode cX10_entry 17 = .ok (.iload_n 1, 1) := by decide +kernel
theorem dX10_entry_18 : decode cX10_entry 18 = .ok (.ireturn, 1) := by decide +kernel
theorem dX10_readLines_0 : decode cX10_readLines 0 = .ok (.aload_n 0, 1) := by decide +kernel
theorem dX10_readLines_1 : decode cX10_readLines 1 = .ok (.getfield 10, 3) := by decide +kernel
theorem dX10_readLines_4 : decode cX10_readLines 4 = .ok (.iload_n 2, 1) := by decide +kernel
theorem dX10_readLines_5 : decode cX10_readLines 5 = .ok (.invokevirtual 263, 3) := by decide +kernel
theorem dX10_readLines_8 : decode cX10_readLines 8 = .ok (.aload_n 0, 1) := by decide +kernel
theorem dX10_readLines_9 : decode cX10_readLines 9 = .ok (.getfield 10, 3) := by decide +kernel
theorem dX10_readLines_12 : decode cX10_readLines 12 = .ok (.getfield 113, 3) := by decide +kernel
theorem dX10_readLines_15 : decode cX10_readLines 15 = .ok (.ifCond .ne 7, 3) := by decide +kernel
theorem dX10_readLines_18 : decode cX10_readLines 18 = .ok (.iconst 0, 1) := by decide +kernel
theorem dX10_readLines_19 : decode cX10_readLines 19 = .ok (.goto 11, 3) := by decide +kernel
theorem dX10_readLines_22 : decode cX10_readLines 22 = .ok (.aload_n 0, 1) := by decide +kernel
theorem dX10_readLines_23 : decode cX10_readLines 23 = .ok (.iload_n 1, 1) := by decide +kernel
theorem dX10_readLines_24 : decode cX10_readLines 24 = .ok (.iload_n 3, 1) := by decide +kernel
theorem dX10_readLines_25 : decode cX10_readLines 25 = .ok (.iload 4, 2) := by decide +kernel
theorem dX10_readLines_27 : decode cX10_readLines 27 = .ok (.invokevirtual 377, 3) := by decide +kernel
theorem dX10_readLines_30 : decode cX10_readLines 30 = .ok (.istore 5, 2) := by decide +kernel
theorem dX10_readLines_32 : decode cX10_readLines 32 = .ok (.aload_n 0, 1) := by decide +kernel
theorem dX10_readLines_33 : decode cX10_readLines 33 = .ok (.getfield 10, 3) := by decide +kernel
theorem dX10_readLines_36 : decode cX10_readLines 36 = .ok (.iconst 0, 1) := by decide +kernel
theorem dX10_readLines_37 : decode cX10_readLines 37 = .ok (.putfield 113, 3) := by decide +kernel
theorem dX10_readLines_40 : decode cX10_readLines 40 = .ok (.iload 5, 2) := by decide +kernel
theorem dX10_readLines_42 : decode cX10_readLines 42 = .ok (.ireturn, 1) := by decide +kernel
theorem dX10_linesUpTo_0 : decode cX10_linesUpTo 0 = .ok (.iconst 1, 1) := by decide +kernel
theorem dX10_linesUpTo_1 : decode cX10_linesUpTo 1 = .ok (.istore 4, 2) := by decide +kernel
theorem dX10_linesUpTo_3 : decode cX10_linesUpTo 3 = .ok (.iload_n 2, 1) := by decide +kernel
theorem dX10_linesUpTo_4 : decode cX10_linesUpTo 4 = .ok (.iload 4, 2) := by decide +kernel
theorem dX10_linesUpTo_6 : decode cX10_linesUpTo 6 = .ok (.iadd, 1) := by decide +kernel
theorem dX10_linesUpTo_7 : decode cX10_linesUpTo 7 = .ok (.iload_n 3, 1) := by decide +kernel
theorem dX10_linesUpTo_8 : decode cX10_linesUpTo 8 = .ok (.if_icmp .gt 66, 3) := by decide +kernel
theorem dX10_linesUpTo_11 : decode cX10_linesUpTo 11 = .ok (.aload_n 0, 1) := by decide +kernel
theorem dX10_linesUpTo_12 : decode cX10_linesUpTo 12 = .ok (.iload_n 1, 1) := by decide +kernel
theorem dX10_linesUpTo_13 : decode cX10_linesUpTo 13 = .ok (.iload_n 2, 1) := by decide +kernel
theorem dX10_linesUpTo_14 : decode cX10_linesUpTo 14 = .ok (.iload 4, 2) := by decide +kernel
theorem dX10_linesUpTo_16 : decode cX10_linesUpTo 16 = .ok (.iadd, 1) := by decide +kernel
theorem dX10_linesUpTo_17 : decode cX10_linesUpTo 17 = .ok (.iconst 1, 1) := by decide +kernel
theorem dX10_linesUpTo_18 : decode cX10_linesUpTo 18 = .ok (.isub, 1) := by decide +kernel
theorem dX10_linesUpTo_19 : decode cX10_linesUpTo 19 = .ok (.invokevirtual 381, 3) := by decide +kernel
theorem dX10_linesUpTo_22 : decode cX10_linesUpTo 22 = .ok (.ifCond .ne 11, 3) := by decide +kernel
theorem dX10_linesUpTo_25 : decode cX10_linesUpTo 25 = .ok (.aload_n 0, 1) := by decide +kernel
theorem dX10_linesUpTo_26 : decode cX10_linesUpTo 26 = .ok (.getfield 10, 3) := by decide +kernel
theorem dX10_linesUpTo_29 : decode cX10_linesUpTo 29 = .ok (.invokevirtual 384, 3) := by decide +kernel
theorem dX10_linesUpTo_32 : decode cX10_linesUpTo 32 = .ok (.ireturn, 1) := by decide +kernel
theorem dX10_linesUpTo_33 : decode cX10_linesUpTo 33 = .ok (.aload_n 0, 1) := by decide +kernel
theorem dX10_linesUpTo_34 : decode cX10_linesUpTo 34 = .ok (.getfield 10, 3) := by decide +kernel
theorem dX10_linesUpTo_37 : decode cX10_linesUpTo 37 = .ok (.bipush 59, 2) := by decide +kernel
theorem dX10_linesUpTo_39 : decode cX10_linesUpTo 39 = .ok (.invokevirtual 387, 3) := by decide +kernel
theorem dX10_linesUpTo_42 : decode cX10_linesUpTo 42 = .ok (.ifCond .ne 26, 3) := by decide +kernel
theorem dX10_linesUpTo_45 : decode cX10_linesUpTo 45 = .ok (.aload_n 0, 1) := by decide +kernel
theorem dX10_linesUpTo_46 : decode cX10_linesUpTo 46 = .ok (.getfield 10, 3) := by decide +kernel
theorem dX10_linesUpTo_49 : decode cX10_linesUpTo 49 = .ok (.invokevirtual 390, 3) := by decide +kernel
theorem dX10_linesUpTo_52 : decode cX10_linesUpTo 52 = .ok (.ifCond .eq 8, 3) := by decide +kernel
theorem dX10_linesUpTo_55 : decode cX10_linesUpTo 55 = .ok (.iload 4, 2) := by decide +kernel
theorem dX10_linesUpTo_57 : decode cX10_linesUpTo 57 = .ok (.goto 10, 3) := by decide +kernel
theorem dX10_linesUpTo_60 : decode cX10_linesUpTo 60 = .ok (.aload_n 0, 1) := by decide +kernel
theorem dX10_linesUpTo_61 : decode cX10_linesUpTo 61 = .ok (.getfield 10, 3) := by decide +kernel
theorem dX10_linesUpTo_64 : decode cX10_linesUpTo 64 = .ok (.invokevirtual 384, 3) := by decide +kernel
theorem dX10_linesUpTo_67 : decode cX10_linesUpTo 67 = .ok (.ireturn, 1) := by decide +kernel
theorem dX10_linesUpTo_68 : decode cX10_linesUpTo 68 = .ok (.iinc 4 1, 3) := by decide +kernel
theorem dX10_linesUpTo_71 : decode cX10_linesUpTo 71 = .ok (.goto (-68), 3) := by decide +kernel
theorem dX10_linesUpTo_74 : decode cX10_linesUpTo 74 = .ok (.aload_n 0, 1) := by decide +kernel
theorem dX10_linesUpTo_75 : decode cX10_linesUpTo 75 = .ok (.getfield 10, 3) := by decide +kernel
theorem dX10_linesUpTo_78 : decode cX10_linesUpTo 78 = .ok (.invokevirtual 384, 3) := by decide +kernel
theorem dX10_linesUpTo_81 : decode cX10_linesUpTo 81 = .ok (.ireturn, 1) := by decide +kernel
theorem dX10_readLine_0 : decode cX10_readLine 0 = .ok (.iload_n 1, 1) := by decide +kernel
theorem dX10_readLine_1 : decode cX10_readLine 1 = .ok (.tableswitch 78 0 2 #[27, 40, 57], 27) := by decide +kernel
theorem dX10_readLine_28 : decode cX10_readLine 28 = .ok (.aload_n 0, 1) := by decide +kernel
theorem dX10_readLine_29 : decode cX10_readLine 29 = .ok (.getfield 26, 3) := by decide +kernel
theorem dX10_readLine_32 : decode cX10_readLine 32 = .ok (.aload_n 0, 1) := by decide +kernel
theorem dX10_readLine_33 : decode cX10_readLine 33 = .ok (.getfield 10, 3) := by decide +kernel
theorem dX10_readLine_36 : decode cX10_readLine 36 = .ok (.iload_n 2, 1) := by decide +kernel
theorem dX10_readLine_37 : decode cX10_readLine 37 = .ok (.invokevirtual 394, 3) := by decide +kernel
theorem dX10_readLine_40 : decode cX10_readLine 40 = .ok (.ireturn, 1) := by decide +kernel
theorem dX10_readLine_41 : decode cX10_readLine 41 = .ok (.aload_n 0, 1) := by decide +kernel
theorem dX10_readLine_42 : decode cX10_readLine 42 = .ok (.getfield 40, 3) := by decide +kernel
theorem dX10_readLine_45 : decode cX10_readLine 45 = .ok (.aload_n 0, 1) := by decide +kernel
theorem dX10_readLine_46 : decode cX10_readLine 46 = .ok (.getfield 10, 3) := by decide +kernel
theorem dX10_readLine_49 : decode cX10_readLine 49 = .ok (.iload_n 2, 1) := by decide +kernel
theorem dX10_readLine_50 : decode cX10_readLine 50 = .ok (.aload_n 0, 1) := by decide +kernel
theorem dX10_readLine_51 : decode cX10_readLine 51 = .ok (.getfield 99, 3) := by decide +kernel
theorem dX10_readLine_54 : decode cX10_readLine 54 = .ok (.invokevirtual 398, 3) := by decide +kernel
theorem dX10_readLine_57 : decode cX10_readLine 57 = .ok (.ireturn, 1) := by decide +kernel
theorem dX10_readLine_58 : decode cX10_readLine 58 = .ok (.aload_n 0, 1) := by decide +kernel
theorem dX10_readLine_59 : decode cX10_readLine 59 = .ok (.getfield 33, 3) := by decide +kernel
theorem dX10_readLine_62 : decode cX10_readLine 62 = .ok (.aload_n 0, 1) := by decide +kernel
theorem dX10_readLine_63 : decode cX10_readLine 63 = .ok (.getfield 10, 3) := by decide +kernel
theorem dX10_readLine_66 : decode cX10_readLine 66 = .ok (.iload_n 2, 1) := by decide +kernel
theorem dX10_readLine_67 : decode cX10_readLine 67 = .ok (.aload_n 0, 1) := by decide +kernel
theorem dX10_readLine_68 : decode cX10_readLine 68 = .ok (.getfield 103, 3) := by decide +kernel
theorem dX10_readLine_71 : decode cX10_readLine 71 = .ok (.aload_n 0, 1) := by decide +kernel
theorem dX10_readLine_72 : decode cX10_readLine 72 = .ok (.getfield 99, 3) := by decide +kernel
theorem dX10_readLine_75 : decode cX10_readLine 75 = .ok (.invokevirtual 402, 3) := by decide +kernel
theorem dX10_readLine_78 : decode cX10_readLine 78 = .ok (.ireturn, 1) := by decide +kernel
theorem dX10_readLine_79 : decode cX10_readLine 79 = .ok (.aload_n 0, 1) := by decide +kernel
theorem dX10_readLine_80 : decode cX10_readLine 80 = .ok (.iload_n 2, 1) := by decide +kernel
theorem dX10_readLine_81 : decode cX10_readLine 81 = .ok (.invokevirtual 406, 3) := by decide +kernel
theorem dX10_readLine_84 : decode cX10_readLine 84 = .ok (.ireturn, 1) := by decide +kernel
theorem dX10_readAct_0 : decode cX10_readAct 0 = .ok (.aload_n 0, 1) := by decide +kernel
theorem dX10_readAct_1 : decode cX10_readAct 1 = .ok (.getfield 10, 3) := by decide +kernel
theorem dX10_readAct_4 : decode cX10_readAct 4 = .ok (.bipush 119, 2) := by decide +kernel
theorem dX10_readAct_6 : decode cX10_readAct 6 = .ok (.invokevirtual 387, 3) := by decide +kernel
theorem dX10_readAct_9 : decode cX10_readAct 9 = .ok (.ifCond .eq 33, 3) := by decide +kernel
theorem dX10_readAct_12 : decode cX10_readAct 12 = .ok (.aload_n 0, 1) := by decide +kernel
theorem dX10_readAct_13 : decode cX10_readAct 13 = .ok (.getfield 10, 3) := by decide +kernel
theorem dX10_readAct_16 : decode cX10_readAct 16 = .ok (.iconst 2, 1) := by decide +kernel
theorem dX10_readAct_17 : decode cX10_readAct 17 = .ok (.invokevirtual 409, 3) := by decide +kernel
theorem dX10_readAct_20 : decode cX10_readAct 20 = .ok (.istore_n 2, 1) := by decide +kernel
theorem dX10_readAct_21 : decode cX10_readAct 21 = .ok (.aload_n 0, 1) := by decide +kernel
theorem dX10_readAct_22 : decode cX10_readAct 22 = .ok (.getfield 73, 3) := by decide +kernel
theorem dX10_readAct_25 : decode cX10_readAct 25 = .ok (.iload_n 1, 1) := by decide +kernel
theorem dX10_readAct_26 : decode cX10_readAct 26 = .ok (.sipush 1000, 3) := by decide +kernel
theorem dX10_readAct_29 : decode cX10_readAct 29 = .ok (.iload_n 2, 1) := by decide +kernel
theorem dX10_readAct_30 : decode cX10_readAct 30 = .ok (.iadd, 1) := by decide +kernel
theorem dX10_readAct_31 : decode cX10_readAct 31 = .ok (.iastore, 1) := by decide +kernel
theorem dX10_readAct_32 : decode cX10_readAct 32 = .ok (.iload_n 2, 1) := by decide +kernel
theorem dX10_readAct_33 : decode cX10_readAct 33 = .ok (.ifCond .lt 7, 3) := by decide +kernel
theorem dX10_readAct_36 : decode cX10_readAct 36 = .ok (.iconst 1, 1) := by decide +kernel
theorem dX10_readAct_37 : decode cX10_readAct 37 = .ok (.goto 4, 3) := by decide +kernel
theorem dX10_readAct_40 : decode cX10_readAct 40 = .ok (.iconst 0, 1) := by decide +kernel
theorem dX10_readAct_41 : decode cX10_readAct 41 = .ok (.ireturn, 1) := by decide +kernel
theorem dX10_readAct_42 : decode cX10_readAct 42 = .ok (.aload_n 0, 1) := by decide +kernel
theorem dX10_readAct_43 : decode cX10_readAct 43 = .ok (.getfield 10, 3) := by decide +kernel
theorem dX10_readAct_46 : decode cX10_readAct 46 = .ok (.bipush 97, 2) := by decide +kernel
theorem dX10_readAct_48 : decode cX10_readAct 48 = .ok (.iconst 4, 1) := by decide +kernel
theorem dX10_readAct_49 : decode cX10_readAct 49 = .ok (.invokevirtual 412, 3) := by decide +kernel
theorem dX10_readAct_52 : decode cX10_readAct 52 = .ok (.istore_n 2, 1) := by decide +kernel
theorem dX10_readAct_53 : decode cX10_readAct 53 = .ok (.iload_n 2, 1) := by decide +kernel
theorem dX10_readAct_54 : decode cX10_readAct 54 = .ok (.ifCond .ge 5, 3) := by decide +kernel
theorem dX10_readAct_57 : decode cX10_readAct 57 = .ok (.iconst 0, 1) := by decide +kernel
theorem dX10_readAct_58 : decode cX10_readAct 58 = .ok (.ireturn, 1) := by decide +kernel
theorem dX10_readAct_59 : decode cX10_readAct 59 = .ok (.aload_n 0, 1) := by decide +kernel
theorem dX10_readAct_60 : decode cX10_readAct 60 = .ok (.getfield 10, 3) := by decide +kernel
theorem dX10_readAct_63 : decode cX10_readAct 63 = .ok (.bipush 48, 2) := by decide +kernel
theorem dX10_readAct_65 : decode cX10_readAct 65 = .ok (.bipush 10, 2) := by decide +kernel
theorem dX10_readAct_67 : decode cX10_readAct 67 = .ok (.invokevirtual 412, 3) := by decide +kernel
theorem dX10_readAct_70 : decode cX10_readAct 70 = .ok (.istore_n 3, 1) := by decide +kernel
theorem dX10_readAct_71 : decode cX10_readAct 71 = .ok (.iload_n 3, 1) := by decide +kernel
theorem dX10_readAct_72 : decode cX10_readAct 72 = .ok (.ifCond .ge 56, 3) := by decide +kernel
theorem dX10_readAct_75 : decode cX10_readAct 75 = .ok (.aload_n 0, 1) := by decide +kernel
theorem dX10_readAct_76 : decode cX10_readAct 76 = .ok (.getfield 10, 3) := by decide +kernel
theorem dX10_readAct_79 : decode cX10_readAct 79 = .ok (.bipush 62, 2) := by decide +kernel
theorem dX10_readAct_81 : decode cX10_readAct 81 = .ok (.invokevirtual 387, 3) := by decide +kernel
theorem dX10_readAct_84 : decode cX10_readAct 84 = .ok (.ifCond .eq 8, 3) := by decide +kernel
theorem dX10_readAct_87 : decode cX10_readAct 87 = .ok (.bipush 10, 2) := by decide +kernel
theorem dX10_readAct_89 : decode cX10_readAct 89 = .ok (.goto 38, 3) := by decide +kernel
theorem dX10_readAct_92 : decode cX10_readAct 92 = .ok (.aload_n 0, 1) := by decide +kernel
theorem dX10_readAct_93 : decode cX10_readAct 93 = .ok (.getfield 10, 3) := by decide +kernel
theorem dX10_readAct_96 : decode cX10_readAct 96 = .ok (.bipush 60, 2) := by decide +kernel
theorem dX10_readAct_98 : decode cX10_readAct 98 = .ok (.invokevirtual 387, 3) := by decide +kernel
theorem dX10_readAct_101 : decode cX10_readAct 101 = .ok (.ifCond .eq 8, 3) := by decide +kernel
theorem dX10_readAct_104 : decode cX10_readAct 104 = .ok (.bipush 11, 2) := by decide +kernel
theorem dX10_readAct_106 : decode cX10_readAct 106 = .ok (.goto 21, 3) := by decide +kernel
theorem dX10_readAct_109 : decode cX10_readAct 109 = .ok (.aload_n 0, 1) := by decide +kernel
theorem dX10_readAct_110 : decode cX10_readAct 110 = .ok (.getfield 10, 3) := by decide +kernel
theorem dX10_readAct_113 : decode cX10_readAct 113 = .ok (.bipush 33, 2) := by decide +kernel
theorem dX10_readAct_115 : decode cX10_readAct 115 = .ok (.invokevirtual 387, 3) := by decide +kernel
theorem dX10_readAct_118 : decode cX10_readAct 118 = .ok (.ifCond .eq 8, 3) := by decide +kernel
theorem dX10_readAct_121 : decode cX10_readAct 121 = .ok (.bipush 12, 2) := by decide +kernel
theorem dX10_readAct_123 : decode cX10_readAct 123 = .ok (.goto 4, 3) := by decide +kernel
theorem dX10_readAct_126 : decode cX10_readAct 126 = .ok (.iconst (-1), 1) := by decide +kernel
theorem dX10_readAct_127 : decode cX10_readAct 127 = .ok (.istore_n 3, 1) := by decide +kernel
theorem dX10_readAct_128 : decode cX10_readAct 128 = .ok (.aload_n 0, 1) := by decide +kernel
theorem dX10_readAct_129 : decode cX10_readAct 129 = .ok (.getfield 73, 3) := by decide +kernel
theorem dX10_readAct_132 : decode cX10_readAct 132 = .ok (.iload_n 1, 1) := by decide +kernel
theorem dX10_readAct_133 : decode cX10_readAct 133 = .ok (.iload_n 2, 1) := by decide +kernel
theorem dX10_readAct_134 : decode cX10_readAct 134 = .ok (.bipush 16, 2) := by decide +kernel
theorem dX10_readAct_136 : decode cX10_readAct 136 = .ok (.imul, 1) := by decide +kernel
theorem dX10_readAct_137 : decode cX10_readAct 137 = .ok (.iload_n 3, 1) := by decide +kernel
theorem dX10_readAct_138 : decode cX10_readAct 138 = .ok (.iadd, 1) := by decide +kernel
theorem dX10_readAct_139 : decode cX10_readAct 139 = .ok (.iastore, 1) := by decide +kernel
theorem dX10_readAct_140 : decode cX10_readAct 140 = .ok (.iload_n 3, 1) := by decide +kernel
theorem dX10_readAct_141 : decode cX10_readAct 141 = .ok (.ifCond .lt 7, 3) := by decide +kernel
theorem dX10_readAct_144 : decode cX10_readAct 144 = .ok (.iconst 1, 1) := by decide +kernel
theorem dX10_readAct_145 : decode cX10_readAct 145 = .ok (.goto 4, 3) := by decide +kernel
theorem dX10_readAct_148 : decode cX10_readAct 148 = .ok (.iconst 0, 1) := by decide +kernel
theorem dX10_readAct_149 : decode cX10_readAct 149 = .ok (.ireturn, 1) := by decide +kernel
theorem dX10_readDigits_0 : decode cX10_readDigits 0 = .ok (.iconst 0, 1) := by decide +kernel
theorem dX10_readDigits_1 : decode cX10_readDigits 1 = .ok (.istore_n 3, 1) := by decide +kernel
theorem dX10_readDigits_2 : decode cX10_readDigits 2 = .ok (.iload_n 3, 1) := by decide +kernel
theorem dX10_readDigits_3 : decode cX10_readDigits 3 = .ok (.iload_n 2, 1) := by decide +kernel
theorem dX10_readDigits_4 : decode cX10_readDigits 4 = .ok (.if_icmp .ge 23, 3) := by decide +kernel
theorem dX10_readDigits_7 : decode cX10_readDigits 7 = .ok (.aload_n 0, 1) := by decide +kernel
theorem dX10_readDigits_8 : decode cX10_readDigits 8 = .ok (.getfield 10, 3) := by decide +kernel
theorem dX10_readDigits_11 : decode cX10_readDigits 11 = .ok (.bipush 48, 2) := by decide +kernel
theorem dX10_readDigits_13 : decode cX10_readDigits 13 = .ok (.bipush 10, 2) := by decide +kernel
theorem dX10_readDigits_15 : decode cX10_readDigits 15 = .ok (.invokevirtual 412, 3) := by decide +kernel
theorem dX10_readDigits_18 : decode cX10_readDigits 18 = .ok (.ifCond .lt 9, 3) := by decide +kernel
theorem dX10_readDigits_21 : decode cX10_readDigits 21 = .ok (.iinc 3 1, 3) := by decide +kernel
theorem dX10_readDigits_24 : decode cX10_readDigits 24 = .ok (.goto (-22), 3) := by decide +kernel
theorem dX10_readDigits_27 : decode cX10_readDigits 27 = .ok (.iload_n 3, 1) := by decide +kernel
theorem dX10_readDigits_28 : decode cX10_readDigits 28 = .ok (.iload_n 1, 1) := by decide +kernel
theorem dX10_readDigits_29 : decode cX10_readDigits 29 = .ok (.if_icmp .lt 17, 3) := by decide +kernel
theorem dX10_readDigits_32 : decode cX10_readDigits 32 = .ok (.aload_n 0, 1) := by decide +kernel
theorem dX10_readDigits_33 : decode cX10_readDigits 33 = .ok (.getfield 10, 3) := by decide +kernel
theorem dX10_readDigits_36 : decode cX10_readDigits 36 = .ok (.invokevirtual 390, 3) := by decide +kernel
theorem dX10_readDigits_39 : decode cX10_readDigits 39 = .ok (.ifCond .eq 7, 3) := by decide +kernel
theorem dX10_readDigits_42 : decode cX10_readDigits 42 = .ok (.iconst 0, 1) := by decide +kernel
theorem dX10_readDigits_43 : decode cX10_readDigits 43 = .ok (.goto 10, 3) := by decide +kernel
theorem dX10_readDigits_46 : decode cX10_readDigits 46 = .ok (.aload_n 0, 1) := by decide +kernel
theorem dX10_readDigits_47 : decode cX10_readDigits 47 = .ok (.getfield 10, 3) := by decide +kernel
theorem dX10_readDigits_50 : decode cX10_readDigits 50 = .ok (.invokevirtual 384, 3) := by decide +kernel
theorem dX10_readDigits_53 : decode cX10_readDigits 53 = .ok (.ireturn, 1) := by decide +kernel
theorem dX10_readSpareTariff_0 : decode cX10_readSpareTariff 0 = .ok (.aload_n 0, 1) := by decide +kernel
theorem dX10_readSpareTariff_1 : decode cX10_readSpareTariff 1 = .ok (.getfield 10, 3) := by decide +kernel
theorem dX10_readSpareTariff_4 : decode cX10_readSpareTariff 4 = .ok (.bipush 40, 2) := by decide +kernel
theorem dX10_readSpareTariff_6 : decode cX10_readSpareTariff 6 = .ok (.invokevirtual 263, 3) := by decide +kernel
theorem dX10_readSpareTariff_9 : decode cX10_readSpareTariff 9 = .ok (.aload_n 0, 1) := by decide +kernel
theorem dX10_readSpareTariff_10 : decode cX10_readSpareTariff 10 = .ok (.getfield 96, 3) := by decide +kernel
theorem dX10_readSpareTariff_13 : decode cX10_readSpareTariff 13 = .ok (.aload_n 0, 1) := by decide +kernel
theorem dX10_readSpareTariff_14 : decode cX10_readSpareTariff 14 = .ok (.getfield 10, 3) := by decide +kernel
theorem dX10_readSpareTariff_17 : decode cX10_readSpareTariff 17 = .ok (.invokevirtual 415, 3) := by decide +kernel
theorem dX10_readSpareTariff_20 : decode cX10_readSpareTariff 20 = .ok (.ifCond .eq 7, 3) := by decide +kernel
theorem dX10_readSpareTariff_23 : decode cX10_readSpareTariff 23 = .ok (.iconst 0, 1) := by decide +kernel
theorem dX10_readSpareTariff_24 : decode cX10_readSpareTariff 24 = .ok (.goto 10, 3) := by decide +kernel
theorem dX10_readSpareTariff_27 : decode cX10_readSpareTariff 27 = .ok (.aload_n 0, 1) := by decide +kernel
theorem dX10_readSpareTariff_28 : decode cX10_readSpareTariff 28 = .ok (.getfield 10, 3) := by decide +kernel
theorem dX10_readSpareTariff_31 : decode cX10_readSpareTariff 31 = .ok (.invokevirtual 384, 3) := by decide +kernel
theorem dX10_readSpareTariff_34 : decode cX10_readSpareTariff 34 = .ok (.istore_n 1, 1) := by decide +kernel
theorem dX10_readSpareTariff_35 : decode cX10_readSpareTariff 35 = .ok (.aload_n 0, 1) := by decide +kernel
theorem dX10_readSpareTariff_36 : decode cX10_readSpareTariff 36 = .ok (.getfield 10, 3) := by decide +kernel
theorem dX10_readSpareTariff_39 : decode cX10_readSpareTariff 39 = .ok (.iconst 0, 1) := by decide +kernel
theorem dX10_readSpareTariff_40 : decode cX10_readSpareTariff 40 = .ok (.putfield 113, 3) := by decide +kernel
theorem dX10_readSpareTariff_43 : decode cX10_readSpareTariff 43 = .ok (.iload_n 1, 1) := by decide +kernel
theorem dX10_readSpareTariff_44 : decode cX10_readSpareTariff 44 = .ok (.ireturn, 1) := by decide +kernel
theorem dX10_move_0 : decode cX10_move 0 = .ok (.aload_n 0, 1) := by decide +kernel
theorem dX10_move_1 : decode cX10_move 1 = .ok (.iload_n 1, 1) := by decide +kernel
theorem dX10_move_2 : decode cX10_move 2 = .ok (.invokevirtual 159, 3) := by decide +kernel
theorem dX10_move_5 : decode cX10_move 5 = .ok (.ifCond .eq 12, 3) := by decide +kernel
theorem dX10_move_8 : decode cX10_move 8 = .ok (.iload_n 2, 1) := by decide +kernel
theorem dX10_move_9 : decode cX10_move 9 = .ok (.ifCond .lt 8, 3) := by decide +kernel
theorem dX10_move_12 : decode cX10_move 12 = .ok (.iload_n 2, 1) := by decide +kernel
theorem dX10_move_13 : decode cX10_move 13 = .ok (.iconst 1, 1) := by decide +kernel
theorem dX10_move_14 : decode cX10_move 14 = .ok (.if_icmp .le 5, 3) := by decide +kernel
theorem dX10_move_17 : decode cX10_move 17 = .ok (.iconst (-1), 1) := by decide +kernel
theorem dX10_move_18 : decode cX10_move 18 = .ok (.ireturn, 1) := by decide +kernel
theorem dX10_move_19 : decode cX10_move 19 = .ok (.aload_n 0, 1) := by decide +kernel
theorem dX10_move_20 : decode cX10_move 20 = .ok (.getfield 40, 3) := by decide +kernel
theorem dX10_move_23 : decode cX10_move 23 = .ok (.getfield 162, 3) := by decide +kernel
theorem dX10_move_26 : decode cX10_move 26 = .ok (.iload_n 1, 1) := by decide +kernel
theorem dX10_move_27 : decode cX10_move 27 = .ok (.iaload, 1) := by decide +kernel
theorem dX10_move_28 : decode cX10_move 28 = .ok (.iload_n 2, 1) := by decide +kernel
theorem dX10_move_29 : decode cX10_move 29 = .ok (.iconst 1, 1) := by decide +kernel
theorem dX10_move_30 : decode cX10_move 30 = .ok (.if_icmp .ne 7, 3) := by decide +kernel
theorem dX10_move_33 : decode cX10_move 33 = .ok (.iconst 1, 1) := by decide +kernel
theorem dX10_move_34 : decode cX10_move 34 = .ok (.goto 4, 3) := by decide +kernel
theorem dX10_move_37 : decode cX10_move 37 = .ok (.iconst (-1), 1) := by decide +kernel
theorem dX10_move_38 : decode cX10_move 38 = .ok (.iadd, 1) := by decide +kernel
theorem dX10_move_39 : decode cX10_move 39 = .ok (.istore_n 3, 1) := by decide +kernel
theorem dX10_move_40 : decode cX10_move 40 = .ok (.aload_n 0, 1) := by decide +kernel
theorem dX10_move_41 : decode cX10_move 41 = .ok (.iload_n 3, 1) := by decide +kernel
theorem dX10_move_42 : decode cX10_move 42 = .ok (.invokevirtual 191, 3) := by decide +kernel
theorem dX10_move_45 : decode cX10_move 45 = .ok (.ifCond .ne 6, 3) := by decide +kernel
theorem dX10_move_48 : decode cX10_move 48 = .ok (.bipush (-2), 2) := by decide +kernel
theorem dX10_move_50 : decode cX10_move 50 = .ok (.ireturn, 1) := by decide +kernel
theorem dX10_move_51 : decode cX10_move 51 = .ok (.aload_n 0, 1) := by decide +kernel
theorem dX10_move_52 : decode cX10_move 52 = .ok (.getfield 40, 3) := by decide +kernel
theorem dX10_move_55 : decode cX10_move 55 = .ok (.getfield 162, 3) := by decide +kernel
theorem dX10_move_58 : decode cX10_move 58 = .ok (.iload_n 1, 1) := by decide +kernel
theorem dX10_move_59 : decode cX10_move 59 = .ok (.iload_n 3, 1) := by decide +kernel
theorem dX10_move_60 : decode cX10_move 60 = .ok (.iastore, 1) := by decide +kernel
theorem dX10_move_61 : decode cX10_move 61 = .ok (.iload_n 3, 1) := by decide +kernel
theorem dX10_move_62 : decode cX10_move 62 = .ok (.ireturn, 1) := by decide +kernel
theorem dX10_goes_0 : decode cX10_goes 0 = .ok (.aload_n 0, 1) := by decide +kernel
theorem dX10_goes_1 : decode cX10_goes 1 = .ok (.iload_n 1, 1) := by decide +kernel
theorem dX10_goes_2 : decode cX10_goes 2 = .ok (.iload_n 2, 1) := by decide +kernel
theorem dX10_goes_3 : decode cX10_goes 3 = .ok (.invokevirtual 419, 3) := by decide +kernel
theorem dX10_goes_6 : decode cX10_goes 6 = .ok (.istore_n 3, 1) := by decide +kernel
theorem dX10_goes_7 : decode cX10_goes 7 = .ok (.iload_n 3, 1) := by decide +kernel
theorem dX10_goes_8 : decode cX10_goes 8 = .ok (.ifCond .lt 16, 3) := by decide +kernel
theorem dX10_goes_11 : decode cX10_goes 11 = .ok (.aload_n 0, 1) := by decide +kernel
theorem dX10_goes_12 : decode cX10_goes 12 = .ok (.getfield 40, 3) := by decide +kernel
theorem dX10_goes_15 : decode cX10_goes 15 = .ok (.dup, 1) := by decide +kernel
theorem dX10_goes_16 : decode cX10_goes 16 = .ok (.getfield 206, 3) := by decide +kernel
theorem dX10_goes_19 : decode cX10_goes 19 = .ok (.iconst 1, 1) := by decide +kernel
theorem dX10_goes_20 : decode cX10_goes 20 = .ok (.iadd, 1) := by decide +kernel
theorem dX10_goes_21 : decode cX10_goes 21 = .ok (.putfield 206, 3) := by decide +kernel
theorem dX10_goes_24 : decode cX10_goes 24 = .ok (.iload_n 3, 1) := by decide +kernel
theorem dX10_goes_25 : decode cX10_goes 25 = .ok (.ireturn, 1) := by decide +kernel
theorem dX10_speak_0 : decode cX10_speak 0 = .ok (.aload_n 0, 1) := by decide +kernel
theorem dX10_speak_1 : decode cX10_speak 1 = .ok (.iload_n 1, 1) := by decide +kernel
theorem dX10_speak_2 : decode cX10_speak 2 = .ok (.invokevirtual 159, 3) := by decide +kernel
theorem dX10_speak_5 : decode cX10_speak 5 = .ok (.ifCond .eq 11, 3) := by decide +kernel
theorem dX10_speak_8 : decode cX10_speak 8 = .ok (.aload_n 0, 1) := by decide +kernel
theorem dX10_speak_9 : decode cX10_speak 9 = .ok (.iload_n 2, 1) := by decide +kernel
theorem dX10_speak_10 : decode cX10_speak 10 = .ok (.invokevirtual 136, 3) := by decide +kernel
theorem dX10_speak_13 : decode cX10_speak 13 = .ok (.ifCond .ne 5, 3) := by decide +kernel
theorem dX10_speak_16 : decode cX10_speak 16 = .ok (.iconst (-1), 1) := by decide +kernel
theorem dX10_speak_17 : decode cX10_speak 17 = .ok (.ireturn, 1) := by decide +kernel
theorem dX10_speak_18 : decode cX10_speak 18 = .ok (.aload_n 0, 1) := by decide +kernel
theorem dX10_speak_19 : decode cX10_speak 19 = .ok (.getfield 40, 3) := by decide +kernel
theorem dX10_speak_22 : decode cX10_speak 22 = .ok (.getfield 162, 3) := by decide +kernel
theorem dX10_speak_25 : decode cX10_speak 25 = .ok (.iload_n 1, 1) := by decide +kernel
theorem dX10_speak_26 : decode cX10_speak 26 = .ok (.iaload, 1) := by decide +kernel
theorem dX10_speak_27 : decode cX10_speak 27 = .ok (.istore_n 3, 1) := by decide +kernel
theorem dX10_speak_28 : decode cX10_speak 28 = .ok (.aload_n 0, 1) := by decide +kernel
theorem dX10_speak_29 : decode cX10_speak 29 = .ok (.getfield 92, 3) := by decide +kernel
theorem dX10_speak_32 : decode cX10_speak 32 = .ok (.aload_n 0, 1) := by decide +kernel
theorem dX10_speak_33 : decode cX10_speak 33 = .ok (.getfield 26, 3) := by decide +kernel
theorem dX10_speak_36 : decode cX10_speak 36 = .ok (.iload_n 2, 1) := by decide +kernel
theorem dX10_speak_37 : decode cX10_speak 37 = .ok (.iload_n 3, 1) := by decide +kernel
theorem dX10_speak_38 : decode cX10_speak 38 = .ok (.aload_n 0, 1) := by decide +kernel
theorem dX10_speak_39 : decode cX10_speak 39 = .ok (.getfield 40, 3) := by decide +kernel
theorem dX10_speak_42 : decode cX10_speak 42 = .ok (.getfield 206, 3) := by decide +kernel
theorem dX10_speak_45 : decode cX10_speak 45 = .ok (.invokevirtual 209, 3) := by decide +kernel
theorem dX10_speak_48 : decode cX10_speak 48 = .ok (.istore 4, 2) := by decide +kernel
theorem dX10_speak_50 : decode cX10_speak 50 = .ok (.aload_n 0, 1) := by decide +kernel
theorem dX10_speak_51 : decode cX10_speak 51 = .ok (.getfield 40, 3) := by decide +kernel
theorem dX10_speak_54 : decode cX10_speak 54 = .ok (.getfield 165, 3) := by decide +kernel
theorem dX10_speak_57 : decode cX10_speak 57 = .ok (.iload_n 1, 1) := by decide +kernel
theorem dX10_speak_58 : decode cX10_speak 58 = .ok (.iaload, 1) := by decide +kernel
theorem dX10_speak_59 : decode cX10_speak 59 = .ok (.iload 4, 2) := by decide +kernel
theorem dX10_speak_61 : decode cX10_speak 61 = .ok (.if_icmp .ge 6, 3) := by decide +kernel
theorem dX10_speak_64 : decode cX10_speak 64 = .ok (.bipush (-2), 2) := by decide +kernel
theorem dX10_speak_66 : decode cX10_speak 66 = .ok (.ireturn, 1) := by decide +kernel
theorem dX10_speak_67 : decode cX10_speak 67 = .ok (.aload_n 0, 1) := by decide +kernel
theorem dX10_speak_68 : decode cX10_speak 68 = .ok (.getfield 40, 3) := by decide +kernel
theorem dX10_speak_71 : decode cX10_speak 71 = .ok (.getfield 165, 3) := by decide +kernel
theorem dX10_speak_74 : decode cX10_speak 74 = .ok (.iload_n 1, 1) := by decide +kernel
theorem dX10_speak_75 : decode cX10_speak 75 = .ok (.dup2, 1) := by decide +kernel
theorem dX10_speak_76 : decode cX10_speak 76 = .ok (.iaload, 1) := by decide +kernel
theorem dX10_speak_77 : decode cX10_speak 77 = .ok (.iload 4, 2) := by decide +kernel
theorem dX10_speak_79 : decode cX10_speak 79 = .ok (.isub, 1) := by decide +kernel
theorem dX10_speak_80 : decode cX10_speak 80 = .ok (.iastore, 1) := by decide +kernel
theorem dX10_speak_81 : decode cX10_speak 81 = .ok (.aload_n 0, 1) := by decide +kernel
theorem dX10_speak_82 : decode cX10_speak 82 = .ok (.getfield 40, 3) := by decide +kernel
theorem dX10_speak_85 : decode cX10_speak 85 = .ok (.getfield 168, 3) := by decide +kernel
theorem dX10_speak_88 : decode cX10_speak 88 = .ok (.iload_n 1, 1) := by decide +kernel
theorem dX10_speak_89 : decode cX10_speak 89 = .ok (.dup2, 1) := by decide +kernel
theorem dX10_speak_90 : decode cX10_speak 90 = .ok (.iaload, 1) := by decide +kernel
theorem dX10_speak_91 : decode cX10_speak 91 = .ok (.iload 4, 2) := by decide +kernel
theorem dX10_speak_93 : decode cX10_speak 93 = .ok (.iadd, 1) := by decide +kernel
theorem dX10_speak_94 : decode cX10_speak 94 = .ok (.iastore, 1) := by decide +kernel
theorem dX10_speak_95 : decode cX10_speak 95 = .ok (.iconst 0, 1) := by decide +kernel
theorem dX10_speak_96 : decode cX10_speak 96 = .ok (.istore 5, 2) := by decide +kernel
theorem dX10_speak_98 : decode cX10_speak 98 = .ok (.iload 5, 2) := by decide +kernel
theorem dX10_speak_100 : decode cX10_speak 100 = .ok (.iconst 5, 1) := by decide +kernel
theorem dX10_speak_101 : decode cX10_speak 101 = .ok (.if_icmp .ge 36, 3) := by decide +kernel
theorem dX10_speak_104 : decode cX10_speak 104 = .ok (.aload_n 0, 1) := by decide +kernel
theorem dX10_speak_105 : decode cX10_speak 105 = .ok (.getfield 40, 3) := by decide +kernel
theorem dX10_speak_108 : decode cX10_speak 108 = .ok (.getfield 194, 3) := by decide +kernel
theorem dX10_speak_111 : decode cX10_speak 111 = .ok (.iload_n 3, 1) := by decide +kernel
theorem dX10_speak_112 : decode cX10_speak 112 = .ok (.iconst 5, 1) := by decide +kernel
theorem dX10_speak_113 : decode cX10_speak 113 = .ok (.imul, 1) := by decide +kernel
theorem dX10_speak_114 : decode cX10_speak 114 = .ok (.iload 5, 2) := by decide +kernel
theorem dX10_speak_116 : decode cX10_speak 116 = .ok (.iadd, 1) := by decide +kernel
theorem dX10_speak_117 : decode cX10_speak 117 = .ok (.dup2, 1) := by decide +kernel
theorem dX10_speak_118 : decode cX10_speak 118 = .ok (.iaload, 1) := by decide +kernel
theorem dX10_speak_119 : decode cX10_speak 119 = .ok (.aload_n 0, 1) := by decide +kernel
theorem dX10_speak_120 : decode cX10_speak 120 = .ok (.getfield 26, 3) := by decide +kernel
theorem dX10_speak_123 : decode cX10_speak 123 = .ok (.iload_n 2, 1) := by decide +kernel
theorem dX10_speak_124 : decode cX10_speak 124 = .ok (.iload 5, 2) := by decide +kernel
theorem dX10_speak_126 : decode cX10_speak 126 = .ok (.invokevirtual 155, 3) := by decide +kernel
theorem dX10_speak_129 : decode cX10_speak 129 = .ok (.iadd, 1) := by decide +kernel
theorem dX10_speak_130 : decode cX10_speak 130 = .ok (.iastore, 1) := by decide +kernel
theorem dX10_speak_131 : decode cX10_speak 131 = .ok (.iinc 5 1, 3) := by decide +kernel
theorem dX10_speak_134 : decode cX10_speak 134 = .ok (.goto (-36), 3) := by decide +kernel
theorem dX10_speak_137 : decode cX10_speak 137 = .ok (.aload_n 0, 1) := by decide +kernel
theorem dX10_speak_138 : decode cX10_speak 138 = .ok (.aload_n 0, 1) := by decide +kernel
theorem dX10_speak_139 : decode cX10_speak 139 = .ok (.getfield 33, 3) := by decide +kernel
theorem dX10_speak_142 : decode cX10_speak 142 = .ok (.aload_n 0, 1) := by decide +kernel
theorem dX10_speak_143 : decode cX10_speak 143 = .ok (.getfield 26, 3) := by decide +kernel
theorem dX10_speak_146 : decode cX10_speak 146 = .ok (.iload_n 2, 1) := by decide +kernel
theorem dX10_speak_147 : decode cX10_speak 147 = .ok (.iload_n 3, 1) := by decide +kernel
theorem dX10_speak_148 : decode cX10_speak 148 = .ok (.invokevirtual 422, 3) := by decide +kernel
theorem dX10_speak_151 : decode cX10_speak 151 = .ok (.aload_n 0, 1) := by decide +kernel
theorem dX10_speak_152 : decode cX10_speak 152 = .ok (.getfield 33, 3) := by decide +kernel
theorem dX10_speak_155 : decode cX10_speak 155 = .ok (.iload_n 1, 1) := by decide +kernel
theorem dX10_speak_156 : decode cX10_speak 156 = .ok (.invokevirtual 171, 3) := by decide +kernel
theorem dX10_speak_159 : decode cX10_speak 159 = .ok (.iand, 1) := by decide +kernel
theorem dX10_speak_160 : decode cX10_speak 160 = .ok (.aload_n 0, 1) := by decide +kernel
theorem dX10_speak_161 : decode cX10_speak 161 = .ok (.getfield 40, 3) := by decide +kernel
theorem dX10_speak_164 : decode cX10_speak 164 = .ok (.getfield 174, 3) := by decide +kernel
theorem dX10_speak_167 : decode cX10_speak 167 = .ok (.iconst (-1), 1) := by decide +kernel
theorem dX10_speak_168 : decode cX10_speak 168 = .ok (.ixor, 1) := by decide +kernel
theorem dX10_speak_169 : decode cX10_speak 169 = .ok (.iand, 1) := by decide +kernel
theorem dX10_speak_170 : decode cX10_speak 170 = .ok (.putfield 106, 3) := by decide +kernel
theorem dX10_speak_173 : decode cX10_speak 173 = .ok (.aload_n 0, 1) := by decide +kernel
theorem dX10_speak_174 : decode cX10_speak 174 = .ok (.getfield 40, 3) := by decide +kernel
theorem dX10_speak_177 : decode cX10_speak 177 = .ok (.dup, 1) := by decide +kernel
theorem dX10_speak_178 : decode cX10_speak 178 = .ok (.getfield 174, 3) := by decide +kernel
theorem dX10_speak_181 : decode cX10_speak 181 = .ok (.aload_n 0, 1) := by decide +kernel
theorem dX10_speak_182 : decode cX10_speak 182 = .ok (.getfield 106, 3) := by decide +kernel
theorem dX10_speak_185 : decode cX10_speak 185 = .ok (.ior, 1) := by decide +kernel
theorem dX10_speak_186 : decode cX10_speak 186 = .ok (.putfield 174, 3) := by decide +kernel
theorem dX10_speak_189 : decode cX10_speak 189 = .ok (.iload 4, 2) := by decide +kernel
theorem dX10_speak_191 : decode cX10_speak 191 = .ok (.ireturn, 1) := by decide +kernel
theorem dX10_act_0 : decode cX10_act 0 = .ok (.iload_n 1, 1) := by decide +kernel
theorem dX10_act_1 : decode cX10_act 1 = .ok (.sipush 1000, 3) := by decide +kernel
theorem dX10_act_4 : decode cX10_act 4 = .ok (.if_icmp .lt 22, 3) := by decide +kernel
theorem dX10_act_7 : decode cX10_act 7 = .ok (.aload_n 0, 1) := by decide +kernel
theorem dX10_act_8 : decode cX10_act 8 = .ok (.getfield 40, 3) := by decide +kernel
theorem dX10_act_11 : decode cX10_act 11 = .ok (.dup, 1) := by decide +kernel
theorem dX10_act_12 : decode cX10_act 12 = .ok (.getfield 206, 3) := by decide +kernel
theorem dX10_act_15 : decode cX10_act 15 = .ok (.iload_n 1, 1) := by decide +kernel
theorem dX10_act_16 : decode cX10_act 16 = .ok (.sipush 1000, 3) := by decide +kernel
theorem dX10_act_19 : decode cX10_act 19 = .ok (.isub, 1) := by decide +kernel
theorem dX10_act_20 : decode cX10_act 20 = .ok (.iadd, 1) := by decide +kernel
theorem dX10_act_21 : decode cX10_act 21 = .ok (.putfield 206, 3) := by decide +kernel
theorem dX10_act_24 : decode cX10_act 24 = .ok (.iconst 0, 1) := by decide +kernel
theorem dX10_act_25 : decode cX10_act 25 = .ok (.ireturn, 1) := by decide +kernel
theorem dX10_act_26 : decode cX10_act 26 = .ok (.iload_n 1, 1) := by decide +kernel
theorem dX10_act_27 : decode cX10_act 27 = .ok (.bipush 16, 2) := by decide +kernel
theorem dX10_act_29 : decode cX10_act 29 = .ok (.idiv, 1) := by decide +kernel
theorem dX10_act_30 : decode cX10_act 30 = .ok (.istore_n 2, 1) := by decide +kernel
theorem dX10_act_31 : decode cX10_act 31 = .ok (.iload_n 1, 1) := by decide +kernel
theorem dX10_act_32 : decode cX10_act 32 = .ok (.bipush 16, 2) := by decide +kernel
theorem dX10_act_34 : decode cX10_act 34 = .ok (.irem, 1) := by decide +kernel
theorem dX10_act_35 : decode cX10_act 35 = .ok (.istore_n 3, 1) := by decide +kernel
theorem dX10_act_36 : decode cX10_act 36 = .ok (.iload_n 3, 1) := by decide +kernel
theorem dX10_act_37 : decode cX10_act 37 = .ok (.tableswitch 60 10 12 #[27, 38, 49], 27) := by decide +kernel
theorem dX10_act_64 : decode cX10_act 64 = .ok (.aload_n 0, 1) := by decide +kernel
theorem dX10_act_65 : decode cX10_act 65 = .ok (.iload_n 2, 1) := by decide +kernel
theorem dX10_act_66 : decode cX10_act 66 = .ok (.iconst 1, 1) := by decide +kernel
theorem dX10_act_67 : decode cX10_act 67 = .ok (.invokevirtual 227, 3) := by decide +kernel
theorem dX10_act_70 : decode cX10_act 70 = .ok (.iconst 0, 1) := by decide +kernel
theorem dX10_act_71 : decode cX10_act 71 = .ok (.invokestatic 374, 3) := by decide +kernel
theorem dX10_act_74 : decode cX10_act 74 = .ok (.ireturn, 1) := by decide +kernel
theorem dX10_act_75 : decode cX10_act 75 = .ok (.aload_n 0, 1) := by decide +kernel
theorem dX10_act_76 : decode cX10_act 76 = .ok (.iload_n 2, 1) := by decide +kernel
theorem dX10_act_77 : decode cX10_act 77 = .ok (.iconst 0, 1) := by decide +kernel
theorem dX10_act_78 : decode cX10_act 78 = .ok (.invokevirtual 227, 3) := by decide +kernel
theorem dX10_act_81 : decode cX10_act 81 = .ok (.iconst 0, 1) := by decide +kernel
theorem dX10_act_82 : decode cX10_act 82 = .ok (.invokestatic 374, 3) := by decide +kernel
theorem dX10_act_85 : decode cX10_act 85 = .ok (.ireturn, 1) := by decide +kernel
theorem dX10_act_86 : decode cX10_act 86 = .ok (.aload_n 0, 1) := by decide +kernel
theorem dX10_act_87 : decode cX10_act 87 = .ok (.iload_n 2, 1) := by decide +kernel
theorem dX10_act_88 : decode cX10_act 88 = .ok (.aload_n 0, 1) := by decide +kernel
theorem dX10_act_89 : decode cX10_act 89 = .ok (.iload_n 2, 1) := by decide +kernel
theorem dX10_act_90 : decode cX10_act 90 = .ok (.invokevirtual 425, 3) := by decide +kernel
theorem dX10_act_93 : decode cX10_act 93 = .ok (.invokevirtual 233, 3) := by decide +kernel
theorem dX10_act_96 : decode cX10_act 96 = .ok (.ireturn, 1) := by decide +kernel
theorem dX10_act_97 : decode cX10_act 97 = .ok (.aload_n 0, 1) := by decide +kernel
theorem dX10_act_98 : decode cX10_act 98 = .ok (.iload_n 2, 1) := by decide +kernel
theorem dX10_act_99 : decode cX10_act 99 = .ok (.iload_n 3, 1) := by decide +kernel
theorem dX10_act_100 : decode cX10_act 100 = .ok (.invokevirtual 233, 3) := by decide +kernel
theorem dX10_act_103 : decode cX10_act 103 = .ok (.ireturn, 1) := by decide +kernel
theorem dX10_wordForErrand_0 : decode cX10_wordForErrand 0 = .ok (.aload_n 0, 1) := by decide +kernel
theorem dX10_wordForErrand_1 : decode cX10_wordForErrand 1 = .ok (.iload_n 1, 1) := by decide +kernel
theorem dX10_wordForErrand_2 : decode cX10_wordForErrand 2 = .ok (.invokevirtual 159, 3) := by decide +kernel
theorem dX10_wordForErrand_5 : decode cX10_wordForErrand 5 = .ok (.ifCond .ne 5, 3) := by decide +kernel
theorem dX10_wordForErrand_8 : decode cX10_wordForErrand 8 = .ok (.iconst (-1), 1) := by decide +kernel
theorem dX10_wordForErrand_9 : decode cX10_wordForErrand 9 = .ok (.ireturn, 1) := by decide +kernel
theorem dX10_wordForErrand_10 : decode cX10_wordForErrand 10 = .ok (.aload_n 0, 1) := by decide +kernel
theorem dX10_wordForErrand_11 : decode cX10_wordForErrand 11 = .ok (.getfield 40, 3) := by decide +kernel
theorem dX10_wordForErrand_14 : decode cX10_wordForErrand 14 = .ok (.getfield 162, 3) := by decide +kernel
theorem dX10_wordForErrand_17 : decode cX10_wordForErrand 17 = .ok (.iload_n 1, 1) := by decide +kernel
theorem dX10_wordForErrand_18 : decode cX10_wordForErrand 18 = .ok (.iaload, 1) := by decide +kernel
theorem dX10_wordForErrand_19 : decode cX10_wordForErrand 19 = .ok (.istore_n 2, 1) := by decide +kernel
theorem dX10_wordForErrand_20 : decode cX10_wordForErrand 20 = .ok (.aload_n 0, 1) := by decide +kernel
theorem dX10_wordForErrand_21 : decode cX10_wordForErrand 21 = .ok (.getfield 33, 3) := by decide +kernel
theorem dX10_wordForErrand_24 : decode cX10_wordForErrand 24 = .ok (.iload_n 1, 1) := by decide +kernel
theorem dX10_wordForErrand_25 : decode cX10_wordForErrand 25 = .ok (.invokevirtual 171, 3) := by decide +kernel
theorem dX10_wordForErrand_28 : decode cX10_wordForErrand 28 = .ok (.aload_n 0, 1) := by decide +kernel
theorem dX10_wordForErrand_29 : decode cX10_wordForErrand 29 = .ok (.getfield 33, 3) := by decide +kernel
theorem dX10_wordForErrand_32 : decode cX10_wordForErrand 32 = .ok (.iload_n 2, 1) := by decide +kernel
theorem dX10_wordForErrand_33 : decode cX10_wordForErrand 33 = .ok (.invokevirtual 428, 3) := by decide +kernel
theorem dX10_wordForErrand_36 : decode cX10_wordForErrand 36 = .ok (.iand, 1) := by decide +kernel
theorem dX10_wordForErrand_37 : decode cX10_wordForErrand 37 = .ok (.aload_n 0, 1) := by decide +kernel
theorem dX10_wordForErrand_38 : decode cX10_wordForErrand 38 = .ok (.getfield 40, 3) := by decide +kernel
theorem dX10_wordForErrand_41 : decode cX10_wordForErrand 41 = .ok (.getfield 174, 3) := by decide +kernel
theorem dX10_wordForErrand_44 : decode cX10_wordForErrand 44 = .ok (.iconst (-1), 1) := by decide +kernel
theorem dX10_wordForErrand_45 : decode cX10_wordForErrand 45 = .ok (.ixor, 1) := by decide +kernel
theorem dX10_wordForErrand_46 : decode cX10_wordForErrand 46 = .ok (.iand, 1) := by decide +kernel
theorem dX10_wordForErrand_47 : decode cX10_wordForErrand 47 = .ok (.istore_n 3, 1) := by decide +kernel
theorem dX10_wordForErrand_48 : decode cX10_wordForErrand 48 = .ok (.iload_n 3, 1) := by decide +kernel
theorem dX10_wordForErrand_49 : decode cX10_wordForErrand 49 = .ok (.ifCond .ne 5, 3) := by decide +kernel
theorem dX10_wordForErrand_52 : decode cX10_wordForErrand 52 = .ok (.iconst (-1), 1) := by decide +kernel
theorem dX10_wordForErrand_53 : decode cX10_wordForErrand 53 = .ok (.ireturn, 1) := by decide +kernel
theorem dX10_wordForErrand_54 : decode cX10_wordForErrand 54 = .ok (.aload_n 0, 1) := by decide +kernel
theorem dX10_wordForErrand_55 : decode cX10_wordForErrand 55 = .ok (.aload_n 0, 1) := by decide +kernel
theorem dX10_wordForErrand_56 : decode cX10_wordForErrand 56 = .ok (.getfield 92, 3) := by decide +kernel
theorem dX10_wordForErrand_59 : decode cX10_wordForErrand 59 = .ok (.iload_n 2, 1) := by decide +kernel
theorem dX10_wordForErrand_60 : decode cX10_wordForErrand 60 = .ok (.aload_n 0, 1) := by decide +kernel
theorem dX10_wordForErrand_61 : decode cX10_wordForErrand 61 = .ok (.getfield 77, 3) := by decide +kernel
theorem dX10_wordForErrand_64 : decode cX10_wordForErrand 64 = .ok (.invokevirtual 253, 3) := by decide +kernel
theorem dX10_wordForErrand_67 : decode cX10_wordForErrand 67 = .ok (.aload_n 0, 1) := by decide +kernel
theorem dX10_wordForErrand_68 : decode cX10_wordForErrand 68 = .ok (.aload_n 0, 1) := by decide +kernel
theorem dX10_wordForErrand_69 : decode cX10_wordForErrand 69 = .ok (.getfield 33, 3) := by decide +kernel
theorem dX10_wordForErrand_72 : decode cX10_wordForErrand 72 = .ok (.getfield 187, 3) := by decide +kernel
theorem dX10_wordForErrand_75 : decode cX10_wordForErrand 75 = .ok (.aload_n 0, 1) := by decide +kernel
theorem dX10_wordForErrand_76 : decode cX10_wordForErrand 76 = .ok (.getfield 33, 3) := by decide +kernel
theorem dX10_wordForErrand_79 : decode cX10_wordForErrand 79 = .ok (.iload_n 3, 1) := by decide +kernel
theorem dX10_wordForErrand_80 : decode cX10_wordForErrand 80 = .ok (.invokevirtual 431, 3) := by decide +kernel
theorem dX10_wordForErrand_83 : decode cX10_wordForErrand 83 = .ok (.iaload, 1) := by decide +kernel
theorem dX10_wordForErrand_84 : decode cX10_wordForErrand 84 = .ok (.iconst 0, 1) := by decide +kernel
theorem dX10_wordForErrand_85 : decode cX10_wordForErrand 85 = .ok (.invokevirtual 257, 3) := by decide +kernel
theorem dX10_wordForErrand_88 : decode cX10_wordForErrand 88 = .ok (.ireturn, 1) := by decide +kernel
theorem dX10_drawnAct_0 : decode cX10_drawnAct 0 = .ok (.aload_n 1, 1) := by decide +kernel
theorem dX10_drawnAct_1 : decode cX10_drawnAct 1 = .ok (.aload_n 0, 1) := by decide +kernel
theorem dX10_drawnAct_2 : decode cX10_drawnAct 2 = .ok (.getfield 103, 3) := by decide +kernel
theorem dX10_drawnAct_5 : decode cX10_drawnAct 5 = .ok (.invokevirtual 434, 3) := by decide +kernel
theorem dX10_drawnAct_8 : decode cX10_drawnAct 8 = .ok (.istore_n 2, 1) := by decide +kernel
theorem dX10_drawnAct_9 : decode cX10_drawnAct 9 = .ok (.aload_n 1, 1) := by decide +kernel
theorem dX10_drawnAct_10 : decode cX10_drawnAct 10 = .ok (.iconst 4, 1) := by decide +kernel
theorem dX10_drawnAct_11 : decode cX10_drawnAct 11 = .ok (.invokevirtual 434, 3) := by decide +kernel
theorem dX10_drawnAct_14 : decode cX10_drawnAct 14 = .ok (.istore_n 3, 1) := by decide +kernel
theorem dX10_drawnAct_15 : decode cX10_drawnAct 15 = .ok (.iload_n 3, 1) := by decide +kernel
theorem dX10_drawnAct_16 : decode cX10_drawnAct 16 = .ok (.iconst 2, 1) := by decide +kernel
theorem dX10_drawnAct_17 : decode cX10_drawnAct 17 = .ok (.if_icmp .ge 18, 3) := by decide +kernel
theorem dX10_drawnAct_20 : decode cX10_drawnAct 20 = .ok (.aload_n 0, 1) := by decide +kernel
theorem dX10_drawnAct_21 : decode cX10_drawnAct 21 = .ok (.iload_n 2, 1) := by decide +kernel
theorem dX10_drawnAct_22 : decode cX10_drawnAct 22 = .ok (.iconst 1, 1) := by decide +kernel
theorem dX10_drawnAct_23 : decode cX10_drawnAct 23 = .ok (.iload_n 3, 1) := by decide +kernel
theorem dX10_drawnAct_24 : decode cX10_drawnAct 24 = .ok (.isub, 1) := by decide +kernel
theorem dX10_drawnAct_25 : decode cX10_drawnAct 25 = .ok (.invokevirtual 419, 3) := by decide +kernel
theorem dX10_drawnAct_28 : decode cX10_drawnAct 28 = .ok (.iconst 0, 1) := by decide +kernel
theorem dX10_drawnAct_29 : decode cX10_drawnAct 29 = .ok (.invokestatic 374, 3) := by decide +kernel
theorem dX10_drawnAct_32 : decode cX10_drawnAct 32 = .ok (.goto 19, 3) := by decide +kernel
theorem dX10_drawnAct_35 : decode cX10_drawnAct 35 = .ok (.aload_n 0, 1) := by decide +kernel
theorem dX10_drawnAct_36 : decode cX10_drawnAct 36 = .ok (.iload_n 2, 1) := by decide +kernel
theorem dX10_drawnAct_37 : decode cX10_drawnAct 37 = .ok (.aload_n 1, 1) := by decide +kernel
theorem dX10_drawnAct_38 : decode cX10_drawnAct 38 = .ok (.aload_n 0, 1) := by decide +kernel
theorem dX10_drawnAct_39 : decode cX10_drawnAct 39 = .ok (.getfield 26, 3) := by decide +kernel
theorem dX10_drawnAct_42 : decode cX10_drawnAct 42 = .ok (.getfield 127, 3) := by decide +kernel
theorem dX10_drawnAct_45 : decode cX10_drawnAct 45 = .ok (.invokevirtual 434, 3) := by decide +kernel
theorem dX10_drawnAct_48 : decode cX10_drawnAct 48 = .ok (.invokevirtual 233, 3) := by decide +kernel
theorem dX10_drawnAct_51 : decode cX10_drawnAct 51 = .ok (.ireturn, 1) := by decide +kernel
theorem dX10_priceAll_0 : decode cX10_priceAll 0 = .ok (.iconst 0, 1) := by decide +kernel
theorem dX10_priceAll_1 : decode cX10_priceAll 1 = .ok (.istore 4, 2) := by decide +kernel
theorem dX10_priceAll_3 : decode cX10_priceAll 3 = .ok (.iload 4, 2) := by decide +kernel
theorem dX10_priceAll_5 : decode cX10_priceAll 5 = .ok (.aload_n 0, 1) := by decide +kernel
theorem dX10_priceAll_6 : decode cX10_priceAll 6 = .ok (.getfield 26, 3) := by decide +kernel
theorem dX10_priceAll_9 : decode cX10_priceAll 9 = .ok (.getfield 127, 3) := by decide +kernel
theorem dX10_priceAll_12 : decode cX10_priceAll 12 = .ok (.if_icmp .ge 31, 3) := by decide +kernel
theorem dX10_priceAll_15 : decode cX10_priceAll 15 = .ok (.aload_n 3, 1) := by decide +kernel
theorem dX10_priceAll_16 : decode cX10_priceAll 16 = .ok (.iload 4, 2) := by decide +kernel
theorem dX10_priceAll_18 : decode cX10_priceAll 18 = .ok (.aload_n 1, 1) := by decide +kernel
theorem dX10_priceAll_19 : decode cX10_priceAll 19 = .ok (.aload_n 0, 1) := by decide +kernel
theorem dX10_priceAll_20 : decode cX10_priceAll 20 = .ok (.getfield 26, 3) := by decide +kernel
theorem dX10_priceAll_23 : decode cX10_priceAll 23 = .ok (.iload 4, 2) := by decide +kernel
theorem dX10_priceAll_25 : decode cX10_priceAll 25 = .ok (.iload_n 2, 1) := by decide +kernel
theorem dX10_priceAll_26 : decode cX10_priceAll 26 = .ok (.aload_n 0, 1) := by decide +kernel
theorem dX10_priceAll_27 : decode cX10_priceAll 27 = .ok (.getfield 40, 3) := by decide +kernel
theorem dX10_priceAll_30 : decode cX10_priceAll 30 = .ok (.getfield 206, 3) := by decide +kernel
theorem dX10_priceAll_33 : decode cX10_priceAll 33 = .ok (.invokevirtual 209, 3) := by decide +kernel
theorem dX10_priceAll_36 : decode cX10_priceAll 36 = .ok (.iastore, 1) := by decide +kernel
theorem dX10_priceAll_37 : decode cX10_priceAll 37 = .ok (.iinc 4 1, 3) := by decide +kernel
theorem dX10_priceAll_40 : decode cX10_priceAll 40 = .ok (.goto (-37), 3) := by decide +kernel
theorem dX10_priceAll_43 : decode cX10_priceAll 43 = .ok (.return_, 1) := by decide +kernel
theorem dX10_cheapestFor_0 : decode cX10_cheapestFor 0 = .ok (.iconst (-1), 1) := by decide +kernel
theorem dX10_cheapestFor_1 : decode cX10_cheapestFor 1 = .ok (.istore_n 3, 1) := by decide +kernel
theorem dX10_cheapestFor_2 : decode cX10_cheapestFor 2 = .ok (.iconst 0, 1) := by decide +kernel
theorem dX10_cheapestFor_3 : decode cX10_cheapestFor 3 = .ok (.istore 4, 2) := by decide +kernel
theorem dX10_cheapestFor_5 : decode cX10_cheapestFor 5 = .ok (.iconst 0, 1) := by decide +kernel
theorem dX10_cheapestFor_6 : decode cX10_cheapestFor 6 = .ok (.istore 5, 2) := by decide +kernel
theorem dX10_cheapestFor_8 : decode cX10_cheapestFor 8 = .ok (.iload 5, 2) := by decide +kernel
theorem dX10_cheapestFor_10 : decode cX10_cheapestFor 10 = .ok (.aload_n 0, 1) := by decide +kernel
theorem dX10_cheapestFor_11 : decode cX10_cheapestFor 11 = .ok (.getfield 26, 3) := by decide +kernel
theorem dX10_cheapestFor_14 : decode cX10_cheapestFor 14 = .ok (.getfield 127, 3) := by decide +kernel
theorem dX10_cheapestFor_17 : decode cX10_cheapestFor 17 = .ok (.if_icmp .ge 62, 3) := by decide +kernel
theorem dX10_cheapestFor_20 : decode cX10_cheapestFor 20 = .ok (.aload_n 0, 1) := by decide +kernel
theorem dX10_cheapestFor_21 : decode cX10_cheapestFor 21 = .ok (.getfield 77, 3) := by decide +kernel
theorem dX10_cheapestFor_24 : decode cX10_cheapestFor 24 = .ok (.iload 5, 2) := by decide +kernel
theorem dX10_cheapestFor_26 : decode cX10_cheapestFor 26 = .ok (.iaload, 1) := by decide +kernel
theorem dX10_cheapestFor_27 : decode cX10_cheapestFor 27 = .ok (.iload_n 2, 1) := by decide +kernel
theorem dX10_cheapestFor_28 : decode cX10_cheapestFor 28 = .ok (.aload_n 0, 1) := by decide +kernel
theorem dX10_cheapestFor_29 : decode cX10_cheapestFor 29 = .ok (.getfield 26, 3) := by decide +kernel
theorem dX10_cheapestFor_32 : decode cX10_cheapestFor 32 = .ok (.iload 5, 2) := by decide +kernel
theorem dX10_cheapestFor_34 : decode cX10_cheapestFor 34 = .ok (.invokevirtual 145, 3) := by decide +kernel
theorem dX10_cheapestFor_37 : decode cX10_cheapestFor 37 = .ok (.imul, 1) := by decide +kernel
theorem dX10_cheapestFor_38 : decode cX10_cheapestFor 38 = .ok (.iadd, 1) := by decide +kernel
theorem dX10_cheapestFor_39 : decode cX10_cheapestFor 39 = .ok (.istore 6, 2) := by decide +kernel
theorem dX10_cheapestFor_41 : decode cX10_cheapestFor 41 = .ok (.aload_n 0, 1) := by decide +kernel
theorem dX10_cheapestFor_42 : decode cX10_cheapestFor 42 = .ok (.getfield 26, 3) := by decide +kernel
theorem dX10_cheapestFor_45 : decode cX10_cheapestFor 45 = .ok (.iload 5, 2) := by decide +kernel
theorem dX10_cheapestFor_47 : decode cX10_cheapestFor 47 = .ok (.iload_n 1, 1) := by decide +kernel
theorem dX10_cheapestFor_48 : decode cX10_cheapestFor 48 = .ok (.invokevirtual 279, 3) := by decide +kernel
theorem dX10_cheapestFor_51 : decode cX10_cheapestFor 51 = .ok (.ifCond .eq 22, 3) := by decide +kernel
theorem dX10_cheapestFor_54 : decode cX10_cheapestFor 54 = .ok (.iload_n 3, 1) := by decide +kernel
theorem dX10_cheapestFor_55 : decode cX10_cheapestFor 55 = .ok (.iconst (-1), 1) := by decide +kernel
theorem dX10_cheapestFor_56 : decode cX10_cheapestFor 56 = .ok (.if_icmp .eq 10, 3) := by decide +kernel
theorem dX10_cheapestFor_59 : decode cX10_cheapestFor 59 = .ok (.iload 6, 2) := by decide +kernel
theorem dX10_cheapestFor_61 : decode cX10_cheapestFor 61 = .ok (.iload 4, 2) := by decide +kernel
theorem dX10_cheapestFor_63 : decode cX10_cheapestFor 63 = .ok (.if_icmp .ge 10, 3) := by decide +kernel
theorem dX10_cheapestFor_66 : decode cX10_cheapestFor 66 = .ok (.iload 5, 2) := by decide +kernel
theorem dX10_cheapestFor_68 : decode cX10_cheapestFor 68 = .ok (.istore_n 3, 1) := by decide +kernel
theorem dX10_cheapestFor_69 : decode cX10_cheapestFor 69 = .ok (.iload 6, 2) := by decide +kernel
theorem dX10_cheapestFor_71 : decode cX10_cheapestFor 71 = .ok (.istore 4, 2) := by decide +kernel
theorem dX10_cheapestFor_73 : decode cX10_cheapestFor 73 = .ok (.iinc 5 1, 3) := by decide +kernel
theorem dX10_cheapestFor_76 : decode cX10_cheapestFor 76 = .ok (.goto (-68), 3) := by decide +kernel
theorem dX10_cheapestFor_79 : decode cX10_cheapestFor 79 = .ok (.iload_n 3, 1) := by decide +kernel
theorem dX10_cheapestFor_80 : decode cX10_cheapestFor 80 = .ok (.ireturn, 1) := by decide +kernel
theorem dX10_priceOf_0 : decode cX10_priceOf 0 = .ok (.iconst 0, 1) := by decide +kernel
theorem dX10_priceOf_1 : decode cX10_priceOf 1 = .ok (.istore_n 2, 1) := by decide +kernel
theorem dX10_priceOf_2 : decode cX10_priceOf 2 = .ok (.iconst 0, 1) := by decide +kernel
theorem dX10_priceOf_3 : decode cX10_priceOf 3 = .ok (.istore_n 3, 1) := by decide +kernel
theorem dX10_priceOf_4 : decode cX10_priceOf 4 = .ok (.iload_n 3, 1) := by decide +kernel
theorem dX10_priceOf_5 : decode cX10_priceOf 5 = .ok (.aload_n 0, 1) := by decide +kernel
theorem dX10_priceOf_6 : decode cX10_priceOf 6 = .ok (.getfield 26, 3) := by decide +kernel
theorem dX10_priceOf_9 : decode cX10_priceOf 9 = .ok (.getfield 127, 3) := by decide +kernel
theorem dX10_priceOf_12 : decode cX10_priceOf 12 = .ok (.if_icmp .ge 24, 3) := by decide +kernel
theorem dX10_priceOf_15 : decode cX10_priceOf 15 = .ok (.iload_n 2, 1) := by decide +kernel
theorem dX10_priceOf_16 : decode cX10_priceOf 16 = .ok (.iload_n 1, 1) := by decide +kernel
theorem dX10_priceOf_17 : decode cX10_priceOf 17 = .ok (.iload_n 3, 1) := by decide +kernel
theorem dX10_priceOf_18 : decode cX10_priceOf 18 = .ok (.ishr, 1) := by decide +kernel
theorem dX10_priceOf_19 : decode cX10_priceOf 19 = .ok (.iconst 1, 1) := by decide +kernel
theorem dX10_priceOf_20 : decode cX10_priceOf 20 = .ok (.iand, 1) := by decide +kernel
theorem dX10_priceOf_21 : decode cX10_priceOf 21 = .ok (.aload_n 0, 1) := by decide +kernel
theorem dX10_priceOf_22 : decode cX10_priceOf 22 = .ok (.getfield 77, 3) := by decide +kernel
theorem dX10_priceOf_25 : decode cX10_priceOf 25 = .ok (.iload_n 3, 1) := by decide +kernel
theorem dX10_priceOf_26 : decode cX10_priceOf 26 = .ok (.iaload, 1) := by decide +kernel
theorem dX10_priceOf_27 : decode cX10_priceOf 27 = .ok (.imul, 1) := by decide +kernel
theorem dX10_priceOf_28 : decode cX10_priceOf 28 = .ok (.iadd, 1) := by decide +kernel
theorem dX10_priceOf_29 : decode cX10_priceOf 29 = .ok (.istore_n 2, 1) := by decide +kernel
theorem dX10_priceOf_30 : decode cX10_priceOf 30 = .ok (.iinc 3 1, 3) := by decide +kernel
theorem dX10_priceOf_33 : decode cX10_priceOf 33 = .ok (.goto (-29), 3) := by decide +kernel
theorem dX10_priceOf_36 : decode cX10_priceOf 36 = .ok (.iload_n 2, 1) := by decide +kernel
theorem dX10_priceOf_37 : decode cX10_priceOf 37 = .ok (.ireturn, 1) := by decide +kernel
theorem dX10_isShorter_0 : decode cX10_isShorter 0 = .ok (.aload_n 0, 1) := by decide +kernel
theorem dX10_isShorter_1 : decode cX10_isShorter 1 = .ok (.getfield 26, 3) := by decide +kernel
theorem dX10_isShorter_4 : decode cX10_isShorter 4 = .ok (.getfield 142, 3) := by decide +kernel
theorem dX10_isShorter_7 : decode cX10_isShorter 7 = .ok (.iload_n 1, 1) := by decide +kernel
theorem dX10_isShorter_8 : decode cX10_isShorter 8 = .ok (.iaload, 1) := by decide +kernel
theorem dX10_isShorter_9 : decode cX10_isShorter 9 = .ok (.aload_n 0, 1) := by decide +kernel
theorem dX10_isShorter_10 : decode cX10_isShorter 10 = .ok (.getfield 26, 3) := by decide +kernel
theorem dX10_isShorter_13 : decode cX10_isShorter 13 = .ok (.getfield 142, 3) := by decide +kernel
theorem dX10_isShorter_16 : decode cX10_isShorter 16 = .ok (.iload_n 2, 1) := by decide +kernel
theorem dX10_isShorter_17 : decode cX10_isShorter 17 = .ok (.iaload, 1) := by decide +kernel
theorem dX10_isShorter_18 : decode cX10_isShorter 18 = .ok (.isub, 1) := by decide +kernel
theorem dX10_isShorter_19 : decode cX10_isShorter 19 = .ok (.istore_n 3, 1) := by decide +kernel
theorem dX10_isShorter_20 : decode cX10_isShorter 20 = .ok (.iload_n 3, 1) := by decide +kernel
theorem dX10_isShorter_21 : decode cX10_isShorter 21 = .ok (.ifCond .lt 22, 3) := by decide +kernel
theorem dX10_isShorter_24 : decode cX10_isShorter 24 = .ok (.iload_n 3, 1) := by decide +kernel
theorem dX10_isShorter_25 : decode cX10_isShorter 25 = .ok (.ifCond .ne 22, 3) := by decide +kernel
theorem dX10_isShorter_28 : decode cX10_isShorter 28 = .ok (.aload_n 0, 1) := by decide +kernel
theorem dX10_isShorter_29 : decode cX10_isShorter 29 = .ok (.getfield 77, 3) := by decide +kernel
theorem dX10_isShorter_32 : decode cX10_isShorter 32 = .ok (.iload_n 1, 1) := by decide +kernel
theorem dX10_isShorter_33 : decode cX10_isShorter 33 = .ok (.iaload, 1) := by decide +kernel
theorem dX10_isShorter_34 : decode cX10_isShorter 34 = .ok (.aload_n 0, 1) := by decide +kernel
theorem dX10_isShorter_35 : decode cX10_isShorter 35 = .ok (.getfield 77, 3) := by decide +kernel
theorem dX10_isShorter_38 : decode cX10_isShorter 38 = .ok (.iload_n 2, 1) := by decide +kernel
theorem dX10_isShorter_39 : decode cX10_isShorter 39 = .ok (.iaload, 1) := by decide +kernel
theorem dX10_isShorter_40 : decode cX10_isShorter 40 = .ok (.if_icmp .ge 7, 3) := by decide +kernel
theorem dX10_isShorter_43 : decode cX10_isShorter 43 = .ok (.iconst 1, 1) := by decide +kernel
theorem dX10_isShorter_44 : decode cX10_isShorter 44 = .ok (.goto 4, 3) := by decide +kernel
theorem dX10_isShorter_47 : decode cX10_isShorter 47 = .ok (.iconst 0, 1) := by decide +kernel
theorem dX10_isShorter_48 : decode cX10_isShorter 48 = .ok (.ireturn, 1) := by decide +kernel
theorem dX10_tellSentence_0 : decode cX10_tellSentence 0 = .ok (.aload_n 0, 1) := by decide +kernel
theorem dX10_tellSentence_1 : decode cX10_tellSentence 1 = .ok (.getfield 19, 3) := by decide +kernel
theorem dX10_tellSentence_4 : decode cX10_tellSentence 4 = .ok (.invokevirtual 213, 3) := by decide +kernel
theorem dX10_tellSentence_7 : decode cX10_tellSentence 7 = .ok (.iconst 0, 1) := by decide +kernel
theorem dX10_tellSentence_8 : decode cX10_tellSentence 8 = .ok (.istore_n 2, 1) := by decide +kernel
theorem dX10_tellSentence_9 : decode cX10_tellSentence 9 = .ok (.iconst 0, 1) := by decide +kernel
theorem dX10_tellSentence_10 : decode cX10_tellSentence 10 = .ok (.istore_n 3, 1) := by decide +kernel
theorem dX10_tellSentence_11 : decode cX10_tellSentence 11 = .ok (.iload_n 3, 1) := by decide +kernel
theorem dX10_tellSentence_12 : decode cX10_tellSentence 12 = .ok (.iload_n 1, 1) := by decide +kernel
theorem dX10_tellSentence_13 : decode cX10_tellSentence 13 = .ok (.if_icmp .ge 43, 3) := by decide +kernel
theorem dX10_tellSentence_16 : decode cX10_tellSentence 16 = .ok (.iload_n 2, 1) := by decide +kernel
theorem dX10_tellSentence_17 : decode cX10_tellSentence 17 = .ok (.iload_n 1, 1) := by decide +kernel
theorem dX10_tellSentence_18 : decode cX10_tellSentence 18 = .ok (.if_icmp .ge 38, 3) := by decide +kernel
theorem dX10_tellSentence_21 : decode cX10_tellSentence 21 = .ok (.aload_n 0, 1) := by decide +kernel
theorem dX10_tellSentence_22 : decode cX10_tellSentence 22 = .ok (.getfield 19, 3) := by decide +kernel
theorem dX10_tellSentence_25 : decode cX10_tellSentence 25 = .ok (.aload_n 0, 1) := by decide +kernel
theorem dX10_tellSentence_26 : decode cX10_tellSentence 26 = .ok (.getfield 69, 3) := by decide +kernel
theorem dX10_tellSentence_29 : decode cX10_tellSentence 29 = .ok (.getfield 437, 3) := by decide +kernel
theorem dX10_tellSentence_32 : decode cX10_tellSentence 32 = .ok (.iload_n 2, 1) := by decide +kernel
theorem dX10_tellSentence_33 : decode cX10_tellSentence 33 = .ok (.iaload, 1) := by decide +kernel
theorem dX10_tellSentence_34 : decode cX10_tellSentence 34 = .ok (.i2l, 1) := by decide +kernel
theorem dX10_tellSentence_35 : decode cX10_tellSentence 35 = .ok (.invokevirtual 219, 3) := by decide +kernel
theorem dX10_tellSentence_38 : decode cX10_tellSentence 38 = .ok (.iload_n 2, 1) := by decide +kernel
theorem dX10_tellSentence_39 : decode cX10_tellSentence 39 = .ok (.aload_n 0, 1) := by decide +kernel
theorem dX10_tellSentence_40 : decode cX10_tellSentence 40 = .ok (.getfield 69, 3) := by decide +kernel
theorem dX10_tellSentence_43 : decode cX10_tellSentence 43 = .ok (.getfield 440, 3) := by decide +kernel
theorem dX10_tellSentence_46 : decode cX10_tellSentence 46 = .ok (.iload_n 2, 1) := by decide +kernel
theorem dX10_tellSentence_47 : decode cX10_tellSentence 47 = .ok (.iaload, 1) := by decide +kernel
theorem dX10_tellSentence_48 : decode cX10_tellSentence 48 = .ok (.iadd, 1) := by decide +kernel
theorem dX10_tellSentence_49 : decode cX10_tellSentence 49 = .ok (.istore_n 2, 1) := by decide +kernel
theorem dX10_tellSentence_50 : decode cX10_tellSentence 50 = .ok (.iinc 3 1, 3) := by decide +kernel
theorem dX10_tellSentence_53 : decode cX10_tellSentence 53 = .ok (.goto (-42), 3) := by decide +kernel
theorem dX10_tellSentence_56 : decode cX10_tellSentence 56 = .ok (.return_, 1) := by decide +kernel
theorem dX10_openFor_0 : decode cX10_openFor 0 = .ok (.aload_n 0, 1) := by decide +kernel
theorem dX10_openFor_1 : decode cX10_openFor 1 = .ok (.getfield 40, 3) := by decide +kernel
theorem dX10_openFor_4 : decode cX10_openFor 4 = .ok (.getfield 162, 3) := by decide +kernel
theorem dX10_openFor_7 : decode cX10_openFor 7 = .ok (.iload_n 1, 1) := by decide +kernel
theorem dX10_openFor_8 : decode cX10_openFor 8 = .ok (.iaload, 1) := by decide +kernel
theorem dX10_openFor_9 : decode cX10_openFor 9 = .ok (.istore_n 2, 1) := by decide +kernel
theorem dX10_openFor_10 : decode cX10_openFor 10 = .ok (.aload_n 0, 1) := by decide +kernel
theorem dX10_openFor_11 : decode cX10_openFor 11 = .ok (.getfield 33, 3) := by decide +kernel
theorem dX10_openFor_14 : decode cX10_openFor 14 = .ok (.iload_n 1, 1) := by decide +kernel
theorem dX10_openFor_15 : decode cX10_openFor 15 = .ok (.invokevirtual 171, 3) := by decide +kernel
theorem dX10_openFor_18 : decode cX10_openFor 18 = .ok (.aload_n 0, 1) := by decide +kernel
theorem dX10_openFor_19 : decode cX10_openFor 19 = .ok (.getfield 33, 3) := by decide +kernel
theorem dX10_openFor_22 : decode cX10_openFor 22 = .ok (.iload_n 2, 1) := by decide +kernel
theorem dX10_openFor_23 : decode cX10_openFor 23 = .ok (.invokevirtual 428, 3) := by decide +kernel
theorem dX10_openFor_26 : decode cX10_openFor 26 = .ok (.iand, 1) := by decide +kernel
theorem dX10_openFor_27 : decode cX10_openFor 27 = .ok (.aload_n 0, 1) := by decide +kernel
theorem dX10_openFor_28 : decode cX10_openFor 28 = .ok (.getfield 40, 3) := by decide +kernel
theorem dX10_openFor_31 : decode cX10_openFor 31 = .ok (.getfield 174, 3) := by decide +kernel
theorem dX10_openFor_34 : decode cX10_openFor 34 = .ok (.iconst (-1), 1) := by decide +kernel
theorem dX10_openFor_35 : decode cX10_openFor 35 = .ok (.ixor, 1) := by decide +kernel
theorem dX10_openFor_36 : decode cX10_openFor 36 = .ok (.iand, 1) := by decide +kernel
theorem dX10_openFor_37 : decode cX10_openFor 37 = .ok (.istore_n 3, 1) := by decide +kernel
theorem dX10_openFor_38 : decode cX10_openFor 38 = .ok (.aload_n 0, 1) := by decide +kernel
theorem dX10_openFor_39 : decode cX10_openFor 39 = .ok (.aload_n 0, 1) := by decide +kernel
theorem dX10_openFor_40 : decode cX10_openFor 40 = .ok (.getfield 92, 3) := by decide +kernel
theorem dX10_openFor_43 : decode cX10_openFor 43 = .ok (.iload_n 2, 1) := by decide +kernel
theorem dX10_openFor_44 : decode cX10_openFor 44 = .ok (.aload_n 0, 1) := by decide +kernel
theorem dX10_openFor_45 : decode cX10_openFor 45 = .ok (.getfield 77, 3) := by decide +kernel
theorem dX10_openFor_48 : decode cX10_openFor 48 = .ok (.invokevirtual 253, 3) := by decide +kernel
theorem dX10_openFor_51 : decode cX10_openFor 51 = .ok (.iconst 0, 1) := by decide +kernel
theorem dX10_openFor_52 : decode cX10_openFor 52 = .ok (.istore 4, 2) := by decide +kernel
theorem dX10_openFor_54 : decode cX10_openFor 54 = .ok (.iload 4, 2) := by decide +kernel
theorem dX10_openFor_56 : decode cX10_openFor 56 = .ok (.aload_n 0, 1) := by decide +kernel
theorem dX10_openFor_57 : decode cX10_openFor 57 = .ok (.getfield 33, 3) := by decide +kernel
theorem dX10_openFor_60 : decode cX10_openFor 60 = .ok (.getfield 132, 3) := by decide +kernel
theorem dX10_openFor_63 : decode cX10_openFor 63 = .ok (.if_icmp .ge 68, 3) := by decide +kernel
theorem dX10_openFor_66 : decode cX10_openFor 66 = .ok (.aload_n 0, 1) := by decide +kernel
theorem dX10_openFor_67 : decode cX10_openFor 67 = .ok (.aload_n 0, 1) := by decide +kernel
theorem dX10_openFor_68 : decode cX10_openFor 68 = .ok (.getfield 33, 3) := by decide +kernel
theorem dX10_openFor_71 : decode cX10_openFor 71 = .ok (.getfield 187, 3) := by decide +kernel
theorem dX10_openFor_74 : decode cX10_openFor 74 = .ok (.iload 4, 2) := by decide +kernel
theorem dX10_openFor_76 : decode cX10_openFor 76 = .ok (.iaload, 1) := by decide +kernel
theorem dX10_openFor_77 : decode cX10_openFor 77 = .ok (.iconst 0, 1) := by decide +kernel
theorem dX10_openFor_78 : decode cX10_openFor 78 = .ok (.invokevirtual 257, 3) := by decide +kernel
theorem dX10_openFor_81 : decode cX10_openFor 81 = .ok (.istore 5, 2) := by decide +kernel
theorem dX10_openFor_83 : decode cX10_openFor 83 = .ok (.aload_n 0, 1) := by decide +kernel
theorem dX10_openFor_84 : decode cX10_openFor 84 = .ok (.getfield 33, 3) := by decide +kernel
theorem dX10_openFor_87 : decode cX10_openFor 87 = .ok (.getfield 332, 3) := by decide +kernel
theorem dX10_openFor_90 : decode cX10_openFor 90 = .ok (.iload 4, 2) := by decide +kernel
theorem dX10_openFor_92 : decode cX10_openFor 92 = .ok (.iload 5, 2) := by decide +kernel
theorem dX10_openFor_94 : decode cX10_openFor 94 = .ok (.iconst (-1), 1) := by decide +kernel
theorem dX10_openFor_95 : decode cX10_openFor 95 = .ok (.if_icmp .ne 7, 3) := by decide +kernel
theorem dX10_openFor_98 : decode cX10_openFor 98 = .ok (.iconst 0, 1) := by decide +kernel
theorem dX10_openFor_99 : decode cX10_openFor 99 = .ok (.goto 10, 3) := by decide +kernel
theorem dX10_openFor_102 : decode cX10_openFor 102 = .ok (.aload_n 0, 1) := by decide +kernel
theorem dX10_openFor_103 : decode cX10_openFor 103 = .ok (.getfield 77, 3) := by decide +kernel
theorem dX10_openFor_106 : decode cX10_openFor 106 = .ok (.iload 5, 2) := by decide +kernel
theorem dX10_openFor_108 : decode cX10_openFor 108 = .ok (.iaload, 1) := by decide +kernel
theorem dX10_openFor_109 : decode cX10_openFor 109 = .ok (.iastore, 1) := by decide +kernel
theorem dX10_openFor_110 : decode cX10_openFor 110 = .ok (.iload 5, 2) := by decide +kernel
theorem dX10_openFor_112 : decode cX10_openFor 112 = .ok (.iconst (-1), 1) := by decide +kernel
theorem dX10_openFor_113 : decode cX10_openFor 113 = .ok (.if_icmp .ne 12, 3) := by decide +kernel
theorem dX10_openFor_116 : decode cX10_openFor 116 = .ok (.iload_n 3, 1) := by decide +kernel
theorem dX10_openFor_117 : decode cX10_openFor 117 = .ok (.iconst 1, 1) := by decide +kernel
theorem dX10_openFor_118 : decode cX10_openFor 118 = .ok (.iload 4, 2) := by decide +kernel
theorem dX10_openFor_120 : decode cX10_openFor 120 = .ok (.ishl, 1) := by decide +kernel
theorem dX10_openFor_121 : decode cX10_openFor 121 = .ok (.iconst (-1), 1) := by decide +kernel
theorem dX10_openFor_122 : decode cX10_openFor 122 = .ok (.ixor, 1) := by decide +kernel
theorem dX10_openFor_123 : decode cX10_openFor 123 = .ok (.iand, 1) := by decide +kernel
theorem dX10_openFor_124 : decode cX10_openFor 124 = .ok (.istore_n 3, 1) := by decide +kernel
theorem dX10_openFor_125 : decode cX10_openFor 125 = .ok (.iinc 4 1, 3) := by decide +kernel
theorem dX10_openFor_128 : decode cX10_openFor 128 = .ok (.goto (-74), 3) := by decide +kernel
theorem dX10_openFor_131 : decode cX10_openFor 131 = .ok (.iload_n 3, 1) := by decide +kernel
theorem dX10_openFor_132 : decode cX10_openFor 132 = .ok (.ireturn, 1) := by decide +kernel
theorem dX10_incomeBy_0 : decode cX10_incomeBy 0 = .ok (.aload_n 0, 1) := by decide +kernel
theorem dX10_incomeBy_1 : decode cX10_incomeBy 1 = .ok (.getfield 33, 3) := by decide +kernel
theorem dX10_incomeBy_4 : decode cX10_incomeBy 4 = .ok (.iload_n 1, 1) := by decide +kernel
theorem dX10_incomeBy_5 : decode cX10_incomeBy 5 = .ok (.invokevirtual 428, 3) := by decide +kernel
theorem dX10_incomeBy_8 : decode cX10_incomeBy 8 = .ok (.aload_n 0, 1) := by decide +kernel
theorem dX10_incomeBy_9 : decode cX10_incomeBy 9 = .ok (.getfield 40, 3) := by decide +kernel
theorem dX10_incomeBy_12 : decode cX10_incomeBy 12 = .ok (.getfield 174, 3) := by decide +kernel
theorem dX10_incomeBy_15 : decode cX10_incomeBy 15 = .ok (.iconst (-1), 1) := by decide +kernel
theorem dX10_incomeBy_16 : decode cX10_incomeBy 16 = .ok (.ixor, 1) := by decide +kernel
theorem dX10_incomeBy_17 : decode cX10_incomeBy 17 = .ok (.iand, 1) := by decide +kernel
theorem dX10_incomeBy_18 : decode cX10_incomeBy 18 = .ok (.istore_n 3, 1) := by decide +kernel
theorem dX10_incomeBy_19 : decode cX10_incomeBy 19 = .ok (.iconst 0, 1) := by decide +kernel
theorem dX10_incomeBy_20 : decode cX10_incomeBy 20 = .ok (.istore 4, 2) := by decide +kernel
theorem dX10_incomeBy_22 : decode cX10_incomeBy 22 = .ok (.aload_n 0, 1) := by decide +kernel
theorem dX10_incomeBy_23 : decode cX10_incomeBy 23 = .ok (.iconst 0, 1) := by decide +kernel
theorem dX10_incomeBy_24 : decode cX10_incomeBy 24 = .ok (.putfield 106, 3) := by decide +kernel
theorem dX10_incomeBy_27 : decode cX10_incomeBy 27 = .ok (.iconst 0, 1) := by decide +kernel
theorem dX10_incomeBy_28 : decode cX10_incomeBy 28 = .ok (.istore 5, 2) := by decide +kernel
theorem dX10_incomeBy_30 : decode cX10_incomeBy 30 = .ok (.iload 5, 2) := by decide +kernel
theorem dX10_incomeBy_32 : decode cX10_incomeBy 32 = .ok (.aload_n 0, 1) := by decide +kernel
theorem dX10_incomeBy_33 : decode cX10_incomeBy 33 = .ok (.getfield 33, 3) := by decide +kernel
theorem dX10_incomeBy_36 : decode cX10_incomeBy 36 = .ok (.getfield 132, 3) := by decide +kernel
theorem dX10_incomeBy_39 : decode cX10_incomeBy 39 = .ok (.if_icmp .ge 109, 3) := by decide +kernel
theorem dX10_incomeBy_42 : decode cX10_incomeBy 42 = .ok (.iload_n 3, 1) := by decide +kernel
theorem dX10_incomeBy_43 : decode cX10_incomeBy 43 = .ok (.iload 5, 2) := by decide +kernel
theorem dX10_incomeBy_45 : decode cX10_incomeBy 45 = .ok (.ishr, 1) := by decide +kernel
theorem dX10_incomeBy_46 : decode cX10_incomeBy 46 = .ok (.iconst 1, 1) := by decide +kernel
theorem dX10_incomeBy_47 : decode cX10_incomeBy 47 = .ok (.iand, 1) := by decide +kernel
theorem dX10_incomeBy_48 : decode cX10_incomeBy 48 = .ok (.iconst 1, 1) := by decide +kernel
theorem dX10_incomeBy_49 : decode cX10_incomeBy 49 = .ok (.if_icmp .ne 21, 3) := by decide +kernel
theorem dX10_incomeBy_52 : decode cX10_incomeBy 52 = .ok (.aload_n 0, 1) := by decide +kernel
theorem dX10_incomeBy_53 : decode cX10_incomeBy 53 = .ok (.aload_n 0, 1) := by decide +kernel
theorem dX10_incomeBy_54 : decode cX10_incomeBy 54 = .ok (.getfield 33, 3) := by decide +kernel
theorem dX10_incomeBy_57 : decode cX10_incomeBy 57 = .ok (.getfield 187, 3) := by decide +kernel
theorem dX10_incomeBy_60 : decode cX10_incomeBy 60 = .ok (.iload 5, 2) := by decide +kernel
theorem dX10_incomeBy_62 : decode cX10_incomeBy 62 = .ok (.iaload, 1) := by decide +kernel
theorem dX10_incomeBy_63 : decode cX10_incomeBy 63 = .ok (.iload_n 2, 1) := by decide +kernel
theorem dX10_incomeBy_64 : decode cX10_incomeBy 64 = .ok (.invokevirtual 257, 3) := by decide +kernel
theorem dX10_incomeBy_67 : decode cX10_incomeBy 67 = .ok (.goto 4, 3) := by decide +kernel
theorem dX10_incomeBy_70 : decode cX10_incomeBy 70 = .ok (.iconst (-1), 1) := by decide +kernel
theorem dX10_incomeBy_71 : decode cX10_incomeBy 71 = .ok (.istore 6, 2) := by decide +kernel
theorem dX10_incomeBy_73 : decode cX10_incomeBy 73 = .ok (.iload 6, 2) := by decide +kernel
theorem dX10_incomeBy_75 : decode cX10_incomeBy 75 = .ok (.iconst (-1), 1) := by decide +kernel
theorem dX10_incomeBy_76 : decode cX10_incomeBy 76 = .ok (.if_icmp .ne 7, 3) := by decide +kernel
theorem dX10_incomeBy_79 : decode cX10_incomeBy 79 = .ok (.iconst 0, 1) := by decide +kernel
theorem dX10_incomeBy_80 : decode cX10_incomeBy 80 = .ok (.goto 22, 3) := by decide +kernel
theorem dX10_incomeBy_83 : decode cX10_incomeBy 83 = .ok (.aload_n 0, 1) := by decide +kernel
theorem dX10_incomeBy_84 : decode cX10_incomeBy 84 = .ok (.getfield 77, 3) := by decide +kernel
theorem dX10_incomeBy_87 : decode cX10_incomeBy 87 = .ok (.iload 6, 2) := by decide +kernel
theorem dX10_incomeBy_89 : decode cX10_incomeBy 89 = .ok (.iaload, 1) := by decide +kernel
theorem dX10_incomeBy_90 : decode cX10_incomeBy 90 = .ok (.iload_n 2, 1) := by decide +kernel
theorem dX10_incomeBy_91 : decode cX10_incomeBy 91 = .ok (.aload_n 0, 1) := by decide +kernel
theorem dX10_incomeBy_92 : decode cX10_incomeBy 92 = .ok (.getfield 26, 3) := by decide +kernel
theorem dX10_incomeBy_95 : decode cX10_incomeBy 95 = .ok (.iload 6, 2) := by decide +kernel
theorem dX10_incomeBy_97 : decode cX10_incomeBy 97 = .ok (.invokevirtual 145, 3) := by decide +kernel
theorem dX10_incomeBy_100 : decode cX10_incomeBy 100 = .ok (.imul, 1) := by decide +kernel
theorem dX10_incomeBy_101 : decode cX10_incomeBy 101 = .ok (.iadd, 1) := by decide +kernel
theorem dX10_incomeBy_102 : decode cX10_incomeBy 102 = .ok (.istore 7, 2) := by decide +kernel
theorem dX10_incomeBy_104 : decode cX10_incomeBy 104 = .ok (.iload 6, 2) := by decide +kernel
theorem dX10_incomeBy_106 : decode cX10_incomeBy 106 = .ok (.iconst (-1), 1) := by decide +kernel
theorem dX10_incomeBy_107 : decode cX10_incomeBy 107 = .ok (.if_icmp .eq 35, 3) := by decide +kernel
theorem dX10_incomeBy_110 : decode cX10_incomeBy 110 = .ok (.iload 7, 2) := by decide +kernel
theorem dX10_incomeBy_112 : decode cX10_incomeBy 112 = .ok (.aload_n 0, 1) := by decide +kernel
theorem dX10_incomeBy_113 : decode cX10_incomeBy 113 = .ok (.getfield 33, 3) := by decide +kernel
theorem dX10_incomeBy_116 : decode cX10_incomeBy 116 = .ok (.getfield 177, 3) := by decide +kernel
theorem dX10_incomeBy_119 : decode cX10_incomeBy 119 = .ok (.iload 5, 2) := by decide +kernel
theorem dX10_incomeBy_121 : decode cX10_incomeBy 121 = .ok (.iaload, 1) := by decide +kernel
theorem dX10_incomeBy_122 : decode cX10_incomeBy 122 = .ok (.if_icmp .gt 20, 3) := by decide +kernel
theorem dX10_incomeBy_125 : decode cX10_incomeBy 125 = .ok (.iload 4, 2) := by decide +kernel
theorem dX10_incomeBy_127 : decode cX10_incomeBy 127 = .ok (.iload 7, 2) := by decide +kernel
theorem dX10_incomeBy_129 : decode cX10_incomeBy 129 = .ok (.iadd, 1) := by decide +kernel
theorem dX10_incomeBy_130 : decode cX10_incomeBy 130 = .ok (.istore 4, 2) := by decide +kernel
theorem dX10_incomeBy_132 : decode cX10_incomeBy 132 = .ok (.aload_n 0, 1) := by decide +kernel
theorem dX10_incomeBy_133 : decode cX10_incomeBy 133 = .ok (.dup, 1) := by decide +kernel
theorem dX10_incomeBy_134 : decode cX10_incomeBy 134 = .ok (.getfield 106, 3) := by decide +kernel
theorem dX10_incomeBy_137 : decode cX10_incomeBy 137 = .ok (.iconst 1, 1) := by decide +kernel
theorem dX10_incomeBy_138 : decode cX10_incomeBy 138 = .ok (.iadd, 1) := by decide +kernel
theorem dX10_incomeBy_139 : decode cX10_incomeBy 139 = .ok (.putfield 106, 3) := by decide +kernel
theorem dX10_incomeBy_142 : decode cX10_incomeBy 142 = .ok (.iinc 5 1, 3) := by decide +kernel
theorem dX10_incomeBy_145 : decode cX10_incomeBy 145 = .ok (.goto (-115), 3) := by decide +kernel
theorem dX10_incomeBy_148 : decode cX10_incomeBy 148 = .ok (.iload 4, 2) := by decide +kernel
theorem dX10_incomeBy_150 : decode cX10_incomeBy 150 = .ok (.ireturn, 1) := by decide +kernel
theorem dX10_soonest_0 : decode cX10_soonest 0 = .ok (.aload_n 0, 1) := by decide +kernel
theorem dX10_soonest_1 : decode cX10_soonest 1 = .ok (.getfield 33, 3) := by decide +kernel
theorem dX10_soonest_4 : decode cX10_soonest 4 = .ok (.iload_n 1, 1) := by decide +kernel
theorem dX10_soonest_5 : decode cX10_soonest 5 = .ok (.invokevirtual 171, 3) := by decide +kernel
theorem dX10_soonest_8 : decode cX10_soonest 8 = .ok (.aload_n 0, 1) := by decide +kernel
theorem dX10_soonest_9 : decode cX10_soonest 9 = .ok (.getfield 40, 3) := by decide +kernel
theorem dX10_soonest_12 : decode cX10_soonest 12 = .ok (.getfield 174, 3) := by decide +kernel
theorem dX10_soonest_15 : decode cX10_soonest 15 = .ok (.iconst (-1), 1) := by decide +kernel
theorem dX10_soonest_16 : decode cX10_soonest 16 = .ok (.ixor, 1) := by decide +kernel
theorem dX10_soonest_17 : decode cX10_soonest 17 = .ok (.iand, 1) := by decide +kernel
theorem dX10_soonest_18 : decode cX10_soonest 18 = .ok (.istore 4, 2) := by decide +kernel
theorem dX10_soonest_20 : decode cX10_soonest 20 = .ok (.aload_n 0, 1) := by decide +kernel
theorem dX10_soonest_21 : decode cX10_soonest 21 = .ok (.getfield 40, 3) := by decide +kernel
theorem dX10_soonest_24 : decode cX10_soonest 24 = .ok (.getfield 162, 3) := by decide +kernel
theorem dX10_soonest_27 : decode cX10_soonest 27 = .ok (.iload_n 1, 1) := by decide +kernel
theorem dX10_soonest_28 : decode cX10_soonest 28 = .ok (.iaload, 1) := by decide +kernel
theorem dX10_soonest_29 : decode cX10_soonest 29 = .ok (.istore 5, 2) := by decide +kernel
theorem dX10_soonest_31 : decode cX10_soonest 31 = .ok (.aload_n 0, 1) := by decide +kernel
theorem dX10_soonest_32 : decode cX10_soonest 32 = .ok (.getfield 69, 3) := by decide +kernel
theorem dX10_soonest_35 : decode cX10_soonest 35 = .ok (.iload 4, 2) := by decide +kernel
theorem dX10_soonest_37 : decode cX10_soonest 37 = .ok (.iload 5, 2) := by decide +kernel
theorem dX10_soonest_39 : decode cX10_soonest 39 = .ok (.aload_n 0, 1) := by decide +kernel
theorem dX10_soonest_40 : decode cX10_soonest 40 = .ok (.getfield 99, 3) := by decide +kernel
theorem dX10_soonest_43 : decode cX10_soonest 43 = .ok (.invokevirtual 443, 3) := by decide +kernel
theorem dX10_soonest_46 : decode cX10_soonest 46 = .ok (.iconst (-1), 1) := by decide +kernel
theorem dX10_soonest_47 : decode cX10_soonest 47 = .ok (.istore 6, 2) := by decide +kernel
theorem dX10_soonest_49 : decode cX10_soonest 49 = .ok (.iconst 0, 1) := by decide +kernel
theorem dX10_soonest_50 : decode cX10_soonest 50 = .ok (.istore 7, 2) := by decide +kernel
theorem dX10_soonest_52 : decode cX10_soonest 52 = .ok (.iload 7, 2) := by decide +kernel
theorem dX10_soonest_54 : decode cX10_soonest 54 = .ok (.iload_n 2, 1) := by decide +kernel
theorem dX10_soonest_55 : decode cX10_soonest 55 = .ok (.if_icmp .gt 101, 3) := by decide +kernel
theorem dX10_soonest_58 : decode cX10_soonest 58 = .ok (.iload_n 3, 1) := by decide +kernel
theorem dX10_soonest_59 : decode cX10_soonest 59 = .ok (.ifCond .eq 9, 3) := by decide +kernel
theorem dX10_soonest_62 : decode cX10_soonest 62 = .ok (.iload 6, 2) := by decide +kernel
theorem dX10_soonest_64 : decode cX10_soonest 64 = .ok (.iconst (-1), 1) := by decide +kernel
theorem dX10_soonest_65 : decode cX10_soonest 65 = .ok (.if_icmp .ne 91, 3) := by decide +kernel
theorem dX10_soonest_68 : decode cX10_soonest 68 = .ok (.iload 7, 2) := by decide +kernel
theorem dX10_soonest_70 : decode cX10_soonest 70 = .ok (.ifCond .le 10, 3) := by decide +kernel
theorem dX10_soonest_73 : decode cX10_soonest 73 = .ok (.aload_n 0, 1) := by decide +kernel
theorem dX10_soonest_74 : decode cX10_soonest 74 = .ok (.getfield 69, 3) := by decide +kernel
theorem dX10_soonest_77 : decode cX10_soonest 77 = .ok (.invokevirtual 447, 3) := by decide +kernel
theorem dX10_soonest_80 : decode cX10_soonest 80 = .ok (.iconst 0, 1) := by decide +kernel
theorem dX10_soonest_81 : decode cX10_soonest 81 = .ok (.iload 5, 2) := by decide +kernel
theorem dX10_soonest_83 : decode cX10_soonest 83 = .ok (.iload 7, 2) := by decide +kernel
theorem dX10_soonest_85 : decode cX10_soonest 85 = .ok (.isub, 1) := by decide +kernel
theorem dX10_soonest_86 : decode cX10_soonest 86 = .ok (.invokestatic 369, 3) := by decide +kernel
theorem dX10_soonest_89 : decode cX10_soonest 89 = .ok (.istore 8, 2) := by decide +kernel
theorem dX10_soonest_91 : decode cX10_soonest 91 = .ok (.iload 8, 2) := by decide +kernel
theorem dX10_soonest_93 : decode cX10_soonest 93 = .ok (.aload_n 0, 1) := by decide +kernel
theorem dX10_soonest_94 : decode cX10_soonest 94 = .ok (.getfield 99, 3) := by decide +kernel
theorem dX10_soonest_97 : decode cX10_soonest 97 = .ok (.if_icmp .ge 39, 3) := by decide +kernel
theorem dX10_soonest_100 : decode cX10_soonest 100 = .ok (.iload 8, 2) := by decide +kernel
theorem dX10_soonest_102 : decode cX10_soonest 102 = .ok (.iload 5, 2) := by decide +kernel
theorem dX10_soonest_104 : decode cX10_soonest 104 = .ok (.iload 7, 2) := by decide +kernel
theorem dX10_soonest_106 : decode cX10_soonest 106 = .ok (.iadd, 1) := by decide +kernel
theorem dX10_soonest_107 : decode cX10_soonest 107 = .ok (.if_icmp .gt 29, 3) := by decide +kernel
theorem dX10_soonest_110 : decode cX10_soonest 110 = .ok (.aload_n 0, 1) := by decide +kernel
theorem dX10_soonest_111 : decode cX10_soonest 111 = .ok (.iload 4, 2) := by decide +kernel
theorem dX10_soonest_113 : decode cX10_soonest 113 = .ok (.aload_n 0, 1) := by decide +kernel
theorem dX10_soonest_114 : decode cX10_soonest 114 = .ok (.getfield 33, 3) := by decide +kernel
theorem dX10_soonest_117 : decode cX10_soonest 117 = .ok (.iload 8, 2) := by decide +kernel
theorem dX10_soonest_119 : decode cX10_soonest 119 = .ok (.invokevirtual 428, 3) := by decide +kernel
theorem dX10_soonest_122 : decode cX10_soonest 122 = .ok (.iand, 1) := by decide +kernel
theorem dX10_soonest_123 : decode cX10_soonest 123 = .ok (.iload 8, 2) := by decide +kernel
theorem dX10_soonest_125 : decode cX10_soonest 125 = .ok (.iload 7, 2) := by decide +kernel
theorem dX10_soonest_127 : decode cX10_soonest 127 = .ok (.invokevirtual 450, 3) := by decide +kernel
theorem dX10_soonest_130 : decode cX10_soonest 130 = .ok (.iinc 8 1, 3) := by decide +kernel
theorem dX10_soonest_133 : decode cX10_soonest 133 = .ok (.goto (-42), 3) := by decide +kernel
theorem dX10_soonest_136 : decode cX10_soonest 136 = .ok (.aload_n 0, 1) := by decide +kernel
theorem dX10_soonest_137 : decode cX10_soonest 137 = .ok (.getfield 69, 3) := by decide +kernel
theorem dX10_soonest_140 : decode cX10_soonest 140 = .ok (.invokevirtual 453, 3) := by decide +kernel
theorem dX10_soonest_143 : decode cX10_soonest 143 = .ok (.ifCond .eq 7, 3) := by decide +kernel
theorem dX10_soonest_146 : decode cX10_soonest 146 = .ok (.iload 7, 2) := by decide +kernel
theorem dX10_soonest_148 : decode cX10_soonest 148 = .ok (.istore 6, 2) := by decide +kernel
theorem dX10_soonest_150 : decode cX10_soonest 150 = .ok (.iinc 7 1, 3) := by decide +kernel
theorem dX10_soonest_153 : decode cX10_soonest 153 = .ok (.goto (-101), 3) := by decide +kernel
theorem dX10_soonest_156 : decode cX10_soonest 156 = .ok (.iload 6, 2) := by decide +kernel
theorem dX10_soonest_158 : decode cX10_soonest 158 = .ok (.ireturn, 1) := by decide +kernel
theorem dX10_sayThere_0 : decode cX10_sayThere 0 = .ok (.iconst 0, 1) := by decide +kernel
theorem dX10_sayThere_1 : decode cX10_sayThere 1 = .ok (.istore 4, 2) := by decide +kernel
theorem dX10_sayThere_3 : decode cX10_sayThere 3 = .ok (.iload 4, 2) := by decide +kernel
theorem dX10_sayThere_5 : decode cX10_sayThere 5 = .ok (.aload_n 0, 1) := by decide +kernel
theorem dX10_sayThere_6 : decode cX10_sayThere 6 = .ok (.getfield 26, 3) := by decide +kernel
theorem dX10_sayThere_9 : decode cX10_sayThere 9 = .ok (.getfield 127, 3) := by decide +kernel
theorem dX10_sayThere_12 : decode cX10_sayThere 12 = .ok (.if_icmp .ge 69, 3) := by decide +kernel
theorem dX10_sayThere_15 : decode cX10_sayThere 15 = .ok (.iload_n 1, 1) := by decide +kernel
theorem dX10_sayThere_16 : decode cX10_sayThere 16 = .ok (.ifCond .eq 65, 3) := by decide +kernel
theorem dX10_sayThere_19 : decode cX10_sayThere 19 = .ok (.iload_n 1, 1) := by decide +kernel
theorem dX10_sayThere_20 : decode cX10_sayThere 20 = .ok (.aload_n 0, 1) := by decide +kernel
theorem dX10_sayThere_21 : decode cX10_sayThere 21 = .ok (.getfield 33, 3) := by decide +kernel
theorem dX10_sayThere_24 : decode cX10_sayThere 24 = .ok (.aload_n 0, 1) := by decide +kernel
theorem dX10_sayThere_25 : decode cX10_sayThere 25 = .ok (.getfield 26, 3) := by decide +kernel
theorem dX10_sayThere_28 : decode cX10_sayThere 28 = .ok (.iload 4, 2) := by decide +kernel
theorem dX10_sayThere_30 : decode cX10_sayThere 30 = .ok (.iload_n 2, 1) := by decide +kernel
theorem dX10_sayThere_31 : decode cX10_sayThere 31 = .ok (.invokevirtual 422, 3) := by decide +kernel
theorem dX10_sayThere_34 : decode cX10_sayThere 34 = .ok (.iand, 1) := by decide +kernel
theorem dX10_sayThere_35 : decode cX10_sayThere 35 = .ok (.istore 5, 2) := by decide +kernel
theorem dX10_sayThere_37 : decode cX10_sayThere 37 = .ok (.iload 5, 2) := by decide +kernel
theorem dX10_sayThere_39 : decode cX10_sayThere 39 = .ok (.ifCond .eq 36, 3) := by decide +kernel
theorem dX10_sayThere_42 : decode cX10_sayThere 42 = .ok (.aload_n 0, 1) := by decide +kernel
theorem dX10_sayThere_43 : decode cX10_sayThere 43 = .ok (.getfield 69, 3) := by decide +kernel
theorem dX10_sayThere_46 : decode cX10_sayThere 46 = .ok (.iload_n 2, 1) := by decide +kernel
theorem dX10_sayThere_47 : decode cX10_sayThere 47 = .ok (.iload 5, 2) := by decide +kernel
theorem dX10_sayThere_49 : decode cX10_sayThere 49 = .ok (.aload_n 0, 1) := by decide +kernel
theorem dX10_sayThere_50 : decode cX10_sayThere 50 = .ok (.getfield 92, 3) := by decide +kernel
theorem dX10_sayThere_53 : decode cX10_sayThere 53 = .ok (.aload_n 0, 1) := by decide +kernel
theorem dX10_sayThere_54 : decode cX10_sayThere 54 = .ok (.getfield 26, 3) := by decide +kernel
theorem dX10_sayThere_57 : decode cX10_sayThere 57 = .ok (.iload 4, 2) := by decide +kernel
theorem dX10_sayThere_59 : decode cX10_sayThere 59 = .ok (.iload_n 2, 1) := by decide +kernel
theorem dX10_sayThere_60 : decode cX10_sayThere 60 = .ok (.aload_n 0, 1) := by decide +kernel
theorem dX10_sayThere_61 : decode cX10_sayThere 61 = .ok (.getfield 40, 3) := by decide +kernel
theorem dX10_sayThere_64 : decode cX10_sayThere 64 = .ok (.getfield 206, 3) := by decide +kernel
theorem dX10_sayThere_67 : decode cX10_sayThere 67 = .ok (.iload_n 3, 1) := by decide +kernel
theorem dX10_sayThere_68 : decode cX10_sayThere 68 = .ok (.iadd, 1) := by decide +kernel
theorem dX10_sayThere_69 : decode cX10_sayThere 69 = .ok (.invokevirtual 209, 3) := by decide +kernel
theorem dX10_sayThere_72 : decode cX10_sayThere 72 = .ok (.invokevirtual 456, 3) := by decide +kernel
theorem dX10_sayThere_75 : decode cX10_sayThere 75 = .ok (.iinc 4 1, 3) := by decide +kernel
theorem dX10_sayThere_78 : decode cX10_sayThere 78 = .ok (.goto (-75), 3) := by decide +kernel
theorem dX10_sayThere_81 : decode cX10_sayThere 81 = .ok (.return_, 1) := by decide +kernel
theorem dX10_waysToSay_0 : decode cX10_waysToSay 0 = .ok (.iconst 0, 1) := by decide +kernel
theorem dX10_waysToSay_1 : decode cX10_waysToSay 1 = .ok (.istore_n 2, 1) := by decide +kernel
theorem dX10_waysToSay_2 : decode cX10_waysToSay 2 = .ok (.iload_n 2, 1) := by decide +kernel
theorem dX10_waysToSay_3 : decode cX10_waysToSay 3 = .ok (.iload_n 1, 1) := by decide +kernel
theorem dX10_waysToSay_4 : decode cX10_waysToSay 4 = .ok (.if_icmp .ge 16, 3) := by decide +kernel
theorem dX10_waysToSay_7 : decode cX10_waysToSay 7 = .ok (.aload_n 0, 1) := by decide +kernel
theorem dX10_waysToSay_8 : decode cX10_waysToSay 8 = .ok (.getfield 86, 3) := by decide +kernel
theorem dX10_waysToSay_11 : decode cX10_waysToSay 11 = .ok (.iload_n 2, 1) := by decide +kernel
theorem dX10_waysToSay_12 : decode cX10_waysToSay 12 = .ok (.iconst 0, 1) := by decide +kernel
theorem dX10_waysToSay_13 : decode cX10_waysToSay 13 = .ok (.iastore, 1) := by decide +kernel
theorem dX10_waysToSay_14 : decode cX10_waysToSay 14 = .ok (.iinc 2 1, 3) := by decide +kernel
theorem dX10_waysToSay_17 : decode cX10_waysToSay 17 = .ok (.goto (-15), 3) := by decide +kernel
theorem dX10_waysToSay_20 : decode cX10_waysToSay 20 = .ok (.iconst 0, 1) := by decide +kernel
theorem dX10_waysToSay_21 : decode cX10_waysToSay 21 = .ok (.istore_n 2, 1) := by decide +kernel
theorem dX10_waysToSay_22 : decode cX10_waysToSay 22 = .ok (.iconst 1, 1) := by decide +kernel
theorem dX10_waysToSay_23 : decode cX10_waysToSay 23 = .ok (.istore_n 3, 1) := by decide +kernel
theorem dX10_waysToSay_24 : decode cX10_waysToSay 24 = .ok (.iconst 0, 1) := by decide +kernel
theorem dX10_waysToSay_25 : decode cX10_waysToSay 25 = .ok (.istore 4, 2) := by decide +kernel
theorem dX10_waysToSay_27 : decode cX10_waysToSay 27 = .ok (.iload 4, 2) := by decide +kernel
theorem dX10_waysToSay_29 : decode cX10_waysToSay 29 = .ok (.sipush 1000, 3) := by decide +kernel
theorem dX10_waysToSay_32 : decode cX10_waysToSay 32 = .ok (.if_icmp .ge 45, 3) := by decide +kernel
theorem dX10_waysToSay_35 : decode cX10_waysToSay 35 = .ok (.iload_n 3, 1) := by decide +kernel
theorem dX10_waysToSay_36 : decode cX10_waysToSay 36 = .ok (.ifCond .eq 41, 3) := by decide +kernel
theorem dX10_waysToSay_39 : decode cX10_waysToSay 39 = .ok (.aload_n 0, 1) := by decide +kernel
theorem dX10_waysToSay_40 : decode cX10_waysToSay 40 = .ok (.iload_n 1, 1) := by decide +kernel
theorem dX10_waysToSay_41 : decode cX10_waysToSay 41 = .ok (.invokevirtual 459, 3) := by decide +kernel
theorem dX10_waysToSay_44 : decode cX10_waysToSay 44 = .ok (.ifCond .eq 21, 3) := by decide +kernel
theorem dX10_waysToSay_47 : decode cX10_waysToSay 47 = .ok (.aload_n 0, 1) := by decide +kernel
theorem dX10_waysToSay_48 : decode cX10_waysToSay 48 = .ok (.getfield 19, 3) := by decide +kernel
theorem dX10_waysToSay_51 : decode cX10_waysToSay 51 = .ok (.getfield 364, 3) := by decide +kernel
theorem dX10_waysToSay_54 : decode cX10_waysToSay 54 = .ok (.ifCond .ne 8, 3) := by decide +kernel
theorem dX10_waysToSay_57 : decode cX10_waysToSay 57 = .ok (.aload_n 0, 1) := by decide +kernel
theorem dX10_waysToSay_58 : decode cX10_waysToSay 58 = .ok (.iload_n 1, 1) := by decide +kernel
theorem dX10_waysToSay_59 : decode cX10_waysToSay 59 = .ok (.invokevirtual 462, 3) := by decide +kernel
theorem dX10_waysToSay_62 : decode cX10_waysToSay 62 = .ok (.iinc 2 1, 3) := by decide +kernel
theorem dX10_waysToSay_65 : decode cX10_waysToSay 65 = .ok (.aload_n 0, 1) := by decide +kernel
theorem dX10_waysToSay_66 : decode cX10_waysToSay 66 = .ok (.iload_n 1, 1) := by decide +kernel
theorem dX10_waysToSay_67 : decode cX10_waysToSay 67 = .ok (.invokevirtual 465, 3) := by decide +kernel
theorem dX10_waysToSay_70 : decode cX10_waysToSay 70 = .ok (.istore_n 3, 1) := by decide +kernel
theorem dX10_waysToSay_71 : decode cX10_waysToSay 71 = .ok (.iinc 4 1, 3) := by decide +kernel
theorem dX10_waysToSay_74 : decode cX10_waysToSay 74 = .ok (.goto (-47), 3) := by decide +kernel
theorem dX10_waysToSay_77 : decode cX10_waysToSay 77 = .ok (.iload_n 2, 1) := by decide +kernel
theorem dX10_waysToSay_78 : decode cX10_waysToSay 78 = .ok (.ireturn, 1) := by decide +kernel
theorem dX10_leavesNone_0 : decode cX10_leavesNone 0 = .ok (.iconst 0, 1) := by decide +kernel
theorem dX10_leavesNone_1 : decode cX10_leavesNone 1 = .ok (.istore_n 2, 1) := by decide +kernel
theorem dX10_leavesNone_2 : decode cX10_leavesNone 2 = .ok (.iload_n 2, 1) := by decide +kernel
theorem dX10_leavesNone_3 : decode cX10_leavesNone 3 = .ok (.iconst 5, 1) := by decide +kernel
theorem dX10_leavesNone_4 : decode cX10_leavesNone 4 = .ok (.if_icmp .ge 55, 3) := by decide +kernel
theorem dX10_leavesNone_7 : decode cX10_leavesNone 7 = .ok (.aload_n 0, 1) := by decide +kernel
theorem dX10_leavesNone_8 : decode cX10_leavesNone 8 = .ok (.getfield 83, 3) := by decide +kernel
theorem dX10_leavesNone_11 : decode cX10_leavesNone 11 = .ok (.iload_n 2, 1) := by decide +kernel
theorem dX10_leavesNone_12 : decode cX10_leavesNone 12 = .ok (.iaload, 1) := by decide +kernel
theorem dX10_leavesNone_13 : decode cX10_leavesNone 13 = .ok (.istore_n 3, 1) := by decide +kernel
theorem dX10_leavesNone_14 : decode cX10_leavesNone 14 = .ok (.iconst 0, 1) := by decide +kernel
theorem dX10_leavesNone_15 : decode cX10_leavesNone 15 = .ok (.istore 4, 2) := by decide +kernel
theorem dX10_leavesNone_17 : decode cX10_leavesNone 17 = .ok (.iload 4, 2) := by decide +kernel
theorem dX10_leavesNone_19 : decode cX10_leavesNone 19 = .ok (.iload_n 1, 1) := by decide +kernel
theorem dX10_leavesNone_20 : decode cX10_leavesNone 20 = .ok (.if_icmp .ge 27, 3) := by decide +kernel
theorem dX10_leavesNone_23 : decode cX10_leavesNone 23 = .ok (.iload_n 3, 1) := by decide +kernel
theorem dX10_leavesNone_24 : decode cX10_leavesNone 24 = .ok (.aload_n 0, 1) := by decide +kernel
theorem dX10_leavesNone_25 : decode cX10_leavesNone 25 = .ok (.getfield 26, 3) := by decide +kernel
theorem dX10_leavesNone_28 : decode cX10_leavesNone 28 = .ok (.aload_n 0, 1) := by decide +kernel
theorem dX10_leavesNone_29 : decode cX10_leavesNone 29 = .ok (.getfield 86, 3) := by decide +kernel
theorem dX10_leavesNone_32 : decode cX10_leavesNone 32 = .ok (.iload 4, 2) := by decide +kernel
theorem dX10_leavesNone_34 : decode cX10_leavesNone 34 = .ok (.iaload, 1) := by decide +kernel
theorem dX10_leavesNone_35 : decode cX10_leavesNone 35 = .ok (.iload_n 2, 1) := by decide +kernel
theorem dX10_leavesNone_36 : decode cX10_leavesNone 36 = .ok (.invokevirtual 155, 3) := by decide +kernel
theorem dX10_leavesNone_39 : decode cX10_leavesNone 39 = .ok (.isub, 1) := by decide +kernel
theorem dX10_leavesNone_40 : decode cX10_leavesNone 40 = .ok (.istore_n 3, 1) := by decide +kernel
theorem dX10_leavesNone_41 : decode cX10_leavesNone 41 = .ok (.iinc 4 1, 3) := by decide +kernel
theorem dX10_leavesNone_44 : decode cX10_leavesNone 44 = .ok (.goto (-27), 3) := by decide +kernel
theorem dX10_leavesNone_47 : decode cX10_leavesNone 47 = .ok (.iload_n 3, 1) := by decide +kernel
theorem dX10_leavesNone_48 : decode cX10_leavesNone 48 = .ok (.ifCond .eq 5, 3) := by decide +kernel
theorem dX10_leavesNone_51 : decode cX10_leavesNone 51 = .ok (.iconst 0, 1) := by decide +kernel
theorem dX10_leavesNone_52 : decode cX10_leavesNone 52 = .ok (.ireturn, 1) := by decide +kernel
theorem dX10_leavesNone_53 : decode cX10_leavesNone 53 = .ok (.iinc 2 1, 3) := by decide +kernel
theorem dX10_leavesNone_56 : decode cX10_leavesNone 56 = .ok (.goto (-54), 3) := by decide +kernel
theorem dX10_leavesNone_59 : decode cX10_leavesNone 59 = .ok (.iconst 1, 1) := by decide +kernel
theorem dX10_leavesNone_60 : decode cX10_leavesNone 60 = .ok (.ireturn, 1) := by decide +kernel
theorem dX10_tellPicked_0 : decode cX10_tellPicked 0 = .ok (.iconst 0, 1) := by decide +kernel
theorem dX10_tellPicked_1 : decode cX10_tellPicked 1 = .ok (.istore_n 2, 1) := by decide +kernel
theorem dX10_tellPicked_2 : decode cX10_tellPicked 2 = .ok (.iload_n 2, 1) := by decide +kernel
theorem dX10_tellPicked_3 : decode cX10_tellPicked 3 = .ok (.iload_n 1, 1) := by decide +kernel
theorem dX10_tellPicked_4 : decode cX10_tellPicked 4 = .ok (.if_icmp .ge 23, 3) := by decide +kernel
theorem dX10_tellPicked_7 : decode cX10_tellPicked 7 = .ok (.aload_n 0, 1) := by decide +kernel
theorem dX10_tellPicked_8 : decode cX10_tellPicked 8 = .ok (.getfield 19, 3) := by decide +kernel
theorem dX10_tellPicked_11 : decode cX10_tellPicked 11 = .ok (.aload_n 0, 1) := by decide +kernel
theorem dX10_tellPicked_12 : decode cX10_tellPicked 12 = .ok (.getfield 86, 3) := by decide +kernel
theorem dX10_tellPicked_15 : decode cX10_tellPicked 15 = .ok (.iload_n 2, 1) := by decide +kernel
theorem dX10_tellPicked_16 : decode cX10_tellPicked 16 = .ok (.iaload, 1) := by decide +kernel
theorem dX10_tellPicked_17 : decode cX10_tellPicked 17 = .ok (.i2l, 1) := by decide +kernel
theorem dX10_tellPicked_18 : decode cX10_tellPicked 18 = .ok (.invokevirtual 219, 3) := by decide +kernel
theorem dX10_tellPicked_21 : decode cX10_tellPicked 21 = .ok (.iinc 2 1, 3) := by decide +kernel
theorem dX10_tellPicked_24 : decode cX10_tellPicked 24 = .ok (.goto (-22), 3) := by decide +kernel
theorem dX10_tellPicked_27 : decode cX10_tellPicked 27 = .ok (.return_, 1) := by decide +kernel
theorem dX10_pickNext_0 : decode cX10_pickNext 0 = .ok (.iload_n 1, 1) := by decide +kernel
theorem dX10_pickNext_1 : decode cX10_pickNext 1 = .ok (.iconst 1, 1) := by decide +kernel
theorem dX10_pickNext_2 : decode cX10_pickNext 2 = .ok (.isub, 1) := by decide +kernel
theorem dX10_pickNext_3 : decode cX10_pickNext 3 = .ok (.istore_n 2, 1) := by decide +kernel
theorem dX10_pickNext_4 : decode cX10_pickNext 4 = .ok (.iload_n 2, 1) := by decide +kernel
theorem dX10_pickNext_5 : decode cX10_pickNext 5 = .ok (.ifCond .lt 27, 3) := by decide +kernel
theorem dX10_pickNext_8 : decode cX10_pickNext 8 = .ok (.aload_n 0, 1) := by decide +kernel
theorem dX10_pickNext_9 : decode cX10_pickNext 9 = .ok (.getfield 86, 3) := by decide +kernel
theorem dX10_pickNext_12 : decode cX10_pickNext 12 = .ok (.iload_n 2, 1) := by decide +kernel
theorem dX10_pickNext_13 : decode cX10_pickNext 13 = .ok (.iaload, 1) := by decide +kernel
theorem dX10_pickNext_14 : decode cX10_pickNext 14 = .ok (.aload_n 0, 1) := by decide +kernel
theorem dX10_pickNext_15 : decode cX10_pickNext 15 = .ok (.getfield 26, 3) := by decide +kernel
theorem dX10_pickNext_18 : decode cX10_pickNext 18 = .ok (.getfield 127, 3) := by decide +kernel
theorem dX10_pickNext_21 : decode cX10_pickNext 21 = .ok (.iconst 1, 1) := by decide +kernel
theorem dX10_pickNext_22 : decode cX10_pickNext 22 = .ok (.isub, 1) := by decide +kernel
theorem dX10_pickNext_23 : decode cX10_pickNext 23 = .ok (.if_icmp .lt 9, 3) := by decide +kernel
theorem dX10_pickNext_26 : decode cX10_pickNext 26 = .ok (.iinc 2 (-1), 3) := by decide +kernel
theorem dX10_pickNext_29 : decode cX10_pickNext 29 = .ok (.goto (-25), 3) := by decide +kernel
theorem dX10_pickNext_32 : decode cX10_pickNext 32 = .ok (.iload_n 2, 1) := by decide +kernel
theorem dX10_pickNext_33 : decode cX10_pickNext 33 = .ok (.ifCond .ge 5, 3) := by decide +kernel
theorem dX10_pickNext_36 : decode cX10_pickNext 36 = .ok (.iconst 0, 1) := by decide +kernel
theorem dX10_pickNext_37 : decode cX10_pickNext 37 = .ok (.ireturn, 1) := by decide +kernel
theorem dX10_pickNext_38 : decode cX10_pickNext 38 = .ok (.aload_n 0, 1) := by decide +kernel
theorem dX10_pickNext_39 : decode cX10_pickNext 39 = .ok (.getfield 86, 3) := by decide +kernel
theorem dX10_pickNext_42 : decode cX10_pickNext 42 = .ok (.iload_n 2, 1) := by decide +kernel
theorem dX10_pickNext_43 : decode cX10_pickNext 43 = .ok (.iaload, 1) := by decide +kernel
theorem dX10_pickNext_44 : decode cX10_pickNext 44 = .ok (.iconst 1, 1) := by decide +kernel
theorem dX10_pickNext_45 : decode cX10_pickNext 45 = .ok (.iadd, 1) := by decide +kernel
theorem dX10_pickNext_46 : decode cX10_pickNext 46 = .ok (.istore_n 3, 1) := by decide +kernel
theorem dX10_pickNext_47 : decode cX10_pickNext 47 = .ok (.iload_n 2, 1) := by decide +kernel
theorem dX10_pickNext_48 : decode cX10_pickNext 48 = .ok (.istore 4, 2) := by decide +kernel
theorem dX10_pickNext_50 : decode cX10_pickNext 50 = .ok (.iload 4, 2) := by decide +kernel
theorem dX10_pickNext_52 : decode cX10_pickNext 52 = .ok (.iload_n 1, 1) := by decide +kernel
theorem dX10_pickNext_53 : decode cX10_pickNext 53 = .ok (.if_icmp .ge 17, 3) := by decide +kernel
theorem dX10_pickNext_56 : decode cX10_pickNext 56 = .ok (.aload_n 0, 1) := by decide +kernel
theorem dX10_pickNext_57 : decode cX10_pickNext 57 = .ok (.getfield 86, 3) := by decide +kernel
theorem dX10_pickNext_60 : decode cX10_pickNext 60 = .ok (.iload 4, 2) := by decide +kernel
theorem dX10_pickNext_62 : decode cX10_pickNext 62 = .ok (.iload_n 3, 1) := by decide +kernel
theorem dX10_pickNext_63 : decode cX10_pickNext 63 = .ok (.iastore, 1) := by decide +kernel
theorem dX10_pickNext_64 : decode cX10_pickNext 64 = .ok (.iinc 4 1, 3) := by decide +kernel
theorem dX10_pickNext_67 : decode cX10_pickNext 67 = .ok (.goto (-17), 3) := by decide +kernel
theorem dX10_pickNext_70 : decode cX10_pickNext 70 = .ok (.iconst 1, 1) := by decide +kernel
theorem dX10_pickNext_71 : decode cX10_pickNext 71 = .ok (.ireturn, 1) := by decide +kernel
theorem dX10_power_0 : decode cX10_power 0 = .ok (.lconst 1, 1) := by decide +kernel
theorem dX10_power_1 : decode cX10_power 1 = .ok (.lstore_n 2, 1) := by decide +kernel
theorem dX10_power_2 : decode cX10_power 2 = .ok (.iconst 0, 1) := by decide +kernel
theorem dX10_power_3 : decode cX10_power 3 = .ok (.istore 4, 2) := by decide +kernel
theorem dX10_power_5 : decode cX10_power 5 = .ok (.iload 4, 2) := by decide +kernel
theorem dX10_power_7 : decode cX10_power 7 = .ok (.iload_n 1, 1) := by decide +kernel
theorem dX10_power_8 : decode cX10_power 8 = .ok (.if_icmp .ge 14, 3) := by decide +kernel
theorem dX10_power_11 : decode cX10_power 11 = .ok (.lload_n 2, 1) := by decide +kernel
theorem dX10_power_12 : decode cX10_power 12 = .ok (.iload_n 0, 1) := by decide +kernel
theorem dX10_power_13 : decode cX10_power 13 = .ok (.i2l, 1) := by decide +kernel
theorem dX10_power_14 : decode cX10_power 14 = .ok (.lmul, 1) := by decide +kernel
theorem dX10_power_15 : decode cX10_power 15 = .ok (.lstore_n 2, 1) := by decide +kernel
theorem dX10_power_16 : decode cX10_power 16 = .ok (.iinc 4 1, 3) := by decide +kernel
theorem dX10_power_19 : decode cX10_power 19 = .ok (.goto (-14), 3) := by decide +kernel
theorem dX10_power_22 : decode cX10_power 22 = .ok (.lload_n 2, 1) := by decide +kernel
theorem dX10_power_23 : decode cX10_power 23 = .ok (.lreturn, 1) := by decide +kernel
theorem dX10_commonDivisor_0 : decode cX10_commonDivisor 0 = .ok (.lload_n 0, 1) := by decide +kernel
theorem dX10_commonDivisor_1 : decode cX10_commonDivisor 1 = .ok (.lstore 4, 2) := by decide +kernel
theorem dX10_commonDivisor_3 : decode cX10_commonDivisor 3 = .ok (.lload_n 2, 1) := by decide +kernel
theorem dX10_commonDivisor_4 : decode cX10_commonDivisor 4 = .ok (.lstore 6, 2) := by decide +kernel
theorem dX10_commonDivisor_6 : decode cX10_commonDivisor 6 = .ok (.iconst 0, 1) := by decide +kernel
theorem dX10_commonDivisor_7 : decode cX10_commonDivisor 7 = .ok (.istore 8, 2) := by decide +kernel
theorem dX10_commonDivisor_9 : decode cX10_commonDivisor 9 = .ok (.iload 8, 2) := by decide +kernel
theorem dX10_commonDivisor_11 : decode cX10_commonDivisor 11 = .ok (.bipush 100, 2) := by decide +kernel
theorem dX10_commonDivisor_13 : decode cX10_commonDivisor 13 = .ok (.if_icmp .ge 31, 3) := by decide +kernel
theorem dX10_commonDivisor_16 : decode cX10_commonDivisor 16 = .ok (.lload 6, 2) := by decide +kernel
theorem dX10_commonDivisor_18 : decode cX10_commonDivisor 18 = .ok (.lconst 0, 1) := by decide +kernel
theorem dX10_commonDivisor_19 : decode cX10_commonDivisor 19 = .ok (.lcmp, 1) := by decide +kernel
theorem dX10_commonDivisor_20 : decode cX10_commonDivisor 20 = .ok (.ifCond .eq 24, 3) := by decide +kernel
theorem dX10_commonDivisor_23 : decode cX10_commonDivisor 23 = .ok (.lload 4, 2) := by decide +kernel
theorem dX10_commonDivisor_25 : decode cX10_commonDivisor 25 = .ok (.lload 6, 2) := by decide +kernel
theorem dX10_commonDivisor_27 : decode cX10_commonDivisor 27 = .ok (.lrem, 1) := by decide +kernel
theorem dX10_commonDivisor_28 : decode cX10_commonDivisor 28 = .ok (.lstore 9, 2) := by decide +kernel
theorem dX10_commonDivisor_30 : decode cX10_commonDivisor 30 = .ok (.lload 6, 2) := by decide +kernel
theorem dX10_commonDivisor_32 : decode cX10_commonDivisor 32 = .ok (.lstore 4, 2) := by decide +kernel
theorem dX10_commonDivisor_34 : decode cX10_commonDivisor 34 = .ok (.lload 9, 2) := by decide +kernel
theorem dX10_commonDivisor_36 : decode cX10_commonDivisor 36 = .ok (.lstore 6, 2) := by decide +kernel
theorem dX10_commonDivisor_38 : decode cX10_commonDivisor 38 = .ok (.iinc 8 1, 3) := by decide +kernel
theorem dX10_commonDivisor_41 : decode cX10_commonDivisor 41 = .ok (.goto (-32), 3) := by decide +kernel
theorem dX10_commonDivisor_44 : decode cX10_commonDivisor 44 = .ok (.lload 4, 2) := by decide +kernel
theorem dX10_commonDivisor_46 : decode cX10_commonDivisor 46 = .ok (.lconst 1, 1) := by decide +kernel
theorem dX10_commonDivisor_47 : decode cX10_commonDivisor 47 = .ok (.invokestatic 468, 3) := by decide +kernel
theorem dX10_commonDivisor_50 : decode cX10_commonDivisor 50 = .ok (.lreturn, 1) := by decide +kernel
