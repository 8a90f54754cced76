theorem dX11_init_0 : decode cX11_init 0 = .ok (.aload_n 0, 1) := by decide +kernel
theorem dX11_init_1 : decode cX11_init 1 = .ok (.invokespecial 3, 3) := by decide +kernel
theorem dX11_init_4 : decode cX11_init 4 = .ok (.aload_n 0, 1) := by decide +kernel
theorem dX11_init_5 : decode cX11_init 5 = .ok (.bipush 44, 2) := by decide +kernel
theorem dX11_init_7 : decode cX11_init 7 = .ok (.newarray .int, 2) := by decide +kernel
theorem dX11_init_9 : decode cX11_init 9 = .ok (.putfield 9, 3) := by decide +kernel
theorem dX11_init_12 : decode cX11_init 12 = .ok (.aload_n 0, 1) := by decide +kernel
theorem dX11_init_13 : decode cX11_init 13 = .ok (.iconst 1, 1) := by decide +kernel
theorem dX11_init_14 : decode cX11_init 14 = .ok (.putfield 13, 3) := by decide +kernel
theorem dX11_init_17 : decode cX11_init 17 = .ok (.aload_n 0, 1) := by decide +kernel
theorem dX11_init_18 : decode cX11_init 18 = .ok (.bipush 60, 2) := by decide +kernel
theorem dX11_init_20 : decode cX11_init 20 = .ok (.newarray .byte, 2) := by decide +kernel
theorem dX11_init_22 : decode cX11_init 22 = .ok (.putfield 17, 3) := by decide +kernel
theorem dX11_init_25 : decode cX11_init 25 = .ok (.aload_n 0, 1) := by decide +kernel
theorem dX11_init_26 : decode cX11_init 26 = .ok (.bipush 10, 2) := by decide +kernel
theorem dX11_init_28 : decode cX11_init 28 = .ok (.newarray .int, 2) := by decide +kernel
theorem dX11_init_30 : decode cX11_init 30 = .ok (.putfield 21, 3) := by decide +kernel
theorem dX11_init_33 : decode cX11_init 33 = .ok (.aload_n 0, 1) := by decide +kernel
theorem dX11_init_34 : decode cX11_init 34 = .ok (.bipush 20, 2) := by decide +kernel
theorem dX11_init_36 : decode cX11_init 36 = .ok (.newarray .int, 2) := by decide +kernel
theorem dX11_init_38 : decode cX11_init 38 = .ok (.putfield 24, 3) := by decide +kernel
theorem dX11_init_41 : decode cX11_init 41 = .ok (.aload_n 0, 1) := by decide +kernel
theorem dX11_init_42 : decode cX11_init 42 = .ok (.bipush 32, 2) := by decide +kernel
theorem dX11_init_44 : decode cX11_init 44 = .ok (.newarray .int, 2) := by decide +kernel
theorem dX11_init_46 : decode cX11_init 46 = .ok (.putfield 27, 3) := by decide +kernel
theorem dX11_init_49 : decode cX11_init 49 = .ok (.aload_n 0, 1) := by decide +kernel
theorem dX11_init_50 : decode cX11_init 50 = .ok (.bipush 80, 2) := by decide +kernel
theorem dX11_init_52 : decode cX11_init 52 = .ok (.newarray .byte, 2) := by decide +kernel
theorem dX11_init_54 : decode cX11_init 54 = .ok (.putfield 30, 3) := by decide +kernel
theorem dX11_init_57 : decode cX11_init 57 = .ok (.aload_n 0, 1) := by decide +kernel
theorem dX11_init_58 : decode cX11_init 58 = .ok (.bipush 20, 2) := by decide +kernel
theorem dX11_init_60 : decode cX11_init 60 = .ok (.newarray .long, 2) := by decide +kernel
theorem dX11_init_62 : decode cX11_init 62 = .ok (.putfield 33, 3) := by decide +kernel
theorem dX11_init_65 : decode cX11_init 65 = .ok (.aload_n 0, 1) := by decide +kernel
theorem dX11_init_66 : decode cX11_init 66 = .ok (.bipush 60, 2) := by decide +kernel
theorem dX11_init_68 : decode cX11_init 68 = .ok (.newarray .byte, 2) := by decide +kernel
theorem dX11_init_70 : decode cX11_init 70 = .ok (.putfield 37, 3) := by decide +kernel
theorem dX11_init_73 : decode cX11_init 73 = .ok (.aload_n 0, 1) := by decide +kernel
theorem dX11_init_74 : decode cX11_init 74 = .ok (.bipush 10, 2) := by decide +kernel
theorem dX11_init_76 : decode cX11_init 76 = .ok (.newarray .int, 2) := by decide +kernel
theorem dX11_init_78 : decode cX11_init 78 = .ok (.putfield 40, 3) := by decide +kernel
theorem dX11_init_81 : decode cX11_init 81 = .ok (.aload_n 0, 1) := by decide +kernel
theorem dX11_init_82 : decode cX11_init 82 = .ok (.bipush 40, 2) := by decide +kernel
theorem dX11_init_84 : decode cX11_init 84 = .ok (.newarray .int, 2) := by decide +kernel
theorem dX11_init_86 : decode cX11_init 86 = .ok (.putfield 43, 3) := by decide +kernel
theorem dX11_init_89 : decode cX11_init 89 = .ok (.aload_n 0, 1) := by decide +kernel
theorem dX11_init_90 : decode cX11_init 90 = .ok (.bipush 40, 2) := by decide +kernel
theorem dX11_init_92 : decode cX11_init 92 = .ok (.newarray .byte, 2) := by decide +kernel
theorem dX11_init_94 : decode cX11_init 94 = .ok (.putfield 46, 3) := by decide +kernel
theorem dX11_init_97 : decode cX11_init 97 = .ok (.aload_n 0, 1) := by decide +kernel
theorem dX11_init_98 : decode cX11_init 98 = .ok (.bipush 40, 2) := by decide +kernel
theorem dX11_init_100 : decode cX11_init 100 = .ok (.newarray .byte, 2) := by decide +kernel
theorem dX11_init_102 : decode cX11_init 102 = .ok (.putfield 49, 3) := by decide +kernel
theorem dX11_init_105 : decode cX11_init 105 = .ok (.aload_n 0, 1) := by decide +kernel
theorem dX11_init_106 : decode cX11_init 106 = .ok (.bipush 7, 2) := by decide +kernel
theorem dX11_init_108 : decode cX11_init 108 = .ok (.newarray .int, 2) := by decide +kernel
theorem dX11_init_110 : decode cX11_init 110 = .ok (.putfield 52, 3) := by decide +kernel
theorem dX11_init_113 : decode cX11_init 113 = .ok (.aload_n 0, 1) := by decide +kernel
theorem dX11_init_114 : decode cX11_init 114 = .ok (.iconst 5, 1) := by decide +kernel
theorem dX11_init_115 : decode cX11_init 115 = .ok (.newarray .int, 2) := by decide +kernel
theorem dX11_init_117 : decode cX11_init 117 = .ok (.putfield 55, 3) := by decide +kernel
theorem dX11_init_120 : decode cX11_init 120 = .ok (.aload_n 0, 1) := by decide +kernel
theorem dX11_init_121 : decode cX11_init 121 = .ok (.sipush 528, 3) := by decide +kernel
theorem dX11_init_124 : decode cX11_init 124 = .ok (.newarray .int, 2) := by decide +kernel
theorem dX11_init_126 : decode cX11_init 126 = .ok (.putfield 58, 3) := by decide +kernel
theorem dX11_init_129 : decode cX11_init 129 = .ok (.aload_n 0, 1) := by decide +kernel
theorem dX11_init_130 : decode cX11_init 130 = .ok (.bipush 44, 2) := by decide +kernel
theorem dX11_init_132 : decode cX11_init 132 = .ok (.newarray .int, 2) := by decide +kernel
theorem dX11_init_134 : decode cX11_init 134 = .ok (.putfield 61, 3) := by decide +kernel
theorem dX11_init_137 : decode cX11_init 137 = .ok (.aload_n 0, 1) := by decide +kernel
theorem dX11_init_138 : decode cX11_init 138 = .ok (.sipush 240, 3) := by decide +kernel
theorem dX11_init_141 : decode cX11_init 141 = .ok (.newarray .int, 2) := by decide +kernel
theorem dX11_init_143 : decode cX11_init 143 = .ok (.putfield 64, 3) := by decide +kernel
theorem dX11_init_146 : decode cX11_init 146 = .ok (.aload_n 0, 1) := by decide +kernel
theorem dX11_init_147 : decode cX11_init 147 = .ok (.bipush 13, 2) := by decide +kernel
theorem dX11_init_149 : decode cX11_init 149 = .ok (.newarray .int, 2) := by decide +kernel
theorem dX11_init_151 : decode cX11_init 151 = .ok (.putfield 67, 3) := by decide +kernel
theorem dX11_init_154 : decode cX11_init 154 = .ok (.aload_n 0, 1) := by decide +kernel
theorem dX11_init_155 : decode cX11_init 155 = .ok (.bipush 6, 2) := by decide +kernel
theorem dX11_init_157 : decode cX11_init 157 = .ok (.newarray .int, 2) := by decide +kernel
theorem dX11_init_159 : decode cX11_init 159 = .ok (.putfield 70, 3) := by decide +kernel
theorem dX11_init_162 : decode cX11_init 162 = .ok (.aload_n 0, 1) := by decide +kernel
theorem dX11_init_163 : decode cX11_init 163 = .ok (.bipush 6, 2) := by decide +kernel
theorem dX11_init_165 : decode cX11_init 165 = .ok (.newarray .int, 2) := by decide +kernel
theorem dX11_init_167 : decode cX11_init 167 = .ok (.putfield 73, 3) := by decide +kernel
theorem dX11_init_170 : decode cX11_init 170 = .ok (.aload_n 0, 1) := by decide +kernel
theorem dX11_init_171 : decode cX11_init 171 = .ok (.bipush 49, 2) := by decide +kernel
theorem dX11_init_173 : decode cX11_init 173 = .ok (.newarray .int, 2) := by decide +kernel
theorem dX11_init_175 : decode cX11_init 175 = .ok (.putfield 76, 3) := by decide +kernel
theorem dX11_init_178 : decode cX11_init 178 = .ok (.aload_n 0, 1) := by decide +kernel
theorem dX11_init_179 : decode cX11_init 179 = .ok (.sipush 1536, 3) := by decide +kernel
theorem dX11_init_182 : decode cX11_init 182 = .ok (.newarray .int, 2) := by decide +kernel
theorem dX11_init_184 : decode cX11_init 184 = .ok (.putfield 79, 3) := by decide +kernel
theorem dX11_init_187 : decode cX11_init 187 = .ok (.aload_n 0, 1) := by decide +kernel
theorem dX11_init_188 : decode cX11_init 188 = .ok (.sipush 1536, 3) := by decide +kernel
theorem dX11_init_191 : decode cX11_init 191 = .ok (.newarray .int, 2) := by decide +kernel
theorem dX11_init_193 : decode cX11_init 193 = .ok (.putfield 82, 3) := by decide +kernel
theorem dX11_init_196 : decode cX11_init 196 = .ok (.aload_n 0, 1) := by decide +kernel
theorem dX11_init_197 : decode cX11_init 197 = .ok (.bipush 10, 2) := by decide +kernel
theorem dX11_init_199 : decode cX11_init 199 = .ok (.newarray .int, 2) := by decide +kernel
theorem dX11_init_201 : decode cX11_init 201 = .ok (.putfield 85, 3) := by decide +kernel
theorem dX11_init_204 : decode cX11_init 204 = .ok (.aload_n 0, 1) := by decide +kernel
theorem dX11_init_205 : decode cX11_init 205 = .ok (.iconst 5, 1) := by decide +kernel
theorem dX11_init_206 : decode cX11_init 206 = .ok (.newarray .int, 2) := by decide +kernel
theorem dX11_init_208 : decode cX11_init 208 = .ok (.putfield 88, 3) := by decide +kernel
theorem dX11_init_211 : decode cX11_init 211 = .ok (.aload_n 0, 1) := by decide +kernel
theorem dX11_init_212 : decode cX11_init 212 = .ok (.iconst 4, 1) := by decide +kernel
theorem dX11_init_213 : decode cX11_init 213 = .ok (.newarray .int, 2) := by decide +kernel
theorem dX11_init_215 : decode cX11_init 215 = .ok (.putfield 91, 3) := by decide +kernel
theorem dX11_init_218 : decode cX11_init 218 = .ok (.aload_n 0, 1) := by decide +kernel
theorem dX11_init_219 : decode cX11_init 219 = .ok (.iconst 4, 1) := by decide +kernel
theorem dX11_init_220 : decode cX11_init 220 = .ok (.newarray .int, 2) := by decide +kernel
theorem dX11_init_222 : decode cX11_init 222 = .ok (.putfield 94, 3) := by decide +kernel
theorem dX11_init_225 : decode cX11_init 225 = .ok (.aload_n 0, 1) := by decide +kernel
theorem dX11_init_226 : decode cX11_init 226 = .ok (.bipush 44, 2) := by decide +kernel
theorem dX11_init_228 : decode cX11_init 228 = .ok (.newarray .int, 2) := by decide +kernel
theorem dX11_init_230 : decode cX11_init 230 = .ok (.putfield 97, 3) := by decide +kernel
theorem dX11_init_233 : decode cX11_init 233 = .ok (.aload_n 0, 1) := by decide +kernel
theorem dX11_init_234 : decode cX11_init 234 = .ok (.bipush 88, 2) := by decide +kernel
theorem dX11_init_236 : decode cX11_init 236 = .ok (.newarray .int, 2) := by decide +kernel
theorem dX11_init_238 : decode cX11_init 238 = .ok (.putfield 100, 3) := by decide +kernel
theorem dX11_init_241 : decode cX11_init 241 = .ok (.aload_n 0, 1) := by decide +kernel
theorem dX11_init_242 : decode cX11_init 242 = .ok (.iconst 2, 1) := by decide +kernel
theorem dX11_init_243 : decode cX11_init 243 = .ok (.newarray .boolean, 2) := by decide +kernel
theorem dX11_init_245 : decode cX11_init 245 = .ok (.putfield 103, 3) := by decide +kernel
theorem dX11_init_248 : decode cX11_init 248 = .ok (.aload_n 0, 1) := by decide +kernel
theorem dX11_init_249 : decode cX11_init 249 = .ok (.iconst 2, 1) := by decide +kernel
theorem dX11_init_250 : decode cX11_init 250 = .ok (.newarray .int, 2) := by decide +kernel
theorem dX11_init_252 : decode cX11_init 252 = .ok (.putfield 107, 3) := by decide +kernel
theorem dX11_init_255 : decode cX11_init 255 = .ok (.return_, 1) := by decide +kernel
theorem dX11_thrown_0 : decode cX11_thrown 0 = .ok (.aload_n 0, 1) := by decide +kernel
theorem dX11_thrown_1 : decode cX11_thrown 1 = .ok (.getfield 110, 3) := by decide +kernel
theorem dX11_thrown_4 : decode cX11_thrown 4 = .ok (.ireturn, 1) := by decide +kernel
theorem dX11_in_0 : decode cX11_in 0 = .ok (.iload_n 0, 1) := by decide +kernel
theorem dX11_in_1 : decode cX11_in 1 = .ok (.iload_n 1, 1) := by decide +kernel
theorem dX11_in_2 : decode cX11_in 2 = .ok (.if_icmp .lt 12, 3) := by decide +kernel
theorem dX11_in_5 : decode cX11_in 5 = .ok (.iload_n 0, 1) := by decide +kernel
theorem dX11_in_6 : decode cX11_in 6 = .ok (.iload_n 2, 1) := by decide +kernel
theorem dX11_in_7 : decode cX11_in 7 = .ok (.if_icmp .gt 7, 3) := by decide +kernel
theorem dX11_in_10 : decode cX11_in 10 = .ok (.iconst 1, 1) := by decide +kernel
theorem dX11_in_11 : decode cX11_in 11 = .ok (.goto 4, 3) := by decide +kernel
theorem dX11_in_14 : decode cX11_in 14 = .ok (.iconst 0, 1) := by decide +kernel
theorem dX11_in_15 : decode cX11_in 15 = .ok (.ireturn, 1) := by decide +kernel
theorem dX11_has_0 : decode cX11_has 0 = .ok (.iload_n 0, 1) := by decide +kernel
theorem dX11_has_1 : decode cX11_has 1 = .ok (.iload_n 1, 1) := by decide +kernel
theorem dX11_has_2 : decode cX11_has 2 = .ok (.ishr, 1) := by decide +kernel
theorem dX11_has_3 : decode cX11_has 3 = .ok (.iconst 1, 1) := by decide +kernel
theorem dX11_has_4 : decode cX11_has 4 = .ok (.iand, 1) := by decide +kernel
theorem dX11_has_5 : decode cX11_has 5 = .ok (.iconst 1, 1) := by decide +kernel
theorem dX11_has_6 : decode cX11_has 6 = .ok (.if_icmp .ne 7, 3) := by decide +kernel
theorem dX11_has_9 : decode cX11_has 9 = .ok (.iconst 1, 1) := by decide +kernel
theorem dX11_has_10 : decode cX11_has 10 = .ok (.goto 4, 3) := by decide +kernel
theorem dX11_has_13 : decode cX11_has 13 = .ok (.iconst 0, 1) := by decide +kernel
theorem dX11_has_14 : decode cX11_has 14 = .ok (.ireturn, 1) := by decide +kernel
theorem dX11_lost_0 : decode cX11_lost 0 = .ok (.aload_n 0, 1) := by decide +kernel
theorem dX11_lost_1 : decode cX11_lost 1 = .ok (.iconst 1, 1) := by decide +kernel
theorem dX11_lost_2 : decode cX11_lost 2 = .ok (.putfield 110, 3) := by decide +kernel
theorem dX11_lost_5 : decode cX11_lost 5 = .ok (.iconst 0, 1) := by decide +kernel
theorem dX11_lost_6 : decode cX11_lost 6 = .ok (.ireturn, 1) := by decide +kernel
theorem dX11_tell_0 : decode cX11_tell 0 = .ok (.aload_n 0, 1) := by decide +kernel
theorem dX11_tell_1 : decode cX11_tell 1 = .ok (.getfield 33, 3) := by decide +kernel
theorem dX11_tell_4 : decode cX11_tell 4 = .ok (.aload_n 0, 1) := by decide +kernel
theorem dX11_tell_5 : decode cX11_tell 5 = .ok (.getfield 113, 3) := by decide +kernel
theorem dX11_tell_8 : decode cX11_tell 8 = .ok (.lload_n 1, 1) := by decide +kernel
theorem dX11_tell_9 : decode cX11_tell 9 = .ok (.lastore, 1) := by decide +kernel
theorem dX11_tell_10 : decode cX11_tell 10 = .ok (.aload_n 0, 1) := by decide +kernel
theorem dX11_tell_11 : decode cX11_tell 11 = .ok (.dup, 1) := by decide +kernel
theorem dX11_tell_12 : decode cX11_tell 12 = .ok (.getfield 113, 3) := by decide +kernel
theorem dX11_tell_15 : decode cX11_tell 15 = .ok (.iconst 1, 1) := by decide +kernel
theorem dX11_tell_16 : decode cX11_tell 16 = .ok (.iadd, 1) := by decide +kernel
theorem dX11_tell_17 : decode cX11_tell 17 = .ok (.putfield 113, 3) := by decide +kernel
theorem dX11_tell_20 : decode cX11_tell 20 = .ok (.return_, 1) := by decide +kernel
theorem dX11_isStation_0 : decode cX11_isStation 0 = .ok (.iload_n 1, 1) := by decide +kernel
theorem dX11_isStation_1 : decode cX11_isStation 1 = .ok (.iconst 0, 1) := by decide +kernel
theorem dX11_isStation_2 : decode cX11_isStation 2 = .ok (.aload_n 0, 1) := by decide +kernel
theorem dX11_isStation_3 : decode cX11_isStation 3 = .ok (.getfield 13, 3) := by decide +kernel
theorem dX11_isStation_6 : decode cX11_isStation 6 = .ok (.iconst 1, 1) := by decide +kernel
theorem dX11_isStation_7 : decode cX11_isStation 7 = .ok (.isub, 1) := by decide +kernel
theorem dX11_isStation_8 : decode cX11_isStation 8 = .ok (.invokestatic 116, 3) := by decide +kernel
theorem dX11_isStation_11 : decode cX11_isStation 11 = .ok (.ireturn, 1) := by decide +kernel
theorem dX11_isWord_0 : decode cX11_isWord 0 = .ok (.iload_n 1, 1) := by decide +kernel
theorem dX11_isWord_1 : decode cX11_isWord 1 = .ok (.iconst 0, 1) := by decide +kernel
theorem dX11_isWord_2 : decode cX11_isWord 2 = .ok (.aload_n 0, 1) := by decide +kernel
theorem dX11_isWord_3 : decode cX11_isWord 3 = .ok (.getfield 120, 3) := by decide +kernel
theorem dX11_isWord_6 : decode cX11_isWord 6 = .ok (.iconst 1, 1) := by decide +kernel
theorem dX11_isWord_7 : decode cX11_isWord 7 = .ok (.isub, 1) := by decide +kernel
theorem dX11_isWord_8 : decode cX11_isWord 8 = .ok (.invokestatic 116, 3) := by decide +kernel
theorem dX11_isWord_11 : decode cX11_isWord 11 = .ok (.ireturn, 1) := by decide +kernel
theorem dX11_isOne_0 : decode cX11_isOne 0 = .ok (.iload_n 1, 1) := by decide +kernel
theorem dX11_isOne_1 : decode cX11_isOne 1 = .ok (.iconst 0, 1) := by decide +kernel
theorem dX11_isOne_2 : decode cX11_isOne 2 = .ok (.aload_n 0, 1) := by decide +kernel
theorem dX11_isOne_3 : decode cX11_isOne 3 = .ok (.getfield 123, 3) := by decide +kernel
theorem dX11_isOne_6 : decode cX11_isOne 6 = .ok (.iconst 1, 1) := by decide +kernel
theorem dX11_isOne_7 : decode cX11_isOne 7 = .ok (.isub, 1) := by decide +kernel
theorem dX11_isOne_8 : decode cX11_isOne 8 = .ok (.invokestatic 116, 3) := by decide +kernel
theorem dX11_isOne_11 : decode cX11_isOne 11 = .ok (.ireturn, 1) := by decide +kernel
theorem dX11_isMeaning_0 : decode cX11_isMeaning 0 = .ok (.iload_n 0, 1) := by decide +kernel
theorem dX11_isMeaning_1 : decode cX11_isMeaning 1 = .ok (.iconst 0, 1) := by decide +kernel
theorem dX11_isMeaning_2 : decode cX11_isMeaning 2 = .ok (.bipush 9, 2) := by decide +kernel
theorem dX11_isMeaning_4 : decode cX11_isMeaning 4 = .ok (.invokestatic 116, 3) := by decide +kernel
theorem dX11_isMeaning_7 : decode cX11_isMeaning 7 = .ok (.ireturn, 1) := by decide +kernel
theorem dX11_sign_0 : decode cX11_sign 0 = .ok (.aload_n 0, 1) := by decide +kernel
theorem dX11_sign_1 : decode cX11_sign 1 = .ok (.iconst 0, 1) := by decide +kernel
theorem dX11_sign_2 : decode cX11_sign 2 = .ok (.putfield 110, 3) := by decide +kernel
theorem dX11_sign_5 : decode cX11_sign 5 = .ok (.aload_n 0, 1) := by decide +kernel
theorem dX11_sign_6 : decode cX11_sign 6 = .ok (.getfield 126, 3) := by decide +kernel
theorem dX11_sign_9 : decode cX11_sign 9 = .ok (.iconst 4, 1) := by decide +kernel
theorem dX11_sign_10 : decode cX11_sign 10 = .ok (.iadd, 1) := by decide +kernel
theorem dX11_sign_11 : decode cX11_sign 11 = .ok (.bipush 80, 2) := by decide +kernel
theorem dX11_sign_13 : decode cX11_sign 13 = .ok (.if_icmp .le 5, 3) := by decide +kernel
theorem dX11_sign_16 : decode cX11_sign 16 = .ok (.iconst (-1), 1) := by decide +kernel
theorem dX11_sign_17 : decode cX11_sign 17 = .ok (.ireturn, 1) := by decide +kernel
theorem dX11_sign_18 : decode cX11_sign 18 = .ok (.iconst 3, 1) := by decide +kernel
theorem dX11_sign_19 : decode cX11_sign 19 = .ok (.istore_n 2, 1) := by decide +kernel
theorem dX11_sign_20 : decode cX11_sign 20 = .ok (.iload_n 2, 1) := by decide +kernel
theorem dX11_sign_21 : decode cX11_sign 21 = .ok (.ifCond .lt 32, 3) := by decide +kernel
theorem dX11_sign_24 : decode cX11_sign 24 = .ok (.aload_n 0, 1) := by decide +kernel
theorem dX11_sign_25 : decode cX11_sign 25 = .ok (.getfield 30, 3) := by decide +kernel
theorem dX11_sign_28 : decode cX11_sign 28 = .ok (.aload_n 0, 1) := by decide +kernel
theorem dX11_sign_29 : decode cX11_sign 29 = .ok (.dup, 1) := by decide +kernel
theorem dX11_sign_30 : decode cX11_sign 30 = .ok (.getfield 126, 3) := by decide +kernel
theorem dX11_sign_33 : decode cX11_sign 33 = .ok (.dup_x1, 1) := by decide +kernel
theorem dX11_sign_34 : decode cX11_sign 34 = .ok (.iconst 1, 1) := by decide +kernel
theorem dX11_sign_35 : decode cX11_sign 35 = .ok (.iadd, 1) := by decide +kernel
theorem dX11_sign_36 : decode cX11_sign 36 = .ok (.putfield 126, 3) := by decide +kernel
theorem dX11_sign_39 : decode cX11_sign 39 = .ok (.iload_n 1, 1) := by decide +kernel
theorem dX11_sign_40 : decode cX11_sign 40 = .ok (.bipush 8, 2) := by decide +kernel
theorem dX11_sign_42 : decode cX11_sign 42 = .ok (.iload_n 2, 1) := by decide +kernel
theorem dX11_sign_43 : decode cX11_sign 43 = .ok (.imul, 1) := by decide +kernel
theorem dX11_sign_44 : decode cX11_sign 44 = .ok (.ishr, 1) := by decide +kernel
theorem dX11_sign_45 : decode cX11_sign 45 = .ok (.i2b, 1) := by decide +kernel
theorem dX11_sign_46 : decode cX11_sign 46 = .ok (.bastore, 1) := by decide +kernel
theorem dX11_sign_47 : decode cX11_sign 47 = .ok (.iinc 2 (-1), 3) := by decide +kernel
theorem dX11_sign_50 : decode cX11_sign 50 = .ok (.goto (-30), 3) := by decide +kernel
theorem dX11_sign_53 : decode cX11_sign 53 = .ok (.aload_n 0, 1) := by decide +kernel
theorem dX11_sign_54 : decode cX11_sign 54 = .ok (.getfield 126, 3) := by decide +kernel
theorem dX11_sign_57 : decode cX11_sign 57 = .ok (.ireturn, 1) := by decide +kernel
theorem dX11_end_0 : decode cX11_end 0 = .ok (.aload_n 0, 1) := by decide +kernel
theorem dX11_end_1 : decode cX11_end 1 = .ok (.iconst 0, 1) := by decide +kernel
theorem dX11_end_2 : decode cX11_end 2 = .ok (.putfield 110, 3) := by decide +kernel
theorem dX11_end_5 : decode cX11_end 5 = .ok (.iload_n 1, 1) := by decide +kernel
theorem dX11_end_6 : decode cX11_end 6 = .ok (.iconst 0, 1) := by decide +kernel
theorem dX11_end_7 : decode cX11_end 7 = .ok (.aload_n 0, 1) := by decide +kernel
theorem dX11_end_8 : decode cX11_end 8 = .ok (.getfield 126, 3) := by decide +kernel
theorem dX11_end_11 : decode cX11_end 11 = .ok (.invokestatic 116, 3) := by decide +kernel
theorem dX11_end_14 : decode cX11_end 14 = .ok (.ifCond .ne 5, 3) := by decide +kernel
theorem dX11_end_17 : decode cX11_end 17 = .ok (.iconst 0, 1) := by decide +kernel
theorem dX11_end_18 : decode cX11_end 18 = .ok (.ireturn, 1) := by decide +kernel
theorem dX11_end_19 : decode cX11_end 19 = .ok (.aload_n 0, 1) := by decide +kernel
theorem dX11_end_20 : decode cX11_end 20 = .ok (.iload_n 1, 1) := by decide +kernel
theorem dX11_end_21 : decode cX11_end 21 = .ok (.putfield 126, 3) := by decide +kernel
theorem dX11_end_24 : decode cX11_end 24 = .ok (.iconst 1, 1) := by decide +kernel
theorem dX11_end_25 : decode cX11_end 25 = .ok (.ireturn, 1) := by decide +kernel
theorem dX11_begin_0 : decode cX11_begin 0 = .ok (.aload_n 0, 1) := by decide +kernel
theorem dX11_begin_1 : decode cX11_begin 1 = .ok (.aload_n 1, 1) := by decide +kernel
theorem dX11_begin_2 : decode cX11_begin 2 = .ok (.putfield 129, 3) := by decide +kernel
theorem dX11_begin_5 : decode cX11_begin 5 = .ok (.aload_n 0, 1) := by decide +kernel
theorem dX11_begin_6 : decode cX11_begin 6 = .ok (.iload_n 2, 1) := by decide +kernel
theorem dX11_begin_7 : decode cX11_begin 7 = .ok (.putfield 132, 3) := by decide +kernel
theorem dX11_begin_10 : decode cX11_begin 10 = .ok (.aload_n 0, 1) := by decide +kernel
theorem dX11_begin_11 : decode cX11_begin 11 = .ok (.iload_n 3, 1) := by decide +kernel
theorem dX11_begin_12 : decode cX11_begin 12 = .ok (.putfield 135, 3) := by decide +kernel
theorem dX11_begin_15 : decode cX11_begin 15 = .ok (.aload_n 0, 1) := by decide +kernel
theorem dX11_begin_16 : decode cX11_begin 16 = .ok (.iconst 0, 1) := by decide +kernel
theorem dX11_begin_17 : decode cX11_begin 17 = .ok (.putfield 138, 3) := by decide +kernel
theorem dX11_begin_20 : decode cX11_begin 20 = .ok (.aload_n 0, 1) := by decide +kernel
theorem dX11_begin_21 : decode cX11_begin 21 = .ok (.iconst (-1), 1) := by decide +kernel
theorem dX11_begin_22 : decode cX11_begin 22 = .ok (.putfield 141, 3) := by decide +kernel
theorem dX11_begin_25 : decode cX11_begin 25 = .ok (.return_, 1) := by decide +kernel
theorem dX11_beginText_0 : decode cX11_beginText 0 = .ok (.aload_n 0, 1) := by decide +kernel
theorem dX11_beginText_1 : decode cX11_beginText 1 = .ok (.aload_n 0, 1) := by decide +kernel
theorem dX11_beginText_2 : decode cX11_beginText 2 = .ok (.getfield 30, 3) := by decide +kernel
theorem dX11_beginText_5 : decode cX11_beginText 5 = .ok (.aload_n 0, 1) := by decide +kernel
theorem dX11_beginText_6 : decode cX11_beginText 6 = .ok (.getfield 126, 3) := by decide +kernel
theorem dX11_beginText_9 : decode cX11_beginText 9 = .ok (.iload_n 1, 1) := by decide +kernel
theorem dX11_beginText_10 : decode cX11_beginText 10 = .ok (.invokevirtual 144, 3) := by decide +kernel
theorem dX11_beginText_13 : decode cX11_beginText 13 = .ok (.aload_n 0, 1) := by decide +kernel
theorem dX11_beginText_14 : decode cX11_beginText 14 = .ok (.iconst 0, 1) := by decide +kernel
theorem dX11_beginText_15 : decode cX11_beginText 15 = .ok (.putfield 126, 3) := by decide +kernel
theorem dX11_beginText_18 : decode cX11_beginText 18 = .ok (.return_, 1) := by decide +kernel
theorem dX11_here_0 : decode cX11_here 0 = .ok (.aload_n 0, 1) := by decide +kernel
theorem dX11_here_1 : decode cX11_here 1 = .ok (.getfield 138, 3) := by decide +kernel
theorem dX11_here_4 : decode cX11_here 4 = .ok (.aload_n 0, 1) := by decide +kernel
theorem dX11_here_5 : decode cX11_here 5 = .ok (.getfield 132, 3) := by decide +kernel
theorem dX11_here_8 : decode cX11_here 8 = .ok (.if_icmp .ge 30, 3) := by decide +kernel
theorem dX11_here_11 : decode cX11_here 11 = .ok (.aload_n 0, 1) := by decide +kernel
theorem dX11_here_12 : decode cX11_here 12 = .ok (.getfield 138, 3) := by decide +kernel
theorem dX11_here_15 : decode cX11_here 15 = .ok (.aload_n 0, 1) := by decide +kernel
theorem dX11_here_16 : decode cX11_here 16 = .ok (.getfield 135, 3) := by decide +kernel
theorem dX11_here_19 : decode cX11_here 19 = .ok (.if_icmp .ge 19, 3) := by decide +kernel
theorem dX11_here_22 : decode cX11_here 22 = .ok (.aload_n 0, 1) := by decide +kernel
theorem dX11_here_23 : decode cX11_here 23 = .ok (.getfield 129, 3) := by decide +kernel
theorem dX11_here_26 : decode cX11_here 26 = .ok (.aload_n 0, 1) := by decide +kernel
theorem dX11_here_27 : decode cX11_here 27 = .ok (.getfield 138, 3) := by decide +kernel
theorem dX11_here_30 : decode cX11_here 30 = .ok (.baload, 1) := by decide +kernel
theorem dX11_here_31 : decode cX11_here 31 = .ok (.sipush 255, 3) := by decide +kernel
theorem dX11_here_34 : decode cX11_here 34 = .ok (.iand, 1) := by decide +kernel
theorem dX11_here_35 : decode cX11_here 35 = .ok (.goto 4, 3) := by decide +kernel
theorem dX11_here_38 : decode cX11_here 38 = .ok (.iconst (-1), 1) := by decide +kernel
theorem dX11_here_39 : decode cX11_here 39 = .ok (.ireturn, 1) := by decide +kernel
theorem dX11_fine_0 : decode cX11_fine 0 = .ok (.aload_n 0, 1) := by decide +kernel
theorem dX11_fine_1 : decode cX11_fine 1 = .ok (.getfield 141, 3) := by decide +kernel
theorem dX11_fine_4 : decode cX11_fine 4 = .ok (.iconst (-1), 1) := by decide +kernel
theorem dX11_fine_5 : decode cX11_fine 5 = .ok (.if_icmp .ne 7, 3) := by decide +kernel
theorem dX11_fine_8 : decode cX11_fine 8 = .ok (.iconst 1, 1) := by decide +kernel
theorem dX11_fine_9 : decode cX11_fine 9 = .ok (.goto 4, 3) := by decide +kernel
theorem dX11_fine_12 : decode cX11_fine 12 = .ok (.iconst 0, 1) := by decide +kernel
theorem dX11_fine_13 : decode cX11_fine 13 = .ok (.ireturn, 1) := by decide +kernel
theorem dX11_fault_0 : decode cX11_fault 0 = .ok (.aload_n 0, 1) := by decide +kernel
theorem dX11_fault_1 : decode cX11_fault 1 = .ok (.invokevirtual 148, 3) := by decide +kernel
theorem dX11_fault_4 : decode cX11_fault 4 = .ok (.ifCond .eq 8, 3) := by decide +kernel
theorem dX11_fault_7 : decode cX11_fault 7 = .ok (.aload_n 0, 1) := by decide +kernel
theorem dX11_fault_8 : decode cX11_fault 8 = .ok (.iload_n 1, 1) := by decide +kernel
theorem dX11_fault_9 : decode cX11_fault 9 = .ok (.putfield 141, 3) := by decide +kernel
theorem dX11_fault_12 : decode cX11_fault 12 = .ok (.return_, 1) := by decide +kernel
theorem dX11_passes_0 : decode cX11_passes 0 = .ok (.aload_n 0, 1) := by decide +kernel
theorem dX11_passes_1 : decode cX11_passes 1 = .ok (.invokevirtual 148, 3) := by decide +kernel
theorem dX11_passes_4 : decode cX11_passes 4 = .ok (.ifCond .eq 11, 3) := by decide +kernel
theorem dX11_passes_7 : decode cX11_passes 7 = .ok (.aload_n 0, 1) := by decide +kernel
theorem dX11_passes_8 : decode cX11_passes 8 = .ok (.invokevirtual 152, 3) := by decide +kernel
theorem dX11_passes_11 : decode cX11_passes 11 = .ok (.iload_n 1, 1) := by decide +kernel
theorem dX11_passes_12 : decode cX11_passes 12 = .ok (.if_icmp .eq 5, 3) := by decide +kernel
theorem dX11_passes_15 : decode cX11_passes 15 = .ok (.iconst 0, 1) := by decide +kernel
theorem dX11_passes_16 : decode cX11_passes 16 = .ok (.ireturn, 1) := by decide +kernel
theorem dX11_passes_17 : decode cX11_passes 17 = .ok (.aload_n 0, 1) := by decide +kernel
theorem dX11_passes_18 : decode cX11_passes 18 = .ok (.dup, 1) := by decide +kernel
theorem dX11_passes_19 : decode cX11_passes 19 = .ok (.getfield 138, 3) := by decide +kernel
theorem dX11_passes_22 : decode cX11_passes 22 = .ok (.iconst 1, 1) := by decide +kernel
theorem dX11_passes_23 : decode cX11_passes 23 = .ok (.iadd, 1) := by decide +kernel
theorem dX11_passes_24 : decode cX11_passes 24 = .ok (.putfield 138, 3) := by decide +kernel
theorem dX11_passes_27 : decode cX11_passes 27 = .ok (.iconst 1, 1) := by decide +kernel
theorem dX11_passes_28 : decode cX11_passes 28 = .ok (.ireturn, 1) := by decide +kernel
theorem dX11_need_0 : decode cX11_need 0 = .ok (.aload_n 0, 1) := by decide +kernel
theorem dX11_need_1 : decode cX11_need 1 = .ok (.iload_n 1, 1) := by decide +kernel
theorem dX11_need_2 : decode cX11_need 2 = .ok (.invokevirtual 156, 3) := by decide +kernel
theorem dX11_need_5 : decode cX11_need 5 = .ok (.ifCond .ne 11, 3) := by decide +kernel
theorem dX11_need_8 : decode cX11_need 8 = .ok (.aload_n 0, 1) := by decide +kernel
theorem dX11_need_9 : decode cX11_need 9 = .ok (.aload_n 0, 1) := by decide +kernel
theorem dX11_need_10 : decode cX11_need 10 = .ok (.getfield 138, 3) := by decide +kernel
theorem dX11_need_13 : decode cX11_need 13 = .ok (.invokevirtual 160, 3) := by decide +kernel
theorem dX11_need_16 : decode cX11_need 16 = .ok (.return_, 1) := by decide +kernel
theorem dX11_oneOf_0 : decode cX11_oneOf 0 = .ok (.aload_n 0, 1) := by decide +kernel
theorem dX11_oneOf_1 : decode cX11_oneOf 1 = .ok (.invokevirtual 148, 3) := by decide +kernel
theorem dX11_oneOf_4 : decode cX11_oneOf 4 = .ok (.ifCond .ne 5, 3) := by decide +kernel
theorem dX11_oneOf_7 : decode cX11_oneOf 7 = .ok (.iconst 0, 1) := by decide +kernel
theorem dX11_oneOf_8 : decode cX11_oneOf 8 = .ok (.ireturn, 1) := by decide +kernel
theorem dX11_oneOf_9 : decode cX11_oneOf 9 = .ok (.aload_n 0, 1) := by decide +kernel
theorem dX11_oneOf_10 : decode cX11_oneOf 10 = .ok (.invokevirtual 152, 3) := by decide +kernel
theorem dX11_oneOf_13 : decode cX11_oneOf 13 = .ok (.iload_n 1, 1) := by decide +kernel
theorem dX11_oneOf_14 : decode cX11_oneOf 14 = .ok (.iload_n 1, 1) := by decide +kernel
theorem dX11_oneOf_15 : decode cX11_oneOf 15 = .ok (.iload_n 2, 1) := by decide +kernel
theorem dX11_oneOf_16 : decode cX11_oneOf 16 = .ok (.iadd, 1) := by decide +kernel
theorem dX11_oneOf_17 : decode cX11_oneOf 17 = .ok (.iconst 1, 1) := by decide +kernel
theorem dX11_oneOf_18 : decode cX11_oneOf 18 = .ok (.isub, 1) := by decide +kernel
theorem dX11_oneOf_19 : decode cX11_oneOf 19 = .ok (.invokestatic 116, 3) := by decide +kernel
theorem dX11_oneOf_22 : decode cX11_oneOf 22 = .ok (.ifCond .ne 13, 3) := by decide +kernel
theorem dX11_oneOf_25 : decode cX11_oneOf 25 = .ok (.aload_n 0, 1) := by decide +kernel
theorem dX11_oneOf_26 : decode cX11_oneOf 26 = .ok (.aload_n 0, 1) := by decide +kernel
theorem dX11_oneOf_27 : decode cX11_oneOf 27 = .ok (.getfield 138, 3) := by decide +kernel
theorem dX11_oneOf_30 : decode cX11_oneOf 30 = .ok (.invokevirtual 160, 3) := by decide +kernel
theorem dX11_oneOf_33 : decode cX11_oneOf 33 = .ok (.iconst 0, 1) := by decide +kernel
theorem dX11_oneOf_34 : decode cX11_oneOf 34 = .ok (.ireturn, 1) := by decide +kernel
theorem dX11_oneOf_35 : decode cX11_oneOf 35 = .ok (.aload_n 0, 1) := by decide +kernel
theorem dX11_oneOf_36 : decode cX11_oneOf 36 = .ok (.dup, 1) := by decide +kernel
theorem dX11_oneOf_37 : decode cX11_oneOf 37 = .ok (.getfield 138, 3) := by decide +kernel
theorem dX11_oneOf_40 : decode cX11_oneOf 40 = .ok (.iconst 1, 1) := by decide +kernel
theorem dX11_oneOf_41 : decode cX11_oneOf 41 = .ok (.iadd, 1) := by decide +kernel
theorem dX11_oneOf_42 : decode cX11_oneOf 42 = .ok (.putfield 138, 3) := by decide +kernel
theorem dX11_oneOf_45 : decode cX11_oneOf 45 = .ok (.aload_n 0, 1) := by decide +kernel
theorem dX11_oneOf_46 : decode cX11_oneOf 46 = .ok (.getfield 129, 3) := by decide +kernel
theorem dX11_oneOf_49 : decode cX11_oneOf 49 = .ok (.aload_n 0, 1) := by decide +kernel
theorem dX11_oneOf_50 : decode cX11_oneOf 50 = .ok (.getfield 138, 3) := by decide +kernel
theorem dX11_oneOf_53 : decode cX11_oneOf 53 = .ok (.iconst 1, 1) := by decide +kernel
theorem dX11_oneOf_54 : decode cX11_oneOf 54 = .ok (.isub, 1) := by decide +kernel
theorem dX11_oneOf_55 : decode cX11_oneOf 55 = .ok (.baload, 1) := by decide +kernel
theorem dX11_oneOf_56 : decode cX11_oneOf 56 = .ok (.iload_n 1, 1) := by decide +kernel
theorem dX11_oneOf_57 : decode cX11_oneOf 57 = .ok (.isub, 1) := by decide +kernel
theorem dX11_oneOf_58 : decode cX11_oneOf 58 = .ok (.ireturn, 1) := by decide +kernel
theorem dX11_number_0 : decode cX11_number 0 = .ok (.aload_n 0, 1) := by decide +kernel
theorem dX11_number_1 : decode cX11_number 1 = .ok (.bipush 48, 2) := by decide +kernel
theorem dX11_number_3 : decode cX11_number 3 = .ok (.bipush 10, 2) := by decide +kernel
theorem dX11_number_5 : decode cX11_number 5 = .ok (.invokevirtual 164, 3) := by decide +kernel
theorem dX11_number_8 : decode cX11_number 8 = .ok (.istore_n 2, 1) := by decide +kernel
theorem dX11_number_9 : decode cX11_number 9 = .ok (.iconst 1, 1) := by decide +kernel
theorem dX11_number_10 : decode cX11_number 10 = .ok (.istore_n 3, 1) := by decide +kernel
theorem dX11_number_11 : decode cX11_number 11 = .ok (.iload_n 3, 1) := by decide +kernel
theorem dX11_number_12 : decode cX11_number 12 = .ok (.iload_n 1, 1) := by decide +kernel
theorem dX11_number_13 : decode cX11_number 13 = .ok (.if_icmp .ge 44, 3) := by decide +kernel
theorem dX11_number_16 : decode cX11_number 16 = .ok (.aload_n 0, 1) := by decide +kernel
theorem dX11_number_17 : decode cX11_number 17 = .ok (.invokevirtual 148, 3) := by decide +kernel
theorem dX11_number_20 : decode cX11_number 20 = .ok (.ifCond .eq 37, 3) := by decide +kernel
theorem dX11_number_23 : decode cX11_number 23 = .ok (.aload_n 0, 1) := by decide +kernel
theorem dX11_number_24 : decode cX11_number 24 = .ok (.invokevirtual 152, 3) := by decide +kernel
theorem dX11_number_27 : decode cX11_number 27 = .ok (.bipush 48, 2) := by decide +kernel
theorem dX11_number_29 : decode cX11_number 29 = .ok (.bipush 57, 2) := by decide +kernel
theorem dX11_number_31 : decode cX11_number 31 = .ok (.invokestatic 116, 3) := by decide +kernel
theorem dX11_number_34 : decode cX11_number 34 = .ok (.ifCond .eq 23, 3) := by decide +kernel
theorem dX11_number_37 : decode cX11_number 37 = .ok (.bipush 10, 2) := by decide +kernel
theorem dX11_number_39 : decode cX11_number 39 = .ok (.iload_n 2, 1) := by decide +kernel
theorem dX11_number_40 : decode cX11_number 40 = .ok (.imul, 1) := by decide +kernel
theorem dX11_number_41 : decode cX11_number 41 = .ok (.aload_n 0, 1) := by decide +kernel
theorem dX11_number_42 : decode cX11_number 42 = .ok (.bipush 48, 2) := by decide +kernel
theorem dX11_number_44 : decode cX11_number 44 = .ok (.bipush 10, 2) := by decide +kernel
theorem dX11_number_46 : decode cX11_number 46 = .ok (.invokevirtual 164, 3) := by decide +kernel
theorem dX11_number_49 : decode cX11_number 49 = .ok (.iadd, 1) := by decide +kernel
theorem dX11_number_50 : decode cX11_number 50 = .ok (.istore_n 2, 1) := by decide +kernel
theorem dX11_number_51 : decode cX11_number 51 = .ok (.iinc 3 1, 3) := by decide +kernel
theorem dX11_number_54 : decode cX11_number 54 = .ok (.goto (-43), 3) := by decide +kernel
theorem dX11_number_57 : decode cX11_number 57 = .ok (.iload_n 2, 1) := by decide +kernel
theorem dX11_number_58 : decode cX11_number 58 = .ok (.ireturn, 1) := by decide +kernel
theorem dX11_wasRight_0 : decode cX11_wasRight 0 = .ok (.aload_n 0, 1) := by decide +kernel
theorem dX11_wasRight_1 : decode cX11_wasRight 1 = .ok (.getfield 138, 3) := by decide +kernel
theorem dX11_wasRight_4 : decode cX11_wasRight 4 = .ok (.aload_n 0, 1) := by decide +kernel
theorem dX11_wasRight_5 : decode cX11_wasRight 5 = .ok (.getfield 132, 3) := by decide +kernel
theorem dX11_wasRight_8 : decode cX11_wasRight 8 = .ok (.if_icmp .ge 11, 3) := by decide +kernel
theorem dX11_wasRight_11 : decode cX11_wasRight 11 = .ok (.aload_n 0, 1) := by decide +kernel
theorem dX11_wasRight_12 : decode cX11_wasRight 12 = .ok (.aload_n 0, 1) := by decide +kernel
theorem dX11_wasRight_13 : decode cX11_wasRight 13 = .ok (.getfield 138, 3) := by decide +kernel
theorem dX11_wasRight_16 : decode cX11_wasRight 16 = .ok (.invokevirtual 160, 3) := by decide +kernel
theorem dX11_wasRight_19 : decode cX11_wasRight 19 = .ok (.aload_n 0, 1) := by decide +kernel
theorem dX11_wasRight_20 : decode cX11_wasRight 20 = .ok (.invokevirtual 148, 3) := by decide +kernel
theorem dX11_wasRight_23 : decode cX11_wasRight 23 = .ok (.ireturn, 1) := by decide +kernel
theorem dX11_road_0 : decode cX11_road 0 = .ok (.aload_n 0, 1) := by decide +kernel
theorem dX11_road_1 : decode cX11_road 1 = .ok (.iconst 0, 1) := by decide +kernel
theorem dX11_road_2 : decode cX11_road 2 = .ok (.putfield 110, 3) := by decide +kernel
theorem dX11_road_5 : decode cX11_road 5 = .ok (.iload_n 1, 1) := by decide +kernel
theorem dX11_road_6 : decode cX11_road 6 = .ok (.iconst 1, 1) := by decide +kernel
theorem dX11_road_7 : decode cX11_road 7 = .ok (.bipush 6, 2) := by decide +kernel
theorem dX11_road_9 : decode cX11_road 9 = .ok (.invokestatic 116, 3) := by decide +kernel
theorem dX11_road_12 : decode cX11_road 12 = .ok (.ifCond .ne 5, 3) := by decide +kernel
theorem dX11_road_15 : decode cX11_road 15 = .ok (.iconst (-1), 1) := by decide +kernel
theorem dX11_road_16 : decode cX11_road 16 = .ok (.ireturn, 1) := by decide +kernel
theorem dX11_road_17 : decode cX11_road 17 = .ok (.iconst 0, 1) := by decide +kernel
theorem dX11_road_18 : decode cX11_road 18 = .ok (.istore_n 2, 1) := by decide +kernel
theorem dX11_road_19 : decode cX11_road 19 = .ok (.iload_n 2, 1) := by decide +kernel
theorem dX11_road_20 : decode cX11_road 20 = .ok (.aload_n 0, 1) := by decide +kernel
theorem dX11_road_21 : decode cX11_road 21 = .ok (.getfield 123, 3) := by decide +kernel
theorem dX11_road_24 : decode cX11_road 24 = .ok (.if_icmp .ge 21, 3) := by decide +kernel
theorem dX11_road_27 : decode cX11_road 27 = .ok (.aload_n 0, 1) := by decide +kernel
theorem dX11_road_28 : decode cX11_road 28 = .ok (.getfield 9, 3) := by decide +kernel
theorem dX11_road_31 : decode cX11_road 31 = .ok (.iload_n 2, 1) := by decide +kernel
theorem dX11_road_32 : decode cX11_road 32 = .ok (.iaload, 1) := by decide +kernel
theorem dX11_road_33 : decode cX11_road 33 = .ok (.iload_n 1, 1) := by decide +kernel
theorem dX11_road_34 : decode cX11_road 34 = .ok (.if_icmp .lt 5, 3) := by decide +kernel
theorem dX11_road_37 : decode cX11_road 37 = .ok (.iconst (-1), 1) := by decide +kernel
theorem dX11_road_38 : decode cX11_road 38 = .ok (.ireturn, 1) := by decide +kernel
theorem dX11_road_39 : decode cX11_road 39 = .ok (.iinc 2 1, 3) := by decide +kernel
theorem dX11_road_42 : decode cX11_road 42 = .ok (.goto (-23), 3) := by decide +kernel
theorem dX11_road_45 : decode cX11_road 45 = .ok (.iconst 0, 1) := by decide +kernel
theorem dX11_road_46 : decode cX11_road 46 = .ok (.istore_n 2, 1) := by decide +kernel
theorem dX11_road_47 : decode cX11_road 47 = .ok (.iload_n 2, 1) := by decide +kernel
theorem dX11_road_48 : decode cX11_road 48 = .ok (.aload_n 0, 1) := by decide +kernel
theorem dX11_road_49 : decode cX11_road 49 = .ok (.getfield 168, 3) := by decide +kernel
theorem dX11_road_52 : decode cX11_road 52 = .ok (.if_icmp .ge 25, 3) := by decide +kernel
theorem dX11_road_55 : decode cX11_road 55 = .ok (.aload_n 0, 1) := by decide +kernel
theorem dX11_road_56 : decode cX11_road 56 = .ok (.getfield 27, 3) := by decide +kernel
theorem dX11_road_59 : decode cX11_road 59 = .ok (.iconst 4, 1) := by decide +kernel
theorem dX11_road_60 : decode cX11_road 60 = .ok (.iload_n 2, 1) := by decide +kernel
theorem dX11_road_61 : decode cX11_road 61 = .ok (.imul, 1) := by decide +kernel
theorem dX11_road_62 : decode cX11_road 62 = .ok (.iconst 2, 1) := by decide +kernel
theorem dX11_road_63 : decode cX11_road 63 = .ok (.iadd, 1) := by decide +kernel
theorem dX11_road_64 : decode cX11_road 64 = .ok (.iaload, 1) := by decide +kernel
theorem dX11_road_65 : decode cX11_road 65 = .ok (.iload_n 1, 1) := by decide +kernel
theorem dX11_road_66 : decode cX11_road 66 = .ok (.if_icmp .lt 5, 3) := by decide +kernel
theorem dX11_road_69 : decode cX11_road 69 = .ok (.iconst (-1), 1) := by decide +kernel
theorem dX11_road_70 : decode cX11_road 70 = .ok (.ireturn, 1) := by decide +kernel
theorem dX11_road_71 : decode cX11_road 71 = .ok (.iinc 2 1, 3) := by decide +kernel
theorem dX11_road_74 : decode cX11_road 74 = .ok (.goto (-27), 3) := by decide +kernel
theorem dX11_road_77 : decode cX11_road 77 = .ok (.aload_n 0, 1) := by decide +kernel
theorem dX11_road_78 : decode cX11_road 78 = .ok (.getfield 13, 3) := by decide +kernel
theorem dX11_road_81 : decode cX11_road 81 = .ok (.istore_n 2, 1) := by decide +kernel
theorem dX11_road_82 : decode cX11_road 82 = .ok (.aload_n 0, 1) := by decide +kernel
theorem dX11_road_83 : decode cX11_road 83 = .ok (.iload_n 1, 1) := by decide +kernel
theorem dX11_road_84 : decode cX11_road 84 = .ok (.putfield 13, 3) := by decide +kernel
theorem dX11_road_87 : decode cX11_road 87 = .ok (.iconst 5, 1) := by decide +kernel
theorem dX11_road_88 : decode cX11_road 88 = .ok (.iload_n 1, 1) := by decide +kernel
theorem dX11_road_89 : decode cX11_road 89 = .ok (.imul, 1) := by decide +kernel
theorem dX11_road_90 : decode cX11_road 90 = .ok (.istore_n 3, 1) := by decide +kernel
theorem dX11_road_91 : decode cX11_road 91 = .ok (.iload_n 3, 1) := by decide +kernel
theorem dX11_road_92 : decode cX11_road 92 = .ok (.bipush 30, 2) := by decide +kernel
theorem dX11_road_94 : decode cX11_road 94 = .ok (.if_icmp .ge 19, 3) := by decide +kernel
theorem dX11_road_97 : decode cX11_road 97 = .ok (.aload_n 0, 1) := by decide +kernel
theorem dX11_road_98 : decode cX11_road 98 = .ok (.getfield 9, 3) := by decide +kernel
theorem dX11_road_101 : decode cX11_road 101 = .ok (.bipush 14, 2) := by decide +kernel
theorem dX11_road_103 : decode cX11_road 103 = .ok (.iload_n 3, 1) := by decide +kernel
theorem dX11_road_104 : decode cX11_road 104 = .ok (.iadd, 1) := by decide +kernel
theorem dX11_road_105 : decode cX11_road 105 = .ok (.iconst 0, 1) := by decide +kernel
theorem dX11_road_106 : decode cX11_road 106 = .ok (.iastore, 1) := by decide +kernel
theorem dX11_road_107 : decode cX11_road 107 = .ok (.iinc 3 1, 3) := by decide +kernel
theorem dX11_road_110 : decode cX11_road 110 = .ok (.goto (-19), 3) := by decide +kernel
theorem dX11_road_113 : decode cX11_road 113 = .ok (.aload_n 0, 1) := by decide +kernel
theorem dX11_road_114 : decode cX11_road 114 = .ok (.iconst 0, 1) := by decide +kernel
theorem dX11_road_115 : decode cX11_road 115 = .ok (.putfield 171, 3) := by decide +kernel
theorem dX11_road_118 : decode cX11_road 118 = .ok (.aload_n 0, 1) := by decide +kernel
theorem dX11_road_119 : decode cX11_road 119 = .ok (.dup, 1) := by decide +kernel
theorem dX11_road_120 : decode cX11_road 120 = .ok (.getfield 174, 3) := by decide +kernel
theorem dX11_road_123 : decode cX11_road 123 = .ok (.iconst 1, 1) := by decide +kernel
theorem dX11_road_124 : decode cX11_road 124 = .ok (.iadd, 1) := by decide +kernel
theorem dX11_road_125 : decode cX11_road 125 = .ok (.putfield 174, 3) := by decide +kernel
theorem dX11_road_128 : decode cX11_road 128 = .ok (.iload_n 2, 1) := by decide +kernel
theorem dX11_road_129 : decode cX11_road 129 = .ok (.ireturn, 1) := by decide +kernel
theorem dX11_readWord_0 : decode cX11_readWord 0 = .ok (.aload_n 0, 1) := by decide +kernel
theorem dX11_readWord_1 : decode cX11_readWord 1 = .ok (.getfield 43, 3) := by decide +kernel
theorem dX11_readWord_4 : decode cX11_readWord 4 = .ok (.iconst 2, 1) := by decide +kernel
theorem dX11_readWord_5 : decode cX11_readWord 5 = .ok (.iload_n 1, 1) := by decide +kernel
theorem dX11_readWord_6 : decode cX11_readWord 6 = .ok (.imul, 1) := by decide +kernel
theorem dX11_readWord_7 : decode cX11_readWord 7 = .ok (.aload_n 0, 1) := by decide +kernel
theorem dX11_readWord_8 : decode cX11_readWord 8 = .ok (.bipush 48, 2) := by decide +kernel
theorem dX11_readWord_10 : decode cX11_readWord 10 = .ok (.bipush 10, 2) := by decide +kernel
theorem dX11_readWord_12 : decode cX11_readWord 12 = .ok (.invokevirtual 164, 3) := by decide +kernel
theorem dX11_readWord_15 : decode cX11_readWord 15 = .ok (.iastore, 1) := by decide +kernel
theorem dX11_readWord_16 : decode cX11_readWord 16 = .ok (.aload_n 0, 1) := by decide +kernel
theorem dX11_readWord_17 : decode cX11_readWord 17 = .ok (.getfield 43, 3) := by decide +kernel
theorem dX11_readWord_20 : decode cX11_readWord 20 = .ok (.iconst 2, 1) := by decide +kernel
theorem dX11_readWord_21 : decode cX11_readWord 21 = .ok (.iload_n 1, 1) := by decide +kernel
theorem dX11_readWord_22 : decode cX11_readWord 22 = .ok (.imul, 1) := by decide +kernel
theorem dX11_readWord_23 : decode cX11_readWord 23 = .ok (.iconst 1, 1) := by decide +kernel
theorem dX11_readWord_24 : decode cX11_readWord 24 = .ok (.iadd, 1) := by decide +kernel
theorem dX11_readWord_25 : decode cX11_readWord 25 = .ok (.aload_n 0, 1) := by decide +kernel
theorem dX11_readWord_26 : decode cX11_readWord 26 = .ok (.invokevirtual 148, 3) := by decide +kernel
theorem dX11_readWord_29 : decode cX11_readWord 29 = .ok (.ifCond .eq 28, 3) := by decide +kernel
theorem dX11_readWord_32 : decode cX11_readWord 32 = .ok (.aload_n 0, 1) := by decide +kernel
theorem dX11_readWord_33 : decode cX11_readWord 33 = .ok (.invokevirtual 152, 3) := by decide +kernel
theorem dX11_readWord_36 : decode cX11_readWord 36 = .ok (.bipush 48, 2) := by decide +kernel
theorem dX11_readWord_38 : decode cX11_readWord 38 = .ok (.bipush 57, 2) := by decide +kernel
theorem dX11_readWord_40 : decode cX11_readWord 40 = .ok (.invokestatic 116, 3) := by decide +kernel
theorem dX11_readWord_43 : decode cX11_readWord 43 = .ok (.ifCond .eq 14, 3) := by decide +kernel
theorem dX11_readWord_46 : decode cX11_readWord 46 = .ok (.aload_n 0, 1) := by decide +kernel
theorem dX11_readWord_47 : decode cX11_readWord 47 = .ok (.bipush 48, 2) := by decide +kernel
theorem dX11_readWord_49 : decode cX11_readWord 49 = .ok (.bipush 10, 2) := by decide +kernel
theorem dX11_readWord_51 : decode cX11_readWord 51 = .ok (.invokevirtual 164, 3) := by decide +kernel
theorem dX11_readWord_54 : decode cX11_readWord 54 = .ok (.goto 4, 3) := by decide +kernel
theorem dX11_readWord_57 : decode cX11_readWord 57 = .ok (.iconst (-1), 1) := by decide +kernel
theorem dX11_readWord_58 : decode cX11_readWord 58 = .ok (.iastore, 1) := by decide +kernel
theorem dX11_readWord_59 : decode cX11_readWord 59 = .ok (.aload_n 0, 1) := by decide +kernel
theorem dX11_readWord_60 : decode cX11_readWord 60 = .ok (.getfield 40, 3) := by decide +kernel
theorem dX11_readWord_63 : decode cX11_readWord 63 = .ok (.iload_n 1, 1) := by decide +kernel
theorem dX11_readWord_64 : decode cX11_readWord 64 = .ok (.iconst 0, 1) := by decide +kernel
theorem dX11_readWord_65 : decode cX11_readWord 65 = .ok (.iastore, 1) := by decide +kernel
theorem dX11_readWord_66 : decode cX11_readWord 66 = .ok (.aload_n 0, 1) := by decide +kernel
theorem dX11_readWord_67 : decode cX11_readWord 67 = .ok (.invokevirtual 148, 3) := by decide +kernel
theorem dX11_readWord_70 : decode cX11_readWord 70 = .ok (.ifCond .eq 86, 3) := by decide +kernel
theorem dX11_readWord_73 : decode cX11_readWord 73 = .ok (.aload_n 0, 1) := by decide +kernel
theorem dX11_readWord_74 : decode cX11_readWord 74 = .ok (.getfield 40, 3) := by decide +kernel
theorem dX11_readWord_77 : decode cX11_readWord 77 = .ok (.iload_n 1, 1) := by decide +kernel
theorem dX11_readWord_78 : decode cX11_readWord 78 = .ok (.iaload, 1) := by decide +kernel
theorem dX11_readWord_79 : decode cX11_readWord 79 = .ok (.ifCond .eq 17, 3) := by decide +kernel
theorem dX11_readWord_82 : decode cX11_readWord 82 = .ok (.aload_n 0, 1) := by decide +kernel
theorem dX11_readWord_83 : decode cX11_readWord 83 = .ok (.invokevirtual 152, 3) := by decide +kernel
theorem dX11_readWord_86 : decode cX11_readWord 86 = .ok (.bipush 97, 2) := by decide +kernel
theorem dX11_readWord_88 : decode cX11_readWord 88 = .ok (.bipush 122, 2) := by decide +kernel
theorem dX11_readWord_90 : decode cX11_readWord 90 = .ok (.invokestatic 116, 3) := by decide +kernel
theorem dX11_readWord_93 : decode cX11_readWord 93 = .ok (.ifCond .eq 63, 3) := by decide +kernel
theorem dX11_readWord_96 : decode cX11_readWord 96 = .ok (.aload_n 0, 1) := by decide +kernel
theorem dX11_readWord_97 : decode cX11_readWord 97 = .ok (.getfield 40, 3) := by decide +kernel
theorem dX11_readWord_100 : decode cX11_readWord 100 = .ok (.iload_n 1, 1) := by decide +kernel
theorem dX11_readWord_101 : decode cX11_readWord 101 = .ok (.iaload, 1) := by decide +kernel
theorem dX11_readWord_102 : decode cX11_readWord 102 = .ok (.bipush 6, 2) := by decide +kernel
theorem dX11_readWord_104 : decode cX11_readWord 104 = .ok (.if_icmp .ne 14, 3) := by decide +kernel
theorem dX11_readWord_107 : decode cX11_readWord 107 = .ok (.aload_n 0, 1) := by decide +kernel
theorem dX11_readWord_108 : decode cX11_readWord 108 = .ok (.aload_n 0, 1) := by decide +kernel
theorem dX11_readWord_109 : decode cX11_readWord 109 = .ok (.getfield 138, 3) := by decide +kernel
theorem dX11_readWord_112 : decode cX11_readWord 112 = .ok (.invokevirtual 160, 3) := by decide +kernel
theorem dX11_readWord_115 : decode cX11_readWord 115 = .ok (.goto (-49), 3) := by decide +kernel
theorem dX11_readWord_118 : decode cX11_readWord 118 = .ok (.aload_n 0, 1) := by decide +kernel
theorem dX11_readWord_119 : decode cX11_readWord 119 = .ok (.getfield 37, 3) := by decide +kernel
theorem dX11_readWord_122 : decode cX11_readWord 122 = .ok (.bipush 6, 2) := by decide +kernel
theorem dX11_readWord_124 : decode cX11_readWord 124 = .ok (.iload_n 1, 1) := by decide +kernel
theorem dX11_readWord_125 : decode cX11_readWord 125 = .ok (.imul, 1) := by decide +kernel
theorem dX11_readWord_126 : decode cX11_readWord 126 = .ok (.aload_n 0, 1) := by decide +kernel
theorem dX11_readWord_127 : decode cX11_readWord 127 = .ok (.getfield 40, 3) := by decide +kernel
theorem dX11_readWord_130 : decode cX11_readWord 130 = .ok (.iload_n 1, 1) := by decide +kernel
theorem dX11_readWord_131 : decode cX11_readWord 131 = .ok (.iaload, 1) := by decide +kernel
theorem dX11_readWord_132 : decode cX11_readWord 132 = .ok (.iadd, 1) := by decide +kernel
theorem dX11_readWord_133 : decode cX11_readWord 133 = .ok (.aload_n 0, 1) := by decide +kernel
theorem dX11_readWord_134 : decode cX11_readWord 134 = .ok (.bipush 97, 2) := by decide +kernel
theorem dX11_readWord_136 : decode cX11_readWord 136 = .ok (.bipush 26, 2) := by decide +kernel
theorem dX11_readWord_138 : decode cX11_readWord 138 = .ok (.invokevirtual 164, 3) := by decide +kernel
theorem dX11_readWord_141 : decode cX11_readWord 141 = .ok (.i2b, 1) := by decide +kernel
theorem dX11_readWord_142 : decode cX11_readWord 142 = .ok (.bastore, 1) := by decide +kernel
theorem dX11_readWord_143 : decode cX11_readWord 143 = .ok (.aload_n 0, 1) := by decide +kernel
theorem dX11_readWord_144 : decode cX11_readWord 144 = .ok (.getfield 40, 3) := by decide +kernel
theorem dX11_readWord_147 : decode cX11_readWord 147 = .ok (.iload_n 1, 1) := by decide +kernel
theorem dX11_readWord_148 : decode cX11_readWord 148 = .ok (.dup2, 1) := by decide +kernel
theorem dX11_readWord_149 : decode cX11_readWord 149 = .ok (.iaload, 1) := by decide +kernel
theorem dX11_readWord_150 : decode cX11_readWord 150 = .ok (.iconst 1, 1) := by decide +kernel
theorem dX11_readWord_151 : decode cX11_readWord 151 = .ok (.iadd, 1) := by decide +kernel
theorem dX11_readWord_152 : decode cX11_readWord 152 = .ok (.iastore, 1) := by decide +kernel
theorem dX11_readWord_153 : decode cX11_readWord 153 = .ok (.goto (-87), 3) := by decide +kernel
theorem dX11_readWord_156 : decode cX11_readWord 156 = .ok (.return_, 1) := by decide +kernel
theorem dX11_words_0 : decode cX11_words 0 = .ok (.aload_n 0, 1) := by decide +kernel
theorem dX11_words_1 : decode cX11_words 1 = .ok (.iconst 0, 1) := by decide +kernel
theorem dX11_words_2 : decode cX11_words 2 = .ok (.putfield 110, 3) := by decide +kernel
theorem dX11_words_5 : decode cX11_words 5 = .ok (.aload_n 0, 1) := by decide +kernel
theorem dX11_words_6 : decode cX11_words 6 = .ok (.bipush 76, 2) := by decide +kernel
theorem dX11_words_8 : decode cX11_words 8 = .ok (.invokevirtual 177, 3) := by decide +kernel
theorem dX11_words_11 : decode cX11_words 11 = .ok (.aload_n 0, 1) := by decide +kernel
theorem dX11_words_12 : decode cX11_words 12 = .ok (.getfield 132, 3) := by decide +kernel
theorem dX11_words_15 : decode cX11_words 15 = .ok (.ifCond .ne 5, 3) := by decide +kernel
theorem dX11_words_18 : decode cX11_words 18 = .ok (.iconst 0, 1) := by decide +kernel
theorem dX11_words_19 : decode cX11_words 19 = .ok (.ireturn, 1) := by decide +kernel
theorem dX11_words_20 : decode cX11_words 20 = .ok (.iconst 0, 1) := by decide +kernel
theorem dX11_words_21 : decode cX11_words 21 = .ok (.istore_n 1, 1) := by decide +kernel
theorem dX11_words_22 : decode cX11_words 22 = .ok (.iconst 1, 1) := by decide +kernel
theorem dX11_words_23 : decode cX11_words 23 = .ok (.istore_n 2, 1) := by decide +kernel
theorem dX11_words_24 : decode cX11_words 24 = .ok (.iload_n 2, 1) := by decide +kernel
theorem dX11_words_25 : decode cX11_words 25 = .ok (.ifCond .eq 50, 3) := by decide +kernel
theorem dX11_words_28 : decode cX11_words 28 = .ok (.aload_n 0, 1) := by decide +kernel
theorem dX11_words_29 : decode cX11_words 29 = .ok (.invokevirtual 148, 3) := by decide +kernel
theorem dX11_words_32 : decode cX11_words 32 = .ok (.ifCond .eq 43, 3) := by decide +kernel
theorem dX11_words_35 : decode cX11_words 35 = .ok (.aload_n 0, 1) := by decide +kernel
theorem dX11_words_36 : decode cX11_words 36 = .ok (.getfield 120, 3) := by decide +kernel
theorem dX11_words_39 : decode cX11_words 39 = .ok (.iload_n 1, 1) := by decide +kernel
theorem dX11_words_40 : decode cX11_words 40 = .ok (.iadd, 1) := by decide +kernel
theorem dX11_words_41 : decode cX11_words 41 = .ok (.bipush 10, 2) := by decide +kernel
theorem dX11_words_43 : decode cX11_words 43 = .ok (.if_icmp .ne 14, 3) := by decide +kernel
theorem dX11_words_46 : decode cX11_words 46 = .ok (.aload_n 0, 1) := by decide +kernel
theorem dX11_words_47 : decode cX11_words 47 = .ok (.aload_n 0, 1) := by decide +kernel
theorem dX11_words_48 : decode cX11_words 48 = .ok (.getfield 138, 3) := by decide +kernel
theorem dX11_words_51 : decode cX11_words 51 = .ok (.invokevirtual 160, 3) := by decide +kernel
theorem dX11_words_54 : decode cX11_words 54 = .ok (.goto 8, 3) := by decide +kernel
theorem dX11_words_57 : decode cX11_words 57 = .ok (.aload_n 0, 1) := by decide +kernel
theorem dX11_words_58 : decode cX11_words 58 = .ok (.iload_n 1, 1) := by decide +kernel
theorem dX11_words_59 : decode cX11_words 59 = .ok (.invokevirtual 180, 3) := by decide +kernel
theorem dX11_words_62 : decode cX11_words 62 = .ok (.iinc 1 1, 3) := by decide +kernel
theorem dX11_words_65 : decode cX11_words 65 = .ok (.aload_n 0, 1) := by decide +kernel
theorem dX11_words_66 : decode cX11_words 66 = .ok (.bipush 59, 2) := by decide +kernel
theorem dX11_words_68 : decode cX11_words 68 = .ok (.invokevirtual 156, 3) := by decide +kernel
theorem dX11_words_71 : decode cX11_words 71 = .ok (.istore_n 2, 1) := by decide +kernel
theorem dX11_words_72 : decode cX11_words 72 = .ok (.goto (-48), 3) := by decide +kernel
theorem dX11_words_75 : decode cX11_words 75 = .ok (.aload_n 0, 1) := by decide +kernel
theorem dX11_words_76 : decode cX11_words 76 = .ok (.invokevirtual 183, 3) := by decide +kernel
theorem dX11_words_79 : decode cX11_words 79 = .ok (.ifCond .ne 10, 3) := by decide +kernel
theorem dX11_words_82 : decode cX11_words 82 = .ok (.iconst (-1), 1) := by decide +kernel
theorem dX11_words_83 : decode cX11_words 83 = .ok (.aload_n 0, 1) := by decide +kernel
theorem dX11_words_84 : decode cX11_words 84 = .ok (.getfield 141, 3) := by decide +kernel
theorem dX11_words_87 : decode cX11_words 87 = .ok (.isub, 1) := by decide +kernel
theorem dX11_words_88 : decode cX11_words 88 = .ok (.ireturn, 1) := by decide +kernel
theorem dX11_words_89 : decode cX11_words 89 = .ok (.iconst 0, 1) := by decide +kernel
theorem dX11_words_90 : decode cX11_words 90 = .ok (.istore_n 3, 1) := by decide +kernel
theorem dX11_words_91 : decode cX11_words 91 = .ok (.iload_n 3, 1) := by decide +kernel
theorem dX11_words_92 : decode cX11_words 92 = .ok (.iload_n 1, 1) := by decide +kernel
theorem dX11_words_93 : decode cX11_words 93 = .ok (.if_icmp .ge 119, 3) := by decide +kernel
theorem dX11_words_96 : decode cX11_words 96 = .ok (.iconst 0, 1) := by decide +kernel
theorem dX11_words_97 : decode cX11_words 97 = .ok (.istore 4, 2) := by decide +kernel
theorem dX11_words_99 : decode cX11_words 99 = .ok (.iload 4, 2) := by decide +kernel
theorem dX11_words_101 : decode cX11_words 101 = .ok (.bipush 6, 2) := by decide +kernel
theorem dX11_words_103 : decode cX11_words 103 = .ok (.if_icmp .ge 36, 3) := by decide +kernel
theorem dX11_words_106 : decode cX11_words 106 = .ok (.aload_n 0, 1) := by decide +kernel
theorem dX11_words_107 : decode cX11_words 107 = .ok (.getfield 17, 3) := by decide +kernel
theorem dX11_words_110 : decode cX11_words 110 = .ok (.bipush 6, 2) := by decide +kernel
theorem dX11_words_112 : decode cX11_words 112 = .ok (.aload_n 0, 1) := by decide +kernel
theorem dX11_words_113 : decode cX11_words 113 = .ok (.getfield 120, 3) := by decide +kernel
theorem dX11_words_116 : decode cX11_words 116 = .ok (.imul, 1) := by decide +kernel
theorem dX11_words_117 : decode cX11_words 117 = .ok (.iload 4, 2) := by decide +kernel
theorem dX11_words_119 : decode cX11_words 119 = .ok (.iadd, 1) := by decide +kernel
theorem dX11_words_120 : decode cX11_words 120 = .ok (.aload_n 0, 1) := by decide +kernel
theorem dX11_words_121 : decode cX11_words 121 = .ok (.getfield 37, 3) := by decide +kernel
theorem dX11_words_124 : decode cX11_words 124 = .ok (.bipush 6, 2) := by decide +kernel
theorem dX11_words_126 : decode cX11_words 126 = .ok (.iload_n 3, 1) := by decide +kernel
theorem dX11_words_127 : decode cX11_words 127 = .ok (.imul, 1) := by decide +kernel
theorem dX11_words_128 : decode cX11_words 128 = .ok (.iload 4, 2) := by decide +kernel
theorem dX11_words_130 : decode cX11_words 130 = .ok (.iadd, 1) := by decide +kernel
theorem dX11_words_131 : decode cX11_words 131 = .ok (.baload, 1) := by decide +kernel
theorem dX11_words_132 : decode cX11_words 132 = .ok (.bastore, 1) := by decide +kernel
theorem dX11_words_133 : decode cX11_words 133 = .ok (.iinc 4 1, 3) := by decide +kernel
theorem dX11_words_136 : decode cX11_words 136 = .ok (.goto (-37), 3) := by decide +kernel
theorem dX11_words_139 : decode cX11_words 139 = .ok (.aload_n 0, 1) := by decide +kernel
theorem dX11_words_140 : decode cX11_words 140 = .ok (.getfield 21, 3) := by decide +kernel
theorem dX11_words_143 : decode cX11_words 143 = .ok (.aload_n 0, 1) := by decide +kernel
theorem dX11_words_144 : decode cX11_words 144 = .ok (.getfield 120, 3) := by decide +kernel
theorem dX11_words_147 : decode cX11_words 147 = .ok (.aload_n 0, 1) := by decide +kernel
theorem dX11_words_148 : decode cX11_words 148 = .ok (.getfield 40, 3) := by decide +kernel
theorem dX11_words_151 : decode cX11_words 151 = .ok (.iload_n 3, 1) := by decide +kernel
theorem dX11_words_152 : decode cX11_words 152 = .ok (.iaload, 1) := by decide +kernel
theorem dX11_words_153 : decode cX11_words 153 = .ok (.iastore, 1) := by decide +kernel
theorem dX11_words_154 : decode cX11_words 154 = .ok (.aload_n 0, 1) := by decide +kernel
theorem dX11_words_155 : decode cX11_words 155 = .ok (.getfield 24, 3) := by decide +kernel
theorem dX11_words_158 : decode cX11_words 158 = .ok (.iconst 2, 1) := by decide +kernel
theorem dX11_words_159 : decode cX11_words 159 = .ok (.aload_n 0, 1) := by decide +kernel
theorem dX11_words_160 : decode cX11_words 160 = .ok (.getfield 120, 3) := by decide +kernel
theorem dX11_words_163 : decode cX11_words 163 = .ok (.imul, 1) := by decide +kernel
theorem dX11_words_164 : decode cX11_words 164 = .ok (.aload_n 0, 1) := by decide +kernel
theorem dX11_words_165 : decode cX11_words 165 = .ok (.getfield 43, 3) := by decide +kernel
theorem dX11_words_168 : decode cX11_words 168 = .ok (.iconst 2, 1) := by decide +kernel
theorem dX11_words_169 : decode cX11_words 169 = .ok (.iload_n 3, 1) := by decide +kernel
theorem dX11_words_170 : decode cX11_words 170 = .ok (.imul, 1) := by decide +kernel
theorem dX11_words_171 : decode cX11_words 171 = .ok (.iaload, 1) := by decide +kernel
theorem dX11_words_172 : decode cX11_words 172 = .ok (.iastore, 1) := by decide +kernel
theorem dX11_words_173 : decode cX11_words 173 = .ok (.aload_n 0, 1) := by decide +kernel
theorem dX11_words_174 : decode cX11_words 174 = .ok (.getfield 24, 3) := by decide +kernel
theorem dX11_words_177 : decode cX11_words 177 = .ok (.iconst 2, 1) := by decide +kernel
theorem dX11_words_178 : decode cX11_words 178 = .ok (.aload_n 0, 1) := by decide +kernel
theorem dX11_words_179 : decode cX11_words 179 = .ok (.getfield 120, 3) := by decide +kernel
theorem dX11_words_182 : decode cX11_words 182 = .ok (.imul, 1) := by decide +kernel
theorem dX11_words_183 : decode cX11_words 183 = .ok (.iconst 1, 1) := by decide +kernel
theorem dX11_words_184 : decode cX11_words 184 = .ok (.iadd, 1) := by decide +kernel
theorem dX11_words_185 : decode cX11_words 185 = .ok (.aload_n 0, 1) := by decide +kernel
theorem dX11_words_186 : decode cX11_words 186 = .ok (.getfield 43, 3) := by decide +kernel
theorem dX11_words_189 : decode cX11_words 189 = .ok (.iconst 2, 1) := by decide +kernel
theorem dX11_words_190 : decode cX11_words 190 = .ok (.iload_n 3, 1) := by decide +kernel
theorem dX11_words_191 : decode cX11_words 191 = .ok (.imul, 1) := by decide +kernel
theorem dX11_words_192 : decode cX11_words 192 = .ok (.iconst 1, 1) := by decide +kernel
theorem dX11_words_193 : decode cX11_words 193 = .ok (.iadd, 1) := by decide +kernel
theorem dX11_words_194 : decode cX11_words 194 = .ok (.iaload, 1) := by decide +kernel
theorem dX11_words_195 : decode cX11_words 195 = .ok (.iastore, 1) := by decide +kernel
theorem dX11_words_196 : decode cX11_words 196 = .ok (.aload_n 0, 1) := by decide +kernel
theorem dX11_words_197 : decode cX11_words 197 = .ok (.dup, 1) := by decide +kernel
theorem dX11_words_198 : decode cX11_words 198 = .ok (.getfield 120, 3) := by decide +kernel
theorem dX11_words_201 : decode cX11_words 201 = .ok (.iconst 1, 1) := by decide +kernel
theorem dX11_words_202 : decode cX11_words 202 = .ok (.iadd, 1) := by decide +kernel
theorem dX11_words_203 : decode cX11_words 203 = .ok (.putfield 120, 3) := by decide +kernel
theorem dX11_words_206 : decode cX11_words 206 = .ok (.iinc 3 1, 3) := by decide +kernel
theorem dX11_words_209 : decode cX11_words 209 = .ok (.goto (-118), 3) := by decide +kernel
theorem dX11_words_212 : decode cX11_words 212 = .ok (.aload_n 0, 1) := by decide +kernel
theorem dX11_words_213 : decode cX11_words 213 = .ok (.iconst 0, 1) := by decide +kernel
theorem dX11_words_214 : decode cX11_words 214 = .ok (.putfield 171, 3) := by decide +kernel
theorem dX11_words_217 : decode cX11_words 217 = .ok (.aload_n 0, 1) := by decide +kernel
theorem dX11_words_218 : decode cX11_words 218 = .ok (.dup, 1) := by decide +kernel
theorem dX11_words_219 : decode cX11_words 219 = .ok (.getfield 174, 3) := by decide +kernel
theorem dX11_words_222 : decode cX11_words 222 = .ok (.iconst 1, 1) := by decide +kernel
theorem dX11_words_223 : decode cX11_words 223 = .ok (.iadd, 1) := by decide +kernel
theorem dX11_words_224 : decode cX11_words 224 = .ok (.putfield 174, 3) := by decide +kernel
theorem dX11_words_227 : decode cX11_words 227 = .ok (.iload_n 1, 1) := by decide +kernel
theorem dX11_words_228 : decode cX11_words 228 = .ok (.ireturn, 1) := by decide +kernel
theorem dX11_travellers_0 : decode cX11_travellers 0 = .ok (.aload_n 0, 1) := by decide +kernel
theorem dX11_travellers_1 : decode cX11_travellers 1 = .ok (.iconst 0, 1) := by decide +kernel
theorem dX11_travellers_2 : decode cX11_travellers 2 = .ok (.putfield 110, 3) := by decide +kernel
theorem dX11_travellers_5 : decode cX11_travellers 5 = .ok (.aload_n 0, 1) := by decide +kernel
theorem dX11_travellers_6 : decode cX11_travellers 6 = .ok (.bipush 40, 2) := by decide +kernel
theorem dX11_travellers_8 : decode cX11_travellers 8 = .ok (.invokevirtual 177, 3) := by decide +kernel
theorem dX11_travellers_11 : decode cX11_travellers 11 = .ok (.aload_n 0, 1) := by decide +kernel
theorem dX11_travellers_12 : decode cX11_travellers 12 = .ok (.getfield 132, 3) := by decide +kernel
theorem dX11_travellers_15 : decode cX11_travellers 15 = .ok (.ifCond .ne 5, 3) := by decide +kernel
theorem dX11_travellers_18 : decode cX11_travellers 18 = .ok (.iconst 0, 1) := by decide +kernel
theorem dX11_travellers_19 : decode cX11_travellers 19 = .ok (.ireturn, 1) := by decide +kernel
theorem dX11_travellers_20 : decode cX11_travellers 20 = .ok (.iconst 0, 1) := by decide +kernel
theorem dX11_travellers_21 : decode cX11_travellers 21 = .ok (.istore_n 1, 1) := by decide +kernel
theorem dX11_travellers_22 : decode cX11_travellers 22 = .ok (.iconst 1, 1) := by decide +kernel
theorem dX11_travellers_23 : decode cX11_travellers 23 = .ok (.istore_n 2, 1) := by decide +kernel
theorem dX11_travellers_24 : decode cX11_travellers 24 = .ok (.iload_n 2, 1) := by decide +kernel
theorem dX11_travellers_25 : decode cX11_travellers 25 = .ok (.ifCond .eq 83, 3) := by decide +kernel
theorem dX11_travellers_28 : decode cX11_travellers 28 = .ok (.aload_n 0, 1) := by decide +kernel
theorem dX11_travellers_29 : decode cX11_travellers 29 = .ok (.invokevirtual 148, 3) := by decide +kernel
theorem dX11_travellers_32 : decode cX11_travellers 32 = .ok (.ifCond .eq 76, 3) := by decide +kernel
theorem dX11_travellers_35 : decode cX11_travellers 35 = .ok (.aload_n 0, 1) := by decide +kernel
theorem dX11_travellers_36 : decode cX11_travellers 36 = .ok (.getfield 123, 3) := by decide +kernel
theorem dX11_travellers_39 : decode cX11_travellers 39 = .ok (.iload_n 1, 1) := by decide +kernel
theorem dX11_travellers_40 : decode cX11_travellers 40 = .ok (.iadd, 1) := by decide +kernel
theorem dX11_travellers_41 : decode cX11_travellers 41 = .ok (.iconst 4, 1) := by decide +kernel
theorem dX11_travellers_42 : decode cX11_travellers 42 = .ok (.if_icmp .ne 14, 3) := by decide +kernel
theorem dX11_travellers_45 : decode cX11_travellers 45 = .ok (.aload_n 0, 1) := by decide +kernel
theorem dX11_travellers_46 : decode cX11_travellers 46 = .ok (.aload_n 0, 1) := by decide +kernel
theorem dX11_travellers_47 : decode cX11_travellers 47 = .ok (.getfield 138, 3) := by decide +kernel
theorem dX11_travellers_50 : decode cX11_travellers 50 = .ok (.invokevirtual 160, 3) := by decide +kernel
theorem dX11_travellers_53 : decode cX11_travellers 53 = .ok (.goto 42, 3) := by decide +kernel
theorem dX11_travellers_56 : decode cX11_travellers 56 = .ok (.aload_n 0, 1) := by decide +kernel
theorem dX11_travellers_57 : decode cX11_travellers 57 = .ok (.getfield 43, 3) := by decide +kernel
theorem dX11_travellers_60 : decode cX11_travellers 60 = .ok (.iconst 2, 1) := by decide +kernel
theorem dX11_travellers_61 : decode cX11_travellers 61 = .ok (.iload_n 1, 1) := by decide +kernel
theorem dX11_travellers_62 : decode cX11_travellers 62 = .ok (.imul, 1) := by decide +kernel
theorem dX11_travellers_63 : decode cX11_travellers 63 = .ok (.aload_n 0, 1) := by decide +kernel
theorem dX11_travellers_64 : decode cX11_travellers 64 = .ok (.bipush 48, 2) := by decide +kernel
theorem dX11_travellers_66 : decode cX11_travellers 66 = .ok (.aload_n 0, 1) := by decide +kernel
theorem dX11_travellers_67 : decode cX11_travellers 67 = .ok (.getfield 13, 3) := by decide +kernel
theorem dX11_travellers_70 : decode cX11_travellers 70 = .ok (.invokevirtual 164, 3) := by decide +kernel
theorem dX11_travellers_73 : decode cX11_travellers 73 = .ok (.iastore, 1) := by decide +kernel
theorem dX11_travellers_74 : decode cX11_travellers 74 = .ok (.aload_n 0, 1) := by decide +kernel
theorem dX11_travellers_75 : decode cX11_travellers 75 = .ok (.bipush 58, 2) := by decide +kernel
theorem dX11_travellers_77 : decode cX11_travellers 77 = .ok (.invokevirtual 186, 3) := by decide +kernel
theorem dX11_travellers_80 : decode cX11_travellers 80 = .ok (.aload_n 0, 1) := by decide +kernel
theorem dX11_travellers_81 : decode cX11_travellers 81 = .ok (.getfield 43, 3) := by decide +kernel
theorem dX11_travellers_84 : decode cX11_travellers 84 = .ok (.iconst 2, 1) := by decide +kernel
theorem dX11_travellers_85 : decode cX11_travellers 85 = .ok (.iload_n 1, 1) := by decide +kernel
theorem dX11_travellers_86 : decode cX11_travellers 86 = .ok (.imul, 1) := by decide +kernel
theorem dX11_travellers_87 : decode cX11_travellers 87 = .ok (.iconst 1, 1) := by decide +kernel
theorem dX11_travellers_88 : decode cX11_travellers 88 = .ok (.iadd, 1) := by decide +kernel
theorem dX11_travellers_89 : decode cX11_travellers 89 = .ok (.aload_n 0, 1) := by decide +kernel
theorem dX11_travellers_90 : decode cX11_travellers 90 = .ok (.iconst 3, 1) := by decide +kernel
theorem dX11_travellers_91 : decode cX11_travellers 91 = .ok (.invokevirtual 190, 3) := by decide +kernel
theorem dX11_travellers_94 : decode cX11_travellers 94 = .ok (.iastore, 1) := by decide +kernel
theorem dX11_travellers_95 : decode cX11_travellers 95 = .ok (.iinc 1 1, 3) := by decide +kernel
theorem dX11_travellers_98 : decode cX11_travellers 98 = .ok (.aload_n 0, 1) := by decide +kernel
theorem dX11_travellers_99 : decode cX11_travellers 99 = .ok (.bipush 59, 2) := by decide +kernel
theorem dX11_travellers_101 : decode cX11_travellers 101 = .ok (.invokevirtual 156, 3) := by decide +kernel
theorem dX11_travellers_104 : decode cX11_travellers 104 = .ok (.istore_n 2, 1) := by decide +kernel
theorem dX11_travellers_105 : decode cX11_travellers 105 = .ok (.goto (-81), 3) := by decide +kernel
theorem dX11_travellers_108 : decode cX11_travellers 108 = .ok (.aload_n 0, 1) := by decide +kernel
theorem dX11_travellers_109 : decode cX11_travellers 109 = .ok (.invokevirtual 183, 3) := by decide +kernel
theorem dX11_travellers_112 : decode cX11_travellers 112 = .ok (.ifCond .ne 10, 3) := by decide +kernel
theorem dX11_travellers_115 : decode cX11_travellers 115 = .ok (.iconst (-1), 1) := by decide +kernel
theorem dX11_travellers_116 : decode cX11_travellers 116 = .ok (.aload_n 0, 1) := by decide +kernel
theorem dX11_travellers_117 : decode cX11_travellers 117 = .ok (.getfield 141, 3) := by decide +kernel
theorem dX11_travellers_120 : decode cX11_travellers 120 = .ok (.isub, 1) := by decide +kernel
theorem dX11_travellers_121 : decode cX11_travellers 121 = .ok (.ireturn, 1) := by decide +kernel
theorem dX11_travellers_122 : decode cX11_travellers 122 = .ok (.iconst 0, 1) := by decide +kernel
theorem dX11_travellers_123 : decode cX11_travellers 123 = .ok (.istore_n 3, 1) := by decide +kernel
theorem dX11_travellers_124 : decode cX11_travellers 124 = .ok (.iload_n 3, 1) := by decide +kernel
theorem dX11_travellers_125 : decode cX11_travellers 125 = .ok (.iload_n 1, 1) := by decide +kernel
theorem dX11_travellers_126 : decode cX11_travellers 126 = .ok (.if_icmp .ge 70, 3) := by decide +kernel
theorem dX11_travellers_129 : decode cX11_travellers 129 = .ok (.aload_n 0, 1) := by decide +kernel
theorem dX11_travellers_130 : decode cX11_travellers 130 = .ok (.getfield 9, 3) := by decide +kernel
theorem dX11_travellers_133 : decode cX11_travellers 133 = .ok (.aload_n 0, 1) := by decide +kernel
theorem dX11_travellers_134 : decode cX11_travellers 134 = .ok (.getfield 123, 3) := by decide +kernel
theorem dX11_travellers_137 : decode cX11_travellers 137 = .ok (.aload_n 0, 1) := by decide +kernel
theorem dX11_travellers_138 : decode cX11_travellers 138 = .ok (.getfield 43, 3) := by decide +kernel
theorem dX11_travellers_141 : decode cX11_travellers 141 = .ok (.iconst 2, 1) := by decide +kernel
theorem dX11_travellers_142 : decode cX11_travellers 142 = .ok (.iload_n 3, 1) := by decide +kernel
theorem dX11_travellers_143 : decode cX11_travellers 143 = .ok (.imul, 1) := by decide +kernel
theorem dX11_travellers_144 : decode cX11_travellers 144 = .ok (.iaload, 1) := by decide +kernel
theorem dX11_travellers_145 : decode cX11_travellers 145 = .ok (.iastore, 1) := by decide +kernel
theorem dX11_travellers_146 : decode cX11_travellers 146 = .ok (.aload_n 0, 1) := by decide +kernel
theorem dX11_travellers_147 : decode cX11_travellers 147 = .ok (.getfield 9, 3) := by decide +kernel
theorem dX11_travellers_150 : decode cX11_travellers 150 = .ok (.iconst 4, 1) := by decide +kernel
theorem dX11_travellers_151 : decode cX11_travellers 151 = .ok (.aload_n 0, 1) := by decide +kernel
theorem dX11_travellers_152 : decode cX11_travellers 152 = .ok (.getfield 123, 3) := by decide +kernel
theorem dX11_travellers_155 : decode cX11_travellers 155 = .ok (.iadd, 1) := by decide +kernel
theorem dX11_travellers_156 : decode cX11_travellers 156 = .ok (.aload_n 0, 1) := by decide +kernel
theorem dX11_travellers_157 : decode cX11_travellers 157 = .ok (.getfield 43, 3) := by decide +kernel
theorem dX11_travellers_160 : decode cX11_travellers 160 = .ok (.iconst 2, 1) := by decide +kernel
theorem dX11_travellers_161 : decode cX11_travellers 161 = .ok (.iload_n 3, 1) := by decide +kernel
theorem dX11_travellers_162 : decode cX11_travellers 162 = .ok (.imul, 1) := by decide +kernel
theorem dX11_travellers_163 : decode cX11_travellers 163 = .ok (.iconst 1, 1) := by decide +kernel
theorem dX11_travellers_164 : decode cX11_travellers 164 = .ok (.iadd, 1) := by decide +kernel
theorem dX11_travellers_165 : decode cX11_travellers 165 = .ok (.iaload, 1) := by decide +kernel
theorem dX11_travellers_166 : decode cX11_travellers 166 = .ok (.iastore, 1) := by decide +kernel
theorem dX11_travellers_167 : decode cX11_travellers 167 = .ok (.aload_n 0, 1) := by decide +kernel
theorem dX11_travellers_168 : decode cX11_travellers 168 = .ok (.getfield 9, 3) := by decide +kernel
theorem dX11_travellers_171 : decode cX11_travellers 171 = .ok (.bipush 8, 2) := by decide +kernel
theorem dX11_travellers_173 : decode cX11_travellers 173 = .ok (.aload_n 0, 1) := by decide +kernel
theorem dX11_travellers_174 : decode cX11_travellers 174 = .ok (.getfield 123, 3) := by decide +kernel
theorem dX11_travellers_177 : decode cX11_travellers 177 = .ok (.iadd, 1) := by decide +kernel
theorem dX11_travellers_178 : decode cX11_travellers 178 = .ok (.iconst 0, 1) := by decide +kernel
theorem dX11_travellers_179 : decode cX11_travellers 179 = .ok (.iastore, 1) := by decide +kernel
theorem dX11_travellers_180 : decode cX11_travellers 180 = .ok (.aload_n 0, 1) := by decide +kernel
theorem dX11_travellers_181 : decode cX11_travellers 181 = .ok (.dup, 1) := by decide +kernel
theorem dX11_travellers_182 : decode cX11_travellers 182 = .ok (.getfield 123, 3) := by decide +kernel
theorem dX11_travellers_185 : decode cX11_travellers 185 = .ok (.iconst 1, 1) := by decide +kernel
theorem dX11_travellers_186 : decode cX11_travellers 186 = .ok (.iadd, 1) := by decide +kernel
theorem dX11_travellers_187 : decode cX11_travellers 187 = .ok (.putfield 123, 3) := by decide +kernel
theorem dX11_travellers_190 : decode cX11_travellers 190 = .ok (.iinc 3 1, 3) := by decide +kernel
theorem dX11_travellers_193 : decode cX11_travellers 193 = .ok (.goto (-69), 3) := by decide +kernel
theorem dX11_travellers_196 : decode cX11_travellers 196 = .ok (.aload_n 0, 1) := by decide +kernel
theorem dX11_travellers_197 : decode cX11_travellers 197 = .ok (.iconst 0, 1) := by decide +kernel
theorem dX11_travellers_198 : decode cX11_travellers 198 = .ok (.putfield 171, 3) := by decide +kernel
theorem dX11_travellers_201 : decode cX11_travellers 201 = .ok (.aload_n 0, 1) := by decide +kernel
theorem dX11_travellers_202 : decode cX11_travellers 202 = .ok (.dup, 1) := by decide +kernel
theorem dX11_travellers_203 : decode cX11_travellers 203 = .ok (.getfield 174, 3) := by decide +kernel
theorem dX11_travellers_206 : decode cX11_travellers 206 = .ok (.iconst 1, 1) := by decide +kernel
theorem dX11_travellers_207 : decode cX11_travellers 207 = .ok (.iadd, 1) := by decide +kernel
theorem dX11_travellers_208 : decode cX11_travellers 208 = .ok (.putfield 174, 3) := by decide +kernel
theorem dX11_travellers_211 : decode cX11_travellers 211 = .ok (.iload_n 1, 1) := by decide +kernel
theorem dX11_travellers_212 : decode cX11_travellers 212 = .ok (.ireturn, 1) := by decide +kernel
theorem dX11_errands_0 : decode cX11_errands 0 = .ok (.aload_n 0, 1) := by decide +kernel
theorem dX11_errands_1 : decode cX11_errands 1 = .ok (.iconst 0, 1) := by decide +kernel
theorem dX11_errands_2 : decode cX11_errands 2 = .ok (.putfield 110, 3) := by decide +kernel
theorem dX11_errands_5 : decode cX11_errands 5 = .ok (.aload_n 0, 1) := by decide +kernel
theorem dX11_errands_6 : decode cX11_errands 6 = .ok (.bipush 76, 2) := by decide +kernel
theorem dX11_errands_8 : decode cX11_errands 8 = .ok (.invokevirtual 177, 3) := by decide +kernel
theorem dX11_errands_11 : decode cX11_errands 11 = .ok (.aload_n 0, 1) := by decide +kernel
theorem dX11_errands_12 : decode cX11_errands 12 = .ok (.getfield 132, 3) := by decide +kernel
theorem dX11_errands_15 : decode cX11_errands 15 = .ok (.ifCond .ne 5, 3) := by decide +kernel
theorem dX11_errands_18 : decode cX11_errands 18 = .ok (.iconst 0, 1) := by decide +kernel
theorem dX11_errands_19 : decode cX11_errands 19 = .ok (.ireturn, 1) := by decide +kernel
theorem dX11_errands_20 : decode cX11_errands 20 = .ok (.iconst 0, 1) := by decide +kernel
theorem dX11_errands_21 : decode cX11_errands 21 = .ok (.istore_n 1, 1) := by decide +kernel
theorem dX11_errands_22 : decode cX11_errands 22 = .ok (.iconst 1, 1) := by decide +kernel
theorem dX11_errands_23 : decode cX11_errands 23 = .ok (.istore_n 2, 1) := by decide +kernel
theorem dX11_errands_24 : decode cX11_errands 24 = .ok (.iload_n 2, 1) := by decide +kernel
theorem dX11_errands_25 : decode cX11_errands 25 = .ok (.ifCond .eq 122, 3) := by decide +kernel
theorem dX11_errands_28 : decode cX11_errands 28 = .ok (.aload_n 0, 1) := by decide +kernel
theorem dX11_errands_29 : decode cX11_errands 29 = .ok (.invokevirtual 148, 3) := by decide +kernel
theorem dX11_errands_32 : decode cX11_errands 32 = .ok (.ifCond .eq 115, 3) := by decide +kernel
theorem dX11_errands_35 : decode cX11_errands 35 = .ok (.aload_n 0, 1) := by decide +kernel
theorem dX11_errands_36 : decode cX11_errands 36 = .ok (.getfield 168, 3) := by decide +kernel
theorem dX11_errands_39 : decode cX11_errands 39 = .ok (.iload_n 1, 1) := by decide +kernel
theorem dX11_errands_40 : decode cX11_errands 40 = .ok (.iadd, 1) := by decide +kernel
theorem dX11_errands_41 : decode cX11_errands 41 = .ok (.bipush 8, 2) := by decide +kernel
theorem dX11_errands_43 : decode cX11_errands 43 = .ok (.if_icmp .ne 14, 3) := by decide +kernel
theorem dX11_errands_46 : decode cX11_errands 46 = .ok (.aload_n 0, 1) := by decide +kernel
theorem dX11_errands_47 : decode cX11_errands 47 = .ok (.aload_n 0, 1) := by decide +kernel
theorem dX11_errands_48 : decode cX11_errands 48 = .ok (.getfield 138, 3) := by decide +kernel
theorem dX11_errands_51 : decode cX11_errands 51 = .ok (.invokevirtual 160, 3) := by decide +kernel
theorem dX11_errands_54 : decode cX11_errands 54 = .ok (.goto 80, 3) := by decide +kernel
theorem dX11_errands_57 : decode cX11_errands 57 = .ok (.aload_n 0, 1) := by decide +kernel
theorem dX11_errands_58 : decode cX11_errands 58 = .ok (.getfield 43, 3) := by decide +kernel
theorem dX11_errands_61 : decode cX11_errands 61 = .ok (.iconst 4, 1) := by decide +kernel
theorem dX11_errands_62 : decode cX11_errands 62 = .ok (.iload_n 1, 1) := by decide +kernel
theorem dX11_errands_63 : decode cX11_errands 63 = .ok (.imul, 1) := by decide +kernel
theorem dX11_errands_64 : decode cX11_errands 64 = .ok (.aload_n 0, 1) := by decide +kernel
theorem dX11_errands_65 : decode cX11_errands 65 = .ok (.bipush 97, 2) := by decide +kernel
theorem dX11_errands_67 : decode cX11_errands 67 = .ok (.aload_n 0, 1) := by decide +kernel
theorem dX11_errands_68 : decode cX11_errands 68 = .ok (.getfield 123, 3) := by decide +kernel
theorem dX11_errands_71 : decode cX11_errands 71 = .ok (.invokevirtual 164, 3) := by decide +kernel
theorem dX11_errands_74 : decode cX11_errands 74 = .ok (.iastore, 1) := by decide +kernel
theorem dX11_errands_75 : decode cX11_errands 75 = .ok (.aload_n 0, 1) := by decide +kernel
theorem dX11_errands_76 : decode cX11_errands 76 = .ok (.getfield 43, 3) := by decide +kernel
theorem dX11_errands_79 : decode cX11_errands 79 = .ok (.iconst 4, 1) := by decide +kernel
theorem dX11_errands_80 : decode cX11_errands 80 = .ok (.iload_n 1, 1) := by decide +kernel
theorem dX11_errands_81 : decode cX11_errands 81 = .ok (.imul, 1) := by decide +kernel
theorem dX11_errands_82 : decode cX11_errands 82 = .ok (.iconst 1, 1) := by decide +kernel
theorem dX11_errands_83 : decode cX11_errands 83 = .ok (.iadd, 1) := by decide +kernel
theorem dX11_errands_84 : decode cX11_errands 84 = .ok (.aload_n 0, 1) := by decide +kernel
theorem dX11_errands_85 : decode cX11_errands 85 = .ok (.bipush 48, 2) := by decide +kernel
theorem dX11_errands_87 : decode cX11_errands 87 = .ok (.bipush 10, 2) := by decide +kernel
theorem dX11_errands_89 : decode cX11_errands 89 = .ok (.invokevirtual 164, 3) := by decide +kernel
theorem dX11_errands_92 : decode cX11_errands 92 = .ok (.iastore, 1) := by decide +kernel
theorem dX11_errands_93 : decode cX11_errands 93 = .ok (.aload_n 0, 1) := by decide +kernel
theorem dX11_errands_94 : decode cX11_errands 94 = .ok (.getfield 43, 3) := by decide +kernel
theorem dX11_errands_97 : decode cX11_errands 97 = .ok (.iconst 4, 1) := by decide +kernel
theorem dX11_errands_98 : decode cX11_errands 98 = .ok (.iload_n 1, 1) := by decide +kernel
theorem dX11_errands_99 : decode cX11_errands 99 = .ok (.imul, 1) := by decide +kernel
theorem dX11_errands_100 : decode cX11_errands 100 = .ok (.iconst 2, 1) := by decide +kernel
theorem dX11_errands_101 : decode cX11_errands 101 = .ok (.iadd, 1) := by decide +kernel
theorem dX11_errands_102 : decode cX11_errands 102 = .ok (.aload_n 0, 1) := by decide +kernel
theorem dX11_errands_103 : decode cX11_errands 103 = .ok (.bipush 48, 2) := by decide +kernel
theorem dX11_errands_105 : decode cX11_errands 105 = .ok (.aload_n 0, 1) := by decide +kernel
theorem dX11_errands_106 : decode cX11_errands 106 = .ok (.getfield 13, 3) := by decide +kernel
theorem dX11_errands_109 : decode cX11_errands 109 = .ok (.invokevirtual 164, 3) := by decide +kernel
theorem dX11_errands_112 : decode cX11_errands 112 = .ok (.iastore, 1) := by decide +kernel
theorem dX11_errands_113 : decode cX11_errands 113 = .ok (.aload_n 0, 1) := by decide +kernel
theorem dX11_errands_114 : decode cX11_errands 114 = .ok (.bipush 61, 2) := by decide +kernel
theorem dX11_errands_116 : decode cX11_errands 116 = .ok (.invokevirtual 186, 3) := by decide +kernel
theorem dX11_errands_119 : decode cX11_errands 119 = .ok (.aload_n 0, 1) := by decide +kernel
theorem dX11_errands_120 : decode cX11_errands 120 = .ok (.getfield 43, 3) := by decide +kernel
theorem dX11_errands_123 : decode cX11_errands 123 = .ok (.iconst 4, 1) := by decide +kernel
theorem dX11_errands_124 : decode cX11_errands 124 = .ok (.iload_n 1, 1) := by decide +kernel
theorem dX11_errands_125 : decode cX11_errands 125 = .ok (.imul, 1) := by decide +kernel
theorem dX11_errands_126 : decode cX11_errands 126 = .ok (.iconst 3, 1) := by decide +kernel
theorem dX11_errands_127 : decode cX11_errands 127 = .ok (.iadd, 1) := by decide +kernel
theorem dX11_errands_128 : decode cX11_errands 128 = .ok (.aload_n 0, 1) := by decide +kernel
theorem dX11_errands_129 : decode cX11_errands 129 = .ok (.iconst 2, 1) := by decide +kernel
theorem dX11_errands_130 : decode cX11_errands 130 = .ok (.invokevirtual 190, 3) := by decide +kernel
theorem dX11_errands_133 : decode cX11_errands 133 = .ok (.iastore, 1) := by decide +kernel
theorem dX11_errands_134 : decode cX11_errands 134 = .ok (.iinc 1 1, 3) := by decide +kernel
theorem dX11_errands_137 : decode cX11_errands 137 = .ok (.aload_n 0, 1) := by decide +kernel
theorem dX11_errands_138 : decode cX11_errands 138 = .ok (.bipush 59, 2) := by decide +kernel
theorem dX11_errands_140 : decode cX11_errands 140 = .ok (.invokevirtual 156, 3) := by decide +kernel
theorem dX11_errands_143 : decode cX11_errands 143 = .ok (.istore_n 2, 1) := by decide +kernel
theorem dX11_errands_144 : decode cX11_errands 144 = .ok (.goto (-120), 3) := by decide +kernel
theorem dX11_errands_147 : decode cX11_errands 147 = .ok (.aload_n 0, 1) := by decide +kernel
theorem dX11_errands_148 : decode cX11_errands 148 = .ok (.invokevirtual 183, 3) := by decide +kernel
theorem dX11_errands_151 : decode cX11_errands 151 = .ok (.ifCond .ne 10, 3) := by decide +kernel
theorem dX11_errands_154 : decode cX11_errands 154 = .ok (.iconst (-1), 1) := by decide +kernel
theorem dX11_errands_155 : decode cX11_errands 155 = .ok (.aload_n 0, 1) := by decide +kernel
theorem dX11_errands_156 : decode cX11_errands 156 = .ok (.getfield 141, 3) := by decide +kernel
theorem dX11_errands_159 : decode cX11_errands 159 = .ok (.isub, 1) := by decide +kernel
theorem dX11_errands_160 : decode cX11_errands 160 = .ok (.ireturn, 1) := by decide +kernel
theorem dX11_errands_161 : decode cX11_errands 161 = .ok (.iconst 0, 1) := by decide +kernel
theorem dX11_errands_162 : decode cX11_errands 162 = .ok (.istore_n 3, 1) := by decide +kernel
theorem dX11_errands_163 : decode cX11_errands 163 = .ok (.iload_n 3, 1) := by decide +kernel
theorem dX11_errands_164 : decode cX11_errands 164 = .ok (.iconst 4, 1) := by decide +kernel
theorem dX11_errands_165 : decode cX11_errands 165 = .ok (.iload_n 1, 1) := by decide +kernel
theorem dX11_errands_166 : decode cX11_errands 166 = .ok (.imul, 1) := by decide +kernel
theorem dX11_errands_167 : decode cX11_errands 167 = .ok (.if_icmp .ge 28, 3) := by decide +kernel
theorem dX11_errands_170 : decode cX11_errands 170 = .ok (.aload_n 0, 1) := by decide +kernel
theorem dX11_errands_171 : decode cX11_errands 171 = .ok (.getfield 27, 3) := by decide +kernel
theorem dX11_errands_174 : decode cX11_errands 174 = .ok (.iconst 4, 1) := by decide +kernel
theorem dX11_errands_175 : decode cX11_errands 175 = .ok (.aload_n 0, 1) := by decide +kernel
theorem dX11_errands_176 : decode cX11_errands 176 = .ok (.getfield 168, 3) := by decide +kernel
theorem dX11_errands_179 : decode cX11_errands 179 = .ok (.imul, 1) := by decide +kernel
theorem dX11_errands_180 : decode cX11_errands 180 = .ok (.iload_n 3, 1) := by decide +kernel
theorem dX11_errands_181 : decode cX11_errands 181 = .ok (.iadd, 1) := by decide +kernel
theorem dX11_errands_182 : decode cX11_errands 182 = .ok (.aload_n 0, 1) := by decide +kernel
theorem dX11_errands_183 : decode cX11_errands 183 = .ok (.getfield 43, 3) := by decide +kernel
theorem dX11_errands_186 : decode cX11_errands 186 = .ok (.iload_n 3, 1) := by decide +kernel
theorem dX11_errands_187 : decode cX11_errands 187 = .ok (.iaload, 1) := by decide +kernel
theorem dX11_errands_188 : decode cX11_errands 188 = .ok (.iastore, 1) := by decide +kernel
theorem dX11_errands_189 : decode cX11_errands 189 = .ok (.iinc 3 1, 3) := by decide +kernel
theorem dX11_errands_192 : decode cX11_errands 192 = .ok (.goto (-29), 3) := by decide +kernel
theorem dX11_errands_195 : decode cX11_errands 195 = .ok (.aload_n 0, 1) := by decide +kernel
theorem dX11_errands_196 : decode cX11_errands 196 = .ok (.dup, 1) := by decide +kernel
theorem dX11_errands_197 : decode cX11_errands 197 = .ok (.getfield 168, 3) := by decide +kernel
theorem dX11_errands_200 : decode cX11_errands 200 = .ok (.iload_n 1, 1) := by decide +kernel
theorem dX11_errands_201 : decode cX11_errands 201 = .ok (.iadd, 1) := by decide +kernel
theorem dX11_errands_202 : decode cX11_errands 202 = .ok (.putfield 168, 3) := by decide +kernel
theorem dX11_errands_205 : decode cX11_errands 205 = .ok (.aload_n 0, 1) := by decide +kernel
theorem dX11_errands_206 : decode cX11_errands 206 = .ok (.iconst 0, 1) := by decide +kernel
theorem dX11_errands_207 : decode cX11_errands 207 = .ok (.putfield 171, 3) := by decide +kernel
theorem dX11_errands_210 : decode cX11_errands 210 = .ok (.aload_n 0, 1) := by decide +kernel
theorem dX11_errands_211 : decode cX11_errands 211 = .ok (.dup, 1) := by decide +kernel
theorem dX11_errands_212 : decode cX11_errands 212 = .ok (.getfield 174, 3) := by decide +kernel
theorem dX11_errands_215 : decode cX11_errands 215 = .ok (.iconst 1, 1) := by decide +kernel
theorem dX11_errands_216 : decode cX11_errands 216 = .ok (.iadd, 1) := by decide +kernel
theorem dX11_errands_217 : decode cX11_errands 217 = .ok (.putfield 174, 3) := by decide +kernel
theorem dX11_errands_220 : decode cX11_errands 220 = .ok (.iload_n 1, 1) := by decide +kernel
theorem dX11_errands_221 : decode cX11_errands 221 = .ok (.ireturn, 1) := by decide +kernel
theorem dX11_held_0 : decode cX11_held 0 = .ok (.aload_n 0, 1) := by decide +kernel
theorem dX11_held_1 : decode cX11_held 1 = .ok (.iload_n 1, 1) := by decide +kernel
theorem dX11_held_2 : decode cX11_held 2 = .ok (.invokevirtual 194, 3) := by decide +kernel
theorem dX11_held_5 : decode cX11_held 5 = .ok (.istore_n 2, 1) := by decide +kernel
theorem dX11_held_6 : decode cX11_held 6 = .ok (.aload_n 0, 1) := by decide +kernel
theorem dX11_held_7 : decode cX11_held 7 = .ok (.bipush 60, 2) := by decide +kernel
theorem dX11_held_9 : decode cX11_held 9 = .ok (.invokevirtual 156, 3) := by decide +kernel
theorem dX11_held_12 : decode cX11_held 12 = .ok (.ifCond .eq 18, 3) := by decide +kernel
theorem dX11_held_15 : decode cX11_held 15 = .ok (.iload_n 2, 1) := by decide +kernel
theorem dX11_held_16 : decode cX11_held 16 = .ok (.aload_n 0, 1) := by decide +kernel
theorem dX11_held_17 : decode cX11_held 17 = .ok (.iload_n 1, 1) := by decide +kernel
theorem dX11_held_18 : decode cX11_held 18 = .ok (.invokevirtual 194, 3) := by decide +kernel
theorem dX11_held_21 : decode cX11_held 21 = .ok (.if_icmp .ge 7, 3) := by decide +kernel
theorem dX11_held_24 : decode cX11_held 24 = .ok (.iconst 1, 1) := by decide +kernel
theorem dX11_held_25 : decode cX11_held 25 = .ok (.goto 4, 3) := by decide +kernel
theorem dX11_held_28 : decode cX11_held 28 = .ok (.iconst 0, 1) := by decide +kernel
theorem dX11_held_29 : decode cX11_held 29 = .ok (.ireturn, 1) := by decide +kernel
theorem dX11_held_30 : decode cX11_held 30 = .ok (.aload_n 0, 1) := by decide +kernel
theorem dX11_held_31 : decode cX11_held 31 = .ok (.bipush 62, 2) := by decide +kernel
theorem dX11_held_33 : decode cX11_held 33 = .ok (.invokevirtual 156, 3) := by decide +kernel
theorem dX11_held_36 : decode cX11_held 36 = .ok (.ifCond .eq 18, 3) := by decide +kernel
theorem dX11_held_39 : decode cX11_held 39 = .ok (.iload_n 2, 1) := by decide +kernel
theorem dX11_held_40 : decode cX11_held 40 = .ok (.aload_n 0, 1) := by decide +kernel
theorem dX11_held_41 : decode cX11_held 41 = .ok (.iload_n 1, 1) := by decide +kernel
theorem dX11_held_42 : decode cX11_held 42 = .ok (.invokevirtual 194, 3) := by decide +kernel
theorem dX11_held_45 : decode cX11_held 45 = .ok (.if_icmp .le 7, 3) := by decide +kernel
theorem dX11_held_48 : decode cX11_held 48 = .ok (.iconst 1, 1) := by decide +kernel
theorem dX11_held_49 : decode cX11_held 49 = .ok (.goto 4, 3) := by decide +kernel
theorem dX11_held_52 : decode cX11_held 52 = .ok (.iconst 0, 1) := by decide +kernel
theorem dX11_held_53 : decode cX11_held 53 = .ok (.ireturn, 1) := by decide +kernel
theorem dX11_held_54 : decode cX11_held 54 = .ok (.aload_n 0, 1) := by decide +kernel
theorem dX11_held_55 : decode cX11_held 55 = .ok (.bipush 61, 2) := by decide +kernel
theorem dX11_held_57 : decode cX11_held 57 = .ok (.invokevirtual 156, 3) := by decide +kernel
theorem dX11_held_60 : decode cX11_held 60 = .ok (.ifCond .eq 18, 3) := by decide +kernel
theorem dX11_held_63 : decode cX11_held 63 = .ok (.iload_n 2, 1) := by decide +kernel
theorem dX11_held_64 : decode cX11_held 64 = .ok (.aload_n 0, 1) := by decide +kernel
theorem dX11_held_65 : decode cX11_held 65 = .ok (.iload_n 1, 1) := by decide +kernel
theorem dX11_held_66 : decode cX11_held 66 = .ok (.invokevirtual 194, 3) := by decide +kernel
theorem dX11_held_69 : decode cX11_held 69 = .ok (.if_icmp .ne 7, 3) := by decide +kernel
theorem dX11_held_72 : decode cX11_held 72 = .ok (.iconst 1, 1) := by decide +kernel
theorem dX11_held_73 : decode cX11_held 73 = .ok (.goto 4, 3) := by decide +kernel
theorem dX11_held_76 : decode cX11_held 76 = .ok (.iconst 0, 1) := by decide +kernel
theorem dX11_held_77 : decode cX11_held 77 = .ok (.ireturn, 1) := by decide +kernel
theorem dX11_held_78 : decode cX11_held 78 = .ok (.iload_n 2, 1) := by decide +kernel
theorem dX11_held_79 : decode cX11_held 79 = .ok (.ireturn, 1) := by decide +kernel
theorem dX11_sum_0 : decode cX11_sum 0 = .ok (.aload_n 0, 1) := by decide +kernel
theorem dX11_sum_1 : decode cX11_sum 1 = .ok (.iload_n 1, 1) := by decide +kernel
theorem dX11_sum_2 : decode cX11_sum 2 = .ok (.invokevirtual 197, 3) := by decide +kernel
theorem dX11_sum_5 : decode cX11_sum 5 = .ok (.istore_n 2, 1) := by decide +kernel
theorem dX11_sum_6 : decode cX11_sum 6 = .ok (.aload_n 0, 1) := by decide +kernel
theorem dX11_sum_7 : decode cX11_sum 7 = .ok (.invokevirtual 148, 3) := by decide +kernel
theorem dX11_sum_10 : decode cX11_sum 10 = .ok (.ifCond .eq 72, 3) := by decide +kernel
theorem dX11_sum_13 : decode cX11_sum 13 = .ok (.aload_n 0, 1) := by decide +kernel
theorem dX11_sum_14 : decode cX11_sum 14 = .ok (.invokevirtual 152, 3) := by decide +kernel
theorem dX11_sum_17 : decode cX11_sum 17 = .ok (.bipush 43, 2) := by decide +kernel
theorem dX11_sum_19 : decode cX11_sum 19 = .ok (.if_icmp .eq 12, 3) := by decide +kernel
theorem dX11_sum_22 : decode cX11_sum 22 = .ok (.aload_n 0, 1) := by decide +kernel
theorem dX11_sum_23 : decode cX11_sum 23 = .ok (.invokevirtual 152, 3) := by decide +kernel
theorem dX11_sum_26 : decode cX11_sum 26 = .ok (.bipush 45, 2) := by decide +kernel
theorem dX11_sum_28 : decode cX11_sum 28 = .ok (.if_icmp .ne 54, 3) := by decide +kernel
theorem dX11_sum_31 : decode cX11_sum 31 = .ok (.aload_n 0, 1) := by decide +kernel
theorem dX11_sum_32 : decode cX11_sum 32 = .ok (.invokevirtual 152, 3) := by decide +kernel
theorem dX11_sum_35 : decode cX11_sum 35 = .ok (.bipush 43, 2) := by decide +kernel
theorem dX11_sum_37 : decode cX11_sum 37 = .ok (.if_icmp .ne 7, 3) := by decide +kernel
theorem dX11_sum_40 : decode cX11_sum 40 = .ok (.iconst 1, 1) := by decide +kernel
theorem dX11_sum_41 : decode cX11_sum 41 = .ok (.goto 4, 3) := by decide +kernel
theorem dX11_sum_44 : decode cX11_sum 44 = .ok (.iconst 0, 1) := by decide +kernel
theorem dX11_sum_45 : decode cX11_sum 45 = .ok (.istore_n 3, 1) := by decide +kernel
theorem dX11_sum_46 : decode cX11_sum 46 = .ok (.aload_n 0, 1) := by decide +kernel
theorem dX11_sum_47 : decode cX11_sum 47 = .ok (.dup, 1) := by decide +kernel
theorem dX11_sum_48 : decode cX11_sum 48 = .ok (.getfield 138, 3) := by decide +kernel
theorem dX11_sum_51 : decode cX11_sum 51 = .ok (.iconst 1, 1) := by decide +kernel
theorem dX11_sum_52 : decode cX11_sum 52 = .ok (.iadd, 1) := by decide +kernel
theorem dX11_sum_53 : decode cX11_sum 53 = .ok (.putfield 138, 3) := by decide +kernel
theorem dX11_sum_56 : decode cX11_sum 56 = .ok (.aload_n 0, 1) := by decide +kernel
theorem dX11_sum_57 : decode cX11_sum 57 = .ok (.iload_n 1, 1) := by decide +kernel
theorem dX11_sum_58 : decode cX11_sum 58 = .ok (.invokevirtual 197, 3) := by decide +kernel
theorem dX11_sum_61 : decode cX11_sum 61 = .ok (.istore 4, 2) := by decide +kernel
theorem dX11_sum_63 : decode cX11_sum 63 = .ok (.iload_n 3, 1) := by decide +kernel
theorem dX11_sum_64 : decode cX11_sum 64 = .ok (.ifCond .eq 10, 3) := by decide +kernel
theorem dX11_sum_67 : decode cX11_sum 67 = .ok (.iload_n 2, 1) := by decide +kernel
theorem dX11_sum_68 : decode cX11_sum 68 = .ok (.iload 4, 2) := by decide +kernel
theorem dX11_sum_70 : decode cX11_sum 70 = .ok (.iadd, 1) := by decide +kernel
theorem dX11_sum_71 : decode cX11_sum 71 = .ok (.goto 7, 3) := by decide +kernel
theorem dX11_sum_74 : decode cX11_sum 74 = .ok (.iload_n 2, 1) := by decide +kernel
theorem dX11_sum_75 : decode cX11_sum 75 = .ok (.iload 4, 2) := by decide +kernel
theorem dX11_sum_77 : decode cX11_sum 77 = .ok (.isub, 1) := by decide +kernel
theorem dX11_sum_78 : decode cX11_sum 78 = .ok (.istore_n 2, 1) := by decide +kernel
theorem dX11_sum_79 : decode cX11_sum 79 = .ok (.goto (-73), 3) := by decide +kernel
theorem dX11_sum_82 : decode cX11_sum 82 = .ok (.iload_n 2, 1) := by decide +kernel
theorem dX11_sum_83 : decode cX11_sum 83 = .ok (.ireturn, 1) := by decide +kernel
theorem dX11_product_0 : decode cX11_product 0 = .ok (.aload_n 0, 1) := by decide +kernel
theorem dX11_product_1 : decode cX11_product 1 = .ok (.iload_n 1, 1) := by decide +kernel
theorem dX11_product_2 : decode cX11_product 2 = .ok (.invokevirtual 200, 3) := by decide +kernel
theorem dX11_product_5 : decode cX11_product 5 = .ok (.istore_n 2, 1) := by decide +kernel
theorem dX11_product_6 : decode cX11_product 6 = .ok (.aload_n 0, 1) := by decide +kernel
theorem dX11_product_7 : decode cX11_product 7 = .ok (.invokevirtual 148, 3) := by decide +kernel
theorem dX11_product_10 : decode cX11_product 10 = .ok (.ifCond .eq 81, 3) := by decide +kernel
theorem dX11_product_13 : decode cX11_product 13 = .ok (.aload_n 0, 1) := by decide +kernel
theorem dX11_product_14 : decode cX11_product 14 = .ok (.invokevirtual 152, 3) := by decide +kernel
theorem dX11_product_17 : decode cX11_product 17 = .ok (.bipush 42, 2) := by decide +kernel
theorem dX11_product_19 : decode cX11_product 19 = .ok (.if_icmp .eq 12, 3) := by decide +kernel
theorem dX11_product_22 : decode cX11_product 22 = .ok (.aload_n 0, 1) := by decide +kernel
theorem dX11_product_23 : decode cX11_product 23 = .ok (.invokevirtual 152, 3) := by decide +kernel
theorem dX11_product_26 : decode cX11_product 26 = .ok (.bipush 47, 2) := by decide +kernel
theorem dX11_product_28 : decode cX11_product 28 = .ok (.if_icmp .ne 63, 3) := by decide +kernel
theorem dX11_product_31 : decode cX11_product 31 = .ok (.aload_n 0, 1) := by decide +kernel
theorem dX11_product_32 : decode cX11_product 32 = .ok (.invokevirtual 152, 3) := by decide +kernel
theorem dX11_product_35 : decode cX11_product 35 = .ok (.bipush 42, 2) := by decide +kernel
theorem dX11_product_37 : decode cX11_product 37 = .ok (.if_icmp .ne 7, 3) := by decide +kernel
theorem dX11_product_40 : decode cX11_product 40 = .ok (.iconst 1, 1) := by decide +kernel
theorem dX11_product_41 : decode cX11_product 41 = .ok (.goto 4, 3) := by decide +kernel
theorem dX11_product_44 : decode cX11_product 44 = .ok (.iconst 0, 1) := by decide +kernel
theorem dX11_product_45 : decode cX11_product 45 = .ok (.istore_n 3, 1) := by decide +kernel
theorem dX11_product_46 : decode cX11_product 46 = .ok (.aload_n 0, 1) := by decide +kernel
theorem dX11_product_47 : decode cX11_product 47 = .ok (.dup, 1) := by decide +kernel
theorem dX11_product_48 : decode cX11_product 48 = .ok (.getfield 138, 3) := by decide +kernel
theorem dX11_product_51 : decode cX11_product 51 = .ok (.iconst 1, 1) := by decide +kernel
theorem dX11_product_52 : decode cX11_product 52 = .ok (.iadd, 1) := by decide +kernel
theorem dX11_product_53 : decode cX11_product 53 = .ok (.putfield 138, 3) := by decide +kernel
theorem dX11_product_56 : decode cX11_product 56 = .ok (.aload_n 0, 1) := by decide +kernel
theorem dX11_product_57 : decode cX11_product 57 = .ok (.iload_n 1, 1) := by decide +kernel
theorem dX11_product_58 : decode cX11_product 58 = .ok (.invokevirtual 200, 3) := by decide +kernel
theorem dX11_product_61 : decode cX11_product 61 = .ok (.istore 4, 2) := by decide +kernel
theorem dX11_product_63 : decode cX11_product 63 = .ok (.iload_n 3, 1) := by decide +kernel
theorem dX11_product_64 : decode cX11_product 64 = .ok (.ifCond .eq 10, 3) := by decide +kernel
theorem dX11_product_67 : decode cX11_product 67 = .ok (.iload_n 2, 1) := by decide +kernel
theorem dX11_product_68 : decode cX11_product 68 = .ok (.iload 4, 2) := by decide +kernel
theorem dX11_product_70 : decode cX11_product 70 = .ok (.imul, 1) := by decide +kernel
theorem dX11_product_71 : decode cX11_product 71 = .ok (.goto 16, 3) := by decide +kernel
theorem dX11_product_74 : decode cX11_product 74 = .ok (.iload 4, 2) := by decide +kernel
theorem dX11_product_76 : decode cX11_product 76 = .ok (.ifCond .ne 7, 3) := by decide +kernel
theorem dX11_product_79 : decode cX11_product 79 = .ok (.iconst 0, 1) := by decide +kernel
theorem dX11_product_80 : decode cX11_product 80 = .ok (.goto 7, 3) := by decide +kernel
theorem dX11_product_83 : decode cX11_product 83 = .ok (.iload_n 2, 1) := by decide +kernel
theorem dX11_product_84 : decode cX11_product 84 = .ok (.iload 4, 2) := by decide +kernel
theorem dX11_product_86 : decode cX11_product 86 = .ok (.idiv, 1) := by decide +kernel
theorem dX11_product_87 : decode cX11_product 87 = .ok (.istore_n 2, 1) := by decide +kernel
theorem dX11_product_88 : decode cX11_product 88 = .ok (.goto (-82), 3) := by decide +kernel
theorem dX11_product_91 : decode cX11_product 91 = .ok (.iload_n 2, 1) := by decide +kernel
theorem dX11_product_92 : decode cX11_product 92 = .ok (.ireturn, 1) := by decide +kernel
theorem dX11_letterOf_0 : decode cX11_letterOf 0 = .ok (.iload_n 0, 1) := by decide +kernel
theorem dX11_letterOf_1 : decode cX11_letterOf 1 = .ok (.bipush 118, 2) := by decide +kernel
theorem dX11_letterOf_3 : decode cX11_letterOf 3 = .ok (.if_icmp .ne 7, 3) := by decide +kernel
theorem dX11_letterOf_6 : decode cX11_letterOf 6 = .ok (.iconst 0, 1) := by decide +kernel
theorem dX11_letterOf_7 : decode cX11_letterOf 7 = .ok (.goto 65, 3) := by decide +kernel
theorem dX11_letterOf_10 : decode cX11_letterOf 10 = .ok (.iload_n 0, 1) := by decide +kernel
theorem dX11_letterOf_11 : decode cX11_letterOf 11 = .ok (.bipush 115, 2) := by decide +kernel
theorem dX11_letterOf_13 : decode cX11_letterOf 13 = .ok (.if_icmp .ne 7, 3) := by decide +kernel
theorem dX11_letterOf_16 : decode cX11_letterOf 16 = .ok (.iconst 1, 1) := by decide +kernel
theorem dX11_letterOf_17 : decode cX11_letterOf 17 = .ok (.goto 55, 3) := by decide +kernel
theorem dX11_letterOf_20 : decode cX11_letterOf 20 = .ok (.iload_n 0, 1) := by decide +kernel
theorem dX11_letterOf_21 : decode cX11_letterOf 21 = .ok (.bipush 104, 2) := by decide +kernel
theorem dX11_letterOf_23 : decode cX11_letterOf 23 = .ok (.if_icmp .ne 7, 3) := by decide +kernel
theorem dX11_letterOf_26 : decode cX11_letterOf 26 = .ok (.iconst 2, 1) := by decide +kernel
theorem dX11_letterOf_27 : decode cX11_letterOf 27 = .ok (.goto 45, 3) := by decide +kernel
theorem dX11_letterOf_30 : decode cX11_letterOf 30 = .ok (.iload_n 0, 1) := by decide +kernel
theorem dX11_letterOf_31 : decode cX11_letterOf 31 = .ok (.bipush 108, 2) := by decide +kernel
theorem dX11_letterOf_33 : decode cX11_letterOf 33 = .ok (.if_icmp .ne 7, 3) := by decide +kernel
theorem dX11_letterOf_36 : decode cX11_letterOf 36 = .ok (.iconst 3, 1) := by decide +kernel
theorem dX11_letterOf_37 : decode cX11_letterOf 37 = .ok (.goto 35, 3) := by decide +kernel
theorem dX11_letterOf_40 : decode cX11_letterOf 40 = .ok (.iload_n 0, 1) := by decide +kernel
theorem dX11_letterOf_41 : decode cX11_letterOf 41 = .ok (.bipush 112, 2) := by decide +kernel
theorem dX11_letterOf_43 : decode cX11_letterOf 43 = .ok (.if_icmp .ne 7, 3) := by decide +kernel
theorem dX11_letterOf_46 : decode cX11_letterOf 46 = .ok (.iconst 4, 1) := by decide +kernel
theorem dX11_letterOf_47 : decode cX11_letterOf 47 = .ok (.goto 25, 3) := by decide +kernel
theorem dX11_letterOf_50 : decode cX11_letterOf 50 = .ok (.iload_n 0, 1) := by decide +kernel
theorem dX11_letterOf_51 : decode cX11_letterOf 51 = .ok (.bipush 110, 2) := by decide +kernel
theorem dX11_letterOf_53 : decode cX11_letterOf 53 = .ok (.if_icmp .ne 7, 3) := by decide +kernel
theorem dX11_letterOf_56 : decode cX11_letterOf 56 = .ok (.iconst 5, 1) := by decide +kernel
theorem dX11_letterOf_57 : decode cX11_letterOf 57 = .ok (.goto 15, 3) := by decide +kernel
theorem dX11_letterOf_60 : decode cX11_letterOf 60 = .ok (.iload_n 0, 1) := by decide +kernel
theorem dX11_letterOf_61 : decode cX11_letterOf 61 = .ok (.bipush 100, 2) := by decide +kernel
theorem dX11_letterOf_63 : decode cX11_letterOf 63 = .ok (.if_icmp .ne 8, 3) := by decide +kernel
theorem dX11_letterOf_66 : decode cX11_letterOf 66 = .ok (.bipush 6, 2) := by decide +kernel
theorem dX11_letterOf_68 : decode cX11_letterOf 68 = .ok (.goto 4, 3) := by decide +kernel
theorem dX11_letterOf_71 : decode cX11_letterOf 71 = .ok (.iconst (-1), 1) := by decide +kernel
theorem dX11_letterOf_72 : decode cX11_letterOf 72 = .ok (.ireturn, 1) := by decide +kernel
theorem dX11_thing_0 : decode cX11_thing 0 = .ok (.aload_n 0, 1) := by decide +kernel
theorem dX11_thing_1 : decode cX11_thing 1 = .ok (.bipush 45, 2) := by decide +kernel
theorem dX11_thing_3 : decode cX11_thing 3 = .ok (.invokevirtual 156, 3) := by decide +kernel
theorem dX11_thing_6 : decode cX11_thing 6 = .ok (.ifCond .eq 10, 3) := by decide +kernel
theorem dX11_thing_9 : decode cX11_thing 9 = .ok (.aload_n 0, 1) := by decide +kernel
theorem dX11_thing_10 : decode cX11_thing 10 = .ok (.iload_n 1, 1) := by decide +kernel
theorem dX11_thing_11 : decode cX11_thing 11 = .ok (.invokevirtual 200, 3) := by decide +kernel
theorem dX11_thing_14 : decode cX11_thing 14 = .ok (.ineg, 1) := by decide +kernel
theorem dX11_thing_15 : decode cX11_thing 15 = .ok (.ireturn, 1) := by decide +kernel
theorem dX11_thing_16 : decode cX11_thing 16 = .ok (.aload_n 0, 1) := by decide +kernel
theorem dX11_thing_17 : decode cX11_thing 17 = .ok (.invokevirtual 148, 3) := by decide +kernel
theorem dX11_thing_20 : decode cX11_thing 20 = .ok (.ifCond .ne 5, 3) := by decide +kernel
theorem dX11_thing_23 : decode cX11_thing 23 = .ok (.iconst 0, 1) := by decide +kernel
theorem dX11_thing_24 : decode cX11_thing 24 = .ok (.ireturn, 1) := by decide +kernel
theorem dX11_thing_25 : decode cX11_thing 25 = .ok (.aload_n 0, 1) := by decide +kernel
theorem dX11_thing_26 : decode cX11_thing 26 = .ok (.invokevirtual 152, 3) := by decide +kernel
theorem dX11_thing_29 : decode cX11_thing 29 = .ok (.istore_n 2, 1) := by decide +kernel
theorem dX11_thing_30 : decode cX11_thing 30 = .ok (.iload_n 2, 1) := by decide +kernel
theorem dX11_thing_31 : decode cX11_thing 31 = .ok (.bipush 40, 2) := by decide +kernel
theorem dX11_thing_33 : decode cX11_thing 33 = .ok (.if_icmp .ne 34, 3) := by decide +kernel
theorem dX11_thing_36 : decode cX11_thing 36 = .ok (.iload_n 1, 1) := by decide +kernel
theorem dX11_thing_37 : decode cX11_thing 37 = .ok (.iconst 4, 1) := by decide +kernel
theorem dX11_thing_38 : decode cX11_thing 38 = .ok (.if_icmp .ge 29, 3) := by decide +kernel
theorem dX11_thing_41 : decode cX11_thing 41 = .ok (.aload_n 0, 1) := by decide +kernel
theorem dX11_thing_42 : decode cX11_thing 42 = .ok (.dup, 1) := by decide +kernel
theorem dX11_thing_43 : decode cX11_thing 43 = .ok (.getfield 138, 3) := by decide +kernel
theorem dX11_thing_46 : decode cX11_thing 46 = .ok (.iconst 1, 1) := by decide +kernel
theorem dX11_thing_47 : decode cX11_thing 47 = .ok (.iadd, 1) := by decide +kernel
theorem dX11_thing_48 : decode cX11_thing 48 = .ok (.putfield 138, 3) := by decide +kernel
theorem dX11_thing_51 : decode cX11_thing 51 = .ok (.aload_n 0, 1) := by decide +kernel
theorem dX11_thing_52 : decode cX11_thing 52 = .ok (.iload_n 1, 1) := by decide +kernel
theorem dX11_thing_53 : decode cX11_thing 53 = .ok (.iconst 1, 1) := by decide +kernel
theorem dX11_thing_54 : decode cX11_thing 54 = .ok (.iadd, 1) := by decide +kernel
theorem dX11_thing_55 : decode cX11_thing 55 = .ok (.invokevirtual 203, 3) := by decide +kernel
theorem dX11_thing_58 : decode cX11_thing 58 = .ok (.istore_n 3, 1) := by decide +kernel
theorem dX11_thing_59 : decode cX11_thing 59 = .ok (.aload_n 0, 1) := by decide +kernel
theorem dX11_thing_60 : decode cX11_thing 60 = .ok (.bipush 41, 2) := by decide +kernel
theorem dX11_thing_62 : decode cX11_thing 62 = .ok (.invokevirtual 186, 3) := by decide +kernel
theorem dX11_thing_65 : decode cX11_thing 65 = .ok (.iload_n 3, 1) := by decide +kernel
theorem dX11_thing_66 : decode cX11_thing 66 = .ok (.ireturn, 1) := by decide +kernel
theorem dX11_thing_67 : decode cX11_thing 67 = .ok (.iload_n 2, 1) := by decide +kernel
theorem dX11_thing_68 : decode cX11_thing 68 = .ok (.bipush 48, 2) := by decide +kernel
theorem dX11_thing_70 : decode cX11_thing 70 = .ok (.bipush 57, 2) := by decide +kernel
theorem dX11_thing_72 : decode cX11_thing 72 = .ok (.invokestatic 116, 3) := by decide +kernel
theorem dX11_thing_75 : decode cX11_thing 75 = .ok (.ifCond .eq 9, 3) := by decide +kernel
theorem dX11_thing_78 : decode cX11_thing 78 = .ok (.aload_n 0, 1) := by decide +kernel
theorem dX11_thing_79 : decode cX11_thing 79 = .ok (.iconst 3, 1) := by decide +kernel
theorem dX11_thing_80 : decode cX11_thing 80 = .ok (.invokevirtual 190, 3) := by decide +kernel
theorem dX11_thing_83 : decode cX11_thing 83 = .ok (.ireturn, 1) := by decide +kernel
theorem dX11_thing_84 : decode cX11_thing 84 = .ok (.iload_n 2, 1) := by decide +kernel
theorem dX11_thing_85 : decode cX11_thing 85 = .ok (.invokestatic 206, 3) := by decide +kernel
theorem dX11_thing_88 : decode cX11_thing 88 = .ok (.iconst (-1), 1) := by decide +kernel
theorem dX11_thing_89 : decode cX11_thing 89 = .ok (.if_icmp .ne 13, 3) := by decide +kernel
theorem dX11_thing_92 : decode cX11_thing 92 = .ok (.aload_n 0, 1) := by decide +kernel
theorem dX11_thing_93 : decode cX11_thing 93 = .ok (.aload_n 0, 1) := by decide +kernel
theorem dX11_thing_94 : decode cX11_thing 94 = .ok (.getfield 138, 3) := by decide +kernel
theorem dX11_thing_97 : decode cX11_thing 97 = .ok (.invokevirtual 160, 3) := by decide +kernel
theorem dX11_thing_100 : decode cX11_thing 100 = .ok (.iconst 0, 1) := by decide +kernel
theorem dX11_thing_101 : decode cX11_thing 101 = .ok (.ireturn, 1) := by decide +kernel
theorem dX11_thing_102 : decode cX11_thing 102 = .ok (.aload_n 0, 1) := by decide +kernel
theorem dX11_thing_103 : decode cX11_thing 103 = .ok (.dup, 1) := by decide +kernel
theorem dX11_thing_104 : decode cX11_thing 104 = .ok (.getfield 138, 3) := by decide +kernel
theorem dX11_thing_107 : decode cX11_thing 107 = .ok (.iconst 1, 1) := by decide +kernel
theorem dX11_thing_108 : decode cX11_thing 108 = .ok (.iadd, 1) := by decide +kernel
theorem dX11_thing_109 : decode cX11_thing 109 = .ok (.putfield 138, 3) := by decide +kernel
theorem dX11_thing_112 : decode cX11_thing 112 = .ok (.aload_n 0, 1) := by decide +kernel
theorem dX11_thing_113 : decode cX11_thing 113 = .ok (.getfield 209, 3) := by decide +kernel
theorem dX11_thing_116 : decode cX11_thing 116 = .ok (.ifCond .eq 15, 3) := by decide +kernel
theorem dX11_thing_119 : decode cX11_thing 119 = .ok (.aload_n 0, 1) := by decide +kernel
theorem dX11_thing_120 : decode cX11_thing 120 = .ok (.getfield 52, 3) := by decide +kernel
theorem dX11_thing_123 : decode cX11_thing 123 = .ok (.iload_n 2, 1) := by decide +kernel
theorem dX11_thing_124 : decode cX11_thing 124 = .ok (.invokestatic 206, 3) := by decide +kernel
theorem dX11_thing_127 : decode cX11_thing 127 = .ok (.iaload, 1) := by decide +kernel
theorem dX11_thing_128 : decode cX11_thing 128 = .ok (.goto 4, 3) := by decide +kernel
theorem dX11_thing_131 : decode cX11_thing 131 = .ok (.iconst 0, 1) := by decide +kernel
theorem dX11_thing_132 : decode cX11_thing 132 = .ok (.ireturn, 1) := by decide +kernel
theorem dX11_readRule_0 : decode cX11_readRule 0 = .ok (.aload_n 0, 1) := by decide +kernel
theorem dX11_readRule_1 : decode cX11_readRule 1 = .ok (.bipush 40, 2) := by decide +kernel
theorem dX11_readRule_3 : decode cX11_readRule 3 = .ok (.invokevirtual 177, 3) := by decide +kernel
theorem dX11_readRule_6 : decode cX11_readRule 6 = .ok (.aload_n 0, 1) := by decide +kernel
theorem dX11_readRule_7 : decode cX11_readRule 7 = .ok (.iconst 0, 1) := by decide +kernel
theorem dX11_readRule_8 : decode cX11_readRule 8 = .ok (.putfield 209, 3) := by decide +kernel
theorem dX11_readRule_11 : decode cX11_readRule 11 = .ok (.aload_n 0, 1) := by decide +kernel
theorem dX11_readRule_12 : decode cX11_readRule 12 = .ok (.getfield 132, 3) := by decide +kernel
theorem dX11_readRule_15 : decode cX11_readRule 15 = .ok (.ifCond .le 9, 3) := by decide +kernel
theorem dX11_readRule_18 : decode cX11_readRule 18 = .ok (.aload_n 0, 1) := by decide +kernel
theorem dX11_readRule_19 : decode cX11_readRule 19 = .ok (.iconst 0, 1) := by decide +kernel
theorem dX11_readRule_20 : decode cX11_readRule 20 = .ok (.invokevirtual 203, 3) := by decide +kernel
theorem dX11_readRule_23 : decode cX11_readRule 23 = .ok (.pop, 1) := by decide +kernel
theorem dX11_readRule_24 : decode cX11_readRule 24 = .ok (.aload_n 0, 1) := by decide +kernel
theorem dX11_readRule_25 : decode cX11_readRule 25 = .ok (.invokevirtual 183, 3) := by decide +kernel
theorem dX11_readRule_28 : decode cX11_readRule 28 = .ok (.ireturn, 1) := by decide +kernel
theorem dX11_rule_0 : decode cX11_rule 0 = .ok (.aload_n 0, 1) := by decide +kernel
theorem dX11_rule_1 : decode cX11_rule 1 = .ok (.iconst 0, 1) := by decide +kernel
theorem dX11_rule_2 : decode cX11_rule 2 = .ok (.putfield 110, 3) := by decide +kernel
theorem dX11_rule_5 : decode cX11_rule 5 = .ok (.aload_n 0, 1) := by decide +kernel
theorem dX11_rule_6 : decode cX11_rule 6 = .ok (.getfield 126, 3) := by decide +kernel
theorem dX11_rule_9 : decode cX11_rule 9 = .ok (.istore_n 1, 1) := by decide +kernel
theorem dX11_rule_10 : decode cX11_rule 10 = .ok (.aload_n 0, 1) := by decide +kernel
theorem dX11_rule_11 : decode cX11_rule 11 = .ok (.invokevirtual 213, 3) := by decide +kernel
theorem dX11_rule_14 : decode cX11_rule 14 = .ok (.ifCond .ne 10, 3) := by decide +kernel
theorem dX11_rule_17 : decode cX11_rule 17 = .ok (.iconst (-1), 1) := by decide +kernel
theorem dX11_rule_18 : decode cX11_rule 18 = .ok (.aload_n 0, 1) := by decide +kernel
theorem dX11_rule_19 : decode cX11_rule 19 = .ok (.getfield 141, 3) := by decide +kernel
theorem dX11_rule_22 : decode cX11_rule 22 = .ok (.isub, 1) := by decide +kernel
theorem dX11_rule_23 : decode cX11_rule 23 = .ok (.ireturn, 1) := by decide +kernel
theorem dX11_rule_24 : decode cX11_rule 24 = .ok (.iconst 0, 1) := by decide +kernel
theorem dX11_rule_25 : decode cX11_rule 25 = .ok (.istore_n 2, 1) := by decide +kernel
theorem dX11_rule_26 : decode cX11_rule 26 = .ok (.iload_n 2, 1) := by decide +kernel
theorem dX11_rule_27 : decode cX11_rule 27 = .ok (.iload_n 1, 1) := by decide +kernel
theorem dX11_rule_28 : decode cX11_rule 28 = .ok (.if_icmp .ge 21, 3) := by decide +kernel
theorem dX11_rule_31 : decode cX11_rule 31 = .ok (.aload_n 0, 1) := by decide +kernel
theorem dX11_rule_32 : decode cX11_rule 32 = .ok (.getfield 46, 3) := by decide +kernel
theorem dX11_rule_35 : decode cX11_rule 35 = .ok (.iload_n 2, 1) := by decide +kernel
theorem dX11_rule_36 : decode cX11_rule 36 = .ok (.aload_n 0, 1) := by decide +kernel
theorem dX11_rule_37 : decode cX11_rule 37 = .ok (.getfield 30, 3) := by decide +kernel
theorem dX11_rule_40 : decode cX11_rule 40 = .ok (.iload_n 2, 1) := by decide +kernel
theorem dX11_rule_41 : decode cX11_rule 41 = .ok (.baload, 1) := by decide +kernel
theorem dX11_rule_42 : decode cX11_rule 42 = .ok (.bastore, 1) := by decide +kernel
theorem dX11_rule_43 : decode cX11_rule 43 = .ok (.iinc 2 1, 3) := by decide +kernel
theorem dX11_rule_46 : decode cX11_rule 46 = .ok (.goto (-20), 3) := by decide +kernel
theorem dX11_rule_49 : decode cX11_rule 49 = .ok (.aload_n 0, 1) := by decide +kernel
theorem dX11_rule_50 : decode cX11_rule 50 = .ok (.iload_n 1, 1) := by decide +kernel
theorem dX11_rule_51 : decode cX11_rule 51 = .ok (.putfield 216, 3) := by decide +kernel
theorem dX11_rule_54 : decode cX11_rule 54 = .ok (.iconst 0, 1) := by decide +kernel
theorem dX11_rule_55 : decode cX11_rule 55 = .ok (.ireturn, 1) := by decide +kernel
theorem dX11_vowelOf_0 : decode cX11_vowelOf 0 = .ok (.iload_n 0, 1) := by decide +kernel
theorem dX11_vowelOf_1 : decode cX11_vowelOf 1 = .ok (.ifCond .ne 7, 3) := by decide +kernel
theorem dX11_vowelOf_4 : decode cX11_vowelOf 4 = .ok (.iconst 0, 1) := by decide +kernel
theorem dX11_vowelOf_5 : decode cX11_vowelOf 5 = .ok (.goto 43, 3) := by decide +kernel
theorem dX11_vowelOf_8 : decode cX11_vowelOf 8 = .ok (.iload_n 0, 1) := by decide +kernel
theorem dX11_vowelOf_9 : decode cX11_vowelOf 9 = .ok (.iconst 4, 1) := by decide +kernel
theorem dX11_vowelOf_10 : decode cX11_vowelOf 10 = .ok (.if_icmp .ne 7, 3) := by decide +kernel
theorem dX11_vowelOf_13 : decode cX11_vowelOf 13 = .ok (.iconst 1, 1) := by decide +kernel
theorem dX11_vowelOf_14 : decode cX11_vowelOf 14 = .ok (.goto 34, 3) := by decide +kernel
theorem dX11_vowelOf_17 : decode cX11_vowelOf 17 = .ok (.iload_n 0, 1) := by decide +kernel
theorem dX11_vowelOf_18 : decode cX11_vowelOf 18 = .ok (.bipush 8, 2) := by decide +kernel
theorem dX11_vowelOf_20 : decode cX11_vowelOf 20 = .ok (.if_icmp .ne 7, 3) := by decide +kernel
theorem dX11_vowelOf_23 : decode cX11_vowelOf 23 = .ok (.iconst 2, 1) := by decide +kernel
theorem dX11_vowelOf_24 : decode cX11_vowelOf 24 = .ok (.goto 24, 3) := by decide +kernel
theorem dX11_vowelOf_27 : decode cX11_vowelOf 27 = .ok (.iload_n 0, 1) := by decide +kernel
theorem dX11_vowelOf_28 : decode cX11_vowelOf 28 = .ok (.bipush 14, 2) := by decide +kernel
theorem dX11_vowelOf_30 : decode cX11_vowelOf 30 = .ok (.if_icmp .ne 7, 3) := by decide +kernel
theorem dX11_vowelOf_33 : decode cX11_vowelOf 33 = .ok (.iconst 3, 1) := by decide +kernel
theorem dX11_vowelOf_34 : decode cX11_vowelOf 34 = .ok (.goto 14, 3) := by decide +kernel
theorem dX11_vowelOf_37 : decode cX11_vowelOf 37 = .ok (.iload_n 0, 1) := by decide +kernel
theorem dX11_vowelOf_38 : decode cX11_vowelOf 38 = .ok (.bipush 20, 2) := by decide +kernel
theorem dX11_vowelOf_40 : decode cX11_vowelOf 40 = .ok (.if_icmp .ne 7, 3) := by decide +kernel
theorem dX11_vowelOf_43 : decode cX11_vowelOf 43 = .ok (.iconst 4, 1) := by decide +kernel
theorem dX11_vowelOf_44 : decode cX11_vowelOf 44 = .ok (.goto 4, 3) := by decide +kernel
theorem dX11_vowelOf_47 : decode cX11_vowelOf 47 = .ok (.iconst (-1), 1) := by decide +kernel
theorem dX11_vowelOf_48 : decode cX11_vowelOf 48 = .ok (.ireturn, 1) := by decide +kernel
theorem dX11_letter_0 : decode cX11_letter 0 = .ok (.aload_n 0, 1) := by decide +kernel
theorem dX11_letter_1 : decode cX11_letter 1 = .ok (.getfield 17, 3) := by decide +kernel
theorem dX11_letter_4 : decode cX11_letter 4 = .ok (.bipush 6, 2) := by decide +kernel
theorem dX11_letter_6 : decode cX11_letter 6 = .ok (.iload_n 1, 1) := by decide +kernel
theorem dX11_letter_7 : decode cX11_letter 7 = .ok (.imul, 1) := by decide +kernel
theorem dX11_letter_8 : decode cX11_letter 8 = .ok (.iload_n 2, 1) := by decide +kernel
theorem dX11_letter_9 : decode cX11_letter 9 = .ok (.iadd, 1) := by decide +kernel
theorem dX11_letter_10 : decode cX11_letter 10 = .ok (.baload, 1) := by decide +kernel
theorem dX11_letter_11 : decode cX11_letter 11 = .ok (.ireturn, 1) := by decide +kernel
theorem dX11_tollOf_0 : decode cX11_tollOf 0 = .ok (.iconst 0, 1) := by decide +kernel
theorem dX11_tollOf_1 : decode cX11_tollOf 1 = .ok (.istore 4, 2) := by decide +kernel
theorem dX11_tollOf_3 : decode cX11_tollOf 3 = .ok (.iconst 0, 1) := by decide +kernel
theorem dX11_tollOf_4 : decode cX11_tollOf 4 = .ok (.istore 5, 2) := by decide +kernel
theorem dX11_tollOf_6 : decode cX11_tollOf 6 = .ok (.iconst 0, 1) := by decide +kernel
theorem dX11_tollOf_7 : decode cX11_tollOf 7 = .ok (.istore 6, 2) := by decide +kernel
theorem dX11_tollOf_9 : decode cX11_tollOf 9 = .ok (.iload 6, 2) := by decide +kernel
theorem dX11_tollOf_11 : decode cX11_tollOf 11 = .ok (.iconst 5, 1) := by decide +kernel
theorem dX11_tollOf_12 : decode cX11_tollOf 12 = .ok (.if_icmp .ge 17, 3) := by decide +kernel
theorem dX11_tollOf_15 : decode cX11_tollOf 15 = .ok (.aload_n 0, 1) := by decide +kernel
theorem dX11_tollOf_16 : decode cX11_tollOf 16 = .ok (.getfield 55, 3) := by decide +kernel
theorem dX11_tollOf_19 : decode cX11_tollOf 19 = .ok (.iload 6, 2) := by decide +kernel
theorem dX11_tollOf_21 : decode cX11_tollOf 21 = .ok (.iconst 0, 1) := by decide +kernel
theorem dX11_tollOf_22 : decode cX11_tollOf 22 = .ok (.iastore, 1) := by decide +kernel
theorem dX11_tollOf_23 : decode cX11_tollOf 23 = .ok (.iinc 6 1, 3) := by decide +kernel
theorem dX11_tollOf_26 : decode cX11_tollOf 26 = .ok (.goto (-17), 3) := by decide +kernel
theorem dX11_tollOf_29 : decode cX11_tollOf 29 = .ok (.iconst 0, 1) := by decide +kernel
theorem dX11_tollOf_30 : decode cX11_tollOf 30 = .ok (.istore 6, 2) := by decide +kernel
theorem dX11_tollOf_32 : decode cX11_tollOf 32 = .ok (.iload 6, 2) := by decide +kernel
theorem dX11_tollOf_34 : decode cX11_tollOf 34 = .ok (.aload_n 0, 1) := by decide +kernel
theorem dX11_tollOf_35 : decode cX11_tollOf 35 = .ok (.getfield 21, 3) := by decide +kernel
theorem dX11_tollOf_38 : decode cX11_tollOf 38 = .ok (.iload_n 1, 1) := by decide +kernel
theorem dX11_tollOf_39 : decode cX11_tollOf 39 = .ok (.iaload, 1) := by decide +kernel
theorem dX11_tollOf_40 : decode cX11_tollOf 40 = .ok (.if_icmp .ge 198, 3) := by decide +kernel
theorem dX11_tollOf_43 : decode cX11_tollOf 43 = .ok (.aload_n 0, 1) := by decide +kernel
theorem dX11_tollOf_44 : decode cX11_tollOf 44 = .ok (.iload_n 1, 1) := by decide +kernel
theorem dX11_tollOf_45 : decode cX11_tollOf 45 = .ok (.iload 6, 2) := by decide +kernel
theorem dX11_tollOf_47 : decode cX11_tollOf 47 = .ok (.invokevirtual 219, 3) := by decide +kernel
theorem dX11_tollOf_50 : decode cX11_tollOf 50 = .ok (.invokestatic 223, 3) := by decide +kernel
theorem dX11_tollOf_53 : decode cX11_tollOf 53 = .ok (.istore 7, 2) := by decide +kernel
theorem dX11_tollOf_55 : decode cX11_tollOf 55 = .ok (.iload 7, 2) := by decide +kernel
theorem dX11_tollOf_57 : decode cX11_tollOf 57 = .ok (.iconst (-1), 1) := by decide +kernel
theorem dX11_tollOf_58 : decode cX11_tollOf 58 = .ok (.if_icmp .ne 6, 3) := by decide +kernel
theorem dX11_tollOf_61 : decode cX11_tollOf 61 = .ok (.goto 171, 3) := by decide +kernel
theorem dX11_tollOf_64 : decode cX11_tollOf 64 = .ok (.iload 7, 2) := by decide +kernel
theorem dX11_tollOf_66 : decode cX11_tollOf 66 = .ok (.iconst 1, 1) := by decide +kernel
theorem dX11_tollOf_67 : decode cX11_tollOf 67 = .ok (.iadd, 1) := by decide +kernel
theorem dX11_tollOf_68 : decode cX11_tollOf 68 = .ok (.istore 8, 2) := by decide +kernel
theorem dX11_tollOf_70 : decode cX11_tollOf 70 = .ok (.aload_n 0, 1) := by decide +kernel
theorem dX11_tollOf_71 : decode cX11_tollOf 71 = .ok (.getfield 216, 3) := by decide +kernel
theorem dX11_tollOf_74 : decode cX11_tollOf 74 = .ok (.ifCond .le 123, 3) := by decide +kernel
theorem dX11_tollOf_77 : decode cX11_tollOf 77 = .ok (.aload_n 0, 1) := by decide +kernel
theorem dX11_tollOf_78 : decode cX11_tollOf 78 = .ok (.getfield 52, 3) := by decide +kernel
theorem dX11_tollOf_81 : decode cX11_tollOf 81 = .ok (.iconst 0, 1) := by decide +kernel
theorem dX11_tollOf_82 : decode cX11_tollOf 82 = .ok (.iload 7, 2) := by decide +kernel
theorem dX11_tollOf_84 : decode cX11_tollOf 84 = .ok (.iastore, 1) := by decide +kernel
theorem dX11_tollOf_85 : decode cX11_tollOf 85 = .ok (.aload_n 0, 1) := by decide +kernel
theorem dX11_tollOf_86 : decode cX11_tollOf 86 = .ok (.getfield 52, 3) := by decide +kernel
theorem dX11_tollOf_89 : decode cX11_tollOf 89 = .ok (.iconst 1, 1) := by decide +kernel
theorem dX11_tollOf_90 : decode cX11_tollOf 90 = .ok (.iload_n 2, 1) := by decide +kernel
theorem dX11_tollOf_91 : decode cX11_tollOf 91 = .ok (.iastore, 1) := by decide +kernel
theorem dX11_tollOf_92 : decode cX11_tollOf 92 = .ok (.aload_n 0, 1) := by decide +kernel
theorem dX11_tollOf_93 : decode cX11_tollOf 93 = .ok (.getfield 52, 3) := by decide +kernel
theorem dX11_tollOf_96 : decode cX11_tollOf 96 = .ok (.iconst 2, 1) := by decide +kernel
theorem dX11_tollOf_97 : decode cX11_tollOf 97 = .ok (.iload_n 3, 1) := by decide +kernel
theorem dX11_tollOf_98 : decode cX11_tollOf 98 = .ok (.bipush 24, 2) := by decide +kernel
theorem dX11_tollOf_100 : decode cX11_tollOf 100 = .ok (.irem, 1) := by decide +kernel
theorem dX11_tollOf_101 : decode cX11_tollOf 101 = .ok (.iastore, 1) := by decide +kernel
theorem dX11_tollOf_102 : decode cX11_tollOf 102 = .ok (.aload_n 0, 1) := by decide +kernel
theorem dX11_tollOf_103 : decode cX11_tollOf 103 = .ok (.getfield 52, 3) := by decide +kernel
theorem dX11_tollOf_106 : decode cX11_tollOf 106 = .ok (.iconst 3, 1) := by decide +kernel
theorem dX11_tollOf_107 : decode cX11_tollOf 107 = .ok (.aload_n 0, 1) := by decide +kernel
theorem dX11_tollOf_108 : decode cX11_tollOf 108 = .ok (.getfield 21, 3) := by decide +kernel
theorem dX11_tollOf_111 : decode cX11_tollOf 111 = .ok (.iload_n 1, 1) := by decide +kernel
theorem dX11_tollOf_112 : decode cX11_tollOf 112 = .ok (.iaload, 1) := by decide +kernel
theorem dX11_tollOf_113 : decode cX11_tollOf 113 = .ok (.iastore, 1) := by decide +kernel
theorem dX11_tollOf_114 : decode cX11_tollOf 114 = .ok (.aload_n 0, 1) := by decide +kernel
theorem dX11_tollOf_115 : decode cX11_tollOf 115 = .ok (.getfield 52, 3) := by decide +kernel
theorem dX11_tollOf_118 : decode cX11_tollOf 118 = .ok (.iconst 4, 1) := by decide +kernel
theorem dX11_tollOf_119 : decode cX11_tollOf 119 = .ok (.iload 6, 2) := by decide +kernel
theorem dX11_tollOf_121 : decode cX11_tollOf 121 = .ok (.iastore, 1) := by decide +kernel
theorem dX11_tollOf_122 : decode cX11_tollOf 122 = .ok (.aload_n 0, 1) := by decide +kernel
theorem dX11_tollOf_123 : decode cX11_tollOf 123 = .ok (.getfield 52, 3) := by decide +kernel
theorem dX11_tollOf_126 : decode cX11_tollOf 126 = .ok (.iconst 5, 1) := by decide +kernel
theorem dX11_tollOf_127 : decode cX11_tollOf 127 = .ok (.iload 4, 2) := by decide +kernel
theorem dX11_tollOf_129 : decode cX11_tollOf 129 = .ok (.iastore, 1) := by decide +kernel
theorem dX11_tollOf_130 : decode cX11_tollOf 130 = .ok (.aload_n 0, 1) := by decide +kernel
theorem dX11_tollOf_131 : decode cX11_tollOf 131 = .ok (.getfield 52, 3) := by decide +kernel
theorem dX11_tollOf_134 : decode cX11_tollOf 134 = .ok (.bipush 6, 2) := by decide +kernel
theorem dX11_tollOf_136 : decode cX11_tollOf 136 = .ok (.iload 6, 2) := by decide +kernel
theorem dX11_tollOf_138 : decode cX11_tollOf 138 = .ok (.ifCond .le 26, 3) := by decide +kernel
theorem dX11_tollOf_141 : decode cX11_tollOf 141 = .ok (.aload_n 0, 1) := by decide +kernel
theorem dX11_tollOf_142 : decode cX11_tollOf 142 = .ok (.iload_n 1, 1) := by decide +kernel
theorem dX11_tollOf_143 : decode cX11_tollOf 143 = .ok (.iload 6, 2) := by decide +kernel
theorem dX11_tollOf_145 : decode cX11_tollOf 145 = .ok (.invokevirtual 219, 3) := by decide +kernel
theorem dX11_tollOf_148 : decode cX11_tollOf 148 = .ok (.aload_n 0, 1) := by decide +kernel
theorem dX11_tollOf_149 : decode cX11_tollOf 149 = .ok (.iload_n 1, 1) := by decide +kernel
theorem dX11_tollOf_150 : decode cX11_tollOf 150 = .ok (.iload 6, 2) := by decide +kernel
theorem dX11_tollOf_152 : decode cX11_tollOf 152 = .ok (.iconst 1, 1) := by decide +kernel
theorem dX11_tollOf_153 : decode cX11_tollOf 153 = .ok (.isub, 1) := by decide +kernel
theorem dX11_tollOf_154 : decode cX11_tollOf 154 = .ok (.invokevirtual 219, 3) := by decide +kernel
theorem dX11_tollOf_157 : decode cX11_tollOf 157 = .ok (.if_icmp .ne 7, 3) := by decide +kernel
theorem dX11_tollOf_160 : decode cX11_tollOf 160 = .ok (.iconst 1, 1) := by decide +kernel
theorem dX11_tollOf_161 : decode cX11_tollOf 161 = .ok (.goto 4, 3) := by decide +kernel
theorem dX11_tollOf_164 : decode cX11_tollOf 164 = .ok (.iconst 0, 1) := by decide +kernel
theorem dX11_tollOf_165 : decode cX11_tollOf 165 = .ok (.iastore, 1) := by decide +kernel
theorem dX11_tollOf_166 : decode cX11_tollOf 166 = .ok (.aload_n 0, 1) := by decide +kernel
theorem dX11_tollOf_167 : decode cX11_tollOf 167 = .ok (.aload_n 0, 1) := by decide +kernel
theorem dX11_tollOf_168 : decode cX11_tollOf 168 = .ok (.getfield 46, 3) := by decide +kernel
theorem dX11_tollOf_171 : decode cX11_tollOf 171 = .ok (.aload_n 0, 1) := by decide +kernel
theorem dX11_tollOf_172 : decode cX11_tollOf 172 = .ok (.getfield 216, 3) := by decide +kernel
theorem dX11_tollOf_175 : decode cX11_tollOf 175 = .ok (.bipush 40, 2) := by decide +kernel
theorem dX11_tollOf_177 : decode cX11_tollOf 177 = .ok (.invokevirtual 144, 3) := by decide +kernel
theorem dX11_tollOf_180 : decode cX11_tollOf 180 = .ok (.aload_n 0, 1) := by decide +kernel
theorem dX11_tollOf_181 : decode cX11_tollOf 181 = .ok (.iconst 1, 1) := by decide +kernel
theorem dX11_tollOf_182 : decode cX11_tollOf 182 = .ok (.putfield 209, 3) := by decide +kernel
theorem dX11_tollOf_185 : decode cX11_tollOf 185 = .ok (.aload_n 0, 1) := by decide +kernel
theorem dX11_tollOf_186 : decode cX11_tollOf 186 = .ok (.iconst 0, 1) := by decide +kernel
theorem dX11_tollOf_187 : decode cX11_tollOf 187 = .ok (.invokevirtual 203, 3) := by decide +kernel
theorem dX11_tollOf_190 : decode cX11_tollOf 190 = .ok (.istore 8, 2) := by decide +kernel
theorem dX11_tollOf_192 : decode cX11_tollOf 192 = .ok (.aload_n 0, 1) := by decide +kernel
theorem dX11_tollOf_193 : decode cX11_tollOf 193 = .ok (.iconst 0, 1) := by decide +kernel
theorem dX11_tollOf_194 : decode cX11_tollOf 194 = .ok (.putfield 209, 3) := by decide +kernel
theorem dX11_tollOf_197 : decode cX11_tollOf 197 = .ok (.iconst 0, 1) := by decide +kernel
theorem dX11_tollOf_198 : decode cX11_tollOf 198 = .ok (.bipush 99, 2) := by decide +kernel
theorem dX11_tollOf_200 : decode cX11_tollOf 200 = .ok (.iload 8, 2) := by decide +kernel
theorem dX11_tollOf_202 : decode cX11_tollOf 202 = .ok (.invokestatic 226, 3) := by decide +kernel
theorem dX11_tollOf_205 : decode cX11_tollOf 205 = .ok (.invokestatic 231, 3) := by decide +kernel
theorem dX11_tollOf_208 : decode cX11_tollOf 208 = .ok (.istore 8, 2) := by decide +kernel
theorem dX11_tollOf_210 : decode cX11_tollOf 210 = .ok (.aload_n 0, 1) := by decide +kernel
theorem dX11_tollOf_211 : decode cX11_tollOf 211 = .ok (.getfield 55, 3) := by decide +kernel
theorem dX11_tollOf_214 : decode cX11_tollOf 214 = .ok (.iload 7, 2) := by decide +kernel
theorem dX11_tollOf_216 : decode cX11_tollOf 216 = .ok (.dup2, 1) := by decide +kernel
theorem dX11_tollOf_217 : decode cX11_tollOf 217 = .ok (.iaload, 1) := by decide +kernel
theorem dX11_tollOf_218 : decode cX11_tollOf 218 = .ok (.iload 8, 2) := by decide +kernel
theorem dX11_tollOf_220 : decode cX11_tollOf 220 = .ok (.iadd, 1) := by decide +kernel
theorem dX11_tollOf_221 : decode cX11_tollOf 221 = .ok (.iastore, 1) := by decide +kernel
theorem dX11_tollOf_222 : decode cX11_tollOf 222 = .ok (.iload 5, 2) := by decide +kernel
theorem dX11_tollOf_224 : decode cX11_tollOf 224 = .ok (.iload 8, 2) := by decide +kernel
theorem dX11_tollOf_226 : decode cX11_tollOf 226 = .ok (.iadd, 1) := by decide +kernel
theorem dX11_tollOf_227 : decode cX11_tollOf 227 = .ok (.istore 5, 2) := by decide +kernel
theorem dX11_tollOf_229 : decode cX11_tollOf 229 = .ok (.iinc 4 1, 3) := by decide +kernel
theorem dX11_tollOf_232 : decode cX11_tollOf 232 = .ok (.iinc 6 1, 3) := by decide +kernel
theorem dX11_tollOf_235 : decode cX11_tollOf 235 = .ok (.goto (-203), 3) := by decide +kernel
theorem dX11_tollOf_238 : decode cX11_tollOf 238 = .ok (.iload 5, 2) := by decide +kernel
theorem dX11_tollOf_240 : decode cX11_tollOf 240 = .ok (.ireturn, 1) := by decide +kernel
theorem dX11_tollNow_0 : decode cX11_tollNow 0 = .ok (.aload_n 0, 1) := by decide +kernel
theorem dX11_tollNow_1 : decode cX11_tollNow 1 = .ok (.iload_n 1, 1) := by decide +kernel
theorem dX11_tollNow_2 : decode cX11_tollNow 2 = .ok (.iload_n 2, 1) := by decide +kernel
theorem dX11_tollNow_3 : decode cX11_tollNow 3 = .ok (.aload_n 0, 1) := by decide +kernel
theorem dX11_tollNow_4 : decode cX11_tollNow 4 = .ok (.getfield 9, 3) := by decide +kernel
theorem dX11_tollNow_7 : decode cX11_tollNow 7 = .ok (.bipush 12, 2) := by decide +kernel
theorem dX11_tollNow_9 : decode cX11_tollNow 9 = .ok (.iaload, 1) := by decide +kernel
theorem dX11_tollNow_10 : decode cX11_tollNow 10 = .ok (.invokevirtual 234, 3) := by decide +kernel
theorem dX11_tollNow_13 : decode cX11_tollNow 13 = .ok (.ireturn, 1) := by decide +kernel
theorem dX11_often_0 : decode cX11_often 0 = .ok (.iconst 0, 1) := by decide +kernel
theorem dX11_often_1 : decode cX11_often 1 = .ok (.istore_n 3, 1) := by decide +kernel
theorem dX11_often_2 : decode cX11_often 2 = .ok (.iconst 0, 1) := by decide +kernel
theorem dX11_often_3 : decode cX11_often 3 = .ok (.istore 4, 2) := by decide +kernel
theorem dX11_often_5 : decode cX11_often 5 = .ok (.iload 4, 2) := by decide +kernel
theorem dX11_often_7 : decode cX11_often 7 = .ok (.aload_n 0, 1) := by decide +kernel
theorem dX11_often_8 : decode cX11_often 8 = .ok (.getfield 21, 3) := by decide +kernel
theorem dX11_often_11 : decode cX11_often 11 = .ok (.iload_n 1, 1) := by decide +kernel
theorem dX11_often_12 : decode cX11_often 12 = .ok (.iaload, 1) := by decide +kernel
theorem dX11_often_13 : decode cX11_often 13 = .ok (.if_icmp .ge 31, 3) := by decide +kernel
theorem dX11_often_16 : decode cX11_often 16 = .ok (.iload_n 3, 1) := by decide +kernel
theorem dX11_often_17 : decode cX11_often 17 = .ok (.aload_n 0, 1) := by decide +kernel
theorem dX11_often_18 : decode cX11_often 18 = .ok (.iload_n 1, 1) := by decide +kernel
theorem dX11_often_19 : decode cX11_often 19 = .ok (.iload 4, 2) := by decide +kernel
theorem dX11_often_21 : decode cX11_often 21 = .ok (.invokevirtual 219, 3) := by decide +kernel
theorem dX11_often_24 : decode cX11_often 24 = .ok (.invokestatic 223, 3) := by decide +kernel
theorem dX11_often_27 : decode cX11_often 27 = .ok (.iload_n 2, 1) := by decide +kernel
theorem dX11_often_28 : decode cX11_often 28 = .ok (.if_icmp .ne 7, 3) := by decide +kernel
theorem dX11_often_31 : decode cX11_often 31 = .ok (.iconst 1, 1) := by decide +kernel
theorem dX11_often_32 : decode cX11_often 32 = .ok (.goto 4, 3) := by decide +kernel
theorem dX11_often_35 : decode cX11_often 35 = .ok (.iconst 0, 1) := by decide +kernel
theorem dX11_often_36 : decode cX11_often 36 = .ok (.iadd, 1) := by decide +kernel
theorem dX11_often_37 : decode cX11_often 37 = .ok (.istore_n 3, 1) := by decide +kernel
theorem dX11_often_38 : decode cX11_often 38 = .ok (.iinc 4 1, 3) := by decide +kernel
theorem dX11_often_41 : decode cX11_often 41 = .ok (.goto (-36), 3) := by decide +kernel
theorem dX11_often_44 : decode cX11_often 44 = .ok (.iload_n 3, 1) := by decide +kernel
theorem dX11_often_45 : decode cX11_often 45 = .ok (.ireturn, 1) := by decide +kernel
theorem dX11_vowelsIn_0 : decode cX11_vowelsIn 0 = .ok (.iconst 0, 1) := by decide +kernel
theorem dX11_vowelsIn_1 : decode cX11_vowelsIn 1 = .ok (.istore_n 2, 1) := by decide +kernel
theorem dX11_vowelsIn_2 : decode cX11_vowelsIn 2 = .ok (.iconst 0, 1) := by decide +kernel
theorem dX11_vowelsIn_3 : decode cX11_vowelsIn 3 = .ok (.istore_n 3, 1) := by decide +kernel
theorem dX11_vowelsIn_4 : decode cX11_vowelsIn 4 = .ok (.iload_n 3, 1) := by decide +kernel
theorem dX11_vowelsIn_5 : decode cX11_vowelsIn 5 = .ok (.iconst 5, 1) := by decide +kernel
theorem dX11_vowelsIn_6 : decode cX11_vowelsIn 6 = .ok (.if_icmp .ge 18, 3) := by decide +kernel
theorem dX11_vowelsIn_9 : decode cX11_vowelsIn 9 = .ok (.iload_n 2, 1) := by decide +kernel
theorem dX11_vowelsIn_10 : decode cX11_vowelsIn 10 = .ok (.aload_n 0, 1) := by decide +kernel
theorem dX11_vowelsIn_11 : decode cX11_vowelsIn 11 = .ok (.iload_n 1, 1) := by decide +kernel
theorem dX11_vowelsIn_12 : decode cX11_vowelsIn 12 = .ok (.iload_n 3, 1) := by decide +kernel
theorem dX11_vowelsIn_13 : decode cX11_vowelsIn 13 = .ok (.invokevirtual 238, 3) := by decide +kernel
theorem dX11_vowelsIn_16 : decode cX11_vowelsIn 16 = .ok (.iadd, 1) := by decide +kernel
theorem dX11_vowelsIn_17 : decode cX11_vowelsIn 17 = .ok (.istore_n 2, 1) := by decide +kernel
theorem dX11_vowelsIn_18 : decode cX11_vowelsIn 18 = .ok (.iinc 3 1, 3) := by decide +kernel
theorem dX11_vowelsIn_21 : decode cX11_vowelsIn 21 = .ok (.goto (-17), 3) := by decide +kernel
theorem dX11_vowelsIn_24 : decode cX11_vowelsIn 24 = .ok (.iload_n 2, 1) := by decide +kernel
theorem dX11_vowelsIn_25 : decode cX11_vowelsIn 25 = .ok (.ireturn, 1) := by decide +kernel
theorem dX11_means_0 : decode cX11_means 0 = .ok (.aload_n 0, 1) := by decide +kernel
theorem dX11_means_1 : decode cX11_means 1 = .ok (.getfield 24, 3) := by decide +kernel
theorem dX11_means_4 : decode cX11_means 4 = .ok (.iconst 2, 1) := by decide +kernel
theorem dX11_means_5 : decode cX11_means 5 = .ok (.iload_n 1, 1) := by decide +kernel
theorem dX11_means_6 : decode cX11_means 6 = .ok (.imul, 1) := by decide +kernel
theorem dX11_means_7 : decode cX11_means 7 = .ok (.iaload, 1) := by decide +kernel
theorem dX11_means_8 : decode cX11_means 8 = .ok (.iload_n 2, 1) := by decide +kernel
theorem dX11_means_9 : decode cX11_means 9 = .ok (.if_icmp .eq 17, 3) := by decide +kernel
theorem dX11_means_12 : decode cX11_means 12 = .ok (.aload_n 0, 1) := by decide +kernel
theorem dX11_means_13 : decode cX11_means 13 = .ok (.getfield 24, 3) := by decide +kernel
theorem dX11_means_16 : decode cX11_means 16 = .ok (.iconst 2, 1) := by decide +kernel
theorem dX11_means_17 : decode cX11_means 17 = .ok (.iload_n 1, 1) := by decide +kernel
theorem dX11_means_18 : decode cX11_means 18 = .ok (.imul, 1) := by decide +kernel
theorem dX11_means_19 : decode cX11_means 19 = .ok (.iconst 1, 1) := by decide +kernel
theorem dX11_means_20 : decode cX11_means 20 = .ok (.iadd, 1) := by decide +kernel
theorem dX11_means_21 : decode cX11_means 21 = .ok (.iaload, 1) := by decide +kernel
theorem dX11_means_22 : decode cX11_means 22 = .ok (.iload_n 2, 1) := by decide +kernel
theorem dX11_means_23 : decode cX11_means 23 = .ok (.if_icmp .ne 7, 3) := by decide +kernel
theorem dX11_means_26 : decode cX11_means 26 = .ok (.iconst 1, 1) := by decide +kernel
theorem dX11_means_27 : decode cX11_means 27 = .ok (.goto 4, 3) := by decide +kernel
theorem dX11_means_30 : decode cX11_means 30 = .ok (.iconst 0, 1) := by decide +kernel
theorem dX11_means_31 : decode cX11_means 31 = .ok (.ireturn, 1) := by decide +kernel
theorem dX11_word_0 : decode cX11_word 0 = .ok (.aload_n 0, 1) := by decide +kernel
theorem dX11_word_1 : decode cX11_word 1 = .ok (.iconst 0, 1) := by decide +kernel
theorem dX11_word_2 : decode cX11_word 2 = .ok (.putfield 110, 3) := by decide +kernel
theorem dX11_word_5 : decode cX11_word 5 = .ok (.aload_n 0, 1) := by decide +kernel
theorem dX11_word_6 : decode cX11_word 6 = .ok (.iload_n 1, 1) := by decide +kernel
theorem dX11_word_7 : decode cX11_word 7 = .ok (.invokevirtual 241, 3) := by decide +kernel
theorem dX11_word_10 : decode cX11_word 10 = .ok (.ifCond .eq 13, 3) := by decide +kernel
theorem dX11_word_13 : decode cX11_word 13 = .ok (.iload_n 2, 1) := by decide +kernel
theorem dX11_word_14 : decode cX11_word 14 = .ok (.iconst 0, 1) := by decide +kernel
theorem dX11_word_15 : decode cX11_word 15 = .ok (.bipush 8, 2) := by decide +kernel
theorem dX11_word_17 : decode cX11_word 17 = .ok (.invokestatic 116, 3) := by decide +kernel
theorem dX11_word_20 : decode cX11_word 20 = .ok (.ifCond .ne 8, 3) := by decide +kernel
theorem dX11_word_23 : decode cX11_word 23 = .ok (.aload_n 0, 1) := by decide +kernel
theorem dX11_word_24 : decode cX11_word 24 = .ok (.invokevirtual 245, 3) := by decide +kernel
theorem dX11_word_27 : decode cX11_word 27 = .ok (.ireturn, 1) := by decide +kernel
theorem dX11_word_28 : decode cX11_word 28 = .ok (.iload_n 2, 1) := by decide +kernel
theorem dX11_word_29 : decode cX11_word 29 = .ok (.ifCond .ne 12, 3) := by decide +kernel
theorem dX11_word_32 : decode cX11_word 32 = .ok (.aload_n 0, 1) := by decide +kernel
theorem dX11_word_33 : decode cX11_word 33 = .ok (.getfield 21, 3) := by decide +kernel
theorem dX11_word_36 : decode cX11_word 36 = .ok (.iload_n 1, 1) := by decide +kernel
theorem dX11_word_37 : decode cX11_word 37 = .ok (.iaload, 1) := by decide +kernel
theorem dX11_word_38 : decode cX11_word 38 = .ok (.goto 44, 3) := by decide +kernel
theorem dX11_word_41 : decode cX11_word 41 = .ok (.iload_n 2, 1) := by decide +kernel
theorem dX11_word_42 : decode cX11_word 42 = .ok (.iconst 1, 1) := by decide +kernel
theorem dX11_word_43 : decode cX11_word 43 = .ok (.if_icmp .ne 11, 3) := by decide +kernel
theorem dX11_word_46 : decode cX11_word 46 = .ok (.aload_n 0, 1) := by decide +kernel
theorem dX11_word_47 : decode cX11_word 47 = .ok (.iload_n 1, 1) := by decide +kernel
theorem dX11_word_48 : decode cX11_word 48 = .ok (.invokevirtual 248, 3) := by decide +kernel
theorem dX11_word_51 : decode cX11_word 51 = .ok (.goto 31, 3) := by decide +kernel
theorem dX11_word_54 : decode cX11_word 54 = .ok (.iload_n 2, 1) := by decide +kernel
theorem dX11_word_55 : decode cX11_word 55 = .ok (.iconst 4, 1) := by decide +kernel
theorem dX11_word_56 : decode cX11_word 56 = .ok (.if_icmp .ge 18, 3) := by decide +kernel
theorem dX11_word_59 : decode cX11_word 59 = .ok (.aload_n 0, 1) := by decide +kernel
theorem dX11_word_60 : decode cX11_word 60 = .ok (.getfield 24, 3) := by decide +kernel
theorem dX11_word_63 : decode cX11_word 63 = .ok (.iconst 2, 1) := by decide +kernel
theorem dX11_word_64 : decode cX11_word 64 = .ok (.iload_n 1, 1) := by decide +kernel
theorem dX11_word_65 : decode cX11_word 65 = .ok (.imul, 1) := by decide +kernel
theorem dX11_word_66 : decode cX11_word 66 = .ok (.iload_n 2, 1) := by decide +kernel
theorem dX11_word_67 : decode cX11_word 67 = .ok (.iadd, 1) := by decide +kernel
theorem dX11_word_68 : decode cX11_word 68 = .ok (.iconst 2, 1) := by decide +kernel
theorem dX11_word_69 : decode cX11_word 69 = .ok (.isub, 1) := by decide +kernel
theorem dX11_word_70 : decode cX11_word 70 = .ok (.iaload, 1) := by decide +kernel
theorem dX11_word_71 : decode cX11_word 71 = .ok (.goto 11, 3) := by decide +kernel
theorem dX11_word_74 : decode cX11_word 74 = .ok (.aload_n 0, 1) := by decide +kernel
theorem dX11_word_75 : decode cX11_word 75 = .ok (.iload_n 1, 1) := by decide +kernel
theorem dX11_word_76 : decode cX11_word 76 = .ok (.iload_n 2, 1) := by decide +kernel
theorem dX11_word_77 : decode cX11_word 77 = .ok (.iconst 4, 1) := by decide +kernel
theorem dX11_word_78 : decode cX11_word 78 = .ok (.isub, 1) := by decide +kernel
theorem dX11_word_79 : decode cX11_word 79 = .ok (.invokevirtual 238, 3) := by decide +kernel
theorem dX11_word_82 : decode cX11_word 82 = .ok (.ireturn, 1) := by decide +kernel
theorem dX11_field_0 : decode cX11_field 0 = .ok (.aload_n 0, 1) := by decide +kernel
theorem dX11_field_1 : decode cX11_field 1 = .ok (.getfield 27, 3) := by decide +kernel
theorem dX11_field_4 : decode cX11_field 4 = .ok (.iconst 4, 1) := by decide +kernel
theorem dX11_field_5 : decode cX11_field 5 = .ok (.iload_n 1, 1) := by decide +kernel
theorem dX11_field_6 : decode cX11_field 6 = .ok (.imul, 1) := by decide +kernel
theorem dX11_field_7 : decode cX11_field 7 = .ok (.iload_n 2, 1) := by decide +kernel
theorem dX11_field_8 : decode cX11_field 8 = .ok (.iadd, 1) := by decide +kernel
theorem dX11_field_9 : decode cX11_field 9 = .ok (.iaload, 1) := by decide +kernel
theorem dX11_field_10 : decode cX11_field 10 = .ok (.ireturn, 1) := by decide +kernel
theorem dX11_openOf_0 : decode cX11_openOf 0 = .ok (.iconst 0, 1) := by decide +kernel
theorem dX11_openOf_1 : decode cX11_openOf 1 = .ok (.istore_n 2, 1) := by decide +kernel
theorem dX11_openOf_2 : decode cX11_openOf 2 = .ok (.iconst 0, 1) := by decide +kernel
theorem dX11_openOf_3 : decode cX11_openOf 3 = .ok (.istore_n 3, 1) := by decide +kernel
theorem dX11_openOf_4 : decode cX11_openOf 4 = .ok (.iload_n 3, 1) := by decide +kernel
theorem dX11_openOf_5 : decode cX11_openOf 5 = .ok (.aload_n 0, 1) := by decide +kernel
theorem dX11_openOf_6 : decode cX11_openOf 6 = .ok (.getfield 168, 3) := by decide +kernel
theorem dX11_openOf_9 : decode cX11_openOf 9 = .ok (.if_icmp .ge 43, 3) := by decide +kernel
theorem dX11_openOf_12 : decode cX11_openOf 12 = .ok (.iload_n 2, 1) := by decide +kernel
theorem dX11_openOf_13 : decode cX11_openOf 13 = .ok (.aload_n 0, 1) := by decide +kernel
theorem dX11_openOf_14 : decode cX11_openOf 14 = .ok (.iload_n 3, 1) := by decide +kernel
theorem dX11_openOf_15 : decode cX11_openOf 15 = .ok (.iconst 0, 1) := by decide +kernel
theorem dX11_openOf_16 : decode cX11_openOf 16 = .ok (.invokevirtual 251, 3) := by decide +kernel
theorem dX11_openOf_19 : decode cX11_openOf 19 = .ok (.iload_n 1, 1) := by decide +kernel
theorem dX11_openOf_20 : decode cX11_openOf 20 = .ok (.if_icmp .ne 23, 3) := by decide +kernel
theorem dX11_openOf_23 : decode cX11_openOf 23 = .ok (.aload_n 0, 1) := by decide +kernel
theorem dX11_openOf_24 : decode cX11_openOf 24 = .ok (.getfield 9, 3) := by decide +kernel
theorem dX11_openOf_27 : decode cX11_openOf 27 = .ok (.bipush 13, 2) := by decide +kernel
theorem dX11_openOf_29 : decode cX11_openOf 29 = .ok (.iaload, 1) := by decide +kernel
theorem dX11_openOf_30 : decode cX11_openOf 30 = .ok (.iload_n 3, 1) := by decide +kernel
theorem dX11_openOf_31 : decode cX11_openOf 31 = .ok (.invokestatic 254, 3) := by decide +kernel
theorem dX11_openOf_34 : decode cX11_openOf 34 = .ok (.ifCond .ne 9, 3) := by decide +kernel
theorem dX11_openOf_37 : decode cX11_openOf 37 = .ok (.iconst 1, 1) := by decide +kernel
theorem dX11_openOf_38 : decode cX11_openOf 38 = .ok (.iload_n 3, 1) := by decide +kernel
theorem dX11_openOf_39 : decode cX11_openOf 39 = .ok (.ishl, 1) := by decide +kernel
theorem dX11_openOf_40 : decode cX11_openOf 40 = .ok (.goto 4, 3) := by decide +kernel
theorem dX11_openOf_43 : decode cX11_openOf 43 = .ok (.iconst 0, 1) := by decide +kernel
theorem dX11_openOf_44 : decode cX11_openOf 44 = .ok (.ior, 1) := by decide +kernel
theorem dX11_openOf_45 : decode cX11_openOf 45 = .ok (.istore_n 2, 1) := by decide +kernel
theorem dX11_openOf_46 : decode cX11_openOf 46 = .ok (.iinc 3 1, 3) := by decide +kernel
theorem dX11_openOf_49 : decode cX11_openOf 49 = .ok (.goto (-45), 3) := by decide +kernel
theorem dX11_openOf_52 : decode cX11_openOf 52 = .ok (.iload_n 2, 1) := by decide +kernel
theorem dX11_openOf_53 : decode cX11_openOf 53 = .ok (.ireturn, 1) := by decide +kernel
theorem dX11_traveller_0 : decode cX11_traveller 0 = .ok (.aload_n 0, 1) := by decide +kernel
theorem dX11_traveller_1 : decode cX11_traveller 1 = .ok (.iconst 0, 1) := by decide +kernel
theorem dX11_traveller_2 : decode cX11_traveller 2 = .ok (.putfield 110, 3) := by decide +kernel
theorem dX11_traveller_5 : decode cX11_traveller 5 = .ok (.aload_n 0, 1) := by decide +kernel
theorem dX11_traveller_6 : decode cX11_traveller 6 = .ok (.iload_n 1, 1) := by decide +kernel
theorem dX11_traveller_7 : decode cX11_traveller 7 = .ok (.invokevirtual 258, 3) := by decide +kernel
theorem dX11_traveller_10 : decode cX11_traveller 10 = .ok (.ifCond .eq 12, 3) := by decide +kernel
theorem dX11_traveller_13 : decode cX11_traveller 13 = .ok (.iload_n 2, 1) := by decide +kernel
theorem dX11_traveller_14 : decode cX11_traveller 14 = .ok (.iconst 0, 1) := by decide +kernel
theorem dX11_traveller_15 : decode cX11_traveller 15 = .ok (.iconst 4, 1) := by decide +kernel
theorem dX11_traveller_16 : decode cX11_traveller 16 = .ok (.invokestatic 116, 3) := by decide +kernel
theorem dX11_traveller_19 : decode cX11_traveller 19 = .ok (.ifCond .ne 8, 3) := by decide +kernel
theorem dX11_traveller_22 : decode cX11_traveller 22 = .ok (.aload_n 0, 1) := by decide +kernel
theorem dX11_traveller_23 : decode cX11_traveller 23 = .ok (.invokevirtual 245, 3) := by decide +kernel
theorem dX11_traveller_26 : decode cX11_traveller 26 = .ok (.ireturn, 1) := by decide +kernel
theorem dX11_traveller_27 : decode cX11_traveller 27 = .ok (.iload_n 2, 1) := by decide +kernel
theorem dX11_traveller_28 : decode cX11_traveller 28 = .ok (.iconst 3, 1) := by decide +kernel
theorem dX11_traveller_29 : decode cX11_traveller 29 = .ok (.if_icmp .ge 14, 3) := by decide +kernel
theorem dX11_traveller_32 : decode cX11_traveller 32 = .ok (.aload_n 0, 1) := by decide +kernel
theorem dX11_traveller_33 : decode cX11_traveller 33 = .ok (.getfield 9, 3) := by decide +kernel
theorem dX11_traveller_36 : decode cX11_traveller 36 = .ok (.iconst 4, 1) := by decide +kernel
theorem dX11_traveller_37 : decode cX11_traveller 37 = .ok (.iload_n 2, 1) := by decide +kernel
theorem dX11_traveller_38 : decode cX11_traveller 38 = .ok (.imul, 1) := by decide +kernel
theorem dX11_traveller_39 : decode cX11_traveller 39 = .ok (.iload_n 1, 1) := by decide +kernel
theorem dX11_traveller_40 : decode cX11_traveller 40 = .ok (.iadd, 1) := by decide +kernel
theorem dX11_traveller_41 : decode cX11_traveller 41 = .ok (.iaload, 1) := by decide +kernel
theorem dX11_traveller_42 : decode cX11_traveller 42 = .ok (.ireturn, 1) := by decide +kernel
theorem dX11_traveller_43 : decode cX11_traveller 43 = .ok (.iload_n 2, 1) := by decide +kernel
theorem dX11_traveller_44 : decode cX11_traveller 44 = .ok (.iconst 3, 1) := by decide +kernel
theorem dX11_traveller_45 : decode cX11_traveller 45 = .ok (.if_icmp .ne 9, 3) := by decide +kernel
theorem dX11_traveller_48 : decode cX11_traveller 48 = .ok (.aload_n 0, 1) := by decide +kernel
theorem dX11_traveller_49 : decode cX11_traveller 49 = .ok (.iload_n 1, 1) := by decide +kernel
theorem dX11_traveller_50 : decode cX11_traveller 50 = .ok (.invokevirtual 261, 3) := by decide +kernel
theorem dX11_traveller_53 : decode cX11_traveller 53 = .ok (.ireturn, 1) := by decide +kernel
theorem dX11_traveller_54 : decode cX11_traveller 54 = .ok (.iconst 0, 1) := by decide +kernel
theorem dX11_traveller_55 : decode cX11_traveller 55 = .ok (.istore_n 3, 1) := by decide +kernel
theorem dX11_traveller_56 : decode cX11_traveller 56 = .ok (.iconst 0, 1) := by decide +kernel
theorem dX11_traveller_57 : decode cX11_traveller 57 = .ok (.istore 4, 2) := by decide +kernel
theorem dX11_traveller_59 : decode cX11_traveller 59 = .ok (.iload 4, 2) := by decide +kernel
theorem dX11_traveller_61 : decode cX11_traveller 61 = .ok (.aload_n 0, 1) := by decide +kernel
theorem dX11_traveller_62 : decode cX11_traveller 62 = .ok (.getfield 168, 3) := by decide +kernel
theorem dX11_traveller_65 : decode cX11_traveller 65 = .ok (.if_icmp .ge 49, 3) := by decide +kernel
theorem dX11_traveller_68 : decode cX11_traveller 68 = .ok (.iload_n 3, 1) := by decide +kernel
theorem dX11_traveller_69 : decode cX11_traveller 69 = .ok (.aload_n 0, 1) := by decide +kernel
theorem dX11_traveller_70 : decode cX11_traveller 70 = .ok (.iload 4, 2) := by decide +kernel
theorem dX11_traveller_72 : decode cX11_traveller 72 = .ok (.iconst 0, 1) := by decide +kernel
theorem dX11_traveller_73 : decode cX11_traveller 73 = .ok (.invokevirtual 251, 3) := by decide +kernel
theorem dX11_traveller_76 : decode cX11_traveller 76 = .ok (.iload_n 1, 1) := by decide +kernel
theorem dX11_traveller_77 : decode cX11_traveller 77 = .ok (.if_icmp .ne 28, 3) := by decide +kernel
theorem dX11_traveller_80 : decode cX11_traveller 80 = .ok (.aload_n 0, 1) := by decide +kernel
theorem dX11_traveller_81 : decode cX11_traveller 81 = .ok (.getfield 9, 3) := by decide +kernel
theorem dX11_traveller_84 : decode cX11_traveller 84 = .ok (.bipush 13, 2) := by decide +kernel
theorem dX11_traveller_86 : decode cX11_traveller 86 = .ok (.iaload, 1) := by decide +kernel
theorem dX11_traveller_87 : decode cX11_traveller 87 = .ok (.iload 4, 2) := by decide +kernel
theorem dX11_traveller_89 : decode cX11_traveller 89 = .ok (.invokestatic 254, 3) := by decide +kernel
theorem dX11_traveller_92 : decode cX11_traveller 92 = .ok (.ifCond .eq 13, 3) := by decide +kernel
theorem dX11_traveller_95 : decode cX11_traveller 95 = .ok (.aload_n 0, 1) := by decide +kernel
theorem dX11_traveller_96 : decode cX11_traveller 96 = .ok (.iload 4, 2) := by decide +kernel
theorem dX11_traveller_98 : decode cX11_traveller 98 = .ok (.iconst 3, 1) := by decide +kernel
theorem dX11_traveller_99 : decode cX11_traveller 99 = .ok (.invokevirtual 251, 3) := by decide +kernel
theorem dX11_traveller_102 : decode cX11_traveller 102 = .ok (.goto 4, 3) := by decide +kernel
theorem dX11_traveller_105 : decode cX11_traveller 105 = .ok (.iconst 0, 1) := by decide +kernel
theorem dX11_traveller_106 : decode cX11_traveller 106 = .ok (.iadd, 1) := by decide +kernel
theorem dX11_traveller_107 : decode cX11_traveller 107 = .ok (.istore_n 3, 1) := by decide +kernel
theorem dX11_traveller_108 : decode cX11_traveller 108 = .ok (.iinc 4 1, 3) := by decide +kernel
theorem dX11_traveller_111 : decode cX11_traveller 111 = .ok (.goto (-52), 3) := by decide +kernel
theorem dX11_traveller_114 : decode cX11_traveller 114 = .ok (.iload_n 3, 1) := by decide +kernel
theorem dX11_traveller_115 : decode cX11_traveller 115 = .ok (.ireturn, 1) := by decide +kernel
theorem dX11_errand_0 : decode cX11_errand 0 = .ok (.aload_n 0, 1) := by decide +kernel
theorem dX11_errand_1 : decode cX11_errand 1 = .ok (.iconst 0, 1) := by decide +kernel
theorem dX11_errand_2 : decode cX11_errand 2 = .ok (.putfield 110, 3) := by decide +kernel
theorem dX11_errand_5 : decode cX11_errand 5 = .ok (.iload_n 1, 1) := by decide +kernel
theorem dX11_errand_6 : decode cX11_errand 6 = .ok (.iconst 0, 1) := by decide +kernel
theorem dX11_errand_7 : decode cX11_errand 7 = .ok (.aload_n 0, 1) := by decide +kernel
theorem dX11_errand_8 : decode cX11_errand 8 = .ok (.getfield 168, 3) := by decide +kernel
theorem dX11_errand_11 : decode cX11_errand 11 = .ok (.iconst 1, 1) := by decide +kernel
theorem dX11_errand_12 : decode cX11_errand 12 = .ok (.isub, 1) := by decide +kernel
theorem dX11_errand_13 : decode cX11_errand 13 = .ok (.invokestatic 116, 3) := by decide +kernel
theorem dX11_errand_16 : decode cX11_errand 16 = .ok (.ifCond .eq 12, 3) := by decide +kernel
theorem dX11_errand_19 : decode cX11_errand 19 = .ok (.iload_n 2, 1) := by decide +kernel
theorem dX11_errand_20 : decode cX11_errand 20 = .ok (.iconst 0, 1) := by decide +kernel
theorem dX11_errand_21 : decode cX11_errand 21 = .ok (.iconst 4, 1) := by decide +kernel
theorem dX11_errand_22 : decode cX11_errand 22 = .ok (.invokestatic 116, 3) := by decide +kernel
theorem dX11_errand_25 : decode cX11_errand 25 = .ok (.ifCond .ne 8, 3) := by decide +kernel
theorem dX11_errand_28 : decode cX11_errand 28 = .ok (.aload_n 0, 1) := by decide +kernel
theorem dX11_errand_29 : decode cX11_errand 29 = .ok (.invokevirtual 245, 3) := by decide +kernel
theorem dX11_errand_32 : decode cX11_errand 32 = .ok (.ireturn, 1) := by decide +kernel
theorem dX11_errand_33 : decode cX11_errand 33 = .ok (.iload_n 2, 1) := by decide +kernel
theorem dX11_errand_34 : decode cX11_errand 34 = .ok (.iconst 4, 1) := by decide +kernel
theorem dX11_errand_35 : decode cX11_errand 35 = .ok (.if_icmp .ge 12, 3) := by decide +kernel
theorem dX11_errand_38 : decode cX11_errand 38 = .ok (.aload_n 0, 1) := by decide +kernel
theorem dX11_errand_39 : decode cX11_errand 39 = .ok (.iload_n 1, 1) := by decide +kernel
theorem dX11_errand_40 : decode cX11_errand 40 = .ok (.iload_n 2, 1) := by decide +kernel
theorem dX11_errand_41 : decode cX11_errand 41 = .ok (.invokevirtual 251, 3) := by decide +kernel
theorem dX11_errand_44 : decode cX11_errand 44 = .ok (.goto 14, 3) := by decide +kernel
theorem dX11_errand_47 : decode cX11_errand 47 = .ok (.aload_n 0, 1) := by decide +kernel
theorem dX11_errand_48 : decode cX11_errand 48 = .ok (.getfield 9, 3) := by decide +kernel
theorem dX11_errand_51 : decode cX11_errand 51 = .ok (.bipush 13, 2) := by decide +kernel
theorem dX11_errand_53 : decode cX11_errand 53 = .ok (.iaload, 1) := by decide +kernel
theorem dX11_errand_54 : decode cX11_errand 54 = .ok (.iload_n 1, 1) := by decide +kernel
theorem dX11_errand_55 : decode cX11_errand 55 = .ok (.ishr, 1) := by decide +kernel
theorem dX11_errand_56 : decode cX11_errand 56 = .ok (.iconst 1, 1) := by decide +kernel
theorem dX11_errand_57 : decode cX11_errand 57 = .ok (.iand, 1) := by decide +kernel
theorem dX11_errand_58 : decode cX11_errand 58 = .ok (.ireturn, 1) := by decide +kernel
theorem dX11_book_0 : decode cX11_book 0 = .ok (.aload_n 0, 1) := by decide +kernel
theorem dX11_book_1 : decode cX11_book 1 = .ok (.iconst 0, 1) := by decide +kernel
theorem dX11_book_2 : decode cX11_book 2 = .ok (.putfield 110, 3) := by decide +kernel
theorem dX11_book_5 : decode cX11_book 5 = .ok (.aload_n 0, 1) := by decide +kernel
theorem dX11_book_6 : decode cX11_book 6 = .ok (.iload_n 1, 1) := by decide +kernel
theorem dX11_book_7 : decode cX11_book 7 = .ok (.invokevirtual 264, 3) := by decide +kernel
theorem dX11_book_10 : decode cX11_book 10 = .ok (.ifCond .eq 28, 3) := by decide +kernel
theorem dX11_book_13 : decode cX11_book 13 = .ok (.iload_n 2, 1) := by decide +kernel
theorem dX11_book_14 : decode cX11_book 14 = .ok (.iconst 0, 1) := by decide +kernel
theorem dX11_book_15 : decode cX11_book 15 = .ok (.iconst 4, 1) := by decide +kernel
theorem dX11_book_16 : decode cX11_book 16 = .ok (.invokestatic 116, 3) := by decide +kernel
theorem dX11_book_19 : decode cX11_book 19 = .ok (.ifCond .eq 19, 3) := by decide +kernel
theorem dX11_book_22 : decode cX11_book 22 = .ok (.aload_n 0, 1) := by decide +kernel
theorem dX11_book_23 : decode cX11_book 23 = .ok (.getfield 9, 3) := by decide +kernel
theorem dX11_book_26 : decode cX11_book 26 = .ok (.bipush 14, 2) := by decide +kernel
theorem dX11_book_28 : decode cX11_book 28 = .ok (.iconst 5, 1) := by decide +kernel
theorem dX11_book_29 : decode cX11_book 29 = .ok (.iload_n 1, 1) := by decide +kernel
theorem dX11_book_30 : decode cX11_book 30 = .ok (.imul, 1) := by decide +kernel
theorem dX11_book_31 : decode cX11_book 31 = .ok (.iadd, 1) := by decide +kernel
theorem dX11_book_32 : decode cX11_book 32 = .ok (.iload_n 2, 1) := by decide +kernel
theorem dX11_book_33 : decode cX11_book 33 = .ok (.iadd, 1) := by decide +kernel
theorem dX11_book_34 : decode cX11_book 34 = .ok (.iaload, 1) := by decide +kernel
theorem dX11_book_35 : decode cX11_book 35 = .ok (.goto 7, 3) := by decide +kernel
theorem dX11_book_38 : decode cX11_book 38 = .ok (.aload_n 0, 1) := by decide +kernel
theorem dX11_book_39 : decode cX11_book 39 = .ok (.invokevirtual 245, 3) := by decide +kernel
theorem dX11_book_42 : decode cX11_book 42 = .ok (.ireturn, 1) := by decide +kernel
theorem dX11_sheet_0 : decode cX11_sheet 0 = .ok (.aload_n 0, 1) := by decide +kernel
theorem dX11_sheet_1 : decode cX11_sheet 1 = .ok (.iconst 0, 1) := by decide +kernel
theorem dX11_sheet_2 : decode cX11_sheet 2 = .ok (.putfield 110, 3) := by decide +kernel
theorem dX11_sheet_5 : decode cX11_sheet 5 = .ok (.iload_n 1, 1) := by decide +kernel
theorem dX11_sheet_6 : decode cX11_sheet 6 = .ok (.iconst 0, 1) := by decide +kernel
theorem dX11_sheet_7 : decode cX11_sheet 7 = .ok (.iconst 3, 1) := by decide +kernel
theorem dX11_sheet_8 : decode cX11_sheet 8 = .ok (.invokestatic 116, 3) := by decide +kernel
theorem dX11_sheet_11 : decode cX11_sheet 11 = .ok (.ifCond .eq 8, 3) := by decide +kernel
theorem dX11_sheet_14 : decode cX11_sheet 14 = .ok (.iload_n 2, 1) := by decide +kernel
theorem dX11_sheet_15 : decode cX11_sheet 15 = .ok (.iconst 4, 1) := by decide +kernel
theorem dX11_sheet_16 : decode cX11_sheet 16 = .ok (.if_icmp .le 5, 3) := by decide +kernel
theorem dX11_sheet_19 : decode cX11_sheet 19 = .ok (.iconst (-1), 1) := by decide +kernel
theorem dX11_sheet_20 : decode cX11_sheet 20 = .ok (.ireturn, 1) := by decide +kernel
theorem dX11_sheet_21 : decode cX11_sheet 21 = .ok (.iload_n 1, 1) := by decide +kernel
theorem dX11_sheet_22 : decode cX11_sheet 22 = .ok (.iconst 3, 1) := by decide +kernel
theorem dX11_sheet_23 : decode cX11_sheet 23 = .ok (.if_icmp .ge 10, 3) := by decide +kernel
theorem dX11_sheet_26 : decode cX11_sheet 26 = .ok (.iload_n 2, 1) := by decide +kernel
theorem dX11_sheet_27 : decode cX11_sheet 27 = .ok (.ifCond .ge 6, 3) := by decide +kernel
theorem dX11_sheet_30 : decode cX11_sheet 30 = .ok (.bipush (-2), 2) := by decide +kernel
theorem dX11_sheet_32 : decode cX11_sheet 32 = .ok (.ireturn, 1) := by decide +kernel
theorem dX11_sheet_33 : decode cX11_sheet 33 = .ok (.iconst 0, 1) := by decide +kernel
theorem dX11_sheet_34 : decode cX11_sheet 34 = .ok (.istore 5, 2) := by decide +kernel
theorem dX11_sheet_36 : decode cX11_sheet 36 = .ok (.iload_n 3, 1) := by decide +kernel
theorem dX11_sheet_37 : decode cX11_sheet 37 = .ok (.istore 6, 2) := by decide +kernel
theorem dX11_sheet_39 : decode cX11_sheet 39 = .ok (.iconst 0, 1) := by decide +kernel
theorem dX11_sheet_40 : decode cX11_sheet 40 = .ok (.istore 7, 2) := by decide +kernel
theorem dX11_sheet_42 : decode cX11_sheet 42 = .ok (.iload 7, 2) := by decide +kernel
theorem dX11_sheet_44 : decode cX11_sheet 44 = .ok (.aload_n 0, 1) := by decide +kernel
theorem dX11_sheet_45 : decode cX11_sheet 45 = .ok (.getfield 123, 3) := by decide +kernel
theorem dX11_sheet_48 : decode cX11_sheet 48 = .ok (.if_icmp .ge 91, 3) := by decide +kernel
theorem dX11_sheet_51 : decode cX11_sheet 51 = .ok (.iload_n 1, 1) := by decide +kernel
theorem dX11_sheet_52 : decode cX11_sheet 52 = .ok (.ifCond .ne 9, 3) := by decide +kernel
theorem dX11_sheet_55 : decode cX11_sheet 55 = .ok (.iload 6, 2) := by decide +kernel
theorem dX11_sheet_57 : decode cX11_sheet 57 = .ok (.i2b, 1) := by decide +kernel
theorem dX11_sheet_58 : decode cX11_sheet 58 = .ok (.goto 16, 3) := by decide +kernel
theorem dX11_sheet_61 : decode cX11_sheet 61 = .ok (.iload_n 1, 1) := by decide +kernel
theorem dX11_sheet_62 : decode cX11_sheet 62 = .ok (.iconst 1, 1) := by decide +kernel
theorem dX11_sheet_63 : decode cX11_sheet 63 = .ok (.if_icmp .ne 9, 3) := by decide +kernel
theorem dX11_sheet_66 : decode cX11_sheet 66 = .ok (.iload 6, 2) := by decide +kernel
theorem dX11_sheet_68 : decode cX11_sheet 68 = .ok (.i2s, 1) := by decide +kernel
theorem dX11_sheet_69 : decode cX11_sheet 69 = .ok (.goto 5, 3) := by decide +kernel
theorem dX11_sheet_72 : decode cX11_sheet 72 = .ok (.iload 6, 2) := by decide +kernel
theorem dX11_sheet_74 : decode cX11_sheet 74 = .ok (.istore 8, 2) := by decide +kernel
theorem dX11_sheet_76 : decode cX11_sheet 76 = .ok (.aload_n 0, 1) := by decide +kernel
theorem dX11_sheet_77 : decode cX11_sheet 77 = .ok (.getfield 9, 3) := by decide +kernel
theorem dX11_sheet_80 : decode cX11_sheet 80 = .ok (.iconst 4, 1) := by decide +kernel
theorem dX11_sheet_81 : decode cX11_sheet 81 = .ok (.iload 7, 2) := by decide +kernel
theorem dX11_sheet_83 : decode cX11_sheet 83 = .ok (.iadd, 1) := by decide +kernel
theorem dX11_sheet_84 : decode cX11_sheet 84 = .ok (.iload_n 1, 1) := by decide +kernel
theorem dX11_sheet_85 : decode cX11_sheet 85 = .ok (.iconst 3, 1) := by decide +kernel
theorem dX11_sheet_86 : decode cX11_sheet 86 = .ok (.if_icmp .eq 9, 3) := by decide +kernel
theorem dX11_sheet_89 : decode cX11_sheet 89 = .ok (.iload 7, 2) := by decide +kernel
theorem dX11_sheet_91 : decode cX11_sheet 91 = .ok (.iload_n 2, 1) := by decide +kernel
theorem dX11_sheet_92 : decode cX11_sheet 92 = .ok (.if_icmp .lt 7, 3) := by decide +kernel
theorem dX11_sheet_95 : decode cX11_sheet 95 = .ok (.iconst 0, 1) := by decide +kernel
theorem dX11_sheet_96 : decode cX11_sheet 96 = .ok (.goto 15, 3) := by decide +kernel
theorem dX11_sheet_99 : decode cX11_sheet 99 = .ok (.iconst 0, 1) := by decide +kernel
theorem dX11_sheet_100 : decode cX11_sheet 100 = .ok (.sipush 9999, 3) := by decide +kernel
theorem dX11_sheet_103 : decode cX11_sheet 103 = .ok (.iload 8, 2) := by decide +kernel
theorem dX11_sheet_105 : decode cX11_sheet 105 = .ok (.invokestatic 226, 3) := by decide +kernel
theorem dX11_sheet_108 : decode cX11_sheet 108 = .ok (.invokestatic 231, 3) := by decide +kernel
theorem dX11_sheet_111 : decode cX11_sheet 111 = .ok (.iastore, 1) := by decide +kernel
theorem dX11_sheet_112 : decode cX11_sheet 112 = .ok (.iload 5, 2) := by decide +kernel
theorem dX11_sheet_114 : decode cX11_sheet 114 = .ok (.aload_n 0, 1) := by decide +kernel
theorem dX11_sheet_115 : decode cX11_sheet 115 = .ok (.getfield 9, 3) := by decide +kernel
theorem dX11_sheet_118 : decode cX11_sheet 118 = .ok (.iconst 4, 1) := by decide +kernel
theorem dX11_sheet_119 : decode cX11_sheet 119 = .ok (.iload 7, 2) := by decide +kernel
theorem dX11_sheet_121 : decode cX11_sheet 121 = .ok (.iadd, 1) := by decide +kernel
theorem dX11_sheet_122 : decode cX11_sheet 122 = .ok (.iaload, 1) := by decide +kernel
theorem dX11_sheet_123 : decode cX11_sheet 123 = .ok (.iadd, 1) := by decide +kernel
theorem dX11_sheet_124 : decode cX11_sheet 124 = .ok (.istore 5, 2) := by decide +kernel
theorem dX11_sheet_126 : decode cX11_sheet 126 = .ok (.iload 6, 2) := by decide +kernel
theorem dX11_sheet_128 : decode cX11_sheet 128 = .ok (.iload 4, 2) := by decide +kernel
theorem dX11_sheet_130 : decode cX11_sheet 130 = .ok (.iadd, 1) := by decide +kernel
theorem dX11_sheet_131 : decode cX11_sheet 131 = .ok (.istore 6, 2) := by decide +kernel
theorem dX11_sheet_133 : decode cX11_sheet 133 = .ok (.iinc 7 1, 3) := by decide +kernel
theorem dX11_sheet_136 : decode cX11_sheet 136 = .ok (.goto (-94), 3) := by decide +kernel
theorem dX11_sheet_139 : decode cX11_sheet 139 = .ok (.iload_n 1, 1) := by decide +kernel
theorem dX11_sheet_140 : decode cX11_sheet 140 = .ok (.iconst 3, 1) := by decide +kernel
theorem dX11_sheet_141 : decode cX11_sheet 141 = .ok (.if_icmp .ne 8, 3) := by decide +kernel
theorem dX11_sheet_144 : decode cX11_sheet 144 = .ok (.bipush (-3), 2) := by decide +kernel
theorem dX11_sheet_146 : decode cX11_sheet 146 = .ok (.goto 5, 3) := by decide +kernel
theorem dX11_sheet_149 : decode cX11_sheet 149 = .ok (.iload 5, 2) := by decide +kernel
theorem dX11_sheet_151 : decode cX11_sheet 151 = .ok (.ireturn, 1) := by decide +kernel
theorem dX11_lay_0 : decode cX11_lay 0 = .ok (.iconst 0, 1) := by decide +kernel
theorem dX11_lay_1 : decode cX11_lay 1 = .ok (.istore_n 3, 1) := by decide +kernel
theorem dX11_lay_2 : decode cX11_lay 2 = .ok (.iload_n 3, 1) := by decide +kernel
theorem dX11_lay_3 : decode cX11_lay 3 = .ok (.bipush 44, 2) := by decide +kernel
theorem dX11_lay_5 : decode cX11_lay 5 = .ok (.if_icmp .ge 17, 3) := by decide +kernel
theorem dX11_lay_8 : decode cX11_lay 8 = .ok (.aload_n 1, 1) := by decide +kernel
theorem dX11_lay_9 : decode cX11_lay 9 = .ok (.iload_n 2, 1) := by decide +kernel
theorem dX11_lay_10 : decode cX11_lay 10 = .ok (.iload_n 3, 1) := by decide +kernel
theorem dX11_lay_11 : decode cX11_lay 11 = .ok (.iadd, 1) := by decide +kernel
theorem dX11_lay_12 : decode cX11_lay 12 = .ok (.aload_n 0, 1) := by decide +kernel
theorem dX11_lay_13 : decode cX11_lay 13 = .ok (.iload_n 3, 1) := by decide +kernel
theorem dX11_lay_14 : decode cX11_lay 14 = .ok (.iaload, 1) := by decide +kernel
theorem dX11_lay_15 : decode cX11_lay 15 = .ok (.iastore, 1) := by decide +kernel
theorem dX11_lay_16 : decode cX11_lay 16 = .ok (.iinc 3 1, 3) := by decide +kernel
theorem dX11_lay_19 : decode cX11_lay 19 = .ok (.goto (-17), 3) := by decide +kernel
theorem dX11_lay_22 : decode cX11_lay 22 = .ok (.return_, 1) := by decide +kernel
theorem dX11_remember_0 : decode cX11_remember 0 = .ok (.aload_n 0, 1) := by decide +kernel
theorem dX11_remember_1 : decode cX11_remember 1 = .ok (.getfield 171, 3) := by decide +kernel
theorem dX11_remember_4 : decode cX11_remember 4 = .ok (.bipush 12, 2) := by decide +kernel
theorem dX11_remember_6 : decode cX11_remember 6 = .ok (.if_icmp .ne 43, 3) := by decide +kernel
theorem dX11_remember_9 : decode cX11_remember 9 = .ok (.iconst 0, 1) := by decide +kernel
theorem dX11_remember_10 : decode cX11_remember 10 = .ok (.istore_n 2, 1) := by decide +kernel
theorem dX11_remember_11 : decode cX11_remember 11 = .ok (.iload_n 2, 1) := by decide +kernel
theorem dX11_remember_12 : decode cX11_remember 12 = .ok (.sipush 484, 3) := by decide +kernel
theorem dX11_remember_15 : decode cX11_remember 15 = .ok (.if_icmp .ge 24, 3) := by decide +kernel
theorem dX11_remember_18 : decode cX11_remember 18 = .ok (.aload_n 0, 1) := by decide +kernel
theorem dX11_remember_19 : decode cX11_remember 19 = .ok (.getfield 58, 3) := by decide +kernel
theorem dX11_remember_22 : decode cX11_remember 22 = .ok (.iload_n 2, 1) := by decide +kernel
theorem dX11_remember_23 : decode cX11_remember 23 = .ok (.aload_n 0, 1) := by decide +kernel
theorem dX11_remember_24 : decode cX11_remember 24 = .ok (.getfield 58, 3) := by decide +kernel
theorem dX11_remember_27 : decode cX11_remember 27 = .ok (.iload_n 2, 1) := by decide +kernel
theorem dX11_remember_28 : decode cX11_remember 28 = .ok (.bipush 44, 2) := by decide +kernel
theorem dX11_remember_30 : decode cX11_remember 30 = .ok (.iadd, 1) := by decide +kernel
theorem dX11_remember_31 : decode cX11_remember 31 = .ok (.iaload, 1) := by decide +kernel
theorem dX11_remember_32 : decode cX11_remember 32 = .ok (.iastore, 1) := by decide +kernel
theorem dX11_remember_33 : decode cX11_remember 33 = .ok (.iinc 2 1, 3) := by decide +kernel
theorem dX11_remember_36 : decode cX11_remember 36 = .ok (.goto (-25), 3) := by decide +kernel
theorem dX11_remember_39 : decode cX11_remember 39 = .ok (.aload_n 0, 1) := by decide +kernel
theorem dX11_remember_40 : decode cX11_remember 40 = .ok (.dup, 1) := by decide +kernel
theorem dX11_remember_41 : decode cX11_remember 41 = .ok (.getfield 171, 3) := by decide +kernel
theorem dX11_remember_44 : decode cX11_remember 44 = .ok (.iconst 1, 1) := by decide +kernel
theorem dX11_remember_45 : decode cX11_remember 45 = .ok (.isub, 1) := by decide +kernel
theorem dX11_remember_46 : decode cX11_remember 46 = .ok (.putfield 171, 3) := by decide +kernel
theorem dX11_remember_49 : decode cX11_remember 49 = .ok (.aload_n 1, 1) := by decide +kernel
theorem dX11_remember_50 : decode cX11_remember 50 = .ok (.aload_n 0, 1) := by decide +kernel
theorem dX11_remember_51 : decode cX11_remember 51 = .ok (.getfield 58, 3) := by decide +kernel
theorem dX11_remember_54 : decode cX11_remember 54 = .ok (.bipush 44, 2) := by decide +kernel
theorem dX11_remember_56 : decode cX11_remember 56 = .ok (.aload_n 0, 1) := by decide +kernel
theorem dX11_remember_57 : decode cX11_remember 57 = .ok (.getfield 171, 3) := by decide +kernel
theorem dX11_remember_60 : decode cX11_remember 60 = .ok (.imul, 1) := by decide +kernel
theorem dX11_remember_61 : decode cX11_remember 61 = .ok (.invokestatic 267, 3) := by decide +kernel
theorem dX11_remember_64 : decode cX11_remember 64 = .ok (.aload_n 0, 1) := by decide +kernel
theorem dX11_remember_65 : decode cX11_remember 65 = .ok (.dup, 1) := by decide +kernel
theorem dX11_remember_66 : decode cX11_remember 66 = .ok (.getfield 171, 3) := by decide +kernel
theorem dX11_remember_69 : decode cX11_remember 69 = .ok (.iconst 1, 1) := by decide +kernel
theorem dX11_remember_70 : decode cX11_remember 70 = .ok (.iadd, 1) := by decide +kernel
theorem dX11_remember_71 : decode cX11_remember 71 = .ok (.putfield 171, 3) := by decide +kernel
theorem dX11_remember_74 : decode cX11_remember 74 = .ok (.return_, 1) := by decide +kernel
theorem dX11_toll_0 : decode cX11_toll 0 = .ok (.aload_n 0, 1) := by decide +kernel
theorem dX11_toll_1 : decode cX11_toll 1 = .ok (.iconst 0, 1) := by decide +kernel
theorem dX11_toll_2 : decode cX11_toll 2 = .ok (.putfield 110, 3) := by decide +kernel
theorem dX11_toll_5 : decode cX11_toll 5 = .ok (.aload_n 0, 1) := by decide +kernel
theorem dX11_toll_6 : decode cX11_toll 6 = .ok (.iload_n 1, 1) := by decide +kernel
theorem dX11_toll_7 : decode cX11_toll 7 = .ok (.invokevirtual 241, 3) := by decide +kernel
theorem dX11_toll_10 : decode cX11_toll 10 = .ok (.ifCond .eq 11, 3) := by decide +kernel
theorem dX11_toll_13 : decode cX11_toll 13 = .ok (.aload_n 0, 1) := by decide +kernel
theorem dX11_toll_14 : decode cX11_toll 14 = .ok (.iload_n 2, 1) := by decide +kernel
theorem dX11_toll_15 : decode cX11_toll 15 = .ok (.invokevirtual 264, 3) := by decide +kernel
theorem dX11_toll_18 : decode cX11_toll 18 = .ok (.ifCond .ne 5, 3) := by decide +kernel
theorem dX11_toll_21 : decode cX11_toll 21 = .ok (.iconst (-1), 1) := by decide +kernel
theorem dX11_toll_22 : decode cX11_toll 22 = .ok (.ireturn, 1) := by decide +kernel
theorem dX11_toll_23 : decode cX11_toll 23 = .ok (.aload_n 0, 1) := by decide +kernel
theorem dX11_toll_24 : decode cX11_toll 24 = .ok (.iload_n 1, 1) := by decide +kernel
theorem dX11_toll_25 : decode cX11_toll 25 = .ok (.iload_n 2, 1) := by decide +kernel
theorem dX11_toll_26 : decode cX11_toll 26 = .ok (.invokevirtual 271, 3) := by decide +kernel
theorem dX11_toll_29 : decode cX11_toll 29 = .ok (.istore_n 3, 1) := by decide +kernel
theorem dX11_toll_30 : decode cX11_toll 30 = .ok (.aload_n 0, 1) := by decide +kernel
theorem dX11_toll_31 : decode cX11_toll 31 = .ok (.iconst 0, 1) := by decide +kernel
theorem dX11_toll_32 : decode cX11_toll 32 = .ok (.putfield 113, 3) := by decide +kernel
theorem dX11_toll_35 : decode cX11_toll 35 = .ok (.iconst 0, 1) := by decide +kernel
theorem dX11_toll_36 : decode cX11_toll 36 = .ok (.istore 4, 2) := by decide +kernel
theorem dX11_toll_38 : decode cX11_toll 38 = .ok (.iload 4, 2) := by decide +kernel
theorem dX11_toll_40 : decode cX11_toll 40 = .ok (.iconst 5, 1) := by decide +kernel
theorem dX11_toll_41 : decode cX11_toll 41 = .ok (.if_icmp .ge 21, 3) := by decide +kernel
theorem dX11_toll_44 : decode cX11_toll 44 = .ok (.aload_n 0, 1) := by decide +kernel
theorem dX11_toll_45 : decode cX11_toll 45 = .ok (.aload_n 0, 1) := by decide +kernel
theorem dX11_toll_46 : decode cX11_toll 46 = .ok (.getfield 55, 3) := by decide +kernel
theorem dX11_toll_49 : decode cX11_toll 49 = .ok (.iload 4, 2) := by decide +kernel
theorem dX11_toll_51 : decode cX11_toll 51 = .ok (.iaload, 1) := by decide +kernel
theorem dX11_toll_52 : decode cX11_toll 52 = .ok (.i2l, 1) := by decide +kernel
theorem dX11_toll_53 : decode cX11_toll 53 = .ok (.invokevirtual 274, 3) := by decide +kernel
theorem dX11_toll_56 : decode cX11_toll 56 = .ok (.iinc 4 1, 3) := by decide +kernel
theorem dX11_toll_59 : decode cX11_toll 59 = .ok (.goto (-21), 3) := by decide +kernel
theorem dX11_toll_62 : decode cX11_toll 62 = .ok (.iload_n 3, 1) := by decide +kernel
theorem dX11_toll_63 : decode cX11_toll 63 = .ok (.ireturn, 1) := by decide +kernel
theorem dX11_refusesWalk_0 : decode cX11_refusesWalk 0 = .ok (.aload_n 0, 1) := by decide +kernel
theorem dX11_refusesWalk_1 : decode cX11_refusesWalk 1 = .ok (.iload_n 2, 1) := by decide +kernel
theorem dX11_refusesWalk_2 : decode cX11_refusesWalk 2 = .ok (.invokevirtual 258, 3) := by decide +kernel
theorem dX11_refusesWalk_5 : decode cX11_refusesWalk 5 = .ok (.ifCond .eq 12, 3) := by decide +kernel
theorem dX11_refusesWalk_8 : decode cX11_refusesWalk 8 = .ok (.iload_n 3, 1) := by decide +kernel
theorem dX11_refusesWalk_9 : decode cX11_refusesWalk 9 = .ok (.iconst 0, 1) := by decide +kernel
theorem dX11_refusesWalk_10 : decode cX11_refusesWalk 10 = .ok (.iconst 1, 1) := by decide +kernel
theorem dX11_refusesWalk_11 : decode cX11_refusesWalk 11 = .ok (.invokestatic 116, 3) := by decide +kernel
theorem dX11_refusesWalk_14 : decode cX11_refusesWalk 14 = .ok (.ifCond .ne 5, 3) := by decide +kernel
theorem dX11_refusesWalk_17 : decode cX11_refusesWalk 17 = .ok (.iconst (-1), 1) := by decide +kernel
theorem dX11_refusesWalk_18 : decode cX11_refusesWalk 18 = .ok (.ireturn, 1) := by decide +kernel
theorem dX11_refusesWalk_19 : decode cX11_refusesWalk 19 = .ok (.aload_n 0, 1) := by decide +kernel
theorem dX11_refusesWalk_20 : decode cX11_refusesWalk 20 = .ok (.aload_n 1, 1) := by decide +kernel
theorem dX11_refusesWalk_21 : decode cX11_refusesWalk 21 = .ok (.iload_n 2, 1) := by decide +kernel
theorem dX11_refusesWalk_22 : decode cX11_refusesWalk 22 = .ok (.iaload, 1) := by decide +kernel
theorem dX11_refusesWalk_23 : decode cX11_refusesWalk 23 = .ok (.iconst 2, 1) := by decide +kernel
theorem dX11_refusesWalk_24 : decode cX11_refusesWalk 24 = .ok (.iload_n 3, 1) := by decide +kernel
theorem dX11_refusesWalk_25 : decode cX11_refusesWalk 25 = .ok (.imul, 1) := by decide +kernel
theorem dX11_refusesWalk_26 : decode cX11_refusesWalk 26 = .ok (.iadd, 1) := by decide +kernel
theorem dX11_refusesWalk_27 : decode cX11_refusesWalk 27 = .ok (.iconst 1, 1) := by decide +kernel
theorem dX11_refusesWalk_28 : decode cX11_refusesWalk 28 = .ok (.isub, 1) := by decide +kernel
theorem dX11_refusesWalk_29 : decode cX11_refusesWalk 29 = .ok (.invokevirtual 264, 3) := by decide +kernel
theorem dX11_refusesWalk_32 : decode cX11_refusesWalk 32 = .ok (.ifCond .eq 7, 3) := by decide +kernel
theorem dX11_refusesWalk_35 : decode cX11_refusesWalk 35 = .ok (.iconst 0, 1) := by decide +kernel
theorem dX11_refusesWalk_36 : decode cX11_refusesWalk 36 = .ok (.goto 5, 3) := by decide +kernel
theorem dX11_refusesWalk_39 : decode cX11_refusesWalk 39 = .ok (.bipush (-2), 2) := by decide +kernel
theorem dX11_refusesWalk_41 : decode cX11_refusesWalk 41 = .ok (.ireturn, 1) := by decide +kernel
theorem dX11_goWalk_0 : decode cX11_goWalk 0 = .ok (.aload_n 0, 1) := by decide +kernel
theorem dX11_goWalk_1 : decode cX11_goWalk 1 = .ok (.iload_n 1, 1) := by decide +kernel
theorem dX11_goWalk_2 : decode cX11_goWalk 2 = .ok (.dup2, 1) := by decide +kernel
theorem dX11_goWalk_3 : decode cX11_goWalk 3 = .ok (.iaload, 1) := by decide +kernel
theorem dX11_goWalk_4 : decode cX11_goWalk 4 = .ok (.iconst 2, 1) := by decide +kernel
theorem dX11_goWalk_5 : decode cX11_goWalk 5 = .ok (.iload_n 2, 1) := by decide +kernel
theorem dX11_goWalk_6 : decode cX11_goWalk 6 = .ok (.imul, 1) := by decide +kernel
theorem dX11_goWalk_7 : decode cX11_goWalk 7 = .ok (.iconst 1, 1) := by decide +kernel
theorem dX11_goWalk_8 : decode cX11_goWalk 8 = .ok (.isub, 1) := by decide +kernel
theorem dX11_goWalk_9 : decode cX11_goWalk 9 = .ok (.iadd, 1) := by decide +kernel
theorem dX11_goWalk_10 : decode cX11_goWalk 10 = .ok (.iastore, 1) := by decide +kernel
theorem dX11_goWalk_11 : decode cX11_goWalk 11 = .ok (.aload_n 0, 1) := by decide +kernel
theorem dX11_goWalk_12 : decode cX11_goWalk 12 = .ok (.bipush 12, 2) := by decide +kernel
theorem dX11_goWalk_14 : decode cX11_goWalk 14 = .ok (.dup2, 1) := by decide +kernel
theorem dX11_goWalk_15 : decode cX11_goWalk 15 = .ok (.iaload, 1) := by decide +kernel
theorem dX11_goWalk_16 : decode cX11_goWalk 16 = .ok (.iconst 1, 1) := by decide +kernel
theorem dX11_goWalk_17 : decode cX11_goWalk 17 = .ok (.iadd, 1) := by decide +kernel
theorem dX11_goWalk_18 : decode cX11_goWalk 18 = .ok (.iastore, 1) := by decide +kernel
theorem dX11_goWalk_19 : decode cX11_goWalk 19 = .ok (.aload_n 0, 1) := by decide +kernel
theorem dX11_goWalk_20 : decode cX11_goWalk 20 = .ok (.iload_n 1, 1) := by decide +kernel
theorem dX11_goWalk_21 : decode cX11_goWalk 21 = .ok (.iaload, 1) := by decide +kernel
theorem dX11_goWalk_22 : decode cX11_goWalk 22 = .ok (.ireturn, 1) := by decide +kernel
theorem dX11_walk_0 : decode cX11_walk 0 = .ok (.aload_n 0, 1) := by decide +kernel
theorem dX11_walk_1 : decode cX11_walk 1 = .ok (.iconst 0, 1) := by decide +kernel
theorem dX11_walk_2 : decode cX11_walk 2 = .ok (.putfield 110, 3) := by decide +kernel
theorem dX11_walk_5 : decode cX11_walk 5 = .ok (.aload_n 0, 1) := by decide +kernel
theorem dX11_walk_6 : decode cX11_walk 6 = .ok (.aload_n 0, 1) := by decide +kernel
theorem dX11_walk_7 : decode cX11_walk 7 = .ok (.getfield 9, 3) := by decide +kernel
theorem dX11_walk_10 : decode cX11_walk 10 = .ok (.iload_n 1, 1) := by decide +kernel
theorem dX11_walk_11 : decode cX11_walk 11 = .ok (.iload_n 2, 1) := by decide +kernel
theorem dX11_walk_12 : decode cX11_walk 12 = .ok (.invokevirtual 278, 3) := by decide +kernel
theorem dX11_walk_15 : decode cX11_walk 15 = .ok (.istore_n 3, 1) := by decide +kernel
theorem dX11_walk_16 : decode cX11_walk 16 = .ok (.iload_n 3, 1) := by decide +kernel
theorem dX11_walk_17 : decode cX11_walk 17 = .ok (.ifCond .ge 5, 3) := by decide +kernel
theorem dX11_walk_20 : decode cX11_walk 20 = .ok (.iload_n 3, 1) := by decide +kernel
theorem dX11_walk_21 : decode cX11_walk 21 = .ok (.ireturn, 1) := by decide +kernel
theorem dX11_walk_22 : decode cX11_walk 22 = .ok (.aload_n 0, 1) := by decide +kernel
theorem dX11_walk_23 : decode cX11_walk 23 = .ok (.aload_n 0, 1) := by decide +kernel
theorem dX11_walk_24 : decode cX11_walk 24 = .ok (.getfield 9, 3) := by decide +kernel
theorem dX11_walk_27 : decode cX11_walk 27 = .ok (.invokevirtual 282, 3) := by decide +kernel
theorem dX11_walk_30 : decode cX11_walk 30 = .ok (.aload_n 0, 1) := by decide +kernel
theorem dX11_walk_31 : decode cX11_walk 31 = .ok (.getfield 9, 3) := by decide +kernel
theorem dX11_walk_34 : decode cX11_walk 34 = .ok (.iload_n 1, 1) := by decide +kernel
theorem dX11_walk_35 : decode cX11_walk 35 = .ok (.iload_n 2, 1) := by decide +kernel
theorem dX11_walk_36 : decode cX11_walk 36 = .ok (.invokestatic 286, 3) := by decide +kernel
theorem dX11_walk_39 : decode cX11_walk 39 = .ok (.ireturn, 1) := by decide +kernel
theorem dX11_pause_0 : decode cX11_pause 0 = .ok (.aload_n 0, 1) := by decide +kernel
theorem dX11_pause_1 : decode cX11_pause 1 = .ok (.iconst 0, 1) := by decide +kernel
theorem dX11_pause_2 : decode cX11_pause 2 = .ok (.putfield 110, 3) := by decide +kernel
theorem dX11_pause_5 : decode cX11_pause 5 = .ok (.iload_n 1, 1) := by decide +kernel
theorem dX11_pause_6 : decode cX11_pause 6 = .ok (.iconst 0, 1) := by decide +kernel
theorem dX11_pause_7 : decode cX11_pause 7 = .ok (.bipush 99, 2) := by decide +kernel
theorem dX11_pause_9 : decode cX11_pause 9 = .ok (.invokestatic 116, 3) := by decide +kernel
theorem dX11_pause_12 : decode cX11_pause 12 = .ok (.ifCond .ne 5, 3) := by decide +kernel
theorem dX11_pause_15 : decode cX11_pause 15 = .ok (.iconst (-1), 1) := by decide +kernel
theorem dX11_pause_16 : decode cX11_pause 16 = .ok (.ireturn, 1) := by decide +kernel
theorem dX11_pause_17 : decode cX11_pause 17 = .ok (.iload_n 1, 1) := by decide +kernel
theorem dX11_pause_18 : decode cX11_pause 18 = .ok (.ifCond .le 11, 3) := by decide +kernel
theorem dX11_pause_21 : decode cX11_pause 21 = .ok (.aload_n 0, 1) := by decide +kernel
theorem dX11_pause_22 : decode cX11_pause 22 = .ok (.aload_n 0, 1) := by decide +kernel
theorem dX11_pause_23 : decode cX11_pause 23 = .ok (.getfield 9, 3) := by decide +kernel
theorem dX11_pause_26 : decode cX11_pause 26 = .ok (.invokevirtual 282, 3) := by decide +kernel
theorem dX11_pause_29 : decode cX11_pause 29 = .ok (.aload_n 0, 1) := by decide +kernel
theorem dX11_pause_30 : decode cX11_pause 30 = .ok (.getfield 9, 3) := by decide +kernel
theorem dX11_pause_33 : decode cX11_pause 33 = .ok (.bipush 12, 2) := by decide +kernel
theorem dX11_pause_35 : decode cX11_pause 35 = .ok (.dup2, 1) := by decide +kernel
theorem dX11_pause_36 : decode cX11_pause 36 = .ok (.iaload, 1) := by decide +kernel
theorem dX11_pause_37 : decode cX11_pause 37 = .ok (.iload_n 1, 1) := by decide +kernel
theorem dX11_pause_38 : decode cX11_pause 38 = .ok (.iadd, 1) := by decide +kernel
theorem dX11_pause_39 : decode cX11_pause 39 = .ok (.iastore, 1) := by decide +kernel
theorem dX11_pause_40 : decode cX11_pause 40 = .ok (.aload_n 0, 1) := by decide +kernel
theorem dX11_pause_41 : decode cX11_pause 41 = .ok (.getfield 9, 3) := by decide +kernel
theorem dX11_pause_44 : decode cX11_pause 44 = .ok (.bipush 12, 2) := by decide +kernel
theorem dX11_pause_46 : decode cX11_pause 46 = .ok (.iaload, 1) := by decide +kernel
theorem dX11_pause_47 : decode cX11_pause 47 = .ok (.ireturn, 1) := by decide +kernel
theorem dX11_refusesSay_0 : decode cX11_refusesSay 0 = .ok (.aload_n 0, 1) := by decide +kernel
theorem dX11_refusesSay_1 : decode cX11_refusesSay 1 = .ok (.iload_n 2, 1) := by decide +kernel
theorem dX11_refusesSay_2 : decode cX11_refusesSay 2 = .ok (.invokevirtual 258, 3) := by decide +kernel
theorem dX11_refusesSay_5 : decode cX11_refusesSay 5 = .ok (.ifCond .eq 11, 3) := by decide +kernel
theorem dX11_refusesSay_8 : decode cX11_refusesSay 8 = .ok (.aload_n 0, 1) := by decide +kernel
theorem dX11_refusesSay_9 : decode cX11_refusesSay 9 = .ok (.iload_n 3, 1) := by decide +kernel
theorem dX11_refusesSay_10 : decode cX11_refusesSay 10 = .ok (.invokevirtual 241, 3) := by decide +kernel
theorem dX11_refusesSay_13 : decode cX11_refusesSay 13 = .ok (.ifCond .ne 5, 3) := by decide +kernel
theorem dX11_refusesSay_16 : decode cX11_refusesSay 16 = .ok (.iconst (-1), 1) := by decide +kernel
theorem dX11_refusesSay_17 : decode cX11_refusesSay 17 = .ok (.ireturn, 1) := by decide +kernel
theorem dX11_refusesSay_18 : decode cX11_refusesSay 18 = .ok (.aload_n 1, 1) := by decide +kernel
theorem dX11_refusesSay_19 : decode cX11_refusesSay 19 = .ok (.iconst 4, 1) := by decide +kernel
theorem dX11_refusesSay_20 : decode cX11_refusesSay 20 = .ok (.iload_n 2, 1) := by decide +kernel
theorem dX11_refusesSay_21 : decode cX11_refusesSay 21 = .ok (.iadd, 1) := by decide +kernel
theorem dX11_refusesSay_22 : decode cX11_refusesSay 22 = .ok (.iaload, 1) := by decide +kernel
theorem dX11_refusesSay_23 : decode cX11_refusesSay 23 = .ok (.aload_n 0, 1) := by decide +kernel
theorem dX11_refusesSay_24 : decode cX11_refusesSay 24 = .ok (.iload_n 3, 1) := by decide +kernel
theorem dX11_refusesSay_25 : decode cX11_refusesSay 25 = .ok (.aload_n 1, 1) := by decide +kernel
theorem dX11_refusesSay_26 : decode cX11_refusesSay 26 = .ok (.iload_n 2, 1) := by decide +kernel
theorem dX11_refusesSay_27 : decode cX11_refusesSay 27 = .ok (.iaload, 1) := by decide +kernel
theorem dX11_refusesSay_28 : decode cX11_refusesSay 28 = .ok (.aload_n 1, 1) := by decide +kernel
theorem dX11_refusesSay_29 : decode cX11_refusesSay 29 = .ok (.bipush 12, 2) := by decide +kernel
theorem dX11_refusesSay_31 : decode cX11_refusesSay 31 = .ok (.iaload, 1) := by decide +kernel
theorem dX11_refusesSay_32 : decode cX11_refusesSay 32 = .ok (.invokevirtual 234, 3) := by decide +kernel
theorem dX11_refusesSay_35 : decode cX11_refusesSay 35 = .ok (.if_icmp .ge 8, 3) := by decide +kernel
theorem dX11_refusesSay_38 : decode cX11_refusesSay 38 = .ok (.bipush (-2), 2) := by decide +kernel
theorem dX11_refusesSay_40 : decode cX11_refusesSay 40 = .ok (.goto 4, 3) := by decide +kernel
theorem dX11_refusesSay_43 : decode cX11_refusesSay 43 = .ok (.iconst 0, 1) := by decide +kernel
theorem dX11_refusesSay_44 : decode cX11_refusesSay 44 = .ok (.ireturn, 1) := by decide +kernel
theorem dX11_goSay_0 : decode cX11_goSay 0 = .ok (.aload_n 0, 1) := by decide +kernel
theorem dX11_goSay_1 : decode cX11_goSay 1 = .ok (.iload_n 3, 1) := by decide +kernel
theorem dX11_goSay_2 : decode cX11_goSay 2 = .ok (.aload_n 1, 1) := by decide +kernel
theorem dX11_goSay_3 : decode cX11_goSay 3 = .ok (.iload_n 2, 1) := by decide +kernel
theorem dX11_goSay_4 : decode cX11_goSay 4 = .ok (.iaload, 1) := by decide +kernel
theorem dX11_goSay_5 : decode cX11_goSay 5 = .ok (.aload_n 1, 1) := by decide +kernel
theorem dX11_goSay_6 : decode cX11_goSay 6 = .ok (.bipush 12, 2) := by decide +kernel
theorem dX11_goSay_8 : decode cX11_goSay 8 = .ok (.iaload, 1) := by decide +kernel
theorem dX11_goSay_9 : decode cX11_goSay 9 = .ok (.invokevirtual 234, 3) := by decide +kernel
theorem dX11_goSay_12 : decode cX11_goSay 12 = .ok (.istore 4, 2) := by decide +kernel
theorem dX11_goSay_14 : decode cX11_goSay 14 = .ok (.aload_n 1, 1) := by decide +kernel
theorem dX11_goSay_15 : decode cX11_goSay 15 = .ok (.iconst 4, 1) := by decide +kernel
theorem dX11_goSay_16 : decode cX11_goSay 16 = .ok (.iload_n 2, 1) := by decide +kernel
theorem dX11_goSay_17 : decode cX11_goSay 17 = .ok (.iadd, 1) := by decide +kernel
theorem dX11_goSay_18 : decode cX11_goSay 18 = .ok (.dup2, 1) := by decide +kernel
theorem dX11_goSay_19 : decode cX11_goSay 19 = .ok (.iaload, 1) := by decide +kernel
theorem dX11_goSay_20 : decode cX11_goSay 20 = .ok (.iload 4, 2) := by decide +kernel
theorem dX11_goSay_22 : decode cX11_goSay 22 = .ok (.isub, 1) := by decide +kernel
theorem dX11_goSay_23 : decode cX11_goSay 23 = .ok (.iastore, 1) := by decide +kernel
theorem dX11_goSay_24 : decode cX11_goSay 24 = .ok (.aload_n 1, 1) := by decide +kernel
theorem dX11_goSay_25 : decode cX11_goSay 25 = .ok (.bipush 8, 2) := by decide +kernel
theorem dX11_goSay_27 : decode cX11_goSay 27 = .ok (.iload_n 2, 1) := by decide +kernel
theorem dX11_goSay_28 : decode cX11_goSay 28 = .ok (.iadd, 1) := by decide +kernel
theorem dX11_goSay_29 : decode cX11_goSay 29 = .ok (.dup2, 1) := by decide +kernel
theorem dX11_goSay_30 : decode cX11_goSay 30 = .ok (.iaload, 1) := by decide +kernel
theorem dX11_goSay_31 : decode cX11_goSay 31 = .ok (.iload 4, 2) := by decide +kernel
theorem dX11_goSay_33 : decode cX11_goSay 33 = .ok (.iadd, 1) := by decide +kernel
theorem dX11_goSay_34 : decode cX11_goSay 34 = .ok (.iastore, 1) := by decide +kernel
theorem dX11_goSay_35 : decode cX11_goSay 35 = .ok (.iconst 0, 1) := by decide +kernel
theorem dX11_goSay_36 : decode cX11_goSay 36 = .ok (.istore 5, 2) := by decide +kernel
theorem dX11_goSay_38 : decode cX11_goSay 38 = .ok (.iload 5, 2) := by decide +kernel
theorem dX11_goSay_40 : decode cX11_goSay 40 = .ok (.iconst 5, 1) := by decide +kernel
theorem dX11_goSay_41 : decode cX11_goSay 41 = .ok (.if_icmp .ge 32, 3) := by decide +kernel
theorem dX11_goSay_44 : decode cX11_goSay 44 = .ok (.aload_n 1, 1) := by decide +kernel
theorem dX11_goSay_45 : decode cX11_goSay 45 = .ok (.bipush 14, 2) := by decide +kernel
theorem dX11_goSay_47 : decode cX11_goSay 47 = .ok (.iconst 5, 1) := by decide +kernel
theorem dX11_goSay_48 : decode cX11_goSay 48 = .ok (.aload_n 1, 1) := by decide +kernel
theorem dX11_goSay_49 : decode cX11_goSay 49 = .ok (.iload_n 2, 1) := by decide +kernel
theorem dX11_goSay_50 : decode cX11_goSay 50 = .ok (.iaload, 1) := by decide +kernel
theorem dX11_goSay_51 : decode cX11_goSay 51 = .ok (.imul, 1) := by decide +kernel
theorem dX11_goSay_52 : decode cX11_goSay 52 = .ok (.iadd, 1) := by decide +kernel
theorem dX11_goSay_53 : decode cX11_goSay 53 = .ok (.iload 5, 2) := by decide +kernel
theorem dX11_goSay_55 : decode cX11_goSay 55 = .ok (.iadd, 1) := by decide +kernel
theorem dX11_goSay_56 : decode cX11_goSay 56 = .ok (.dup2, 1) := by decide +kernel
theorem dX11_goSay_57 : decode cX11_goSay 57 = .ok (.iaload, 1) := by decide +kernel
theorem dX11_goSay_58 : decode cX11_goSay 58 = .ok (.aload_n 0, 1) := by decide +kernel
theorem dX11_goSay_59 : decode cX11_goSay 59 = .ok (.iload_n 3, 1) := by decide +kernel
theorem dX11_goSay_60 : decode cX11_goSay 60 = .ok (.iload 5, 2) := by decide +kernel
theorem dX11_goSay_62 : decode cX11_goSay 62 = .ok (.invokevirtual 238, 3) := by decide +kernel
theorem dX11_goSay_65 : decode cX11_goSay 65 = .ok (.iadd, 1) := by decide +kernel
theorem dX11_goSay_66 : decode cX11_goSay 66 = .ok (.iastore, 1) := by decide +kernel
theorem dX11_goSay_67 : decode cX11_goSay 67 = .ok (.iinc 5 1, 3) := by decide +kernel
theorem dX11_goSay_70 : decode cX11_goSay 70 = .ok (.goto (-32), 3) := by decide +kernel
theorem dX11_goSay_73 : decode cX11_goSay 73 = .ok (.aload_n 0, 1) := by decide +kernel
theorem dX11_goSay_74 : decode cX11_goSay 74 = .ok (.iconst 0, 1) := by decide +kernel
theorem dX11_goSay_75 : decode cX11_goSay 75 = .ok (.putfield 289, 3) := by decide +kernel
theorem dX11_goSay_78 : decode cX11_goSay 78 = .ok (.iconst 0, 1) := by decide +kernel
theorem dX11_goSay_79 : decode cX11_goSay 79 = .ok (.istore 5, 2) := by decide +kernel
theorem dX11_goSay_81 : decode cX11_goSay 81 = .ok (.iload 5, 2) := by decide +kernel
theorem dX11_goSay_83 : decode cX11_goSay 83 = .ok (.aload_n 0, 1) := by decide +kernel
theorem dX11_goSay_84 : decode cX11_goSay 84 = .ok (.getfield 168, 3) := by decide +kernel
theorem dX11_goSay_87 : decode cX11_goSay 87 = .ok (.if_icmp .ge 77, 3) := by decide +kernel
theorem dX11_goSay_90 : decode cX11_goSay 90 = .ok (.aload_n 0, 1) := by decide +kernel
theorem dX11_goSay_91 : decode cX11_goSay 91 = .ok (.dup, 1) := by decide +kernel
theorem dX11_goSay_92 : decode cX11_goSay 92 = .ok (.getfield 289, 3) := by decide +kernel
theorem dX11_goSay_95 : decode cX11_goSay 95 = .ok (.aload_n 0, 1) := by decide +kernel
theorem dX11_goSay_96 : decode cX11_goSay 96 = .ok (.iload 5, 2) := by decide +kernel
theorem dX11_goSay_98 : decode cX11_goSay 98 = .ok (.iconst 0, 1) := by decide +kernel
theorem dX11_goSay_99 : decode cX11_goSay 99 = .ok (.invokevirtual 251, 3) := by decide +kernel
theorem dX11_goSay_102 : decode cX11_goSay 102 = .ok (.iload_n 2, 1) := by decide +kernel
theorem dX11_goSay_103 : decode cX11_goSay 103 = .ok (.if_icmp .ne 50, 3) := by decide +kernel
theorem dX11_goSay_106 : decode cX11_goSay 106 = .ok (.aload_n 0, 1) := by decide +kernel
theorem dX11_goSay_107 : decode cX11_goSay 107 = .ok (.iload 5, 2) := by decide +kernel
theorem dX11_goSay_109 : decode cX11_goSay 109 = .ok (.iconst 2, 1) := by decide +kernel
theorem dX11_goSay_110 : decode cX11_goSay 110 = .ok (.invokevirtual 251, 3) := by decide +kernel
theorem dX11_goSay_113 : decode cX11_goSay 113 = .ok (.aload_n 1, 1) := by decide +kernel
theorem dX11_goSay_114 : decode cX11_goSay 114 = .ok (.iload_n 2, 1) := by decide +kernel
theorem dX11_goSay_115 : decode cX11_goSay 115 = .ok (.iaload, 1) := by decide +kernel
theorem dX11_goSay_116 : decode cX11_goSay 116 = .ok (.if_icmp .ne 37, 3) := by decide +kernel
theorem dX11_goSay_119 : decode cX11_goSay 119 = .ok (.aload_n 0, 1) := by decide +kernel
theorem dX11_goSay_120 : decode cX11_goSay 120 = .ok (.iload_n 3, 1) := by decide +kernel
theorem dX11_goSay_121 : decode cX11_goSay 121 = .ok (.aload_n 0, 1) := by decide +kernel
theorem dX11_goSay_122 : decode cX11_goSay 122 = .ok (.iload 5, 2) := by decide +kernel
theorem dX11_goSay_124 : decode cX11_goSay 124 = .ok (.iconst 1, 1) := by decide +kernel
theorem dX11_goSay_125 : decode cX11_goSay 125 = .ok (.invokevirtual 251, 3) := by decide +kernel
theorem dX11_goSay_128 : decode cX11_goSay 128 = .ok (.invokevirtual 292, 3) := by decide +kernel
theorem dX11_goSay_131 : decode cX11_goSay 131 = .ok (.ifCond .eq 22, 3) := by decide +kernel
theorem dX11_goSay_134 : decode cX11_goSay 134 = .ok (.aload_n 1, 1) := by decide +kernel
theorem dX11_goSay_135 : decode cX11_goSay 135 = .ok (.bipush 13, 2) := by decide +kernel
theorem dX11_goSay_137 : decode cX11_goSay 137 = .ok (.iaload, 1) := by decide +kernel
theorem dX11_goSay_138 : decode cX11_goSay 138 = .ok (.iload 5, 2) := by decide +kernel
theorem dX11_goSay_140 : decode cX11_goSay 140 = .ok (.invokestatic 254, 3) := by decide +kernel
theorem dX11_goSay_143 : decode cX11_goSay 143 = .ok (.ifCond .ne 10, 3) := by decide +kernel
theorem dX11_goSay_146 : decode cX11_goSay 146 = .ok (.iconst 1, 1) := by decide +kernel
theorem dX11_goSay_147 : decode cX11_goSay 147 = .ok (.iload 5, 2) := by decide +kernel
theorem dX11_goSay_149 : decode cX11_goSay 149 = .ok (.ishl, 1) := by decide +kernel
theorem dX11_goSay_150 : decode cX11_goSay 150 = .ok (.goto 4, 3) := by decide +kernel
theorem dX11_goSay_153 : decode cX11_goSay 153 = .ok (.iconst 0, 1) := by decide +kernel
theorem dX11_goSay_154 : decode cX11_goSay 154 = .ok (.ior, 1) := by decide +kernel
theorem dX11_goSay_155 : decode cX11_goSay 155 = .ok (.putfield 289, 3) := by decide +kernel
theorem dX11_goSay_158 : decode cX11_goSay 158 = .ok (.iinc 5 1, 3) := by decide +kernel
theorem dX11_goSay_161 : decode cX11_goSay 161 = .ok (.goto (-80), 3) := by decide +kernel
theorem dX11_goSay_164 : decode cX11_goSay 164 = .ok (.aload_n 1, 1) := by decide +kernel
theorem dX11_goSay_165 : decode cX11_goSay 165 = .ok (.bipush 13, 2) := by decide +kernel
theorem dX11_goSay_167 : decode cX11_goSay 167 = .ok (.dup2, 1) := by decide +kernel
theorem dX11_goSay_168 : decode cX11_goSay 168 = .ok (.iaload, 1) := by decide +kernel
theorem dX11_goSay_169 : decode cX11_goSay 169 = .ok (.aload_n 0, 1) := by decide +kernel
theorem dX11_goSay_170 : decode cX11_goSay 170 = .ok (.getfield 289, 3) := by decide +kernel
theorem dX11_goSay_173 : decode cX11_goSay 173 = .ok (.ior, 1) := by decide +kernel
theorem dX11_goSay_174 : decode cX11_goSay 174 = .ok (.iastore, 1) := by decide +kernel
theorem dX11_goSay_175 : decode cX11_goSay 175 = .ok (.iload 4, 2) := by decide +kernel
theorem dX11_goSay_177 : decode cX11_goSay 177 = .ok (.ireturn, 1) := by decide +kernel
theorem dX11_say_0 : decode cX11_say 0 = .ok (.aload_n 0, 1) := by decide +kernel
theorem dX11_say_1 : decode cX11_say 1 = .ok (.iconst 0, 1) := by decide +kernel
theorem dX11_say_2 : decode cX11_say 2 = .ok (.putfield 110, 3) := by decide +kernel
theorem dX11_say_5 : decode cX11_say 5 = .ok (.aload_n 0, 1) := by decide +kernel
theorem dX11_say_6 : decode cX11_say 6 = .ok (.aload_n 0, 1) := by decide +kernel
theorem dX11_say_7 : decode cX11_say 7 = .ok (.getfield 9, 3) := by decide +kernel
theorem dX11_say_10 : decode cX11_say 10 = .ok (.iload_n 1, 1) := by decide +kernel
theorem dX11_say_11 : decode cX11_say 11 = .ok (.iload_n 2, 1) := by decide +kernel
theorem dX11_say_12 : decode cX11_say 12 = .ok (.invokevirtual 295, 3) := by decide +kernel
theorem dX11_say_15 : decode cX11_say 15 = .ok (.istore_n 3, 1) := by decide +kernel
theorem dX11_say_16 : decode cX11_say 16 = .ok (.iload_n 3, 1) := by decide +kernel
theorem dX11_say_17 : decode cX11_say 17 = .ok (.ifCond .ge 5, 3) := by decide +kernel
theorem dX11_say_20 : decode cX11_say 20 = .ok (.iload_n 3, 1) := by decide +kernel
theorem dX11_say_21 : decode cX11_say 21 = .ok (.ireturn, 1) := by decide +kernel
theorem dX11_say_22 : decode cX11_say 22 = .ok (.aload_n 0, 1) := by decide +kernel
theorem dX11_say_23 : decode cX11_say 23 = .ok (.aload_n 0, 1) := by decide +kernel
theorem dX11_say_24 : decode cX11_say 24 = .ok (.getfield 9, 3) := by decide +kernel
theorem dX11_say_27 : decode cX11_say 27 = .ok (.invokevirtual 282, 3) := by decide +kernel
theorem dX11_say_30 : decode cX11_say 30 = .ok (.aload_n 0, 1) := by decide +kernel
theorem dX11_say_31 : decode cX11_say 31 = .ok (.aload_n 0, 1) := by decide +kernel
theorem dX11_say_32 : decode cX11_say 32 = .ok (.getfield 9, 3) := by decide +kernel
theorem dX11_say_35 : decode cX11_say 35 = .ok (.iload_n 1, 1) := by decide +kernel
theorem dX11_say_36 : decode cX11_say 36 = .ok (.iload_n 2, 1) := by decide +kernel
theorem dX11_say_37 : decode cX11_say 37 = .ok (.invokevirtual 298, 3) := by decide +kernel
theorem dX11_say_40 : decode cX11_say 40 = .ok (.istore 4, 2) := by decide +kernel
theorem dX11_say_42 : decode cX11_say 42 = .ok (.aload_n 0, 1) := by decide +kernel
theorem dX11_say_43 : decode cX11_say 43 = .ok (.iconst 0, 1) := by decide +kernel
theorem dX11_say_44 : decode cX11_say 44 = .ok (.putfield 113, 3) := by decide +kernel
theorem dX11_say_47 : decode cX11_say 47 = .ok (.aload_n 0, 1) := by decide +kernel
theorem dX11_say_48 : decode cX11_say 48 = .ok (.aload_n 0, 1) := by decide +kernel
theorem dX11_say_49 : decode cX11_say 49 = .ok (.getfield 289, 3) := by decide +kernel
theorem dX11_say_52 : decode cX11_say 52 = .ok (.i2l, 1) := by decide +kernel
theorem dX11_say_53 : decode cX11_say 53 = .ok (.invokevirtual 274, 3) := by decide +kernel
theorem dX11_say_56 : decode cX11_say 56 = .ok (.iload 4, 2) := by decide +kernel
theorem dX11_say_58 : decode cX11_say 58 = .ok (.ireturn, 1) := by decide +kernel
theorem dX11_alms_0 : decode cX11_alms 0 = .ok (.aload_n 0, 1) := by decide +kernel
theorem dX11_alms_1 : decode cX11_alms 1 = .ok (.iconst 0, 1) := by decide +kernel
theorem dX11_alms_2 : decode cX11_alms 2 = .ok (.putfield 110, 3) := by decide +kernel
theorem dX11_alms_5 : decode cX11_alms 5 = .ok (.aload_n 0, 1) := by decide +kernel
theorem dX11_alms_6 : decode cX11_alms 6 = .ok (.iload_n 1, 1) := by decide +kernel
theorem dX11_alms_7 : decode cX11_alms 7 = .ok (.invokevirtual 258, 3) := by decide +kernel
theorem dX11_alms_10 : decode cX11_alms 10 = .ok (.ifCond .eq 27, 3) := by decide +kernel
theorem dX11_alms_13 : decode cX11_alms 13 = .ok (.aload_n 0, 1) := by decide +kernel
theorem dX11_alms_14 : decode cX11_alms 14 = .ok (.iload_n 2, 1) := by decide +kernel
theorem dX11_alms_15 : decode cX11_alms 15 = .ok (.invokevirtual 258, 3) := by decide +kernel
theorem dX11_alms_18 : decode cX11_alms 18 = .ok (.ifCond .eq 19, 3) := by decide +kernel
theorem dX11_alms_21 : decode cX11_alms 21 = .ok (.iload_n 1, 1) := by decide +kernel
theorem dX11_alms_22 : decode cX11_alms 22 = .ok (.iload_n 2, 1) := by decide +kernel
theorem dX11_alms_23 : decode cX11_alms 23 = .ok (.if_icmp .eq 14, 3) := by decide +kernel
theorem dX11_alms_26 : decode cX11_alms 26 = .ok (.iload_n 3, 1) := by decide +kernel
theorem dX11_alms_27 : decode cX11_alms 27 = .ok (.iconst 1, 1) := by decide +kernel
theorem dX11_alms_28 : decode cX11_alms 28 = .ok (.sipush 9999, 3) := by decide +kernel
theorem dX11_alms_31 : decode cX11_alms 31 = .ok (.invokestatic 116, 3) := by decide +kernel
theorem dX11_alms_34 : decode cX11_alms 34 = .ok (.ifCond .ne 5, 3) := by decide +kernel
theorem dX11_alms_37 : decode cX11_alms 37 = .ok (.iconst (-1), 1) := by decide +kernel
theorem dX11_alms_38 : decode cX11_alms 38 = .ok (.ireturn, 1) := by decide +kernel
theorem dX11_alms_39 : decode cX11_alms 39 = .ok (.aload_n 0, 1) := by decide +kernel
theorem dX11_alms_40 : decode cX11_alms 40 = .ok (.getfield 9, 3) := by decide +kernel
theorem dX11_alms_43 : decode cX11_alms 43 = .ok (.iload_n 1, 1) := by decide +kernel
theorem dX11_alms_44 : decode cX11_alms 44 = .ok (.iaload, 1) := by decide +kernel
theorem dX11_alms_45 : decode cX11_alms 45 = .ok (.aload_n 0, 1) := by decide +kernel
theorem dX11_alms_46 : decode cX11_alms 46 = .ok (.getfield 9, 3) := by decide +kernel
theorem dX11_alms_49 : decode cX11_alms 49 = .ok (.iload_n 2, 1) := by decide +kernel
theorem dX11_alms_50 : decode cX11_alms 50 = .ok (.iaload, 1) := by decide +kernel
theorem dX11_alms_51 : decode cX11_alms 51 = .ok (.if_icmp .eq 6, 3) := by decide +kernel
theorem dX11_alms_54 : decode cX11_alms 54 = .ok (.bipush (-3), 2) := by decide +kernel
theorem dX11_alms_56 : decode cX11_alms 56 = .ok (.ireturn, 1) := by decide +kernel
theorem dX11_alms_57 : decode cX11_alms 57 = .ok (.aload_n 0, 1) := by decide +kernel
theorem dX11_alms_58 : decode cX11_alms 58 = .ok (.getfield 9, 3) := by decide +kernel
theorem dX11_alms_61 : decode cX11_alms 61 = .ok (.iconst 4, 1) := by decide +kernel
theorem dX11_alms_62 : decode cX11_alms 62 = .ok (.iload_n 1, 1) := by decide +kernel
theorem dX11_alms_63 : decode cX11_alms 63 = .ok (.iadd, 1) := by decide +kernel
theorem dX11_alms_64 : decode cX11_alms 64 = .ok (.iaload, 1) := by decide +kernel
theorem dX11_alms_65 : decode cX11_alms 65 = .ok (.iload_n 3, 1) := by decide +kernel
theorem dX11_alms_66 : decode cX11_alms 66 = .ok (.if_icmp .ge 6, 3) := by decide +kernel
theorem dX11_alms_69 : decode cX11_alms 69 = .ok (.bipush (-2), 2) := by decide +kernel
theorem dX11_alms_71 : decode cX11_alms 71 = .ok (.ireturn, 1) := by decide +kernel
theorem dX11_alms_72 : decode cX11_alms 72 = .ok (.aload_n 0, 1) := by decide +kernel
theorem dX11_alms_73 : decode cX11_alms 73 = .ok (.aload_n 0, 1) := by decide +kernel
theorem dX11_alms_74 : decode cX11_alms 74 = .ok (.getfield 9, 3) := by decide +kernel
theorem dX11_alms_77 : decode cX11_alms 77 = .ok (.invokevirtual 282, 3) := by decide +kernel
theorem dX11_alms_80 : decode cX11_alms 80 = .ok (.aload_n 0, 1) := by decide +kernel
theorem dX11_alms_81 : decode cX11_alms 81 = .ok (.getfield 9, 3) := by decide +kernel
theorem dX11_alms_84 : decode cX11_alms 84 = .ok (.iconst 4, 1) := by decide +kernel
theorem dX11_alms_85 : decode cX11_alms 85 = .ok (.iload_n 1, 1) := by decide +kernel
theorem dX11_alms_86 : decode cX11_alms 86 = .ok (.iadd, 1) := by decide +kernel
theorem dX11_alms_87 : decode cX11_alms 87 = .ok (.dup2, 1) := by decide +kernel
theorem dX11_alms_88 : decode cX11_alms 88 = .ok (.iaload, 1) := by decide +kernel
theorem dX11_alms_89 : decode cX11_alms 89 = .ok (.iload_n 3, 1) := by decide +kernel
theorem dX11_alms_90 : decode cX11_alms 90 = .ok (.isub, 1) := by decide +kernel
theorem dX11_alms_91 : decode cX11_alms 91 = .ok (.iastore, 1) := by decide +kernel
theorem dX11_alms_92 : decode cX11_alms 92 = .ok (.aload_n 0, 1) := by decide +kernel
theorem dX11_alms_93 : decode cX11_alms 93 = .ok (.getfield 9, 3) := by decide +kernel
theorem dX11_alms_96 : decode cX11_alms 96 = .ok (.iconst 4, 1) := by decide +kernel
theorem dX11_alms_97 : decode cX11_alms 97 = .ok (.iload_n 2, 1) := by decide +kernel
theorem dX11_alms_98 : decode cX11_alms 98 = .ok (.iadd, 1) := by decide +kernel
theorem dX11_alms_99 : decode cX11_alms 99 = .ok (.sipush 9999, 3) := by decide +kernel
theorem dX11_alms_102 : decode cX11_alms 102 = .ok (.aload_n 0, 1) := by decide +kernel
theorem dX11_alms_103 : decode cX11_alms 103 = .ok (.getfield 9, 3) := by decide +kernel
theorem dX11_alms_106 : decode cX11_alms 106 = .ok (.iconst 4, 1) := by decide +kernel
theorem dX11_alms_107 : decode cX11_alms 107 = .ok (.iload_n 2, 1) := by decide +kernel
theorem dX11_alms_108 : decode cX11_alms 108 = .ok (.iadd, 1) := by decide +kernel
theorem dX11_alms_109 : decode cX11_alms 109 = .ok (.iaload, 1) := by decide +kernel
theorem dX11_alms_110 : decode cX11_alms 110 = .ok (.iload_n 3, 1) := by decide +kernel
theorem dX11_alms_111 : decode cX11_alms 111 = .ok (.iadd, 1) := by decide +kernel
theorem dX11_alms_112 : decode cX11_alms 112 = .ok (.invokestatic 226, 3) := by decide +kernel
theorem dX11_alms_115 : decode cX11_alms 115 = .ok (.iastore, 1) := by decide +kernel
theorem dX11_alms_116 : decode cX11_alms 116 = .ok (.aload_n 0, 1) := by decide +kernel
theorem dX11_alms_117 : decode cX11_alms 117 = .ok (.getfield 9, 3) := by decide +kernel
theorem dX11_alms_120 : decode cX11_alms 120 = .ok (.iconst 4, 1) := by decide +kernel
theorem dX11_alms_121 : decode cX11_alms 121 = .ok (.iload_n 2, 1) := by decide +kernel
theorem dX11_alms_122 : decode cX11_alms 122 = .ok (.iadd, 1) := by decide +kernel
theorem dX11_alms_123 : decode cX11_alms 123 = .ok (.iaload, 1) := by decide +kernel
theorem dX11_alms_124 : decode cX11_alms 124 = .ok (.ireturn, 1) := by decide +kernel
theorem dX11_journey_0 : decode cX11_journey 0 = .ok (.aload_n 0, 1) := by decide +kernel
theorem dX11_journey_1 : decode cX11_journey 1 = .ok (.iconst 0, 1) := by decide +kernel
theorem dX11_journey_2 : decode cX11_journey 2 = .ok (.putfield 110, 3) := by decide +kernel
theorem dX11_journey_5 : decode cX11_journey 5 = .ok (.aload_n 0, 1) := by decide +kernel
theorem dX11_journey_6 : decode cX11_journey 6 = .ok (.bipush 60, 2) := by decide +kernel
theorem dX11_journey_8 : decode cX11_journey 8 = .ok (.invokevirtual 177, 3) := by decide +kernel
theorem dX11_journey_11 : decode cX11_journey 11 = .ok (.iconst 0, 1) := by decide +kernel
theorem dX11_journey_12 : decode cX11_journey 12 = .ok (.istore_n 1, 1) := by decide +kernel
theorem dX11_journey_13 : decode cX11_journey 13 = .ok (.aload_n 0, 1) := by decide +kernel
theorem dX11_journey_14 : decode cX11_journey 14 = .ok (.getfield 132, 3) := by decide +kernel
theorem dX11_journey_17 : decode cX11_journey 17 = .ok (.ifCond .le 7, 3) := by decide +kernel
theorem dX11_journey_20 : decode cX11_journey 20 = .ok (.iconst 1, 1) := by decide +kernel
theorem dX11_journey_21 : decode cX11_journey 21 = .ok (.goto 4, 3) := by decide +kernel
theorem dX11_journey_24 : decode cX11_journey 24 = .ok (.iconst 0, 1) := by decide +kernel
theorem dX11_journey_25 : decode cX11_journey 25 = .ok (.istore_n 2, 1) := by decide +kernel
theorem dX11_journey_26 : decode cX11_journey 26 = .ok (.iload_n 2, 1) := by decide +kernel
theorem dX11_journey_27 : decode cX11_journey 27 = .ok (.ifCond .eq 30, 3) := by decide +kernel
theorem dX11_journey_30 : decode cX11_journey 30 = .ok (.aload_n 0, 1) := by decide +kernel
theorem dX11_journey_31 : decode cX11_journey 31 = .ok (.invokevirtual 148, 3) := by decide +kernel
theorem dX11_journey_34 : decode cX11_journey 34 = .ok (.ifCond .eq 23, 3) := by decide +kernel
theorem dX11_journey_37 : decode cX11_journey 37 = .ok (.aload_n 0, 1) := by decide +kernel
theorem dX11_journey_38 : decode cX11_journey 38 = .ok (.iconst 3, 1) := by decide +kernel
theorem dX11_journey_39 : decode cX11_journey 39 = .ok (.iload_n 1, 1) := by decide +kernel
theorem dX11_journey_40 : decode cX11_journey 40 = .ok (.imul, 1) := by decide +kernel
theorem dX11_journey_41 : decode cX11_journey 41 = .ok (.invokevirtual 301, 3) := by decide +kernel
theorem dX11_journey_44 : decode cX11_journey 44 = .ok (.iinc 1 1, 3) := by decide +kernel
theorem dX11_journey_47 : decode cX11_journey 47 = .ok (.aload_n 0, 1) := by decide +kernel
theorem dX11_journey_48 : decode cX11_journey 48 = .ok (.bipush 59, 2) := by decide +kernel
theorem dX11_journey_50 : decode cX11_journey 50 = .ok (.invokevirtual 156, 3) := by decide +kernel
theorem dX11_journey_53 : decode cX11_journey 53 = .ok (.istore_n 2, 1) := by decide +kernel
theorem dX11_journey_54 : decode cX11_journey 54 = .ok (.goto (-28), 3) := by decide +kernel
theorem dX11_journey_57 : decode cX11_journey 57 = .ok (.aload_n 0, 1) := by decide +kernel
theorem dX11_journey_58 : decode cX11_journey 58 = .ok (.invokevirtual 183, 3) := by decide +kernel
theorem dX11_journey_61 : decode cX11_journey 61 = .ok (.ifCond .ne 10, 3) := by decide +kernel
theorem dX11_journey_64 : decode cX11_journey 64 = .ok (.iconst (-1), 1) := by decide +kernel
theorem dX11_journey_65 : decode cX11_journey 65 = .ok (.aload_n 0, 1) := by decide +kernel
theorem dX11_journey_66 : decode cX11_journey 66 = .ok (.getfield 141, 3) := by decide +kernel
theorem dX11_journey_69 : decode cX11_journey 69 = .ok (.isub, 1) := by decide +kernel
theorem dX11_journey_70 : decode cX11_journey 70 = .ok (.ireturn, 1) := by decide +kernel
theorem dX11_journey_71 : decode cX11_journey 71 = .ok (.aload_n 0, 1) := by decide +kernel
theorem dX11_journey_72 : decode cX11_journey 72 = .ok (.getfield 9, 3) := by decide +kernel
theorem dX11_journey_75 : decode cX11_journey 75 = .ok (.aload_n 0, 1) := by decide +kernel
theorem dX11_journey_76 : decode cX11_journey 76 = .ok (.getfield 61, 3) := by decide +kernel
theorem dX11_journey_79 : decode cX11_journey 79 = .ok (.iconst 0, 1) := by decide +kernel
theorem dX11_journey_80 : decode cX11_journey 80 = .ok (.invokestatic 267, 3) := by decide +kernel
theorem dX11_journey_83 : decode cX11_journey 83 = .ok (.aload_n 0, 1) := by decide +kernel
theorem dX11_journey_84 : decode cX11_journey 84 = .ok (.iconst 0, 1) := by decide +kernel
theorem dX11_journey_85 : decode cX11_journey 85 = .ok (.putfield 304, 3) := by decide +kernel
theorem dX11_journey_88 : decode cX11_journey 88 = .ok (.iconst 0, 1) := by decide +kernel
theorem dX11_journey_89 : decode cX11_journey 89 = .ok (.istore_n 3, 1) := by decide +kernel
theorem dX11_journey_90 : decode cX11_journey 90 = .ok (.iload_n 3, 1) := by decide +kernel
theorem dX11_journey_91 : decode cX11_journey 91 = .ok (.iload_n 1, 1) := by decide +kernel
theorem dX11_journey_92 : decode cX11_journey 92 = .ok (.if_icmp .ge 44, 3) := by decide +kernel
theorem dX11_journey_95 : decode cX11_journey 95 = .ok (.aload_n 0, 1) := by decide +kernel
theorem dX11_journey_96 : decode cX11_journey 96 = .ok (.aload_n 0, 1) := by decide +kernel
theorem dX11_journey_97 : decode cX11_journey 97 = .ok (.getfield 64, 3) := by decide +kernel
theorem dX11_journey_100 : decode cX11_journey 100 = .ok (.iconst 3, 1) := by decide +kernel
theorem dX11_journey_101 : decode cX11_journey 101 = .ok (.iload_n 3, 1) := by decide +kernel
theorem dX11_journey_102 : decode cX11_journey 102 = .ok (.imul, 1) := by decide +kernel
theorem dX11_journey_103 : decode cX11_journey 103 = .ok (.iaload, 1) := by decide +kernel
theorem dX11_journey_104 : decode cX11_journey 104 = .ok (.aload_n 0, 1) := by decide +kernel
theorem dX11_journey_105 : decode cX11_journey 105 = .ok (.getfield 64, 3) := by decide +kernel
theorem dX11_journey_108 : decode cX11_journey 108 = .ok (.iconst 3, 1) := by decide +kernel
theorem dX11_journey_109 : decode cX11_journey 109 = .ok (.iload_n 3, 1) := by decide +kernel
theorem dX11_journey_110 : decode cX11_journey 110 = .ok (.imul, 1) := by decide +kernel
theorem dX11_journey_111 : decode cX11_journey 111 = .ok (.iconst 1, 1) := by decide +kernel
theorem dX11_journey_112 : decode cX11_journey 112 = .ok (.iadd, 1) := by decide +kernel
theorem dX11_journey_113 : decode cX11_journey 113 = .ok (.iaload, 1) := by decide +kernel
theorem dX11_journey_114 : decode cX11_journey 114 = .ok (.aload_n 0, 1) := by decide +kernel
theorem dX11_journey_115 : decode cX11_journey 115 = .ok (.getfield 64, 3) := by decide +kernel
theorem dX11_journey_118 : decode cX11_journey 118 = .ok (.iconst 3, 1) := by decide +kernel
theorem dX11_journey_119 : decode cX11_journey 119 = .ok (.iload_n 3, 1) := by decide +kernel
theorem dX11_journey_120 : decode cX11_journey 120 = .ok (.imul, 1) := by decide +kernel
theorem dX11_journey_121 : decode cX11_journey 121 = .ok (.iconst 2, 1) := by decide +kernel
theorem dX11_journey_122 : decode cX11_journey 122 = .ok (.iadd, 1) := by decide +kernel
theorem dX11_journey_123 : decode cX11_journey 123 = .ok (.iaload, 1) := by decide +kernel
theorem dX11_journey_124 : decode cX11_journey 124 = .ok (.invokevirtual 307, 3) := by decide +kernel
theorem dX11_journey_127 : decode cX11_journey 127 = .ok (.ifCond .eq 9, 3) := by decide +kernel
theorem dX11_journey_130 : decode cX11_journey 130 = .ok (.iinc 3 1, 3) := by decide +kernel
theorem dX11_journey_133 : decode cX11_journey 133 = .ok (.goto (-43), 3) := by decide +kernel
theorem dX11_journey_136 : decode cX11_journey 136 = .ok (.iload_n 3, 1) := by decide +kernel
theorem dX11_journey_137 : decode cX11_journey 137 = .ok (.ifCond .le 11, 3) := by decide +kernel
theorem dX11_journey_140 : decode cX11_journey 140 = .ok (.aload_n 0, 1) := by decide +kernel
theorem dX11_journey_141 : decode cX11_journey 141 = .ok (.aload_n 0, 1) := by decide +kernel
theorem dX11_journey_142 : decode cX11_journey 142 = .ok (.getfield 61, 3) := by decide +kernel
theorem dX11_journey_145 : decode cX11_journey 145 = .ok (.invokevirtual 282, 3) := by decide +kernel
theorem dX11_journey_148 : decode cX11_journey 148 = .ok (.aload_n 0, 1) := by decide +kernel
theorem dX11_journey_149 : decode cX11_journey 149 = .ok (.iconst 0, 1) := by decide +kernel
theorem dX11_journey_150 : decode cX11_journey 150 = .ok (.putfield 113, 3) := by decide +kernel
theorem dX11_journey_153 : decode cX11_journey 153 = .ok (.aload_n 0, 1) := by decide +kernel
theorem dX11_journey_154 : decode cX11_journey 154 = .ok (.iload_n 3, 1) := by decide +kernel
theorem dX11_journey_155 : decode cX11_journey 155 = .ok (.iload_n 1, 1) := by decide +kernel
theorem dX11_journey_156 : decode cX11_journey 156 = .ok (.if_icmp .ge 7, 3) := by decide +kernel
theorem dX11_journey_159 : decode cX11_journey 159 = .ok (.lconst 1, 1) := by decide +kernel
theorem dX11_journey_160 : decode cX11_journey 160 = .ok (.goto 4, 3) := by decide +kernel
theorem dX11_journey_163 : decode cX11_journey 163 = .ok (.lconst 0, 1) := by decide +kernel
theorem dX11_journey_164 : decode cX11_journey 164 = .ok (.invokevirtual 274, 3) := by decide +kernel
theorem dX11_journey_167 : decode cX11_journey 167 = .ok (.aload_n 0, 1) := by decide +kernel
theorem dX11_journey_168 : decode cX11_journey 168 = .ok (.aload_n 0, 1) := by decide +kernel
theorem dX11_journey_169 : decode cX11_journey 169 = .ok (.getfield 304, 3) := by decide +kernel
theorem dX11_journey_172 : decode cX11_journey 172 = .ok (.i2l, 1) := by decide +kernel
theorem dX11_journey_173 : decode cX11_journey 173 = .ok (.invokevirtual 274, 3) := by decide +kernel
theorem dX11_journey_176 : decode cX11_journey 176 = .ok (.iload_n 3, 1) := by decide +kernel
theorem dX11_journey_177 : decode cX11_journey 177 = .ok (.ireturn, 1) := by decide +kernel
theorem dX11_readAct_0 : decode cX11_readAct 0 = .ok (.aload_n 0, 1) := by decide +kernel
theorem dX11_readAct_1 : decode cX11_readAct 1 = .ok (.bipush 119, 2) := by decide +kernel
theorem dX11_readAct_3 : decode cX11_readAct 3 = .ok (.invokevirtual 156, 3) := by decide +kernel
theorem dX11_readAct_6 : decode cX11_readAct 6 = .ok (.ifCond .eq 25, 3) := by decide +kernel
theorem dX11_readAct_9 : decode cX11_readAct 9 = .ok (.aload_n 0, 1) := by decide +kernel
theorem dX11_readAct_10 : decode cX11_readAct 10 = .ok (.getfield 64, 3) := by decide +kernel
theorem dX11_readAct_13 : decode cX11_readAct 13 = .ok (.iload_n 1, 1) := by decide +kernel
theorem dX11_readAct_14 : decode cX11_readAct 14 = .ok (.bipush 119, 2) := by decide +kernel
theorem dX11_readAct_16 : decode cX11_readAct 16 = .ok (.iastore, 1) := by decide +kernel
theorem dX11_readAct_17 : decode cX11_readAct 17 = .ok (.aload_n 0, 1) := by decide +kernel
theorem dX11_readAct_18 : decode cX11_readAct 18 = .ok (.getfield 64, 3) := by decide +kernel
theorem dX11_readAct_21 : decode cX11_readAct 21 = .ok (.iload_n 1, 1) := by decide +kernel
theorem dX11_readAct_22 : decode cX11_readAct 22 = .ok (.iconst 1, 1) := by decide +kernel
theorem dX11_readAct_23 : decode cX11_readAct 23 = .ok (.iadd, 1) := by decide +kernel
theorem dX11_readAct_24 : decode cX11_readAct 24 = .ok (.aload_n 0, 1) := by decide +kernel
theorem dX11_readAct_25 : decode cX11_readAct 25 = .ok (.iconst 2, 1) := by decide +kernel
theorem dX11_readAct_26 : decode cX11_readAct 26 = .ok (.invokevirtual 190, 3) := by decide +kernel
theorem dX11_readAct_29 : decode cX11_readAct 29 = .ok (.iastore, 1) := by decide +kernel
theorem dX11_readAct_30 : decode cX11_readAct 30 = .ok (.return_, 1) := by decide +kernel
theorem dX11_readAct_31 : decode cX11_readAct 31 = .ok (.aload_n 0, 1) := by decide +kernel
theorem dX11_readAct_32 : decode cX11_readAct 32 = .ok (.getfield 64, 3) := by decide +kernel
theorem dX11_readAct_35 : decode cX11_readAct 35 = .ok (.iload_n 1, 1) := by decide +kernel
theorem dX11_readAct_36 : decode cX11_readAct 36 = .ok (.iconst 1, 1) := by decide +kernel
theorem dX11_readAct_37 : decode cX11_readAct 37 = .ok (.iadd, 1) := by decide +kernel
theorem dX11_readAct_38 : decode cX11_readAct 38 = .ok (.aload_n 0, 1) := by decide +kernel
theorem dX11_readAct_39 : decode cX11_readAct 39 = .ok (.bipush 97, 2) := by decide +kernel
theorem dX11_readAct_41 : decode cX11_readAct 41 = .ok (.iconst 4, 1) := by decide +kernel
theorem dX11_readAct_42 : decode cX11_readAct 42 = .ok (.invokevirtual 164, 3) := by decide +kernel
theorem dX11_readAct_45 : decode cX11_readAct 45 = .ok (.iastore, 1) := by decide +kernel
theorem dX11_readAct_46 : decode cX11_readAct 46 = .ok (.aload_n 0, 1) := by decide +kernel
theorem dX11_readAct_47 : decode cX11_readAct 47 = .ok (.invokevirtual 152, 3) := by decide +kernel
theorem dX11_readAct_50 : decode cX11_readAct 50 = .ok (.istore_n 2, 1) := by decide +kernel
theorem dX11_readAct_51 : decode cX11_readAct 51 = .ok (.aload_n 0, 1) := by decide +kernel
theorem dX11_readAct_52 : decode cX11_readAct 52 = .ok (.invokevirtual 148, 3) := by decide +kernel
theorem dX11_readAct_55 : decode cX11_readAct 55 = .ok (.ifCond .eq 40, 3) := by decide +kernel
theorem dX11_readAct_58 : decode cX11_readAct 58 = .ok (.iload_n 2, 1) := by decide +kernel
theorem dX11_readAct_59 : decode cX11_readAct 59 = .ok (.bipush 62, 2) := by decide +kernel
theorem dX11_readAct_61 : decode cX11_readAct 61 = .ok (.if_icmp .eq 34, 3) := by decide +kernel
theorem dX11_readAct_64 : decode cX11_readAct 64 = .ok (.iload_n 2, 1) := by decide +kernel
theorem dX11_readAct_65 : decode cX11_readAct 65 = .ok (.bipush 60, 2) := by decide +kernel
theorem dX11_readAct_67 : decode cX11_readAct 67 = .ok (.if_icmp .eq 28, 3) := by decide +kernel
theorem dX11_readAct_70 : decode cX11_readAct 70 = .ok (.iload_n 2, 1) := by decide +kernel
theorem dX11_readAct_71 : decode cX11_readAct 71 = .ok (.bipush 33, 2) := by decide +kernel
theorem dX11_readAct_73 : decode cX11_readAct 73 = .ok (.if_icmp .eq 22, 3) := by decide +kernel
theorem dX11_readAct_76 : decode cX11_readAct 76 = .ok (.iload_n 2, 1) := by decide +kernel
theorem dX11_readAct_77 : decode cX11_readAct 77 = .ok (.bipush 48, 2) := by decide +kernel
theorem dX11_readAct_79 : decode cX11_readAct 79 = .ok (.bipush 57, 2) := by decide +kernel
theorem dX11_readAct_81 : decode cX11_readAct 81 = .ok (.invokestatic 116, 3) := by decide +kernel
theorem dX11_readAct_84 : decode cX11_readAct 84 = .ok (.ifCond .ne 11, 3) := by decide +kernel
theorem dX11_readAct_87 : decode cX11_readAct 87 = .ok (.aload_n 0, 1) := by decide +kernel
theorem dX11_readAct_88 : decode cX11_readAct 88 = .ok (.aload_n 0, 1) := by decide +kernel
theorem dX11_readAct_89 : decode cX11_readAct 89 = .ok (.getfield 138, 3) := by decide +kernel
theorem dX11_readAct_92 : decode cX11_readAct 92 = .ok (.invokevirtual 160, 3) := by decide +kernel
theorem dX11_readAct_95 : decode cX11_readAct 95 = .ok (.aload_n 0, 1) := by decide +kernel
theorem dX11_readAct_96 : decode cX11_readAct 96 = .ok (.dup, 1) := by decide +kernel
theorem dX11_readAct_97 : decode cX11_readAct 97 = .ok (.getfield 138, 3) := by decide +kernel
theorem dX11_readAct_100 : decode cX11_readAct 100 = .ok (.iconst 1, 1) := by decide +kernel
theorem dX11_readAct_101 : decode cX11_readAct 101 = .ok (.iadd, 1) := by decide +kernel
theorem dX11_readAct_102 : decode cX11_readAct 102 = .ok (.putfield 138, 3) := by decide +kernel
theorem dX11_readAct_105 : decode cX11_readAct 105 = .ok (.aload_n 0, 1) := by decide +kernel
theorem dX11_readAct_106 : decode cX11_readAct 106 = .ok (.getfield 64, 3) := by decide +kernel
theorem dX11_readAct_109 : decode cX11_readAct 109 = .ok (.iload_n 1, 1) := by decide +kernel
theorem dX11_readAct_110 : decode cX11_readAct 110 = .ok (.iload_n 2, 1) := by decide +kernel
theorem dX11_readAct_111 : decode cX11_readAct 111 = .ok (.bipush 48, 2) := by decide +kernel
theorem dX11_readAct_113 : decode cX11_readAct 113 = .ok (.bipush 57, 2) := by decide +kernel
theorem dX11_readAct_115 : decode cX11_readAct 115 = .ok (.invokestatic 116, 3) := by decide +kernel
theorem dX11_readAct_118 : decode cX11_readAct 118 = .ok (.ifCond .eq 8, 3) := by decide +kernel
theorem dX11_readAct_121 : decode cX11_readAct 121 = .ok (.bipush 115, 2) := by decide +kernel
theorem dX11_readAct_123 : decode cX11_readAct 123 = .ok (.goto 4, 3) := by decide +kernel
theorem dX11_readAct_126 : decode cX11_readAct 126 = .ok (.iload_n 2, 1) := by decide +kernel
theorem dX11_readAct_127 : decode cX11_readAct 127 = .ok (.iastore, 1) := by decide +kernel
theorem dX11_readAct_128 : decode cX11_readAct 128 = .ok (.aload_n 0, 1) := by decide +kernel
theorem dX11_readAct_129 : decode cX11_readAct 129 = .ok (.getfield 64, 3) := by decide +kernel
theorem dX11_readAct_132 : decode cX11_readAct 132 = .ok (.iload_n 1, 1) := by decide +kernel
theorem dX11_readAct_133 : decode cX11_readAct 133 = .ok (.iconst 2, 1) := by decide +kernel
theorem dX11_readAct_134 : decode cX11_readAct 134 = .ok (.iadd, 1) := by decide +kernel
theorem dX11_readAct_135 : decode cX11_readAct 135 = .ok (.iload_n 2, 1) := by decide +kernel
theorem dX11_readAct_136 : decode cX11_readAct 136 = .ok (.bipush 48, 2) := by decide +kernel
theorem dX11_readAct_138 : decode cX11_readAct 138 = .ok (.isub, 1) := by decide +kernel
theorem dX11_readAct_139 : decode cX11_readAct 139 = .ok (.iastore, 1) := by decide +kernel
theorem dX11_readAct_140 : decode cX11_readAct 140 = .ok (.return_, 1) := by decide +kernel
theorem dX11_act_0 : decode cX11_act 0 = .ok (.iload_n 1, 1) := by decide +kernel
theorem dX11_act_1 : decode cX11_act 1 = .ok (.bipush 119, 2) := by decide +kernel
theorem dX11_act_3 : decode cX11_act 3 = .ok (.if_icmp .ne 16, 3) := by decide +kernel
theorem dX11_act_6 : decode cX11_act 6 = .ok (.aload_n 0, 1) := by decide +kernel
theorem dX11_act_7 : decode cX11_act 7 = .ok (.getfield 9, 3) := by decide +kernel
theorem dX11_act_10 : decode cX11_act 10 = .ok (.bipush 12, 2) := by decide +kernel
theorem dX11_act_12 : decode cX11_act 12 = .ok (.dup2, 1) := by decide +kernel
theorem dX11_act_13 : decode cX11_act 13 = .ok (.iaload, 1) := by decide +kernel
theorem dX11_act_14 : decode cX11_act 14 = .ok (.iload_n 2, 1) := by decide +kernel
theorem dX11_act_15 : decode cX11_act 15 = .ok (.iadd, 1) := by decide +kernel
theorem dX11_act_16 : decode cX11_act 16 = .ok (.iastore, 1) := by decide +kernel
theorem dX11_act_17 : decode cX11_act 17 = .ok (.iconst 1, 1) := by decide +kernel
theorem dX11_act_18 : decode cX11_act 18 = .ok (.ireturn, 1) := by decide +kernel
theorem dX11_act_19 : decode cX11_act 19 = .ok (.aload_n 0, 1) := by decide +kernel
theorem dX11_act_20 : decode cX11_act 20 = .ok (.iload_n 2, 1) := by decide +kernel
theorem dX11_act_21 : decode cX11_act 21 = .ok (.invokevirtual 258, 3) := by decide +kernel
theorem dX11_act_24 : decode cX11_act 24 = .ok (.ifCond .ne 5, 3) := by decide +kernel
theorem dX11_act_27 : decode cX11_act 27 = .ok (.iconst 0, 1) := by decide +kernel
theorem dX11_act_28 : decode cX11_act 28 = .ok (.ireturn, 1) := by decide +kernel
theorem dX11_act_29 : decode cX11_act 29 = .ok (.iload_n 1, 1) := by decide +kernel
theorem dX11_act_30 : decode cX11_act 30 = .ok (.bipush 62, 2) := by decide +kernel
theorem dX11_act_32 : decode cX11_act 32 = .ok (.if_icmp .eq 9, 3) := by decide +kernel
theorem dX11_act_35 : decode cX11_act 35 = .ok (.iload_n 1, 1) := by decide +kernel
theorem dX11_act_36 : decode cX11_act 36 = .ok (.bipush 60, 2) := by decide +kernel
theorem dX11_act_38 : decode cX11_act 38 = .ok (.if_icmp .ne 45, 3) := by decide +kernel
theorem dX11_act_41 : decode cX11_act 41 = .ok (.iload_n 1, 1) := by decide +kernel
theorem dX11_act_42 : decode cX11_act 42 = .ok (.bipush 62, 2) := by decide +kernel
theorem dX11_act_44 : decode cX11_act 44 = .ok (.if_icmp .ne 7, 3) := by decide +kernel
theorem dX11_act_47 : decode cX11_act 47 = .ok (.iconst 1, 1) := by decide +kernel
theorem dX11_act_48 : decode cX11_act 48 = .ok (.goto 4, 3) := by decide +kernel
theorem dX11_act_51 : decode cX11_act 51 = .ok (.iconst 0, 1) := by decide +kernel
theorem dX11_act_52 : decode cX11_act 52 = .ok (.istore 4, 2) := by decide +kernel
theorem dX11_act_54 : decode cX11_act 54 = .ok (.aload_n 0, 1) := by decide +kernel
theorem dX11_act_55 : decode cX11_act 55 = .ok (.aload_n 0, 1) := by decide +kernel
theorem dX11_act_56 : decode cX11_act 56 = .ok (.getfield 9, 3) := by decide +kernel
theorem dX11_act_59 : decode cX11_act 59 = .ok (.iload_n 2, 1) := by decide +kernel
theorem dX11_act_60 : decode cX11_act 60 = .ok (.iload 4, 2) := by decide +kernel
theorem dX11_act_62 : decode cX11_act 62 = .ok (.invokevirtual 278, 3) := by decide +kernel
theorem dX11_act_65 : decode cX11_act 65 = .ok (.ifCond .ge 5, 3) := by decide +kernel
theorem dX11_act_68 : decode cX11_act 68 = .ok (.iconst 0, 1) := by decide +kernel
theorem dX11_act_69 : decode cX11_act 69 = .ok (.ireturn, 1) := by decide +kernel
theorem dX11_act_70 : decode cX11_act 70 = .ok (.aload_n 0, 1) := by decide +kernel
theorem dX11_act_71 : decode cX11_act 71 = .ok (.getfield 9, 3) := by decide +kernel
theorem dX11_act_74 : decode cX11_act 74 = .ok (.iload_n 2, 1) := by decide +kernel
theorem dX11_act_75 : decode cX11_act 75 = .ok (.iload 4, 2) := by decide +kernel
theorem dX11_act_77 : decode cX11_act 77 = .ok (.invokestatic 286, 3) := by decide +kernel
theorem dX11_act_80 : decode cX11_act 80 = .ok (.pop, 1) := by decide +kernel
theorem dX11_act_81 : decode cX11_act 81 = .ok (.iconst 1, 1) := by decide +kernel
theorem dX11_act_82 : decode cX11_act 82 = .ok (.ireturn, 1) := by decide +kernel
theorem dX11_act_83 : decode cX11_act 83 = .ok (.iload_n 1, 1) := by decide +kernel
theorem dX11_act_84 : decode cX11_act 84 = .ok (.bipush 115, 2) := by decide +kernel
theorem dX11_act_86 : decode cX11_act 86 = .ok (.if_icmp .ne 7, 3) := by decide +kernel
theorem dX11_act_89 : decode cX11_act 89 = .ok (.iload_n 3, 1) := by decide +kernel
theorem dX11_act_90 : decode cX11_act 90 = .ok (.goto 8, 3) := by decide +kernel
theorem dX11_act_93 : decode cX11_act 93 = .ok (.aload_n 0, 1) := by decide +kernel
theorem dX11_act_94 : decode cX11_act 94 = .ok (.iload_n 2, 1) := by decide +kernel
theorem dX11_act_95 : decode cX11_act 95 = .ok (.invokevirtual 310, 3) := by decide +kernel
theorem dX11_act_98 : decode cX11_act 98 = .ok (.istore 4, 2) := by decide +kernel
theorem dX11_act_100 : decode cX11_act 100 = .ok (.iload 4, 2) := by decide +kernel
theorem dX11_act_102 : decode cX11_act 102 = .ok (.ifCond .lt 17, 3) := by decide +kernel
theorem dX11_act_105 : decode cX11_act 105 = .ok (.aload_n 0, 1) := by decide +kernel
theorem dX11_act_106 : decode cX11_act 106 = .ok (.aload_n 0, 1) := by decide +kernel
theorem dX11_act_107 : decode cX11_act 107 = .ok (.getfield 9, 3) := by decide +kernel
theorem dX11_act_110 : decode cX11_act 110 = .ok (.iload_n 2, 1) := by decide +kernel
theorem dX11_act_111 : decode cX11_act 111 = .ok (.iload 4, 2) := by decide +kernel
theorem dX11_act_113 : decode cX11_act 113 = .ok (.invokevirtual 295, 3) := by decide +kernel
theorem dX11_act_116 : decode cX11_act 116 = .ok (.ifCond .ge 5, 3) := by decide +kernel
theorem dX11_act_119 : decode cX11_act 119 = .ok (.iconst 0, 1) := by decide +kernel
theorem dX11_act_120 : decode cX11_act 120 = .ok (.ireturn, 1) := by decide +kernel
theorem dX11_act_121 : decode cX11_act 121 = .ok (.aload_n 0, 1) := by decide +kernel
theorem dX11_act_122 : decode cX11_act 122 = .ok (.dup, 1) := by decide +kernel
theorem dX11_act_123 : decode cX11_act 123 = .ok (.getfield 304, 3) := by decide +kernel
theorem dX11_act_126 : decode cX11_act 126 = .ok (.aload_n 0, 1) := by decide +kernel
theorem dX11_act_127 : decode cX11_act 127 = .ok (.aload_n 0, 1) := by decide +kernel
theorem dX11_act_128 : decode cX11_act 128 = .ok (.getfield 9, 3) := by decide +kernel
theorem dX11_act_131 : decode cX11_act 131 = .ok (.iload_n 2, 1) := by decide +kernel
theorem dX11_act_132 : decode cX11_act 132 = .ok (.iload 4, 2) := by decide +kernel
theorem dX11_act_134 : decode cX11_act 134 = .ok (.invokevirtual 298, 3) := by decide +kernel
theorem dX11_act_137 : decode cX11_act 137 = .ok (.iadd, 1) := by decide +kernel
theorem dX11_act_138 : decode cX11_act 138 = .ok (.putfield 304, 3) := by decide +kernel
theorem dX11_act_141 : decode cX11_act 141 = .ok (.iconst 1, 1) := by decide +kernel
theorem dX11_act_142 : decode cX11_act 142 = .ok (.ireturn, 1) := by decide +kernel
theorem dX11_wordFor_0 : decode cX11_wordFor 0 = .ok (.iconst 0, 1) := by decide +kernel
theorem dX11_wordFor_1 : decode cX11_wordFor 1 = .ok (.istore_n 2, 1) := by decide +kernel
theorem dX11_wordFor_2 : decode cX11_wordFor 2 = .ok (.iload_n 2, 1) := by decide +kernel
theorem dX11_wordFor_3 : decode cX11_wordFor 3 = .ok (.aload_n 0, 1) := by decide +kernel
theorem dX11_wordFor_4 : decode cX11_wordFor 4 = .ok (.getfield 168, 3) := by decide +kernel
theorem dX11_wordFor_7 : decode cX11_wordFor 7 = .ok (.if_icmp .ge 53, 3) := by decide +kernel
theorem dX11_wordFor_10 : decode cX11_wordFor 10 = .ok (.aload_n 0, 1) := by decide +kernel
theorem dX11_wordFor_11 : decode cX11_wordFor 11 = .ok (.iload_n 1, 1) := by decide +kernel
theorem dX11_wordFor_12 : decode cX11_wordFor 12 = .ok (.invokevirtual 261, 3) := by decide +kernel
theorem dX11_wordFor_15 : decode cX11_wordFor 15 = .ok (.iload_n 2, 1) := by decide +kernel
theorem dX11_wordFor_16 : decode cX11_wordFor 16 = .ok (.invokestatic 254, 3) := by decide +kernel
theorem dX11_wordFor_19 : decode cX11_wordFor 19 = .ok (.ifCond .eq 35, 3) := by decide +kernel
theorem dX11_wordFor_22 : decode cX11_wordFor 22 = .ok (.aload_n 0, 1) := by decide +kernel
theorem dX11_wordFor_23 : decode cX11_wordFor 23 = .ok (.iload_n 2, 1) := by decide +kernel
theorem dX11_wordFor_24 : decode cX11_wordFor 24 = .ok (.iconst 2, 1) := by decide +kernel
theorem dX11_wordFor_25 : decode cX11_wordFor 25 = .ok (.invokevirtual 251, 3) := by decide +kernel
theorem dX11_wordFor_28 : decode cX11_wordFor 28 = .ok (.aload_n 0, 1) := by decide +kernel
theorem dX11_wordFor_29 : decode cX11_wordFor 29 = .ok (.getfield 9, 3) := by decide +kernel
theorem dX11_wordFor_32 : decode cX11_wordFor 32 = .ok (.iload_n 1, 1) := by decide +kernel
theorem dX11_wordFor_33 : decode cX11_wordFor 33 = .ok (.iaload, 1) := by decide +kernel
theorem dX11_wordFor_34 : decode cX11_wordFor 34 = .ok (.if_icmp .ne 20, 3) := by decide +kernel
theorem dX11_wordFor_37 : decode cX11_wordFor 37 = .ok (.aload_n 0, 1) := by decide +kernel
theorem dX11_wordFor_38 : decode cX11_wordFor 38 = .ok (.aload_n 0, 1) := by decide +kernel
theorem dX11_wordFor_39 : decode cX11_wordFor 39 = .ok (.iload_n 2, 1) := by decide +kernel
theorem dX11_wordFor_40 : decode cX11_wordFor 40 = .ok (.iconst 1, 1) := by decide +kernel
theorem dX11_wordFor_41 : decode cX11_wordFor 41 = .ok (.invokevirtual 251, 3) := by decide +kernel
theorem dX11_wordFor_44 : decode cX11_wordFor 44 = .ok (.aload_n 0, 1) := by decide +kernel
theorem dX11_wordFor_45 : decode cX11_wordFor 45 = .ok (.getfield 9, 3) := by decide +kernel
theorem dX11_wordFor_48 : decode cX11_wordFor 48 = .ok (.iload_n 1, 1) := by decide +kernel
theorem dX11_wordFor_49 : decode cX11_wordFor 49 = .ok (.iaload, 1) := by decide +kernel
theorem dX11_wordFor_50 : decode cX11_wordFor 50 = .ok (.invokevirtual 313, 3) := by decide +kernel
theorem dX11_wordFor_53 : decode cX11_wordFor 53 = .ok (.ireturn, 1) := by decide +kernel
theorem dX11_wordFor_54 : decode cX11_wordFor 54 = .ok (.iinc 2 1, 3) := by decide +kernel
theorem dX11_wordFor_57 : decode cX11_wordFor 57 = .ok (.goto (-55), 3) := by decide +kernel
theorem dX11_wordFor_60 : decode cX11_wordFor 60 = .ok (.iconst (-1), 1) := by decide +kernel
theorem dX11_wordFor_61 : decode cX11_wordFor 61 = .ok (.ireturn, 1) := by decide +kernel
theorem dX11_undo_0 : decode cX11_undo 0 = .ok (.aload_n 0, 1) := by decide +kernel
theorem dX11_undo_1 : decode cX11_undo 1 = .ok (.iconst 0, 1) := by decide +kernel
theorem dX11_undo_2 : decode cX11_undo 2 = .ok (.putfield 110, 3) := by decide +kernel
theorem dX11_undo_5 : decode cX11_undo 5 = .ok (.aload_n 0, 1) := by decide +kernel
theorem dX11_undo_6 : decode cX11_undo 6 = .ok (.getfield 171, 3) := by decide +kernel
theorem dX11_undo_9 : decode cX11_undo 9 = .ok (.ifCond .ne 5, 3) := by decide +kernel
theorem dX11_undo_12 : decode cX11_undo 12 = .ok (.iconst (-1), 1) := by decide +kernel
theorem dX11_undo_13 : decode cX11_undo 13 = .ok (.ireturn, 1) := by decide +kernel
theorem dX11_undo_14 : decode cX11_undo 14 = .ok (.aload_n 0, 1) := by decide +kernel
theorem dX11_undo_15 : decode cX11_undo 15 = .ok (.dup, 1) := by decide +kernel
theorem dX11_undo_16 : decode cX11_undo 16 = .ok (.getfield 171, 3) := by decide +kernel
theorem dX11_undo_19 : decode cX11_undo 19 = .ok (.iconst 1, 1) := by decide +kernel
theorem dX11_undo_20 : decode cX11_undo 20 = .ok (.isub, 1) := by decide +kernel
theorem dX11_undo_21 : decode cX11_undo 21 = .ok (.putfield 171, 3) := by decide +kernel
theorem dX11_undo_24 : decode cX11_undo 24 = .ok (.iconst 0, 1) := by decide +kernel
theorem dX11_undo_25 : decode cX11_undo 25 = .ok (.istore_n 1, 1) := by decide +kernel
theorem dX11_undo_26 : decode cX11_undo 26 = .ok (.iload_n 1, 1) := by decide +kernel
theorem dX11_undo_27 : decode cX11_undo 27 = .ok (.bipush 44, 2) := by decide +kernel
theorem dX11_undo_29 : decode cX11_undo 29 = .ok (.if_icmp .ge 29, 3) := by decide +kernel
theorem dX11_undo_32 : decode cX11_undo 32 = .ok (.aload_n 0, 1) := by decide +kernel
theorem dX11_undo_33 : decode cX11_undo 33 = .ok (.getfield 9, 3) := by decide +kernel
theorem dX11_undo_36 : decode cX11_undo 36 = .ok (.iload_n 1, 1) := by decide +kernel
theorem dX11_undo_37 : decode cX11_undo 37 = .ok (.aload_n 0, 1) := by decide +kernel
theorem dX11_undo_38 : decode cX11_undo 38 = .ok (.getfield 58, 3) := by decide +kernel
theorem dX11_undo_41 : decode cX11_undo 41 = .ok (.bipush 44, 2) := by decide +kernel
theorem dX11_undo_43 : decode cX11_undo 43 = .ok (.aload_n 0, 1) := by decide +kernel
theorem dX11_undo_44 : decode cX11_undo 44 = .ok (.getfield 171, 3) := by decide +kernel
theorem dX11_undo_47 : decode cX11_undo 47 = .ok (.imul, 1) := by decide +kernel
theorem dX11_undo_48 : decode cX11_undo 48 = .ok (.iload_n 1, 1) := by decide +kernel
theorem dX11_undo_49 : decode cX11_undo 49 = .ok (.iadd, 1) := by decide +kernel
theorem dX11_undo_50 : decode cX11_undo 50 = .ok (.iaload, 1) := by decide +kernel
theorem dX11_undo_51 : decode cX11_undo 51 = .ok (.iastore, 1) := by decide +kernel
theorem dX11_undo_52 : decode cX11_undo 52 = .ok (.iinc 1 1, 3) := by decide +kernel
theorem dX11_undo_55 : decode cX11_undo 55 = .ok (.goto (-29), 3) := by decide +kernel
theorem dX11_undo_58 : decode cX11_undo 58 = .ok (.aload_n 0, 1) := by decide +kernel
theorem dX11_undo_59 : decode cX11_undo 59 = .ok (.getfield 171, 3) := by decide +kernel
theorem dX11_undo_62 : decode cX11_undo 62 = .ok (.ireturn, 1) := by decide +kernel
theorem dX11_cheapestOf_0 : decode cX11_cheapestOf 0 = .ok (.iconst (-1), 1) := by decide +kernel
theorem dX11_cheapestOf_1 : decode cX11_cheapestOf 1 = .ok (.istore_n 3, 1) := by decide +kernel
theorem dX11_cheapestOf_2 : decode cX11_cheapestOf 2 = .ok (.iconst 0, 1) := by decide +kernel
theorem dX11_cheapestOf_3 : decode cX11_cheapestOf 3 = .ok (.istore 4, 2) := by decide +kernel
theorem dX11_cheapestOf_5 : decode cX11_cheapestOf 5 = .ok (.iload 4, 2) := by decide +kernel
theorem dX11_cheapestOf_7 : decode cX11_cheapestOf 7 = .ok (.aload_n 0, 1) := by decide +kernel
theorem dX11_cheapestOf_8 : decode cX11_cheapestOf 8 = .ok (.getfield 120, 3) := by decide +kernel
theorem dX11_cheapestOf_11 : decode cX11_cheapestOf 11 = .ok (.if_icmp .ge 43, 3) := by decide +kernel
theorem dX11_cheapestOf_14 : decode cX11_cheapestOf 14 = .ok (.aload_n 0, 1) := by decide +kernel
theorem dX11_cheapestOf_15 : decode cX11_cheapestOf 15 = .ok (.iload 4, 2) := by decide +kernel
theorem dX11_cheapestOf_17 : decode cX11_cheapestOf 17 = .ok (.iload_n 1, 1) := by decide +kernel
theorem dX11_cheapestOf_18 : decode cX11_cheapestOf 18 = .ok (.invokevirtual 292, 3) := by decide +kernel
theorem dX11_cheapestOf_21 : decode cX11_cheapestOf 21 = .ok (.ifCond .eq 27, 3) := by decide +kernel
theorem dX11_cheapestOf_24 : decode cX11_cheapestOf 24 = .ok (.iload_n 3, 1) := by decide +kernel
theorem dX11_cheapestOf_25 : decode cX11_cheapestOf 25 = .ok (.iconst (-1), 1) := by decide +kernel
theorem dX11_cheapestOf_26 : decode cX11_cheapestOf 26 = .ok (.if_icmp .eq 19, 3) := by decide +kernel
theorem dX11_cheapestOf_29 : decode cX11_cheapestOf 29 = .ok (.aload_n 0, 1) := by decide +kernel
theorem dX11_cheapestOf_30 : decode cX11_cheapestOf 30 = .ok (.iload 4, 2) := by decide +kernel
theorem dX11_cheapestOf_32 : decode cX11_cheapestOf 32 = .ok (.iload_n 2, 1) := by decide +kernel
theorem dX11_cheapestOf_33 : decode cX11_cheapestOf 33 = .ok (.invokevirtual 271, 3) := by decide +kernel
theorem dX11_cheapestOf_36 : decode cX11_cheapestOf 36 = .ok (.aload_n 0, 1) := by decide +kernel
theorem dX11_cheapestOf_37 : decode cX11_cheapestOf 37 = .ok (.iload_n 3, 1) := by decide +kernel
theorem dX11_cheapestOf_38 : decode cX11_cheapestOf 38 = .ok (.iload_n 2, 1) := by decide +kernel
theorem dX11_cheapestOf_39 : decode cX11_cheapestOf 39 = .ok (.invokevirtual 271, 3) := by decide +kernel
theorem dX11_cheapestOf_42 : decode cX11_cheapestOf 42 = .ok (.if_icmp .ge 6, 3) := by decide +kernel
theorem dX11_cheapestOf_45 : decode cX11_cheapestOf 45 = .ok (.iload 4, 2) := by decide +kernel
theorem dX11_cheapestOf_47 : decode cX11_cheapestOf 47 = .ok (.istore_n 3, 1) := by decide +kernel
theorem dX11_cheapestOf_48 : decode cX11_cheapestOf 48 = .ok (.iinc 4 1, 3) := by decide +kernel
theorem dX11_cheapestOf_51 : decode cX11_cheapestOf 51 = .ok (.goto (-46), 3) := by decide +kernel
theorem dX11_cheapestOf_54 : decode cX11_cheapestOf 54 = .ok (.iload_n 3, 1) := by decide +kernel
theorem dX11_cheapestOf_55 : decode cX11_cheapestOf 55 = .ok (.ireturn, 1) := by decide +kernel
theorem dX11_cheapest_0 : decode cX11_cheapest 0 = .ok (.aload_n 0, 1) := by decide +kernel
theorem dX11_cheapest_1 : decode cX11_cheapest 1 = .ok (.iconst 0, 1) := by decide +kernel
theorem dX11_cheapest_2 : decode cX11_cheapest 2 = .ok (.putfield 110, 3) := by decide +kernel
theorem dX11_cheapest_5 : decode cX11_cheapest 5 = .ok (.iload_n 1, 1) := by decide +kernel
theorem dX11_cheapest_6 : decode cX11_cheapest 6 = .ok (.invokestatic 316, 3) := by decide +kernel
theorem dX11_cheapest_9 : decode cX11_cheapest 9 = .ok (.ifCond .eq 11, 3) := by decide +kernel
theorem dX11_cheapest_12 : decode cX11_cheapest 12 = .ok (.aload_n 0, 1) := by decide +kernel
theorem dX11_cheapest_13 : decode cX11_cheapest 13 = .ok (.iload_n 2, 1) := by decide +kernel
theorem dX11_cheapest_14 : decode cX11_cheapest 14 = .ok (.invokevirtual 264, 3) := by decide +kernel
theorem dX11_cheapest_17 : decode cX11_cheapest 17 = .ok (.ifCond .ne 5, 3) := by decide +kernel
theorem dX11_cheapest_20 : decode cX11_cheapest 20 = .ok (.iconst (-1), 1) := by decide +kernel
theorem dX11_cheapest_21 : decode cX11_cheapest 21 = .ok (.ireturn, 1) := by decide +kernel
theorem dX11_cheapest_22 : decode cX11_cheapest 22 = .ok (.aload_n 0, 1) := by decide +kernel
theorem dX11_cheapest_23 : decode cX11_cheapest 23 = .ok (.iload_n 1, 1) := by decide +kernel
theorem dX11_cheapest_24 : decode cX11_cheapest 24 = .ok (.iload_n 2, 1) := by decide +kernel
theorem dX11_cheapest_25 : decode cX11_cheapest 25 = .ok (.invokevirtual 313, 3) := by decide +kernel
theorem dX11_cheapest_28 : decode cX11_cheapest 28 = .ok (.istore_n 3, 1) := by decide +kernel
theorem dX11_cheapest_29 : decode cX11_cheapest 29 = .ok (.iload_n 3, 1) := by decide +kernel
theorem dX11_cheapest_30 : decode cX11_cheapest 30 = .ok (.iconst (-1), 1) := by decide +kernel
theorem dX11_cheapest_31 : decode cX11_cheapest 31 = .ok (.if_icmp .ne 6, 3) := by decide +kernel
theorem dX11_cheapest_34 : decode cX11_cheapest 34 = .ok (.bipush (-2), 2) := by decide +kernel
theorem dX11_cheapest_36 : decode cX11_cheapest 36 = .ok (.ireturn, 1) := by decide +kernel
theorem dX11_cheapest_37 : decode cX11_cheapest 37 = .ok (.iconst 0, 1) := by decide +kernel
theorem dX11_cheapest_38 : decode cX11_cheapest 38 = .ok (.istore 4, 2) := by decide +kernel
theorem dX11_cheapest_40 : decode cX11_cheapest 40 = .ok (.iconst 0, 1) := by decide +kernel
theorem dX11_cheapest_41 : decode cX11_cheapest 41 = .ok (.istore 5, 2) := by decide +kernel
theorem dX11_cheapest_43 : decode cX11_cheapest 43 = .ok (.iload 5, 2) := by decide +kernel
theorem dX11_cheapest_45 : decode cX11_cheapest 45 = .ok (.aload_n 0, 1) := by decide +kernel
theorem dX11_cheapest_46 : decode cX11_cheapest 46 = .ok (.getfield 120, 3) := by decide +kernel
theorem dX11_cheapest_49 : decode cX11_cheapest 49 = .ok (.if_icmp .ge 29, 3) := by decide +kernel
theorem dX11_cheapest_52 : decode cX11_cheapest 52 = .ok (.iload 4, 2) := by decide +kernel
theorem dX11_cheapest_54 : decode cX11_cheapest 54 = .ok (.aload_n 0, 1) := by decide +kernel
theorem dX11_cheapest_55 : decode cX11_cheapest 55 = .ok (.iload 5, 2) := by decide +kernel
theorem dX11_cheapest_57 : decode cX11_cheapest 57 = .ok (.iload_n 1, 1) := by decide +kernel
theorem dX11_cheapest_58 : decode cX11_cheapest 58 = .ok (.invokevirtual 292, 3) := by decide +kernel
theorem dX11_cheapest_61 : decode cX11_cheapest 61 = .ok (.ifCond .eq 7, 3) := by decide +kernel
theorem dX11_cheapest_64 : decode cX11_cheapest 64 = .ok (.iconst 1, 1) := by decide +kernel
theorem dX11_cheapest_65 : decode cX11_cheapest 65 = .ok (.goto 4, 3) := by decide +kernel
theorem dX11_cheapest_68 : decode cX11_cheapest 68 = .ok (.iconst 0, 1) := by decide +kernel
theorem dX11_cheapest_69 : decode cX11_cheapest 69 = .ok (.iadd, 1) := by decide +kernel
theorem dX11_cheapest_70 : decode cX11_cheapest 70 = .ok (.istore 4, 2) := by decide +kernel
theorem dX11_cheapest_72 : decode cX11_cheapest 72 = .ok (.iinc 5 1, 3) := by decide +kernel
theorem dX11_cheapest_75 : decode cX11_cheapest 75 = .ok (.goto (-32), 3) := by decide +kernel
theorem dX11_cheapest_78 : decode cX11_cheapest 78 = .ok (.aload_n 0, 1) := by decide +kernel
theorem dX11_cheapest_79 : decode cX11_cheapest 79 = .ok (.iconst 0, 1) := by decide +kernel
theorem dX11_cheapest_80 : decode cX11_cheapest 80 = .ok (.putfield 113, 3) := by decide +kernel
theorem dX11_cheapest_83 : decode cX11_cheapest 83 = .ok (.aload_n 0, 1) := by decide +kernel
theorem dX11_cheapest_84 : decode cX11_cheapest 84 = .ok (.aload_n 0, 1) := by decide +kernel
theorem dX11_cheapest_85 : decode cX11_cheapest 85 = .ok (.iload_n 3, 1) := by decide +kernel
theorem dX11_cheapest_86 : decode cX11_cheapest 86 = .ok (.iload_n 2, 1) := by decide +kernel
theorem dX11_cheapest_87 : decode cX11_cheapest 87 = .ok (.invokevirtual 271, 3) := by decide +kernel
theorem dX11_cheapest_90 : decode cX11_cheapest 90 = .ok (.i2l, 1) := by decide +kernel
theorem dX11_cheapest_91 : decode cX11_cheapest 91 = .ok (.invokevirtual 274, 3) := by decide +kernel
theorem dX11_cheapest_94 : decode cX11_cheapest 94 = .ok (.aload_n 0, 1) := by decide +kernel
theorem dX11_cheapest_95 : decode cX11_cheapest 95 = .ok (.iload 4, 2) := by decide +kernel
theorem dX11_cheapest_97 : decode cX11_cheapest 97 = .ok (.i2l, 1) := by decide +kernel
theorem dX11_cheapest_98 : decode cX11_cheapest 98 = .ok (.invokevirtual 274, 3) := by decide +kernel
theorem dX11_cheapest_101 : decode cX11_cheapest 101 = .ok (.iload_n 3, 1) := by decide +kernel
theorem dX11_cheapest_102 : decode cX11_cheapest 102 = .ok (.ireturn, 1) := by decide +kernel
theorem dX11_tells_0 : decode cX11_tells 0 = .ok (.aload_n 0, 1) := by decide +kernel
theorem dX11_tells_1 : decode cX11_tells 1 = .ok (.getfield 24, 3) := by decide +kernel
theorem dX11_tells_4 : decode cX11_tells 4 = .ok (.iconst 2, 1) := by decide +kernel
theorem dX11_tells_5 : decode cX11_tells 5 = .ok (.iload_n 1, 1) := by decide +kernel
theorem dX11_tells_6 : decode cX11_tells 6 = .ok (.imul, 1) := by decide +kernel
theorem dX11_tells_7 : decode cX11_tells 7 = .ok (.iaload, 1) := by decide +kernel
theorem dX11_tells_8 : decode cX11_tells 8 = .ok (.aload_n 0, 1) := by decide +kernel
theorem dX11_tells_9 : decode cX11_tells 9 = .ok (.getfield 30, 3) := by decide +kernel
theorem dX11_tells_12 : decode cX11_tells 12 = .ok (.iload_n 2, 1) := by decide +kernel
theorem dX11_tells_13 : decode cX11_tells 13 = .ok (.baload, 1) := by decide +kernel
theorem dX11_tells_14 : decode cX11_tells 14 = .ok (.bipush 48, 2) := by decide +kernel
theorem dX11_tells_16 : decode cX11_tells 16 = .ok (.isub, 1) := by decide +kernel
theorem dX11_tells_17 : decode cX11_tells 17 = .ok (.if_icmp .eq 5, 3) := by decide +kernel
theorem dX11_tells_20 : decode cX11_tells 20 = .ok (.iconst 0, 1) := by decide +kernel
theorem dX11_tells_21 : decode cX11_tells 21 = .ok (.ireturn, 1) := by decide +kernel
theorem dX11_tells_22 : decode cX11_tells 22 = .ok (.aload_n 0, 1) := by decide +kernel
theorem dX11_tells_23 : decode cX11_tells 23 = .ok (.getfield 24, 3) := by decide +kernel
theorem dX11_tells_26 : decode cX11_tells 26 = .ok (.iconst 2, 1) := by decide +kernel
theorem dX11_tells_27 : decode cX11_tells 27 = .ok (.iload_n 1, 1) := by decide +kernel
theorem dX11_tells_28 : decode cX11_tells 28 = .ok (.imul, 1) := by decide +kernel
theorem dX11_tells_29 : decode cX11_tells 29 = .ok (.iconst 1, 1) := by decide +kernel
theorem dX11_tells_30 : decode cX11_tells 30 = .ok (.iadd, 1) := by decide +kernel
theorem dX11_tells_31 : decode cX11_tells 31 = .ok (.iaload, 1) := by decide +kernel
theorem dX11_tells_32 : decode cX11_tells 32 = .ok (.iconst (-1), 1) := by decide +kernel
theorem dX11_tells_33 : decode cX11_tells 33 = .ok (.if_icmp .ne 5, 3) := by decide +kernel
theorem dX11_tells_36 : decode cX11_tells 36 = .ok (.iconst 1, 1) := by decide +kernel
theorem dX11_tells_37 : decode cX11_tells 37 = .ok (.ireturn, 1) := by decide +kernel
theorem dX11_tells_38 : decode cX11_tells 38 = .ok (.iload_n 2, 1) := by decide +kernel
theorem dX11_tells_39 : decode cX11_tells 39 = .ok (.iconst 1, 1) := by decide +kernel
theorem dX11_tells_40 : decode cX11_tells 40 = .ok (.iadd, 1) := by decide +kernel
theorem dX11_tells_41 : decode cX11_tells 41 = .ok (.iload_n 3, 1) := by decide +kernel
theorem dX11_tells_42 : decode cX11_tells 42 = .ok (.if_icmp .ge 31, 3) := by decide +kernel
theorem dX11_tells_45 : decode cX11_tells 45 = .ok (.aload_n 0, 1) := by decide +kernel
theorem dX11_tells_46 : decode cX11_tells 46 = .ok (.getfield 24, 3) := by decide +kernel
theorem dX11_tells_49 : decode cX11_tells 49 = .ok (.iconst 2, 1) := by decide +kernel
theorem dX11_tells_50 : decode cX11_tells 50 = .ok (.iload_n 1, 1) := by decide +kernel
theorem dX11_tells_51 : decode cX11_tells 51 = .ok (.imul, 1) := by decide +kernel
theorem dX11_tells_52 : decode cX11_tells 52 = .ok (.iconst 1, 1) := by decide +kernel
theorem dX11_tells_53 : decode cX11_tells 53 = .ok (.iadd, 1) := by decide +kernel
theorem dX11_tells_54 : decode cX11_tells 54 = .ok (.iaload, 1) := by decide +kernel
theorem dX11_tells_55 : decode cX11_tells 55 = .ok (.aload_n 0, 1) := by decide +kernel
theorem dX11_tells_56 : decode cX11_tells 56 = .ok (.getfield 30, 3) := by decide +kernel
theorem dX11_tells_59 : decode cX11_tells 59 = .ok (.iload_n 2, 1) := by decide +kernel
theorem dX11_tells_60 : decode cX11_tells 60 = .ok (.iconst 1, 1) := by decide +kernel
theorem dX11_tells_61 : decode cX11_tells 61 = .ok (.iadd, 1) := by decide +kernel
theorem dX11_tells_62 : decode cX11_tells 62 = .ok (.baload, 1) := by decide +kernel
theorem dX11_tells_63 : decode cX11_tells 63 = .ok (.bipush 48, 2) := by decide +kernel
theorem dX11_tells_65 : decode cX11_tells 65 = .ok (.isub, 1) := by decide +kernel
theorem dX11_tells_66 : decode cX11_tells 66 = .ok (.if_icmp .ne 7, 3) := by decide +kernel
theorem dX11_tells_69 : decode cX11_tells 69 = .ok (.iconst 2, 1) := by decide +kernel
theorem dX11_tells_70 : decode cX11_tells 70 = .ok (.goto 4, 3) := by decide +kernel
theorem dX11_tells_73 : decode cX11_tells 73 = .ok (.iconst 0, 1) := by decide +kernel
theorem dX11_tells_74 : decode cX11_tells 74 = .ok (.ireturn, 1) := by decide +kernel
theorem dX11_sentence_0 : decode cX11_sentence 0 = .ok (.aload_n 0, 1) := by decide +kernel
theorem dX11_sentence_1 : decode cX11_sentence 1 = .ok (.iconst 0, 1) := by decide +kernel
theorem dX11_sentence_2 : decode cX11_sentence 2 = .ok (.putfield 110, 3) := by decide +kernel
theorem dX11_sentence_5 : decode cX11_sentence 5 = .ok (.aload_n 0, 1) := by decide +kernel
theorem dX11_sentence_6 : decode cX11_sentence 6 = .ok (.getfield 126, 3) := by decide +kernel
theorem dX11_sentence_9 : decode cX11_sentence 9 = .ok (.istore_n 2, 1) := by decide +kernel
theorem dX11_sentence_10 : decode cX11_sentence 10 = .ok (.aload_n 0, 1) := by decide +kernel
theorem dX11_sentence_11 : decode cX11_sentence 11 = .ok (.iconst 0, 1) := by decide +kernel
theorem dX11_sentence_12 : decode cX11_sentence 12 = .ok (.putfield 126, 3) := by decide +kernel
theorem dX11_sentence_15 : decode cX11_sentence 15 = .ok (.aload_n 0, 1) := by decide +kernel
theorem dX11_sentence_16 : decode cX11_sentence 16 = .ok (.iload_n 1, 1) := by decide +kernel
theorem dX11_sentence_17 : decode cX11_sentence 17 = .ok (.invokevirtual 264, 3) := by decide +kernel
theorem dX11_sentence_20 : decode cX11_sentence 20 = .ok (.ifCond .ne 6, 3) := by decide +kernel
theorem dX11_sentence_23 : decode cX11_sentence 23 = .ok (.bipush (-100), 2) := by decide +kernel
theorem dX11_sentence_25 : decode cX11_sentence 25 = .ok (.ireturn, 1) := by decide +kernel
theorem dX11_sentence_26 : decode cX11_sentence 26 = .ok (.iconst 0, 1) := by decide +kernel
theorem dX11_sentence_27 : decode cX11_sentence 27 = .ok (.istore_n 3, 1) := by decide +kernel
theorem dX11_sentence_28 : decode cX11_sentence 28 = .ok (.iload_n 3, 1) := by decide +kernel
theorem dX11_sentence_29 : decode cX11_sentence 29 = .ok (.iload_n 2, 1) := by decide +kernel
theorem dX11_sentence_30 : decode cX11_sentence 30 = .ok (.if_icmp .ge 35, 3) := by decide +kernel
theorem dX11_sentence_33 : decode cX11_sentence 33 = .ok (.iload_n 3, 1) := by decide +kernel
theorem dX11_sentence_34 : decode cX11_sentence 34 = .ok (.bipush 12, 2) := by decide +kernel
theorem dX11_sentence_36 : decode cX11_sentence 36 = .ok (.if_icmp .eq 19, 3) := by decide +kernel
theorem dX11_sentence_39 : decode cX11_sentence 39 = .ok (.aload_n 0, 1) := by decide +kernel
theorem dX11_sentence_40 : decode cX11_sentence 40 = .ok (.getfield 30, 3) := by decide +kernel
theorem dX11_sentence_43 : decode cX11_sentence 43 = .ok (.iload_n 3, 1) := by decide +kernel
theorem dX11_sentence_44 : decode cX11_sentence 44 = .ok (.baload, 1) := by decide +kernel
theorem dX11_sentence_45 : decode cX11_sentence 45 = .ok (.bipush 48, 2) := by decide +kernel
theorem dX11_sentence_47 : decode cX11_sentence 47 = .ok (.bipush 57, 2) := by decide +kernel
theorem dX11_sentence_49 : decode cX11_sentence 49 = .ok (.invokestatic 116, 3) := by decide +kernel
theorem dX11_sentence_52 : decode cX11_sentence 52 = .ok (.ifCond .ne 7, 3) := by decide +kernel
theorem dX11_sentence_55 : decode cX11_sentence 55 = .ok (.iconst (-1), 1) := by decide +kernel
theorem dX11_sentence_56 : decode cX11_sentence 56 = .ok (.iload_n 3, 1) := by decide +kernel
theorem dX11_sentence_57 : decode cX11_sentence 57 = .ok (.isub, 1) := by decide +kernel
theorem dX11_sentence_58 : decode cX11_sentence 58 = .ok (.ireturn, 1) := by decide +kernel
theorem dX11_sentence_59 : decode cX11_sentence 59 = .ok (.iinc 3 1, 3) := by decide +kernel
theorem dX11_sentence_62 : decode cX11_sentence 62 = .ok (.goto (-34), 3) := by decide +kernel
theorem dX11_sentence_65 : decode cX11_sentence 65 = .ok (.iload_n 2, 1) := by decide +kernel
theorem dX11_sentence_66 : decode cX11_sentence 66 = .ok (.ifCond .ne 5, 3) := by decide +kernel
theorem dX11_sentence_69 : decode cX11_sentence 69 = .ok (.iconst (-1), 1) := by decide +kernel
theorem dX11_sentence_70 : decode cX11_sentence 70 = .ok (.ireturn, 1) := by decide +kernel
theorem dX11_sentence_71 : decode cX11_sentence 71 = .ok (.aload_n 0, 1) := by decide +kernel
theorem dX11_sentence_72 : decode cX11_sentence 72 = .ok (.getfield 67, 3) := by decide +kernel
theorem dX11_sentence_75 : decode cX11_sentence 75 = .ok (.iload_n 2, 1) := by decide +kernel
theorem dX11_sentence_76 : decode cX11_sentence 76 = .ok (.iconst 0, 1) := by decide +kernel
theorem dX11_sentence_77 : decode cX11_sentence 77 = .ok (.iastore, 1) := by decide +kernel
theorem dX11_sentence_78 : decode cX11_sentence 78 = .ok (.iload_n 2, 1) := by decide +kernel
theorem dX11_sentence_79 : decode cX11_sentence 79 = .ok (.iconst 1, 1) := by decide +kernel
theorem dX11_sentence_80 : decode cX11_sentence 80 = .ok (.isub, 1) := by decide +kernel
theorem dX11_sentence_81 : decode cX11_sentence 81 = .ok (.istore_n 3, 1) := by decide +kernel
theorem dX11_sentence_82 : decode cX11_sentence 82 = .ok (.iload_n 3, 1) := by decide +kernel
theorem dX11_sentence_83 : decode cX11_sentence 83 = .ok (.ifCond .lt 85, 3) := by decide +kernel
theorem dX11_sentence_86 : decode cX11_sentence 86 = .ok (.aload_n 0, 1) := by decide +kernel
theorem dX11_sentence_87 : decode cX11_sentence 87 = .ok (.getfield 67, 3) := by decide +kernel
theorem dX11_sentence_90 : decode cX11_sentence 90 = .ok (.iload_n 3, 1) := by decide +kernel
theorem dX11_sentence_91 : decode cX11_sentence 91 = .ok (.ldc_w 319, 3) := by decide +kernel
theorem dX11_sentence_94 : decode cX11_sentence 94 = .ok (.iastore, 1) := by decide +kernel
theorem dX11_sentence_95 : decode cX11_sentence 95 = .ok (.iconst 0, 1) := by decide +kernel
theorem dX11_sentence_96 : decode cX11_sentence 96 = .ok (.istore 4, 2) := by decide +kernel
theorem dX11_sentence_98 : decode cX11_sentence 98 = .ok (.iload 4, 2) := by decide +kernel
theorem dX11_sentence_100 : decode cX11_sentence 100 = .ok (.aload_n 0, 1) := by decide +kernel
theorem dX11_sentence_101 : decode cX11_sentence 101 = .ok (.getfield 120, 3) := by decide +kernel
theorem dX11_sentence_104 : decode cX11_sentence 104 = .ok (.if_icmp .ge 58, 3) := by decide +kernel
theorem dX11_sentence_107 : decode cX11_sentence 107 = .ok (.aload_n 0, 1) := by decide +kernel
theorem dX11_sentence_108 : decode cX11_sentence 108 = .ok (.iload 4, 2) := by decide +kernel
theorem dX11_sentence_110 : decode cX11_sentence 110 = .ok (.iload_n 3, 1) := by decide +kernel
theorem dX11_sentence_111 : decode cX11_sentence 111 = .ok (.iload_n 2, 1) := by decide +kernel
theorem dX11_sentence_112 : decode cX11_sentence 112 = .ok (.invokevirtual 320, 3) := by decide +kernel
theorem dX11_sentence_115 : decode cX11_sentence 115 = .ok (.ifCond .le 41, 3) := by decide +kernel
theorem dX11_sentence_118 : decode cX11_sentence 118 = .ok (.aload_n 0, 1) := by decide +kernel
theorem dX11_sentence_119 : decode cX11_sentence 119 = .ok (.getfield 67, 3) := by decide +kernel
theorem dX11_sentence_122 : decode cX11_sentence 122 = .ok (.iload_n 3, 1) := by decide +kernel
theorem dX11_sentence_123 : decode cX11_sentence 123 = .ok (.aload_n 0, 1) := by decide +kernel
theorem dX11_sentence_124 : decode cX11_sentence 124 = .ok (.getfield 67, 3) := by decide +kernel
theorem dX11_sentence_127 : decode cX11_sentence 127 = .ok (.iload_n 3, 1) := by decide +kernel
theorem dX11_sentence_128 : decode cX11_sentence 128 = .ok (.iaload, 1) := by decide +kernel
theorem dX11_sentence_129 : decode cX11_sentence 129 = .ok (.aload_n 0, 1) := by decide +kernel
theorem dX11_sentence_130 : decode cX11_sentence 130 = .ok (.iload 4, 2) := by decide +kernel
theorem dX11_sentence_132 : decode cX11_sentence 132 = .ok (.iload_n 1, 1) := by decide +kernel
theorem dX11_sentence_133 : decode cX11_sentence 133 = .ok (.invokevirtual 271, 3) := by decide +kernel
theorem dX11_sentence_136 : decode cX11_sentence 136 = .ok (.aload_n 0, 1) := by decide +kernel
theorem dX11_sentence_137 : decode cX11_sentence 137 = .ok (.getfield 67, 3) := by decide +kernel
theorem dX11_sentence_140 : decode cX11_sentence 140 = .ok (.iload_n 3, 1) := by decide +kernel
theorem dX11_sentence_141 : decode cX11_sentence 141 = .ok (.aload_n 0, 1) := by decide +kernel
theorem dX11_sentence_142 : decode cX11_sentence 142 = .ok (.iload 4, 2) := by decide +kernel
theorem dX11_sentence_144 : decode cX11_sentence 144 = .ok (.iload_n 3, 1) := by decide +kernel
theorem dX11_sentence_145 : decode cX11_sentence 145 = .ok (.iload_n 2, 1) := by decide +kernel
theorem dX11_sentence_146 : decode cX11_sentence 146 = .ok (.invokevirtual 320, 3) := by decide +kernel
theorem dX11_sentence_149 : decode cX11_sentence 149 = .ok (.iadd, 1) := by decide +kernel
theorem dX11_sentence_150 : decode cX11_sentence 150 = .ok (.iaload, 1) := by decide +kernel
theorem dX11_sentence_151 : decode cX11_sentence 151 = .ok (.iadd, 1) := by decide +kernel
theorem dX11_sentence_152 : decode cX11_sentence 152 = .ok (.invokestatic 226, 3) := by decide +kernel
theorem dX11_sentence_155 : decode cX11_sentence 155 = .ok (.iastore, 1) := by decide +kernel
theorem dX11_sentence_156 : decode cX11_sentence 156 = .ok (.iinc 4 1, 3) := by decide +kernel
theorem dX11_sentence_159 : decode cX11_sentence 159 = .ok (.goto (-61), 3) := by decide +kernel
theorem dX11_sentence_162 : decode cX11_sentence 162 = .ok (.iinc 3 (-1), 3) := by decide +kernel
theorem dX11_sentence_165 : decode cX11_sentence 165 = .ok (.goto (-83), 3) := by decide +kernel
theorem dX11_sentence_168 : decode cX11_sentence 168 = .ok (.aload_n 0, 1) := by decide +kernel
theorem dX11_sentence_169 : decode cX11_sentence 169 = .ok (.getfield 67, 3) := by decide +kernel
theorem dX11_sentence_172 : decode cX11_sentence 172 = .ok (.iconst 0, 1) := by decide +kernel
theorem dX11_sentence_173 : decode cX11_sentence 173 = .ok (.iaload, 1) := by decide +kernel
theorem dX11_sentence_174 : decode cX11_sentence 174 = .ok (.ldc_w 319, 3) := by decide +kernel
theorem dX11_sentence_177 : decode cX11_sentence 177 = .ok (.if_icmp .lt 7, 3) := by decide +kernel
theorem dX11_sentence_180 : decode cX11_sentence 180 = .ok (.sipush (-200), 3) := by decide +kernel
theorem dX11_sentence_183 : decode cX11_sentence 183 = .ok (.ireturn, 1) := by decide +kernel
theorem dX11_sentence_184 : decode cX11_sentence 184 = .ok (.aload_n 0, 1) := by decide +kernel
theorem dX11_sentence_185 : decode cX11_sentence 185 = .ok (.iconst 0, 1) := by decide +kernel
theorem dX11_sentence_186 : decode cX11_sentence 186 = .ok (.putfield 113, 3) := by decide +kernel
theorem dX11_sentence_189 : decode cX11_sentence 189 = .ok (.iconst 0, 1) := by decide +kernel
theorem dX11_sentence_190 : decode cX11_sentence 190 = .ok (.istore_n 3, 1) := by decide +kernel
theorem dX11_sentence_191 : decode cX11_sentence 191 = .ok (.iload_n 3, 1) := by decide +kernel
theorem dX11_sentence_192 : decode cX11_sentence 192 = .ok (.iload_n 2, 1) := by decide +kernel
theorem dX11_sentence_193 : decode cX11_sentence 193 = .ok (.if_icmp .ge 76, 3) := by decide +kernel
theorem dX11_sentence_196 : decode cX11_sentence 196 = .ok (.iconst 0, 1) := by decide +kernel
theorem dX11_sentence_197 : decode cX11_sentence 197 = .ok (.istore 4, 2) := by decide +kernel
theorem dX11_sentence_199 : decode cX11_sentence 199 = .ok (.aload_n 0, 1) := by decide +kernel
theorem dX11_sentence_200 : decode cX11_sentence 200 = .ok (.iload 4, 2) := by decide +kernel
theorem dX11_sentence_202 : decode cX11_sentence 202 = .ok (.iload_n 3, 1) := by decide +kernel
theorem dX11_sentence_203 : decode cX11_sentence 203 = .ok (.iload_n 2, 1) := by decide +kernel
theorem dX11_sentence_204 : decode cX11_sentence 204 = .ok (.invokevirtual 320, 3) := by decide +kernel
theorem dX11_sentence_207 : decode cX11_sentence 207 = .ok (.ifCond .eq 35, 3) := by decide +kernel
theorem dX11_sentence_210 : decode cX11_sentence 210 = .ok (.aload_n 0, 1) := by decide +kernel
theorem dX11_sentence_211 : decode cX11_sentence 211 = .ok (.iload 4, 2) := by decide +kernel
theorem dX11_sentence_213 : decode cX11_sentence 213 = .ok (.iload_n 1, 1) := by decide +kernel
theorem dX11_sentence_214 : decode cX11_sentence 214 = .ok (.invokevirtual 271, 3) := by decide +kernel
theorem dX11_sentence_217 : decode cX11_sentence 217 = .ok (.aload_n 0, 1) := by decide +kernel
theorem dX11_sentence_218 : decode cX11_sentence 218 = .ok (.getfield 67, 3) := by decide +kernel
theorem dX11_sentence_221 : decode cX11_sentence 221 = .ok (.iload_n 3, 1) := by decide +kernel
theorem dX11_sentence_222 : decode cX11_sentence 222 = .ok (.aload_n 0, 1) := by decide +kernel
theorem dX11_sentence_223 : decode cX11_sentence 223 = .ok (.iload 4, 2) := by decide +kernel
theorem dX11_sentence_225 : decode cX11_sentence 225 = .ok (.iload_n 3, 1) := by decide +kernel
theorem dX11_sentence_226 : decode cX11_sentence 226 = .ok (.iload_n 2, 1) := by decide +kernel
theorem dX11_sentence_227 : decode cX11_sentence 227 = .ok (.invokevirtual 320, 3) := by decide +kernel
theorem dX11_sentence_230 : decode cX11_sentence 230 = .ok (.iadd, 1) := by decide +kernel
theorem dX11_sentence_231 : decode cX11_sentence 231 = .ok (.iaload, 1) := by decide +kernel
theorem dX11_sentence_232 : decode cX11_sentence 232 = .ok (.iadd, 1) := by decide +kernel
theorem dX11_sentence_233 : decode cX11_sentence 233 = .ok (.aload_n 0, 1) := by decide +kernel
theorem dX11_sentence_234 : decode cX11_sentence 234 = .ok (.getfield 67, 3) := by decide +kernel
theorem dX11_sentence_237 : decode cX11_sentence 237 = .ok (.iload_n 3, 1) := by decide +kernel
theorem dX11_sentence_238 : decode cX11_sentence 238 = .ok (.iaload, 1) := by decide +kernel
theorem dX11_sentence_239 : decode cX11_sentence 239 = .ok (.if_icmp .eq 9, 3) := by decide +kernel
theorem dX11_sentence_242 : decode cX11_sentence 242 = .ok (.iinc 4 1, 3) := by decide +kernel
theorem dX11_sentence_245 : decode cX11_sentence 245 = .ok (.goto (-46), 3) := by decide +kernel
theorem dX11_sentence_248 : decode cX11_sentence 248 = .ok (.aload_n 0, 1) := by decide +kernel
theorem dX11_sentence_249 : decode cX11_sentence 249 = .ok (.iload 4, 2) := by decide +kernel
theorem dX11_sentence_251 : decode cX11_sentence 251 = .ok (.i2l, 1) := by decide +kernel
theorem dX11_sentence_252 : decode cX11_sentence 252 = .ok (.invokevirtual 274, 3) := by decide +kernel
theorem dX11_sentence_255 : decode cX11_sentence 255 = .ok (.iload_n 3, 1) := by decide +kernel
theorem dX11_sentence_256 : decode cX11_sentence 256 = .ok (.aload_n 0, 1) := by decide +kernel
theorem dX11_sentence_257 : decode cX11_sentence 257 = .ok (.iload 4, 2) := by decide +kernel
theorem dX11_sentence_259 : decode cX11_sentence 259 = .ok (.iload_n 3, 1) := by decide +kernel
theorem dX11_sentence_260 : decode cX11_sentence 260 = .ok (.iload_n 2, 1) := by decide +kernel
theorem dX11_sentence_261 : decode cX11_sentence 261 = .ok (.invokevirtual 320, 3) := by decide +kernel
theorem dX11_sentence_264 : decode cX11_sentence 264 = .ok (.iadd, 1) := by decide +kernel
theorem dX11_sentence_265 : decode cX11_sentence 265 = .ok (.istore_n 3, 1) := by decide +kernel
theorem dX11_sentence_266 : decode cX11_sentence 266 = .ok (.goto (-75), 3) := by decide +kernel
theorem dX11_sentence_269 : decode cX11_sentence 269 = .ok (.aload_n 0, 1) := by decide +kernel
theorem dX11_sentence_270 : decode cX11_sentence 270 = .ok (.getfield 67, 3) := by decide +kernel
theorem dX11_sentence_273 : decode cX11_sentence 273 = .ok (.iconst 0, 1) := by decide +kernel
theorem dX11_sentence_274 : decode cX11_sentence 274 = .ok (.iaload, 1) := by decide +kernel
theorem dX11_sentence_275 : decode cX11_sentence 275 = .ok (.ireturn, 1) := by decide +kernel
theorem dX11_when_0 : decode cX11_when 0 = .ok (.aload_n 0, 1) := by decide +kernel
theorem dX11_when_1 : decode cX11_when 1 = .ok (.iconst 0, 1) := by decide +kernel
theorem dX11_when_2 : decode cX11_when 2 = .ok (.putfield 110, 3) := by decide +kernel
theorem dX11_when_5 : decode cX11_when 5 = .ok (.aload_n 0, 1) := by decide +kernel
theorem dX11_when_6 : decode cX11_when 6 = .ok (.iload_n 1, 1) := by decide +kernel
theorem dX11_when_7 : decode cX11_when 7 = .ok (.invokevirtual 241, 3) := by decide +kernel
theorem dX11_when_10 : decode cX11_when 10 = .ok (.ifCond .eq 11, 3) := by decide +kernel
theorem dX11_when_13 : decode cX11_when 13 = .ok (.aload_n 0, 1) := by decide +kernel
theorem dX11_when_14 : decode cX11_when 14 = .ok (.iload_n 2, 1) := by decide +kernel
theorem dX11_when_15 : decode cX11_when 15 = .ok (.invokevirtual 264, 3) := by decide +kernel
theorem dX11_when_18 : decode cX11_when 18 = .ok (.ifCond .ne 5, 3) := by decide +kernel
theorem dX11_when_21 : decode cX11_when 21 = .ok (.iconst (-1), 1) := by decide +kernel
theorem dX11_when_22 : decode cX11_when 22 = .ok (.ireturn, 1) := by decide +kernel
theorem dX11_when_23 : decode cX11_when 23 = .ok (.iconst 0, 1) := by decide +kernel
theorem dX11_when_24 : decode cX11_when 24 = .ok (.istore_n 3, 1) := by decide +kernel
theorem dX11_when_25 : decode cX11_when 25 = .ok (.iconst 1, 1) := by decide +kernel
theorem dX11_when_26 : decode cX11_when 26 = .ok (.istore 4, 2) := by decide +kernel
theorem dX11_when_28 : decode cX11_when 28 = .ok (.iload 4, 2) := by decide +kernel
theorem dX11_when_30 : decode cX11_when 30 = .ok (.bipush 24, 2) := by decide +kernel
theorem dX11_when_32 : decode cX11_when 32 = .ok (.if_icmp .ge 46, 3) := by decide +kernel
theorem dX11_when_35 : decode cX11_when 35 = .ok (.aload_n 0, 1) := by decide +kernel
theorem dX11_when_36 : decode cX11_when 36 = .ok (.iload_n 1, 1) := by decide +kernel
theorem dX11_when_37 : decode cX11_when 37 = .ok (.iload_n 2, 1) := by decide +kernel
theorem dX11_when_38 : decode cX11_when 38 = .ok (.aload_n 0, 1) := by decide +kernel
theorem dX11_when_39 : decode cX11_when 39 = .ok (.getfield 9, 3) := by decide +kernel
theorem dX11_when_42 : decode cX11_when 42 = .ok (.bipush 12, 2) := by decide +kernel
theorem dX11_when_44 : decode cX11_when 44 = .ok (.iaload, 1) := by decide +kernel
theorem dX11_when_45 : decode cX11_when 45 = .ok (.iload 4, 2) := by decide +kernel
theorem dX11_when_47 : decode cX11_when 47 = .ok (.iadd, 1) := by decide +kernel
theorem dX11_when_48 : decode cX11_when 48 = .ok (.invokevirtual 234, 3) := by decide +kernel
theorem dX11_when_51 : decode cX11_when 51 = .ok (.aload_n 0, 1) := by decide +kernel
theorem dX11_when_52 : decode cX11_when 52 = .ok (.iload_n 1, 1) := by decide +kernel
theorem dX11_when_53 : decode cX11_when 53 = .ok (.iload_n 2, 1) := by decide +kernel
theorem dX11_when_54 : decode cX11_when 54 = .ok (.aload_n 0, 1) := by decide +kernel
theorem dX11_when_55 : decode cX11_when 55 = .ok (.getfield 9, 3) := by decide +kernel
theorem dX11_when_58 : decode cX11_when 58 = .ok (.bipush 12, 2) := by decide +kernel
theorem dX11_when_60 : decode cX11_when 60 = .ok (.iaload, 1) := by decide +kernel
theorem dX11_when_61 : decode cX11_when 61 = .ok (.iload_n 3, 1) := by decide +kernel
theorem dX11_when_62 : decode cX11_when 62 = .ok (.iadd, 1) := by decide +kernel
theorem dX11_when_63 : decode cX11_when 63 = .ok (.invokevirtual 234, 3) := by decide +kernel
theorem dX11_when_66 : decode cX11_when 66 = .ok (.if_icmp .ge 6, 3) := by decide +kernel
theorem dX11_when_69 : decode cX11_when 69 = .ok (.iload 4, 2) := by decide +kernel
theorem dX11_when_71 : decode cX11_when 71 = .ok (.istore_n 3, 1) := by decide +kernel
theorem dX11_when_72 : decode cX11_when 72 = .ok (.iinc 4 1, 3) := by decide +kernel
theorem dX11_when_75 : decode cX11_when 75 = .ok (.goto (-47), 3) := by decide +kernel
theorem dX11_when_78 : decode cX11_when 78 = .ok (.aload_n 0, 1) := by decide +kernel
theorem dX11_when_79 : decode cX11_when 79 = .ok (.iconst 0, 1) := by decide +kernel
theorem dX11_when_80 : decode cX11_when 80 = .ok (.putfield 113, 3) := by decide +kernel
theorem dX11_when_83 : decode cX11_when 83 = .ok (.aload_n 0, 1) := by decide +kernel
theorem dX11_when_84 : decode cX11_when 84 = .ok (.aload_n 0, 1) := by decide +kernel
theorem dX11_when_85 : decode cX11_when 85 = .ok (.iload_n 1, 1) := by decide +kernel
theorem dX11_when_86 : decode cX11_when 86 = .ok (.iload_n 2, 1) := by decide +kernel
theorem dX11_when_87 : decode cX11_when 87 = .ok (.aload_n 0, 1) := by decide +kernel
theorem dX11_when_88 : decode cX11_when 88 = .ok (.getfield 9, 3) := by decide +kernel
theorem dX11_when_91 : decode cX11_when 91 = .ok (.bipush 12, 2) := by decide +kernel
theorem dX11_when_93 : decode cX11_when 93 = .ok (.iaload, 1) := by decide +kernel
theorem dX11_when_94 : decode cX11_when 94 = .ok (.iload_n 3, 1) := by decide +kernel
theorem dX11_when_95 : decode cX11_when 95 = .ok (.iadd, 1) := by decide +kernel
theorem dX11_when_96 : decode cX11_when 96 = .ok (.invokevirtual 234, 3) := by decide +kernel
theorem dX11_when_99 : decode cX11_when 99 = .ok (.i2l, 1) := by decide +kernel
theorem dX11_when_100 : decode cX11_when 100 = .ok (.invokevirtual 274, 3) := by decide +kernel
theorem dX11_when_103 : decode cX11_when 103 = .ok (.aload_n 0, 1) := by decide +kernel
theorem dX11_when_104 : decode cX11_when 104 = .ok (.aload_n 0, 1) := by decide +kernel
theorem dX11_when_105 : decode cX11_when 105 = .ok (.iload_n 1, 1) := by decide +kernel
theorem dX11_when_106 : decode cX11_when 106 = .ok (.iload_n 2, 1) := by decide +kernel
theorem dX11_when_107 : decode cX11_when 107 = .ok (.invokevirtual 271, 3) := by decide +kernel
theorem dX11_when_110 : decode cX11_when 110 = .ok (.i2l, 1) := by decide +kernel
theorem dX11_when_111 : decode cX11_when 111 = .ok (.invokevirtual 274, 3) := by decide +kernel
theorem dX11_when_114 : decode cX11_when 114 = .ok (.iload_n 3, 1) := by decide +kernel
theorem dX11_when_115 : decode cX11_when 115 = .ok (.ireturn, 1) := by decide +kernel
theorem dX11_shortest_0 : decode cX11_shortest 0 = .ok (.aload_n 0, 1) := by decide +kernel
theorem dX11_shortest_1 : decode cX11_shortest 1 = .ok (.iconst 0, 1) := by decide +kernel
theorem dX11_shortest_2 : decode cX11_shortest 2 = .ok (.putfield 110, 3) := by decide +kernel
theorem dX11_shortest_5 : decode cX11_shortest 5 = .ok (.iload_n 1, 1) := by decide +kernel
theorem dX11_shortest_6 : decode cX11_shortest 6 = .ok (.invokestatic 316, 3) := by decide +kernel
theorem dX11_shortest_9 : decode cX11_shortest 9 = .ok (.ifCond .eq 22, 3) := by decide +kernel
theorem dX11_shortest_12 : decode cX11_shortest 12 = .ok (.aload_n 0, 1) := by decide +kernel
theorem dX11_shortest_13 : decode cX11_shortest 13 = .ok (.iload_n 2, 1) := by decide +kernel
theorem dX11_shortest_14 : decode cX11_shortest 14 = .ok (.invokevirtual 264, 3) := by decide +kernel
theorem dX11_shortest_17 : decode cX11_shortest 17 = .ok (.ifCond .eq 14, 3) := by decide +kernel
theorem dX11_shortest_20 : decode cX11_shortest 20 = .ok (.iload_n 3, 1) := by decide +kernel
theorem dX11_shortest_21 : decode cX11_shortest 21 = .ok (.iconst 0, 1) := by decide +kernel
theorem dX11_shortest_22 : decode cX11_shortest 22 = .ok (.sipush 9999, 3) := by decide +kernel
theorem dX11_shortest_25 : decode cX11_shortest 25 = .ok (.invokestatic 116, 3) := by decide +kernel
theorem dX11_shortest_28 : decode cX11_shortest 28 = .ok (.ifCond .ne 5, 3) := by decide +kernel
theorem dX11_shortest_31 : decode cX11_shortest 31 = .ok (.iconst (-1), 1) := by decide +kernel
theorem dX11_shortest_32 : decode cX11_shortest 32 = .ok (.ireturn, 1) := by decide +kernel
theorem dX11_shortest_33 : decode cX11_shortest 33 = .ok (.iconst (-1), 1) := by decide +kernel
theorem dX11_shortest_34 : decode cX11_shortest 34 = .ok (.istore 4, 2) := by decide +kernel
theorem dX11_shortest_36 : decode cX11_shortest 36 = .ok (.iconst 0, 1) := by decide +kernel
theorem dX11_shortest_37 : decode cX11_shortest 37 = .ok (.istore 5, 2) := by decide +kernel
theorem dX11_shortest_39 : decode cX11_shortest 39 = .ok (.iload 5, 2) := by decide +kernel
theorem dX11_shortest_41 : decode cX11_shortest 41 = .ok (.aload_n 0, 1) := by decide +kernel
theorem dX11_shortest_42 : decode cX11_shortest 42 = .ok (.getfield 120, 3) := by decide +kernel
theorem dX11_shortest_45 : decode cX11_shortest 45 = .ok (.if_icmp .ge 94, 3) := by decide +kernel
theorem dX11_shortest_48 : decode cX11_shortest 48 = .ok (.aload_n 0, 1) := by decide +kernel
theorem dX11_shortest_49 : decode cX11_shortest 49 = .ok (.iload 5, 2) := by decide +kernel
theorem dX11_shortest_51 : decode cX11_shortest 51 = .ok (.iload_n 1, 1) := by decide +kernel
theorem dX11_shortest_52 : decode cX11_shortest 52 = .ok (.invokevirtual 292, 3) := by decide +kernel
theorem dX11_shortest_55 : decode cX11_shortest 55 = .ok (.ifCond .eq 78, 3) := by decide +kernel
theorem dX11_shortest_58 : decode cX11_shortest 58 = .ok (.aload_n 0, 1) := by decide +kernel
theorem dX11_shortest_59 : decode cX11_shortest 59 = .ok (.iload 5, 2) := by decide +kernel
theorem dX11_shortest_61 : decode cX11_shortest 61 = .ok (.iload_n 2, 1) := by decide +kernel
theorem dX11_shortest_62 : decode cX11_shortest 62 = .ok (.invokevirtual 271, 3) := by decide +kernel
theorem dX11_shortest_65 : decode cX11_shortest 65 = .ok (.iload_n 3, 1) := by decide +kernel
theorem dX11_shortest_66 : decode cX11_shortest 66 = .ok (.if_icmp .le 6, 3) := by decide +kernel
theorem dX11_shortest_69 : decode cX11_shortest 69 = .ok (.goto 64, 3) := by decide +kernel
theorem dX11_shortest_72 : decode cX11_shortest 72 = .ok (.iload 4, 2) := by decide +kernel
theorem dX11_shortest_74 : decode cX11_shortest 74 = .ok (.iconst (-1), 1) := by decide +kernel
theorem dX11_shortest_75 : decode cX11_shortest 75 = .ok (.if_icmp .eq 54, 3) := by decide +kernel
theorem dX11_shortest_78 : decode cX11_shortest 78 = .ok (.aload_n 0, 1) := by decide +kernel
theorem dX11_shortest_79 : decode cX11_shortest 79 = .ok (.getfield 21, 3) := by decide +kernel
theorem dX11_shortest_82 : decode cX11_shortest 82 = .ok (.iload 5, 2) := by decide +kernel
theorem dX11_shortest_84 : decode cX11_shortest 84 = .ok (.iaload, 1) := by decide +kernel
theorem dX11_shortest_85 : decode cX11_shortest 85 = .ok (.aload_n 0, 1) := by decide +kernel
theorem dX11_shortest_86 : decode cX11_shortest 86 = .ok (.getfield 21, 3) := by decide +kernel
theorem dX11_shortest_89 : decode cX11_shortest 89 = .ok (.iload 4, 2) := by decide +kernel
theorem dX11_shortest_91 : decode cX11_shortest 91 = .ok (.iaload, 1) := by decide +kernel
theorem dX11_shortest_92 : decode cX11_shortest 92 = .ok (.if_icmp .lt 37, 3) := by decide +kernel
theorem dX11_shortest_95 : decode cX11_shortest 95 = .ok (.aload_n 0, 1) := by decide +kernel
theorem dX11_shortest_96 : decode cX11_shortest 96 = .ok (.getfield 21, 3) := by decide +kernel
theorem dX11_shortest_99 : decode cX11_shortest 99 = .ok (.iload 5, 2) := by decide +kernel
theorem dX11_shortest_101 : decode cX11_shortest 101 = .ok (.iaload, 1) := by decide +kernel
theorem dX11_shortest_102 : decode cX11_shortest 102 = .ok (.aload_n 0, 1) := by decide +kernel
theorem dX11_shortest_103 : decode cX11_shortest 103 = .ok (.getfield 21, 3) := by decide +kernel
theorem dX11_shortest_106 : decode cX11_shortest 106 = .ok (.iload 4, 2) := by decide +kernel
theorem dX11_shortest_108 : decode cX11_shortest 108 = .ok (.iaload, 1) := by decide +kernel
theorem dX11_shortest_109 : decode cX11_shortest 109 = .ok (.if_icmp .ne 24, 3) := by decide +kernel
theorem dX11_shortest_112 : decode cX11_shortest 112 = .ok (.aload_n 0, 1) := by decide +kernel
theorem dX11_shortest_113 : decode cX11_shortest 113 = .ok (.iload 5, 2) := by decide +kernel
theorem dX11_shortest_115 : decode cX11_shortest 115 = .ok (.iload_n 2, 1) := by decide +kernel
theorem dX11_shortest_116 : decode cX11_shortest 116 = .ok (.invokevirtual 271, 3) := by decide +kernel
theorem dX11_shortest_119 : decode cX11_shortest 119 = .ok (.aload_n 0, 1) := by decide +kernel
theorem dX11_shortest_120 : decode cX11_shortest 120 = .ok (.iload 4, 2) := by decide +kernel
theorem dX11_shortest_122 : decode cX11_shortest 122 = .ok (.iload_n 2, 1) := by decide +kernel
theorem dX11_shortest_123 : decode cX11_shortest 123 = .ok (.invokevirtual 271, 3) := by decide +kernel
theorem dX11_shortest_126 : decode cX11_shortest 126 = .ok (.if_icmp .ge 7, 3) := by decide +kernel
theorem dX11_shortest_129 : decode cX11_shortest 129 = .ok (.iload 5, 2) := by decide +kernel
theorem dX11_shortest_131 : decode cX11_shortest 131 = .ok (.istore 4, 2) := by decide +kernel
theorem dX11_shortest_133 : decode cX11_shortest 133 = .ok (.iinc 5 1, 3) := by decide +kernel
theorem dX11_shortest_136 : decode cX11_shortest 136 = .ok (.goto (-97), 3) := by decide +kernel
theorem dX11_shortest_139 : decode cX11_shortest 139 = .ok (.iload 4, 2) := by decide +kernel
theorem dX11_shortest_141 : decode cX11_shortest 141 = .ok (.iconst (-1), 1) := by decide +kernel
theorem dX11_shortest_142 : decode cX11_shortest 142 = .ok (.if_icmp .ne 6, 3) := by decide +kernel
theorem dX11_shortest_145 : decode cX11_shortest 145 = .ok (.bipush (-2), 2) := by decide +kernel
theorem dX11_shortest_147 : decode cX11_shortest 147 = .ok (.ireturn, 1) := by decide +kernel
theorem dX11_shortest_148 : decode cX11_shortest 148 = .ok (.aload_n 0, 1) := by decide +kernel
theorem dX11_shortest_149 : decode cX11_shortest 149 = .ok (.iconst 0, 1) := by decide +kernel
theorem dX11_shortest_150 : decode cX11_shortest 150 = .ok (.putfield 113, 3) := by decide +kernel
theorem dX11_shortest_153 : decode cX11_shortest 153 = .ok (.aload_n 0, 1) := by decide +kernel
theorem dX11_shortest_154 : decode cX11_shortest 154 = .ok (.aload_n 0, 1) := by decide +kernel
theorem dX11_shortest_155 : decode cX11_shortest 155 = .ok (.getfield 21, 3) := by decide +kernel
theorem dX11_shortest_158 : decode cX11_shortest 158 = .ok (.iload 4, 2) := by decide +kernel
theorem dX11_shortest_160 : decode cX11_shortest 160 = .ok (.iaload, 1) := by decide +kernel
theorem dX11_shortest_161 : decode cX11_shortest 161 = .ok (.i2l, 1) := by decide +kernel
theorem dX11_shortest_162 : decode cX11_shortest 162 = .ok (.invokevirtual 274, 3) := by decide +kernel
theorem dX11_shortest_165 : decode cX11_shortest 165 = .ok (.aload_n 0, 1) := by decide +kernel
theorem dX11_shortest_166 : decode cX11_shortest 166 = .ok (.aload_n 0, 1) := by decide +kernel
theorem dX11_shortest_167 : decode cX11_shortest 167 = .ok (.iload 4, 2) := by decide +kernel
theorem dX11_shortest_169 : decode cX11_shortest 169 = .ok (.iload_n 2, 1) := by decide +kernel
theorem dX11_shortest_170 : decode cX11_shortest 170 = .ok (.invokevirtual 271, 3) := by decide +kernel
theorem dX11_shortest_173 : decode cX11_shortest 173 = .ok (.i2l, 1) := by decide +kernel
theorem dX11_shortest_174 : decode cX11_shortest 174 = .ok (.invokevirtual 274, 3) := by decide +kernel
theorem dX11_shortest_177 : decode cX11_shortest 177 = .ok (.iload 4, 2) := by decide +kernel
theorem dX11_shortest_179 : decode cX11_shortest 179 = .ok (.ireturn, 1) := by decide +kernel
theorem dX11_changesOf_0 : decode cX11_changesOf 0 = .ok (.bipush 7, 2) := by decide +kernel
theorem dX11_changesOf_2 : decode cX11_changesOf 2 = .ok (.istore_n 3, 1) := by decide +kernel
theorem dX11_changesOf_3 : decode cX11_changesOf 3 = .ok (.iconst 0, 1) := by decide +kernel
theorem dX11_changesOf_4 : decode cX11_changesOf 4 = .ok (.istore 4, 2) := by decide +kernel
theorem dX11_changesOf_6 : decode cX11_changesOf 6 = .ok (.iload 4, 2) := by decide +kernel
theorem dX11_changesOf_8 : decode cX11_changesOf 8 = .ok (.iload_n 1, 1) := by decide +kernel
theorem dX11_changesOf_9 : decode cX11_changesOf 9 = .ok (.if_icmp .gt 149, 3) := by decide +kernel
theorem dX11_changesOf_12 : decode cX11_changesOf 12 = .ok (.iconst 0, 1) := by decide +kernel
theorem dX11_changesOf_13 : decode cX11_changesOf 13 = .ok (.istore 5, 2) := by decide +kernel
theorem dX11_changesOf_15 : decode cX11_changesOf 15 = .ok (.iload 5, 2) := by decide +kernel
theorem dX11_changesOf_17 : decode cX11_changesOf 17 = .ok (.iload_n 2, 1) := by decide +kernel
theorem dX11_changesOf_18 : decode cX11_changesOf 18 = .ok (.if_icmp .gt 134, 3) := by decide +kernel
theorem dX11_changesOf_21 : decode cX11_changesOf 21 = .ok (.iload 4, 2) := by decide +kernel
theorem dX11_changesOf_23 : decode cX11_changesOf 23 = .ok (.ifCond .eq 8, 3) := by decide +kernel
theorem dX11_changesOf_26 : decode cX11_changesOf 26 = .ok (.iload 5, 2) := by decide +kernel
theorem dX11_changesOf_28 : decode cX11_changesOf 28 = .ok (.ifCond .ne 23, 3) := by decide +kernel
theorem dX11_changesOf_31 : decode cX11_changesOf 31 = .ok (.aload_n 0, 1) := by decide +kernel
theorem dX11_changesOf_32 : decode cX11_changesOf 32 = .ok (.getfield 76, 3) := by decide +kernel
theorem dX11_changesOf_35 : decode cX11_changesOf 35 = .ok (.iload_n 3, 1) := by decide +kernel
theorem dX11_changesOf_36 : decode cX11_changesOf 36 = .ok (.iload 4, 2) := by decide +kernel
theorem dX11_changesOf_38 : decode cX11_changesOf 38 = .ok (.imul, 1) := by decide +kernel
theorem dX11_changesOf_39 : decode cX11_changesOf 39 = .ok (.iload 5, 2) := by decide +kernel
theorem dX11_changesOf_41 : decode cX11_changesOf 41 = .ok (.iadd, 1) := by decide +kernel
theorem dX11_changesOf_42 : decode cX11_changesOf 42 = .ok (.iload 4, 2) := by decide +kernel
theorem dX11_changesOf_44 : decode cX11_changesOf 44 = .ok (.iload 5, 2) := by decide +kernel
theorem dX11_changesOf_46 : decode cX11_changesOf 46 = .ok (.iadd, 1) := by decide +kernel
theorem dX11_changesOf_47 : decode cX11_changesOf 47 = .ok (.iastore, 1) := by decide +kernel
theorem dX11_changesOf_48 : decode cX11_changesOf 48 = .ok (.goto 98, 3) := by decide +kernel
theorem dX11_changesOf_51 : decode cX11_changesOf 51 = .ok (.aload_n 0, 1) := by decide +kernel
theorem dX11_changesOf_52 : decode cX11_changesOf 52 = .ok (.getfield 76, 3) := by decide +kernel
theorem dX11_changesOf_55 : decode cX11_changesOf 55 = .ok (.iload_n 3, 1) := by decide +kernel
theorem dX11_changesOf_56 : decode cX11_changesOf 56 = .ok (.iload 4, 2) := by decide +kernel
theorem dX11_changesOf_58 : decode cX11_changesOf 58 = .ok (.iconst 1, 1) := by decide +kernel
theorem dX11_changesOf_59 : decode cX11_changesOf 59 = .ok (.isub, 1) := by decide +kernel
theorem dX11_changesOf_60 : decode cX11_changesOf 60 = .ok (.imul, 1) := by decide +kernel
theorem dX11_changesOf_61 : decode cX11_changesOf 61 = .ok (.iload 5, 2) := by decide +kernel
theorem dX11_changesOf_63 : decode cX11_changesOf 63 = .ok (.iadd, 1) := by decide +kernel
theorem dX11_changesOf_64 : decode cX11_changesOf 64 = .ok (.iconst 1, 1) := by decide +kernel
theorem dX11_changesOf_65 : decode cX11_changesOf 65 = .ok (.isub, 1) := by decide +kernel
theorem dX11_changesOf_66 : decode cX11_changesOf 66 = .ok (.iaload, 1) := by decide +kernel
theorem dX11_changesOf_67 : decode cX11_changesOf 67 = .ok (.aload_n 0, 1) := by decide +kernel
theorem dX11_changesOf_68 : decode cX11_changesOf 68 = .ok (.getfield 70, 3) := by decide +kernel
theorem dX11_changesOf_71 : decode cX11_changesOf 71 = .ok (.iload 4, 2) := by decide +kernel
theorem dX11_changesOf_73 : decode cX11_changesOf 73 = .ok (.iconst 1, 1) := by decide +kernel
theorem dX11_changesOf_74 : decode cX11_changesOf 74 = .ok (.isub, 1) := by decide +kernel
theorem dX11_changesOf_75 : decode cX11_changesOf 75 = .ok (.iaload, 1) := by decide +kernel
theorem dX11_changesOf_76 : decode cX11_changesOf 76 = .ok (.aload_n 0, 1) := by decide +kernel
theorem dX11_changesOf_77 : decode cX11_changesOf 77 = .ok (.getfield 73, 3) := by decide +kernel
theorem dX11_changesOf_80 : decode cX11_changesOf 80 = .ok (.iload 5, 2) := by decide +kernel
theorem dX11_changesOf_82 : decode cX11_changesOf 82 = .ok (.iconst 1, 1) := by decide +kernel
theorem dX11_changesOf_83 : decode cX11_changesOf 83 = .ok (.isub, 1) := by decide +kernel
theorem dX11_changesOf_84 : decode cX11_changesOf 84 = .ok (.iaload, 1) := by decide +kernel
theorem dX11_changesOf_85 : decode cX11_changesOf 85 = .ok (.if_icmp .ne 7, 3) := by decide +kernel
theorem dX11_changesOf_88 : decode cX11_changesOf 88 = .ok (.iconst 0, 1) := by decide +kernel
theorem dX11_changesOf_89 : decode cX11_changesOf 89 = .ok (.goto 4, 3) := by decide +kernel
theorem dX11_changesOf_92 : decode cX11_changesOf 92 = .ok (.iconst 1, 1) := by decide +kernel
theorem dX11_changesOf_93 : decode cX11_changesOf 93 = .ok (.iadd, 1) := by decide +kernel
theorem dX11_changesOf_94 : decode cX11_changesOf 94 = .ok (.istore 6, 2) := by decide +kernel
theorem dX11_changesOf_96 : decode cX11_changesOf 96 = .ok (.aload_n 0, 1) := by decide +kernel
theorem dX11_changesOf_97 : decode cX11_changesOf 97 = .ok (.getfield 76, 3) := by decide +kernel
theorem dX11_changesOf_100 : decode cX11_changesOf 100 = .ok (.iload_n 3, 1) := by decide +kernel
theorem dX11_changesOf_101 : decode cX11_changesOf 101 = .ok (.iload 4, 2) := by decide +kernel
theorem dX11_changesOf_103 : decode cX11_changesOf 103 = .ok (.imul, 1) := by decide +kernel
theorem dX11_changesOf_104 : decode cX11_changesOf 104 = .ok (.iload 5, 2) := by decide +kernel
theorem dX11_changesOf_106 : decode cX11_changesOf 106 = .ok (.iadd, 1) := by decide +kernel
theorem dX11_changesOf_107 : decode cX11_changesOf 107 = .ok (.iload 6, 2) := by decide +kernel
theorem dX11_changesOf_109 : decode cX11_changesOf 109 = .ok (.iconst 1, 1) := by decide +kernel
theorem dX11_changesOf_110 : decode cX11_changesOf 110 = .ok (.aload_n 0, 1) := by decide +kernel
theorem dX11_changesOf_111 : decode cX11_changesOf 111 = .ok (.getfield 76, 3) := by decide +kernel
theorem dX11_changesOf_114 : decode cX11_changesOf 114 = .ok (.iload_n 3, 1) := by decide +kernel
theorem dX11_changesOf_115 : decode cX11_changesOf 115 = .ok (.iload 4, 2) := by decide +kernel
theorem dX11_changesOf_117 : decode cX11_changesOf 117 = .ok (.iconst 1, 1) := by decide +kernel
theorem dX11_changesOf_118 : decode cX11_changesOf 118 = .ok (.isub, 1) := by decide +kernel
theorem dX11_changesOf_119 : decode cX11_changesOf 119 = .ok (.imul, 1) := by decide +kernel
theorem dX11_changesOf_120 : decode cX11_changesOf 120 = .ok (.iload 5, 2) := by decide +kernel
theorem dX11_changesOf_122 : decode cX11_changesOf 122 = .ok (.iadd, 1) := by decide +kernel
theorem dX11_changesOf_123 : decode cX11_changesOf 123 = .ok (.iaload, 1) := by decide +kernel
theorem dX11_changesOf_124 : decode cX11_changesOf 124 = .ok (.aload_n 0, 1) := by decide +kernel
theorem dX11_changesOf_125 : decode cX11_changesOf 125 = .ok (.getfield 76, 3) := by decide +kernel
theorem dX11_changesOf_128 : decode cX11_changesOf 128 = .ok (.iload_n 3, 1) := by decide +kernel
theorem dX11_changesOf_129 : decode cX11_changesOf 129 = .ok (.iload 4, 2) := by decide +kernel
theorem dX11_changesOf_131 : decode cX11_changesOf 131 = .ok (.imul, 1) := by decide +kernel
theorem dX11_changesOf_132 : decode cX11_changesOf 132 = .ok (.iload 5, 2) := by decide +kernel
theorem dX11_changesOf_134 : decode cX11_changesOf 134 = .ok (.iadd, 1) := by decide +kernel
theorem dX11_changesOf_135 : decode cX11_changesOf 135 = .ok (.iconst 1, 1) := by decide +kernel
theorem dX11_changesOf_136 : decode cX11_changesOf 136 = .ok (.isub, 1) := by decide +kernel
theorem dX11_changesOf_137 : decode cX11_changesOf 137 = .ok (.iaload, 1) := by decide +kernel
theorem dX11_changesOf_138 : decode cX11_changesOf 138 = .ok (.invokestatic 226, 3) := by decide +kernel
theorem dX11_changesOf_141 : decode cX11_changesOf 141 = .ok (.iadd, 1) := by decide +kernel
theorem dX11_changesOf_142 : decode cX11_changesOf 142 = .ok (.invokestatic 226, 3) := by decide +kernel
theorem dX11_changesOf_145 : decode cX11_changesOf 145 = .ok (.iastore, 1) := by decide +kernel
theorem dX11_changesOf_146 : decode cX11_changesOf 146 = .ok (.iinc 5 1, 3) := by decide +kernel
theorem dX11_changesOf_149 : decode cX11_changesOf 149 = .ok (.goto (-134), 3) := by decide +kernel
theorem dX11_changesOf_152 : decode cX11_changesOf 152 = .ok (.iinc 4 1, 3) := by decide +kernel
theorem dX11_changesOf_155 : decode cX11_changesOf 155 = .ok (.goto (-149), 3) := by decide +kernel
theorem dX11_changesOf_158 : decode cX11_changesOf 158 = .ok (.aload_n 0, 1) := by decide +kernel
theorem dX11_changesOf_159 : decode cX11_changesOf 159 = .ok (.getfield 76, 3) := by decide +kernel
theorem dX11_changesOf_162 : decode cX11_changesOf 162 = .ok (.iload_n 3, 1) := by decide +kernel
theorem dX11_changesOf_163 : decode cX11_changesOf 163 = .ok (.iload_n 1, 1) := by decide +kernel
theorem dX11_changesOf_164 : decode cX11_changesOf 164 = .ok (.imul, 1) := by decide +kernel
theorem dX11_changesOf_165 : decode cX11_changesOf 165 = .ok (.iload_n 2, 1) := by decide +kernel
theorem dX11_changesOf_166 : decode cX11_changesOf 166 = .ok (.iadd, 1) := by decide +kernel
theorem dX11_changesOf_167 : decode cX11_changesOf 167 = .ok (.iaload, 1) := by decide +kernel
theorem dX11_changesOf_168 : decode cX11_changesOf 168 = .ok (.ireturn, 1) := by decide +kernel
theorem dX11_layWord_0 : decode cX11_layWord 0 = .ok (.iconst 0, 1) := by decide +kernel
theorem dX11_layWord_1 : decode cX11_layWord 1 = .ok (.istore 4, 2) := by decide +kernel
theorem dX11_layWord_3 : decode cX11_layWord 3 = .ok (.iconst 0, 1) := by decide +kernel
theorem dX11_layWord_4 : decode cX11_layWord 4 = .ok (.istore 5, 2) := by decide +kernel
theorem dX11_layWord_6 : decode cX11_layWord 6 = .ok (.iload 5, 2) := by decide +kernel
theorem dX11_layWord_8 : decode cX11_layWord 8 = .ok (.aload_n 0, 1) := by decide +kernel
theorem dX11_layWord_9 : decode cX11_layWord 9 = .ok (.getfield 21, 3) := by decide +kernel
theorem dX11_layWord_12 : decode cX11_layWord 12 = .ok (.iload_n 1, 1) := by decide +kernel
theorem dX11_layWord_13 : decode cX11_layWord 13 = .ok (.iaload, 1) := by decide +kernel
theorem dX11_layWord_14 : decode cX11_layWord 14 = .ok (.if_icmp .ge 44, 3) := by decide +kernel
theorem dX11_layWord_17 : decode cX11_layWord 17 = .ok (.iload_n 3, 1) := by decide +kernel
theorem dX11_layWord_18 : decode cX11_layWord 18 = .ok (.ifCond .eq 20, 3) := by decide +kernel
theorem dX11_layWord_21 : decode cX11_layWord 21 = .ok (.aload_n 0, 1) := by decide +kernel
theorem dX11_layWord_22 : decode cX11_layWord 22 = .ok (.iload_n 1, 1) := by decide +kernel
theorem dX11_layWord_23 : decode cX11_layWord 23 = .ok (.iload 5, 2) := by decide +kernel
theorem dX11_layWord_25 : decode cX11_layWord 25 = .ok (.invokevirtual 219, 3) := by decide +kernel
theorem dX11_layWord_28 : decode cX11_layWord 28 = .ok (.invokestatic 223, 3) := by decide +kernel
theorem dX11_layWord_31 : decode cX11_layWord 31 = .ok (.iconst (-1), 1) := by decide +kernel
theorem dX11_layWord_32 : decode cX11_layWord 32 = .ok (.if_icmp .ne 6, 3) := by decide +kernel
theorem dX11_layWord_35 : decode cX11_layWord 35 = .ok (.goto 17, 3) := by decide +kernel
theorem dX11_layWord_38 : decode cX11_layWord 38 = .ok (.aload_n 2, 1) := by decide +kernel
theorem dX11_layWord_39 : decode cX11_layWord 39 = .ok (.iload 4, 2) := by decide +kernel
theorem dX11_layWord_41 : decode cX11_layWord 41 = .ok (.aload_n 0, 1) := by decide +kernel
theorem dX11_layWord_42 : decode cX11_layWord 42 = .ok (.iload_n 1, 1) := by decide +kernel
theorem dX11_layWord_43 : decode cX11_layWord 43 = .ok (.iload 5, 2) := by decide +kernel
theorem dX11_layWord_45 : decode cX11_layWord 45 = .ok (.invokevirtual 219, 3) := by decide +kernel
theorem dX11_layWord_48 : decode cX11_layWord 48 = .ok (.iastore, 1) := by decide +kernel
theorem dX11_layWord_49 : decode cX11_layWord 49 = .ok (.iinc 4 1, 3) := by decide +kernel
theorem dX11_layWord_52 : decode cX11_layWord 52 = .ok (.iinc 5 1, 3) := by decide +kernel
theorem dX11_layWord_55 : decode cX11_layWord 55 = .ok (.goto (-49), 3) := by decide +kernel
theorem dX11_layWord_58 : decode cX11_layWord 58 = .ok (.iload 4, 2) := by decide +kernel
theorem dX11_layWord_60 : decode cX11_layWord 60 = .ok (.ireturn, 1) := by decide +kernel
theorem dX11_differBy_0 : decode cX11_differBy 0 = .ok (.aload_n 0, 1) := by decide +kernel
theorem dX11_differBy_1 : decode cX11_differBy 1 = .ok (.aload_n 0, 1) := by decide +kernel
theorem dX11_differBy_2 : decode cX11_differBy 2 = .ok (.iload_n 1, 1) := by decide +kernel
theorem dX11_differBy_3 : decode cX11_differBy 3 = .ok (.aload_n 0, 1) := by decide +kernel
theorem dX11_differBy_4 : decode cX11_differBy 4 = .ok (.getfield 70, 3) := by decide +kernel
theorem dX11_differBy_7 : decode cX11_differBy 7 = .ok (.iload_n 3, 1) := by decide +kernel
theorem dX11_differBy_8 : decode cX11_differBy 8 = .ok (.invokevirtual 323, 3) := by decide +kernel
theorem dX11_differBy_11 : decode cX11_differBy 11 = .ok (.aload_n 0, 1) := by decide +kernel
theorem dX11_differBy_12 : decode cX11_differBy 12 = .ok (.iload_n 2, 1) := by decide +kernel
theorem dX11_differBy_13 : decode cX11_differBy 13 = .ok (.aload_n 0, 1) := by decide +kernel
theorem dX11_differBy_14 : decode cX11_differBy 14 = .ok (.getfield 73, 3) := by decide +kernel
theorem dX11_differBy_17 : decode cX11_differBy 17 = .ok (.iload_n 3, 1) := by decide +kernel
theorem dX11_differBy_18 : decode cX11_differBy 18 = .ok (.invokevirtual 323, 3) := by decide +kernel
theorem dX11_differBy_21 : decode cX11_differBy 21 = .ok (.invokevirtual 327, 3) := by decide +kernel
theorem dX11_differBy_24 : decode cX11_differBy 24 = .ok (.ireturn, 1) := by decide +kernel
theorem dX11_differ_0 : decode cX11_differ 0 = .ok (.aload_n 0, 1) := by decide +kernel
theorem dX11_differ_1 : decode cX11_differ 1 = .ok (.iconst 0, 1) := by decide +kernel
theorem dX11_differ_2 : decode cX11_differ 2 = .ok (.putfield 110, 3) := by decide +kernel
theorem dX11_differ_5 : decode cX11_differ 5 = .ok (.aload_n 0, 1) := by decide +kernel
theorem dX11_differ_6 : decode cX11_differ 6 = .ok (.iload_n 1, 1) := by decide +kernel
theorem dX11_differ_7 : decode cX11_differ 7 = .ok (.invokevirtual 241, 3) := by decide +kernel
theorem dX11_differ_10 : decode cX11_differ 10 = .ok (.ifCond .eq 11, 3) := by decide +kernel
theorem dX11_differ_13 : decode cX11_differ 13 = .ok (.aload_n 0, 1) := by decide +kernel
theorem dX11_differ_14 : decode cX11_differ 14 = .ok (.iload_n 2, 1) := by decide +kernel
theorem dX11_differ_15 : decode cX11_differ 15 = .ok (.invokevirtual 241, 3) := by decide +kernel
theorem dX11_differ_18 : decode cX11_differ 18 = .ok (.ifCond .ne 5, 3) := by decide +kernel
theorem dX11_differ_21 : decode cX11_differ 21 = .ok (.iconst (-1), 1) := by decide +kernel
theorem dX11_differ_22 : decode cX11_differ 22 = .ok (.ireturn, 1) := by decide +kernel
theorem dX11_differ_23 : decode cX11_differ 23 = .ok (.aload_n 0, 1) := by decide +kernel
theorem dX11_differ_24 : decode cX11_differ 24 = .ok (.iconst 0, 1) := by decide +kernel
theorem dX11_differ_25 : decode cX11_differ 25 = .ok (.putfield 113, 3) := by decide +kernel
theorem dX11_differ_28 : decode cX11_differ 28 = .ok (.aload_n 0, 1) := by decide +kernel
theorem dX11_differ_29 : decode cX11_differ 29 = .ok (.aload_n 0, 1) := by decide +kernel
theorem dX11_differ_30 : decode cX11_differ 30 = .ok (.iload_n 1, 1) := by decide +kernel
theorem dX11_differ_31 : decode cX11_differ 31 = .ok (.iload_n 2, 1) := by decide +kernel
theorem dX11_differ_32 : decode cX11_differ 32 = .ok (.iconst 1, 1) := by decide +kernel
theorem dX11_differ_33 : decode cX11_differ 33 = .ok (.invokevirtual 330, 3) := by decide +kernel
theorem dX11_differ_36 : decode cX11_differ 36 = .ok (.i2l, 1) := by decide +kernel
theorem dX11_differ_37 : decode cX11_differ 37 = .ok (.invokevirtual 274, 3) := by decide +kernel
theorem dX11_differ_40 : decode cX11_differ 40 = .ok (.aload_n 0, 1) := by decide +kernel
theorem dX11_differ_41 : decode cX11_differ 41 = .ok (.iload_n 1, 1) := by decide +kernel
theorem dX11_differ_42 : decode cX11_differ 42 = .ok (.iload_n 2, 1) := by decide +kernel
theorem dX11_differ_43 : decode cX11_differ 43 = .ok (.iconst 0, 1) := by decide +kernel
theorem dX11_differ_44 : decode cX11_differ 44 = .ok (.invokevirtual 330, 3) := by decide +kernel
theorem dX11_differ_47 : decode cX11_differ 47 = .ok (.ireturn, 1) := by decide +kernel
theorem dX11_share_0 : decode cX11_share 0 = .ok (.aload_n 0, 1) := by decide +kernel
theorem dX11_share_1 : decode cX11_share 1 = .ok (.iload_n 2, 1) := by decide +kernel
theorem dX11_share_2 : decode cX11_share 2 = .ok (.aload_n 0, 1) := by decide +kernel
theorem dX11_share_3 : decode cX11_share 3 = .ok (.getfield 24, 3) := by decide +kernel
theorem dX11_share_6 : decode cX11_share 6 = .ok (.iconst 2, 1) := by decide +kernel
theorem dX11_share_7 : decode cX11_share 7 = .ok (.iload_n 1, 1) := by decide +kernel
theorem dX11_share_8 : decode cX11_share 8 = .ok (.imul, 1) := by decide +kernel
theorem dX11_share_9 : decode cX11_share 9 = .ok (.iaload, 1) := by decide +kernel
theorem dX11_share_10 : decode cX11_share 10 = .ok (.invokevirtual 292, 3) := by decide +kernel
theorem dX11_share_13 : decode cX11_share 13 = .ok (.ifCond .ne 35, 3) := by decide +kernel
theorem dX11_share_16 : decode cX11_share 16 = .ok (.aload_n 0, 1) := by decide +kernel
theorem dX11_share_17 : decode cX11_share 17 = .ok (.getfield 24, 3) := by decide +kernel
theorem dX11_share_20 : decode cX11_share 20 = .ok (.iconst 2, 1) := by decide +kernel
theorem dX11_share_21 : decode cX11_share 21 = .ok (.iload_n 1, 1) := by decide +kernel
theorem dX11_share_22 : decode cX11_share 22 = .ok (.imul, 1) := by decide +kernel
theorem dX11_share_23 : decode cX11_share 23 = .ok (.iconst 1, 1) := by decide +kernel
theorem dX11_share_24 : decode cX11_share 24 = .ok (.iadd, 1) := by decide +kernel
theorem dX11_share_25 : decode cX11_share 25 = .ok (.iaload, 1) := by decide +kernel
theorem dX11_share_26 : decode cX11_share 26 = .ok (.iconst (-1), 1) := by decide +kernel
theorem dX11_share_27 : decode cX11_share 27 = .ok (.if_icmp .eq 25, 3) := by decide +kernel
theorem dX11_share_30 : decode cX11_share 30 = .ok (.aload_n 0, 1) := by decide +kernel
theorem dX11_share_31 : decode cX11_share 31 = .ok (.iload_n 2, 1) := by decide +kernel
theorem dX11_share_32 : decode cX11_share 32 = .ok (.aload_n 0, 1) := by decide +kernel
theorem dX11_share_33 : decode cX11_share 33 = .ok (.getfield 24, 3) := by decide +kernel
theorem dX11_share_36 : decode cX11_share 36 = .ok (.iconst 2, 1) := by decide +kernel
theorem dX11_share_37 : decode cX11_share 37 = .ok (.iload_n 1, 1) := by decide +kernel
theorem dX11_share_38 : decode cX11_share 38 = .ok (.imul, 1) := by decide +kernel
theorem dX11_share_39 : decode cX11_share 39 = .ok (.iconst 1, 1) := by decide +kernel
theorem dX11_share_40 : decode cX11_share 40 = .ok (.iadd, 1) := by decide +kernel
theorem dX11_share_41 : decode cX11_share 41 = .ok (.iaload, 1) := by decide +kernel
theorem dX11_share_42 : decode cX11_share 42 = .ok (.invokevirtual 292, 3) := by decide +kernel
theorem dX11_share_45 : decode cX11_share 45 = .ok (.ifCond .eq 7, 3) := by decide +kernel
theorem dX11_share_48 : decode cX11_share 48 = .ok (.iconst 1, 1) := by decide +kernel
theorem dX11_share_49 : decode cX11_share 49 = .ok (.goto 4, 3) := by decide +kernel
theorem dX11_share_52 : decode cX11_share 52 = .ok (.iconst 0, 1) := by decide +kernel
theorem dX11_share_53 : decode cX11_share 53 = .ok (.ireturn, 1) := by decide +kernel
theorem dX11_near_0 : decode cX11_near 0 = .ok (.aload_n 0, 1) := by decide +kernel
theorem dX11_near_1 : decode cX11_near 1 = .ok (.iconst 0, 1) := by decide +kernel
theorem dX11_near_2 : decode cX11_near 2 = .ok (.putfield 110, 3) := by decide +kernel
theorem dX11_near_5 : decode cX11_near 5 = .ok (.aload_n 0, 1) := by decide +kernel
theorem dX11_near_6 : decode cX11_near 6 = .ok (.iload_n 1, 1) := by decide +kernel
theorem dX11_near_7 : decode cX11_near 7 = .ok (.invokevirtual 241, 3) := by decide +kernel
theorem dX11_near_10 : decode cX11_near 10 = .ok (.ifCond .ne 5, 3) := by decide +kernel
theorem dX11_near_13 : decode cX11_near 13 = .ok (.iconst (-1), 1) := by decide +kernel
theorem dX11_near_14 : decode cX11_near 14 = .ok (.ireturn, 1) := by decide +kernel
theorem dX11_near_15 : decode cX11_near 15 = .ok (.iconst (-1), 1) := by decide +kernel
theorem dX11_near_16 : decode cX11_near 16 = .ok (.istore_n 2, 1) := by decide +kernel
theorem dX11_near_17 : decode cX11_near 17 = .ok (.iconst 0, 1) := by decide +kernel
theorem dX11_near_18 : decode cX11_near 18 = .ok (.istore_n 3, 1) := by decide +kernel
theorem dX11_near_19 : decode cX11_near 19 = .ok (.iload_n 3, 1) := by decide +kernel
theorem dX11_near_20 : decode cX11_near 20 = .ok (.aload_n 0, 1) := by decide +kernel
theorem dX11_near_21 : decode cX11_near 21 = .ok (.getfield 120, 3) := by decide +kernel
theorem dX11_near_24 : decode cX11_near 24 = .ok (.if_icmp .ge 38, 3) := by decide +kernel
theorem dX11_near_27 : decode cX11_near 27 = .ok (.iload_n 3, 1) := by decide +kernel
theorem dX11_near_28 : decode cX11_near 28 = .ok (.iload_n 1, 1) := by decide +kernel
theorem dX11_near_29 : decode cX11_near 29 = .ok (.if_icmp .eq 27, 3) := by decide +kernel
theorem dX11_near_32 : decode cX11_near 32 = .ok (.iload_n 2, 1) := by decide +kernel
theorem dX11_near_33 : decode cX11_near 33 = .ok (.iconst (-1), 1) := by decide +kernel
theorem dX11_near_34 : decode cX11_near 34 = .ok (.if_icmp .eq 20, 3) := by decide +kernel
theorem dX11_near_37 : decode cX11_near 37 = .ok (.aload_n 0, 1) := by decide +kernel
theorem dX11_near_38 : decode cX11_near 38 = .ok (.iload_n 1, 1) := by decide +kernel
theorem dX11_near_39 : decode cX11_near 39 = .ok (.iload_n 3, 1) := by decide +kernel
theorem dX11_near_40 : decode cX11_near 40 = .ok (.iconst 0, 1) := by decide +kernel
theorem dX11_near_41 : decode cX11_near 41 = .ok (.invokevirtual 330, 3) := by decide +kernel
theorem dX11_near_44 : decode cX11_near 44 = .ok (.aload_n 0, 1) := by decide +kernel
theorem dX11_near_45 : decode cX11_near 45 = .ok (.iload_n 1, 1) := by decide +kernel
theorem dX11_near_46 : decode cX11_near 46 = .ok (.iload_n 2, 1) := by decide +kernel
theorem dX11_near_47 : decode cX11_near 47 = .ok (.iconst 0, 1) := by decide +kernel
theorem dX11_near_48 : decode cX11_near 48 = .ok (.invokevirtual 330, 3) := by decide +kernel
theorem dX11_near_51 : decode cX11_near 51 = .ok (.if_icmp .ge 5, 3) := by decide +kernel
theorem dX11_near_54 : decode cX11_near 54 = .ok (.iload_n 3, 1) := by decide +kernel
theorem dX11_near_55 : decode cX11_near 55 = .ok (.istore_n 2, 1) := by decide +kernel
theorem dX11_near_56 : decode cX11_near 56 = .ok (.iinc 3 1, 3) := by decide +kernel
theorem dX11_near_59 : decode cX11_near 59 = .ok (.goto (-40), 3) := by decide +kernel
theorem dX11_near_62 : decode cX11_near 62 = .ok (.iload_n 2, 1) := by decide +kernel
theorem dX11_near_63 : decode cX11_near 63 = .ok (.iconst (-1), 1) := by decide +kernel
theorem dX11_near_64 : decode cX11_near 64 = .ok (.if_icmp .ne 6, 3) := by decide +kernel
theorem dX11_near_67 : decode cX11_near 67 = .ok (.bipush (-2), 2) := by decide +kernel
theorem dX11_near_69 : decode cX11_near 69 = .ok (.ireturn, 1) := by decide +kernel
theorem dX11_near_70 : decode cX11_near 70 = .ok (.aload_n 0, 1) := by decide +kernel
theorem dX11_near_71 : decode cX11_near 71 = .ok (.iconst 0, 1) := by decide +kernel
theorem dX11_near_72 : decode cX11_near 72 = .ok (.putfield 113, 3) := by decide +kernel
theorem dX11_near_75 : decode cX11_near 75 = .ok (.aload_n 0, 1) := by decide +kernel
theorem dX11_near_76 : decode cX11_near 76 = .ok (.aload_n 0, 1) := by decide +kernel
theorem dX11_near_77 : decode cX11_near 77 = .ok (.iload_n 1, 1) := by decide +kernel
theorem dX11_near_78 : decode cX11_near 78 = .ok (.iload_n 2, 1) := by decide +kernel
theorem dX11_near_79 : decode cX11_near 79 = .ok (.iconst 0, 1) := by decide +kernel
theorem dX11_near_80 : decode cX11_near 80 = .ok (.invokevirtual 330, 3) := by decide +kernel
theorem dX11_near_83 : decode cX11_near 83 = .ok (.i2l, 1) := by decide +kernel
theorem dX11_near_84 : decode cX11_near 84 = .ok (.invokevirtual 274, 3) := by decide +kernel
theorem dX11_near_87 : decode cX11_near 87 = .ok (.aload_n 0, 1) := by decide +kernel
theorem dX11_near_88 : decode cX11_near 88 = .ok (.aload_n 0, 1) := by decide +kernel
theorem dX11_near_89 : decode cX11_near 89 = .ok (.iload_n 1, 1) := by decide +kernel
theorem dX11_near_90 : decode cX11_near 90 = .ok (.iload_n 2, 1) := by decide +kernel
theorem dX11_near_91 : decode cX11_near 91 = .ok (.invokevirtual 334, 3) := by decide +kernel
theorem dX11_near_94 : decode cX11_near 94 = .ok (.ifCond .eq 7, 3) := by decide +kernel
theorem dX11_near_97 : decode cX11_near 97 = .ok (.lconst 1, 1) := by decide +kernel
theorem dX11_near_98 : decode cX11_near 98 = .ok (.goto 4, 3) := by decide +kernel
theorem dX11_near_101 : decode cX11_near 101 = .ok (.lconst 0, 1) := by decide +kernel
theorem dX11_near_102 : decode cX11_near 102 = .ok (.invokevirtual 274, 3) := by decide +kernel
theorem dX11_near_105 : decode cX11_near 105 = .ok (.iload_n 2, 1) := by decide +kernel
theorem dX11_near_106 : decode cX11_near 106 = .ok (.ireturn, 1) := by decide +kernel
theorem dX11_common_0 : decode cX11_common 0 = .ok (.lload_n 2, 1) := by decide +kernel
theorem dX11_common_1 : decode cX11_common 1 = .ok (.lconst 0, 1) := by decide +kernel
theorem dX11_common_2 : decode cX11_common 2 = .ok (.lcmp, 1) := by decide +kernel
theorem dX11_common_3 : decode cX11_common 3 = .ok (.ifCond .ne 7, 3) := by decide +kernel
theorem dX11_common_6 : decode cX11_common 6 = .ok (.lload_n 0, 1) := by decide +kernel
theorem dX11_common_7 : decode cX11_common 7 = .ok (.goto 10, 3) := by decide +kernel
theorem dX11_common_10 : decode cX11_common 10 = .ok (.lload_n 2, 1) := by decide +kernel
theorem dX11_common_11 : decode cX11_common 11 = .ok (.lload_n 0, 1) := by decide +kernel
theorem dX11_common_12 : decode cX11_common 12 = .ok (.lload_n 2, 1) := by decide +kernel
theorem dX11_common_13 : decode cX11_common 13 = .ok (.lrem, 1) := by decide +kernel
theorem dX11_common_14 : decode cX11_common 14 = .ok (.invokestatic 337, 3) := by decide +kernel
theorem dX11_common_17 : decode cX11_common 17 = .ok (.lreturn, 1) := by decide +kernel
theorem dX11_power_0 : decode cX11_power 0 = .ok (.lconst 1, 1) := by decide +kernel
theorem dX11_power_1 : decode cX11_power 1 = .ok (.lstore_n 3, 1) := by decide +kernel
theorem dX11_power_2 : decode cX11_power 2 = .ok (.iconst 0, 1) := by decide +kernel
theorem dX11_power_3 : decode cX11_power 3 = .ok (.istore 5, 2) := by decide +kernel
theorem dX11_power_5 : decode cX11_power 5 = .ok (.iload 5, 2) := by decide +kernel
theorem dX11_power_7 : decode cX11_power 7 = .ok (.iload_n 2, 1) := by decide +kernel
theorem dX11_power_8 : decode cX11_power 8 = .ok (.if_icmp .ge 13, 3) := by decide +kernel
theorem dX11_power_11 : decode cX11_power 11 = .ok (.lload_n 3, 1) := by decide +kernel
theorem dX11_power_12 : decode cX11_power 12 = .ok (.lload_n 0, 1) := by decide +kernel
theorem dX11_power_13 : decode cX11_power 13 = .ok (.lmul, 1) := by decide +kernel
theorem dX11_power_14 : decode cX11_power 14 = .ok (.lstore_n 3, 1) := by decide +kernel
theorem dX11_power_15 : decode cX11_power 15 = .ok (.iinc 5 1, 3) := by decide +kernel
theorem dX11_power_18 : decode cX11_power 18 = .ok (.goto (-13), 3) := by decide +kernel
theorem dX11_power_21 : decode cX11_power 21 = .ok (.lload_n 3, 1) := by decide +kernel
theorem dX11_power_22 : decode cX11_power 22 = .ok (.lreturn, 1) := by decide +kernel
theorem dX11_heard_0 : decode cX11_heard 0 = .ok (.aload_n 0, 1) := by decide +kernel
theorem dX11_heard_1 : decode cX11_heard 1 = .ok (.iconst 0, 1) := by decide +kernel
theorem dX11_heard_2 : decode cX11_heard 2 = .ok (.putfield 110, 3) := by decide +kernel
theorem dX11_heard_5 : decode cX11_heard 5 = .ok (.aload_n 0, 1) := by decide +kernel
theorem dX11_heard_6 : decode cX11_heard 6 = .ok (.iload_n 1, 1) := by decide +kernel
theorem dX11_heard_7 : decode cX11_heard 7 = .ok (.invokevirtual 241, 3) := by decide +kernel
theorem dX11_heard_10 : decode cX11_heard 10 = .ok (.ifCond .eq 22, 3) := by decide +kernel
theorem dX11_heard_13 : decode cX11_heard 13 = .ok (.iload_n 2, 1) := by decide +kernel
theorem dX11_heard_14 : decode cX11_heard 14 = .ok (.iconst 0, 1) := by decide +kernel
theorem dX11_heard_15 : decode cX11_heard 15 = .ok (.bipush 10, 2) := by decide +kernel
theorem dX11_heard_17 : decode cX11_heard 17 = .ok (.invokestatic 116, 3) := by decide +kernel
theorem dX11_heard_20 : decode cX11_heard 20 = .ok (.ifCond .eq 12, 3) := by decide +kernel
theorem dX11_heard_23 : decode cX11_heard 23 = .ok (.iload_n 3, 1) := by decide +kernel
theorem dX11_heard_24 : decode cX11_heard 24 = .ok (.iconst 0, 1) := by decide +kernel
theorem dX11_heard_25 : decode cX11_heard 25 = .ok (.iconst 2, 1) := by decide +kernel
theorem dX11_heard_26 : decode cX11_heard 26 = .ok (.invokestatic 116, 3) := by decide +kernel
theorem dX11_heard_29 : decode cX11_heard 29 = .ok (.ifCond .ne 5, 3) := by decide +kernel
theorem dX11_heard_32 : decode cX11_heard 32 = .ok (.iconst (-1), 1) := by decide +kernel
theorem dX11_heard_33 : decode cX11_heard 33 = .ok (.ireturn, 1) := by decide +kernel
theorem dX11_heard_34 : decode cX11_heard 34 = .ok (.lconst 0, 1) := by decide +kernel
theorem dX11_heard_35 : decode cX11_heard 35 = .ok (.lstore 4, 2) := by decide +kernel
theorem dX11_heard_37 : decode cX11_heard 37 = .ok (.lconst 1, 1) := by decide +kernel
theorem dX11_heard_38 : decode cX11_heard 38 = .ok (.lstore 6, 2) := by decide +kernel
theorem dX11_heard_40 : decode cX11_heard 40 = .ok (.iconst 0, 1) := by decide +kernel
theorem dX11_heard_41 : decode cX11_heard 41 = .ok (.istore 8, 2) := by decide +kernel
theorem dX11_heard_43 : decode cX11_heard 43 = .ok (.iload 8, 2) := by decide +kernel
theorem dX11_heard_45 : decode cX11_heard 45 = .ok (.iload_n 3, 1) := by decide +kernel
theorem dX11_heard_46 : decode cX11_heard 46 = .ok (.aload_n 0, 1) := by decide +kernel
theorem dX11_heard_47 : decode cX11_heard 47 = .ok (.getfield 21, 3) := by decide +kernel
theorem dX11_heard_50 : decode cX11_heard 50 = .ok (.iload_n 1, 1) := by decide +kernel
theorem dX11_heard_51 : decode cX11_heard 51 = .ok (.iaload, 1) := by decide +kernel
theorem dX11_heard_52 : decode cX11_heard 52 = .ok (.invokestatic 226, 3) := by decide +kernel
theorem dX11_heard_55 : decode cX11_heard 55 = .ok (.if_icmp .gt 63, 3) := by decide +kernel
theorem dX11_heard_58 : decode cX11_heard 58 = .ok (.lload 4, 2) := by decide +kernel
theorem dX11_heard_60 : decode cX11_heard 60 = .ok (.lload 6, 2) := by decide +kernel
theorem dX11_heard_62 : decode cX11_heard 62 = .ok (.bipush 10, 2) := by decide +kernel
theorem dX11_heard_64 : decode cX11_heard 64 = .ok (.iload_n 2, 1) := by decide +kernel
theorem dX11_heard_65 : decode cX11_heard 65 = .ok (.isub, 1) := by decide +kernel
theorem dX11_heard_66 : decode cX11_heard 66 = .ok (.i2l, 1) := by decide +kernel
theorem dX11_heard_67 : decode cX11_heard 67 = .ok (.iload 8, 2) := by decide +kernel
theorem dX11_heard_69 : decode cX11_heard 69 = .ok (.invokestatic 341, 3) := by decide +kernel
theorem dX11_heard_72 : decode cX11_heard 72 = .ok (.lmul, 1) := by decide +kernel
theorem dX11_heard_73 : decode cX11_heard 73 = .ok (.iload_n 2, 1) := by decide +kernel
theorem dX11_heard_74 : decode cX11_heard 74 = .ok (.i2l, 1) := by decide +kernel
theorem dX11_heard_75 : decode cX11_heard 75 = .ok (.aload_n 0, 1) := by decide +kernel
theorem dX11_heard_76 : decode cX11_heard 76 = .ok (.getfield 21, 3) := by decide +kernel
theorem dX11_heard_79 : decode cX11_heard 79 = .ok (.iload_n 1, 1) := by decide +kernel
theorem dX11_heard_80 : decode cX11_heard 80 = .ok (.iaload, 1) := by decide +kernel
theorem dX11_heard_81 : decode cX11_heard 81 = .ok (.iload 8, 2) := by decide +kernel
theorem dX11_heard_83 : decode cX11_heard 83 = .ok (.isub, 1) := by decide +kernel
theorem dX11_heard_84 : decode cX11_heard 84 = .ok (.invokestatic 341, 3) := by decide +kernel
theorem dX11_heard_87 : decode cX11_heard 87 = .ok (.lmul, 1) := by decide +kernel
theorem dX11_heard_88 : decode cX11_heard 88 = .ok (.ladd, 1) := by decide +kernel
theorem dX11_heard_89 : decode cX11_heard 89 = .ok (.lstore 4, 2) := by decide +kernel
theorem dX11_heard_91 : decode cX11_heard 91 = .ok (.lload 6, 2) := by decide +kernel
theorem dX11_heard_93 : decode cX11_heard 93 = .ok (.aload_n 0, 1) := by decide +kernel
theorem dX11_heard_94 : decode cX11_heard 94 = .ok (.getfield 21, 3) := by decide +kernel
theorem dX11_heard_97 : decode cX11_heard 97 = .ok (.iload_n 1, 1) := by decide +kernel
theorem dX11_heard_98 : decode cX11_heard 98 = .ok (.iaload, 1) := by decide +kernel
theorem dX11_heard_99 : decode cX11_heard 99 = .ok (.iload 8, 2) := by decide +kernel
theorem dX11_heard_101 : decode cX11_heard 101 = .ok (.isub, 1) := by decide +kernel
theorem dX11_heard_102 : decode cX11_heard 102 = .ok (.i2l, 1) := by decide +kernel
theorem dX11_heard_103 : decode cX11_heard 103 = .ok (.lmul, 1) := by decide +kernel
theorem dX11_heard_104 : decode cX11_heard 104 = .ok (.iload 8, 2) := by decide +kernel
theorem dX11_heard_106 : decode cX11_heard 106 = .ok (.iconst 1, 1) := by decide +kernel
theorem dX11_heard_107 : decode cX11_heard 107 = .ok (.iadd, 1) := by decide +kernel
theorem dX11_heard_108 : decode cX11_heard 108 = .ok (.i2l, 1) := by decide +kernel
theorem dX11_heard_109 : decode cX11_heard 109 = .ok (.ldiv, 1) := by decide +kernel
theorem dX11_heard_110 : decode cX11_heard 110 = .ok (.lstore 6, 2) := by decide +kernel
theorem dX11_heard_112 : decode cX11_heard 112 = .ok (.iinc 8 1, 3) := by decide +kernel
theorem dX11_heard_115 : decode cX11_heard 115 = .ok (.goto (-72), 3) := by decide +kernel
theorem dX11_heard_118 : decode cX11_heard 118 = .ok (.ldc2_w 345, 3) := by decide +kernel
theorem dX11_heard_121 : decode cX11_heard 121 = .ok (.aload_n 0, 1) := by decide +kernel
theorem dX11_heard_122 : decode cX11_heard 122 = .ok (.getfield 21, 3) := by decide +kernel
theorem dX11_heard_125 : decode cX11_heard 125 = .ok (.iload_n 1, 1) := by decide +kernel
theorem dX11_heard_126 : decode cX11_heard 126 = .ok (.iaload, 1) := by decide +kernel
theorem dX11_heard_127 : decode cX11_heard 127 = .ok (.invokestatic 341, 3) := by decide +kernel
theorem dX11_heard_130 : decode cX11_heard 130 = .ok (.lstore 8, 2) := by decide +kernel
theorem dX11_heard_132 : decode cX11_heard 132 = .ok (.lload 4, 2) := by decide +kernel
theorem dX11_heard_134 : decode cX11_heard 134 = .ok (.lload 8, 2) := by decide +kernel
theorem dX11_heard_136 : decode cX11_heard 136 = .ok (.invokestatic 337, 3) := by decide +kernel
theorem dX11_heard_139 : decode cX11_heard 139 = .ok (.lstore 10, 2) := by decide +kernel
theorem dX11_heard_141 : decode cX11_heard 141 = .ok (.aload_n 0, 1) := by decide +kernel
theorem dX11_heard_142 : decode cX11_heard 142 = .ok (.iconst 0, 1) := by decide +kernel
theorem dX11_heard_143 : decode cX11_heard 143 = .ok (.putfield 113, 3) := by decide +kernel
theorem dX11_heard_146 : decode cX11_heard 146 = .ok (.aload_n 0, 1) := by decide +kernel
theorem dX11_heard_147 : decode cX11_heard 147 = .ok (.lload 4, 2) := by decide +kernel
theorem dX11_heard_149 : decode cX11_heard 149 = .ok (.lload 10, 2) := by decide +kernel
theorem dX11_heard_151 : decode cX11_heard 151 = .ok (.ldiv, 1) := by decide +kernel
theorem dX11_heard_152 : decode cX11_heard 152 = .ok (.invokevirtual 274, 3) := by decide +kernel
theorem dX11_heard_155 : decode cX11_heard 155 = .ok (.aload_n 0, 1) := by decide +kernel
theorem dX11_heard_156 : decode cX11_heard 156 = .ok (.lload 8, 2) := by decide +kernel
theorem dX11_heard_158 : decode cX11_heard 158 = .ok (.lload 10, 2) := by decide +kernel
theorem dX11_heard_160 : decode cX11_heard 160 = .ok (.ldiv, 1) := by decide +kernel
theorem dX11_heard_161 : decode cX11_heard 161 = .ok (.invokevirtual 274, 3) := by decide +kernel
theorem dX11_heard_164 : decode cX11_heard 164 = .ok (.iconst 0, 1) := by decide +kernel
theorem dX11_heard_165 : decode cX11_heard 165 = .ok (.ireturn, 1) := by decide +kernel
theorem dX11_areApart_0 : decode cX11_areApart 0 = .ok (.iconst 0, 1) := by decide +kernel
theorem dX11_areApart_1 : decode cX11_areApart 1 = .ok (.istore_n 3, 1) := by decide +kernel
theorem dX11_areApart_2 : decode cX11_areApart 2 = .ok (.iload_n 3, 1) := by decide +kernel
theorem dX11_areApart_3 : decode cX11_areApart 3 = .ok (.aload_n 0, 1) := by decide +kernel
theorem dX11_areApart_4 : decode cX11_areApart 4 = .ok (.getfield 120, 3) := by decide +kernel
theorem dX11_areApart_7 : decode cX11_areApart 7 = .ok (.if_icmp .ge 55, 3) := by decide +kernel
theorem dX11_areApart_10 : decode cX11_areApart 10 = .ok (.iconst 0, 1) := by decide +kernel
theorem dX11_areApart_11 : decode cX11_areApart 11 = .ok (.istore 4, 2) := by decide +kernel
theorem dX11_areApart_13 : decode cX11_areApart 13 = .ok (.iload 4, 2) := by decide +kernel
theorem dX11_areApart_15 : decode cX11_areApart 15 = .ok (.iload_n 3, 1) := by decide +kernel
theorem dX11_areApart_16 : decode cX11_areApart 16 = .ok (.if_icmp .ge 40, 3) := by decide +kernel
theorem dX11_areApart_19 : decode cX11_areApart 19 = .ok (.iload_n 1, 1) := by decide +kernel
theorem dX11_areApart_20 : decode cX11_areApart 20 = .ok (.iload_n 3, 1) := by decide +kernel
theorem dX11_areApart_21 : decode cX11_areApart 21 = .ok (.invokestatic 254, 3) := by decide +kernel
theorem dX11_areApart_24 : decode cX11_areApart 24 = .ok (.ifCond .eq 26, 3) := by decide +kernel
theorem dX11_areApart_27 : decode cX11_areApart 27 = .ok (.iload_n 1, 1) := by decide +kernel
theorem dX11_areApart_28 : decode cX11_areApart 28 = .ok (.iload 4, 2) := by decide +kernel
theorem dX11_areApart_30 : decode cX11_areApart 30 = .ok (.invokestatic 254, 3) := by decide +kernel
theorem dX11_areApart_33 : decode cX11_areApart 33 = .ok (.ifCond .eq 17, 3) := by decide +kernel
theorem dX11_areApart_36 : decode cX11_areApart 36 = .ok (.aload_n 0, 1) := by decide +kernel
theorem dX11_areApart_37 : decode cX11_areApart 37 = .ok (.iload_n 3, 1) := by decide +kernel
theorem dX11_areApart_38 : decode cX11_areApart 38 = .ok (.iload 4, 2) := by decide +kernel
theorem dX11_areApart_40 : decode cX11_areApart 40 = .ok (.iconst 0, 1) := by decide +kernel
theorem dX11_areApart_41 : decode cX11_areApart 41 = .ok (.invokevirtual 330, 3) := by decide +kernel
theorem dX11_areApart_44 : decode cX11_areApart 44 = .ok (.iload_n 2, 1) := by decide +kernel
theorem dX11_areApart_45 : decode cX11_areApart 45 = .ok (.if_icmp .ge 5, 3) := by decide +kernel
theorem dX11_areApart_48 : decode cX11_areApart 48 = .ok (.iconst 0, 1) := by decide +kernel
theorem dX11_areApart_49 : decode cX11_areApart 49 = .ok (.ireturn, 1) := by decide +kernel
theorem dX11_areApart_50 : decode cX11_areApart 50 = .ok (.iinc 4 1, 3) := by decide +kernel
theorem dX11_areApart_53 : decode cX11_areApart 53 = .ok (.goto (-40), 3) := by decide +kernel
theorem dX11_areApart_56 : decode cX11_areApart 56 = .ok (.iinc 3 1, 3) := by decide +kernel
theorem dX11_areApart_59 : decode cX11_areApart 59 = .ok (.goto (-57), 3) := by decide +kernel
theorem dX11_areApart_62 : decode cX11_areApart 62 = .ok (.iconst 1, 1) := by decide +kernel
theorem dX11_areApart_63 : decode cX11_areApart 63 = .ok (.ireturn, 1) := by decide +kernel
theorem dX11_tollsOf_0 : decode cX11_tollsOf 0 = .ok (.iconst 0, 1) := by decide +kernel
theorem dX11_tollsOf_1 : decode cX11_tollsOf 1 = .ok (.istore_n 3, 1) := by decide +kernel
theorem dX11_tollsOf_2 : decode cX11_tollsOf 2 = .ok (.iconst 0, 1) := by decide +kernel
theorem dX11_tollsOf_3 : decode cX11_tollsOf 3 = .ok (.istore 4, 2) := by decide +kernel
theorem dX11_tollsOf_5 : decode cX11_tollsOf 5 = .ok (.iload 4, 2) := by decide +kernel
theorem dX11_tollsOf_7 : decode cX11_tollsOf 7 = .ok (.aload_n 0, 1) := by decide +kernel
theorem dX11_tollsOf_8 : decode cX11_tollsOf 8 = .ok (.getfield 120, 3) := by decide +kernel
theorem dX11_tollsOf_11 : decode cX11_tollsOf 11 = .ok (.if_icmp .ge 32, 3) := by decide +kernel
theorem dX11_tollsOf_14 : decode cX11_tollsOf 14 = .ok (.iload_n 3, 1) := by decide +kernel
theorem dX11_tollsOf_15 : decode cX11_tollsOf 15 = .ok (.iload_n 1, 1) := by decide +kernel
theorem dX11_tollsOf_16 : decode cX11_tollsOf 16 = .ok (.iload 4, 2) := by decide +kernel
theorem dX11_tollsOf_18 : decode cX11_tollsOf 18 = .ok (.invokestatic 254, 3) := by decide +kernel
theorem dX11_tollsOf_21 : decode cX11_tollsOf 21 = .ok (.ifCond .eq 13, 3) := by decide +kernel
theorem dX11_tollsOf_24 : decode cX11_tollsOf 24 = .ok (.aload_n 0, 1) := by decide +kernel
theorem dX11_tollsOf_25 : decode cX11_tollsOf 25 = .ok (.iload 4, 2) := by decide +kernel
theorem dX11_tollsOf_27 : decode cX11_tollsOf 27 = .ok (.iload_n 2, 1) := by decide +kernel
theorem dX11_tollsOf_28 : decode cX11_tollsOf 28 = .ok (.invokevirtual 271, 3) := by decide +kernel
theorem dX11_tollsOf_31 : decode cX11_tollsOf 31 = .ok (.goto 4, 3) := by decide +kernel
theorem dX11_tollsOf_34 : decode cX11_tollsOf 34 = .ok (.iconst 0, 1) := by decide +kernel
theorem dX11_tollsOf_35 : decode cX11_tollsOf 35 = .ok (.iadd, 1) := by decide +kernel
theorem dX11_tollsOf_36 : decode cX11_tollsOf 36 = .ok (.istore_n 3, 1) := by decide +kernel
theorem dX11_tollsOf_37 : decode cX11_tollsOf 37 = .ok (.iinc 4 1, 3) := by decide +kernel
theorem dX11_tollsOf_40 : decode cX11_tollsOf 40 = .ok (.goto (-35), 3) := by decide +kernel
theorem dX11_tollsOf_43 : decode cX11_tollsOf 43 = .ok (.iload_n 3, 1) := by decide +kernel
theorem dX11_tollsOf_44 : decode cX11_tollsOf 44 = .ok (.ireturn, 1) := by decide +kernel
theorem dX11_code_0 : decode cX11_code 0 = .ok (.aload_n 0, 1) := by decide +kernel
theorem dX11_code_1 : decode cX11_code 1 = .ok (.iconst 0, 1) := by decide +kernel
theorem dX11_code_2 : decode cX11_code 2 = .ok (.putfield 110, 3) := by decide +kernel
theorem dX11_code_5 : decode cX11_code 5 = .ok (.iload_n 1, 1) := by decide +kernel
theorem dX11_code_6 : decode cX11_code 6 = .ok (.iconst 0, 1) := by decide +kernel
theorem dX11_code_7 : decode cX11_code 7 = .ok (.bipush 6, 2) := by decide +kernel
theorem dX11_code_9 : decode cX11_code 9 = .ok (.invokestatic 116, 3) := by decide +kernel
theorem dX11_code_12 : decode cX11_code 12 = .ok (.ifCond .ne 5, 3) := by decide +kernel
theorem dX11_code_15 : decode cX11_code 15 = .ok (.iconst (-1), 1) := by decide +kernel
theorem dX11_code_16 : decode cX11_code 16 = .ok (.ireturn, 1) := by decide +kernel
theorem dX11_code_17 : decode cX11_code 17 = .ok (.iconst 0, 1) := by decide +kernel
theorem dX11_code_18 : decode cX11_code 18 = .ok (.istore_n 2, 1) := by decide +kernel
theorem dX11_code_19 : decode cX11_code 19 = .ok (.iconst 1, 1) := by decide +kernel
theorem dX11_code_20 : decode cX11_code 20 = .ok (.istore_n 3, 1) := by decide +kernel
theorem dX11_code_21 : decode cX11_code 21 = .ok (.iload_n 3, 1) := by decide +kernel
theorem dX11_code_22 : decode cX11_code 22 = .ok (.iconst 1, 1) := by decide +kernel
theorem dX11_code_23 : decode cX11_code 23 = .ok (.aload_n 0, 1) := by decide +kernel
theorem dX11_code_24 : decode cX11_code 24 = .ok (.getfield 120, 3) := by decide +kernel
theorem dX11_code_27 : decode cX11_code 27 = .ok (.ishl, 1) := by decide +kernel
theorem dX11_code_28 : decode cX11_code 28 = .ok (.if_icmp .ge 59, 3) := by decide +kernel
theorem dX11_code_31 : decode cX11_code 31 = .ok (.iload_n 3, 1) := by decide +kernel
theorem dX11_code_32 : decode cX11_code 32 = .ok (.invokestatic 347, 3) := by decide +kernel
theorem dX11_code_35 : decode cX11_code 35 = .ok (.iload_n 2, 1) := by decide +kernel
theorem dX11_code_36 : decode cX11_code 36 = .ok (.invokestatic 347, 3) := by decide +kernel
theorem dX11_code_39 : decode cX11_code 39 = .ok (.isub, 1) := by decide +kernel
theorem dX11_code_40 : decode cX11_code 40 = .ok (.istore 4, 2) := by decide +kernel
theorem dX11_code_42 : decode cX11_code 42 = .ok (.iload 4, 2) := by decide +kernel
theorem dX11_code_44 : decode cX11_code 44 = .ok (.ifCond .lt 37, 3) := by decide +kernel
theorem dX11_code_47 : decode cX11_code 47 = .ok (.iload 4, 2) := by decide +kernel
theorem dX11_code_49 : decode cX11_code 49 = .ok (.ifCond .ne 18, 3) := by decide +kernel
theorem dX11_code_52 : decode cX11_code 52 = .ok (.aload_n 0, 1) := by decide +kernel
theorem dX11_code_53 : decode cX11_code 53 = .ok (.iload_n 3, 1) := by decide +kernel
theorem dX11_code_54 : decode cX11_code 54 = .ok (.iconst 0, 1) := by decide +kernel
theorem dX11_code_55 : decode cX11_code 55 = .ok (.invokevirtual 352, 3) := by decide +kernel
theorem dX11_code_58 : decode cX11_code 58 = .ok (.aload_n 0, 1) := by decide +kernel
theorem dX11_code_59 : decode cX11_code 59 = .ok (.iload_n 2, 1) := by decide +kernel
theorem dX11_code_60 : decode cX11_code 60 = .ok (.iconst 0, 1) := by decide +kernel
theorem dX11_code_61 : decode cX11_code 61 = .ok (.invokevirtual 352, 3) := by decide +kernel
theorem dX11_code_64 : decode cX11_code 64 = .ok (.if_icmp .ge 17, 3) := by decide +kernel
theorem dX11_code_67 : decode cX11_code 67 = .ok (.aload_n 0, 1) := by decide +kernel
theorem dX11_code_68 : decode cX11_code 68 = .ok (.iload_n 3, 1) := by decide +kernel
theorem dX11_code_69 : decode cX11_code 69 = .ok (.iload_n 1, 1) := by decide +kernel
theorem dX11_code_70 : decode cX11_code 70 = .ok (.invokevirtual 355, 3) := by decide +kernel
theorem dX11_code_73 : decode cX11_code 73 = .ok (.ifCond .ne 6, 3) := by decide +kernel
theorem dX11_code_76 : decode cX11_code 76 = .ok (.goto 5, 3) := by decide +kernel
theorem dX11_code_79 : decode cX11_code 79 = .ok (.iload_n 3, 1) := by decide +kernel
theorem dX11_code_80 : decode cX11_code 80 = .ok (.istore_n 2, 1) := by decide +kernel
theorem dX11_code_81 : decode cX11_code 81 = .ok (.iinc 3 1, 3) := by decide +kernel
theorem dX11_code_84 : decode cX11_code 84 = .ok (.goto (-63), 3) := by decide +kernel
theorem dX11_code_87 : decode cX11_code 87 = .ok (.aload_n 0, 1) := by decide +kernel
theorem dX11_code_88 : decode cX11_code 88 = .ok (.iconst 0, 1) := by decide +kernel
theorem dX11_code_89 : decode cX11_code 89 = .ok (.putfield 113, 3) := by decide +kernel
theorem dX11_code_92 : decode cX11_code 92 = .ok (.aload_n 0, 1) := by decide +kernel
theorem dX11_code_93 : decode cX11_code 93 = .ok (.iload_n 2, 1) := by decide +kernel
theorem dX11_code_94 : decode cX11_code 94 = .ok (.i2l, 1) := by decide +kernel
theorem dX11_code_95 : decode cX11_code 95 = .ok (.invokevirtual 274, 3) := by decide +kernel
theorem dX11_code_98 : decode cX11_code 98 = .ok (.iload_n 2, 1) := by decide +kernel
theorem dX11_code_99 : decode cX11_code 99 = .ok (.invokestatic 347, 3) := by decide +kernel
theorem dX11_code_102 : decode cX11_code 102 = .ok (.ireturn, 1) := by decide +kernel
theorem dX11_does_0 : decode cX11_does 0 = .ok (.iconst 0, 1) := by decide +kernel
theorem dX11_does_1 : decode cX11_does 1 = .ok (.istore 4, 2) := by decide +kernel
theorem dX11_does_3 : decode cX11_does 3 = .ok (.iconst 0, 1) := by decide +kernel
theorem dX11_does_4 : decode cX11_does 4 = .ok (.istore 5, 2) := by decide +kernel
theorem dX11_does_6 : decode cX11_does 6 = .ok (.iload 5, 2) := by decide +kernel
theorem dX11_does_8 : decode cX11_does 8 = .ok (.aload_n 0, 1) := by decide +kernel
theorem dX11_does_9 : decode cX11_does 9 = .ok (.getfield 168, 3) := by decide +kernel
theorem dX11_does_12 : decode cX11_does 12 = .ok (.if_icmp .ge 59, 3) := by decide +kernel
theorem dX11_does_15 : decode cX11_does 15 = .ok (.iload 4, 2) := by decide +kernel
theorem dX11_does_17 : decode cX11_does 17 = .ok (.aload_n 0, 1) := by decide +kernel
theorem dX11_does_18 : decode cX11_does 18 = .ok (.iload 5, 2) := by decide +kernel
theorem dX11_does_20 : decode cX11_does 20 = .ok (.iconst 0, 1) := by decide +kernel
theorem dX11_does_21 : decode cX11_does 21 = .ok (.invokevirtual 251, 3) := by decide +kernel
theorem dX11_does_24 : decode cX11_does 24 = .ok (.iload_n 1, 1) := by decide +kernel
theorem dX11_does_25 : decode cX11_does 25 = .ok (.if_icmp .ne 36, 3) := by decide +kernel
theorem dX11_does_28 : decode cX11_does 28 = .ok (.aload_n 0, 1) := by decide +kernel
theorem dX11_does_29 : decode cX11_does 29 = .ok (.iload 5, 2) := by decide +kernel
theorem dX11_does_31 : decode cX11_does 31 = .ok (.iconst 2, 1) := by decide +kernel
theorem dX11_does_32 : decode cX11_does 32 = .ok (.invokevirtual 251, 3) := by decide +kernel
theorem dX11_does_35 : decode cX11_does 35 = .ok (.iload_n 3, 1) := by decide +kernel
theorem dX11_does_36 : decode cX11_does 36 = .ok (.if_icmp .ne 25, 3) := by decide +kernel
theorem dX11_does_39 : decode cX11_does 39 = .ok (.aload_n 0, 1) := by decide +kernel
theorem dX11_does_40 : decode cX11_does 40 = .ok (.iload_n 2, 1) := by decide +kernel
theorem dX11_does_41 : decode cX11_does 41 = .ok (.aload_n 0, 1) := by decide +kernel
theorem dX11_does_42 : decode cX11_does 42 = .ok (.iload 5, 2) := by decide +kernel
theorem dX11_does_44 : decode cX11_does 44 = .ok (.iconst 1, 1) := by decide +kernel
theorem dX11_does_45 : decode cX11_does 45 = .ok (.invokevirtual 251, 3) := by decide +kernel
theorem dX11_does_48 : decode cX11_does 48 = .ok (.invokevirtual 292, 3) := by decide +kernel
theorem dX11_does_51 : decode cX11_does 51 = .ok (.ifCond .eq 10, 3) := by decide +kernel
theorem dX11_does_54 : decode cX11_does 54 = .ok (.iconst 1, 1) := by decide +kernel
theorem dX11_does_55 : decode cX11_does 55 = .ok (.iload 5, 2) := by decide +kernel
theorem dX11_does_57 : decode cX11_does 57 = .ok (.ishl, 1) := by decide +kernel
theorem dX11_does_58 : decode cX11_does 58 = .ok (.goto 4, 3) := by decide +kernel
theorem dX11_does_61 : decode cX11_does 61 = .ok (.iconst 0, 1) := by decide +kernel
theorem dX11_does_62 : decode cX11_does 62 = .ok (.ior, 1) := by decide +kernel
theorem dX11_does_63 : decode cX11_does 63 = .ok (.istore 4, 2) := by decide +kernel
theorem dX11_does_65 : decode cX11_does 65 = .ok (.iinc 5 1, 3) := by decide +kernel
theorem dX11_does_68 : decode cX11_does 68 = .ok (.goto (-62), 3) := by decide +kernel
theorem dX11_does_71 : decode cX11_does 71 = .ok (.iload 4, 2) := by decide +kernel
theorem dX11_does_73 : decode cX11_does 73 = .ok (.ireturn, 1) := by decide +kernel
theorem dX11_speak_0 : decode cX11_speak 0 = .ok (.iconst 0, 1) := by decide +kernel
theorem dX11_speak_1 : decode cX11_speak 1 = .ok (.istore_n 3, 1) := by decide +kernel
theorem dX11_speak_2 : decode cX11_speak 2 = .ok (.iload_n 3, 1) := by decide +kernel
theorem dX11_speak_3 : decode cX11_speak 3 = .ok (.aload_n 0, 1) := by decide +kernel
theorem dX11_speak_4 : decode cX11_speak 4 = .ok (.getfield 13, 3) := by decide +kernel
theorem dX11_speak_7 : decode cX11_speak 7 = .ok (.if_icmp .ge 123, 3) := by decide +kernel
theorem dX11_speak_10 : decode cX11_speak 10 = .ok (.iconst 0, 1) := by decide +kernel
theorem dX11_speak_11 : decode cX11_speak 11 = .ok (.istore 4, 2) := by decide +kernel
theorem dX11_speak_13 : decode cX11_speak 13 = .ok (.iload 4, 2) := by decide +kernel
theorem dX11_speak_15 : decode cX11_speak 15 = .ok (.aload_n 0, 1) := by decide +kernel
theorem dX11_speak_16 : decode cX11_speak 16 = .ok (.getfield 120, 3) := by decide +kernel
theorem dX11_speak_19 : decode cX11_speak 19 = .ok (.if_icmp .ge 105, 3) := by decide +kernel
theorem dX11_speak_22 : decode cX11_speak 22 = .ok (.aload_n 0, 1) := by decide +kernel
theorem dX11_speak_23 : decode cX11_speak 23 = .ok (.iload 4, 2) := by decide +kernel
theorem dX11_speak_25 : decode cX11_speak 25 = .ok (.iload_n 3, 1) := by decide +kernel
theorem dX11_speak_26 : decode cX11_speak 26 = .ok (.aload_n 0, 1) := by decide +kernel
theorem dX11_speak_27 : decode cX11_speak 27 = .ok (.getfield 9, 3) := by decide +kernel
theorem dX11_speak_30 : decode cX11_speak 30 = .ok (.bipush 12, 2) := by decide +kernel
theorem dX11_speak_32 : decode cX11_speak 32 = .ok (.iaload, 1) := by decide +kernel
theorem dX11_speak_33 : decode cX11_speak 33 = .ok (.iload_n 2, 1) := by decide +kernel
theorem dX11_speak_34 : decode cX11_speak 34 = .ok (.iadd, 1) := by decide +kernel
theorem dX11_speak_35 : decode cX11_speak 35 = .ok (.invokevirtual 234, 3) := by decide +kernel
theorem dX11_speak_38 : decode cX11_speak 38 = .ok (.istore 5, 2) := by decide +kernel
theorem dX11_speak_40 : decode cX11_speak 40 = .ok (.aload_n 0, 1) := by decide +kernel
theorem dX11_speak_41 : decode cX11_speak 41 = .ok (.iload_n 1, 1) := by decide +kernel
theorem dX11_speak_42 : decode cX11_speak 42 = .ok (.iload 4, 2) := by decide +kernel
theorem dX11_speak_44 : decode cX11_speak 44 = .ok (.iload_n 3, 1) := by decide +kernel
theorem dX11_speak_45 : decode cX11_speak 45 = .ok (.invokevirtual 358, 3) := by decide +kernel
theorem dX11_speak_48 : decode cX11_speak 48 = .ok (.istore 6, 2) := by decide +kernel
theorem dX11_speak_50 : decode cX11_speak 50 = .ok (.iconst 0, 1) := by decide +kernel
theorem dX11_speak_51 : decode cX11_speak 51 = .ok (.istore 7, 2) := by decide +kernel
theorem dX11_speak_53 : decode cX11_speak 53 = .ok (.iload 7, 2) := by decide +kernel
theorem dX11_speak_55 : decode cX11_speak 55 = .ok (.sipush 256, 3) := by decide +kernel
theorem dX11_speak_58 : decode cX11_speak 58 = .ok (.if_icmp .ge 60, 3) := by decide +kernel
theorem dX11_speak_61 : decode cX11_speak 61 = .ok (.aload_n 0, 1) := by decide +kernel
theorem dX11_speak_62 : decode cX11_speak 62 = .ok (.getfield 79, 3) := by decide +kernel
theorem dX11_speak_65 : decode cX11_speak 65 = .ok (.sipush 256, 3) := by decide +kernel
theorem dX11_speak_68 : decode cX11_speak 68 = .ok (.iload_n 3, 1) := by decide +kernel
theorem dX11_speak_69 : decode cX11_speak 69 = .ok (.imul, 1) := by decide +kernel
theorem dX11_speak_70 : decode cX11_speak 70 = .ok (.iload 7, 2) := by decide +kernel
theorem dX11_speak_72 : decode cX11_speak 72 = .ok (.iload 6, 2) := by decide +kernel
theorem dX11_speak_74 : decode cX11_speak 74 = .ok (.ior, 1) := by decide +kernel
theorem dX11_speak_75 : decode cX11_speak 75 = .ok (.iadd, 1) := by decide +kernel
theorem dX11_speak_76 : decode cX11_speak 76 = .ok (.aload_n 0, 1) := by decide +kernel
theorem dX11_speak_77 : decode cX11_speak 77 = .ok (.getfield 79, 3) := by decide +kernel
theorem dX11_speak_80 : decode cX11_speak 80 = .ok (.sipush 256, 3) := by decide +kernel
theorem dX11_speak_83 : decode cX11_speak 83 = .ok (.iload_n 3, 1) := by decide +kernel
theorem dX11_speak_84 : decode cX11_speak 84 = .ok (.imul, 1) := by decide +kernel
theorem dX11_speak_85 : decode cX11_speak 85 = .ok (.iload 7, 2) := by decide +kernel
theorem dX11_speak_87 : decode cX11_speak 87 = .ok (.iload 6, 2) := by decide +kernel
theorem dX11_speak_89 : decode cX11_speak 89 = .ok (.ior, 1) := by decide +kernel
theorem dX11_speak_90 : decode cX11_speak 90 = .ok (.iadd, 1) := by decide +kernel
theorem dX11_speak_91 : decode cX11_speak 91 = .ok (.iaload, 1) := by decide +kernel
theorem dX11_speak_92 : decode cX11_speak 92 = .ok (.aload_n 0, 1) := by decide +kernel
theorem dX11_speak_93 : decode cX11_speak 93 = .ok (.getfield 79, 3) := by decide +kernel
theorem dX11_speak_96 : decode cX11_speak 96 = .ok (.sipush 256, 3) := by decide +kernel
theorem dX11_speak_99 : decode cX11_speak 99 = .ok (.iload_n 3, 1) := by decide +kernel
theorem dX11_speak_100 : decode cX11_speak 100 = .ok (.imul, 1) := by decide +kernel
theorem dX11_speak_101 : decode cX11_speak 101 = .ok (.iload 7, 2) := by decide +kernel
theorem dX11_speak_103 : decode cX11_speak 103 = .ok (.iadd, 1) := by decide +kernel
theorem dX11_speak_104 : decode cX11_speak 104 = .ok (.iaload, 1) := by decide +kernel
theorem dX11_speak_105 : decode cX11_speak 105 = .ok (.iload 5, 2) := by decide +kernel
theorem dX11_speak_107 : decode cX11_speak 107 = .ok (.iadd, 1) := by decide +kernel
theorem dX11_speak_108 : decode cX11_speak 108 = .ok (.invokestatic 226, 3) := by decide +kernel
theorem dX11_speak_111 : decode cX11_speak 111 = .ok (.iastore, 1) := by decide +kernel
theorem dX11_speak_112 : decode cX11_speak 112 = .ok (.iinc 7 1, 3) := by decide +kernel
theorem dX11_speak_115 : decode cX11_speak 115 = .ok (.goto (-62), 3) := by decide +kernel
theorem dX11_speak_118 : decode cX11_speak 118 = .ok (.iinc 4 1, 3) := by decide +kernel
theorem dX11_speak_121 : decode cX11_speak 121 = .ok (.goto (-108), 3) := by decide +kernel
theorem dX11_speak_124 : decode cX11_speak 124 = .ok (.iinc 3 1, 3) := by decide +kernel
theorem dX11_speak_127 : decode cX11_speak 127 = .ok (.goto (-125), 3) := by decide +kernel
theorem dX11_speak_130 : decode cX11_speak 130 = .ok (.return_, 1) := by decide +kernel
theorem dX11_move_0 : decode cX11_move 0 = .ok (.iconst 0, 1) := by decide +kernel
theorem dX11_move_1 : decode cX11_move 1 = .ok (.istore_n 1, 1) := by decide +kernel
theorem dX11_move_2 : decode cX11_move 2 = .ok (.iload_n 1, 1) := by decide +kernel
theorem dX11_move_3 : decode cX11_move 3 = .ok (.aload_n 0, 1) := by decide +kernel
theorem dX11_move_4 : decode cX11_move 4 = .ok (.getfield 82, 3) := by decide +kernel
theorem dX11_move_7 : decode cX11_move 7 = .ok (.arraylength, 1) := by decide +kernel
theorem dX11_move_8 : decode cX11_move 8 = .ok (.if_icmp .ge 87, 3) := by decide +kernel
theorem dX11_move_11 : decode cX11_move 11 = .ok (.iload_n 1, 1) := by decide +kernel
theorem dX11_move_12 : decode cX11_move 12 = .ok (.sipush 256, 3) := by decide +kernel
theorem dX11_move_15 : decode cX11_move 15 = .ok (.idiv, 1) := by decide +kernel
theorem dX11_move_16 : decode cX11_move 16 = .ok (.istore_n 2, 1) := by decide +kernel
theorem dX11_move_17 : decode cX11_move 17 = .ok (.aload_n 0, 1) := by decide +kernel
theorem dX11_move_18 : decode cX11_move 18 = .ok (.getfield 79, 3) := by decide +kernel
theorem dX11_move_21 : decode cX11_move 21 = .ok (.iload_n 1, 1) := by decide +kernel
theorem dX11_move_22 : decode cX11_move 22 = .ok (.iaload, 1) := by decide +kernel
theorem dX11_move_23 : decode cX11_move 23 = .ok (.istore_n 3, 1) := by decide +kernel
theorem dX11_move_24 : decode cX11_move 24 = .ok (.iload_n 2, 1) := by decide +kernel
theorem dX11_move_25 : decode cX11_move 25 = .ok (.ifCond .le 18, 3) := by decide +kernel
theorem dX11_move_28 : decode cX11_move 28 = .ok (.iload_n 3, 1) := by decide +kernel
theorem dX11_move_29 : decode cX11_move 29 = .ok (.aload_n 0, 1) := by decide +kernel
theorem dX11_move_30 : decode cX11_move 30 = .ok (.getfield 79, 3) := by decide +kernel
theorem dX11_move_33 : decode cX11_move 33 = .ok (.iload_n 1, 1) := by decide +kernel
theorem dX11_move_34 : decode cX11_move 34 = .ok (.sipush 256, 3) := by decide +kernel
theorem dX11_move_37 : decode cX11_move 37 = .ok (.isub, 1) := by decide +kernel
theorem dX11_move_38 : decode cX11_move 38 = .ok (.iaload, 1) := by decide +kernel
theorem dX11_move_39 : decode cX11_move 39 = .ok (.invokestatic 226, 3) := by decide +kernel
theorem dX11_move_42 : decode cX11_move 42 = .ok (.istore_n 3, 1) := by decide +kernel
theorem dX11_move_43 : decode cX11_move 43 = .ok (.iload_n 2, 1) := by decide +kernel
theorem dX11_move_44 : decode cX11_move 44 = .ok (.iconst 1, 1) := by decide +kernel
theorem dX11_move_45 : decode cX11_move 45 = .ok (.iadd, 1) := by decide +kernel
theorem dX11_move_46 : decode cX11_move 46 = .ok (.aload_n 0, 1) := by decide +kernel
theorem dX11_move_47 : decode cX11_move 47 = .ok (.getfield 13, 3) := by decide +kernel
theorem dX11_move_50 : decode cX11_move 50 = .ok (.if_icmp .ge 18, 3) := by decide +kernel
theorem dX11_move_53 : decode cX11_move 53 = .ok (.iload_n 3, 1) := by decide +kernel
theorem dX11_move_54 : decode cX11_move 54 = .ok (.aload_n 0, 1) := by decide +kernel
theorem dX11_move_55 : decode cX11_move 55 = .ok (.getfield 79, 3) := by decide +kernel
theorem dX11_move_58 : decode cX11_move 58 = .ok (.iload_n 1, 1) := by decide +kernel
theorem dX11_move_59 : decode cX11_move 59 = .ok (.sipush 256, 3) := by decide +kernel
theorem dX11_move_62 : decode cX11_move 62 = .ok (.iadd, 1) := by decide +kernel
theorem dX11_move_63 : decode cX11_move 63 = .ok (.iaload, 1) := by decide +kernel
theorem dX11_move_64 : decode cX11_move 64 = .ok (.invokestatic 226, 3) := by decide +kernel
theorem dX11_move_67 : decode cX11_move 67 = .ok (.istore_n 3, 1) := by decide +kernel
theorem dX11_move_68 : decode cX11_move 68 = .ok (.aload_n 0, 1) := by decide +kernel
theorem dX11_move_69 : decode cX11_move 69 = .ok (.getfield 82, 3) := by decide +kernel
theorem dX11_move_72 : decode cX11_move 72 = .ok (.iload_n 1, 1) := by decide +kernel
theorem dX11_move_73 : decode cX11_move 73 = .ok (.iload_n 2, 1) := by decide +kernel
theorem dX11_move_74 : decode cX11_move 74 = .ok (.aload_n 0, 1) := by decide +kernel
theorem dX11_move_75 : decode cX11_move 75 = .ok (.getfield 13, 3) := by decide +kernel
theorem dX11_move_78 : decode cX11_move 78 = .ok (.if_icmp .ge 7, 3) := by decide +kernel
theorem dX11_move_81 : decode cX11_move 81 = .ok (.iload_n 3, 1) := by decide +kernel
theorem dX11_move_82 : decode cX11_move 82 = .ok (.goto 6, 3) := by decide +kernel
theorem dX11_move_85 : decode cX11_move 85 = .ok (.ldc_w 319, 3) := by decide +kernel
theorem dX11_move_88 : decode cX11_move 88 = .ok (.iastore, 1) := by decide +kernel
theorem dX11_move_89 : decode cX11_move 89 = .ok (.iinc 1 1, 3) := by decide +kernel
theorem dX11_move_92 : decode cX11_move 92 = .ok (.goto (-90), 3) := by decide +kernel
theorem dX11_move_95 : decode cX11_move 95 = .ok (.iconst 0, 1) := by decide +kernel
theorem dX11_move_96 : decode cX11_move 96 = .ok (.istore_n 1, 1) := by decide +kernel
theorem dX11_move_97 : decode cX11_move 97 = .ok (.iload_n 1, 1) := by decide +kernel
theorem dX11_move_98 : decode cX11_move 98 = .ok (.aload_n 0, 1) := by decide +kernel
theorem dX11_move_99 : decode cX11_move 99 = .ok (.getfield 79, 3) := by decide +kernel
theorem dX11_move_102 : decode cX11_move 102 = .ok (.arraylength, 1) := by decide +kernel
theorem dX11_move_103 : decode cX11_move 103 = .ok (.if_icmp .ge 21, 3) := by decide +kernel
theorem dX11_move_106 : decode cX11_move 106 = .ok (.aload_n 0, 1) := by decide +kernel
theorem dX11_move_107 : decode cX11_move 107 = .ok (.getfield 79, 3) := by decide +kernel
theorem dX11_move_110 : decode cX11_move 110 = .ok (.iload_n 1, 1) := by decide +kernel
theorem dX11_move_111 : decode cX11_move 111 = .ok (.aload_n 0, 1) := by decide +kernel
theorem dX11_move_112 : decode cX11_move 112 = .ok (.getfield 82, 3) := by decide +kernel
theorem dX11_move_115 : decode cX11_move 115 = .ok (.iload_n 1, 1) := by decide +kernel
theorem dX11_move_116 : decode cX11_move 116 = .ok (.iaload, 1) := by decide +kernel
theorem dX11_move_117 : decode cX11_move 117 = .ok (.iastore, 1) := by decide +kernel
theorem dX11_move_118 : decode cX11_move 118 = .ok (.iinc 1 1, 3) := by decide +kernel
theorem dX11_move_121 : decode cX11_move 121 = .ok (.goto (-24), 3) := by decide +kernel
theorem dX11_move_124 : decode cX11_move 124 = .ok (.return_, 1) := by decide +kernel
theorem dX11_leastTrip_0 : decode cX11_leastTrip 0 = .ok (.aload_n 0, 1) := by decide +kernel
theorem dX11_leastTrip_1 : decode cX11_leastTrip 1 = .ok (.iload_n 1, 1) := by decide +kernel
theorem dX11_leastTrip_2 : decode cX11_leastTrip 2 = .ok (.invokevirtual 261, 3) := by decide +kernel
theorem dX11_leastTrip_5 : decode cX11_leastTrip 5 = .ok (.istore_n 3, 1) := by decide +kernel
theorem dX11_leastTrip_6 : decode cX11_leastTrip 6 = .ok (.iconst 0, 1) := by decide +kernel
theorem dX11_leastTrip_7 : decode cX11_leastTrip 7 = .ok (.istore 4, 2) := by decide +kernel
theorem dX11_leastTrip_9 : decode cX11_leastTrip 9 = .ok (.iload 4, 2) := by decide +kernel
theorem dX11_leastTrip_11 : decode cX11_leastTrip 11 = .ok (.aload_n 0, 1) := by decide +kernel
theorem dX11_leastTrip_12 : decode cX11_leastTrip 12 = .ok (.getfield 79, 3) := by decide +kernel
theorem dX11_leastTrip_15 : decode cX11_leastTrip 15 = .ok (.arraylength, 1) := by decide +kernel
theorem dX11_leastTrip_16 : decode cX11_leastTrip 16 = .ok (.if_icmp .ge 19, 3) := by decide +kernel
theorem dX11_leastTrip_19 : decode cX11_leastTrip 19 = .ok (.aload_n 0, 1) := by decide +kernel
theorem dX11_leastTrip_20 : decode cX11_leastTrip 20 = .ok (.getfield 79, 3) := by decide +kernel
theorem dX11_leastTrip_23 : decode cX11_leastTrip 23 = .ok (.iload 4, 2) := by decide +kernel
theorem dX11_leastTrip_25 : decode cX11_leastTrip 25 = .ok (.ldc_w 319, 3) := by decide +kernel
theorem dX11_leastTrip_28 : decode cX11_leastTrip 28 = .ok (.iastore, 1) := by decide +kernel
theorem dX11_leastTrip_29 : decode cX11_leastTrip 29 = .ok (.iinc 4 1, 3) := by decide +kernel
theorem dX11_leastTrip_32 : decode cX11_leastTrip 32 = .ok (.goto (-23), 3) := by decide +kernel
theorem dX11_leastTrip_35 : decode cX11_leastTrip 35 = .ok (.aload_n 0, 1) := by decide +kernel
theorem dX11_leastTrip_36 : decode cX11_leastTrip 36 = .ok (.getfield 79, 3) := by decide +kernel
theorem dX11_leastTrip_39 : decode cX11_leastTrip 39 = .ok (.sipush 256, 3) := by decide +kernel
theorem dX11_leastTrip_42 : decode cX11_leastTrip 42 = .ok (.aload_n 0, 1) := by decide +kernel
theorem dX11_leastTrip_43 : decode cX11_leastTrip 43 = .ok (.getfield 9, 3) := by decide +kernel
theorem dX11_leastTrip_46 : decode cX11_leastTrip 46 = .ok (.iload_n 1, 1) := by decide +kernel
theorem dX11_leastTrip_47 : decode cX11_leastTrip 47 = .ok (.iaload, 1) := by decide +kernel
theorem dX11_leastTrip_48 : decode cX11_leastTrip 48 = .ok (.imul, 1) := by decide +kernel
theorem dX11_leastTrip_49 : decode cX11_leastTrip 49 = .ok (.sipush 255, 3) := by decide +kernel
theorem dX11_leastTrip_52 : decode cX11_leastTrip 52 = .ok (.iload_n 3, 1) := by decide +kernel
theorem dX11_leastTrip_53 : decode cX11_leastTrip 53 = .ok (.iconst (-1), 1) := by decide +kernel
theorem dX11_leastTrip_54 : decode cX11_leastTrip 54 = .ok (.ixor, 1) := by decide +kernel
theorem dX11_leastTrip_55 : decode cX11_leastTrip 55 = .ok (.iand, 1) := by decide +kernel
theorem dX11_leastTrip_56 : decode cX11_leastTrip 56 = .ok (.iadd, 1) := by decide +kernel
theorem dX11_leastTrip_57 : decode cX11_leastTrip 57 = .ok (.iconst 0, 1) := by decide +kernel
theorem dX11_leastTrip_58 : decode cX11_leastTrip 58 = .ok (.iastore, 1) := by decide +kernel
theorem dX11_leastTrip_59 : decode cX11_leastTrip 59 = .ok (.ldc_w 319, 3) := by decide +kernel
theorem dX11_leastTrip_62 : decode cX11_leastTrip 62 = .ok (.istore 4, 2) := by decide +kernel
theorem dX11_leastTrip_64 : decode cX11_leastTrip 64 = .ok (.aload_n 0, 1) := by decide +kernel
theorem dX11_leastTrip_65 : decode cX11_leastTrip 65 = .ok (.iconst (-1), 1) := by decide +kernel
theorem dX11_leastTrip_66 : decode cX11_leastTrip 66 = .ok (.putfield 361, 3) := by decide +kernel
theorem dX11_leastTrip_69 : decode cX11_leastTrip 69 = .ok (.aload_n 0, 1) := by decide +kernel
theorem dX11_leastTrip_70 : decode cX11_leastTrip 70 = .ok (.iconst (-1), 1) := by decide +kernel
theorem dX11_leastTrip_71 : decode cX11_leastTrip 71 = .ok (.putfield 364, 3) := by decide +kernel
theorem dX11_leastTrip_74 : decode cX11_leastTrip 74 = .ok (.iconst 0, 1) := by decide +kernel
theorem dX11_leastTrip_75 : decode cX11_leastTrip 75 = .ok (.istore 5, 2) := by decide +kernel
theorem dX11_leastTrip_77 : decode cX11_leastTrip 77 = .ok (.iload 5, 2) := by decide +kernel
theorem dX11_leastTrip_79 : decode cX11_leastTrip 79 = .ok (.iload_n 2, 1) := by decide +kernel
theorem dX11_leastTrip_80 : decode cX11_leastTrip 80 = .ok (.if_icmp .gt 110, 3) := by decide +kernel
theorem dX11_leastTrip_83 : decode cX11_leastTrip 83 = .ok (.iload 5, 2) := by decide +kernel
theorem dX11_leastTrip_85 : decode cX11_leastTrip 85 = .ok (.ifCond .le 7, 3) := by decide +kernel
theorem dX11_leastTrip_88 : decode cX11_leastTrip 88 = .ok (.aload_n 0, 1) := by decide +kernel
theorem dX11_leastTrip_89 : decode cX11_leastTrip 89 = .ok (.invokevirtual 367, 3) := by decide +kernel
theorem dX11_leastTrip_92 : decode cX11_leastTrip 92 = .ok (.aload_n 0, 1) := by decide +kernel
theorem dX11_leastTrip_93 : decode cX11_leastTrip 93 = .ok (.iload_n 1, 1) := by decide +kernel
theorem dX11_leastTrip_94 : decode cX11_leastTrip 94 = .ok (.iload 5, 2) := by decide +kernel
theorem dX11_leastTrip_96 : decode cX11_leastTrip 96 = .ok (.invokevirtual 370, 3) := by decide +kernel
theorem dX11_leastTrip_99 : decode cX11_leastTrip 99 = .ok (.iconst 0, 1) := by decide +kernel
theorem dX11_leastTrip_100 : decode cX11_leastTrip 100 = .ok (.istore 6, 2) := by decide +kernel
theorem dX11_leastTrip_102 : decode cX11_leastTrip 102 = .ok (.iload 6, 2) := by decide +kernel
theorem dX11_leastTrip_104 : decode cX11_leastTrip 104 = .ok (.aload_n 0, 1) := by decide +kernel
theorem dX11_leastTrip_105 : decode cX11_leastTrip 105 = .ok (.getfield 13, 3) := by decide +kernel
theorem dX11_leastTrip_108 : decode cX11_leastTrip 108 = .ok (.if_icmp .ge 48, 3) := by decide +kernel
theorem dX11_leastTrip_111 : decode cX11_leastTrip 111 = .ok (.aload_n 0, 1) := by decide +kernel
theorem dX11_leastTrip_112 : decode cX11_leastTrip 112 = .ok (.getfield 79, 3) := by decide +kernel
theorem dX11_leastTrip_115 : decode cX11_leastTrip 115 = .ok (.sipush 256, 3) := by decide +kernel
theorem dX11_leastTrip_118 : decode cX11_leastTrip 118 = .ok (.iload 6, 2) := by decide +kernel
theorem dX11_leastTrip_120 : decode cX11_leastTrip 120 = .ok (.imul, 1) := by decide +kernel
theorem dX11_leastTrip_121 : decode cX11_leastTrip 121 = .ok (.sipush 256, 3) := by decide +kernel
theorem dX11_leastTrip_124 : decode cX11_leastTrip 124 = .ok (.iadd, 1) := by decide +kernel
theorem dX11_leastTrip_125 : decode cX11_leastTrip 125 = .ok (.iconst 1, 1) := by decide +kernel
theorem dX11_leastTrip_126 : decode cX11_leastTrip 126 = .ok (.isub, 1) := by decide +kernel
theorem dX11_leastTrip_127 : decode cX11_leastTrip 127 = .ok (.iaload, 1) := by decide +kernel
theorem dX11_leastTrip_128 : decode cX11_leastTrip 128 = .ok (.istore 7, 2) := by decide +kernel
theorem dX11_leastTrip_130 : decode cX11_leastTrip 130 = .ok (.iload 7, 2) := by decide +kernel
theorem dX11_leastTrip_132 : decode cX11_leastTrip 132 = .ok (.iload 4, 2) := by decide +kernel
theorem dX11_leastTrip_134 : decode cX11_leastTrip 134 = .ok (.if_icmp .lt 6, 3) := by decide +kernel
theorem dX11_leastTrip_137 : decode cX11_leastTrip 137 = .ok (.goto 13, 3) := by decide +kernel
theorem dX11_leastTrip_140 : decode cX11_leastTrip 140 = .ok (.iload 7, 2) := by decide +kernel
theorem dX11_leastTrip_142 : decode cX11_leastTrip 142 = .ok (.istore 4, 2) := by decide +kernel
theorem dX11_leastTrip_144 : decode cX11_leastTrip 144 = .ok (.aload_n 0, 1) := by decide +kernel
theorem dX11_leastTrip_145 : decode cX11_leastTrip 145 = .ok (.iload 5, 2) := by decide +kernel
theorem dX11_leastTrip_147 : decode cX11_leastTrip 147 = .ok (.putfield 364, 3) := by decide +kernel
theorem dX11_leastTrip_150 : decode cX11_leastTrip 150 = .ok (.iinc 6 1, 3) := by decide +kernel
theorem dX11_leastTrip_153 : decode cX11_leastTrip 153 = .ok (.goto (-51), 3) := by decide +kernel
theorem dX11_leastTrip_156 : decode cX11_leastTrip 156 = .ok (.aload_n 0, 1) := by decide +kernel
theorem dX11_leastTrip_157 : decode cX11_leastTrip 157 = .ok (.getfield 361, 3) := by decide +kernel
theorem dX11_leastTrip_160 : decode cX11_leastTrip 160 = .ok (.iconst (-1), 1) := by decide +kernel
theorem dX11_leastTrip_161 : decode cX11_leastTrip 161 = .ok (.if_icmp .ne 23, 3) := by decide +kernel
theorem dX11_leastTrip_164 : decode cX11_leastTrip 164 = .ok (.iload 4, 2) := by decide +kernel
theorem dX11_leastTrip_166 : decode cX11_leastTrip 166 = .ok (.ldc_w 319, 3) := by decide +kernel
theorem dX11_leastTrip_169 : decode cX11_leastTrip 169 = .ok (.if_icmp .ge 15, 3) := by decide +kernel
theorem dX11_leastTrip_172 : decode cX11_leastTrip 172 = .ok (.aload_n 0, 1) := by decide +kernel
theorem dX11_leastTrip_173 : decode cX11_leastTrip 173 = .ok (.iload 5, 2) := by decide +kernel
theorem dX11_leastTrip_175 : decode cX11_leastTrip 175 = .ok (.putfield 361, 3) := by decide +kernel
theorem dX11_leastTrip_178 : decode cX11_leastTrip 178 = .ok (.aload_n 0, 1) := by decide +kernel
theorem dX11_leastTrip_179 : decode cX11_leastTrip 179 = .ok (.iload 4, 2) := by decide +kernel
theorem dX11_leastTrip_181 : decode cX11_leastTrip 181 = .ok (.putfield 374, 3) := by decide +kernel
theorem dX11_leastTrip_184 : decode cX11_leastTrip 184 = .ok (.iinc 5 1, 3) := by decide +kernel
theorem dX11_leastTrip_187 : decode cX11_leastTrip 187 = .ok (.goto (-110), 3) := by decide +kernel
theorem dX11_leastTrip_190 : decode cX11_leastTrip 190 = .ok (.iload 4, 2) := by decide +kernel
theorem dX11_leastTrip_192 : decode cX11_leastTrip 192 = .ok (.ireturn, 1) := by decide +kernel
theorem dX11_trip_0 : decode cX11_trip 0 = .ok (.aload_n 0, 1) := by decide +kernel
theorem dX11_trip_1 : decode cX11_trip 1 = .ok (.iconst 0, 1) := by decide +kernel
theorem dX11_trip_2 : decode cX11_trip 2 = .ok (.putfield 110, 3) := by decide +kernel
theorem dX11_trip_5 : decode cX11_trip 5 = .ok (.aload_n 0, 1) := by decide +kernel
theorem dX11_trip_6 : decode cX11_trip 6 = .ok (.iload_n 1, 1) := by decide +kernel
theorem dX11_trip_7 : decode cX11_trip 7 = .ok (.invokevirtual 258, 3) := by decide +kernel
theorem dX11_trip_10 : decode cX11_trip 10 = .ok (.ifCond .eq 13, 3) := by decide +kernel
theorem dX11_trip_13 : decode cX11_trip 13 = .ok (.iload_n 2, 1) := by decide +kernel
theorem dX11_trip_14 : decode cX11_trip 14 = .ok (.iconst 0, 1) := by decide +kernel
theorem dX11_trip_15 : decode cX11_trip 15 = .ok (.bipush 12, 2) := by decide +kernel
theorem dX11_trip_17 : decode cX11_trip 17 = .ok (.invokestatic 116, 3) := by decide +kernel
theorem dX11_trip_20 : decode cX11_trip 20 = .ok (.ifCond .ne 5, 3) := by decide +kernel
theorem dX11_trip_23 : decode cX11_trip 23 = .ok (.iconst (-1), 1) := by decide +kernel
theorem dX11_trip_24 : decode cX11_trip 24 = .ok (.ireturn, 1) := by decide +kernel
theorem dX11_trip_25 : decode cX11_trip 25 = .ok (.aload_n 0, 1) := by decide +kernel
theorem dX11_trip_26 : decode cX11_trip 26 = .ok (.iload_n 1, 1) := by decide +kernel
theorem dX11_trip_27 : decode cX11_trip 27 = .ok (.iload_n 2, 1) := by decide +kernel
theorem dX11_trip_28 : decode cX11_trip 28 = .ok (.invokevirtual 377, 3) := by decide +kernel
theorem dX11_trip_31 : decode cX11_trip 31 = .ok (.istore_n 3, 1) := by decide +kernel
theorem dX11_trip_32 : decode cX11_trip 32 = .ok (.iload_n 3, 1) := by decide +kernel
theorem dX11_trip_33 : decode cX11_trip 33 = .ok (.ldc_w 319, 3) := by decide +kernel
theorem dX11_trip_36 : decode cX11_trip 36 = .ok (.if_icmp .lt 6, 3) := by decide +kernel
theorem dX11_trip_39 : decode cX11_trip 39 = .ok (.bipush (-2), 2) := by decide +kernel
theorem dX11_trip_41 : decode cX11_trip 41 = .ok (.ireturn, 1) := by decide +kernel
theorem dX11_trip_42 : decode cX11_trip 42 = .ok (.aload_n 0, 1) := by decide +kernel
theorem dX11_trip_43 : decode cX11_trip 43 = .ok (.iconst 0, 1) := by decide +kernel
theorem dX11_trip_44 : decode cX11_trip 44 = .ok (.putfield 113, 3) := by decide +kernel
theorem dX11_trip_47 : decode cX11_trip 47 = .ok (.aload_n 0, 1) := by decide +kernel
theorem dX11_trip_48 : decode cX11_trip 48 = .ok (.aload_n 0, 1) := by decide +kernel
theorem dX11_trip_49 : decode cX11_trip 49 = .ok (.getfield 364, 3) := by decide +kernel
theorem dX11_trip_52 : decode cX11_trip 52 = .ok (.i2l, 1) := by decide +kernel
theorem dX11_trip_53 : decode cX11_trip 53 = .ok (.invokevirtual 274, 3) := by decide +kernel
theorem dX11_trip_56 : decode cX11_trip 56 = .ok (.aload_n 0, 1) := by decide +kernel
theorem dX11_trip_57 : decode cX11_trip 57 = .ok (.aload_n 0, 1) := by decide +kernel
theorem dX11_trip_58 : decode cX11_trip 58 = .ok (.iload_n 1, 1) := by decide +kernel
theorem dX11_trip_59 : decode cX11_trip 59 = .ok (.invokevirtual 261, 3) := by decide +kernel
theorem dX11_trip_62 : decode cX11_trip 62 = .ok (.invokestatic 347, 3) := by decide +kernel
theorem dX11_trip_65 : decode cX11_trip 65 = .ok (.i2l, 1) := by decide +kernel
theorem dX11_trip_66 : decode cX11_trip 66 = .ok (.invokevirtual 274, 3) := by decide +kernel
theorem dX11_trip_69 : decode cX11_trip 69 = .ok (.iload_n 3, 1) := by decide +kernel
theorem dX11_trip_70 : decode cX11_trip 70 = .ok (.ireturn, 1) := by decide +kernel
theorem dX11_haste_0 : decode cX11_haste 0 = .ok (.aload_n 0, 1) := by decide +kernel
theorem dX11_haste_1 : decode cX11_haste 1 = .ok (.iconst 0, 1) := by decide +kernel
theorem dX11_haste_2 : decode cX11_haste 2 = .ok (.putfield 110, 3) := by decide +kernel
theorem dX11_haste_5 : decode cX11_haste 5 = .ok (.aload_n 0, 1) := by decide +kernel
theorem dX11_haste_6 : decode cX11_haste 6 = .ok (.iload_n 1, 1) := by decide +kernel
theorem dX11_haste_7 : decode cX11_haste 7 = .ok (.invokevirtual 258, 3) := by decide +kernel
theorem dX11_haste_10 : decode cX11_haste 10 = .ok (.ifCond .ne 5, 3) := by decide +kernel
theorem dX11_haste_13 : decode cX11_haste 13 = .ok (.iconst (-1), 1) := by decide +kernel
theorem dX11_haste_14 : decode cX11_haste 14 = .ok (.ireturn, 1) := by decide +kernel
theorem dX11_haste_15 : decode cX11_haste 15 = .ok (.aload_n 0, 1) := by decide +kernel
theorem dX11_haste_16 : decode cX11_haste 16 = .ok (.iload_n 1, 1) := by decide +kernel
theorem dX11_haste_17 : decode cX11_haste 17 = .ok (.bipush 12, 2) := by decide +kernel
theorem dX11_haste_19 : decode cX11_haste 19 = .ok (.invokevirtual 377, 3) := by decide +kernel
theorem dX11_haste_22 : decode cX11_haste 22 = .ok (.ldc_w 319, 3) := by decide +kernel
theorem dX11_haste_25 : decode cX11_haste 25 = .ok (.if_icmp .lt 6, 3) := by decide +kernel
theorem dX11_haste_28 : decode cX11_haste 28 = .ok (.bipush (-2), 2) := by decide +kernel
theorem dX11_haste_30 : decode cX11_haste 30 = .ok (.ireturn, 1) := by decide +kernel
theorem dX11_haste_31 : decode cX11_haste 31 = .ok (.aload_n 0, 1) := by decide +kernel
theorem dX11_haste_32 : decode cX11_haste 32 = .ok (.iconst 0, 1) := by decide +kernel
theorem dX11_haste_33 : decode cX11_haste 33 = .ok (.putfield 113, 3) := by decide +kernel
theorem dX11_haste_36 : decode cX11_haste 36 = .ok (.aload_n 0, 1) := by decide +kernel
theorem dX11_haste_37 : decode cX11_haste 37 = .ok (.aload_n 0, 1) := by decide +kernel
theorem dX11_haste_38 : decode cX11_haste 38 = .ok (.getfield 374, 3) := by decide +kernel
theorem dX11_haste_41 : decode cX11_haste 41 = .ok (.i2l, 1) := by decide +kernel
theorem dX11_haste_42 : decode cX11_haste 42 = .ok (.invokevirtual 274, 3) := by decide +kernel
theorem dX11_haste_45 : decode cX11_haste 45 = .ok (.aload_n 0, 1) := by decide +kernel
theorem dX11_haste_46 : decode cX11_haste 46 = .ok (.getfield 361, 3) := by decide +kernel
theorem dX11_haste_49 : decode cX11_haste 49 = .ok (.ireturn, 1) := by decide +kernel
theorem dX11_best_0 : decode cX11_best 0 = .ok (.aload_n 0, 1) := by decide +kernel
theorem dX11_best_1 : decode cX11_best 1 = .ok (.iconst 0, 1) := by decide +kernel
theorem dX11_best_2 : decode cX11_best 2 = .ok (.putfield 110, 3) := by decide +kernel
theorem dX11_best_5 : decode cX11_best 5 = .ok (.aload_n 0, 1) := by decide +kernel
theorem dX11_best_6 : decode cX11_best 6 = .ok (.iload_n 1, 1) := by decide +kernel
theorem dX11_best_7 : decode cX11_best 7 = .ok (.invokevirtual 258, 3) := by decide +kernel
theorem dX11_best_10 : decode cX11_best 10 = .ok (.ifCond .ne 5, 3) := by decide +kernel
theorem dX11_best_13 : decode cX11_best 13 = .ok (.iconst (-1), 1) := by decide +kernel
theorem dX11_best_14 : decode cX11_best 14 = .ok (.ireturn, 1) := by decide +kernel
theorem dX11_best_15 : decode cX11_best 15 = .ok (.iconst 0, 1) := by decide +kernel
theorem dX11_best_16 : decode cX11_best 16 = .ok (.istore_n 2, 1) := by decide +kernel
theorem dX11_best_17 : decode cX11_best 17 = .ok (.iconst 0, 1) := by decide +kernel
theorem dX11_best_18 : decode cX11_best 18 = .ok (.istore_n 3, 1) := by decide +kernel
theorem dX11_best_19 : decode cX11_best 19 = .ok (.iload_n 3, 1) := by decide +kernel
theorem dX11_best_20 : decode cX11_best 20 = .ok (.aload_n 0, 1) := by decide +kernel
theorem dX11_best_21 : decode cX11_best 21 = .ok (.getfield 168, 3) := by decide +kernel
theorem dX11_best_24 : decode cX11_best 24 = .ok (.if_icmp .ge 66, 3) := by decide +kernel
theorem dX11_best_27 : decode cX11_best 27 = .ok (.iload_n 2, 1) := by decide +kernel
theorem dX11_best_28 : decode cX11_best 28 = .ok (.aload_n 0, 1) := by decide +kernel
theorem dX11_best_29 : decode cX11_best 29 = .ok (.iload_n 1, 1) := by decide +kernel
theorem dX11_best_30 : decode cX11_best 30 = .ok (.invokevirtual 261, 3) := by decide +kernel
theorem dX11_best_33 : decode cX11_best 33 = .ok (.iload_n 3, 1) := by decide +kernel
theorem dX11_best_34 : decode cX11_best 34 = .ok (.invokestatic 254, 3) := by decide +kernel
theorem dX11_best_37 : decode cX11_best 37 = .ok (.ifCond .eq 44, 3) := by decide +kernel
theorem dX11_best_40 : decode cX11_best 40 = .ok (.aload_n 0, 1) := by decide +kernel
theorem dX11_best_41 : decode cX11_best 41 = .ok (.iload_n 3, 1) := by decide +kernel
theorem dX11_best_42 : decode cX11_best 42 = .ok (.iconst 2, 1) := by decide +kernel
theorem dX11_best_43 : decode cX11_best 43 = .ok (.invokevirtual 251, 3) := by decide +kernel
theorem dX11_best_46 : decode cX11_best 46 = .ok (.aload_n 0, 1) := by decide +kernel
theorem dX11_best_47 : decode cX11_best 47 = .ok (.getfield 9, 3) := by decide +kernel
theorem dX11_best_50 : decode cX11_best 50 = .ok (.iload_n 1, 1) := by decide +kernel
theorem dX11_best_51 : decode cX11_best 51 = .ok (.iaload, 1) := by decide +kernel
theorem dX11_best_52 : decode cX11_best 52 = .ok (.if_icmp .ne 29, 3) := by decide +kernel
theorem dX11_best_55 : decode cX11_best 55 = .ok (.aload_n 0, 1) := by decide +kernel
theorem dX11_best_56 : decode cX11_best 56 = .ok (.aload_n 0, 1) := by decide +kernel
theorem dX11_best_57 : decode cX11_best 57 = .ok (.iload_n 3, 1) := by decide +kernel
theorem dX11_best_58 : decode cX11_best 58 = .ok (.iconst 1, 1) := by decide +kernel
theorem dX11_best_59 : decode cX11_best 59 = .ok (.invokevirtual 251, 3) := by decide +kernel
theorem dX11_best_62 : decode cX11_best 62 = .ok (.aload_n 0, 1) := by decide +kernel
theorem dX11_best_63 : decode cX11_best 63 = .ok (.getfield 9, 3) := by decide +kernel
theorem dX11_best_66 : decode cX11_best 66 = .ok (.iload_n 1, 1) := by decide +kernel
theorem dX11_best_67 : decode cX11_best 67 = .ok (.iaload, 1) := by decide +kernel
theorem dX11_best_68 : decode cX11_best 68 = .ok (.invokevirtual 313, 3) := by decide +kernel
theorem dX11_best_71 : decode cX11_best 71 = .ok (.iconst (-1), 1) := by decide +kernel
theorem dX11_best_72 : decode cX11_best 72 = .ok (.if_icmp .eq 9, 3) := by decide +kernel
theorem dX11_best_75 : decode cX11_best 75 = .ok (.iconst 1, 1) := by decide +kernel
theorem dX11_best_76 : decode cX11_best 76 = .ok (.iload_n 3, 1) := by decide +kernel
theorem dX11_best_77 : decode cX11_best 77 = .ok (.ishl, 1) := by decide +kernel
theorem dX11_best_78 : decode cX11_best 78 = .ok (.goto 4, 3) := by decide +kernel
theorem dX11_best_81 : decode cX11_best 81 = .ok (.iconst 0, 1) := by decide +kernel
theorem dX11_best_82 : decode cX11_best 82 = .ok (.ior, 1) := by decide +kernel
theorem dX11_best_83 : decode cX11_best 83 = .ok (.istore_n 2, 1) := by decide +kernel
theorem dX11_best_84 : decode cX11_best 84 = .ok (.iinc 3 1, 3) := by decide +kernel
theorem dX11_best_87 : decode cX11_best 87 = .ok (.goto (-68), 3) := by decide +kernel
theorem dX11_best_90 : decode cX11_best 90 = .ok (.iconst 0, 1) := by decide +kernel
theorem dX11_best_91 : decode cX11_best 91 = .ok (.istore_n 3, 1) := by decide +kernel
theorem dX11_best_92 : decode cX11_best 92 = .ok (.iconst 0, 1) := by decide +kernel
theorem dX11_best_93 : decode cX11_best 93 = .ok (.istore 4, 2) := by decide +kernel
theorem dX11_best_95 : decode cX11_best 95 = .ok (.iconst 0, 1) := by decide +kernel
theorem dX11_best_96 : decode cX11_best 96 = .ok (.istore 5, 2) := by decide +kernel
theorem dX11_best_98 : decode cX11_best 98 = .ok (.iconst 1, 1) := by decide +kernel
theorem dX11_best_99 : decode cX11_best 99 = .ok (.istore 6, 2) := by decide +kernel
theorem dX11_best_101 : decode cX11_best 101 = .ok (.iload 6, 2) := by decide +kernel
theorem dX11_best_103 : decode cX11_best 103 = .ok (.iload_n 2, 1) := by decide +kernel
theorem dX11_best_104 : decode cX11_best 104 = .ok (.if_icmp .gt 150, 3) := by decide +kernel
theorem dX11_best_107 : decode cX11_best 107 = .ok (.iload 6, 2) := by decide +kernel
theorem dX11_best_109 : decode cX11_best 109 = .ok (.iload_n 2, 1) := by decide +kernel
theorem dX11_best_110 : decode cX11_best 110 = .ok (.iconst (-1), 1) := by decide +kernel
theorem dX11_best_111 : decode cX11_best 111 = .ok (.ixor, 1) := by decide +kernel
theorem dX11_best_112 : decode cX11_best 112 = .ok (.iand, 1) := by decide +kernel
theorem dX11_best_113 : decode cX11_best 113 = .ok (.ifCond .eq 6, 3) := by decide +kernel
theorem dX11_best_116 : decode cX11_best 116 = .ok (.goto 132, 3) := by decide +kernel
theorem dX11_best_119 : decode cX11_best 119 = .ok (.iconst 0, 1) := by decide +kernel
theorem dX11_best_120 : decode cX11_best 120 = .ok (.istore 7, 2) := by decide +kernel
theorem dX11_best_122 : decode cX11_best 122 = .ok (.iconst 0, 1) := by decide +kernel
theorem dX11_best_123 : decode cX11_best 123 = .ok (.istore 8, 2) := by decide +kernel
theorem dX11_best_125 : decode cX11_best 125 = .ok (.iconst 0, 1) := by decide +kernel
theorem dX11_best_126 : decode cX11_best 126 = .ok (.istore 9, 2) := by decide +kernel
theorem dX11_best_128 : decode cX11_best 128 = .ok (.iload 9, 2) := by decide +kernel
theorem dX11_best_130 : decode cX11_best 130 = .ok (.aload_n 0, 1) := by decide +kernel
theorem dX11_best_131 : decode cX11_best 131 = .ok (.getfield 168, 3) := by decide +kernel
theorem dX11_best_134 : decode cX11_best 134 = .ok (.if_icmp .ge 66, 3) := by decide +kernel
theorem dX11_best_137 : decode cX11_best 137 = .ok (.iload 6, 2) := by decide +kernel
theorem dX11_best_139 : decode cX11_best 139 = .ok (.iload 9, 2) := by decide +kernel
theorem dX11_best_141 : decode cX11_best 141 = .ok (.invokestatic 254, 3) := by decide +kernel
theorem dX11_best_144 : decode cX11_best 144 = .ok (.ifCond .ne 6, 3) := by decide +kernel
theorem dX11_best_147 : decode cX11_best 147 = .ok (.goto 47, 3) := by decide +kernel
theorem dX11_best_150 : decode cX11_best 150 = .ok (.iload 7, 2) := by decide +kernel
theorem dX11_best_152 : decode cX11_best 152 = .ok (.aload_n 0, 1) := by decide +kernel
theorem dX11_best_153 : decode cX11_best 153 = .ok (.iload 9, 2) := by decide +kernel
theorem dX11_best_155 : decode cX11_best 155 = .ok (.iconst 3, 1) := by decide +kernel
theorem dX11_best_156 : decode cX11_best 156 = .ok (.invokevirtual 251, 3) := by decide +kernel
theorem dX11_best_159 : decode cX11_best 159 = .ok (.iadd, 1) := by decide +kernel
theorem dX11_best_160 : decode cX11_best 160 = .ok (.istore 7, 2) := by decide +kernel
theorem dX11_best_162 : decode cX11_best 162 = .ok (.iload 8, 2) := by decide +kernel
theorem dX11_best_164 : decode cX11_best 164 = .ok (.aload_n 0, 1) := by decide +kernel
theorem dX11_best_165 : decode cX11_best 165 = .ok (.aload_n 0, 1) := by decide +kernel
theorem dX11_best_166 : decode cX11_best 166 = .ok (.aload_n 0, 1) := by decide +kernel
theorem dX11_best_167 : decode cX11_best 167 = .ok (.iload 9, 2) := by decide +kernel
theorem dX11_best_169 : decode cX11_best 169 = .ok (.iconst 1, 1) := by decide +kernel
theorem dX11_best_170 : decode cX11_best 170 = .ok (.invokevirtual 251, 3) := by decide +kernel
theorem dX11_best_173 : decode cX11_best 173 = .ok (.aload_n 0, 1) := by decide +kernel
theorem dX11_best_174 : decode cX11_best 174 = .ok (.getfield 9, 3) := by decide +kernel
theorem dX11_best_177 : decode cX11_best 177 = .ok (.iload_n 1, 1) := by decide +kernel
theorem dX11_best_178 : decode cX11_best 178 = .ok (.iaload, 1) := by decide +kernel
theorem dX11_best_179 : decode cX11_best 179 = .ok (.invokevirtual 313, 3) := by decide +kernel
theorem dX11_best_182 : decode cX11_best 182 = .ok (.aload_n 0, 1) := by decide +kernel
theorem dX11_best_183 : decode cX11_best 183 = .ok (.getfield 9, 3) := by decide +kernel
theorem dX11_best_186 : decode cX11_best 186 = .ok (.iload_n 1, 1) := by decide +kernel
theorem dX11_best_187 : decode cX11_best 187 = .ok (.iaload, 1) := by decide +kernel
theorem dX11_best_188 : decode cX11_best 188 = .ok (.invokevirtual 271, 3) := by decide +kernel
theorem dX11_best_191 : decode cX11_best 191 = .ok (.iadd, 1) := by decide +kernel
theorem dX11_best_192 : decode cX11_best 192 = .ok (.istore 8, 2) := by decide +kernel
theorem dX11_best_194 : decode cX11_best 194 = .ok (.iinc 9 1, 3) := by decide +kernel
theorem dX11_best_197 : decode cX11_best 197 = .ok (.goto (-69), 3) := by decide +kernel
theorem dX11_best_200 : decode cX11_best 200 = .ok (.iload 8, 2) := by decide +kernel
theorem dX11_best_202 : decode cX11_best 202 = .ok (.aload_n 0, 1) := by decide +kernel
theorem dX11_best_203 : decode cX11_best 203 = .ok (.getfield 9, 3) := by decide +kernel
theorem dX11_best_206 : decode cX11_best 206 = .ok (.iconst 4, 1) := by decide +kernel
theorem dX11_best_207 : decode cX11_best 207 = .ok (.iload_n 1, 1) := by decide +kernel
theorem dX11_best_208 : decode cX11_best 208 = .ok (.iadd, 1) := by decide +kernel
theorem dX11_best_209 : decode cX11_best 209 = .ok (.iaload, 1) := by decide +kernel
theorem dX11_best_210 : decode cX11_best 210 = .ok (.if_icmp .gt 38, 3) := by decide +kernel
theorem dX11_best_213 : decode cX11_best 213 = .ok (.iload 7, 2) := by decide +kernel
theorem dX11_best_215 : decode cX11_best 215 = .ok (.iload 4, 2) := by decide +kernel
theorem dX11_best_217 : decode cX11_best 217 = .ok (.if_icmp .lt 31, 3) := by decide +kernel
theorem dX11_best_220 : decode cX11_best 220 = .ok (.iload 7, 2) := by decide +kernel
theorem dX11_best_222 : decode cX11_best 222 = .ok (.iload 4, 2) := by decide +kernel
theorem dX11_best_224 : decode cX11_best 224 = .ok (.if_icmp .ne 13, 3) := by decide +kernel
theorem dX11_best_227 : decode cX11_best 227 = .ok (.iload 8, 2) := by decide +kernel
theorem dX11_best_229 : decode cX11_best 229 = .ok (.iload 5, 2) := by decide +kernel
theorem dX11_best_231 : decode cX11_best 231 = .ok (.if_icmp .lt 6, 3) := by decide +kernel
theorem dX11_best_234 : decode cX11_best 234 = .ok (.goto 14, 3) := by decide +kernel
theorem dX11_best_237 : decode cX11_best 237 = .ok (.iload 6, 2) := by decide +kernel
theorem dX11_best_239 : decode cX11_best 239 = .ok (.istore_n 3, 1) := by decide +kernel
theorem dX11_best_240 : decode cX11_best 240 = .ok (.iload 7, 2) := by decide +kernel
theorem dX11_best_242 : decode cX11_best 242 = .ok (.istore 4, 2) := by decide +kernel
theorem dX11_best_244 : decode cX11_best 244 = .ok (.iload 8, 2) := by decide +kernel
theorem dX11_best_246 : decode cX11_best 246 = .ok (.istore 5, 2) := by decide +kernel
theorem dX11_best_248 : decode cX11_best 248 = .ok (.iinc 6 1, 3) := by decide +kernel
theorem dX11_best_251 : decode cX11_best 251 = .ok (.goto (-150), 3) := by decide +kernel
theorem dX11_best_254 : decode cX11_best 254 = .ok (.aload_n 0, 1) := by decide +kernel
theorem dX11_best_255 : decode cX11_best 255 = .ok (.iconst 0, 1) := by decide +kernel
theorem dX11_best_256 : decode cX11_best 256 = .ok (.putfield 113, 3) := by decide +kernel
theorem dX11_best_259 : decode cX11_best 259 = .ok (.aload_n 0, 1) := by decide +kernel
theorem dX11_best_260 : decode cX11_best 260 = .ok (.iload_n 3, 1) := by decide +kernel
theorem dX11_best_261 : decode cX11_best 261 = .ok (.i2l, 1) := by decide +kernel
theorem dX11_best_262 : decode cX11_best 262 = .ok (.invokevirtual 274, 3) := by decide +kernel
theorem dX11_best_265 : decode cX11_best 265 = .ok (.aload_n 0, 1) := by decide +kernel
theorem dX11_best_266 : decode cX11_best 266 = .ok (.iload 5, 2) := by decide +kernel
theorem dX11_best_268 : decode cX11_best 268 = .ok (.i2l, 1) := by decide +kernel
theorem dX11_best_269 : decode cX11_best 269 = .ok (.invokevirtual 274, 3) := by decide +kernel
theorem dX11_best_272 : decode cX11_best 272 = .ok (.iload 4, 2) := by decide +kernel
theorem dX11_best_274 : decode cX11_best 274 = .ok (.ireturn, 1) := by decide +kernel
theorem dX11_takesBy_0 : decode cX11_takesBy 0 = .ok (.iconst 0, 1) := by decide +kernel
theorem dX11_takesBy_1 : decode cX11_takesBy 1 = .ok (.istore_n 3, 1) := by decide +kernel
theorem dX11_takesBy_2 : decode cX11_takesBy 2 = .ok (.aload_n 0, 1) := by decide +kernel
theorem dX11_takesBy_3 : decode cX11_takesBy 3 = .ok (.iconst 0, 1) := by decide +kernel
theorem dX11_takesBy_4 : decode cX11_takesBy 4 = .ok (.putfield 380, 3) := by decide +kernel
theorem dX11_takesBy_7 : decode cX11_takesBy 7 = .ok (.iconst 0, 1) := by decide +kernel
theorem dX11_takesBy_8 : decode cX11_takesBy 8 = .ok (.istore 4, 2) := by decide +kernel
theorem dX11_takesBy_10 : decode cX11_takesBy 10 = .ok (.iload 4, 2) := by decide +kernel
theorem dX11_takesBy_12 : decode cX11_takesBy 12 = .ok (.aload_n 0, 1) := by decide +kernel
theorem dX11_takesBy_13 : decode cX11_takesBy 13 = .ok (.getfield 168, 3) := by decide +kernel
theorem dX11_takesBy_16 : decode cX11_takesBy 16 = .ok (.if_icmp .ge 130, 3) := by decide +kernel
theorem dX11_takesBy_19 : decode cX11_takesBy 19 = .ok (.aload_n 0, 1) := by decide +kernel
theorem dX11_takesBy_20 : decode cX11_takesBy 20 = .ok (.getfield 9, 3) := by decide +kernel
theorem dX11_takesBy_23 : decode cX11_takesBy 23 = .ok (.bipush 13, 2) := by decide +kernel
theorem dX11_takesBy_25 : decode cX11_takesBy 25 = .ok (.iaload, 1) := by decide +kernel
theorem dX11_takesBy_26 : decode cX11_takesBy 26 = .ok (.iload 4, 2) := by decide +kernel
theorem dX11_takesBy_28 : decode cX11_takesBy 28 = .ok (.invokestatic 254, 3) := by decide +kernel
theorem dX11_takesBy_31 : decode cX11_takesBy 31 = .ok (.ifCond .ne 109, 3) := by decide +kernel
theorem dX11_takesBy_34 : decode cX11_takesBy 34 = .ok (.aload_n 0, 1) := by decide +kernel
theorem dX11_takesBy_35 : decode cX11_takesBy 35 = .ok (.iload 4, 2) := by decide +kernel
theorem dX11_takesBy_37 : decode cX11_takesBy 37 = .ok (.iconst 2, 1) := by decide +kernel
theorem dX11_takesBy_38 : decode cX11_takesBy 38 = .ok (.invokevirtual 251, 3) := by decide +kernel
theorem dX11_takesBy_41 : decode cX11_takesBy 41 = .ok (.iload_n 1, 1) := by decide +kernel
theorem dX11_takesBy_42 : decode cX11_takesBy 42 = .ok (.if_icmp .eq 6, 3) := by decide +kernel
theorem dX11_takesBy_45 : decode cX11_takesBy 45 = .ok (.goto 95, 3) := by decide +kernel
theorem dX11_takesBy_48 : decode cX11_takesBy 48 = .ok (.ldc_w 319, 3) := by decide +kernel
theorem dX11_takesBy_51 : decode cX11_takesBy 51 = .ok (.istore 5, 2) := by decide +kernel
theorem dX11_takesBy_53 : decode cX11_takesBy 53 = .ok (.iconst 0, 1) := by decide +kernel
theorem dX11_takesBy_54 : decode cX11_takesBy 54 = .ok (.istore 6, 2) := by decide +kernel
theorem dX11_takesBy_56 : decode cX11_takesBy 56 = .ok (.iload 6, 2) := by decide +kernel
theorem dX11_takesBy_58 : decode cX11_takesBy 58 = .ok (.aload_n 0, 1) := by decide +kernel
theorem dX11_takesBy_59 : decode cX11_takesBy 59 = .ok (.getfield 120, 3) := by decide +kernel
theorem dX11_takesBy_62 : decode cX11_takesBy 62 = .ok (.if_icmp .ge 48, 3) := by decide +kernel
theorem dX11_takesBy_65 : decode cX11_takesBy 65 = .ok (.aload_n 0, 1) := by decide +kernel
theorem dX11_takesBy_66 : decode cX11_takesBy 66 = .ok (.iload 6, 2) := by decide +kernel
theorem dX11_takesBy_68 : decode cX11_takesBy 68 = .ok (.aload_n 0, 1) := by decide +kernel
theorem dX11_takesBy_69 : decode cX11_takesBy 69 = .ok (.iload 4, 2) := by decide +kernel
theorem dX11_takesBy_71 : decode cX11_takesBy 71 = .ok (.iconst 1, 1) := by decide +kernel
theorem dX11_takesBy_72 : decode cX11_takesBy 72 = .ok (.invokevirtual 251, 3) := by decide +kernel
theorem dX11_takesBy_75 : decode cX11_takesBy 75 = .ok (.invokevirtual 292, 3) := by decide +kernel
theorem dX11_takesBy_78 : decode cX11_takesBy 78 = .ok (.ifCond .eq 26, 3) := by decide +kernel
theorem dX11_takesBy_81 : decode cX11_takesBy 81 = .ok (.iload 5, 2) := by decide +kernel
theorem dX11_takesBy_83 : decode cX11_takesBy 83 = .ok (.aload_n 0, 1) := by decide +kernel
theorem dX11_takesBy_84 : decode cX11_takesBy 84 = .ok (.iload 6, 2) := by decide +kernel
theorem dX11_takesBy_86 : decode cX11_takesBy 86 = .ok (.iload_n 1, 1) := by decide +kernel
theorem dX11_takesBy_87 : decode cX11_takesBy 87 = .ok (.invokevirtual 271, 3) := by decide +kernel
theorem dX11_takesBy_90 : decode cX11_takesBy 90 = .ok (.iload_n 2, 1) := by decide +kernel
theorem dX11_takesBy_91 : decode cX11_takesBy 91 = .ok (.aload_n 0, 1) := by decide +kernel
theorem dX11_takesBy_92 : decode cX11_takesBy 92 = .ok (.iload 6, 2) := by decide +kernel
theorem dX11_takesBy_94 : decode cX11_takesBy 94 = .ok (.invokevirtual 248, 3) := by decide +kernel
theorem dX11_takesBy_97 : decode cX11_takesBy 97 = .ok (.imul, 1) := by decide +kernel
theorem dX11_takesBy_98 : decode cX11_takesBy 98 = .ok (.iadd, 1) := by decide +kernel
theorem dX11_takesBy_99 : decode cX11_takesBy 99 = .ok (.invokestatic 226, 3) := by decide +kernel
theorem dX11_takesBy_102 : decode cX11_takesBy 102 = .ok (.istore 5, 2) := by decide +kernel
theorem dX11_takesBy_104 : decode cX11_takesBy 104 = .ok (.iinc 6 1, 3) := by decide +kernel
theorem dX11_takesBy_107 : decode cX11_takesBy 107 = .ok (.goto (-51), 3) := by decide +kernel
theorem dX11_takesBy_110 : decode cX11_takesBy 110 = .ok (.iload 5, 2) := by decide +kernel
theorem dX11_takesBy_112 : decode cX11_takesBy 112 = .ok (.aload_n 0, 1) := by decide +kernel
theorem dX11_takesBy_113 : decode cX11_takesBy 113 = .ok (.iload 4, 2) := by decide +kernel
theorem dX11_takesBy_115 : decode cX11_takesBy 115 = .ok (.iconst 3, 1) := by decide +kernel
theorem dX11_takesBy_116 : decode cX11_takesBy 116 = .ok (.invokevirtual 251, 3) := by decide +kernel
theorem dX11_takesBy_119 : decode cX11_takesBy 119 = .ok (.if_icmp .le 6, 3) := by decide +kernel
theorem dX11_takesBy_122 : decode cX11_takesBy 122 = .ok (.goto 18, 3) := by decide +kernel
theorem dX11_takesBy_125 : decode cX11_takesBy 125 = .ok (.iload_n 3, 1) := by decide +kernel
theorem dX11_takesBy_126 : decode cX11_takesBy 126 = .ok (.iload 5, 2) := by decide +kernel
theorem dX11_takesBy_128 : decode cX11_takesBy 128 = .ok (.iadd, 1) := by decide +kernel
theorem dX11_takesBy_129 : decode cX11_takesBy 129 = .ok (.istore_n 3, 1) := by decide +kernel
theorem dX11_takesBy_130 : decode cX11_takesBy 130 = .ok (.aload_n 0, 1) := by decide +kernel
theorem dX11_takesBy_131 : decode cX11_takesBy 131 = .ok (.dup, 1) := by decide +kernel
theorem dX11_takesBy_132 : decode cX11_takesBy 132 = .ok (.getfield 380, 3) := by decide +kernel
theorem dX11_takesBy_135 : decode cX11_takesBy 135 = .ok (.iconst 1, 1) := by decide +kernel
theorem dX11_takesBy_136 : decode cX11_takesBy 136 = .ok (.iadd, 1) := by decide +kernel
theorem dX11_takesBy_137 : decode cX11_takesBy 137 = .ok (.putfield 380, 3) := by decide +kernel
theorem dX11_takesBy_140 : decode cX11_takesBy 140 = .ok (.iinc 4 1, 3) := by decide +kernel
theorem dX11_takesBy_143 : decode cX11_takesBy 143 = .ok (.goto (-133), 3) := by decide +kernel
theorem dX11_takesBy_146 : decode cX11_takesBy 146 = .ok (.iload_n 3, 1) := by decide +kernel
theorem dX11_takesBy_147 : decode cX11_takesBy 147 = .ok (.ireturn, 1) := by decide +kernel
theorem dX11_takes_0 : decode cX11_takes 0 = .ok (.aload_n 0, 1) := by decide +kernel
theorem dX11_takes_1 : decode cX11_takes 1 = .ok (.iconst 0, 1) := by decide +kernel
theorem dX11_takes_2 : decode cX11_takes 2 = .ok (.putfield 110, 3) := by decide +kernel
theorem dX11_takes_5 : decode cX11_takes 5 = .ok (.aload_n 0, 1) := by decide +kernel
theorem dX11_takes_6 : decode cX11_takes 6 = .ok (.iload_n 1, 1) := by decide +kernel
theorem dX11_takes_7 : decode cX11_takes 7 = .ok (.invokevirtual 264, 3) := by decide +kernel
theorem dX11_takes_10 : decode cX11_takes 10 = .ok (.ifCond .eq 13, 3) := by decide +kernel
theorem dX11_takes_13 : decode cX11_takes 13 = .ok (.iload_n 2, 1) := by decide +kernel
theorem dX11_takes_14 : decode cX11_takes 14 = .ok (.iconst 0, 1) := by decide +kernel
theorem dX11_takes_15 : decode cX11_takes 15 = .ok (.bipush 99, 2) := by decide +kernel
theorem dX11_takes_17 : decode cX11_takes 17 = .ok (.invokestatic 116, 3) := by decide +kernel
theorem dX11_takes_20 : decode cX11_takes 20 = .ok (.ifCond .ne 5, 3) := by decide +kernel
theorem dX11_takes_23 : decode cX11_takes 23 = .ok (.iconst (-1), 1) := by decide +kernel
theorem dX11_takes_24 : decode cX11_takes 24 = .ok (.ireturn, 1) := by decide +kernel
theorem dX11_takes_25 : decode cX11_takes 25 = .ok (.aload_n 0, 1) := by decide +kernel
theorem dX11_takes_26 : decode cX11_takes 26 = .ok (.iload_n 1, 1) := by decide +kernel
theorem dX11_takes_27 : decode cX11_takes 27 = .ok (.iload_n 2, 1) := by decide +kernel
theorem dX11_takes_28 : decode cX11_takes 28 = .ok (.invokevirtual 383, 3) := by decide +kernel
theorem dX11_takes_31 : decode cX11_takes 31 = .ok (.istore_n 3, 1) := by decide +kernel
theorem dX11_takes_32 : decode cX11_takes 32 = .ok (.aload_n 0, 1) := by decide +kernel
theorem dX11_takes_33 : decode cX11_takes 33 = .ok (.iconst 0, 1) := by decide +kernel
theorem dX11_takes_34 : decode cX11_takes 34 = .ok (.putfield 113, 3) := by decide +kernel
theorem dX11_takes_37 : decode cX11_takes 37 = .ok (.aload_n 0, 1) := by decide +kernel
theorem dX11_takes_38 : decode cX11_takes 38 = .ok (.aload_n 0, 1) := by decide +kernel
theorem dX11_takes_39 : decode cX11_takes 39 = .ok (.getfield 380, 3) := by decide +kernel
theorem dX11_takes_42 : decode cX11_takes 42 = .ok (.i2l, 1) := by decide +kernel
theorem dX11_takes_43 : decode cX11_takes 43 = .ok (.invokevirtual 274, 3) := by decide +kernel
theorem dX11_takes_46 : decode cX11_takes 46 = .ok (.iload_n 3, 1) := by decide +kernel
theorem dX11_takes_47 : decode cX11_takes 47 = .ok (.ireturn, 1) := by decide +kernel
theorem dX11_greed_0 : decode cX11_greed 0 = .ok (.aload_n 0, 1) := by decide +kernel
theorem dX11_greed_1 : decode cX11_greed 1 = .ok (.iconst 0, 1) := by decide +kernel
theorem dX11_greed_2 : decode cX11_greed 2 = .ok (.putfield 110, 3) := by decide +kernel
theorem dX11_greed_5 : decode cX11_greed 5 = .ok (.aload_n 0, 1) := by decide +kernel
theorem dX11_greed_6 : decode cX11_greed 6 = .ok (.iload_n 1, 1) := by decide +kernel
theorem dX11_greed_7 : decode cX11_greed 7 = .ok (.invokevirtual 264, 3) := by decide +kernel
theorem dX11_greed_10 : decode cX11_greed 10 = .ok (.ifCond .ne 5, 3) := by decide +kernel
theorem dX11_greed_13 : decode cX11_greed 13 = .ok (.iconst (-1), 1) := by decide +kernel
theorem dX11_greed_14 : decode cX11_greed 14 = .ok (.ireturn, 1) := by decide +kernel
theorem dX11_greed_15 : decode cX11_greed 15 = .ok (.iconst 0, 1) := by decide +kernel
theorem dX11_greed_16 : decode cX11_greed 16 = .ok (.istore_n 2, 1) := by decide +kernel
theorem dX11_greed_17 : decode cX11_greed 17 = .ok (.aload_n 0, 1) := by decide +kernel
theorem dX11_greed_18 : decode cX11_greed 18 = .ok (.iload_n 1, 1) := by decide +kernel
theorem dX11_greed_19 : decode cX11_greed 19 = .ok (.iconst 0, 1) := by decide +kernel
theorem dX11_greed_20 : decode cX11_greed 20 = .ok (.invokevirtual 383, 3) := by decide +kernel
theorem dX11_greed_23 : decode cX11_greed 23 = .ok (.istore_n 3, 1) := by decide +kernel
theorem dX11_greed_24 : decode cX11_greed 24 = .ok (.iload_n 3, 1) := by decide +kernel
theorem dX11_greed_25 : decode cX11_greed 25 = .ok (.istore 4, 2) := by decide +kernel
theorem dX11_greed_27 : decode cX11_greed 27 = .ok (.iconst 1, 1) := by decide +kernel
theorem dX11_greed_28 : decode cX11_greed 28 = .ok (.istore 5, 2) := by decide +kernel
theorem dX11_greed_30 : decode cX11_greed 30 = .ok (.iload 5, 2) := by decide +kernel
theorem dX11_greed_32 : decode cX11_greed 32 = .ok (.bipush 99, 2) := by decide +kernel
theorem dX11_greed_34 : decode cX11_greed 34 = .ok (.if_icmp .gt 33, 3) := by decide +kernel
theorem dX11_greed_37 : decode cX11_greed 37 = .ok (.aload_n 0, 1) := by decide +kernel
theorem dX11_greed_38 : decode cX11_greed 38 = .ok (.iload_n 1, 1) := by decide +kernel
theorem dX11_greed_39 : decode cX11_greed 39 = .ok (.iload 5, 2) := by decide +kernel
theorem dX11_greed_41 : decode cX11_greed 41 = .ok (.invokevirtual 383, 3) := by decide +kernel
theorem dX11_greed_44 : decode cX11_greed 44 = .ok (.istore 6, 2) := by decide +kernel
theorem dX11_greed_46 : decode cX11_greed 46 = .ok (.iload 6, 2) := by decide +kernel
theorem dX11_greed_48 : decode cX11_greed 48 = .ok (.iload_n 3, 1) := by decide +kernel
theorem dX11_greed_49 : decode cX11_greed 49 = .ok (.if_icmp .gt 6, 3) := by decide +kernel
theorem dX11_greed_52 : decode cX11_greed 52 = .ok (.goto 9, 3) := by decide +kernel
theorem dX11_greed_55 : decode cX11_greed 55 = .ok (.iload 5, 2) := by decide +kernel
theorem dX11_greed_57 : decode cX11_greed 57 = .ok (.istore_n 2, 1) := by decide +kernel
theorem dX11_greed_58 : decode cX11_greed 58 = .ok (.iload 6, 2) := by decide +kernel
theorem dX11_greed_60 : decode cX11_greed 60 = .ok (.istore_n 3, 1) := by decide +kernel
theorem dX11_greed_61 : decode cX11_greed 61 = .ok (.iinc 5 1, 3) := by decide +kernel
theorem dX11_greed_64 : decode cX11_greed 64 = .ok (.goto (-34), 3) := by decide +kernel
theorem dX11_greed_67 : decode cX11_greed 67 = .ok (.aload_n 0, 1) := by decide +kernel
theorem dX11_greed_68 : decode cX11_greed 68 = .ok (.iconst 0, 1) := by decide +kernel
theorem dX11_greed_69 : decode cX11_greed 69 = .ok (.putfield 113, 3) := by decide +kernel
theorem dX11_greed_72 : decode cX11_greed 72 = .ok (.aload_n 0, 1) := by decide +kernel
theorem dX11_greed_73 : decode cX11_greed 73 = .ok (.iload_n 3, 1) := by decide +kernel
theorem dX11_greed_74 : decode cX11_greed 74 = .ok (.i2l, 1) := by decide +kernel
theorem dX11_greed_75 : decode cX11_greed 75 = .ok (.invokevirtual 274, 3) := by decide +kernel
theorem dX11_greed_78 : decode cX11_greed 78 = .ok (.aload_n 0, 1) := by decide +kernel
theorem dX11_greed_79 : decode cX11_greed 79 = .ok (.iload 4, 2) := by decide +kernel
theorem dX11_greed_81 : decode cX11_greed 81 = .ok (.i2l, 1) := by decide +kernel
theorem dX11_greed_82 : decode cX11_greed 82 = .ok (.invokevirtual 274, 3) := by decide +kernel
theorem dX11_greed_85 : decode cX11_greed 85 = .ok (.iload_n 2, 1) := by decide +kernel
theorem dX11_greed_86 : decode cX11_greed 86 = .ok (.ireturn, 1) := by decide +kernel
theorem dX11_law_0 : decode cX11_law 0 = .ok (.aload_n 0, 1) := by decide +kernel
theorem dX11_law_1 : decode cX11_law 1 = .ok (.iconst 0, 1) := by decide +kernel
theorem dX11_law_2 : decode cX11_law 2 = .ok (.putfield 110, 3) := by decide +kernel
theorem dX11_law_5 : decode cX11_law 5 = .ok (.aload_n 0, 1) := by decide +kernel
theorem dX11_law_6 : decode cX11_law 6 = .ok (.getfield 126, 3) := by decide +kernel
theorem dX11_law_9 : decode cX11_law 9 = .ok (.istore_n 2, 1) := by decide +kernel
theorem dX11_law_10 : decode cX11_law 10 = .ok (.aload_n 0, 1) := by decide +kernel
theorem dX11_law_11 : decode cX11_law 11 = .ok (.iload_n 1, 1) := by decide +kernel
theorem dX11_law_12 : decode cX11_law 12 = .ok (.invokevirtual 264, 3) := by decide +kernel
theorem dX11_law_15 : decode cX11_law 15 = .ok (.ifCond .ne 11, 3) := by decide +kernel
theorem dX11_law_18 : decode cX11_law 18 = .ok (.aload_n 0, 1) := by decide +kernel
theorem dX11_law_19 : decode cX11_law 19 = .ok (.iconst 0, 1) := by decide +kernel
theorem dX11_law_20 : decode cX11_law 20 = .ok (.putfield 126, 3) := by decide +kernel
theorem dX11_law_23 : decode cX11_law 23 = .ok (.bipush (-100), 2) := by decide +kernel
theorem dX11_law_25 : decode cX11_law 25 = .ok (.ireturn, 1) := by decide +kernel
theorem dX11_law_26 : decode cX11_law 26 = .ok (.aload_n 0, 1) := by decide +kernel
theorem dX11_law_27 : decode cX11_law 27 = .ok (.invokevirtual 213, 3) := by decide +kernel
theorem dX11_law_30 : decode cX11_law 30 = .ok (.ifCond .ne 10, 3) := by decide +kernel
theorem dX11_law_33 : decode cX11_law 33 = .ok (.iconst (-1), 1) := by decide +kernel
theorem dX11_law_34 : decode cX11_law 34 = .ok (.aload_n 0, 1) := by decide +kernel
theorem dX11_law_35 : decode cX11_law 35 = .ok (.getfield 141, 3) := by decide +kernel
theorem dX11_law_38 : decode cX11_law 38 = .ok (.isub, 1) := by decide +kernel
theorem dX11_law_39 : decode cX11_law 39 = .ok (.ireturn, 1) := by decide +kernel
theorem dX11_law_40 : decode cX11_law 40 = .ok (.iconst 0, 1) := by decide +kernel
theorem dX11_law_41 : decode cX11_law 41 = .ok (.istore_n 3, 1) := by decide +kernel
theorem dX11_law_42 : decode cX11_law 42 = .ok (.iload_n 3, 1) := by decide +kernel
theorem dX11_law_43 : decode cX11_law 43 = .ok (.aload_n 0, 1) := by decide +kernel
theorem dX11_law_44 : decode cX11_law 44 = .ok (.getfield 120, 3) := by decide +kernel
theorem dX11_law_47 : decode cX11_law 47 = .ok (.if_icmp .ge 21, 3) := by decide +kernel
theorem dX11_law_50 : decode cX11_law 50 = .ok (.aload_n 0, 1) := by decide +kernel
theorem dX11_law_51 : decode cX11_law 51 = .ok (.getfield 85, 3) := by decide +kernel
theorem dX11_law_54 : decode cX11_law 54 = .ok (.iload_n 3, 1) := by decide +kernel
theorem dX11_law_55 : decode cX11_law 55 = .ok (.aload_n 0, 1) := by decide +kernel
theorem dX11_law_56 : decode cX11_law 56 = .ok (.iload_n 3, 1) := by decide +kernel
theorem dX11_law_57 : decode cX11_law 57 = .ok (.iload_n 1, 1) := by decide +kernel
theorem dX11_law_58 : decode cX11_law 58 = .ok (.invokevirtual 271, 3) := by decide +kernel
theorem dX11_law_61 : decode cX11_law 61 = .ok (.iastore, 1) := by decide +kernel
theorem dX11_law_62 : decode cX11_law 62 = .ok (.iinc 3 1, 3) := by decide +kernel
theorem dX11_law_65 : decode cX11_law 65 = .ok (.goto (-23), 3) := by decide +kernel
theorem dX11_law_68 : decode cX11_law 68 = .ok (.aload_n 0, 1) := by decide +kernel
theorem dX11_law_69 : decode cX11_law 69 = .ok (.getfield 46, 3) := by decide +kernel
theorem dX11_law_72 : decode cX11_law 72 = .ok (.astore_n 3, 1) := by decide +kernel
theorem dX11_law_73 : decode cX11_law 73 = .ok (.aload_n 0, 1) := by decide +kernel
theorem dX11_law_74 : decode cX11_law 74 = .ok (.getfield 216, 3) := by decide +kernel
theorem dX11_law_77 : decode cX11_law 77 = .ok (.istore 4, 2) := by decide +kernel
theorem dX11_law_79 : decode cX11_law 79 = .ok (.aload_n 0, 1) := by decide +kernel
theorem dX11_law_80 : decode cX11_law 80 = .ok (.aload_n 0, 1) := by decide +kernel
theorem dX11_law_81 : decode cX11_law 81 = .ok (.getfield 49, 3) := by decide +kernel
theorem dX11_law_84 : decode cX11_law 84 = .ok (.putfield 46, 3) := by decide +kernel
theorem dX11_law_87 : decode cX11_law 87 = .ok (.aload_n 0, 1) := by decide +kernel
theorem dX11_law_88 : decode cX11_law 88 = .ok (.iload_n 2, 1) := by decide +kernel
theorem dX11_law_89 : decode cX11_law 89 = .ok (.putfield 216, 3) := by decide +kernel
theorem dX11_law_92 : decode cX11_law 92 = .ok (.iconst 0, 1) := by decide +kernel
theorem dX11_law_93 : decode cX11_law 93 = .ok (.istore 5, 2) := by decide +kernel
theorem dX11_law_95 : decode cX11_law 95 = .ok (.iload 5, 2) := by decide +kernel
theorem dX11_law_97 : decode cX11_law 97 = .ok (.iload_n 2, 1) := by decide +kernel
theorem dX11_law_98 : decode cX11_law 98 = .ok (.if_icmp .ge 23, 3) := by decide +kernel
theorem dX11_law_101 : decode cX11_law 101 = .ok (.aload_n 0, 1) := by decide +kernel
theorem dX11_law_102 : decode cX11_law 102 = .ok (.getfield 46, 3) := by decide +kernel
theorem dX11_law_105 : decode cX11_law 105 = .ok (.iload 5, 2) := by decide +kernel
theorem dX11_law_107 : decode cX11_law 107 = .ok (.aload_n 0, 1) := by decide +kernel
theorem dX11_law_108 : decode cX11_law 108 = .ok (.getfield 30, 3) := by decide +kernel
theorem dX11_law_111 : decode cX11_law 111 = .ok (.iload 5, 2) := by decide +kernel
theorem dX11_law_113 : decode cX11_law 113 = .ok (.baload, 1) := by decide +kernel
theorem dX11_law_114 : decode cX11_law 114 = .ok (.bastore, 1) := by decide +kernel
theorem dX11_law_115 : decode cX11_law 115 = .ok (.iinc 5 1, 3) := by decide +kernel
theorem dX11_law_118 : decode cX11_law 118 = .ok (.goto (-23), 3) := by decide +kernel
theorem dX11_law_121 : decode cX11_law 121 = .ok (.iconst 0, 1) := by decide +kernel
theorem dX11_law_122 : decode cX11_law 122 = .ok (.istore 5, 2) := by decide +kernel
theorem dX11_law_124 : decode cX11_law 124 = .ok (.iconst 0, 1) := by decide +kernel
theorem dX11_law_125 : decode cX11_law 125 = .ok (.istore 6, 2) := by decide +kernel
theorem dX11_law_127 : decode cX11_law 127 = .ok (.iconst 0, 1) := by decide +kernel
theorem dX11_law_128 : decode cX11_law 128 = .ok (.istore 7, 2) := by decide +kernel
theorem dX11_law_130 : decode cX11_law 130 = .ok (.iconst 0, 1) := by decide +kernel
theorem dX11_law_131 : decode cX11_law 131 = .ok (.istore 8, 2) := by decide +kernel
theorem dX11_law_133 : decode cX11_law 133 = .ok (.iload 8, 2) := by decide +kernel
theorem dX11_law_135 : decode cX11_law 135 = .ok (.aload_n 0, 1) := by decide +kernel
theorem dX11_law_136 : decode cX11_law 136 = .ok (.getfield 120, 3) := by decide +kernel
theorem dX11_law_139 : decode cX11_law 139 = .ok (.if_icmp .ge 63, 3) := by decide +kernel
theorem dX11_law_142 : decode cX11_law 142 = .ok (.aload_n 0, 1) := by decide +kernel
theorem dX11_law_143 : decode cX11_law 143 = .ok (.iload 8, 2) := by decide +kernel
theorem dX11_law_145 : decode cX11_law 145 = .ok (.iload_n 1, 1) := by decide +kernel
theorem dX11_law_146 : decode cX11_law 146 = .ok (.invokevirtual 271, 3) := by decide +kernel
theorem dX11_law_149 : decode cX11_law 149 = .ok (.aload_n 0, 1) := by decide +kernel
theorem dX11_law_150 : decode cX11_law 150 = .ok (.getfield 85, 3) := by decide +kernel
theorem dX11_law_153 : decode cX11_law 153 = .ok (.iload 8, 2) := by decide +kernel
theorem dX11_law_155 : decode cX11_law 155 = .ok (.iaload, 1) := by decide +kernel
theorem dX11_law_156 : decode cX11_law 156 = .ok (.isub, 1) := by decide +kernel
theorem dX11_law_157 : decode cX11_law 157 = .ok (.istore 9, 2) := by decide +kernel
theorem dX11_law_159 : decode cX11_law 159 = .ok (.iload 5, 2) := by decide +kernel
theorem dX11_law_161 : decode cX11_law 161 = .ok (.iload 9, 2) := by decide +kernel
theorem dX11_law_163 : decode cX11_law 163 = .ok (.ifCond .le 7, 3) := by decide +kernel
theorem dX11_law_166 : decode cX11_law 166 = .ok (.iconst 1, 1) := by decide +kernel
theorem dX11_law_167 : decode cX11_law 167 = .ok (.goto 4, 3) := by decide +kernel
theorem dX11_law_170 : decode cX11_law 170 = .ok (.iconst 0, 1) := by decide +kernel
theorem dX11_law_171 : decode cX11_law 171 = .ok (.iadd, 1) := by decide +kernel
theorem dX11_law_172 : decode cX11_law 172 = .ok (.istore 5, 2) := by decide +kernel
theorem dX11_law_174 : decode cX11_law 174 = .ok (.iload 6, 2) := by decide +kernel
theorem dX11_law_176 : decode cX11_law 176 = .ok (.iload 9, 2) := by decide +kernel
theorem dX11_law_178 : decode cX11_law 178 = .ok (.ifCond .ge 7, 3) := by decide +kernel
theorem dX11_law_181 : decode cX11_law 181 = .ok (.iconst 1, 1) := by decide +kernel
theorem dX11_law_182 : decode cX11_law 182 = .ok (.goto 4, 3) := by decide +kernel
theorem dX11_law_185 : decode cX11_law 185 = .ok (.iconst 0, 1) := by decide +kernel
theorem dX11_law_186 : decode cX11_law 186 = .ok (.iadd, 1) := by decide +kernel
theorem dX11_law_187 : decode cX11_law 187 = .ok (.istore 6, 2) := by decide +kernel
theorem dX11_law_189 : decode cX11_law 189 = .ok (.iload 7, 2) := by decide +kernel
theorem dX11_law_191 : decode cX11_law 191 = .ok (.iload 9, 2) := by decide +kernel
theorem dX11_law_193 : decode cX11_law 193 = .ok (.iadd, 1) := by decide +kernel
theorem dX11_law_194 : decode cX11_law 194 = .ok (.istore 7, 2) := by decide +kernel
theorem dX11_law_196 : decode cX11_law 196 = .ok (.iinc 8 1, 3) := by decide +kernel
theorem dX11_law_199 : decode cX11_law 199 = .ok (.goto (-66), 3) := by decide +kernel
theorem dX11_law_202 : decode cX11_law 202 = .ok (.aload_n 0, 1) := by decide +kernel
theorem dX11_law_203 : decode cX11_law 203 = .ok (.aload_n 3, 1) := by decide +kernel
theorem dX11_law_204 : decode cX11_law 204 = .ok (.putfield 46, 3) := by decide +kernel
theorem dX11_law_207 : decode cX11_law 207 = .ok (.aload_n 0, 1) := by decide +kernel
theorem dX11_law_208 : decode cX11_law 208 = .ok (.iload 4, 2) := by decide +kernel
theorem dX11_law_210 : decode cX11_law 210 = .ok (.putfield 216, 3) := by decide +kernel
theorem dX11_law_213 : decode cX11_law 213 = .ok (.aload_n 0, 1) := by decide +kernel
theorem dX11_law_214 : decode cX11_law 214 = .ok (.iconst 0, 1) := by decide +kernel
theorem dX11_law_215 : decode cX11_law 215 = .ok (.putfield 113, 3) := by decide +kernel
theorem dX11_law_218 : decode cX11_law 218 = .ok (.aload_n 0, 1) := by decide +kernel
theorem dX11_law_219 : decode cX11_law 219 = .ok (.iload 6, 2) := by decide +kernel
theorem dX11_law_221 : decode cX11_law 221 = .ok (.i2l, 1) := by decide +kernel
theorem dX11_law_222 : decode cX11_law 222 = .ok (.invokevirtual 274, 3) := by decide +kernel
theorem dX11_law_225 : decode cX11_law 225 = .ok (.aload_n 0, 1) := by decide +kernel
theorem dX11_law_226 : decode cX11_law 226 = .ok (.iload 7, 2) := by decide +kernel
theorem dX11_law_228 : decode cX11_law 228 = .ok (.i2l, 1) := by decide +kernel
theorem dX11_law_229 : decode cX11_law 229 = .ok (.invokevirtual 274, 3) := by decide +kernel
theorem dX11_law_232 : decode cX11_law 232 = .ok (.iload 5, 2) := by decide +kernel
theorem dX11_law_234 : decode cX11_law 234 = .ok (.ireturn, 1) := by decide +kernel
theorem dX11_isAll_0 : decode cX11_isAll 0 = .ok (.aload_n 0, 1) := by decide +kernel
theorem dX11_isAll_1 : decode cX11_isAll 1 = .ok (.getfield 88, 3) := by decide +kernel
theorem dX11_isAll_4 : decode cX11_isAll 4 = .ok (.astore_n 1, 1) := by decide +kernel
theorem dX11_isAll_5 : decode cX11_isAll 5 = .ok (.aload_n 1, 1) := by decide +kernel
theorem dX11_isAll_6 : decode cX11_isAll 6 = .ok (.arraylength, 1) := by decide +kernel
theorem dX11_isAll_7 : decode cX11_isAll 7 = .ok (.istore_n 2, 1) := by decide +kernel
theorem dX11_isAll_8 : decode cX11_isAll 8 = .ok (.iconst 0, 1) := by decide +kernel
theorem dX11_isAll_9 : decode cX11_isAll 9 = .ok (.istore_n 3, 1) := by decide +kernel
theorem dX11_isAll_10 : decode cX11_isAll 10 = .ok (.iload_n 3, 1) := by decide +kernel
theorem dX11_isAll_11 : decode cX11_isAll 11 = .ok (.iload_n 2, 1) := by decide +kernel
theorem dX11_isAll_12 : decode cX11_isAll 12 = .ok (.if_icmp .ge 21, 3) := by decide +kernel
theorem dX11_isAll_15 : decode cX11_isAll 15 = .ok (.aload_n 1, 1) := by decide +kernel
theorem dX11_isAll_16 : decode cX11_isAll 16 = .ok (.iload_n 3, 1) := by decide +kernel
theorem dX11_isAll_17 : decode cX11_isAll 17 = .ok (.iaload, 1) := by decide +kernel
theorem dX11_isAll_18 : decode cX11_isAll 18 = .ok (.istore 4, 2) := by decide +kernel
theorem dX11_isAll_20 : decode cX11_isAll 20 = .ok (.iload 4, 2) := by decide +kernel
theorem dX11_isAll_22 : decode cX11_isAll 22 = .ok (.ifCond .eq 5, 3) := by decide +kernel
theorem dX11_isAll_25 : decode cX11_isAll 25 = .ok (.iconst 0, 1) := by decide +kernel
theorem dX11_isAll_26 : decode cX11_isAll 26 = .ok (.ireturn, 1) := by decide +kernel
theorem dX11_isAll_27 : decode cX11_isAll 27 = .ok (.iinc 3 1, 3) := by decide +kernel
theorem dX11_isAll_30 : decode cX11_isAll 30 = .ok (.goto (-20), 3) := by decide +kernel
theorem dX11_isAll_33 : decode cX11_isAll 33 = .ok (.iconst 1, 1) := by decide +kernel
theorem dX11_isAll_34 : decode cX11_isAll 34 = .ok (.ireturn, 1) := by decide +kernel
theorem dX11_take_0 : decode cX11_take 0 = .ok (.iconst 0, 1) := by decide +kernel
theorem dX11_take_1 : decode cX11_take 1 = .ok (.istore_n 3, 1) := by decide +kernel
theorem dX11_take_2 : decode cX11_take 2 = .ok (.iload_n 3, 1) := by decide +kernel
theorem dX11_take_3 : decode cX11_take 3 = .ok (.iconst 5, 1) := by decide +kernel
theorem dX11_take_4 : decode cX11_take 4 = .ok (.if_icmp .ge 26, 3) := by decide +kernel
theorem dX11_take_7 : decode cX11_take 7 = .ok (.aload_n 0, 1) := by decide +kernel
theorem dX11_take_8 : decode cX11_take 8 = .ok (.getfield 88, 3) := by decide +kernel
theorem dX11_take_11 : decode cX11_take 11 = .ok (.iload_n 3, 1) := by decide +kernel
theorem dX11_take_12 : decode cX11_take 12 = .ok (.dup2, 1) := by decide +kernel
theorem dX11_take_13 : decode cX11_take 13 = .ok (.iaload, 1) := by decide +kernel
theorem dX11_take_14 : decode cX11_take 14 = .ok (.iload_n 2, 1) := by decide +kernel
theorem dX11_take_15 : decode cX11_take 15 = .ok (.aload_n 0, 1) := by decide +kernel
theorem dX11_take_16 : decode cX11_take 16 = .ok (.iload_n 1, 1) := by decide +kernel
theorem dX11_take_17 : decode cX11_take 17 = .ok (.iload_n 3, 1) := by decide +kernel
theorem dX11_take_18 : decode cX11_take 18 = .ok (.invokevirtual 238, 3) := by decide +kernel
theorem dX11_take_21 : decode cX11_take 21 = .ok (.imul, 1) := by decide +kernel
theorem dX11_take_22 : decode cX11_take 22 = .ok (.isub, 1) := by decide +kernel
theorem dX11_take_23 : decode cX11_take 23 = .ok (.iastore, 1) := by decide +kernel
theorem dX11_take_24 : decode cX11_take 24 = .ok (.iinc 3 1, 3) := by decide +kernel
theorem dX11_take_27 : decode cX11_take 27 = .ok (.goto (-25), 3) := by decide +kernel
theorem dX11_take_30 : decode cX11_take 30 = .ok (.return_, 1) := by decide +kernel
theorem dX11_isFirst_0 : decode cX11_isFirst 0 = .ok (.aload_n 0, 1) := by decide +kernel
theorem dX11_isFirst_1 : decode cX11_isFirst 1 = .ok (.getfield 386, 3) := by decide +kernel
theorem dX11_isFirst_4 : decode cX11_isFirst 4 = .ok (.ifCond .eq 11, 3) := by decide +kernel
theorem dX11_isFirst_7 : decode cX11_isFirst 7 = .ok (.iload_n 1, 1) := by decide +kernel
theorem dX11_isFirst_8 : decode cX11_isFirst 8 = .ok (.aload_n 0, 1) := by decide +kernel
theorem dX11_isFirst_9 : decode cX11_isFirst 9 = .ok (.getfield 389, 3) := by decide +kernel
theorem dX11_isFirst_12 : decode cX11_isFirst 12 = .ok (.if_icmp .eq 24, 3) := by decide +kernel
theorem dX11_isFirst_15 : decode cX11_isFirst 15 = .ok (.aload_n 0, 1) := by decide +kernel
theorem dX11_isFirst_16 : decode cX11_isFirst 16 = .ok (.getfield 386, 3) := by decide +kernel
theorem dX11_isFirst_19 : decode cX11_isFirst 19 = .ok (.ifCond .eq 11, 3) := by decide +kernel
theorem dX11_isFirst_22 : decode cX11_isFirst 22 = .ok (.iload_n 1, 1) := by decide +kernel
theorem dX11_isFirst_23 : decode cX11_isFirst 23 = .ok (.aload_n 0, 1) := by decide +kernel
theorem dX11_isFirst_24 : decode cX11_isFirst 24 = .ok (.getfield 389, 3) := by decide +kernel
theorem dX11_isFirst_27 : decode cX11_isFirst 27 = .ok (.if_icmp .ge 7, 3) := by decide +kernel
theorem dX11_isFirst_30 : decode cX11_isFirst 30 = .ok (.iconst 1, 1) := by decide +kernel
theorem dX11_isFirst_31 : decode cX11_isFirst 31 = .ok (.goto 4, 3) := by decide +kernel
theorem dX11_isFirst_34 : decode cX11_isFirst 34 = .ok (.iconst 0, 1) := by decide +kernel
theorem dX11_isFirst_35 : decode cX11_isFirst 35 = .ok (.ireturn, 1) := by decide +kernel
theorem dX11_isFirst_36 : decode cX11_isFirst 36 = .ok (.iconst 0, 1) := by decide +kernel
theorem dX11_isFirst_37 : decode cX11_isFirst 37 = .ok (.istore_n 2, 1) := by decide +kernel
theorem dX11_isFirst_38 : decode cX11_isFirst 38 = .ok (.iload_n 2, 1) := by decide +kernel
theorem dX11_isFirst_39 : decode cX11_isFirst 39 = .ok (.iload_n 1, 1) := by decide +kernel
theorem dX11_isFirst_40 : decode cX11_isFirst 40 = .ok (.if_icmp .ge 45, 3) := by decide +kernel
theorem dX11_isFirst_43 : decode cX11_isFirst 43 = .ok (.aload_n 0, 1) := by decide +kernel
theorem dX11_isFirst_44 : decode cX11_isFirst 44 = .ok (.getfield 91, 3) := by decide +kernel
theorem dX11_isFirst_47 : decode cX11_isFirst 47 = .ok (.iload_n 2, 1) := by decide +kernel
theorem dX11_isFirst_48 : decode cX11_isFirst 48 = .ok (.iaload, 1) := by decide +kernel
theorem dX11_isFirst_49 : decode cX11_isFirst 49 = .ok (.aload_n 0, 1) := by decide +kernel
theorem dX11_isFirst_50 : decode cX11_isFirst 50 = .ok (.getfield 94, 3) := by decide +kernel
theorem dX11_isFirst_53 : decode cX11_isFirst 53 = .ok (.iload_n 2, 1) := by decide +kernel
theorem dX11_isFirst_54 : decode cX11_isFirst 54 = .ok (.iaload, 1) := by decide +kernel
theorem dX11_isFirst_55 : decode cX11_isFirst 55 = .ok (.if_icmp .eq 24, 3) := by decide +kernel
theorem dX11_isFirst_58 : decode cX11_isFirst 58 = .ok (.aload_n 0, 1) := by decide +kernel
theorem dX11_isFirst_59 : decode cX11_isFirst 59 = .ok (.getfield 91, 3) := by decide +kernel
theorem dX11_isFirst_62 : decode cX11_isFirst 62 = .ok (.iload_n 2, 1) := by decide +kernel
theorem dX11_isFirst_63 : decode cX11_isFirst 63 = .ok (.iaload, 1) := by decide +kernel
theorem dX11_isFirst_64 : decode cX11_isFirst 64 = .ok (.aload_n 0, 1) := by decide +kernel
theorem dX11_isFirst_65 : decode cX11_isFirst 65 = .ok (.getfield 94, 3) := by decide +kernel
theorem dX11_isFirst_68 : decode cX11_isFirst 68 = .ok (.iload_n 2, 1) := by decide +kernel
theorem dX11_isFirst_69 : decode cX11_isFirst 69 = .ok (.iaload, 1) := by decide +kernel
theorem dX11_isFirst_70 : decode cX11_isFirst 70 = .ok (.if_icmp .ge 7, 3) := by decide +kernel
theorem dX11_isFirst_73 : decode cX11_isFirst 73 = .ok (.iconst 1, 1) := by decide +kernel
theorem dX11_isFirst_74 : decode cX11_isFirst 74 = .ok (.goto 4, 3) := by decide +kernel
theorem dX11_isFirst_77 : decode cX11_isFirst 77 = .ok (.iconst 0, 1) := by decide +kernel
theorem dX11_isFirst_78 : decode cX11_isFirst 78 = .ok (.ireturn, 1) := by decide +kernel
theorem dX11_isFirst_79 : decode cX11_isFirst 79 = .ok (.iinc 2 1, 3) := by decide +kernel
theorem dX11_isFirst_82 : decode cX11_isFirst 82 = .ok (.goto (-44), 3) := by decide +kernel
theorem dX11_isFirst_85 : decode cX11_isFirst 85 = .ok (.iconst 0, 1) := by decide +kernel
theorem dX11_isFirst_86 : decode cX11_isFirst 86 = .ok (.ireturn, 1) := by decide +kernel
theorem dX11_goSaid_0 : decode cX11_goSaid 0 = .ok (.iload_n 2, 1) := by decide +kernel
theorem dX11_goSaid_1 : decode cX11_goSaid 1 = .ok (.ifCond .le 58, 3) := by decide +kernel
theorem dX11_goSaid_4 : decode cX11_goSaid 4 = .ok (.aload_n 0, 1) := by decide +kernel
theorem dX11_goSaid_5 : decode cX11_goSaid 5 = .ok (.invokevirtual 392, 3) := by decide +kernel
theorem dX11_goSaid_8 : decode cX11_goSaid 8 = .ok (.ifCond .eq 51, 3) := by decide +kernel
theorem dX11_goSaid_11 : decode cX11_goSaid 11 = .ok (.aload_n 0, 1) := by decide +kernel
theorem dX11_goSaid_12 : decode cX11_goSaid 12 = .ok (.iload_n 2, 1) := by decide +kernel
theorem dX11_goSaid_13 : decode cX11_goSaid 13 = .ok (.invokevirtual 395, 3) := by decide +kernel
theorem dX11_goSaid_16 : decode cX11_goSaid 16 = .ok (.ifCond .eq 33, 3) := by decide +kernel
theorem dX11_goSaid_19 : decode cX11_goSaid 19 = .ok (.aload_n 0, 1) := by decide +kernel
theorem dX11_goSaid_20 : decode cX11_goSaid 20 = .ok (.iload_n 2, 1) := by decide +kernel
theorem dX11_goSaid_21 : decode cX11_goSaid 21 = .ok (.putfield 389, 3) := by decide +kernel
theorem dX11_goSaid_24 : decode cX11_goSaid 24 = .ok (.iconst 0, 1) := by decide +kernel
theorem dX11_goSaid_25 : decode cX11_goSaid 25 = .ok (.istore_n 3, 1) := by decide +kernel
theorem dX11_goSaid_26 : decode cX11_goSaid 26 = .ok (.iload_n 3, 1) := by decide +kernel
theorem dX11_goSaid_27 : decode cX11_goSaid 27 = .ok (.iload_n 2, 1) := by decide +kernel
theorem dX11_goSaid_28 : decode cX11_goSaid 28 = .ok (.if_icmp .ge 21, 3) := by decide +kernel
theorem dX11_goSaid_31 : decode cX11_goSaid 31 = .ok (.aload_n 0, 1) := by decide +kernel
theorem dX11_goSaid_32 : decode cX11_goSaid 32 = .ok (.getfield 94, 3) := by decide +kernel
theorem dX11_goSaid_35 : decode cX11_goSaid 35 = .ok (.iload_n 3, 1) := by decide +kernel
theorem dX11_goSaid_36 : decode cX11_goSaid 36 = .ok (.aload_n 0, 1) := by decide +kernel
theorem dX11_goSaid_37 : decode cX11_goSaid 37 = .ok (.getfield 91, 3) := by decide +kernel
theorem dX11_goSaid_40 : decode cX11_goSaid 40 = .ok (.iload_n 3, 1) := by decide +kernel
theorem dX11_goSaid_41 : decode cX11_goSaid 41 = .ok (.iaload, 1) := by decide +kernel
theorem dX11_goSaid_42 : decode cX11_goSaid 42 = .ok (.iastore, 1) := by decide +kernel
theorem dX11_goSaid_43 : decode cX11_goSaid 43 = .ok (.iinc 3 1, 3) := by decide +kernel
theorem dX11_goSaid_46 : decode cX11_goSaid 46 = .ok (.goto (-20), 3) := by decide +kernel
theorem dX11_goSaid_49 : decode cX11_goSaid 49 = .ok (.aload_n 0, 1) := by decide +kernel
theorem dX11_goSaid_50 : decode cX11_goSaid 50 = .ok (.dup, 1) := by decide +kernel
theorem dX11_goSaid_51 : decode cX11_goSaid 51 = .ok (.getfield 386, 3) := by decide +kernel
theorem dX11_goSaid_54 : decode cX11_goSaid 54 = .ok (.iconst 1, 1) := by decide +kernel
theorem dX11_goSaid_55 : decode cX11_goSaid 55 = .ok (.iadd, 1) := by decide +kernel
theorem dX11_goSaid_56 : decode cX11_goSaid 56 = .ok (.putfield 386, 3) := by decide +kernel
theorem dX11_goSaid_59 : decode cX11_goSaid 59 = .ok (.iload_n 1, 1) := by decide +kernel
theorem dX11_goSaid_60 : decode cX11_goSaid 60 = .ok (.istore_n 3, 1) := by decide +kernel
theorem dX11_goSaid_61 : decode cX11_goSaid 61 = .ok (.iload_n 3, 1) := by decide +kernel
theorem dX11_goSaid_62 : decode cX11_goSaid 62 = .ok (.aload_n 0, 1) := by decide +kernel
theorem dX11_goSaid_63 : decode cX11_goSaid 63 = .ok (.getfield 120, 3) := by decide +kernel
theorem dX11_goSaid_66 : decode cX11_goSaid 66 = .ok (.if_icmp .ge 41, 3) := by decide +kernel
theorem dX11_goSaid_69 : decode cX11_goSaid 69 = .ok (.iload_n 2, 1) := by decide +kernel
theorem dX11_goSaid_70 : decode cX11_goSaid 70 = .ok (.iconst 4, 1) := by decide +kernel
theorem dX11_goSaid_71 : decode cX11_goSaid 71 = .ok (.if_icmp .ge 36, 3) := by decide +kernel
theorem dX11_goSaid_74 : decode cX11_goSaid 74 = .ok (.aload_n 0, 1) := by decide +kernel
theorem dX11_goSaid_75 : decode cX11_goSaid 75 = .ok (.getfield 91, 3) := by decide +kernel
theorem dX11_goSaid_78 : decode cX11_goSaid 78 = .ok (.iload_n 2, 1) := by decide +kernel
theorem dX11_goSaid_79 : decode cX11_goSaid 79 = .ok (.iload_n 3, 1) := by decide +kernel
theorem dX11_goSaid_80 : decode cX11_goSaid 80 = .ok (.iastore, 1) := by decide +kernel
theorem dX11_goSaid_81 : decode cX11_goSaid 81 = .ok (.aload_n 0, 1) := by decide +kernel
theorem dX11_goSaid_82 : decode cX11_goSaid 82 = .ok (.iload_n 3, 1) := by decide +kernel
theorem dX11_goSaid_83 : decode cX11_goSaid 83 = .ok (.iconst 1, 1) := by decide +kernel
theorem dX11_goSaid_84 : decode cX11_goSaid 84 = .ok (.invokevirtual 398, 3) := by decide +kernel
theorem dX11_goSaid_87 : decode cX11_goSaid 87 = .ok (.aload_n 0, 1) := by decide +kernel
theorem dX11_goSaid_88 : decode cX11_goSaid 88 = .ok (.iload_n 3, 1) := by decide +kernel
theorem dX11_goSaid_89 : decode cX11_goSaid 89 = .ok (.iload_n 2, 1) := by decide +kernel
theorem dX11_goSaid_90 : decode cX11_goSaid 90 = .ok (.iconst 1, 1) := by decide +kernel
theorem dX11_goSaid_91 : decode cX11_goSaid 91 = .ok (.iadd, 1) := by decide +kernel
theorem dX11_goSaid_92 : decode cX11_goSaid 92 = .ok (.invokevirtual 401, 3) := by decide +kernel
theorem dX11_goSaid_95 : decode cX11_goSaid 95 = .ok (.aload_n 0, 1) := by decide +kernel
theorem dX11_goSaid_96 : decode cX11_goSaid 96 = .ok (.iload_n 3, 1) := by decide +kernel
theorem dX11_goSaid_97 : decode cX11_goSaid 97 = .ok (.iconst (-1), 1) := by decide +kernel
theorem dX11_goSaid_98 : decode cX11_goSaid 98 = .ok (.invokevirtual 398, 3) := by decide +kernel
theorem dX11_goSaid_101 : decode cX11_goSaid 101 = .ok (.iinc 3 1, 3) := by decide +kernel
theorem dX11_goSaid_104 : decode cX11_goSaid 104 = .ok (.goto (-43), 3) := by decide +kernel
theorem dX11_goSaid_107 : decode cX11_goSaid 107 = .ok (.return_, 1) := by decide +kernel
theorem dX11_said_0 : decode cX11_said 0 = .ok (.aload_n 0, 1) := by decide +kernel
theorem dX11_said_1 : decode cX11_said 1 = .ok (.iconst 0, 1) := by decide +kernel
theorem dX11_said_2 : decode cX11_said 2 = .ok (.putfield 110, 3) := by decide +kernel
theorem dX11_said_5 : decode cX11_said 5 = .ok (.aload_n 0, 1) := by decide +kernel
theorem dX11_said_6 : decode cX11_said 6 = .ok (.bipush 80, 2) := by decide +kernel
theorem dX11_said_8 : decode cX11_said 8 = .ok (.invokevirtual 177, 3) := by decide +kernel
theorem dX11_said_11 : decode cX11_said 11 = .ok (.iconst 0, 1) := by decide +kernel
theorem dX11_said_12 : decode cX11_said 12 = .ok (.istore_n 1, 1) := by decide +kernel
theorem dX11_said_13 : decode cX11_said 13 = .ok (.iload_n 1, 1) := by decide +kernel
theorem dX11_said_14 : decode cX11_said 14 = .ok (.iconst 5, 1) := by decide +kernel
theorem dX11_said_15 : decode cX11_said 15 = .ok (.if_icmp .ge 23, 3) := by decide +kernel
theorem dX11_said_18 : decode cX11_said 18 = .ok (.aload_n 0, 1) := by decide +kernel
theorem dX11_said_19 : decode cX11_said 19 = .ok (.getfield 88, 3) := by decide +kernel
theorem dX11_said_22 : decode cX11_said 22 = .ok (.iload_n 1, 1) := by decide +kernel
theorem dX11_said_23 : decode cX11_said 23 = .ok (.aload_n 0, 1) := by decide +kernel
theorem dX11_said_24 : decode cX11_said 24 = .ok (.bipush 48, 2) := by decide +kernel
theorem dX11_said_26 : decode cX11_said 26 = .ok (.bipush 10, 2) := by decide +kernel
theorem dX11_said_28 : decode cX11_said 28 = .ok (.invokevirtual 164, 3) := by decide +kernel
theorem dX11_said_31 : decode cX11_said 31 = .ok (.iastore, 1) := by decide +kernel
theorem dX11_said_32 : decode cX11_said 32 = .ok (.iinc 1 1, 3) := by decide +kernel
theorem dX11_said_35 : decode cX11_said 35 = .ok (.goto (-22), 3) := by decide +kernel
theorem dX11_said_38 : decode cX11_said 38 = .ok (.aload_n 0, 1) := by decide +kernel
theorem dX11_said_39 : decode cX11_said 39 = .ok (.invokevirtual 183, 3) := by decide +kernel
theorem dX11_said_42 : decode cX11_said 42 = .ok (.ifCond .ne 10, 3) := by decide +kernel
theorem dX11_said_45 : decode cX11_said 45 = .ok (.iconst (-1), 1) := by decide +kernel
theorem dX11_said_46 : decode cX11_said 46 = .ok (.aload_n 0, 1) := by decide +kernel
theorem dX11_said_47 : decode cX11_said 47 = .ok (.getfield 141, 3) := by decide +kernel
theorem dX11_said_50 : decode cX11_said 50 = .ok (.isub, 1) := by decide +kernel
theorem dX11_said_51 : decode cX11_said 51 = .ok (.ireturn, 1) := by decide +kernel
theorem dX11_said_52 : decode cX11_said 52 = .ok (.aload_n 0, 1) := by decide +kernel
theorem dX11_said_53 : decode cX11_said 53 = .ok (.iconst 0, 1) := by decide +kernel
theorem dX11_said_54 : decode cX11_said 54 = .ok (.putfield 386, 3) := by decide +kernel
theorem dX11_said_57 : decode cX11_said 57 = .ok (.aload_n 0, 1) := by decide +kernel
theorem dX11_said_58 : decode cX11_said 58 = .ok (.iconst 0, 1) := by decide +kernel
theorem dX11_said_59 : decode cX11_said 59 = .ok (.iconst 0, 1) := by decide +kernel
theorem dX11_said_60 : decode cX11_said 60 = .ok (.invokevirtual 401, 3) := by decide +kernel
theorem dX11_said_63 : decode cX11_said 63 = .ok (.aload_n 0, 1) := by decide +kernel
theorem dX11_said_64 : decode cX11_said 64 = .ok (.iconst 0, 1) := by decide +kernel
theorem dX11_said_65 : decode cX11_said 65 = .ok (.putfield 113, 3) := by decide +kernel
theorem dX11_said_68 : decode cX11_said 68 = .ok (.iconst 0, 1) := by decide +kernel
theorem dX11_said_69 : decode cX11_said 69 = .ok (.istore_n 1, 1) := by decide +kernel
theorem dX11_said_70 : decode cX11_said 70 = .ok (.iload_n 1, 1) := by decide +kernel
theorem dX11_said_71 : decode cX11_said 71 = .ok (.aload_n 0, 1) := by decide +kernel
theorem dX11_said_72 : decode cX11_said 72 = .ok (.getfield 389, 3) := by decide +kernel
theorem dX11_said_75 : decode cX11_said 75 = .ok (.if_icmp .ge 27, 3) := by decide +kernel
theorem dX11_said_78 : decode cX11_said 78 = .ok (.aload_n 0, 1) := by decide +kernel
theorem dX11_said_79 : decode cX11_said 79 = .ok (.getfield 386, 3) := by decide +kernel
theorem dX11_said_82 : decode cX11_said 82 = .ok (.ifCond .le 20, 3) := by decide +kernel
theorem dX11_said_85 : decode cX11_said 85 = .ok (.aload_n 0, 1) := by decide +kernel
theorem dX11_said_86 : decode cX11_said 86 = .ok (.aload_n 0, 1) := by decide +kernel
theorem dX11_said_87 : decode cX11_said 87 = .ok (.getfield 94, 3) := by decide +kernel
theorem dX11_said_90 : decode cX11_said 90 = .ok (.iload_n 1, 1) := by decide +kernel
theorem dX11_said_91 : decode cX11_said 91 = .ok (.iaload, 1) := by decide +kernel
theorem dX11_said_92 : decode cX11_said 92 = .ok (.i2l, 1) := by decide +kernel
theorem dX11_said_93 : decode cX11_said 93 = .ok (.invokevirtual 274, 3) := by decide +kernel
theorem dX11_said_96 : decode cX11_said 96 = .ok (.iinc 1 1, 3) := by decide +kernel
theorem dX11_said_99 : decode cX11_said 99 = .ok (.goto (-29), 3) := by decide +kernel
theorem dX11_said_102 : decode cX11_said 102 = .ok (.aload_n 0, 1) := by decide +kernel
theorem dX11_said_103 : decode cX11_said 103 = .ok (.getfield 386, 3) := by decide +kernel
theorem dX11_said_106 : decode cX11_said 106 = .ok (.ireturn, 1) := by decide +kernel
theorem dX11_ask_0 : decode cX11_ask 0 = .ok (.aload_n 0, 1) := by decide +kernel
theorem dX11_ask_1 : decode cX11_ask 1 = .ok (.iconst 0, 1) := by decide +kernel
theorem dX11_ask_2 : decode cX11_ask 2 = .ok (.putfield 110, 3) := by decide +kernel
theorem dX11_ask_5 : decode cX11_ask 5 = .ok (.aload_n 0, 1) := by decide +kernel
theorem dX11_ask_6 : decode cX11_ask 6 = .ok (.getfield 120, 3) := by decide +kernel
theorem dX11_ask_9 : decode cX11_ask 9 = .ok (.ifCond .ne 6, 3) := by decide +kernel
theorem dX11_ask_12 : decode cX11_ask 12 = .ok (.bipush (-2), 2) := by decide +kernel
theorem dX11_ask_14 : decode cX11_ask 14 = .ok (.ireturn, 1) := by decide +kernel
theorem dX11_ask_15 : decode cX11_ask 15 = .ok (.iconst (-1), 1) := by decide +kernel
theorem dX11_ask_16 : decode cX11_ask 16 = .ok (.istore_n 1, 1) := by decide +kernel
theorem dX11_ask_17 : decode cX11_ask 17 = .ok (.ldc_w 319, 3) := by decide +kernel
theorem dX11_ask_20 : decode cX11_ask 20 = .ok (.istore_n 2, 1) := by decide +kernel
theorem dX11_ask_21 : decode cX11_ask 21 = .ok (.iconst 0, 1) := by decide +kernel
theorem dX11_ask_22 : decode cX11_ask 22 = .ok (.istore_n 3, 1) := by decide +kernel
theorem dX11_ask_23 : decode cX11_ask 23 = .ok (.iload_n 3, 1) := by decide +kernel
theorem dX11_ask_24 : decode cX11_ask 24 = .ok (.iconst 5, 1) := by decide +kernel
theorem dX11_ask_25 : decode cX11_ask 25 = .ok (.if_icmp .ge 94, 3) := by decide +kernel
theorem dX11_ask_28 : decode cX11_ask 28 = .ok (.iconst 0, 1) := by decide +kernel
theorem dX11_ask_29 : decode cX11_ask 29 = .ok (.istore 4, 2) := by decide +kernel
theorem dX11_ask_31 : decode cX11_ask 31 = .ok (.iconst 0, 1) := by decide +kernel
theorem dX11_ask_32 : decode cX11_ask 32 = .ok (.istore 5, 2) := by decide +kernel
theorem dX11_ask_34 : decode cX11_ask 34 = .ok (.iload 5, 2) := by decide +kernel
theorem dX11_ask_36 : decode cX11_ask 36 = .ok (.bipush 6, 2) := by decide +kernel
theorem dX11_ask_38 : decode cX11_ask 38 = .ok (.if_icmp .gt 61, 3) := by decide +kernel
theorem dX11_ask_41 : decode cX11_ask 41 = .ok (.iconst 0, 1) := by decide +kernel
theorem dX11_ask_42 : decode cX11_ask 42 = .ok (.istore 6, 2) := by decide +kernel
theorem dX11_ask_44 : decode cX11_ask 44 = .ok (.iconst 0, 1) := by decide +kernel
theorem dX11_ask_45 : decode cX11_ask 45 = .ok (.istore 7, 2) := by decide +kernel
theorem dX11_ask_47 : decode cX11_ask 47 = .ok (.iload 7, 2) := by decide +kernel
theorem dX11_ask_49 : decode cX11_ask 49 = .ok (.aload_n 0, 1) := by decide +kernel
theorem dX11_ask_50 : decode cX11_ask 50 = .ok (.getfield 120, 3) := by decide +kernel
theorem dX11_ask_53 : decode cX11_ask 53 = .ok (.if_icmp .ge 31, 3) := by decide +kernel
theorem dX11_ask_56 : decode cX11_ask 56 = .ok (.iload 6, 2) := by decide +kernel
theorem dX11_ask_58 : decode cX11_ask 58 = .ok (.aload_n 0, 1) := by decide +kernel
theorem dX11_ask_59 : decode cX11_ask 59 = .ok (.iload 7, 2) := by decide +kernel
theorem dX11_ask_61 : decode cX11_ask 61 = .ok (.iload_n 3, 1) := by decide +kernel
theorem dX11_ask_62 : decode cX11_ask 62 = .ok (.invokevirtual 238, 3) := by decide +kernel
theorem dX11_ask_65 : decode cX11_ask 65 = .ok (.iload 5, 2) := by decide +kernel
theorem dX11_ask_67 : decode cX11_ask 67 = .ok (.if_icmp .ne 7, 3) := by decide +kernel
theorem dX11_ask_70 : decode cX11_ask 70 = .ok (.iconst 1, 1) := by decide +kernel
theorem dX11_ask_71 : decode cX11_ask 71 = .ok (.goto 4, 3) := by decide +kernel
theorem dX11_ask_74 : decode cX11_ask 74 = .ok (.iconst 0, 1) := by decide +kernel
theorem dX11_ask_75 : decode cX11_ask 75 = .ok (.iadd, 1) := by decide +kernel
theorem dX11_ask_76 : decode cX11_ask 76 = .ok (.istore 6, 2) := by decide +kernel
theorem dX11_ask_78 : decode cX11_ask 78 = .ok (.iinc 7 1, 3) := by decide +kernel
theorem dX11_ask_81 : decode cX11_ask 81 = .ok (.goto (-34), 3) := by decide +kernel
theorem dX11_ask_84 : decode cX11_ask 84 = .ok (.iload 4, 2) := by decide +kernel
theorem dX11_ask_86 : decode cX11_ask 86 = .ok (.iload 6, 2) := by decide +kernel
theorem dX11_ask_88 : decode cX11_ask 88 = .ok (.invokestatic 231, 3) := by decide +kernel
theorem dX11_ask_91 : decode cX11_ask 91 = .ok (.istore 4, 2) := by decide +kernel
theorem dX11_ask_93 : decode cX11_ask 93 = .ok (.iinc 5 1, 3) := by decide +kernel
theorem dX11_ask_96 : decode cX11_ask 96 = .ok (.goto (-62), 3) := by decide +kernel
theorem dX11_ask_99 : decode cX11_ask 99 = .ok (.iload 4, 2) := by decide +kernel
theorem dX11_ask_101 : decode cX11_ask 101 = .ok (.iload_n 2, 1) := by decide +kernel
theorem dX11_ask_102 : decode cX11_ask 102 = .ok (.if_icmp .lt 6, 3) := by decide +kernel
theorem dX11_ask_105 : decode cX11_ask 105 = .ok (.goto 8, 3) := by decide +kernel
theorem dX11_ask_108 : decode cX11_ask 108 = .ok (.iload_n 3, 1) := by decide +kernel
theorem dX11_ask_109 : decode cX11_ask 109 = .ok (.istore_n 1, 1) := by decide +kernel
theorem dX11_ask_110 : decode cX11_ask 110 = .ok (.iload 4, 2) := by decide +kernel
theorem dX11_ask_112 : decode cX11_ask 112 = .ok (.istore_n 2, 1) := by decide +kernel
theorem dX11_ask_113 : decode cX11_ask 113 = .ok (.iinc 3 1, 3) := by decide +kernel
theorem dX11_ask_116 : decode cX11_ask 116 = .ok (.goto (-93), 3) := by decide +kernel
theorem dX11_ask_119 : decode cX11_ask 119 = .ok (.aload_n 0, 1) := by decide +kernel
theorem dX11_ask_120 : decode cX11_ask 120 = .ok (.iconst 0, 1) := by decide +kernel
theorem dX11_ask_121 : decode cX11_ask 121 = .ok (.putfield 113, 3) := by decide +kernel
theorem dX11_ask_124 : decode cX11_ask 124 = .ok (.aload_n 0, 1) := by decide +kernel
theorem dX11_ask_125 : decode cX11_ask 125 = .ok (.iload_n 2, 1) := by decide +kernel
theorem dX11_ask_126 : decode cX11_ask 126 = .ok (.i2l, 1) := by decide +kernel
theorem dX11_ask_127 : decode cX11_ask 127 = .ok (.invokevirtual 274, 3) := by decide +kernel
theorem dX11_ask_130 : decode cX11_ask 130 = .ok (.iload_n 1, 1) := by decide +kernel
theorem dX11_ask_131 : decode cX11_ask 131 = .ok (.ireturn, 1) := by decide +kernel
theorem dX11_draw_0 : decode cX11_draw 0 = .ok (.aload_n 0, 1) := by decide +kernel
theorem dX11_draw_1 : decode cX11_draw 1 = .ok (.aload_n 0, 1) := by decide +kernel
theorem dX11_draw_2 : decode cX11_draw 2 = .ok (.getfield 404, 3) := by decide +kernel
theorem dX11_draw_5 : decode cX11_draw 5 = .ok (.ldc_w 407, 3) := by decide +kernel
theorem dX11_draw_8 : decode cX11_draw 8 = .ok (.imul, 1) := by decide +kernel
theorem dX11_draw_9 : decode cX11_draw 9 = .ok (.sipush 12345, 3) := by decide +kernel
theorem dX11_draw_12 : decode cX11_draw 12 = .ok (.iadd, 1) := by decide +kernel
theorem dX11_draw_13 : decode cX11_draw 13 = .ok (.putfield 404, 3) := by decide +kernel
theorem dX11_draw_16 : decode cX11_draw 16 = .ok (.aload_n 0, 1) := by decide +kernel
theorem dX11_draw_17 : decode cX11_draw 17 = .ok (.getfield 404, 3) := by decide +kernel
theorem dX11_draw_20 : decode cX11_draw 20 = .ok (.bipush 16, 2) := by decide +kernel
theorem dX11_draw_22 : decode cX11_draw 22 = .ok (.iushr, 1) := by decide +kernel
theorem dX11_draw_23 : decode cX11_draw 23 = .ok (.iload_n 1, 1) := by decide +kernel
theorem dX11_draw_24 : decode cX11_draw 24 = .ok (.irem, 1) := by decide +kernel
theorem dX11_draw_25 : decode cX11_draw 25 = .ok (.ireturn, 1) := by decide +kernel
theorem dX11_years_0 : decode cX11_years 0 = .ok (.aload_n 0, 1) := by decide +kernel
theorem dX11_years_1 : decode cX11_years 1 = .ok (.iconst 0, 1) := by decide +kernel
theorem dX11_years_2 : decode cX11_years 2 = .ok (.putfield 110, 3) := by decide +kernel
theorem dX11_years_5 : decode cX11_years 5 = .ok (.aload_n 0, 1) := by decide +kernel
theorem dX11_years_6 : decode cX11_years 6 = .ok (.getfield 123, 3) := by decide +kernel
theorem dX11_years_9 : decode cX11_years 9 = .ok (.ifCond .eq 10, 3) := by decide +kernel
theorem dX11_years_12 : decode cX11_years 12 = .ok (.aload_n 0, 1) := by decide +kernel
theorem dX11_years_13 : decode cX11_years 13 = .ok (.getfield 120, 3) := by decide +kernel
theorem dX11_years_16 : decode cX11_years 16 = .ok (.ifCond .ne 6, 3) := by decide +kernel
theorem dX11_years_19 : decode cX11_years 19 = .ok (.bipush (-2), 2) := by decide +kernel
theorem dX11_years_21 : decode cX11_years 21 = .ok (.ireturn, 1) := by decide +kernel
theorem dX11_years_22 : decode cX11_years 22 = .ok (.iload_n 2, 1) := by decide +kernel
theorem dX11_years_23 : decode cX11_years 23 = .ok (.iconst 1, 1) := by decide +kernel
theorem dX11_years_24 : decode cX11_years 24 = .ok (.bipush 60, 2) := by decide +kernel
theorem dX11_years_26 : decode cX11_years 26 = .ok (.invokestatic 116, 3) := by decide +kernel
theorem dX11_years_29 : decode cX11_years 29 = .ok (.ifCond .ne 5, 3) := by decide +kernel
theorem dX11_years_32 : decode cX11_years 32 = .ok (.iconst (-1), 1) := by decide +kernel
theorem dX11_years_33 : decode cX11_years 33 = .ok (.ireturn, 1) := by decide +kernel
theorem dX11_years_34 : decode cX11_years 34 = .ok (.aload_n 0, 1) := by decide +kernel
theorem dX11_years_35 : decode cX11_years 35 = .ok (.iload_n 1, 1) := by decide +kernel
theorem dX11_years_36 : decode cX11_years 36 = .ok (.putfield 404, 3) := by decide +kernel
theorem dX11_years_39 : decode cX11_years 39 = .ok (.iconst 0, 1) := by decide +kernel
theorem dX11_years_40 : decode cX11_years 40 = .ok (.istore_n 3, 1) := by decide +kernel
theorem dX11_years_41 : decode cX11_years 41 = .ok (.iconst 0, 1) := by decide +kernel
theorem dX11_years_42 : decode cX11_years 42 = .ok (.istore 4, 2) := by decide +kernel
theorem dX11_years_44 : decode cX11_years 44 = .ok (.aload_n 0, 1) := by decide +kernel
theorem dX11_years_45 : decode cX11_years 45 = .ok (.getfield 9, 3) := by decide +kernel
theorem dX11_years_48 : decode cX11_years 48 = .ok (.aload_n 0, 1) := by decide +kernel
theorem dX11_years_49 : decode cX11_years 49 = .ok (.getfield 97, 3) := by decide +kernel
theorem dX11_years_52 : decode cX11_years 52 = .ok (.iconst 0, 1) := by decide +kernel
theorem dX11_years_53 : decode cX11_years 53 = .ok (.invokestatic 267, 3) := by decide +kernel
theorem dX11_years_56 : decode cX11_years 56 = .ok (.iconst 0, 1) := by decide +kernel
theorem dX11_years_57 : decode cX11_years 57 = .ok (.istore 5, 2) := by decide +kernel
theorem dX11_years_59 : decode cX11_years 59 = .ok (.iload 5, 2) := by decide +kernel
theorem dX11_years_61 : decode cX11_years 61 = .ok (.iload_n 2, 1) := by decide +kernel
theorem dX11_years_62 : decode cX11_years 62 = .ok (.if_icmp .ge 165, 3) := by decide +kernel
theorem dX11_years_65 : decode cX11_years 65 = .ok (.aload_n 0, 1) := by decide +kernel
theorem dX11_years_66 : decode cX11_years 66 = .ok (.aload_n 0, 1) := by decide +kernel
theorem dX11_years_67 : decode cX11_years 67 = .ok (.getfield 123, 3) := by decide +kernel
theorem dX11_years_70 : decode cX11_years 70 = .ok (.invokevirtual 408, 3) := by decide +kernel
theorem dX11_years_73 : decode cX11_years 73 = .ok (.istore 6, 2) := by decide +kernel
theorem dX11_years_75 : decode cX11_years 75 = .ok (.aload_n 0, 1) := by decide +kernel
theorem dX11_years_76 : decode cX11_years 76 = .ok (.iconst 4, 1) := by decide +kernel
theorem dX11_years_77 : decode cX11_years 77 = .ok (.invokevirtual 408, 3) := by decide +kernel
theorem dX11_years_80 : decode cX11_years 80 = .ok (.istore 7, 2) := by decide +kernel
theorem dX11_years_82 : decode cX11_years 82 = .ok (.aload_n 0, 1) := by decide +kernel
theorem dX11_years_83 : decode cX11_years 83 = .ok (.getfield 97, 3) := by decide +kernel
theorem dX11_years_86 : decode cX11_years 86 = .ok (.bipush 12, 2) := by decide +kernel
theorem dX11_years_88 : decode cX11_years 88 = .ok (.iaload, 1) := by decide +kernel
theorem dX11_years_89 : decode cX11_years 89 = .ok (.istore 8, 2) := by decide +kernel
theorem dX11_years_91 : decode cX11_years 91 = .ok (.iload 7, 2) := by decide +kernel
theorem dX11_years_93 : decode cX11_years 93 = .ok (.iconst 2, 1) := by decide +kernel
theorem dX11_years_94 : decode cX11_years 94 = .ok (.if_icmp .ge 49, 3) := by decide +kernel
theorem dX11_years_97 : decode cX11_years 97 = .ok (.aload_n 0, 1) := by decide +kernel
theorem dX11_years_98 : decode cX11_years 98 = .ok (.aload_n 0, 1) := by decide +kernel
theorem dX11_years_99 : decode cX11_years 99 = .ok (.getfield 97, 3) := by decide +kernel
theorem dX11_years_102 : decode cX11_years 102 = .ok (.iload 6, 2) := by decide +kernel
theorem dX11_years_104 : decode cX11_years 104 = .ok (.iconst 1, 1) := by decide +kernel
theorem dX11_years_105 : decode cX11_years 105 = .ok (.iload 7, 2) := by decide +kernel
theorem dX11_years_107 : decode cX11_years 107 = .ok (.isub, 1) := by decide +kernel
theorem dX11_years_108 : decode cX11_years 108 = .ok (.invokevirtual 278, 3) := by decide +kernel
theorem dX11_years_111 : decode cX11_years 111 = .ok (.ifCond .ne 7, 3) := by decide +kernel
theorem dX11_years_114 : decode cX11_years 114 = .ok (.iconst 1, 1) := by decide +kernel
theorem dX11_years_115 : decode cX11_years 115 = .ok (.goto 4, 3) := by decide +kernel
theorem dX11_years_118 : decode cX11_years 118 = .ok (.iconst 0, 1) := by decide +kernel
theorem dX11_years_119 : decode cX11_years 119 = .ok (.istore 9, 2) := by decide +kernel
theorem dX11_years_121 : decode cX11_years 121 = .ok (.iload 9, 2) := by decide +kernel
theorem dX11_years_123 : decode cX11_years 123 = .ok (.ifCond .eq 72, 3) := by decide +kernel
theorem dX11_years_126 : decode cX11_years 126 = .ok (.aload_n 0, 1) := by decide +kernel
theorem dX11_years_127 : decode cX11_years 127 = .ok (.getfield 97, 3) := by decide +kernel
theorem dX11_years_130 : decode cX11_years 130 = .ok (.iload 6, 2) := by decide +kernel
theorem dX11_years_132 : decode cX11_years 132 = .ok (.iconst 1, 1) := by decide +kernel
theorem dX11_years_133 : decode cX11_years 133 = .ok (.iload 7, 2) := by decide +kernel
theorem dX11_years_135 : decode cX11_years 135 = .ok (.isub, 1) := by decide +kernel
theorem dX11_years_136 : decode cX11_years 136 = .ok (.invokestatic 286, 3) := by decide +kernel
theorem dX11_years_139 : decode cX11_years 139 = .ok (.pop, 1) := by decide +kernel
theorem dX11_years_140 : decode cX11_years 140 = .ok (.goto 55, 3) := by decide +kernel
theorem dX11_years_143 : decode cX11_years 143 = .ok (.aload_n 0, 1) := by decide +kernel
theorem dX11_years_144 : decode cX11_years 144 = .ok (.aload_n 0, 1) := by decide +kernel
theorem dX11_years_145 : decode cX11_years 145 = .ok (.getfield 120, 3) := by decide +kernel
theorem dX11_years_148 : decode cX11_years 148 = .ok (.invokevirtual 408, 3) := by decide +kernel
theorem dX11_years_151 : decode cX11_years 151 = .ok (.istore 10, 2) := by decide +kernel
theorem dX11_years_153 : decode cX11_years 153 = .ok (.aload_n 0, 1) := by decide +kernel
theorem dX11_years_154 : decode cX11_years 154 = .ok (.aload_n 0, 1) := by decide +kernel
theorem dX11_years_155 : decode cX11_years 155 = .ok (.getfield 97, 3) := by decide +kernel
theorem dX11_years_158 : decode cX11_years 158 = .ok (.iload 6, 2) := by decide +kernel
theorem dX11_years_160 : decode cX11_years 160 = .ok (.iload 10, 2) := by decide +kernel
theorem dX11_years_162 : decode cX11_years 162 = .ok (.invokevirtual 295, 3) := by decide +kernel
theorem dX11_years_165 : decode cX11_years 165 = .ok (.ifCond .ne 7, 3) := by decide +kernel
theorem dX11_years_168 : decode cX11_years 168 = .ok (.iconst 1, 1) := by decide +kernel
theorem dX11_years_169 : decode cX11_years 169 = .ok (.goto 4, 3) := by decide +kernel
theorem dX11_years_172 : decode cX11_years 172 = .ok (.iconst 0, 1) := by decide +kernel
theorem dX11_years_173 : decode cX11_years 173 = .ok (.istore 9, 2) := by decide +kernel
theorem dX11_years_175 : decode cX11_years 175 = .ok (.iload 9, 2) := by decide +kernel
theorem dX11_years_177 : decode cX11_years 177 = .ok (.ifCond .eq 18, 3) := by decide +kernel
theorem dX11_years_180 : decode cX11_years 180 = .ok (.iload_n 3, 1) := by decide +kernel
theorem dX11_years_181 : decode cX11_years 181 = .ok (.aload_n 0, 1) := by decide +kernel
theorem dX11_years_182 : decode cX11_years 182 = .ok (.aload_n 0, 1) := by decide +kernel
theorem dX11_years_183 : decode cX11_years 183 = .ok (.getfield 97, 3) := by decide +kernel
theorem dX11_years_186 : decode cX11_years 186 = .ok (.iload 6, 2) := by decide +kernel
theorem dX11_years_188 : decode cX11_years 188 = .ok (.iload 10, 2) := by decide +kernel
theorem dX11_years_190 : decode cX11_years 190 = .ok (.invokevirtual 298, 3) := by decide +kernel
theorem dX11_years_193 : decode cX11_years 193 = .ok (.iadd, 1) := by decide +kernel
theorem dX11_years_194 : decode cX11_years 194 = .ok (.istore_n 3, 1) := by decide +kernel
theorem dX11_years_195 : decode cX11_years 195 = .ok (.iload 4, 2) := by decide +kernel
theorem dX11_years_197 : decode cX11_years 197 = .ok (.iload 9, 2) := by decide +kernel
theorem dX11_years_199 : decode cX11_years 199 = .ok (.ifCond .eq 7, 3) := by decide +kernel
theorem dX11_years_202 : decode cX11_years 202 = .ok (.iconst 0, 1) := by decide +kernel
theorem dX11_years_203 : decode cX11_years 203 = .ok (.goto 4, 3) := by decide +kernel
theorem dX11_years_206 : decode cX11_years 206 = .ok (.iconst 1, 1) := by decide +kernel
theorem dX11_years_207 : decode cX11_years 207 = .ok (.iadd, 1) := by decide +kernel
theorem dX11_years_208 : decode cX11_years 208 = .ok (.istore 4, 2) := by decide +kernel
theorem dX11_years_210 : decode cX11_years 210 = .ok (.aload_n 0, 1) := by decide +kernel
theorem dX11_years_211 : decode cX11_years 211 = .ok (.getfield 97, 3) := by decide +kernel
theorem dX11_years_214 : decode cX11_years 214 = .ok (.bipush 12, 2) := by decide +kernel
theorem dX11_years_216 : decode cX11_years 216 = .ok (.iload 8, 2) := by decide +kernel
theorem dX11_years_218 : decode cX11_years 218 = .ok (.iconst 1, 1) := by decide +kernel
theorem dX11_years_219 : decode cX11_years 219 = .ok (.iadd, 1) := by decide +kernel
theorem dX11_years_220 : decode cX11_years 220 = .ok (.iastore, 1) := by decide +kernel
theorem dX11_years_221 : decode cX11_years 221 = .ok (.iinc 5 1, 3) := by decide +kernel
theorem dX11_years_224 : decode cX11_years 224 = .ok (.goto (-165), 3) := by decide +kernel
theorem dX11_years_227 : decode cX11_years 227 = .ok (.aload_n 0, 1) := by decide +kernel
theorem dX11_years_228 : decode cX11_years 228 = .ok (.iconst 0, 1) := by decide +kernel
theorem dX11_years_229 : decode cX11_years 229 = .ok (.putfield 113, 3) := by decide +kernel
theorem dX11_years_232 : decode cX11_years 232 = .ok (.aload_n 0, 1) := by decide +kernel
theorem dX11_years_233 : decode cX11_years 233 = .ok (.iload_n 3, 1) := by decide +kernel
theorem dX11_years_234 : decode cX11_years 234 = .ok (.i2l, 1) := by decide +kernel
theorem dX11_years_235 : decode cX11_years 235 = .ok (.invokevirtual 274, 3) := by decide +kernel
theorem dX11_years_238 : decode cX11_years 238 = .ok (.aload_n 0, 1) := by decide +kernel
theorem dX11_years_239 : decode cX11_years 239 = .ok (.iload 4, 2) := by decide +kernel
theorem dX11_years_241 : decode cX11_years 241 = .ok (.i2l, 1) := by decide +kernel
theorem dX11_years_242 : decode cX11_years 242 = .ok (.invokevirtual 274, 3) := by decide +kernel
theorem dX11_years_245 : decode cX11_years 245 = .ok (.aload_n 0, 1) := by decide +kernel
theorem dX11_years_246 : decode cX11_years 246 = .ok (.getfield 97, 3) := by decide +kernel
theorem dX11_years_249 : decode cX11_years 249 = .ok (.bipush 13, 2) := by decide +kernel
theorem dX11_years_251 : decode cX11_years 251 = .ok (.iaload, 1) := by decide +kernel
theorem dX11_years_252 : decode cX11_years 252 = .ok (.invokestatic 347, 3) := by decide +kernel
theorem dX11_years_255 : decode cX11_years 255 = .ok (.aload_n 0, 1) := by decide +kernel
theorem dX11_years_256 : decode cX11_years 256 = .ok (.getfield 9, 3) := by decide +kernel
theorem dX11_years_259 : decode cX11_years 259 = .ok (.bipush 13, 2) := by decide +kernel
theorem dX11_years_261 : decode cX11_years 261 = .ok (.iaload, 1) := by decide +kernel
theorem dX11_years_262 : decode cX11_years 262 = .ok (.invokestatic 347, 3) := by decide +kernel
theorem dX11_years_265 : decode cX11_years 265 = .ok (.isub, 1) := by decide +kernel
theorem dX11_years_266 : decode cX11_years 266 = .ok (.ireturn, 1) := by decide +kernel
theorem dX11_keep_0 : decode cX11_keep 0 = .ok (.aload_n 0, 1) := by decide +kernel
theorem dX11_keep_1 : decode cX11_keep 1 = .ok (.iconst 0, 1) := by decide +kernel
theorem dX11_keep_2 : decode cX11_keep 2 = .ok (.putfield 110, 3) := by decide +kernel
theorem dX11_keep_5 : decode cX11_keep 5 = .ok (.iload_n 1, 1) := by decide +kernel
theorem dX11_keep_6 : decode cX11_keep 6 = .ok (.iconst 0, 1) := by decide +kernel
theorem dX11_keep_7 : decode cX11_keep 7 = .ok (.iconst 1, 1) := by decide +kernel
theorem dX11_keep_8 : decode cX11_keep 8 = .ok (.invokestatic 116, 3) := by decide +kernel
theorem dX11_keep_11 : decode cX11_keep 11 = .ok (.ifCond .ne 5, 3) := by decide +kernel
theorem dX11_keep_14 : decode cX11_keep 14 = .ok (.iconst 0, 1) := by decide +kernel
theorem dX11_keep_15 : decode cX11_keep 15 = .ok (.ireturn, 1) := by decide +kernel
theorem dX11_keep_16 : decode cX11_keep 16 = .ok (.aload_n 0, 1) := by decide +kernel
theorem dX11_keep_17 : decode cX11_keep 17 = .ok (.getfield 103, 3) := by decide +kernel
theorem dX11_keep_20 : decode cX11_keep 20 = .ok (.iload_n 1, 1) := by decide +kernel
theorem dX11_keep_21 : decode cX11_keep 21 = .ok (.iconst 1, 1) := by decide +kernel
theorem dX11_keep_22 : decode cX11_keep 22 = .ok (.bastore, 1) := by decide +kernel
theorem dX11_keep_23 : decode cX11_keep 23 = .ok (.aload_n 0, 1) := by decide +kernel
theorem dX11_keep_24 : decode cX11_keep 24 = .ok (.getfield 107, 3) := by decide +kernel
theorem dX11_keep_27 : decode cX11_keep 27 = .ok (.iload_n 1, 1) := by decide +kernel
theorem dX11_keep_28 : decode cX11_keep 28 = .ok (.aload_n 0, 1) := by decide +kernel
theorem dX11_keep_29 : decode cX11_keep 29 = .ok (.getfield 174, 3) := by decide +kernel
theorem dX11_keep_32 : decode cX11_keep 32 = .ok (.iastore, 1) := by decide +kernel
theorem dX11_keep_33 : decode cX11_keep 33 = .ok (.aload_n 0, 1) := by decide +kernel
theorem dX11_keep_34 : decode cX11_keep 34 = .ok (.getfield 9, 3) := by decide +kernel
theorem dX11_keep_37 : decode cX11_keep 37 = .ok (.aload_n 0, 1) := by decide +kernel
theorem dX11_keep_38 : decode cX11_keep 38 = .ok (.getfield 100, 3) := by decide +kernel
theorem dX11_keep_41 : decode cX11_keep 41 = .ok (.bipush 44, 2) := by decide +kernel
theorem dX11_keep_43 : decode cX11_keep 43 = .ok (.iload_n 1, 1) := by decide +kernel
theorem dX11_keep_44 : decode cX11_keep 44 = .ok (.imul, 1) := by decide +kernel
theorem dX11_keep_45 : decode cX11_keep 45 = .ok (.invokestatic 267, 3) := by decide +kernel
theorem dX11_keep_48 : decode cX11_keep 48 = .ok (.iconst 1, 1) := by decide +kernel
theorem dX11_keep_49 : decode cX11_keep 49 = .ok (.ireturn, 1) := by decide +kernel
theorem dX11_again_0 : decode cX11_again 0 = .ok (.aload_n 0, 1) := by decide +kernel
theorem dX11_again_1 : decode cX11_again 1 = .ok (.iconst 0, 1) := by decide +kernel
theorem dX11_again_2 : decode cX11_again 2 = .ok (.putfield 110, 3) := by decide +kernel
theorem dX11_again_5 : decode cX11_again 5 = .ok (.iload_n 1, 1) := by decide +kernel
theorem dX11_again_6 : decode cX11_again 6 = .ok (.iconst 0, 1) := by decide +kernel
theorem dX11_again_7 : decode cX11_again 7 = .ok (.iconst 1, 1) := by decide +kernel
theorem dX11_again_8 : decode cX11_again 8 = .ok (.invokestatic 116, 3) := by decide +kernel
theorem dX11_again_11 : decode cX11_again 11 = .ok (.ifCond .eq 25, 3) := by decide +kernel
theorem dX11_again_14 : decode cX11_again 14 = .ok (.aload_n 0, 1) := by decide +kernel
theorem dX11_again_15 : decode cX11_again 15 = .ok (.getfield 103, 3) := by decide +kernel
theorem dX11_again_18 : decode cX11_again 18 = .ok (.iload_n 1, 1) := by decide +kernel
theorem dX11_again_19 : decode cX11_again 19 = .ok (.baload, 1) := by decide +kernel
theorem dX11_again_20 : decode cX11_again 20 = .ok (.ifCond .eq 16, 3) := by decide +kernel
theorem dX11_again_23 : decode cX11_again 23 = .ok (.aload_n 0, 1) := by decide +kernel
theorem dX11_again_24 : decode cX11_again 24 = .ok (.getfield 107, 3) := by decide +kernel
theorem dX11_again_27 : decode cX11_again 27 = .ok (.iload_n 1, 1) := by decide +kernel
theorem dX11_again_28 : decode cX11_again 28 = .ok (.iaload, 1) := by decide +kernel
theorem dX11_again_29 : decode cX11_again 29 = .ok (.aload_n 0, 1) := by decide +kernel
theorem dX11_again_30 : decode cX11_again 30 = .ok (.getfield 174, 3) := by decide +kernel
theorem dX11_again_33 : decode cX11_again 33 = .ok (.if_icmp .eq 5, 3) := by decide +kernel
theorem dX11_again_36 : decode cX11_again 36 = .ok (.iconst 0, 1) := by decide +kernel
theorem dX11_again_37 : decode cX11_again 37 = .ok (.ireturn, 1) := by decide +kernel
theorem dX11_again_38 : decode cX11_again 38 = .ok (.iconst 0, 1) := by decide +kernel
theorem dX11_again_39 : decode cX11_again 39 = .ok (.istore_n 2, 1) := by decide +kernel
theorem dX11_again_40 : decode cX11_again 40 = .ok (.iload_n 2, 1) := by decide +kernel
theorem dX11_again_41 : decode cX11_again 41 = .ok (.bipush 44, 2) := by decide +kernel
theorem dX11_again_43 : decode cX11_again 43 = .ok (.if_icmp .ge 26, 3) := by decide +kernel
theorem dX11_again_46 : decode cX11_again 46 = .ok (.aload_n 0, 1) := by decide +kernel
theorem dX11_again_47 : decode cX11_again 47 = .ok (.getfield 9, 3) := by decide +kernel
theorem dX11_again_50 : decode cX11_again 50 = .ok (.iload_n 2, 1) := by decide +kernel
theorem dX11_again_51 : decode cX11_again 51 = .ok (.aload_n 0, 1) := by decide +kernel
theorem dX11_again_52 : decode cX11_again 52 = .ok (.getfield 100, 3) := by decide +kernel
theorem dX11_again_55 : decode cX11_again 55 = .ok (.bipush 44, 2) := by decide +kernel
theorem dX11_again_57 : decode cX11_again 57 = .ok (.iload_n 1, 1) := by decide +kernel
theorem dX11_again_58 : decode cX11_again 58 = .ok (.imul, 1) := by decide +kernel
theorem dX11_again_59 : decode cX11_again 59 = .ok (.iload_n 2, 1) := by decide +kernel
theorem dX11_again_60 : decode cX11_again 60 = .ok (.iadd, 1) := by decide +kernel
theorem dX11_again_61 : decode cX11_again 61 = .ok (.iaload, 1) := by decide +kernel
theorem dX11_again_62 : decode cX11_again 62 = .ok (.iastore, 1) := by decide +kernel
theorem dX11_again_63 : decode cX11_again 63 = .ok (.iinc 2 1, 3) := by decide +kernel
theorem dX11_again_66 : decode cX11_again 66 = .ok (.goto (-26), 3) := by decide +kernel
theorem dX11_again_69 : decode cX11_again 69 = .ok (.aload_n 0, 1) := by decide +kernel
theorem dX11_again_70 : decode cX11_again 70 = .ok (.iconst 0, 1) := by decide +kernel
theorem dX11_again_71 : decode cX11_again 71 = .ok (.putfield 171, 3) := by decide +kernel
theorem dX11_again_74 : decode cX11_again 74 = .ok (.iconst 1, 1) := by decide +kernel
theorem dX11_again_75 : decode cX11_again 75 = .ok (.ireturn, 1) := by decide +kernel
theorem dX11_sumOf_0 : decode cX11_sumOf 0 = .ok (.iconst 0, 1) := by decide +kernel
theorem dX11_sumOf_1 : decode cX11_sumOf 1 = .ok (.istore_n 3, 1) := by decide +kernel
theorem dX11_sumOf_2 : decode cX11_sumOf 2 = .ok (.iconst 0, 1) := by decide +kernel
theorem dX11_sumOf_3 : decode cX11_sumOf 3 = .ok (.istore 4, 2) := by decide +kernel
theorem dX11_sumOf_5 : decode cX11_sumOf 5 = .ok (.iload 4, 2) := by decide +kernel
theorem dX11_sumOf_7 : decode cX11_sumOf 7 = .ok (.iload_n 2, 1) := by decide +kernel
theorem dX11_sumOf_8 : decode cX11_sumOf 8 = .ok (.if_icmp .ge 21, 3) := by decide +kernel
theorem dX11_sumOf_11 : decode cX11_sumOf 11 = .ok (.iload_n 3, 1) := by decide +kernel
theorem dX11_sumOf_12 : decode cX11_sumOf 12 = .ok (.aload_n 0, 1) := by decide +kernel
theorem dX11_sumOf_13 : decode cX11_sumOf 13 = .ok (.getfield 9, 3) := by decide +kernel
theorem dX11_sumOf_16 : decode cX11_sumOf 16 = .ok (.iload_n 1, 1) := by decide +kernel
theorem dX11_sumOf_17 : decode cX11_sumOf 17 = .ok (.iload 4, 2) := by decide +kernel
theorem dX11_sumOf_19 : decode cX11_sumOf 19 = .ok (.iadd, 1) := by decide +kernel
theorem dX11_sumOf_20 : decode cX11_sumOf 20 = .ok (.iaload, 1) := by decide +kernel
theorem dX11_sumOf_21 : decode cX11_sumOf 21 = .ok (.iadd, 1) := by decide +kernel
theorem dX11_sumOf_22 : decode cX11_sumOf 22 = .ok (.istore_n 3, 1) := by decide +kernel
theorem dX11_sumOf_23 : decode cX11_sumOf 23 = .ok (.iinc 4 1, 3) := by decide +kernel
theorem dX11_sumOf_26 : decode cX11_sumOf 26 = .ok (.goto (-21), 3) := by decide +kernel
theorem dX11_sumOf_29 : decode cX11_sumOf 29 = .ok (.iload_n 3, 1) := by decide +kernel
theorem dX11_sumOf_30 : decode cX11_sumOf 30 = .ok (.ireturn, 1) := by decide +kernel
theorem dX11_count_0 : decode cX11_count 0 = .ok (.aload_n 0, 1) := by decide +kernel
theorem dX11_count_1 : decode cX11_count 1 = .ok (.iconst 0, 1) := by decide +kernel
theorem dX11_count_2 : decode cX11_count 2 = .ok (.putfield 110, 3) := by decide +kernel
theorem dX11_count_5 : decode cX11_count 5 = .ok (.iconst 0, 1) := by decide +kernel
theorem dX11_count_6 : decode cX11_count 6 = .ok (.istore_n 2, 1) := by decide +kernel
theorem dX11_count_7 : decode cX11_count 7 = .ok (.iload_n 1, 1) := by decide +kernel
theorem dX11_count_8 : decode cX11_count 8 = .ok (.tableswitch 176 0 11 #[64, 69, 74, 79, 84, 92, 100, 109, 119, 161, 166, 171], 64) := by decide +kernel
theorem dX11_count_72 : decode cX11_count 72 = .ok (.aload_n 0, 1) := by decide +kernel
theorem dX11_count_73 : decode cX11_count 73 = .ok (.getfield 13, 3) := by decide +kernel
theorem dX11_count_76 : decode cX11_count 76 = .ok (.ireturn, 1) := by decide +kernel
theorem dX11_count_77 : decode cX11_count 77 = .ok (.aload_n 0, 1) := by decide +kernel
theorem dX11_count_78 : decode cX11_count 78 = .ok (.getfield 120, 3) := by decide +kernel
theorem dX11_count_81 : decode cX11_count 81 = .ok (.ireturn, 1) := by decide +kernel
theorem dX11_count_82 : decode cX11_count 82 = .ok (.aload_n 0, 1) := by decide +kernel
theorem dX11_count_83 : decode cX11_count 83 = .ok (.getfield 123, 3) := by decide +kernel
theorem dX11_count_86 : decode cX11_count 86 = .ok (.ireturn, 1) := by decide +kernel
theorem dX11_count_87 : decode cX11_count 87 = .ok (.aload_n 0, 1) := by decide +kernel
theorem dX11_count_88 : decode cX11_count 88 = .ok (.getfield 168, 3) := by decide +kernel
theorem dX11_count_91 : decode cX11_count 91 = .ok (.ireturn, 1) := by decide +kernel
theorem dX11_count_92 : decode cX11_count 92 = .ok (.aload_n 0, 1) := by decide +kernel
theorem dX11_count_93 : decode cX11_count 93 = .ok (.getfield 9, 3) := by decide +kernel
theorem dX11_count_96 : decode cX11_count 96 = .ok (.bipush 12, 2) := by decide +kernel
theorem dX11_count_98 : decode cX11_count 98 = .ok (.iaload, 1) := by decide +kernel
theorem dX11_count_99 : decode cX11_count 99 = .ok (.ireturn, 1) := by decide +kernel
theorem dX11_count_100 : decode cX11_count 100 = .ok (.aload_n 0, 1) := by decide +kernel
theorem dX11_count_101 : decode cX11_count 101 = .ok (.getfield 9, 3) := by decide +kernel
theorem dX11_count_104 : decode cX11_count 104 = .ok (.bipush 13, 2) := by decide +kernel
theorem dX11_count_106 : decode cX11_count 106 = .ok (.iaload, 1) := by decide +kernel
theorem dX11_count_107 : decode cX11_count 107 = .ok (.ireturn, 1) := by decide +kernel
theorem dX11_count_108 : decode cX11_count 108 = .ok (.aload_n 0, 1) := by decide +kernel
theorem dX11_count_109 : decode cX11_count 109 = .ok (.bipush 14, 2) := by decide +kernel
theorem dX11_count_111 : decode cX11_count 111 = .ok (.bipush 30, 2) := by decide +kernel
theorem dX11_count_113 : decode cX11_count 113 = .ok (.invokevirtual 411, 3) := by decide +kernel
theorem dX11_count_116 : decode cX11_count 116 = .ok (.ireturn, 1) := by decide +kernel
theorem dX11_count_117 : decode cX11_count 117 = .ok (.aload_n 0, 1) := by decide +kernel
theorem dX11_count_118 : decode cX11_count 118 = .ok (.iconst 4, 1) := by decide +kernel
theorem dX11_count_119 : decode cX11_count 119 = .ok (.aload_n 0, 1) := by decide +kernel
theorem dX11_count_120 : decode cX11_count 120 = .ok (.getfield 123, 3) := by decide +kernel
theorem dX11_count_123 : decode cX11_count 123 = .ok (.invokevirtual 411, 3) := by decide +kernel
theorem dX11_count_126 : decode cX11_count 126 = .ok (.ireturn, 1) := by decide +kernel
theorem dX11_count_127 : decode cX11_count 127 = .ok (.iconst 0, 1) := by decide +kernel
theorem dX11_count_128 : decode cX11_count 128 = .ok (.istore_n 3, 1) := by decide +kernel
theorem dX11_count_129 : decode cX11_count 129 = .ok (.iload_n 3, 1) := by decide +kernel
theorem dX11_count_130 : decode cX11_count 130 = .ok (.aload_n 0, 1) := by decide +kernel
theorem dX11_count_131 : decode cX11_count 131 = .ok (.getfield 120, 3) := by decide +kernel
theorem dX11_count_134 : decode cX11_count 134 = .ok (.if_icmp .ge 33, 3) := by decide +kernel
theorem dX11_count_137 : decode cX11_count 137 = .ok (.iload_n 2, 1) := by decide +kernel
theorem dX11_count_138 : decode cX11_count 138 = .ok (.aload_n 0, 1) := by decide +kernel
theorem dX11_count_139 : decode cX11_count 139 = .ok (.getfield 24, 3) := by decide +kernel
theorem dX11_count_142 : decode cX11_count 142 = .ok (.iconst 2, 1) := by decide +kernel
theorem dX11_count_143 : decode cX11_count 143 = .ok (.iload_n 3, 1) := by decide +kernel
theorem dX11_count_144 : decode cX11_count 144 = .ok (.imul, 1) := by decide +kernel
theorem dX11_count_145 : decode cX11_count 145 = .ok (.iconst 1, 1) := by decide +kernel
theorem dX11_count_146 : decode cX11_count 146 = .ok (.iadd, 1) := by decide +kernel
theorem dX11_count_147 : decode cX11_count 147 = .ok (.iaload, 1) := by decide +kernel
theorem dX11_count_148 : decode cX11_count 148 = .ok (.iconst (-1), 1) := by decide +kernel
theorem dX11_count_149 : decode cX11_count 149 = .ok (.if_icmp .ne 7, 3) := by decide +kernel
theorem dX11_count_152 : decode cX11_count 152 = .ok (.iconst 0, 1) := by decide +kernel
theorem dX11_count_153 : decode cX11_count 153 = .ok (.goto 6, 3) := by decide +kernel
theorem dX11_count_156 : decode cX11_count 156 = .ok (.iconst 1, 1) := by decide +kernel
theorem dX11_count_157 : decode cX11_count 157 = .ok (.iload_n 3, 1) := by decide +kernel
theorem dX11_count_158 : decode cX11_count 158 = .ok (.ishl, 1) := by decide +kernel
theorem dX11_count_159 : decode cX11_count 159 = .ok (.ior, 1) := by decide +kernel
theorem dX11_count_160 : decode cX11_count 160 = .ok (.istore_n 2, 1) := by decide +kernel
theorem dX11_count_161 : decode cX11_count 161 = .ok (.iinc 3 1, 3) := by decide +kernel
theorem dX11_count_164 : decode cX11_count 164 = .ok (.goto (-35), 3) := by decide +kernel
theorem dX11_count_167 : decode cX11_count 167 = .ok (.iload_n 2, 1) := by decide +kernel
theorem dX11_count_168 : decode cX11_count 168 = .ok (.ireturn, 1) := by decide +kernel
theorem dX11_count_169 : decode cX11_count 169 = .ok (.aload_n 0, 1) := by decide +kernel
theorem dX11_count_170 : decode cX11_count 170 = .ok (.getfield 171, 3) := by decide +kernel
theorem dX11_count_173 : decode cX11_count 173 = .ok (.ireturn, 1) := by decide +kernel
theorem dX11_count_174 : decode cX11_count 174 = .ok (.aload_n 0, 1) := by decide +kernel
theorem dX11_count_175 : decode cX11_count 175 = .ok (.getfield 113, 3) := by decide +kernel
theorem dX11_count_178 : decode cX11_count 178 = .ok (.ireturn, 1) := by decide +kernel
theorem dX11_count_179 : decode cX11_count 179 = .ok (.aload_n 0, 1) := by decide +kernel
theorem dX11_count_180 : decode cX11_count 180 = .ok (.getfield 126, 3) := by decide +kernel
theorem dX11_count_183 : decode cX11_count 183 = .ok (.ireturn, 1) := by decide +kernel
theorem dX11_count_184 : decode cX11_count 184 = .ok (.iconst (-1), 1) := by decide +kernel
theorem dX11_count_185 : decode cX11_count 185 = .ok (.ireturn, 1) := by decide +kernel
theorem dX11_row_0 : decode cX11_row 0 = .ok (.aload_n 0, 1) := by decide +kernel
theorem dX11_row_1 : decode cX11_row 1 = .ok (.iconst 0, 1) := by decide +kernel
theorem dX11_row_2 : decode cX11_row 2 = .ok (.putfield 110, 3) := by decide +kernel
theorem dX11_row_5 : decode cX11_row 5 = .ok (.iload_n 1, 1) := by decide +kernel
theorem dX11_row_6 : decode cX11_row 6 = .ok (.iconst 0, 1) := by decide +kernel
theorem dX11_row_7 : decode cX11_row 7 = .ok (.aload_n 0, 1) := by decide +kernel
theorem dX11_row_8 : decode cX11_row 8 = .ok (.getfield 113, 3) := by decide +kernel
theorem dX11_row_11 : decode cX11_row 11 = .ok (.iconst 1, 1) := by decide +kernel
theorem dX11_row_12 : decode cX11_row 12 = .ok (.isub, 1) := by decide +kernel
theorem dX11_row_13 : decode cX11_row 13 = .ok (.invokestatic 116, 3) := by decide +kernel
theorem dX11_row_16 : decode cX11_row 16 = .ok (.ifCond .eq 12, 3) := by decide +kernel
theorem dX11_row_19 : decode cX11_row 19 = .ok (.aload_n 0, 1) := by decide +kernel
theorem dX11_row_20 : decode cX11_row 20 = .ok (.getfield 33, 3) := by decide +kernel
theorem dX11_row_23 : decode cX11_row 23 = .ok (.iload_n 1, 1) := by decide +kernel
theorem dX11_row_24 : decode cX11_row 24 = .ok (.laload, 1) := by decide +kernel
theorem dX11_row_25 : decode cX11_row 25 = .ok (.goto 8, 3) := by decide +kernel
theorem dX11_row_28 : decode cX11_row 28 = .ok (.aload_n 0, 1) := by decide +kernel
theorem dX11_row_29 : decode cX11_row 29 = .ok (.invokevirtual 245, 3) := by decide +kernel
theorem dX11_row_32 : decode cX11_row 32 = .ok (.i2l, 1) := by decide +kernel
theorem dX11_row_33 : decode cX11_row 33 = .ok (.lreturn, 1) := by decide +kernel
