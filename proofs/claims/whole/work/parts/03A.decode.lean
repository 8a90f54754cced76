theorem dX0_init_0 : decode cX0_init 0 = .ok (.aload_n 0, 1) := by decide +kernel
theorem dX0_init_1 : decode cX0_init 1 = .ok (.invokespecial 3, 3) := by decide +kernel
theorem dX0_init_4 : decode cX0_init 4 = .ok (.aload_n 0, 1) := by decide +kernel
theorem dX0_init_5 : decode cX0_init 5 = .ok (.bipush 6, 2) := by decide +kernel
theorem dX0_init_7 : decode cX0_init 7 = .ok (.newarray .int, 2) := by decide +kernel
theorem dX0_init_9 : decode cX0_init 9 = .ok (.putfield 9, 3) := by decide +kernel
theorem dX0_init_12 : decode cX0_init 12 = .ok (.aload_n 0, 1) := by decide +kernel
theorem dX0_init_13 : decode cX0_init 13 = .ok (.bipush 6, 2) := by decide +kernel
theorem dX0_init_15 : decode cX0_init 15 = .ok (.newarray .int, 2) := by decide +kernel
theorem dX0_init_17 : decode cX0_init 17 = .ok (.putfield 15, 3) := by decide +kernel
theorem dX0_init_20 : decode cX0_init 20 = .ok (.aload_n 0, 1) := by decide +kernel
theorem dX0_init_21 : decode cX0_init 21 = .ok (.bipush 7, 2) := by decide +kernel
theorem dX0_init_23 : decode cX0_init 23 = .ok (.newarray .int, 2) := by decide +kernel
theorem dX0_init_25 : decode cX0_init 25 = .ok (.putfield 18, 3) := by decide +kernel
theorem dX0_init_28 : decode cX0_init 28 = .ok (.aload_n 0, 1) := by decide +kernel
theorem dX0_init_29 : decode cX0_init 29 = .ok (.bipush 10, 2) := by decide +kernel
theorem dX0_init_31 : decode cX0_init 31 = .ok (.newarray .int, 2) := by decide +kernel
theorem dX0_init_33 : decode cX0_init 33 = .ok (.putfield 21, 3) := by decide +kernel
theorem dX0_init_36 : decode cX0_init 36 = .ok (.return_, 1) := by decide +kernel
theorem dX0_ofLetters_0 : decode cX0_ofLetters 0 = .ok (.aload_n 0, 1) := by decide +kernel
theorem dX0_ofLetters_1 : decode cX0_ofLetters 1 = .ok (.aload_n 1, 1) := by decide +kernel
theorem dX0_ofLetters_2 : decode cX0_ofLetters 2 = .ok (.iload_n 2, 1) := by decide +kernel
theorem dX0_ofLetters_3 : decode cX0_ofLetters 3 = .ok (.aload_n 0, 1) := by decide +kernel
theorem dX0_ofLetters_4 : decode cX0_ofLetters 4 = .ok (.getfield 9, 3) := by decide +kernel
theorem dX0_ofLetters_7 : decode cX0_ofLetters 7 = .ok (.iconst 0, 1) := by decide +kernel
theorem dX0_ofLetters_8 : decode cX0_ofLetters 8 = .ok (.invokestatic 24, 3) := by decide +kernel
theorem dX0_ofLetters_11 : decode cX0_ofLetters 11 = .ok (.aload_n 1, 1) := by decide +kernel
theorem dX0_ofLetters_12 : decode cX0_ofLetters 12 = .ok (.iload_n 3, 1) := by decide +kernel
theorem dX0_ofLetters_13 : decode cX0_ofLetters 13 = .ok (.aload_n 0, 1) := by decide +kernel
theorem dX0_ofLetters_14 : decode cX0_ofLetters 14 = .ok (.getfield 15, 3) := by decide +kernel
theorem dX0_ofLetters_17 : decode cX0_ofLetters 17 = .ok (.iconst 0, 1) := by decide +kernel
theorem dX0_ofLetters_18 : decode cX0_ofLetters 18 = .ok (.invokestatic 24, 3) := by decide +kernel
theorem dX0_ofLetters_21 : decode cX0_ofLetters 21 = .ok (.invokevirtual 28, 3) := by decide +kernel
theorem dX0_ofLetters_24 : decode cX0_ofLetters 24 = .ok (.ireturn, 1) := by decide +kernel
theorem dX0_ofVowels_0 : decode cX0_ofVowels 0 = .ok (.aload_n 0, 1) := by decide +kernel
theorem dX0_ofVowels_1 : decode cX0_ofVowels 1 = .ok (.aload_n 1, 1) := by decide +kernel
theorem dX0_ofVowels_2 : decode cX0_ofVowels 2 = .ok (.iload_n 2, 1) := by decide +kernel
theorem dX0_ofVowels_3 : decode cX0_ofVowels 3 = .ok (.aload_n 0, 1) := by decide +kernel
theorem dX0_ofVowels_4 : decode cX0_ofVowels 4 = .ok (.getfield 9, 3) := by decide +kernel
theorem dX0_ofVowels_7 : decode cX0_ofVowels 7 = .ok (.iconst 1, 1) := by decide +kernel
theorem dX0_ofVowels_8 : decode cX0_ofVowels 8 = .ok (.invokestatic 24, 3) := by decide +kernel
theorem dX0_ofVowels_11 : decode cX0_ofVowels 11 = .ok (.aload_n 1, 1) := by decide +kernel
theorem dX0_ofVowels_12 : decode cX0_ofVowels 12 = .ok (.iload_n 3, 1) := by decide +kernel
theorem dX0_ofVowels_13 : decode cX0_ofVowels 13 = .ok (.aload_n 0, 1) := by decide +kernel
theorem dX0_ofVowels_14 : decode cX0_ofVowels 14 = .ok (.getfield 15, 3) := by decide +kernel
theorem dX0_ofVowels_17 : decode cX0_ofVowels 17 = .ok (.iconst 1, 1) := by decide +kernel
theorem dX0_ofVowels_18 : decode cX0_ofVowels 18 = .ok (.invokestatic 24, 3) := by decide +kernel
theorem dX0_ofVowels_21 : decode cX0_ofVowels 21 = .ok (.invokevirtual 28, 3) := by decide +kernel
theorem dX0_ofVowels_24 : decode cX0_ofVowels 24 = .ok (.ireturn, 1) := by decide +kernel
theorem dX0_spell_0 : decode cX0_spell 0 = .ok (.iconst 0, 1) := by decide +kernel
theorem dX0_spell_1 : decode cX0_spell 1 = .ok (.istore 4, 2) := by decide +kernel
theorem dX0_spell_3 : decode cX0_spell 3 = .ok (.iconst 0, 1) := by decide +kernel
theorem dX0_spell_4 : decode cX0_spell 4 = .ok (.istore 5, 2) := by decide +kernel
theorem dX0_spell_6 : decode cX0_spell 6 = .ok (.iload 5, 2) := by decide +kernel
theorem dX0_spell_8 : decode cX0_spell 8 = .ok (.aload_n 0, 1) := by decide +kernel
theorem dX0_spell_9 : decode cX0_spell 9 = .ok (.getfield 32, 3) := by decide +kernel
theorem dX0_spell_12 : decode cX0_spell 12 = .ok (.iload_n 1, 1) := by decide +kernel
theorem dX0_spell_13 : decode cX0_spell 13 = .ok (.iaload, 1) := by decide +kernel
theorem dX0_spell_14 : decode cX0_spell 14 = .ok (.if_icmp .ge 39, 3) := by decide +kernel
theorem dX0_spell_17 : decode cX0_spell 17 = .ok (.aload_n 0, 1) := by decide +kernel
theorem dX0_spell_18 : decode cX0_spell 18 = .ok (.iload_n 1, 1) := by decide +kernel
theorem dX0_spell_19 : decode cX0_spell 19 = .ok (.iload 5, 2) := by decide +kernel
theorem dX0_spell_21 : decode cX0_spell 21 = .ok (.invokevirtual 37, 3) := by decide +kernel
theorem dX0_spell_24 : decode cX0_spell 24 = .ok (.istore 6, 2) := by decide +kernel
theorem dX0_spell_26 : decode cX0_spell 26 = .ok (.iload_n 3, 1) := by decide +kernel
theorem dX0_spell_27 : decode cX0_spell 27 = .ok (.ifCond .eq 11, 3) := by decide +kernel
theorem dX0_spell_30 : decode cX0_spell 30 = .ok (.iload 6, 2) := by decide +kernel
theorem dX0_spell_32 : decode cX0_spell 32 = .ok (.invokestatic 40, 3) := by decide +kernel
theorem dX0_spell_35 : decode cX0_spell 35 = .ok (.ifCond .lt 12, 3) := by decide +kernel
theorem dX0_spell_38 : decode cX0_spell 38 = .ok (.aload_n 2, 1) := by decide +kernel
theorem dX0_spell_39 : decode cX0_spell 39 = .ok (.iload 4, 2) := by decide +kernel
theorem dX0_spell_41 : decode cX0_spell 41 = .ok (.iload 6, 2) := by decide +kernel
theorem dX0_spell_43 : decode cX0_spell 43 = .ok (.iastore, 1) := by decide +kernel
theorem dX0_spell_44 : decode cX0_spell 44 = .ok (.iinc 4 1, 3) := by decide +kernel
theorem dX0_spell_47 : decode cX0_spell 47 = .ok (.iinc 5 1, 3) := by decide +kernel
theorem dX0_spell_50 : decode cX0_spell 50 = .ok (.goto (-44), 3) := by decide +kernel
theorem dX0_spell_53 : decode cX0_spell 53 = .ok (.iload 4, 2) := by decide +kernel
theorem dX0_spell_55 : decode cX0_spell 55 = .ok (.ireturn, 1) := by decide +kernel
theorem dX0_fewest_0 : decode cX0_fewest 0 = .ok (.iconst 0, 1) := by decide +kernel
theorem dX0_fewest_1 : decode cX0_fewest 1 = .ok (.istore_n 3, 1) := by decide +kernel
theorem dX0_fewest_2 : decode cX0_fewest 2 = .ok (.iload_n 3, 1) := by decide +kernel
theorem dX0_fewest_3 : decode cX0_fewest 3 = .ok (.iload_n 2, 1) := by decide +kernel
theorem dX0_fewest_4 : decode cX0_fewest 4 = .ok (.if_icmp .gt 16, 3) := by decide +kernel
theorem dX0_fewest_7 : decode cX0_fewest 7 = .ok (.aload_n 0, 1) := by decide +kernel
theorem dX0_fewest_8 : decode cX0_fewest 8 = .ok (.getfield 18, 3) := by decide +kernel
theorem dX0_fewest_11 : decode cX0_fewest 11 = .ok (.iload_n 3, 1) := by decide +kernel
theorem dX0_fewest_12 : decode cX0_fewest 12 = .ok (.iload_n 3, 1) := by decide +kernel
theorem dX0_fewest_13 : decode cX0_fewest 13 = .ok (.iastore, 1) := by decide +kernel
theorem dX0_fewest_14 : decode cX0_fewest 14 = .ok (.iinc 3 1, 3) := by decide +kernel
theorem dX0_fewest_17 : decode cX0_fewest 17 = .ok (.goto (-15), 3) := by decide +kernel
theorem dX0_fewest_20 : decode cX0_fewest 20 = .ok (.iconst 1, 1) := by decide +kernel
theorem dX0_fewest_21 : decode cX0_fewest 21 = .ok (.istore_n 3, 1) := by decide +kernel
theorem dX0_fewest_22 : decode cX0_fewest 22 = .ok (.iload_n 3, 1) := by decide +kernel
theorem dX0_fewest_23 : decode cX0_fewest 23 = .ok (.iload_n 1, 1) := by decide +kernel
theorem dX0_fewest_24 : decode cX0_fewest 24 = .ok (.if_icmp .gt 111, 3) := by decide +kernel
theorem dX0_fewest_27 : decode cX0_fewest 27 = .ok (.aload_n 0, 1) := by decide +kernel
theorem dX0_fewest_28 : decode cX0_fewest 28 = .ok (.getfield 18, 3) := by decide +kernel
theorem dX0_fewest_31 : decode cX0_fewest 31 = .ok (.iconst 0, 1) := by decide +kernel
theorem dX0_fewest_32 : decode cX0_fewest 32 = .ok (.iaload, 1) := by decide +kernel
theorem dX0_fewest_33 : decode cX0_fewest 33 = .ok (.istore 4, 2) := by decide +kernel
theorem dX0_fewest_35 : decode cX0_fewest 35 = .ok (.aload_n 0, 1) := by decide +kernel
theorem dX0_fewest_36 : decode cX0_fewest 36 = .ok (.getfield 18, 3) := by decide +kernel
theorem dX0_fewest_39 : decode cX0_fewest 39 = .ok (.iconst 0, 1) := by decide +kernel
theorem dX0_fewest_40 : decode cX0_fewest 40 = .ok (.iload_n 3, 1) := by decide +kernel
theorem dX0_fewest_41 : decode cX0_fewest 41 = .ok (.iastore, 1) := by decide +kernel
theorem dX0_fewest_42 : decode cX0_fewest 42 = .ok (.iconst 1, 1) := by decide +kernel
theorem dX0_fewest_43 : decode cX0_fewest 43 = .ok (.istore 5, 2) := by decide +kernel
theorem dX0_fewest_45 : decode cX0_fewest 45 = .ok (.iload 5, 2) := by decide +kernel
theorem dX0_fewest_47 : decode cX0_fewest 47 = .ok (.iload_n 2, 1) := by decide +kernel
theorem dX0_fewest_48 : decode cX0_fewest 48 = .ok (.if_icmp .gt 81, 3) := by decide +kernel
theorem dX0_fewest_51 : decode cX0_fewest 51 = .ok (.iload 4, 2) := by decide +kernel
theorem dX0_fewest_53 : decode cX0_fewest 53 = .ok (.aload_n 0, 1) := by decide +kernel
theorem dX0_fewest_54 : decode cX0_fewest 54 = .ok (.getfield 9, 3) := by decide +kernel
theorem dX0_fewest_57 : decode cX0_fewest 57 = .ok (.iload_n 3, 1) := by decide +kernel
theorem dX0_fewest_58 : decode cX0_fewest 58 = .ok (.iconst 1, 1) := by decide +kernel
theorem dX0_fewest_59 : decode cX0_fewest 59 = .ok (.isub, 1) := by decide +kernel
theorem dX0_fewest_60 : decode cX0_fewest 60 = .ok (.iaload, 1) := by decide +kernel
theorem dX0_fewest_61 : decode cX0_fewest 61 = .ok (.aload_n 0, 1) := by decide +kernel
theorem dX0_fewest_62 : decode cX0_fewest 62 = .ok (.getfield 15, 3) := by decide +kernel
theorem dX0_fewest_65 : decode cX0_fewest 65 = .ok (.iload 5, 2) := by decide +kernel
theorem dX0_fewest_67 : decode cX0_fewest 67 = .ok (.iconst 1, 1) := by decide +kernel
theorem dX0_fewest_68 : decode cX0_fewest 68 = .ok (.isub, 1) := by decide +kernel
theorem dX0_fewest_69 : decode cX0_fewest 69 = .ok (.iaload, 1) := by decide +kernel
theorem dX0_fewest_70 : decode cX0_fewest 70 = .ok (.if_icmp .ne 7, 3) := by decide +kernel
theorem dX0_fewest_73 : decode cX0_fewest 73 = .ok (.iconst 0, 1) := by decide +kernel
theorem dX0_fewest_74 : decode cX0_fewest 74 = .ok (.goto 4, 3) := by decide +kernel
theorem dX0_fewest_77 : decode cX0_fewest 77 = .ok (.iconst 1, 1) := by decide +kernel
theorem dX0_fewest_78 : decode cX0_fewest 78 = .ok (.iadd, 1) := by decide +kernel
theorem dX0_fewest_79 : decode cX0_fewest 79 = .ok (.istore 6, 2) := by decide +kernel
theorem dX0_fewest_81 : decode cX0_fewest 81 = .ok (.aload_n 0, 1) := by decide +kernel
theorem dX0_fewest_82 : decode cX0_fewest 82 = .ok (.getfield 18, 3) := by decide +kernel
theorem dX0_fewest_85 : decode cX0_fewest 85 = .ok (.iload 5, 2) := by decide +kernel
theorem dX0_fewest_87 : decode cX0_fewest 87 = .ok (.iaload, 1) := by decide +kernel
theorem dX0_fewest_88 : decode cX0_fewest 88 = .ok (.istore 4, 2) := by decide +kernel
theorem dX0_fewest_90 : decode cX0_fewest 90 = .ok (.aload_n 0, 1) := by decide +kernel
theorem dX0_fewest_91 : decode cX0_fewest 91 = .ok (.getfield 18, 3) := by decide +kernel
theorem dX0_fewest_94 : decode cX0_fewest 94 = .ok (.iload 5, 2) := by decide +kernel
theorem dX0_fewest_96 : decode cX0_fewest 96 = .ok (.iload 6, 2) := by decide +kernel
theorem dX0_fewest_98 : decode cX0_fewest 98 = .ok (.aload_n 0, 1) := by decide +kernel
theorem dX0_fewest_99 : decode cX0_fewest 99 = .ok (.getfield 18, 3) := by decide +kernel
theorem dX0_fewest_102 : decode cX0_fewest 102 = .ok (.iload 5, 2) := by decide +kernel
theorem dX0_fewest_104 : decode cX0_fewest 104 = .ok (.iaload, 1) := by decide +kernel
theorem dX0_fewest_105 : decode cX0_fewest 105 = .ok (.aload_n 0, 1) := by decide +kernel
theorem dX0_fewest_106 : decode cX0_fewest 106 = .ok (.getfield 18, 3) := by decide +kernel
theorem dX0_fewest_109 : decode cX0_fewest 109 = .ok (.iload 5, 2) := by decide +kernel
theorem dX0_fewest_111 : decode cX0_fewest 111 = .ok (.iconst 1, 1) := by decide +kernel
theorem dX0_fewest_112 : decode cX0_fewest 112 = .ok (.isub, 1) := by decide +kernel
theorem dX0_fewest_113 : decode cX0_fewest 113 = .ok (.iaload, 1) := by decide +kernel
theorem dX0_fewest_114 : decode cX0_fewest 114 = .ok (.invokestatic 44, 3) := by decide +kernel
theorem dX0_fewest_117 : decode cX0_fewest 117 = .ok (.iconst 1, 1) := by decide +kernel
theorem dX0_fewest_118 : decode cX0_fewest 118 = .ok (.iadd, 1) := by decide +kernel
theorem dX0_fewest_119 : decode cX0_fewest 119 = .ok (.invokestatic 44, 3) := by decide +kernel
theorem dX0_fewest_122 : decode cX0_fewest 122 = .ok (.iastore, 1) := by decide +kernel
theorem dX0_fewest_123 : decode cX0_fewest 123 = .ok (.iinc 5 1, 3) := by decide +kernel
theorem dX0_fewest_126 : decode cX0_fewest 126 = .ok (.goto (-81), 3) := by decide +kernel
theorem dX0_fewest_129 : decode cX0_fewest 129 = .ok (.iinc 3 1, 3) := by decide +kernel
theorem dX0_fewest_132 : decode cX0_fewest 132 = .ok (.goto (-110), 3) := by decide +kernel
theorem dX0_fewest_135 : decode cX0_fewest 135 = .ok (.aload_n 0, 1) := by decide +kernel
theorem dX0_fewest_136 : decode cX0_fewest 136 = .ok (.getfield 18, 3) := by decide +kernel
theorem dX0_fewest_139 : decode cX0_fewest 139 = .ok (.iload_n 2, 1) := by decide +kernel
theorem dX0_fewest_140 : decode cX0_fewest 140 = .ok (.iaload, 1) := by decide +kernel
theorem dX0_fewest_141 : decode cX0_fewest 141 = .ok (.ireturn, 1) := by decide +kernel
theorem dX0_markFar_0 : decode cX0_markFar 0 = .ok (.iconst 0, 1) := by decide +kernel
theorem dX0_markFar_1 : decode cX0_markFar 1 = .ok (.istore_n 3, 1) := by decide +kernel
theorem dX0_markFar_2 : decode cX0_markFar 2 = .ok (.iload_n 3, 1) := by decide +kernel
theorem dX0_markFar_3 : decode cX0_markFar 3 = .ok (.aload_n 1, 1) := by decide +kernel
theorem dX0_markFar_4 : decode cX0_markFar 4 = .ok (.getfield 49, 3) := by decide +kernel
theorem dX0_markFar_7 : decode cX0_markFar 7 = .ok (.if_icmp .ge 71, 3) := by decide +kernel
theorem dX0_markFar_10 : decode cX0_markFar 10 = .ok (.aload_n 0, 1) := by decide +kernel
theorem dX0_markFar_11 : decode cX0_markFar 11 = .ok (.getfield 21, 3) := by decide +kernel
theorem dX0_markFar_14 : decode cX0_markFar 14 = .ok (.iload_n 3, 1) := by decide +kernel
theorem dX0_markFar_15 : decode cX0_markFar 15 = .ok (.iconst 1, 1) := by decide +kernel
theorem dX0_markFar_16 : decode cX0_markFar 16 = .ok (.iload_n 3, 1) := by decide +kernel
theorem dX0_markFar_17 : decode cX0_markFar 17 = .ok (.ishl, 1) := by decide +kernel
theorem dX0_markFar_18 : decode cX0_markFar 18 = .ok (.iastore, 1) := by decide +kernel
theorem dX0_markFar_19 : decode cX0_markFar 19 = .ok (.iconst 0, 1) := by decide +kernel
theorem dX0_markFar_20 : decode cX0_markFar 20 = .ok (.istore 4, 2) := by decide +kernel
theorem dX0_markFar_22 : decode cX0_markFar 22 = .ok (.iload 4, 2) := by decide +kernel
theorem dX0_markFar_24 : decode cX0_markFar 24 = .ok (.iload_n 3, 1) := by decide +kernel
theorem dX0_markFar_25 : decode cX0_markFar 25 = .ok (.if_icmp .ge 47, 3) := by decide +kernel
theorem dX0_markFar_28 : decode cX0_markFar 28 = .ok (.aload_n 0, 1) := by decide +kernel
theorem dX0_markFar_29 : decode cX0_markFar 29 = .ok (.aload_n 1, 1) := by decide +kernel
theorem dX0_markFar_30 : decode cX0_markFar 30 = .ok (.iload_n 3, 1) := by decide +kernel
theorem dX0_markFar_31 : decode cX0_markFar 31 = .ok (.iload 4, 2) := by decide +kernel
theorem dX0_markFar_33 : decode cX0_markFar 33 = .ok (.invokevirtual 53, 3) := by decide +kernel
theorem dX0_markFar_36 : decode cX0_markFar 36 = .ok (.iload_n 2, 1) := by decide +kernel
theorem dX0_markFar_37 : decode cX0_markFar 37 = .ok (.if_icmp .lt 29, 3) := by decide +kernel
theorem dX0_markFar_40 : decode cX0_markFar 40 = .ok (.aload_n 0, 1) := by decide +kernel
theorem dX0_markFar_41 : decode cX0_markFar 41 = .ok (.getfield 21, 3) := by decide +kernel
theorem dX0_markFar_44 : decode cX0_markFar 44 = .ok (.iload_n 3, 1) := by decide +kernel
theorem dX0_markFar_45 : decode cX0_markFar 45 = .ok (.dup2, 1) := by decide +kernel
theorem dX0_markFar_46 : decode cX0_markFar 46 = .ok (.iaload, 1) := by decide +kernel
theorem dX0_markFar_47 : decode cX0_markFar 47 = .ok (.iconst 1, 1) := by decide +kernel
theorem dX0_markFar_48 : decode cX0_markFar 48 = .ok (.iload 4, 2) := by decide +kernel
theorem dX0_markFar_50 : decode cX0_markFar 50 = .ok (.ishl, 1) := by decide +kernel
theorem dX0_markFar_51 : decode cX0_markFar 51 = .ok (.ior, 1) := by decide +kernel
theorem dX0_markFar_52 : decode cX0_markFar 52 = .ok (.iastore, 1) := by decide +kernel
theorem dX0_markFar_53 : decode cX0_markFar 53 = .ok (.aload_n 0, 1) := by decide +kernel
theorem dX0_markFar_54 : decode cX0_markFar 54 = .ok (.getfield 21, 3) := by decide +kernel
theorem dX0_markFar_57 : decode cX0_markFar 57 = .ok (.iload 4, 2) := by decide +kernel
theorem dX0_markFar_59 : decode cX0_markFar 59 = .ok (.dup2, 1) := by decide +kernel
theorem dX0_markFar_60 : decode cX0_markFar 60 = .ok (.iaload, 1) := by decide +kernel
theorem dX0_markFar_61 : decode cX0_markFar 61 = .ok (.iconst 1, 1) := by decide +kernel
theorem dX0_markFar_62 : decode cX0_markFar 62 = .ok (.iload_n 3, 1) := by decide +kernel
theorem dX0_markFar_63 : decode cX0_markFar 63 = .ok (.ishl, 1) := by decide +kernel
theorem dX0_markFar_64 : decode cX0_markFar 64 = .ok (.ior, 1) := by decide +kernel
theorem dX0_markFar_65 : decode cX0_markFar 65 = .ok (.iastore, 1) := by decide +kernel
theorem dX0_markFar_66 : decode cX0_markFar 66 = .ok (.iinc 4 1, 3) := by decide +kernel
theorem dX0_markFar_69 : decode cX0_markFar 69 = .ok (.goto (-47), 3) := by decide +kernel
theorem dX0_markFar_72 : decode cX0_markFar 72 = .ok (.iinc 3 1, 3) := by decide +kernel
theorem dX0_markFar_75 : decode cX0_markFar 75 = .ok (.goto (-73), 3) := by decide +kernel
theorem dX0_markFar_78 : decode cX0_markFar 78 = .ok (.return_, 1) := by decide +kernel
theorem dX0_areFar_0 : decode cX0_areFar 0 = .ok (.iconst 0, 1) := by decide +kernel
theorem dX0_areFar_1 : decode cX0_areFar 1 = .ok (.istore_n 3, 1) := by decide +kernel
theorem dX0_areFar_2 : decode cX0_areFar 2 = .ok (.iload_n 3, 1) := by decide +kernel
theorem dX0_areFar_3 : decode cX0_areFar 3 = .ok (.iload_n 2, 1) := by decide +kernel
theorem dX0_areFar_4 : decode cX0_areFar 4 = .ok (.if_icmp .ge 33, 3) := by decide +kernel
theorem dX0_areFar_7 : decode cX0_areFar 7 = .ok (.iload_n 1, 1) := by decide +kernel
theorem dX0_areFar_8 : decode cX0_areFar 8 = .ok (.iload_n 3, 1) := by decide +kernel
theorem dX0_areFar_9 : decode cX0_areFar 9 = .ok (.ishr, 1) := by decide +kernel
theorem dX0_areFar_10 : decode cX0_areFar 10 = .ok (.iconst 1, 1) := by decide +kernel
theorem dX0_areFar_11 : decode cX0_areFar 11 = .ok (.iand, 1) := by decide +kernel
theorem dX0_areFar_12 : decode cX0_areFar 12 = .ok (.iconst 1, 1) := by decide +kernel
theorem dX0_areFar_13 : decode cX0_areFar 13 = .ok (.if_icmp .ne 18, 3) := by decide +kernel
theorem dX0_areFar_16 : decode cX0_areFar 16 = .ok (.iload_n 1, 1) := by decide +kernel
theorem dX0_areFar_17 : decode cX0_areFar 17 = .ok (.aload_n 0, 1) := by decide +kernel
theorem dX0_areFar_18 : decode cX0_areFar 18 = .ok (.getfield 21, 3) := by decide +kernel
theorem dX0_areFar_21 : decode cX0_areFar 21 = .ok (.iload_n 3, 1) := by decide +kernel
theorem dX0_areFar_22 : decode cX0_areFar 22 = .ok (.iaload, 1) := by decide +kernel
theorem dX0_areFar_23 : decode cX0_areFar 23 = .ok (.iconst (-1), 1) := by decide +kernel
theorem dX0_areFar_24 : decode cX0_areFar 24 = .ok (.ixor, 1) := by decide +kernel
theorem dX0_areFar_25 : decode cX0_areFar 25 = .ok (.iand, 1) := by decide +kernel
theorem dX0_areFar_26 : decode cX0_areFar 26 = .ok (.ifCond .eq 5, 3) := by decide +kernel
theorem dX0_areFar_29 : decode cX0_areFar 29 = .ok (.iconst 0, 1) := by decide +kernel
theorem dX0_areFar_30 : decode cX0_areFar 30 = .ok (.ireturn, 1) := by decide +kernel
theorem dX0_areFar_31 : decode cX0_areFar 31 = .ok (.iinc 3 1, 3) := by decide +kernel
theorem dX0_areFar_34 : decode cX0_areFar 34 = .ok (.goto (-32), 3) := by decide +kernel
theorem dX0_areFar_37 : decode cX0_areFar 37 = .ok (.iconst 1, 1) := by decide +kernel
theorem dX0_areFar_38 : decode cX0_areFar 38 = .ok (.ireturn, 1) := by decide +kernel
theorem dX1_init_0 : decode cX1_init 0 = .ok (.aload_n 0, 1) := by decide +kernel
theorem dX1_init_1 : decode cX1_init 1 = .ok (.invokespecial 1, 3) := by decide +kernel
theorem dX1_init_4 : decode cX1_init 4 = .ok (.aload_n 0, 1) := by decide +kernel
theorem dX1_init_5 : decode cX1_init 5 = .ok (.iload_n 1, 1) := by decide +kernel
theorem dX1_init_6 : decode cX1_init 6 = .ok (.putfield 7, 3) := by decide +kernel
theorem dX1_init_9 : decode cX1_init 9 = .ok (.return_, 1) := by decide +kernel
theorem dX1_below_0 : decode cX1_below 0 = .ok (.aload_n 0, 1) := by decide +kernel
theorem dX1_below_1 : decode cX1_below 1 = .ok (.aload_n 0, 1) := by decide +kernel
theorem dX1_below_2 : decode cX1_below 2 = .ok (.getfield 7, 3) := by decide +kernel
theorem dX1_below_5 : decode cX1_below 5 = .ok (.ldc 13, 2) := by decide +kernel
theorem dX1_below_7 : decode cX1_below 7 = .ok (.imul, 1) := by decide +kernel
theorem dX1_below_8 : decode cX1_below 8 = .ok (.sipush 12345, 3) := by decide +kernel
theorem dX1_below_11 : decode cX1_below 11 = .ok (.iadd, 1) := by decide +kernel
theorem dX1_below_12 : decode cX1_below 12 = .ok (.putfield 7, 3) := by decide +kernel
theorem dX1_below_15 : decode cX1_below 15 = .ok (.iload_n 1, 1) := by decide +kernel
theorem dX1_below_16 : decode cX1_below 16 = .ok (.ifCond .le 15, 3) := by decide +kernel
theorem dX1_below_19 : decode cX1_below 19 = .ok (.aload_n 0, 1) := by decide +kernel
theorem dX1_below_20 : decode cX1_below 20 = .ok (.getfield 7, 3) := by decide +kernel
theorem dX1_below_23 : decode cX1_below 23 = .ok (.bipush 16, 2) := by decide +kernel
theorem dX1_below_25 : decode cX1_below 25 = .ok (.iushr, 1) := by decide +kernel
theorem dX1_below_26 : decode cX1_below 26 = .ok (.iload_n 1, 1) := by decide +kernel
theorem dX1_below_27 : decode cX1_below 27 = .ok (.irem, 1) := by decide +kernel
theorem dX1_below_28 : decode cX1_below 28 = .ok (.goto 4, 3) := by decide +kernel
theorem dX1_below_31 : decode cX1_below 31 = .ok (.iconst 0, 1) := by decide +kernel
theorem dX1_below_32 : decode cX1_below 32 = .ok (.ireturn, 1) := by decide +kernel
theorem dX2_init_0 : decode cX2_init 0 = .ok (.aload_n 0, 1) := by decide +kernel
theorem dX2_init_1 : decode cX2_init 1 = .ok (.invokespecial 3, 3) := by decide +kernel
theorem dX2_init_4 : decode cX2_init 4 = .ok (.aload_n 0, 1) := by decide +kernel
theorem dX2_init_5 : decode cX2_init 5 = .ok (.bipush 8, 2) := by decide +kernel
theorem dX2_init_7 : decode cX2_init 7 = .ok (.newarray .int, 2) := by decide +kernel
theorem dX2_init_9 : decode cX2_init 9 = .ok (.putfield 9, 3) := by decide +kernel
theorem dX2_init_12 : decode cX2_init 12 = .ok (.aload_n 0, 1) := by decide +kernel
theorem dX2_init_13 : decode cX2_init 13 = .ok (.bipush 8, 2) := by decide +kernel
theorem dX2_init_15 : decode cX2_init 15 = .ok (.newarray .int, 2) := by decide +kernel
theorem dX2_init_17 : decode cX2_init 17 = .ok (.putfield 15, 3) := by decide +kernel
theorem dX2_init_20 : decode cX2_init 20 = .ok (.aload_n 0, 1) := by decide +kernel
theorem dX2_init_21 : decode cX2_init 21 = .ok (.bipush 8, 2) := by decide +kernel
theorem dX2_init_23 : decode cX2_init 23 = .ok (.newarray .int, 2) := by decide +kernel
theorem dX2_init_25 : decode cX2_init 25 = .ok (.putfield 18, 3) := by decide +kernel
theorem dX2_init_28 : decode cX2_init 28 = .ok (.aload_n 0, 1) := by decide +kernel
theorem dX2_init_29 : decode cX2_init 29 = .ok (.bipush 8, 2) := by decide +kernel
theorem dX2_init_31 : decode cX2_init 31 = .ok (.newarray .int, 2) := by decide +kernel
theorem dX2_init_33 : decode cX2_init 33 = .ok (.putfield 21, 3) := by decide +kernel
theorem dX2_init_36 : decode cX2_init 36 = .ok (.aload_n 0, 1) := by decide +kernel
theorem dX2_init_37 : decode cX2_init 37 = .ok (.bipush 8, 2) := by decide +kernel
theorem dX2_init_39 : decode cX2_init 39 = .ok (.newarray .int, 2) := by decide +kernel
theorem dX2_init_41 : decode cX2_init 41 = .ok (.putfield 24, 3) := by decide +kernel
theorem dX2_init_44 : decode cX2_init 44 = .ok (.return_, 1) := by decide +kernel
theorem dX2_readErrand_0 : decode cX2_readErrand 0 = .ok (.aload_n 0, 1) := by decide +kernel
theorem dX2_readErrand_1 : decode cX2_readErrand 1 = .ok (.getfield 9, 3) := by decide +kernel
theorem dX2_readErrand_4 : decode cX2_readErrand 4 = .ok (.iload_n 2, 1) := by decide +kernel
theorem dX2_readErrand_5 : decode cX2_readErrand 5 = .ok (.aload_n 1, 1) := by decide +kernel
theorem dX2_readErrand_6 : decode cX2_readErrand 6 = .ok (.bipush 97, 2) := by decide +kernel
theorem dX2_readErrand_8 : decode cX2_readErrand 8 = .ok (.iload_n 3, 1) := by decide +kernel
theorem dX2_readErrand_9 : decode cX2_readErrand 9 = .ok (.invokevirtual 27, 3) := by decide +kernel
theorem dX2_readErrand_12 : decode cX2_readErrand 12 = .ok (.iastore, 1) := by decide +kernel
theorem dX2_readErrand_13 : decode cX2_readErrand 13 = .ok (.aload_n 0, 1) := by decide +kernel
theorem dX2_readErrand_14 : decode cX2_readErrand 14 = .ok (.getfield 9, 3) := by decide +kernel
theorem dX2_readErrand_17 : decode cX2_readErrand 17 = .ok (.iload_n 2, 1) := by decide +kernel
theorem dX2_readErrand_18 : decode cX2_readErrand 18 = .ok (.iaload, 1) := by decide +kernel
theorem dX2_readErrand_19 : decode cX2_readErrand 19 = .ok (.ifCond .ge 5, 3) := by decide +kernel
theorem dX2_readErrand_22 : decode cX2_readErrand 22 = .ok (.iconst 0, 1) := by decide +kernel
theorem dX2_readErrand_23 : decode cX2_readErrand 23 = .ok (.ireturn, 1) := by decide +kernel
theorem dX2_readErrand_24 : decode cX2_readErrand 24 = .ok (.aload_n 0, 1) := by decide +kernel
theorem dX2_readErrand_25 : decode cX2_readErrand 25 = .ok (.getfield 15, 3) := by decide +kernel
theorem dX2_readErrand_28 : decode cX2_readErrand 28 = .ok (.iload_n 2, 1) := by decide +kernel
theorem dX2_readErrand_29 : decode cX2_readErrand 29 = .ok (.aload_n 1, 1) := by decide +kernel
theorem dX2_readErrand_30 : decode cX2_readErrand 30 = .ok (.bipush 48, 2) := by decide +kernel
theorem dX2_readErrand_32 : decode cX2_readErrand 32 = .ok (.bipush 10, 2) := by decide +kernel
theorem dX2_readErrand_34 : decode cX2_readErrand 34 = .ok (.invokevirtual 27, 3) := by decide +kernel
theorem dX2_readErrand_37 : decode cX2_readErrand 37 = .ok (.iastore, 1) := by decide +kernel
theorem dX2_readErrand_38 : decode cX2_readErrand 38 = .ok (.aload_n 0, 1) := by decide +kernel
theorem dX2_readErrand_39 : decode cX2_readErrand 39 = .ok (.getfield 15, 3) := by decide +kernel
theorem dX2_readErrand_42 : decode cX2_readErrand 42 = .ok (.iload_n 2, 1) := by decide +kernel
theorem dX2_readErrand_43 : decode cX2_readErrand 43 = .ok (.iaload, 1) := by decide +kernel
theorem dX2_readErrand_44 : decode cX2_readErrand 44 = .ok (.ifCond .ge 5, 3) := by decide +kernel
theorem dX2_readErrand_47 : decode cX2_readErrand 47 = .ok (.iconst 0, 1) := by decide +kernel
theorem dX2_readErrand_48 : decode cX2_readErrand 48 = .ok (.ireturn, 1) := by decide +kernel
theorem dX2_readErrand_49 : decode cX2_readErrand 49 = .ok (.aload_n 0, 1) := by decide +kernel
theorem dX2_readErrand_50 : decode cX2_readErrand 50 = .ok (.getfield 18, 3) := by decide +kernel
theorem dX2_readErrand_53 : decode cX2_readErrand 53 = .ok (.iload_n 2, 1) := by decide +kernel
theorem dX2_readErrand_54 : decode cX2_readErrand 54 = .ok (.aload_n 1, 1) := by decide +kernel
theorem dX2_readErrand_55 : decode cX2_readErrand 55 = .ok (.bipush 48, 2) := by decide +kernel
theorem dX2_readErrand_57 : decode cX2_readErrand 57 = .ok (.iload 4, 2) := by decide +kernel
theorem dX2_readErrand_59 : decode cX2_readErrand 59 = .ok (.invokevirtual 27, 3) := by decide +kernel
theorem dX2_readErrand_62 : decode cX2_readErrand 62 = .ok (.iastore, 1) := by decide +kernel
theorem dX2_readErrand_63 : decode cX2_readErrand 63 = .ok (.aload_n 0, 1) := by decide +kernel
theorem dX2_readErrand_64 : decode cX2_readErrand 64 = .ok (.getfield 18, 3) := by decide +kernel
theorem dX2_readErrand_67 : decode cX2_readErrand 67 = .ok (.iload_n 2, 1) := by decide +kernel
theorem dX2_readErrand_68 : decode cX2_readErrand 68 = .ok (.iaload, 1) := by decide +kernel
theorem dX2_readErrand_69 : decode cX2_readErrand 69 = .ok (.ifCond .lt 12, 3) := by decide +kernel
theorem dX2_readErrand_72 : decode cX2_readErrand 72 = .ok (.aload_n 1, 1) := by decide +kernel
theorem dX2_readErrand_73 : decode cX2_readErrand 73 = .ok (.bipush 61, 2) := by decide +kernel
theorem dX2_readErrand_75 : decode cX2_readErrand 75 = .ok (.invokevirtual 33, 3) := by decide +kernel
theorem dX2_readErrand_78 : decode cX2_readErrand 78 = .ok (.ifCond .ne 5, 3) := by decide +kernel
theorem dX2_readErrand_81 : decode cX2_readErrand 81 = .ok (.iconst 0, 1) := by decide +kernel
theorem dX2_readErrand_82 : decode cX2_readErrand 82 = .ok (.ireturn, 1) := by decide +kernel
theorem dX2_readErrand_83 : decode cX2_readErrand 83 = .ok (.aload_n 0, 1) := by decide +kernel
theorem dX2_readErrand_84 : decode cX2_readErrand 84 = .ok (.getfield 21, 3) := by decide +kernel
theorem dX2_readErrand_87 : decode cX2_readErrand 87 = .ok (.iload_n 2, 1) := by decide +kernel
theorem dX2_readErrand_88 : decode cX2_readErrand 88 = .ok (.aload_n 1, 1) := by decide +kernel
theorem dX2_readErrand_89 : decode cX2_readErrand 89 = .ok (.iconst 2, 1) := by decide +kernel
theorem dX2_readErrand_90 : decode cX2_readErrand 90 = .ok (.invokevirtual 37, 3) := by decide +kernel
theorem dX2_readErrand_93 : decode cX2_readErrand 93 = .ok (.iastore, 1) := by decide +kernel
theorem dX2_readErrand_94 : decode cX2_readErrand 94 = .ok (.aload_n 0, 1) := by decide +kernel
theorem dX2_readErrand_95 : decode cX2_readErrand 95 = .ok (.getfield 21, 3) := by decide +kernel
theorem dX2_readErrand_98 : decode cX2_readErrand 98 = .ok (.iload_n 2, 1) := by decide +kernel
theorem dX2_readErrand_99 : decode cX2_readErrand 99 = .ok (.iaload, 1) := by decide +kernel
theorem dX2_readErrand_100 : decode cX2_readErrand 100 = .ok (.ifCond .lt 7, 3) := by decide +kernel
theorem dX2_readErrand_103 : decode cX2_readErrand 103 = .ok (.iconst 1, 1) := by decide +kernel
theorem dX2_readErrand_104 : decode cX2_readErrand 104 = .ok (.goto 4, 3) := by decide +kernel
theorem dX2_readErrand_107 : decode cX2_readErrand 107 = .ok (.iconst 0, 1) := by decide +kernel
theorem dX2_readErrand_108 : decode cX2_readErrand 108 = .ok (.ireturn, 1) := by decide +kernel
theorem dX2_of_0 : decode cX2_of 0 = .ok (.iconst 0, 1) := by decide +kernel
theorem dX2_of_1 : decode cX2_of 1 = .ok (.istore_n 2, 1) := by decide +kernel
theorem dX2_of_2 : decode cX2_of 2 = .ok (.iconst 0, 1) := by decide +kernel
theorem dX2_of_3 : decode cX2_of 3 = .ok (.istore_n 3, 1) := by decide +kernel
theorem dX2_of_4 : decode cX2_of 4 = .ok (.iload_n 3, 1) := by decide +kernel
theorem dX2_of_5 : decode cX2_of 5 = .ok (.aload_n 0, 1) := by decide +kernel
theorem dX2_of_6 : decode cX2_of 6 = .ok (.getfield 41, 3) := by decide +kernel
theorem dX2_of_9 : decode cX2_of 9 = .ok (.if_icmp .ge 25, 3) := by decide +kernel
theorem dX2_of_12 : decode cX2_of 12 = .ok (.aload_n 0, 1) := by decide +kernel
theorem dX2_of_13 : decode cX2_of 13 = .ok (.getfield 9, 3) := by decide +kernel
theorem dX2_of_16 : decode cX2_of 16 = .ok (.iload_n 3, 1) := by decide +kernel
theorem dX2_of_17 : decode cX2_of 17 = .ok (.iaload, 1) := by decide +kernel
theorem dX2_of_18 : decode cX2_of 18 = .ok (.iload_n 1, 1) := by decide +kernel
theorem dX2_of_19 : decode cX2_of 19 = .ok (.if_icmp .ne 9, 3) := by decide +kernel
theorem dX2_of_22 : decode cX2_of 22 = .ok (.iload_n 2, 1) := by decide +kernel
theorem dX2_of_23 : decode cX2_of 23 = .ok (.iconst 1, 1) := by decide +kernel
theorem dX2_of_24 : decode cX2_of 24 = .ok (.iload_n 3, 1) := by decide +kernel
theorem dX2_of_25 : decode cX2_of 25 = .ok (.ishl, 1) := by decide +kernel
theorem dX2_of_26 : decode cX2_of 26 = .ok (.ior, 1) := by decide +kernel
theorem dX2_of_27 : decode cX2_of 27 = .ok (.istore_n 2, 1) := by decide +kernel
theorem dX2_of_28 : decode cX2_of 28 = .ok (.iinc 3 1, 3) := by decide +kernel
theorem dX2_of_31 : decode cX2_of 31 = .ok (.goto (-27), 3) := by decide +kernel
theorem dX2_of_34 : decode cX2_of 34 = .ok (.iload_n 2, 1) := by decide +kernel
theorem dX2_of_35 : decode cX2_of 35 = .ok (.ireturn, 1) := by decide +kernel
theorem dX2_at_0 : decode cX2_at 0 = .ok (.iconst 0, 1) := by decide +kernel
theorem dX2_at_1 : decode cX2_at 1 = .ok (.istore_n 2, 1) := by decide +kernel
theorem dX2_at_2 : decode cX2_at 2 = .ok (.iconst 0, 1) := by decide +kernel
theorem dX2_at_3 : decode cX2_at 3 = .ok (.istore_n 3, 1) := by decide +kernel
theorem dX2_at_4 : decode cX2_at 4 = .ok (.iload_n 3, 1) := by decide +kernel
theorem dX2_at_5 : decode cX2_at 5 = .ok (.aload_n 0, 1) := by decide +kernel
theorem dX2_at_6 : decode cX2_at 6 = .ok (.getfield 41, 3) := by decide +kernel
theorem dX2_at_9 : decode cX2_at 9 = .ok (.if_icmp .ge 25, 3) := by decide +kernel
theorem dX2_at_12 : decode cX2_at 12 = .ok (.aload_n 0, 1) := by decide +kernel
theorem dX2_at_13 : decode cX2_at 13 = .ok (.getfield 18, 3) := by decide +kernel
theorem dX2_at_16 : decode cX2_at 16 = .ok (.iload_n 3, 1) := by decide +kernel
theorem dX2_at_17 : decode cX2_at 17 = .ok (.iaload, 1) := by decide +kernel
theorem dX2_at_18 : decode cX2_at 18 = .ok (.iload_n 1, 1) := by decide +kernel
theorem dX2_at_19 : decode cX2_at 19 = .ok (.if_icmp .ne 9, 3) := by decide +kernel
theorem dX2_at_22 : decode cX2_at 22 = .ok (.iload_n 2, 1) := by decide +kernel
theorem dX2_at_23 : decode cX2_at 23 = .ok (.iconst 1, 1) := by decide +kernel
theorem dX2_at_24 : decode cX2_at 24 = .ok (.iload_n 3, 1) := by decide +kernel
theorem dX2_at_25 : decode cX2_at 25 = .ok (.ishl, 1) := by decide +kernel
theorem dX2_at_26 : decode cX2_at 26 = .ok (.ior, 1) := by decide +kernel
theorem dX2_at_27 : decode cX2_at 27 = .ok (.istore_n 2, 1) := by decide +kernel
theorem dX2_at_28 : decode cX2_at 28 = .ok (.iinc 3 1, 3) := by decide +kernel
theorem dX2_at_31 : decode cX2_at 31 = .ok (.goto (-27), 3) := by decide +kernel
theorem dX2_at_34 : decode cX2_at 34 = .ok (.iload_n 2, 1) := by decide +kernel
theorem dX2_at_35 : decode cX2_at 35 = .ok (.ireturn, 1) := by decide +kernel
theorem dX2_metBy_0 : decode cX2_metBy 0 = .ok (.iconst 0, 1) := by decide +kernel
theorem dX2_metBy_1 : decode cX2_metBy 1 = .ok (.istore 4, 2) := by decide +kernel
theorem dX2_metBy_3 : decode cX2_metBy 3 = .ok (.iconst 0, 1) := by decide +kernel
theorem dX2_metBy_4 : decode cX2_metBy 4 = .ok (.istore 5, 2) := by decide +kernel
theorem dX2_metBy_6 : decode cX2_metBy 6 = .ok (.iload 5, 2) := by decide +kernel
theorem dX2_metBy_8 : decode cX2_metBy 8 = .ok (.aload_n 0, 1) := by decide +kernel
theorem dX2_metBy_9 : decode cX2_metBy 9 = .ok (.getfield 41, 3) := by decide +kernel
theorem dX2_metBy_12 : decode cX2_metBy 12 = .ok (.if_icmp .ge 44, 3) := by decide +kernel
theorem dX2_metBy_15 : decode cX2_metBy 15 = .ok (.aload_n 0, 1) := by decide +kernel
theorem dX2_metBy_16 : decode cX2_metBy 16 = .ok (.getfield 18, 3) := by decide +kernel
theorem dX2_metBy_19 : decode cX2_metBy 19 = .ok (.iload 5, 2) := by decide +kernel
theorem dX2_metBy_21 : decode cX2_metBy 21 = .ok (.iaload, 1) := by decide +kernel
theorem dX2_metBy_22 : decode cX2_metBy 22 = .ok (.iload_n 3, 1) := by decide +kernel
theorem dX2_metBy_23 : decode cX2_metBy 23 = .ok (.if_icmp .ne 27, 3) := by decide +kernel
theorem dX2_metBy_26 : decode cX2_metBy 26 = .ok (.aload_n 1, 1) := by decide +kernel
theorem dX2_metBy_27 : decode cX2_metBy 27 = .ok (.iload_n 2, 1) := by decide +kernel
theorem dX2_metBy_28 : decode cX2_metBy 28 = .ok (.aload_n 0, 1) := by decide +kernel
theorem dX2_metBy_29 : decode cX2_metBy 29 = .ok (.getfield 15, 3) := by decide +kernel
theorem dX2_metBy_32 : decode cX2_metBy 32 = .ok (.iload 5, 2) := by decide +kernel
theorem dX2_metBy_34 : decode cX2_metBy 34 = .ok (.iaload, 1) := by decide +kernel
theorem dX2_metBy_35 : decode cX2_metBy 35 = .ok (.invokevirtual 45, 3) := by decide +kernel
theorem dX2_metBy_38 : decode cX2_metBy 38 = .ok (.ifCond .eq 12, 3) := by decide +kernel
theorem dX2_metBy_41 : decode cX2_metBy 41 = .ok (.iload 4, 2) := by decide +kernel
theorem dX2_metBy_43 : decode cX2_metBy 43 = .ok (.iconst 1, 1) := by decide +kernel
theorem dX2_metBy_44 : decode cX2_metBy 44 = .ok (.iload 5, 2) := by decide +kernel
theorem dX2_metBy_46 : decode cX2_metBy 46 = .ok (.ishl, 1) := by decide +kernel
theorem dX2_metBy_47 : decode cX2_metBy 47 = .ok (.ior, 1) := by decide +kernel
theorem dX2_metBy_48 : decode cX2_metBy 48 = .ok (.istore 4, 2) := by decide +kernel
theorem dX2_metBy_50 : decode cX2_metBy 50 = .ok (.iinc 5 1, 3) := by decide +kernel
theorem dX2_metBy_53 : decode cX2_metBy 53 = .ok (.goto (-47), 3) := by decide +kernel
theorem dX2_metBy_56 : decode cX2_metBy 56 = .ok (.iload 4, 2) := by decide +kernel
theorem dX2_metBy_58 : decode cX2_metBy 58 = .ok (.ireturn, 1) := by decide +kernel
theorem dX2_firstOf_0 : decode cX2_firstOf 0 = .ok (.iconst 0, 1) := by decide +kernel
theorem dX2_firstOf_1 : decode cX2_firstOf 1 = .ok (.istore_n 2, 1) := by decide +kernel
theorem dX2_firstOf_2 : decode cX2_firstOf 2 = .ok (.iload_n 2, 1) := by decide +kernel
theorem dX2_firstOf_3 : decode cX2_firstOf 3 = .ok (.aload_n 0, 1) := by decide +kernel
theorem dX2_firstOf_4 : decode cX2_firstOf 4 = .ok (.getfield 41, 3) := by decide +kernel
theorem dX2_firstOf_7 : decode cX2_firstOf 7 = .ok (.if_icmp .ge 20, 3) := by decide +kernel
theorem dX2_firstOf_10 : decode cX2_firstOf 10 = .ok (.iload_n 1, 1) := by decide +kernel
theorem dX2_firstOf_11 : decode cX2_firstOf 11 = .ok (.iload_n 2, 1) := by decide +kernel
theorem dX2_firstOf_12 : decode cX2_firstOf 12 = .ok (.ishr, 1) := by decide +kernel
theorem dX2_firstOf_13 : decode cX2_firstOf 13 = .ok (.iconst 1, 1) := by decide +kernel
theorem dX2_firstOf_14 : decode cX2_firstOf 14 = .ok (.iand, 1) := by decide +kernel
theorem dX2_firstOf_15 : decode cX2_firstOf 15 = .ok (.iconst 1, 1) := by decide +kernel
theorem dX2_firstOf_16 : decode cX2_firstOf 16 = .ok (.if_icmp .ne 5, 3) := by decide +kernel
theorem dX2_firstOf_19 : decode cX2_firstOf 19 = .ok (.iload_n 2, 1) := by decide +kernel
theorem dX2_firstOf_20 : decode cX2_firstOf 20 = .ok (.ireturn, 1) := by decide +kernel
theorem dX2_firstOf_21 : decode cX2_firstOf 21 = .ok (.iinc 2 1, 3) := by decide +kernel
theorem dX2_firstOf_24 : decode cX2_firstOf 24 = .ok (.goto (-22), 3) := by decide +kernel
theorem dX2_firstOf_27 : decode cX2_firstOf 27 = .ok (.iconst 0, 1) := by decide +kernel
theorem dX2_firstOf_28 : decode cX2_firstOf 28 = .ok (.ireturn, 1) := by decide +kernel
theorem dX2_sumOf_0 : decode cX2_sumOf 0 = .ok (.iconst 0, 1) := by decide +kernel
theorem dX2_sumOf_1 : decode cX2_sumOf 1 = .ok (.istore_n 3, 1) := by decide +kernel
theorem dX2_sumOf_2 : decode cX2_sumOf 2 = .ok (.iconst 0, 1) := by decide +kernel
theorem dX2_sumOf_3 : decode cX2_sumOf 3 = .ok (.istore 4, 2) := by decide +kernel
theorem dX2_sumOf_5 : decode cX2_sumOf 5 = .ok (.iload 4, 2) := by decide +kernel
theorem dX2_sumOf_7 : decode cX2_sumOf 7 = .ok (.aload_n 0, 1) := by decide +kernel
theorem dX2_sumOf_8 : decode cX2_sumOf 8 = .ok (.getfield 41, 3) := by decide +kernel
theorem dX2_sumOf_11 : decode cX2_sumOf 11 = .ok (.if_icmp .ge 23, 3) := by decide +kernel
theorem dX2_sumOf_14 : decode cX2_sumOf 14 = .ok (.iload_n 3, 1) := by decide +kernel
theorem dX2_sumOf_15 : decode cX2_sumOf 15 = .ok (.iload_n 2, 1) := by decide +kernel
theorem dX2_sumOf_16 : decode cX2_sumOf 16 = .ok (.iload 4, 2) := by decide +kernel
theorem dX2_sumOf_18 : decode cX2_sumOf 18 = .ok (.ishr, 1) := by decide +kernel
theorem dX2_sumOf_19 : decode cX2_sumOf 19 = .ok (.iconst 1, 1) := by decide +kernel
theorem dX2_sumOf_20 : decode cX2_sumOf 20 = .ok (.iand, 1) := by decide +kernel
theorem dX2_sumOf_21 : decode cX2_sumOf 21 = .ok (.aload_n 1, 1) := by decide +kernel
theorem dX2_sumOf_22 : decode cX2_sumOf 22 = .ok (.iload 4, 2) := by decide +kernel
theorem dX2_sumOf_24 : decode cX2_sumOf 24 = .ok (.iaload, 1) := by decide +kernel
theorem dX2_sumOf_25 : decode cX2_sumOf 25 = .ok (.imul, 1) := by decide +kernel
theorem dX2_sumOf_26 : decode cX2_sumOf 26 = .ok (.iadd, 1) := by decide +kernel
theorem dX2_sumOf_27 : decode cX2_sumOf 27 = .ok (.istore_n 3, 1) := by decide +kernel
theorem dX2_sumOf_28 : decode cX2_sumOf 28 = .ok (.iinc 4 1, 3) := by decide +kernel
theorem dX2_sumOf_31 : decode cX2_sumOf 31 = .ok (.goto (-26), 3) := by decide +kernel
theorem dX2_sumOf_34 : decode cX2_sumOf 34 = .ok (.iload_n 3, 1) := by decide +kernel
theorem dX2_sumOf_35 : decode cX2_sumOf 35 = .ok (.ireturn, 1) := by decide +kernel
theorem dX3_init_0 : decode cX3_init 0 = .ok (.aload_n 0, 1) := by decide +kernel
theorem dX3_init_1 : decode cX3_init 1 = .ok (.invokespecial 3, 3) := by decide +kernel
theorem dX3_init_4 : decode cX3_init 4 = .ok (.aload_n 0, 1) := by decide +kernel
theorem dX3_init_5 : decode cX3_init 5 = .ok (.bipush 10, 2) := by decide +kernel
theorem dX3_init_7 : decode cX3_init 7 = .ok (.newarray .int, 2) := by decide +kernel
theorem dX3_init_9 : decode cX3_init 9 = .ok (.putfield 9, 3) := by decide +kernel
theorem dX3_init_12 : decode cX3_init 12 = .ok (.aload_n 0, 1) := by decide +kernel
theorem dX3_init_13 : decode cX3_init 13 = .ok (.bipush 10, 2) := by decide +kernel
theorem dX3_init_15 : decode cX3_init 15 = .ok (.newarray .int, 2) := by decide +kernel
theorem dX3_init_17 : decode cX3_init 17 = .ok (.putfield 15, 3) := by decide +kernel
theorem dX3_init_20 : decode cX3_init 20 = .ok (.aload_n 0, 1) := by decide +kernel
theorem dX3_init_21 : decode cX3_init 21 = .ok (.bipush 10, 2) := by decide +kernel
theorem dX3_init_23 : decode cX3_init 23 = .ok (.newarray .int, 2) := by decide +kernel
theorem dX3_init_25 : decode cX3_init 25 = .ok (.putfield 18, 3) := by decide +kernel
theorem dX3_init_28 : decode cX3_init 28 = .ok (.aload_n 0, 1) := by decide +kernel
theorem dX3_init_29 : decode cX3_init 29 = .ok (.bipush 60, 2) := by decide +kernel
theorem dX3_init_31 : decode cX3_init 31 = .ok (.newarray .int, 2) := by decide +kernel
theorem dX3_init_33 : decode cX3_init 33 = .ok (.putfield 21, 3) := by decide +kernel
theorem dX3_init_36 : decode cX3_init 36 = .ok (.aload_n 0, 1) := by decide +kernel
theorem dX3_init_37 : decode cX3_init 37 = .ok (.bipush 50, 2) := by decide +kernel
theorem dX3_init_39 : decode cX3_init 39 = .ok (.newarray .int, 2) := by decide +kernel
theorem dX3_init_41 : decode cX3_init 41 = .ok (.putfield 24, 3) := by decide +kernel
theorem dX3_init_44 : decode cX3_init 44 = .ok (.aload_n 0, 1) := by decide +kernel
theorem dX3_init_45 : decode cX3_init 45 = .ok (.bipush 10, 2) := by decide +kernel
theorem dX3_init_47 : decode cX3_init 47 = .ok (.newarray .int, 2) := by decide +kernel
theorem dX3_init_49 : decode cX3_init 49 = .ok (.putfield 27, 3) := by decide +kernel
theorem dX3_init_52 : decode cX3_init 52 = .ok (.aload_n 0, 1) := by decide +kernel
theorem dX3_init_53 : decode cX3_init 53 = .ok (.bipush 7, 2) := by decide +kernel
theorem dX3_init_55 : decode cX3_init 55 = .ok (.newarray .int, 2) := by decide +kernel
theorem dX3_init_57 : decode cX3_init 57 = .ok (.putfield 30, 3) := by decide +kernel
theorem dX3_init_60 : decode cX3_init 60 = .ok (.return_, 1) := by decide +kernel
theorem dX3_vowelOf_0 : decode cX3_vowelOf 0 = .ok (.iload_n 0, 1) := by decide +kernel
theorem dX3_vowelOf_1 : decode cX3_vowelOf 1 = .ok (.lookupswitch 61 #[(97, 51), (101, 53), (105, 55), (111, 57), (117, 59)], 51) := by decide +kernel
theorem dX3_vowelOf_52 : decode cX3_vowelOf 52 = .ok (.iconst 0, 1) := by decide +kernel
theorem dX3_vowelOf_53 : decode cX3_vowelOf 53 = .ok (.ireturn, 1) := by decide +kernel
theorem dX3_vowelOf_54 : decode cX3_vowelOf 54 = .ok (.iconst 1, 1) := by decide +kernel
theorem dX3_vowelOf_55 : decode cX3_vowelOf 55 = .ok (.ireturn, 1) := by decide +kernel
theorem dX3_vowelOf_56 : decode cX3_vowelOf 56 = .ok (.iconst 2, 1) := by decide +kernel
theorem dX3_vowelOf_57 : decode cX3_vowelOf 57 = .ok (.ireturn, 1) := by decide +kernel
theorem dX3_vowelOf_58 : decode cX3_vowelOf 58 = .ok (.iconst 3, 1) := by decide +kernel
theorem dX3_vowelOf_59 : decode cX3_vowelOf 59 = .ok (.ireturn, 1) := by decide +kernel
theorem dX3_vowelOf_60 : decode cX3_vowelOf 60 = .ok (.iconst 4, 1) := by decide +kernel
theorem dX3_vowelOf_61 : decode cX3_vowelOf 61 = .ok (.ireturn, 1) := by decide +kernel
theorem dX3_vowelOf_62 : decode cX3_vowelOf 62 = .ok (.iconst (-1), 1) := by decide +kernel
theorem dX3_vowelOf_63 : decode cX3_vowelOf 63 = .ok (.ireturn, 1) := by decide +kernel
theorem dX3_readWord_0 : decode cX3_readWord 0 = .ok (.aload_n 0, 1) := by decide +kernel
theorem dX3_readWord_1 : decode cX3_readWord 1 = .ok (.getfield 15, 3) := by decide +kernel
theorem dX3_readWord_4 : decode cX3_readWord 4 = .ok (.iload_n 2, 1) := by decide +kernel
theorem dX3_readWord_5 : decode cX3_readWord 5 = .ok (.aload_n 1, 1) := by decide +kernel
theorem dX3_readWord_6 : decode cX3_readWord 6 = .ok (.bipush 48, 2) := by decide +kernel
theorem dX3_readWord_8 : decode cX3_readWord 8 = .ok (.bipush 10, 2) := by decide +kernel
theorem dX3_readWord_10 : decode cX3_readWord 10 = .ok (.invokevirtual 33, 3) := by decide +kernel
theorem dX3_readWord_13 : decode cX3_readWord 13 = .ok (.iastore, 1) := by decide +kernel
theorem dX3_readWord_14 : decode cX3_readWord 14 = .ok (.aload_n 0, 1) := by decide +kernel
theorem dX3_readWord_15 : decode cX3_readWord 15 = .ok (.getfield 15, 3) := by decide +kernel
theorem dX3_readWord_18 : decode cX3_readWord 18 = .ok (.iload_n 2, 1) := by decide +kernel
theorem dX3_readWord_19 : decode cX3_readWord 19 = .ok (.iaload, 1) := by decide +kernel
theorem dX3_readWord_20 : decode cX3_readWord 20 = .ok (.ifCond .ge 5, 3) := by decide +kernel
theorem dX3_readWord_23 : decode cX3_readWord 23 = .ok (.iconst 0, 1) := by decide +kernel
theorem dX3_readWord_24 : decode cX3_readWord 24 = .ok (.ireturn, 1) := by decide +kernel
theorem dX3_readWord_25 : decode cX3_readWord 25 = .ok (.aload_n 0, 1) := by decide +kernel
theorem dX3_readWord_26 : decode cX3_readWord 26 = .ok (.getfield 18, 3) := by decide +kernel
theorem dX3_readWord_29 : decode cX3_readWord 29 = .ok (.iload_n 2, 1) := by decide +kernel
theorem dX3_readWord_30 : decode cX3_readWord 30 = .ok (.aload_n 1, 1) := by decide +kernel
theorem dX3_readWord_31 : decode cX3_readWord 31 = .ok (.bipush 48, 2) := by decide +kernel
theorem dX3_readWord_33 : decode cX3_readWord 33 = .ok (.bipush 10, 2) := by decide +kernel
theorem dX3_readWord_35 : decode cX3_readWord 35 = .ok (.invokevirtual 33, 3) := by decide +kernel
theorem dX3_readWord_38 : decode cX3_readWord 38 = .ok (.iastore, 1) := by decide +kernel
theorem dX3_readWord_39 : decode cX3_readWord 39 = .ok (.iconst 0, 1) := by decide +kernel
theorem dX3_readWord_40 : decode cX3_readWord 40 = .ok (.istore_n 3, 1) := by decide +kernel
theorem dX3_readWord_41 : decode cX3_readWord 41 = .ok (.iconst 0, 1) := by decide +kernel
theorem dX3_readWord_42 : decode cX3_readWord 42 = .ok (.istore 4, 2) := by decide +kernel
theorem dX3_readWord_44 : decode cX3_readWord 44 = .ok (.iload 4, 2) := by decide +kernel
theorem dX3_readWord_46 : decode cX3_readWord 46 = .ok (.bipush 6, 2) := by decide +kernel
theorem dX3_readWord_48 : decode cX3_readWord 48 = .ok (.if_icmp .ge 50, 3) := by decide +kernel
theorem dX3_readWord_51 : decode cX3_readWord 51 = .ok (.iload_n 3, 1) := by decide +kernel
theorem dX3_readWord_52 : decode cX3_readWord 52 = .ok (.iload 4, 2) := by decide +kernel
theorem dX3_readWord_54 : decode cX3_readWord 54 = .ok (.if_icmp .ne 44, 3) := by decide +kernel
theorem dX3_readWord_57 : decode cX3_readWord 57 = .ok (.aload_n 1, 1) := by decide +kernel
theorem dX3_readWord_58 : decode cX3_readWord 58 = .ok (.bipush 97, 2) := by decide +kernel
theorem dX3_readWord_60 : decode cX3_readWord 60 = .ok (.bipush 26, 2) := by decide +kernel
theorem dX3_readWord_62 : decode cX3_readWord 62 = .ok (.invokevirtual 33, 3) := by decide +kernel
theorem dX3_readWord_65 : decode cX3_readWord 65 = .ok (.istore 5, 2) := by decide +kernel
theorem dX3_readWord_67 : decode cX3_readWord 67 = .ok (.iload 5, 2) := by decide +kernel
theorem dX3_readWord_69 : decode cX3_readWord 69 = .ok (.ifCond .lt 23, 3) := by decide +kernel
theorem dX3_readWord_72 : decode cX3_readWord 72 = .ok (.aload_n 0, 1) := by decide +kernel
theorem dX3_readWord_73 : decode cX3_readWord 73 = .ok (.getfield 21, 3) := by decide +kernel
theorem dX3_readWord_76 : decode cX3_readWord 76 = .ok (.iload_n 2, 1) := by decide +kernel
theorem dX3_readWord_77 : decode cX3_readWord 77 = .ok (.bipush 6, 2) := by decide +kernel
theorem dX3_readWord_79 : decode cX3_readWord 79 = .ok (.imul, 1) := by decide +kernel
theorem dX3_readWord_80 : decode cX3_readWord 80 = .ok (.iload 4, 2) := by decide +kernel
theorem dX3_readWord_82 : decode cX3_readWord 82 = .ok (.iadd, 1) := by decide +kernel
theorem dX3_readWord_83 : decode cX3_readWord 83 = .ok (.bipush 97, 2) := by decide +kernel
theorem dX3_readWord_85 : decode cX3_readWord 85 = .ok (.iload 5, 2) := by decide +kernel
theorem dX3_readWord_87 : decode cX3_readWord 87 = .ok (.iadd, 1) := by decide +kernel
theorem dX3_readWord_88 : decode cX3_readWord 88 = .ok (.iastore, 1) := by decide +kernel
theorem dX3_readWord_89 : decode cX3_readWord 89 = .ok (.iinc 3 1, 3) := by decide +kernel
theorem dX3_readWord_92 : decode cX3_readWord 92 = .ok (.iinc 4 1, 3) := by decide +kernel
theorem dX3_readWord_95 : decode cX3_readWord 95 = .ok (.goto (-51), 3) := by decide +kernel
theorem dX3_readWord_98 : decode cX3_readWord 98 = .ok (.aload_n 0, 1) := by decide +kernel
theorem dX3_readWord_99 : decode cX3_readWord 99 = .ok (.getfield 9, 3) := by decide +kernel
theorem dX3_readWord_102 : decode cX3_readWord 102 = .ok (.iload_n 2, 1) := by decide +kernel
theorem dX3_readWord_103 : decode cX3_readWord 103 = .ok (.iload_n 3, 1) := by decide +kernel
theorem dX3_readWord_104 : decode cX3_readWord 104 = .ok (.iastore, 1) := by decide +kernel
theorem dX3_readWord_105 : decode cX3_readWord 105 = .ok (.aload_n 0, 1) := by decide +kernel
theorem dX3_readWord_106 : decode cX3_readWord 106 = .ok (.iload_n 2, 1) := by decide +kernel
theorem dX3_readWord_107 : decode cX3_readWord 107 = .ok (.invokevirtual 39, 3) := by decide +kernel
theorem dX3_readWord_110 : decode cX3_readWord 110 = .ok (.iload_n 3, 1) := by decide +kernel
theorem dX3_readWord_111 : decode cX3_readWord 111 = .ok (.ifCond .le 7, 3) := by decide +kernel
theorem dX3_readWord_114 : decode cX3_readWord 114 = .ok (.iconst 1, 1) := by decide +kernel
theorem dX3_readWord_115 : decode cX3_readWord 115 = .ok (.goto 4, 3) := by decide +kernel
theorem dX3_readWord_118 : decode cX3_readWord 118 = .ok (.iconst 0, 1) := by decide +kernel
theorem dX3_readWord_119 : decode cX3_readWord 119 = .ok (.ireturn, 1) := by decide +kernel
theorem dX3_countVowels_0 : decode cX3_countVowels 0 = .ok (.aload_n 0, 1) := by decide +kernel
theorem dX3_countVowels_1 : decode cX3_countVowels 1 = .ok (.getfield 27, 3) := by decide +kernel
theorem dX3_countVowels_4 : decode cX3_countVowels 4 = .ok (.iload_n 1, 1) := by decide +kernel
theorem dX3_countVowels_5 : decode cX3_countVowels 5 = .ok (.iconst 0, 1) := by decide +kernel
theorem dX3_countVowels_6 : decode cX3_countVowels 6 = .ok (.iastore, 1) := by decide +kernel
theorem dX3_countVowels_7 : decode cX3_countVowels 7 = .ok (.iconst 0, 1) := by decide +kernel
theorem dX3_countVowels_8 : decode cX3_countVowels 8 = .ok (.istore_n 2, 1) := by decide +kernel
theorem dX3_countVowels_9 : decode cX3_countVowels 9 = .ok (.iload_n 2, 1) := by decide +kernel
theorem dX3_countVowels_10 : decode cX3_countVowels 10 = .ok (.iconst 5, 1) := by decide +kernel
theorem dX3_countVowels_11 : decode cX3_countVowels 11 = .ok (.if_icmp .ge 20, 3) := by decide +kernel
theorem dX3_countVowels_14 : decode cX3_countVowels 14 = .ok (.aload_n 0, 1) := by decide +kernel
theorem dX3_countVowels_15 : decode cX3_countVowels 15 = .ok (.getfield 24, 3) := by decide +kernel
theorem dX3_countVowels_18 : decode cX3_countVowels 18 = .ok (.iload_n 1, 1) := by decide +kernel
theorem dX3_countVowels_19 : decode cX3_countVowels 19 = .ok (.iconst 5, 1) := by decide +kernel
theorem dX3_countVowels_20 : decode cX3_countVowels 20 = .ok (.imul, 1) := by decide +kernel
theorem dX3_countVowels_21 : decode cX3_countVowels 21 = .ok (.iload_n 2, 1) := by decide +kernel
theorem dX3_countVowels_22 : decode cX3_countVowels 22 = .ok (.iadd, 1) := by decide +kernel
theorem dX3_countVowels_23 : decode cX3_countVowels 23 = .ok (.iconst 0, 1) := by decide +kernel
theorem dX3_countVowels_24 : decode cX3_countVowels 24 = .ok (.iastore, 1) := by decide +kernel
theorem dX3_countVowels_25 : decode cX3_countVowels 25 = .ok (.iinc 2 1, 3) := by decide +kernel
theorem dX3_countVowels_28 : decode cX3_countVowels 28 = .ok (.goto (-19), 3) := by decide +kernel
theorem dX3_countVowels_31 : decode cX3_countVowels 31 = .ok (.iconst 0, 1) := by decide +kernel
theorem dX3_countVowels_32 : decode cX3_countVowels 32 = .ok (.istore_n 2, 1) := by decide +kernel
theorem dX3_countVowels_33 : decode cX3_countVowels 33 = .ok (.iload_n 2, 1) := by decide +kernel
theorem dX3_countVowels_34 : decode cX3_countVowels 34 = .ok (.aload_n 0, 1) := by decide +kernel
theorem dX3_countVowels_35 : decode cX3_countVowels 35 = .ok (.getfield 9, 3) := by decide +kernel
theorem dX3_countVowels_38 : decode cX3_countVowels 38 = .ok (.iload_n 1, 1) := by decide +kernel
theorem dX3_countVowels_39 : decode cX3_countVowels 39 = .ok (.iaload, 1) := by decide +kernel
theorem dX3_countVowels_40 : decode cX3_countVowels 40 = .ok (.if_icmp .ge 47, 3) := by decide +kernel
theorem dX3_countVowels_43 : decode cX3_countVowels 43 = .ok (.aload_n 0, 1) := by decide +kernel
theorem dX3_countVowels_44 : decode cX3_countVowels 44 = .ok (.iload_n 1, 1) := by decide +kernel
theorem dX3_countVowels_45 : decode cX3_countVowels 45 = .ok (.iload_n 2, 1) := by decide +kernel
theorem dX3_countVowels_46 : decode cX3_countVowels 46 = .ok (.invokevirtual 43, 3) := by decide +kernel
theorem dX3_countVowels_49 : decode cX3_countVowels 49 = .ok (.invokestatic 46, 3) := by decide +kernel
theorem dX3_countVowels_52 : decode cX3_countVowels 52 = .ok (.istore_n 3, 1) := by decide +kernel
theorem dX3_countVowels_53 : decode cX3_countVowels 53 = .ok (.iload_n 3, 1) := by decide +kernel
theorem dX3_countVowels_54 : decode cX3_countVowels 54 = .ok (.ifCond .lt 27, 3) := by decide +kernel
theorem dX3_countVowels_57 : decode cX3_countVowels 57 = .ok (.aload_n 0, 1) := by decide +kernel
theorem dX3_countVowels_58 : decode cX3_countVowels 58 = .ok (.getfield 24, 3) := by decide +kernel
theorem dX3_countVowels_61 : decode cX3_countVowels 61 = .ok (.iload_n 1, 1) := by decide +kernel
theorem dX3_countVowels_62 : decode cX3_countVowels 62 = .ok (.iconst 5, 1) := by decide +kernel
theorem dX3_countVowels_63 : decode cX3_countVowels 63 = .ok (.imul, 1) := by decide +kernel
theorem dX3_countVowels_64 : decode cX3_countVowels 64 = .ok (.iload_n 3, 1) := by decide +kernel
theorem dX3_countVowels_65 : decode cX3_countVowels 65 = .ok (.iadd, 1) := by decide +kernel
theorem dX3_countVowels_66 : decode cX3_countVowels 66 = .ok (.dup2, 1) := by decide +kernel
theorem dX3_countVowels_67 : decode cX3_countVowels 67 = .ok (.iaload, 1) := by decide +kernel
theorem dX3_countVowels_68 : decode cX3_countVowels 68 = .ok (.iconst 1, 1) := by decide +kernel
theorem dX3_countVowels_69 : decode cX3_countVowels 69 = .ok (.iadd, 1) := by decide +kernel
theorem dX3_countVowels_70 : decode cX3_countVowels 70 = .ok (.iastore, 1) := by decide +kernel
theorem dX3_countVowels_71 : decode cX3_countVowels 71 = .ok (.aload_n 0, 1) := by decide +kernel
theorem dX3_countVowels_72 : decode cX3_countVowels 72 = .ok (.getfield 27, 3) := by decide +kernel
theorem dX3_countVowels_75 : decode cX3_countVowels 75 = .ok (.iload_n 1, 1) := by decide +kernel
theorem dX3_countVowels_76 : decode cX3_countVowels 76 = .ok (.dup2, 1) := by decide +kernel
theorem dX3_countVowels_77 : decode cX3_countVowels 77 = .ok (.iaload, 1) := by decide +kernel
theorem dX3_countVowels_78 : decode cX3_countVowels 78 = .ok (.iconst 1, 1) := by decide +kernel
theorem dX3_countVowels_79 : decode cX3_countVowels 79 = .ok (.iadd, 1) := by decide +kernel
theorem dX3_countVowels_80 : decode cX3_countVowels 80 = .ok (.iastore, 1) := by decide +kernel
theorem dX3_countVowels_81 : decode cX3_countVowels 81 = .ok (.iinc 2 1, 3) := by decide +kernel
theorem dX3_countVowels_84 : decode cX3_countVowels 84 = .ok (.goto (-51), 3) := by decide +kernel
theorem dX3_countVowels_87 : decode cX3_countVowels 87 = .ok (.return_, 1) := by decide +kernel
theorem dX3_letter_0 : decode cX3_letter 0 = .ok (.aload_n 0, 1) := by decide +kernel
theorem dX3_letter_1 : decode cX3_letter 1 = .ok (.getfield 21, 3) := by decide +kernel
theorem dX3_letter_4 : decode cX3_letter 4 = .ok (.iload_n 1, 1) := by decide +kernel
theorem dX3_letter_5 : decode cX3_letter 5 = .ok (.bipush 6, 2) := by decide +kernel
theorem dX3_letter_7 : decode cX3_letter 7 = .ok (.imul, 1) := by decide +kernel
theorem dX3_letter_8 : decode cX3_letter 8 = .ok (.iload_n 2, 1) := by decide +kernel
theorem dX3_letter_9 : decode cX3_letter 9 = .ok (.iadd, 1) := by decide +kernel
theorem dX3_letter_10 : decode cX3_letter 10 = .ok (.iaload, 1) := by decide +kernel
theorem dX3_letter_11 : decode cX3_letter 11 = .ok (.ireturn, 1) := by decide +kernel
theorem dX3_heardIn_0 : decode cX3_heardIn 0 = .ok (.aload_n 0, 1) := by decide +kernel
theorem dX3_heardIn_1 : decode cX3_heardIn 1 = .ok (.getfield 24, 3) := by decide +kernel
theorem dX3_heardIn_4 : decode cX3_heardIn 4 = .ok (.iload_n 1, 1) := by decide +kernel
theorem dX3_heardIn_5 : decode cX3_heardIn 5 = .ok (.iconst 5, 1) := by decide +kernel
theorem dX3_heardIn_6 : decode cX3_heardIn 6 = .ok (.imul, 1) := by decide +kernel
theorem dX3_heardIn_7 : decode cX3_heardIn 7 = .ok (.iload_n 2, 1) := by decide +kernel
theorem dX3_heardIn_8 : decode cX3_heardIn 8 = .ok (.iadd, 1) := by decide +kernel
theorem dX3_heardIn_9 : decode cX3_heardIn 9 = .ok (.iaload, 1) := by decide +kernel
theorem dX3_heardIn_10 : decode cX3_heardIn 10 = .ok (.ireturn, 1) := by decide +kernel
theorem dX3_vowelsOf_0 : decode cX3_vowelsOf 0 = .ok (.aload_n 0, 1) := by decide +kernel
theorem dX3_vowelsOf_1 : decode cX3_vowelsOf 1 = .ok (.getfield 27, 3) := by decide +kernel
theorem dX3_vowelsOf_4 : decode cX3_vowelsOf 4 = .ok (.iload_n 1, 1) := by decide +kernel
theorem dX3_vowelsOf_5 : decode cX3_vowelsOf 5 = .ok (.iaload, 1) := by decide +kernel
theorem dX3_vowelsOf_6 : decode cX3_vowelsOf 6 = .ok (.ireturn, 1) := by decide +kernel
theorem dX3_means_0 : decode cX3_means 0 = .ok (.aload_n 0, 1) := by decide +kernel
theorem dX3_means_1 : decode cX3_means 1 = .ok (.getfield 15, 3) := by decide +kernel
theorem dX3_means_4 : decode cX3_means 4 = .ok (.iload_n 1, 1) := by decide +kernel
theorem dX3_means_5 : decode cX3_means 5 = .ok (.iaload, 1) := by decide +kernel
theorem dX3_means_6 : decode cX3_means 6 = .ok (.iload_n 2, 1) := by decide +kernel
theorem dX3_means_7 : decode cX3_means 7 = .ok (.if_icmp .eq 13, 3) := by decide +kernel
theorem dX3_means_10 : decode cX3_means 10 = .ok (.aload_n 0, 1) := by decide +kernel
theorem dX3_means_11 : decode cX3_means 11 = .ok (.getfield 18, 3) := by decide +kernel
theorem dX3_means_14 : decode cX3_means 14 = .ok (.iload_n 1, 1) := by decide +kernel
theorem dX3_means_15 : decode cX3_means 15 = .ok (.iaload, 1) := by decide +kernel
theorem dX3_means_16 : decode cX3_means 16 = .ok (.iload_n 2, 1) := by decide +kernel
theorem dX3_means_17 : decode cX3_means 17 = .ok (.if_icmp .ne 7, 3) := by decide +kernel
theorem dX3_means_20 : decode cX3_means 20 = .ok (.iconst 1, 1) := by decide +kernel
theorem dX3_means_21 : decode cX3_means 21 = .ok (.goto 4, 3) := by decide +kernel
theorem dX3_means_24 : decode cX3_means 24 = .ok (.iconst 0, 1) := by decide +kernel
theorem dX3_means_25 : decode cX3_means 25 = .ok (.ireturn, 1) := by decide +kernel
theorem dX3_isCompound_0 : decode cX3_isCompound 0 = .ok (.aload_n 0, 1) := by decide +kernel
theorem dX3_isCompound_1 : decode cX3_isCompound 1 = .ok (.getfield 18, 3) := by decide +kernel
theorem dX3_isCompound_4 : decode cX3_isCompound 4 = .ok (.iload_n 1, 1) := by decide +kernel
theorem dX3_isCompound_5 : decode cX3_isCompound 5 = .ok (.iaload, 1) := by decide +kernel
theorem dX3_isCompound_6 : decode cX3_isCompound 6 = .ok (.iconst (-1), 1) := by decide +kernel
theorem dX3_isCompound_7 : decode cX3_isCompound 7 = .ok (.if_icmp .eq 7, 3) := by decide +kernel
theorem dX3_isCompound_10 : decode cX3_isCompound 10 = .ok (.iconst 1, 1) := by decide +kernel
theorem dX3_isCompound_11 : decode cX3_isCompound 11 = .ok (.goto 4, 3) := by decide +kernel
theorem dX3_isCompound_14 : decode cX3_isCompound 14 = .ok (.iconst 0, 1) := by decide +kernel
theorem dX3_isCompound_15 : decode cX3_isCompound 15 = .ok (.ireturn, 1) := by decide +kernel
theorem dX3_shareMeaning_0 : decode cX3_shareMeaning 0 = .ok (.aload_n 0, 1) := by decide +kernel
theorem dX3_shareMeaning_1 : decode cX3_shareMeaning 1 = .ok (.iload_n 1, 1) := by decide +kernel
theorem dX3_shareMeaning_2 : decode cX3_shareMeaning 2 = .ok (.aload_n 0, 1) := by decide +kernel
theorem dX3_shareMeaning_3 : decode cX3_shareMeaning 3 = .ok (.getfield 15, 3) := by decide +kernel
theorem dX3_shareMeaning_6 : decode cX3_shareMeaning 6 = .ok (.iload_n 2, 1) := by decide +kernel
theorem dX3_shareMeaning_7 : decode cX3_shareMeaning 7 = .ok (.iaload, 1) := by decide +kernel
theorem dX3_shareMeaning_8 : decode cX3_shareMeaning 8 = .ok (.invokevirtual 50, 3) := by decide +kernel
theorem dX3_shareMeaning_11 : decode cX3_shareMeaning 11 = .ok (.ifCond .ne 25, 3) := by decide +kernel
theorem dX3_shareMeaning_14 : decode cX3_shareMeaning 14 = .ok (.aload_n 0, 1) := by decide +kernel
theorem dX3_shareMeaning_15 : decode cX3_shareMeaning 15 = .ok (.iload_n 2, 1) := by decide +kernel
theorem dX3_shareMeaning_16 : decode cX3_shareMeaning 16 = .ok (.invokevirtual 54, 3) := by decide +kernel
theorem dX3_shareMeaning_19 : decode cX3_shareMeaning 19 = .ok (.ifCond .eq 21, 3) := by decide +kernel
theorem dX3_shareMeaning_22 : decode cX3_shareMeaning 22 = .ok (.aload_n 0, 1) := by decide +kernel
theorem dX3_shareMeaning_23 : decode cX3_shareMeaning 23 = .ok (.iload_n 1, 1) := by decide +kernel
theorem dX3_shareMeaning_24 : decode cX3_shareMeaning 24 = .ok (.aload_n 0, 1) := by decide +kernel
theorem dX3_shareMeaning_25 : decode cX3_shareMeaning 25 = .ok (.getfield 18, 3) := by decide +kernel
theorem dX3_shareMeaning_28 : decode cX3_shareMeaning 28 = .ok (.iload_n 2, 1) := by decide +kernel
theorem dX3_shareMeaning_29 : decode cX3_shareMeaning 29 = .ok (.iaload, 1) := by decide +kernel
theorem dX3_shareMeaning_30 : decode cX3_shareMeaning 30 = .ok (.invokevirtual 50, 3) := by decide +kernel
theorem dX3_shareMeaning_33 : decode cX3_shareMeaning 33 = .ok (.ifCond .eq 7, 3) := by decide +kernel
theorem dX3_shareMeaning_36 : decode cX3_shareMeaning 36 = .ok (.iconst 1, 1) := by decide +kernel
theorem dX3_shareMeaning_37 : decode cX3_shareMeaning 37 = .ok (.goto 4, 3) := by decide +kernel
theorem dX3_shareMeaning_40 : decode cX3_shareMeaning 40 = .ok (.iconst 0, 1) := by decide +kernel
theorem dX3_shareMeaning_41 : decode cX3_shareMeaning 41 = .ok (.ireturn, 1) := by decide +kernel
theorem dX3_meaningCount_0 : decode cX3_meaningCount 0 = .ok (.iconst 0, 1) := by decide +kernel
theorem dX3_meaningCount_1 : decode cX3_meaningCount 1 = .ok (.istore_n 2, 1) := by decide +kernel
theorem dX3_meaningCount_2 : decode cX3_meaningCount 2 = .ok (.iconst 0, 1) := by decide +kernel
theorem dX3_meaningCount_3 : decode cX3_meaningCount 3 = .ok (.istore_n 3, 1) := by decide +kernel
theorem dX3_meaningCount_4 : decode cX3_meaningCount 4 = .ok (.iload_n 3, 1) := by decide +kernel
theorem dX3_meaningCount_5 : decode cX3_meaningCount 5 = .ok (.aload_n 0, 1) := by decide +kernel
theorem dX3_meaningCount_6 : decode cX3_meaningCount 6 = .ok (.getfield 58, 3) := by decide +kernel
theorem dX3_meaningCount_9 : decode cX3_meaningCount 9 = .ok (.if_icmp .ge 21, 3) := by decide +kernel
theorem dX3_meaningCount_12 : decode cX3_meaningCount 12 = .ok (.aload_n 0, 1) := by decide +kernel
theorem dX3_meaningCount_13 : decode cX3_meaningCount 13 = .ok (.iload_n 3, 1) := by decide +kernel
theorem dX3_meaningCount_14 : decode cX3_meaningCount 14 = .ok (.iload_n 1, 1) := by decide +kernel
theorem dX3_meaningCount_15 : decode cX3_meaningCount 15 = .ok (.invokevirtual 50, 3) := by decide +kernel
theorem dX3_meaningCount_18 : decode cX3_meaningCount 18 = .ok (.ifCond .eq 6, 3) := by decide +kernel
theorem dX3_meaningCount_21 : decode cX3_meaningCount 21 = .ok (.iinc 2 1, 3) := by decide +kernel
theorem dX3_meaningCount_24 : decode cX3_meaningCount 24 = .ok (.iinc 3 1, 3) := by decide +kernel
theorem dX3_meaningCount_27 : decode cX3_meaningCount 27 = .ok (.goto (-23), 3) := by decide +kernel
theorem dX3_meaningCount_30 : decode cX3_meaningCount 30 = .ok (.iload_n 2, 1) := by decide +kernel
theorem dX3_meaningCount_31 : decode cX3_meaningCount 31 = .ok (.ireturn, 1) := by decide +kernel
theorem dX3_compounds_0 : decode cX3_compounds 0 = .ok (.iconst 0, 1) := by decide +kernel
theorem dX3_compounds_1 : decode cX3_compounds 1 = .ok (.istore_n 1, 1) := by decide +kernel
theorem dX3_compounds_2 : decode cX3_compounds 2 = .ok (.iconst 0, 1) := by decide +kernel
theorem dX3_compounds_3 : decode cX3_compounds 3 = .ok (.istore_n 2, 1) := by decide +kernel
theorem dX3_compounds_4 : decode cX3_compounds 4 = .ok (.iload_n 2, 1) := by decide +kernel
theorem dX3_compounds_5 : decode cX3_compounds 5 = .ok (.aload_n 0, 1) := by decide +kernel
theorem dX3_compounds_6 : decode cX3_compounds 6 = .ok (.getfield 58, 3) := by decide +kernel
theorem dX3_compounds_9 : decode cX3_compounds 9 = .ok (.if_icmp .ge 23, 3) := by decide +kernel
theorem dX3_compounds_12 : decode cX3_compounds 12 = .ok (.aload_n 0, 1) := by decide +kernel
theorem dX3_compounds_13 : decode cX3_compounds 13 = .ok (.iload_n 2, 1) := by decide +kernel
theorem dX3_compounds_14 : decode cX3_compounds 14 = .ok (.invokevirtual 54, 3) := by decide +kernel
theorem dX3_compounds_17 : decode cX3_compounds 17 = .ok (.ifCond .eq 9, 3) := by decide +kernel
theorem dX3_compounds_20 : decode cX3_compounds 20 = .ok (.iload_n 1, 1) := by decide +kernel
theorem dX3_compounds_21 : decode cX3_compounds 21 = .ok (.iconst 1, 1) := by decide +kernel
theorem dX3_compounds_22 : decode cX3_compounds 22 = .ok (.iload_n 2, 1) := by decide +kernel
theorem dX3_compounds_23 : decode cX3_compounds 23 = .ok (.ishl, 1) := by decide +kernel
theorem dX3_compounds_24 : decode cX3_compounds 24 = .ok (.ior, 1) := by decide +kernel
theorem dX3_compounds_25 : decode cX3_compounds 25 = .ok (.istore_n 1, 1) := by decide +kernel
theorem dX3_compounds_26 : decode cX3_compounds 26 = .ok (.iinc 2 1, 3) := by decide +kernel
theorem dX3_compounds_29 : decode cX3_compounds 29 = .ok (.goto (-25), 3) := by decide +kernel
theorem dX3_compounds_32 : decode cX3_compounds 32 = .ok (.iload_n 1, 1) := by decide +kernel
theorem dX3_compounds_33 : decode cX3_compounds 33 = .ok (.ireturn, 1) := by decide +kernel
theorem dX3_mostAlike_0 : decode cX3_mostAlike 0 = .ok (.aload_n 0, 1) := by decide +kernel
theorem dX3_mostAlike_1 : decode cX3_mostAlike 1 = .ok (.getfield 30, 3) := by decide +kernel
theorem dX3_mostAlike_4 : decode cX3_mostAlike 4 = .ok (.iconst 0, 1) := by decide +kernel
theorem dX3_mostAlike_5 : decode cX3_mostAlike 5 = .ok (.invokestatic 62, 3) := by decide +kernel
theorem dX3_mostAlike_8 : decode cX3_mostAlike 8 = .ok (.iconst 0, 1) := by decide +kernel
theorem dX3_mostAlike_9 : decode cX3_mostAlike 9 = .ok (.istore_n 2, 1) := by decide +kernel
theorem dX3_mostAlike_10 : decode cX3_mostAlike 10 = .ok (.iconst 0, 1) := by decide +kernel
theorem dX3_mostAlike_11 : decode cX3_mostAlike 11 = .ok (.istore_n 3, 1) := by decide +kernel
theorem dX3_mostAlike_12 : decode cX3_mostAlike 12 = .ok (.iload_n 3, 1) := by decide +kernel
theorem dX3_mostAlike_13 : decode cX3_mostAlike 13 = .ok (.aload_n 0, 1) := by decide +kernel
theorem dX3_mostAlike_14 : decode cX3_mostAlike 14 = .ok (.getfield 58, 3) := by decide +kernel
theorem dX3_mostAlike_17 : decode cX3_mostAlike 17 = .ok (.if_icmp .ge 40, 3) := by decide +kernel
theorem dX3_mostAlike_20 : decode cX3_mostAlike 20 = .ok (.aload_n 0, 1) := by decide +kernel
theorem dX3_mostAlike_21 : decode cX3_mostAlike 21 = .ok (.iload_n 3, 1) := by decide +kernel
theorem dX3_mostAlike_22 : decode cX3_mostAlike 22 = .ok (.iload_n 1, 1) := by decide +kernel
theorem dX3_mostAlike_23 : decode cX3_mostAlike 23 = .ok (.invokevirtual 68, 3) := by decide +kernel
theorem dX3_mostAlike_26 : decode cX3_mostAlike 26 = .ok (.istore 4, 2) := by decide +kernel
theorem dX3_mostAlike_28 : decode cX3_mostAlike 28 = .ok (.aload_n 0, 1) := by decide +kernel
theorem dX3_mostAlike_29 : decode cX3_mostAlike 29 = .ok (.getfield 30, 3) := by decide +kernel
theorem dX3_mostAlike_32 : decode cX3_mostAlike 32 = .ok (.iload 4, 2) := by decide +kernel
theorem dX3_mostAlike_34 : decode cX3_mostAlike 34 = .ok (.dup2, 1) := by decide +kernel
theorem dX3_mostAlike_35 : decode cX3_mostAlike 35 = .ok (.iaload, 1) := by decide +kernel
theorem dX3_mostAlike_36 : decode cX3_mostAlike 36 = .ok (.iconst 1, 1) := by decide +kernel
theorem dX3_mostAlike_37 : decode cX3_mostAlike 37 = .ok (.iadd, 1) := by decide +kernel
theorem dX3_mostAlike_38 : decode cX3_mostAlike 38 = .ok (.iastore, 1) := by decide +kernel
theorem dX3_mostAlike_39 : decode cX3_mostAlike 39 = .ok (.iload_n 2, 1) := by decide +kernel
theorem dX3_mostAlike_40 : decode cX3_mostAlike 40 = .ok (.aload_n 0, 1) := by decide +kernel
theorem dX3_mostAlike_41 : decode cX3_mostAlike 41 = .ok (.getfield 30, 3) := by decide +kernel
theorem dX3_mostAlike_44 : decode cX3_mostAlike 44 = .ok (.iload 4, 2) := by decide +kernel
theorem dX3_mostAlike_46 : decode cX3_mostAlike 46 = .ok (.iaload, 1) := by decide +kernel
theorem dX3_mostAlike_47 : decode cX3_mostAlike 47 = .ok (.invokestatic 71, 3) := by decide +kernel
theorem dX3_mostAlike_50 : decode cX3_mostAlike 50 = .ok (.istore_n 2, 1) := by decide +kernel
theorem dX3_mostAlike_51 : decode cX3_mostAlike 51 = .ok (.iinc 3 1, 3) := by decide +kernel
theorem dX3_mostAlike_54 : decode cX3_mostAlike 54 = .ok (.goto (-42), 3) := by decide +kernel
theorem dX3_mostAlike_57 : decode cX3_mostAlike 57 = .ok (.iload_n 2, 1) := by decide +kernel
theorem dX3_mostAlike_58 : decode cX3_mostAlike 58 = .ok (.ireturn, 1) := by decide +kernel
theorem dX4_init_0 : decode cX4_init 0 = .ok (.aload_n 0, 1) := by decide +kernel
theorem dX4_init_1 : decode cX4_init 1 = .ok (.invokespecial 1, 3) := by decide +kernel
theorem dX4_init_4 : decode cX4_init 4 = .ok (.aload_n 0, 1) := by decide +kernel
theorem dX4_init_5 : decode cX4_init 5 = .ok (.bipush 13, 2) := by decide +kernel
theorem dX4_init_7 : decode cX4_init 7 = .ok (.anewarray 9, 3) := by decide +kernel
theorem dX4_init_10 : decode cX4_init 10 = .ok (.putfield 11, 3) := by decide +kernel
theorem dX4_init_13 : decode cX4_init 13 = .ok (.iconst 0, 1) := by decide +kernel
theorem dX4_init_14 : decode cX4_init 14 = .ok (.istore_n 1, 1) := by decide +kernel
theorem dX4_init_15 : decode cX4_init 15 = .ok (.iload_n 1, 1) := by decide +kernel
theorem dX4_init_16 : decode cX4_init 16 = .ok (.bipush 12, 2) := by decide +kernel
theorem dX4_init_18 : decode cX4_init 18 = .ok (.if_icmp .gt 22, 3) := by decide +kernel
theorem dX4_init_21 : decode cX4_init 21 = .ok (.aload_n 0, 1) := by decide +kernel
theorem dX4_init_22 : decode cX4_init 22 = .ok (.getfield 11, 3) := by decide +kernel
theorem dX4_init_25 : decode cX4_init 25 = .ok (.iload_n 1, 1) := by decide +kernel
theorem dX4_init_26 : decode cX4_init 26 = .ok (.new 9, 3) := by decide +kernel
theorem dX4_init_29 : decode cX4_init 29 = .ok (.dup, 1) := by decide +kernel
theorem dX4_init_30 : decode cX4_init 30 = .ok (.invokespecial 15, 3) := by decide +kernel
theorem dX4_init_33 : decode cX4_init 33 = .ok (.aastore, 1) := by decide +kernel
theorem dX4_init_34 : decode cX4_init 34 = .ok (.iinc 1 1, 3) := by decide +kernel
theorem dX4_init_37 : decode cX4_init 37 = .ok (.goto (-22), 3) := by decide +kernel
theorem dX4_init_40 : decode cX4_init 40 = .ok (.return_, 1) := by decide +kernel
theorem dX4_slot_0 : decode cX4_slot 0 = .ok (.aload_n 0, 1) := by decide +kernel
theorem dX4_slot_1 : decode cX4_slot 1 = .ok (.getfield 16, 3) := by decide +kernel
theorem dX4_slot_4 : decode cX4_slot 4 = .ok (.iload_n 1, 1) := by decide +kernel
theorem dX4_slot_5 : decode cX4_slot 5 = .ok (.iadd, 1) := by decide +kernel
theorem dX4_slot_6 : decode cX4_slot 6 = .ok (.bipush 13, 2) := by decide +kernel
theorem dX4_slot_8 : decode cX4_slot 8 = .ok (.irem, 1) := by decide +kernel
theorem dX4_slot_9 : decode cX4_slot 9 = .ok (.ireturn, 1) := by decide +kernel
theorem dX4_mark_0 : decode cX4_mark 0 = .ok (.aload_n 0, 1) := by decide +kernel
theorem dX4_mark_1 : decode cX4_mark 1 = .ok (.getfield 11, 3) := by decide +kernel
theorem dX4_mark_4 : decode cX4_mark 4 = .ok (.aload_n 0, 1) := by decide +kernel
theorem dX4_mark_5 : decode cX4_mark 5 = .ok (.aload_n 0, 1) := by decide +kernel
theorem dX4_mark_6 : decode cX4_mark 6 = .ok (.getfield 20, 3) := by decide +kernel
theorem dX4_mark_9 : decode cX4_mark 9 = .ok (.invokevirtual 23, 3) := by decide +kernel
theorem dX4_mark_12 : decode cX4_mark 12 = .ok (.aaload, 1) := by decide +kernel
theorem dX4_mark_13 : decode cX4_mark 13 = .ok (.aload_n 1, 1) := by decide +kernel
theorem dX4_mark_14 : decode cX4_mark 14 = .ok (.invokevirtual 27, 3) := by decide +kernel
theorem dX4_mark_17 : decode cX4_mark 17 = .ok (.return_, 1) := by decide +kernel
theorem dX4_confirm_0 : decode cX4_confirm 0 = .ok (.aload_n 0, 1) := by decide +kernel
theorem dX4_confirm_1 : decode cX4_confirm 1 = .ok (.getfield 20, 3) := by decide +kernel
theorem dX4_confirm_4 : decode cX4_confirm 4 = .ok (.bipush 12, 2) := by decide +kernel
theorem dX4_confirm_6 : decode cX4_confirm 6 = .ok (.if_icmp .ge 16, 3) := by decide +kernel
theorem dX4_confirm_9 : decode cX4_confirm 9 = .ok (.aload_n 0, 1) := by decide +kernel
theorem dX4_confirm_10 : decode cX4_confirm 10 = .ok (.dup, 1) := by decide +kernel
theorem dX4_confirm_11 : decode cX4_confirm 11 = .ok (.getfield 20, 3) := by decide +kernel
theorem dX4_confirm_14 : decode cX4_confirm 14 = .ok (.iconst 1, 1) := by decide +kernel
theorem dX4_confirm_15 : decode cX4_confirm 15 = .ok (.iadd, 1) := by decide +kernel
theorem dX4_confirm_16 : decode cX4_confirm 16 = .ok (.putfield 20, 3) := by decide +kernel
theorem dX4_confirm_19 : decode cX4_confirm 19 = .ok (.goto 12, 3) := by decide +kernel
theorem dX4_confirm_22 : decode cX4_confirm 22 = .ok (.aload_n 0, 1) := by decide +kernel
theorem dX4_confirm_23 : decode cX4_confirm 23 = .ok (.aload_n 0, 1) := by decide +kernel
theorem dX4_confirm_24 : decode cX4_confirm 24 = .ok (.iconst 1, 1) := by decide +kernel
theorem dX4_confirm_25 : decode cX4_confirm 25 = .ok (.invokevirtual 23, 3) := by decide +kernel
theorem dX4_confirm_28 : decode cX4_confirm 28 = .ok (.putfield 16, 3) := by decide +kernel
theorem dX4_confirm_31 : decode cX4_confirm 31 = .ok (.return_, 1) := by decide +kernel
theorem dX4_backToMark_0 : decode cX4_backToMark 0 = .ok (.aload_n 1, 1) := by decide +kernel
theorem dX4_backToMark_1 : decode cX4_backToMark 1 = .ok (.aload_n 0, 1) := by decide +kernel
theorem dX4_backToMark_2 : decode cX4_backToMark 2 = .ok (.getfield 11, 3) := by decide +kernel
theorem dX4_backToMark_5 : decode cX4_backToMark 5 = .ok (.aload_n 0, 1) := by decide +kernel
theorem dX4_backToMark_6 : decode cX4_backToMark 6 = .ok (.aload_n 0, 1) := by decide +kernel
theorem dX4_backToMark_7 : decode cX4_backToMark 7 = .ok (.getfield 20, 3) := by decide +kernel
theorem dX4_backToMark_10 : decode cX4_backToMark 10 = .ok (.invokevirtual 23, 3) := by decide +kernel
theorem dX4_backToMark_13 : decode cX4_backToMark 13 = .ok (.aaload, 1) := by decide +kernel
theorem dX4_backToMark_14 : decode cX4_backToMark 14 = .ok (.invokevirtual 27, 3) := by decide +kernel
theorem dX4_backToMark_17 : decode cX4_backToMark 17 = .ok (.return_, 1) := by decide +kernel
theorem dX4_takeBack_0 : decode cX4_takeBack 0 = .ok (.aload_n 0, 1) := by decide +kernel
theorem dX4_takeBack_1 : decode cX4_takeBack 1 = .ok (.getfield 20, 3) := by decide +kernel
theorem dX4_takeBack_4 : decode cX4_takeBack 4 = .ok (.ifCond .gt 5, 3) := by decide +kernel
theorem dX4_takeBack_7 : decode cX4_takeBack 7 = .ok (.iconst 0, 1) := by decide +kernel
theorem dX4_takeBack_8 : decode cX4_takeBack 8 = .ok (.ireturn, 1) := by decide +kernel
theorem dX4_takeBack_9 : decode cX4_takeBack 9 = .ok (.aload_n 0, 1) := by decide +kernel
theorem dX4_takeBack_10 : decode cX4_takeBack 10 = .ok (.dup, 1) := by decide +kernel
theorem dX4_takeBack_11 : decode cX4_takeBack 11 = .ok (.getfield 20, 3) := by decide +kernel
theorem dX4_takeBack_14 : decode cX4_takeBack 14 = .ok (.iconst 1, 1) := by decide +kernel
theorem dX4_takeBack_15 : decode cX4_takeBack 15 = .ok (.isub, 1) := by decide +kernel
theorem dX4_takeBack_16 : decode cX4_takeBack 16 = .ok (.putfield 20, 3) := by decide +kernel
theorem dX4_takeBack_19 : decode cX4_takeBack 19 = .ok (.aload_n 0, 1) := by decide +kernel
theorem dX4_takeBack_20 : decode cX4_takeBack 20 = .ok (.aload_n 1, 1) := by decide +kernel
theorem dX4_takeBack_21 : decode cX4_takeBack 21 = .ok (.invokevirtual 31, 3) := by decide +kernel
theorem dX4_takeBack_24 : decode cX4_takeBack 24 = .ok (.iconst 1, 1) := by decide +kernel
theorem dX4_takeBack_25 : decode cX4_takeBack 25 = .ok (.ireturn, 1) := by decide +kernel
theorem dX5_init_0 : decode cX5_init 0 = .ok (.aload_n 0, 1) := by decide +kernel
theorem dX5_init_1 : decode cX5_init 1 = .ok (.invokespecial 3, 3) := by decide +kernel
theorem dX5_init_4 : decode cX5_init 4 = .ok (.aload_n 0, 1) := by decide +kernel
theorem dX5_init_5 : decode cX5_init 5 = .ok (.bipush 12, 2) := by decide +kernel
theorem dX5_init_7 : decode cX5_init 7 = .ok (.newarray .int, 2) := by decide +kernel
theorem dX5_init_9 : decode cX5_init 9 = .ok (.putfield 9, 3) := by decide +kernel
theorem dX5_init_12 : decode cX5_init 12 = .ok (.aload_n 0, 1) := by decide +kernel
theorem dX5_init_13 : decode cX5_init 13 = .ok (.bipush 12, 2) := by decide +kernel
theorem dX5_init_15 : decode cX5_init 15 = .ok (.newarray .int, 2) := by decide +kernel
theorem dX5_init_17 : decode cX5_init 17 = .ok (.putfield 15, 3) := by decide +kernel
theorem dX5_init_20 : decode cX5_init 20 = .ok (.aload_n 0, 1) := by decide +kernel
theorem dX5_init_21 : decode cX5_init 21 = .ok (.bipush 13, 2) := by decide +kernel
theorem dX5_init_23 : decode cX5_init 23 = .ok (.newarray .int, 2) := by decide +kernel
theorem dX5_init_25 : decode cX5_init 25 = .ok (.putfield 18, 3) := by decide +kernel
theorem dX5_init_28 : decode cX5_init 28 = .ok (.aload_n 0, 1) := by decide +kernel
theorem dX5_init_29 : decode cX5_init 29 = .ok (.sipush 1536, 3) := by decide +kernel
theorem dX5_init_32 : decode cX5_init 32 = .ok (.newarray .int, 2) := by decide +kernel
theorem dX5_init_34 : decode cX5_init 34 = .ok (.putfield 21, 3) := by decide +kernel
theorem dX5_init_37 : decode cX5_init 37 = .ok (.aload_n 0, 1) := by decide +kernel
theorem dX5_init_38 : decode cX5_init 38 = .ok (.sipush 1536, 3) := by decide +kernel
theorem dX5_init_41 : decode cX5_init 41 = .ok (.newarray .int, 2) := by decide +kernel
theorem dX5_init_43 : decode cX5_init 43 = .ok (.putfield 24, 3) := by decide +kernel
theorem dX5_init_46 : decode cX5_init 46 = .ok (.return_, 1) := by decide +kernel
theorem dX5_sentencePrice_0 : decode cX5_sentencePrice 0 = .ok (.aload_n 0, 1) := by decide +kernel
theorem dX5_sentencePrice_1 : decode cX5_sentencePrice 1 = .ok (.getfield 18, 3) := by decide +kernel
theorem dX5_sentencePrice_4 : decode cX5_sentencePrice 4 = .ok (.iload 4, 2) := by decide +kernel
theorem dX5_sentencePrice_6 : decode cX5_sentencePrice 6 = .ok (.iconst 0, 1) := by decide +kernel
theorem dX5_sentencePrice_7 : decode cX5_sentencePrice 7 = .ok (.iastore, 1) := by decide +kernel
theorem dX5_sentencePrice_8 : decode cX5_sentencePrice 8 = .ok (.iload 4, 2) := by decide +kernel
theorem dX5_sentencePrice_10 : decode cX5_sentencePrice 10 = .ok (.iconst 1, 1) := by decide +kernel
theorem dX5_sentencePrice_11 : decode cX5_sentencePrice 11 = .ok (.isub, 1) := by decide +kernel
theorem dX5_sentencePrice_12 : decode cX5_sentencePrice 12 = .ok (.istore 5, 2) := by decide +kernel
theorem dX5_sentencePrice_14 : decode cX5_sentencePrice 14 = .ok (.iload 5, 2) := by decide +kernel
theorem dX5_sentencePrice_16 : decode cX5_sentencePrice 16 = .ok (.ifCond .lt 119, 3) := by decide +kernel
theorem dX5_sentencePrice_19 : decode cX5_sentencePrice 19 = .ok (.aload_n 0, 1) := by decide +kernel
theorem dX5_sentencePrice_20 : decode cX5_sentencePrice 20 = .ok (.getfield 18, 3) := by decide +kernel
theorem dX5_sentencePrice_23 : decode cX5_sentencePrice 23 = .ok (.iload 5, 2) := by decide +kernel
theorem dX5_sentencePrice_25 : decode cX5_sentencePrice 25 = .ok (.ldc 27, 2) := by decide +kernel
theorem dX5_sentencePrice_27 : decode cX5_sentencePrice 27 = .ok (.iastore, 1) := by decide +kernel
theorem dX5_sentencePrice_28 : decode cX5_sentencePrice 28 = .ok (.iconst 0, 1) := by decide +kernel
theorem dX5_sentencePrice_29 : decode cX5_sentencePrice 29 = .ok (.istore 6, 2) := by decide +kernel
theorem dX5_sentencePrice_31 : decode cX5_sentencePrice 31 = .ok (.iload 6, 2) := by decide +kernel
theorem dX5_sentencePrice_33 : decode cX5_sentencePrice 33 = .ok (.aload_n 1, 1) := by decide +kernel
theorem dX5_sentencePrice_34 : decode cX5_sentencePrice 34 = .ok (.getfield 28, 3) := by decide +kernel
theorem dX5_sentencePrice_37 : decode cX5_sentencePrice 37 = .ok (.if_icmp .ge 92, 3) := by decide +kernel
theorem dX5_sentencePrice_40 : decode cX5_sentencePrice 40 = .ok (.aload_n 1, 1) := by decide +kernel
theorem dX5_sentencePrice_41 : decode cX5_sentencePrice 41 = .ok (.iload 6, 2) := by decide +kernel
theorem dX5_sentencePrice_43 : decode cX5_sentencePrice 43 = .ok (.aload_n 3, 1) := by decide +kernel
theorem dX5_sentencePrice_44 : decode cX5_sentencePrice 44 = .ok (.iload 5, 2) := by decide +kernel
theorem dX5_sentencePrice_46 : decode cX5_sentencePrice 46 = .ok (.iload 4, 2) := by decide +kernel
theorem dX5_sentencePrice_48 : decode cX5_sentencePrice 48 = .ok (.invokestatic 34, 3) := by decide +kernel
theorem dX5_sentencePrice_51 : decode cX5_sentencePrice 51 = .ok (.istore 7, 2) := by decide +kernel
theorem dX5_sentencePrice_53 : decode cX5_sentencePrice 53 = .ok (.iload 7, 2) := by decide +kernel
theorem dX5_sentencePrice_55 : decode cX5_sentencePrice 55 = .ok (.ifCond .le 68, 3) := by decide +kernel
theorem dX5_sentencePrice_58 : decode cX5_sentencePrice 58 = .ok (.aload_n 2, 1) := by decide +kernel
theorem dX5_sentencePrice_59 : decode cX5_sentencePrice 59 = .ok (.iload 6, 2) := by decide +kernel
theorem dX5_sentencePrice_61 : decode cX5_sentencePrice 61 = .ok (.iaload, 1) := by decide +kernel
theorem dX5_sentencePrice_62 : decode cX5_sentencePrice 62 = .ok (.aload_n 0, 1) := by decide +kernel
theorem dX5_sentencePrice_63 : decode cX5_sentencePrice 63 = .ok (.getfield 18, 3) := by decide +kernel
theorem dX5_sentencePrice_66 : decode cX5_sentencePrice 66 = .ok (.iload 5, 2) := by decide +kernel
theorem dX5_sentencePrice_68 : decode cX5_sentencePrice 68 = .ok (.iload 7, 2) := by decide +kernel
theorem dX5_sentencePrice_70 : decode cX5_sentencePrice 70 = .ok (.iadd, 1) := by decide +kernel
theorem dX5_sentencePrice_71 : decode cX5_sentencePrice 71 = .ok (.iaload, 1) := by decide +kernel
theorem dX5_sentencePrice_72 : decode cX5_sentencePrice 72 = .ok (.iadd, 1) := by decide +kernel
theorem dX5_sentencePrice_73 : decode cX5_sentencePrice 73 = .ok (.aload_n 0, 1) := by decide +kernel
theorem dX5_sentencePrice_74 : decode cX5_sentencePrice 74 = .ok (.getfield 18, 3) := by decide +kernel
theorem dX5_sentencePrice_77 : decode cX5_sentencePrice 77 = .ok (.iload 5, 2) := by decide +kernel
theorem dX5_sentencePrice_79 : decode cX5_sentencePrice 79 = .ok (.iaload, 1) := by decide +kernel
theorem dX5_sentencePrice_80 : decode cX5_sentencePrice 80 = .ok (.if_icmp .ge 43, 3) := by decide +kernel
theorem dX5_sentencePrice_83 : decode cX5_sentencePrice 83 = .ok (.aload_n 0, 1) := by decide +kernel
theorem dX5_sentencePrice_84 : decode cX5_sentencePrice 84 = .ok (.getfield 18, 3) := by decide +kernel
theorem dX5_sentencePrice_87 : decode cX5_sentencePrice 87 = .ok (.iload 5, 2) := by decide +kernel
theorem dX5_sentencePrice_89 : decode cX5_sentencePrice 89 = .ok (.aload_n 2, 1) := by decide +kernel
theorem dX5_sentencePrice_90 : decode cX5_sentencePrice 90 = .ok (.iload 6, 2) := by decide +kernel
theorem dX5_sentencePrice_92 : decode cX5_sentencePrice 92 = .ok (.iaload, 1) := by decide +kernel
theorem dX5_sentencePrice_93 : decode cX5_sentencePrice 93 = .ok (.aload_n 0, 1) := by decide +kernel
theorem dX5_sentencePrice_94 : decode cX5_sentencePrice 94 = .ok (.getfield 18, 3) := by decide +kernel
theorem dX5_sentencePrice_97 : decode cX5_sentencePrice 97 = .ok (.iload 5, 2) := by decide +kernel
theorem dX5_sentencePrice_99 : decode cX5_sentencePrice 99 = .ok (.iload 7, 2) := by decide +kernel
theorem dX5_sentencePrice_101 : decode cX5_sentencePrice 101 = .ok (.iadd, 1) := by decide +kernel
theorem dX5_sentencePrice_102 : decode cX5_sentencePrice 102 = .ok (.iaload, 1) := by decide +kernel
theorem dX5_sentencePrice_103 : decode cX5_sentencePrice 103 = .ok (.iadd, 1) := by decide +kernel
theorem dX5_sentencePrice_104 : decode cX5_sentencePrice 104 = .ok (.iastore, 1) := by decide +kernel
theorem dX5_sentencePrice_105 : decode cX5_sentencePrice 105 = .ok (.aload_n 0, 1) := by decide +kernel
theorem dX5_sentencePrice_106 : decode cX5_sentencePrice 106 = .ok (.getfield 9, 3) := by decide +kernel
theorem dX5_sentencePrice_109 : decode cX5_sentencePrice 109 = .ok (.iload 5, 2) := by decide +kernel
theorem dX5_sentencePrice_111 : decode cX5_sentencePrice 111 = .ok (.iload 6, 2) := by decide +kernel
theorem dX5_sentencePrice_113 : decode cX5_sentencePrice 113 = .ok (.iastore, 1) := by decide +kernel
theorem dX5_sentencePrice_114 : decode cX5_sentencePrice 114 = .ok (.aload_n 0, 1) := by decide +kernel
theorem dX5_sentencePrice_115 : decode cX5_sentencePrice 115 = .ok (.getfield 15, 3) := by decide +kernel
theorem dX5_sentencePrice_118 : decode cX5_sentencePrice 118 = .ok (.iload 5, 2) := by decide +kernel
theorem dX5_sentencePrice_120 : decode cX5_sentencePrice 120 = .ok (.iload 7, 2) := by decide +kernel
theorem dX5_sentencePrice_122 : decode cX5_sentencePrice 122 = .ok (.iastore, 1) := by decide +kernel
theorem dX5_sentencePrice_123 : decode cX5_sentencePrice 123 = .ok (.iinc 6 1, 3) := by decide +kernel
theorem dX5_sentencePrice_126 : decode cX5_sentencePrice 126 = .ok (.goto (-95), 3) := by decide +kernel
theorem dX5_sentencePrice_129 : decode cX5_sentencePrice 129 = .ok (.iinc 5 (-1), 3) := by decide +kernel
theorem dX5_sentencePrice_132 : decode cX5_sentencePrice 132 = .ok (.goto (-118), 3) := by decide +kernel
theorem dX5_sentencePrice_135 : decode cX5_sentencePrice 135 = .ok (.aload_n 0, 1) := by decide +kernel
theorem dX5_sentencePrice_136 : decode cX5_sentencePrice 136 = .ok (.getfield 18, 3) := by decide +kernel
theorem dX5_sentencePrice_139 : decode cX5_sentencePrice 139 = .ok (.iconst 0, 1) := by decide +kernel
theorem dX5_sentencePrice_140 : decode cX5_sentencePrice 140 = .ok (.iaload, 1) := by decide +kernel
theorem dX5_sentencePrice_141 : decode cX5_sentencePrice 141 = .ok (.ldc 27, 2) := by decide +kernel
theorem dX5_sentencePrice_143 : decode cX5_sentencePrice 143 = .ok (.if_icmp .ge 12, 3) := by decide +kernel
theorem dX5_sentencePrice_146 : decode cX5_sentencePrice 146 = .ok (.aload_n 0, 1) := by decide +kernel
theorem dX5_sentencePrice_147 : decode cX5_sentencePrice 147 = .ok (.getfield 18, 3) := by decide +kernel
theorem dX5_sentencePrice_150 : decode cX5_sentencePrice 150 = .ok (.iconst 0, 1) := by decide +kernel
theorem dX5_sentencePrice_151 : decode cX5_sentencePrice 151 = .ok (.iaload, 1) := by decide +kernel
theorem dX5_sentencePrice_152 : decode cX5_sentencePrice 152 = .ok (.goto 4, 3) := by decide +kernel
theorem dX5_sentencePrice_155 : decode cX5_sentencePrice 155 = .ok (.iconst (-1), 1) := by decide +kernel
theorem dX5_sentencePrice_156 : decode cX5_sentencePrice 156 = .ok (.ireturn, 1) := by decide +kernel
theorem dX5_toldBy_0 : decode cX5_toldBy 0 = .ok (.aload_n 0, 1) := by decide +kernel
theorem dX5_toldBy_1 : decode cX5_toldBy 1 = .ok (.getfield 38, 3) := by decide +kernel
theorem dX5_toldBy_4 : decode cX5_toldBy 4 = .ok (.iload_n 1, 1) := by decide +kernel
theorem dX5_toldBy_5 : decode cX5_toldBy 5 = .ok (.iaload, 1) := by decide +kernel
theorem dX5_toldBy_6 : decode cX5_toldBy 6 = .ok (.aload_n 2, 1) := by decide +kernel
theorem dX5_toldBy_7 : decode cX5_toldBy 7 = .ok (.iload_n 3, 1) := by decide +kernel
theorem dX5_toldBy_8 : decode cX5_toldBy 8 = .ok (.iaload, 1) := by decide +kernel
theorem dX5_toldBy_9 : decode cX5_toldBy 9 = .ok (.bipush 48, 2) := by decide +kernel
theorem dX5_toldBy_11 : decode cX5_toldBy 11 = .ok (.isub, 1) := by decide +kernel
theorem dX5_toldBy_12 : decode cX5_toldBy 12 = .ok (.if_icmp .eq 5, 3) := by decide +kernel
theorem dX5_toldBy_15 : decode cX5_toldBy 15 = .ok (.iconst 0, 1) := by decide +kernel
theorem dX5_toldBy_16 : decode cX5_toldBy 16 = .ok (.ireturn, 1) := by decide +kernel
theorem dX5_toldBy_17 : decode cX5_toldBy 17 = .ok (.aload_n 0, 1) := by decide +kernel
theorem dX5_toldBy_18 : decode cX5_toldBy 18 = .ok (.iload_n 1, 1) := by decide +kernel
theorem dX5_toldBy_19 : decode cX5_toldBy 19 = .ok (.invokevirtual 41, 3) := by decide +kernel
theorem dX5_toldBy_22 : decode cX5_toldBy 22 = .ok (.ifCond .ne 5, 3) := by decide +kernel
theorem dX5_toldBy_25 : decode cX5_toldBy 25 = .ok (.iconst 1, 1) := by decide +kernel
theorem dX5_toldBy_26 : decode cX5_toldBy 26 = .ok (.ireturn, 1) := by decide +kernel
theorem dX5_toldBy_27 : decode cX5_toldBy 27 = .ok (.iload_n 3, 1) := by decide +kernel
theorem dX5_toldBy_28 : decode cX5_toldBy 28 = .ok (.iconst 1, 1) := by decide +kernel
theorem dX5_toldBy_29 : decode cX5_toldBy 29 = .ok (.iadd, 1) := by decide +kernel
theorem dX5_toldBy_30 : decode cX5_toldBy 30 = .ok (.iload 4, 2) := by decide +kernel
theorem dX5_toldBy_32 : decode cX5_toldBy 32 = .ok (.if_icmp .ge 24, 3) := by decide +kernel
theorem dX5_toldBy_35 : decode cX5_toldBy 35 = .ok (.aload_n 0, 1) := by decide +kernel
theorem dX5_toldBy_36 : decode cX5_toldBy 36 = .ok (.getfield 45, 3) := by decide +kernel
theorem dX5_toldBy_39 : decode cX5_toldBy 39 = .ok (.iload_n 1, 1) := by decide +kernel
theorem dX5_toldBy_40 : decode cX5_toldBy 40 = .ok (.iaload, 1) := by decide +kernel
theorem dX5_toldBy_41 : decode cX5_toldBy 41 = .ok (.aload_n 2, 1) := by decide +kernel
theorem dX5_toldBy_42 : decode cX5_toldBy 42 = .ok (.iload_n 3, 1) := by decide +kernel
theorem dX5_toldBy_43 : decode cX5_toldBy 43 = .ok (.iconst 1, 1) := by decide +kernel
theorem dX5_toldBy_44 : decode cX5_toldBy 44 = .ok (.iadd, 1) := by decide +kernel
theorem dX5_toldBy_45 : decode cX5_toldBy 45 = .ok (.iaload, 1) := by decide +kernel
theorem dX5_toldBy_46 : decode cX5_toldBy 46 = .ok (.bipush 48, 2) := by decide +kernel
theorem dX5_toldBy_48 : decode cX5_toldBy 48 = .ok (.isub, 1) := by decide +kernel
theorem dX5_toldBy_49 : decode cX5_toldBy 49 = .ok (.if_icmp .ne 7, 3) := by decide +kernel
theorem dX5_toldBy_52 : decode cX5_toldBy 52 = .ok (.iconst 2, 1) := by decide +kernel
theorem dX5_toldBy_53 : decode cX5_toldBy 53 = .ok (.goto 4, 3) := by decide +kernel
theorem dX5_toldBy_56 : decode cX5_toldBy 56 = .ok (.iconst 0, 1) := by decide +kernel
theorem dX5_toldBy_57 : decode cX5_toldBy 57 = .ok (.ireturn, 1) := by decide +kernel
theorem dX5_begin_0 : decode cX5_begin 0 = .ok (.aload_n 0, 1) := by decide +kernel
theorem dX5_begin_1 : decode cX5_begin 1 = .ok (.iload_n 1, 1) := by decide +kernel
theorem dX5_begin_2 : decode cX5_begin 2 = .ok (.putfield 48, 3) := by decide +kernel
theorem dX5_begin_5 : decode cX5_begin 5 = .ok (.aload_n 0, 1) := by decide +kernel
theorem dX5_begin_6 : decode cX5_begin 6 = .ok (.iload_n 1, 1) := by decide +kernel
theorem dX5_begin_7 : decode cX5_begin 7 = .ok (.invokestatic 51, 3) := by decide +kernel
theorem dX5_begin_10 : decode cX5_begin 10 = .ok (.putfield 57, 3) := by decide +kernel
theorem dX5_begin_13 : decode cX5_begin 13 = .ok (.aload_n 0, 1) := by decide +kernel
theorem dX5_begin_14 : decode cX5_begin 14 = .ok (.iload_n 3, 1) := by decide +kernel
theorem dX5_begin_15 : decode cX5_begin 15 = .ok (.putfield 60, 3) := by decide +kernel
theorem dX5_begin_18 : decode cX5_begin 18 = .ok (.aload_n 0, 1) := by decide +kernel
theorem dX5_begin_19 : decode cX5_begin 19 = .ok (.ldc 27, 2) := by decide +kernel
theorem dX5_begin_21 : decode cX5_begin 21 = .ok (.putfield 63, 3) := by decide +kernel
theorem dX5_begin_24 : decode cX5_begin 24 = .ok (.aload_n 0, 1) := by decide +kernel
theorem dX5_begin_25 : decode cX5_begin 25 = .ok (.getfield 21, 3) := by decide +kernel
theorem dX5_begin_28 : decode cX5_begin 28 = .ok (.ldc 27, 2) := by decide +kernel
theorem dX5_begin_30 : decode cX5_begin 30 = .ok (.invokestatic 66, 3) := by decide +kernel
theorem dX5_begin_33 : decode cX5_begin 33 = .ok (.aload_n 0, 1) := by decide +kernel
theorem dX5_begin_34 : decode cX5_begin 34 = .ok (.getfield 21, 3) := by decide +kernel
theorem dX5_begin_37 : decode cX5_begin 37 = .ok (.iload_n 2, 1) := by decide +kernel
theorem dX5_begin_38 : decode cX5_begin 38 = .ok (.sipush 256, 3) := by decide +kernel
theorem dX5_begin_41 : decode cX5_begin 41 = .ok (.imul, 1) := by decide +kernel
theorem dX5_begin_42 : decode cX5_begin 42 = .ok (.iconst 0, 1) := by decide +kernel
theorem dX5_begin_43 : decode cX5_begin 43 = .ok (.iastore, 1) := by decide +kernel
theorem dX5_begin_44 : decode cX5_begin 44 = .ok (.return_, 1) := by decide +kernel
theorem dX5_sayAt_0 : decode cX5_sayAt 0 = .ok (.iload_n 1, 1) := by decide +kernel
theorem dX5_sayAt_1 : decode cX5_sayAt 1 = .ok (.sipush 256, 3) := by decide +kernel
theorem dX5_sayAt_4 : decode cX5_sayAt 4 = .ok (.imul, 1) := by decide +kernel
theorem dX5_sayAt_5 : decode cX5_sayAt 5 = .ok (.istore 4, 2) := by decide +kernel
theorem dX5_sayAt_7 : decode cX5_sayAt 7 = .ok (.iconst 0, 1) := by decide +kernel
theorem dX5_sayAt_8 : decode cX5_sayAt 8 = .ok (.istore 5, 2) := by decide +kernel
theorem dX5_sayAt_10 : decode cX5_sayAt 10 = .ok (.iload 5, 2) := by decide +kernel
theorem dX5_sayAt_12 : decode cX5_sayAt 12 = .ok (.aload_n 0, 1) := by decide +kernel
theorem dX5_sayAt_13 : decode cX5_sayAt 13 = .ok (.getfield 48, 3) := by decide +kernel
theorem dX5_sayAt_16 : decode cX5_sayAt 16 = .ok (.if_icmp .gt 54, 3) := by decide +kernel
theorem dX5_sayAt_19 : decode cX5_sayAt 19 = .ok (.aload_n 0, 1) := by decide +kernel
theorem dX5_sayAt_20 : decode cX5_sayAt 20 = .ok (.getfield 21, 3) := by decide +kernel
theorem dX5_sayAt_23 : decode cX5_sayAt 23 = .ok (.iload 4, 2) := by decide +kernel
theorem dX5_sayAt_25 : decode cX5_sayAt 25 = .ok (.iload 5, 2) := by decide +kernel
theorem dX5_sayAt_27 : decode cX5_sayAt 27 = .ok (.iadd, 1) := by decide +kernel
theorem dX5_sayAt_28 : decode cX5_sayAt 28 = .ok (.iaload, 1) := by decide +kernel
theorem dX5_sayAt_29 : decode cX5_sayAt 29 = .ok (.iload_n 3, 1) := by decide +kernel
theorem dX5_sayAt_30 : decode cX5_sayAt 30 = .ok (.iadd, 1) := by decide +kernel
theorem dX5_sayAt_31 : decode cX5_sayAt 31 = .ok (.istore 6, 2) := by decide +kernel
theorem dX5_sayAt_33 : decode cX5_sayAt 33 = .ok (.iload 6, 2) := by decide +kernel
theorem dX5_sayAt_35 : decode cX5_sayAt 35 = .ok (.aload_n 0, 1) := by decide +kernel
theorem dX5_sayAt_36 : decode cX5_sayAt 36 = .ok (.getfield 21, 3) := by decide +kernel
theorem dX5_sayAt_39 : decode cX5_sayAt 39 = .ok (.iload 4, 2) := by decide +kernel
theorem dX5_sayAt_41 : decode cX5_sayAt 41 = .ok (.iload 5, 2) := by decide +kernel
theorem dX5_sayAt_43 : decode cX5_sayAt 43 = .ok (.iload_n 2, 1) := by decide +kernel
theorem dX5_sayAt_44 : decode cX5_sayAt 44 = .ok (.ior, 1) := by decide +kernel
theorem dX5_sayAt_45 : decode cX5_sayAt 45 = .ok (.iadd, 1) := by decide +kernel
theorem dX5_sayAt_46 : decode cX5_sayAt 46 = .ok (.iaload, 1) := by decide +kernel
theorem dX5_sayAt_47 : decode cX5_sayAt 47 = .ok (.if_icmp .ge 17, 3) := by decide +kernel
theorem dX5_sayAt_50 : decode cX5_sayAt 50 = .ok (.aload_n 0, 1) := by decide +kernel
theorem dX5_sayAt_51 : decode cX5_sayAt 51 = .ok (.getfield 21, 3) := by decide +kernel
theorem dX5_sayAt_54 : decode cX5_sayAt 54 = .ok (.iload 4, 2) := by decide +kernel
theorem dX5_sayAt_56 : decode cX5_sayAt 56 = .ok (.iload 5, 2) := by decide +kernel
theorem dX5_sayAt_58 : decode cX5_sayAt 58 = .ok (.iload_n 2, 1) := by decide +kernel
theorem dX5_sayAt_59 : decode cX5_sayAt 59 = .ok (.ior, 1) := by decide +kernel
theorem dX5_sayAt_60 : decode cX5_sayAt 60 = .ok (.iadd, 1) := by decide +kernel
theorem dX5_sayAt_61 : decode cX5_sayAt 61 = .ok (.iload 6, 2) := by decide +kernel
theorem dX5_sayAt_63 : decode cX5_sayAt 63 = .ok (.iastore, 1) := by decide +kernel
theorem dX5_sayAt_64 : decode cX5_sayAt 64 = .ok (.iinc 5 1, 3) := by decide +kernel
theorem dX5_sayAt_67 : decode cX5_sayAt 67 = .ok (.goto (-57), 3) := by decide +kernel
theorem dX5_sayAt_70 : decode cX5_sayAt 70 = .ok (.return_, 1) := by decide +kernel
theorem dX5_walkOn_0 : decode cX5_walkOn 0 = .ok (.iconst 0, 1) := by decide +kernel
theorem dX5_walkOn_1 : decode cX5_walkOn 1 = .ok (.istore_n 1, 1) := by decide +kernel
theorem dX5_walkOn_2 : decode cX5_walkOn 2 = .ok (.iload_n 1, 1) := by decide +kernel
theorem dX5_walkOn_3 : decode cX5_walkOn 3 = .ok (.aload_n 0, 1) := by decide +kernel
theorem dX5_walkOn_4 : decode cX5_walkOn 4 = .ok (.getfield 60, 3) := by decide +kernel
theorem dX5_walkOn_7 : decode cX5_walkOn 7 = .ok (.if_icmp .ge 103, 3) := by decide +kernel
theorem dX5_walkOn_10 : decode cX5_walkOn 10 = .ok (.iconst 0, 1) := by decide +kernel
theorem dX5_walkOn_11 : decode cX5_walkOn 11 = .ok (.istore_n 2, 1) := by decide +kernel
theorem dX5_walkOn_12 : decode cX5_walkOn 12 = .ok (.iload_n 2, 1) := by decide +kernel
theorem dX5_walkOn_13 : decode cX5_walkOn 13 = .ok (.aload_n 0, 1) := by decide +kernel
theorem dX5_walkOn_14 : decode cX5_walkOn 14 = .ok (.getfield 48, 3) := by decide +kernel
theorem dX5_walkOn_17 : decode cX5_walkOn 17 = .ok (.if_icmp .gt 87, 3) := by decide +kernel
theorem dX5_walkOn_20 : decode cX5_walkOn 20 = .ok (.aload_n 0, 1) := by decide +kernel
theorem dX5_walkOn_21 : decode cX5_walkOn 21 = .ok (.getfield 21, 3) := by decide +kernel
theorem dX5_walkOn_24 : decode cX5_walkOn 24 = .ok (.iload_n 1, 1) := by decide +kernel
theorem dX5_walkOn_25 : decode cX5_walkOn 25 = .ok (.sipush 256, 3) := by decide +kernel
theorem dX5_walkOn_28 : decode cX5_walkOn 28 = .ok (.imul, 1) := by decide +kernel
theorem dX5_walkOn_29 : decode cX5_walkOn 29 = .ok (.iload_n 2, 1) := by decide +kernel
theorem dX5_walkOn_30 : decode cX5_walkOn 30 = .ok (.iadd, 1) := by decide +kernel
theorem dX5_walkOn_31 : decode cX5_walkOn 31 = .ok (.iaload, 1) := by decide +kernel
theorem dX5_walkOn_32 : decode cX5_walkOn 32 = .ok (.istore_n 3, 1) := by decide +kernel
theorem dX5_walkOn_33 : decode cX5_walkOn 33 = .ok (.iload_n 1, 1) := by decide +kernel
theorem dX5_walkOn_34 : decode cX5_walkOn 34 = .ok (.ifCond .le 22, 3) := by decide +kernel
theorem dX5_walkOn_37 : decode cX5_walkOn 37 = .ok (.iload_n 3, 1) := by decide +kernel
theorem dX5_walkOn_38 : decode cX5_walkOn 38 = .ok (.aload_n 0, 1) := by decide +kernel
theorem dX5_walkOn_39 : decode cX5_walkOn 39 = .ok (.getfield 21, 3) := by decide +kernel
theorem dX5_walkOn_42 : decode cX5_walkOn 42 = .ok (.iload_n 1, 1) := by decide +kernel
theorem dX5_walkOn_43 : decode cX5_walkOn 43 = .ok (.iconst 1, 1) := by decide +kernel
theorem dX5_walkOn_44 : decode cX5_walkOn 44 = .ok (.isub, 1) := by decide +kernel
theorem dX5_walkOn_45 : decode cX5_walkOn 45 = .ok (.sipush 256, 3) := by decide +kernel
theorem dX5_walkOn_48 : decode cX5_walkOn 48 = .ok (.imul, 1) := by decide +kernel
theorem dX5_walkOn_49 : decode cX5_walkOn 49 = .ok (.iload_n 2, 1) := by decide +kernel
theorem dX5_walkOn_50 : decode cX5_walkOn 50 = .ok (.iadd, 1) := by decide +kernel
theorem dX5_walkOn_51 : decode cX5_walkOn 51 = .ok (.iaload, 1) := by decide +kernel
theorem dX5_walkOn_52 : decode cX5_walkOn 52 = .ok (.invokestatic 72, 3) := by decide +kernel
theorem dX5_walkOn_55 : decode cX5_walkOn 55 = .ok (.istore_n 3, 1) := by decide +kernel
theorem dX5_walkOn_56 : decode cX5_walkOn 56 = .ok (.iload_n 1, 1) := by decide +kernel
theorem dX5_walkOn_57 : decode cX5_walkOn 57 = .ok (.iconst 1, 1) := by decide +kernel
theorem dX5_walkOn_58 : decode cX5_walkOn 58 = .ok (.iadd, 1) := by decide +kernel
theorem dX5_walkOn_59 : decode cX5_walkOn 59 = .ok (.aload_n 0, 1) := by decide +kernel
theorem dX5_walkOn_60 : decode cX5_walkOn 60 = .ok (.getfield 60, 3) := by decide +kernel
theorem dX5_walkOn_63 : decode cX5_walkOn 63 = .ok (.if_icmp .ge 22, 3) := by decide +kernel
theorem dX5_walkOn_66 : decode cX5_walkOn 66 = .ok (.iload_n 3, 1) := by decide +kernel
theorem dX5_walkOn_67 : decode cX5_walkOn 67 = .ok (.aload_n 0, 1) := by decide +kernel
theorem dX5_walkOn_68 : decode cX5_walkOn 68 = .ok (.getfield 21, 3) := by decide +kernel
theorem dX5_walkOn_71 : decode cX5_walkOn 71 = .ok (.iload_n 1, 1) := by decide +kernel
theorem dX5_walkOn_72 : decode cX5_walkOn 72 = .ok (.iconst 1, 1) := by decide +kernel
theorem dX5_walkOn_73 : decode cX5_walkOn 73 = .ok (.iadd, 1) := by decide +kernel
theorem dX5_walkOn_74 : decode cX5_walkOn 74 = .ok (.sipush 256, 3) := by decide +kernel
theorem dX5_walkOn_77 : decode cX5_walkOn 77 = .ok (.imul, 1) := by decide +kernel
theorem dX5_walkOn_78 : decode cX5_walkOn 78 = .ok (.iload_n 2, 1) := by decide +kernel
theorem dX5_walkOn_79 : decode cX5_walkOn 79 = .ok (.iadd, 1) := by decide +kernel
theorem dX5_walkOn_80 : decode cX5_walkOn 80 = .ok (.iaload, 1) := by decide +kernel
theorem dX5_walkOn_81 : decode cX5_walkOn 81 = .ok (.invokestatic 72, 3) := by decide +kernel
theorem dX5_walkOn_84 : decode cX5_walkOn 84 = .ok (.istore_n 3, 1) := by decide +kernel
theorem dX5_walkOn_85 : decode cX5_walkOn 85 = .ok (.aload_n 0, 1) := by decide +kernel
theorem dX5_walkOn_86 : decode cX5_walkOn 86 = .ok (.getfield 24, 3) := by decide +kernel
theorem dX5_walkOn_89 : decode cX5_walkOn 89 = .ok (.iload_n 1, 1) := by decide +kernel
theorem dX5_walkOn_90 : decode cX5_walkOn 90 = .ok (.sipush 256, 3) := by decide +kernel
theorem dX5_walkOn_93 : decode cX5_walkOn 93 = .ok (.imul, 1) := by decide +kernel
theorem dX5_walkOn_94 : decode cX5_walkOn 94 = .ok (.iload_n 2, 1) := by decide +kernel
theorem dX5_walkOn_95 : decode cX5_walkOn 95 = .ok (.iadd, 1) := by decide +kernel
theorem dX5_walkOn_96 : decode cX5_walkOn 96 = .ok (.iload_n 3, 1) := by decide +kernel
theorem dX5_walkOn_97 : decode cX5_walkOn 97 = .ok (.iastore, 1) := by decide +kernel
theorem dX5_walkOn_98 : decode cX5_walkOn 98 = .ok (.iinc 2 1, 3) := by decide +kernel
theorem dX5_walkOn_101 : decode cX5_walkOn 101 = .ok (.goto (-89), 3) := by decide +kernel
theorem dX5_walkOn_104 : decode cX5_walkOn 104 = .ok (.iinc 1 1, 3) := by decide +kernel
theorem dX5_walkOn_107 : decode cX5_walkOn 107 = .ok (.goto (-105), 3) := by decide +kernel
theorem dX5_walkOn_110 : decode cX5_walkOn 110 = .ok (.aload_n 0, 1) := by decide +kernel
theorem dX5_walkOn_111 : decode cX5_walkOn 111 = .ok (.getfield 21, 3) := by decide +kernel
theorem dX5_walkOn_114 : decode cX5_walkOn 114 = .ok (.astore_n 1, 1) := by decide +kernel
theorem dX5_walkOn_115 : decode cX5_walkOn 115 = .ok (.aload_n 0, 1) := by decide +kernel
theorem dX5_walkOn_116 : decode cX5_walkOn 116 = .ok (.aload_n 0, 1) := by decide +kernel
theorem dX5_walkOn_117 : decode cX5_walkOn 117 = .ok (.getfield 24, 3) := by decide +kernel
theorem dX5_walkOn_120 : decode cX5_walkOn 120 = .ok (.putfield 21, 3) := by decide +kernel
theorem dX5_walkOn_123 : decode cX5_walkOn 123 = .ok (.aload_n 0, 1) := by decide +kernel
theorem dX5_walkOn_124 : decode cX5_walkOn 124 = .ok (.aload_n 1, 1) := by decide +kernel
theorem dX5_walkOn_125 : decode cX5_walkOn 125 = .ok (.putfield 24, 3) := by decide +kernel
theorem dX5_walkOn_128 : decode cX5_walkOn 128 = .ok (.return_, 1) := by decide +kernel
theorem dX5_isCheaperNow_0 : decode cX5_isCheaperNow 0 = .ok (.ldc 27, 2) := by decide +kernel
theorem dX5_isCheaperNow_2 : decode cX5_isCheaperNow 2 = .ok (.istore_n 1, 1) := by decide +kernel
theorem dX5_isCheaperNow_3 : decode cX5_isCheaperNow 3 = .ok (.iconst 0, 1) := by decide +kernel
theorem dX5_isCheaperNow_4 : decode cX5_isCheaperNow 4 = .ok (.istore_n 2, 1) := by decide +kernel
theorem dX5_isCheaperNow_5 : decode cX5_isCheaperNow 5 = .ok (.iload_n 2, 1) := by decide +kernel
theorem dX5_isCheaperNow_6 : decode cX5_isCheaperNow 6 = .ok (.aload_n 0, 1) := by decide +kernel
theorem dX5_isCheaperNow_7 : decode cX5_isCheaperNow 7 = .ok (.getfield 60, 3) := by decide +kernel
theorem dX5_isCheaperNow_10 : decode cX5_isCheaperNow 10 = .ok (.if_icmp .ge 29, 3) := by decide +kernel
theorem dX5_isCheaperNow_13 : decode cX5_isCheaperNow 13 = .ok (.iload_n 1, 1) := by decide +kernel
theorem dX5_isCheaperNow_14 : decode cX5_isCheaperNow 14 = .ok (.aload_n 0, 1) := by decide +kernel
theorem dX5_isCheaperNow_15 : decode cX5_isCheaperNow 15 = .ok (.getfield 21, 3) := by decide +kernel
theorem dX5_isCheaperNow_18 : decode cX5_isCheaperNow 18 = .ok (.iload_n 2, 1) := by decide +kernel
theorem dX5_isCheaperNow_19 : decode cX5_isCheaperNow 19 = .ok (.sipush 256, 3) := by decide +kernel
theorem dX5_isCheaperNow_22 : decode cX5_isCheaperNow 22 = .ok (.imul, 1) := by decide +kernel
theorem dX5_isCheaperNow_23 : decode cX5_isCheaperNow 23 = .ok (.aload_n 0, 1) := by decide +kernel
theorem dX5_isCheaperNow_24 : decode cX5_isCheaperNow 24 = .ok (.getfield 48, 3) := by decide +kernel
theorem dX5_isCheaperNow_27 : decode cX5_isCheaperNow 27 = .ok (.iadd, 1) := by decide +kernel
theorem dX5_isCheaperNow_28 : decode cX5_isCheaperNow 28 = .ok (.iaload, 1) := by decide +kernel
theorem dX5_isCheaperNow_29 : decode cX5_isCheaperNow 29 = .ok (.invokestatic 72, 3) := by decide +kernel
theorem dX5_isCheaperNow_32 : decode cX5_isCheaperNow 32 = .ok (.istore_n 1, 1) := by decide +kernel
theorem dX5_isCheaperNow_33 : decode cX5_isCheaperNow 33 = .ok (.iinc 2 1, 3) := by decide +kernel
theorem dX5_isCheaperNow_36 : decode cX5_isCheaperNow 36 = .ok (.goto (-31), 3) := by decide +kernel
theorem dX5_isCheaperNow_39 : decode cX5_isCheaperNow 39 = .ok (.iload_n 1, 1) := by decide +kernel
theorem dX5_isCheaperNow_40 : decode cX5_isCheaperNow 40 = .ok (.aload_n 0, 1) := by decide +kernel
theorem dX5_isCheaperNow_41 : decode cX5_isCheaperNow 41 = .ok (.getfield 63, 3) := by decide +kernel
theorem dX5_isCheaperNow_44 : decode cX5_isCheaperNow 44 = .ok (.if_icmp .lt 5, 3) := by decide +kernel
theorem dX5_isCheaperNow_47 : decode cX5_isCheaperNow 47 = .ok (.iconst 0, 1) := by decide +kernel
theorem dX5_isCheaperNow_48 : decode cX5_isCheaperNow 48 = .ok (.ireturn, 1) := by decide +kernel
theorem dX5_isCheaperNow_49 : decode cX5_isCheaperNow 49 = .ok (.aload_n 0, 1) := by decide +kernel
theorem dX5_isCheaperNow_50 : decode cX5_isCheaperNow 50 = .ok (.iload_n 1, 1) := by decide +kernel
theorem dX5_isCheaperNow_51 : decode cX5_isCheaperNow 51 = .ok (.putfield 63, 3) := by decide +kernel
theorem dX5_isCheaperNow_54 : decode cX5_isCheaperNow 54 = .ok (.iconst 1, 1) := by decide +kernel
theorem dX5_isCheaperNow_55 : decode cX5_isCheaperNow 55 = .ok (.ireturn, 1) := by decide +kernel
theorem dX6_init_0 : decode cX6_init 0 = .ok (.aload_n 0, 1) := by decide +kernel
theorem dX6_init_1 : decode cX6_init 1 = .ok (.invokespecial 1, 3) := by decide +kernel
theorem dX6_init_4 : decode cX6_init 4 = .ok (.aload_n 0, 1) := by decide +kernel
theorem dX6_init_5 : decode cX6_init 5 = .ok (.bipush 12, 2) := by decide +kernel
theorem dX6_init_7 : decode cX6_init 7 = .ok (.newarray .long, 2) := by decide +kernel
theorem dX6_init_9 : decode cX6_init 9 = .ok (.putfield 9, 3) := by decide +kernel
theorem dX6_init_12 : decode cX6_init 12 = .ok (.return_, 1) := by decide +kernel
theorem dX6_clear_0 : decode cX6_clear 0 = .ok (.aload_n 0, 1) := by decide +kernel
theorem dX6_clear_1 : decode cX6_clear 1 = .ok (.iconst 0, 1) := by decide +kernel
theorem dX6_clear_2 : decode cX6_clear 2 = .ok (.putfield 13, 3) := by decide +kernel
theorem dX6_clear_5 : decode cX6_clear 5 = .ok (.return_, 1) := by decide +kernel
theorem dX6_add_0 : decode cX6_add 0 = .ok (.aload_n 0, 1) := by decide +kernel
theorem dX6_add_1 : decode cX6_add 1 = .ok (.getfield 13, 3) := by decide +kernel
theorem dX6_add_4 : decode cX6_add 4 = .ok (.ifCond .lt 32, 3) := by decide +kernel
theorem dX6_add_7 : decode cX6_add 7 = .ok (.aload_n 0, 1) := by decide +kernel
theorem dX6_add_8 : decode cX6_add 8 = .ok (.getfield 13, 3) := by decide +kernel
theorem dX6_add_11 : decode cX6_add 11 = .ok (.bipush 12, 2) := by decide +kernel
theorem dX6_add_13 : decode cX6_add 13 = .ok (.if_icmp .ge 23, 3) := by decide +kernel
theorem dX6_add_16 : decode cX6_add 16 = .ok (.aload_n 0, 1) := by decide +kernel
theorem dX6_add_17 : decode cX6_add 17 = .ok (.getfield 9, 3) := by decide +kernel
theorem dX6_add_20 : decode cX6_add 20 = .ok (.aload_n 0, 1) := by decide +kernel
theorem dX6_add_21 : decode cX6_add 21 = .ok (.getfield 13, 3) := by decide +kernel
theorem dX6_add_24 : decode cX6_add 24 = .ok (.lload_n 1, 1) := by decide +kernel
theorem dX6_add_25 : decode cX6_add 25 = .ok (.lastore, 1) := by decide +kernel
theorem dX6_add_26 : decode cX6_add 26 = .ok (.aload_n 0, 1) := by decide +kernel
theorem dX6_add_27 : decode cX6_add 27 = .ok (.dup, 1) := by decide +kernel
theorem dX6_add_28 : decode cX6_add 28 = .ok (.getfield 13, 3) := by decide +kernel
theorem dX6_add_31 : decode cX6_add 31 = .ok (.iconst 1, 1) := by decide +kernel
theorem dX6_add_32 : decode cX6_add 32 = .ok (.iadd, 1) := by decide +kernel
theorem dX6_add_33 : decode cX6_add 33 = .ok (.putfield 13, 3) := by decide +kernel
theorem dX6_add_36 : decode cX6_add 36 = .ok (.return_, 1) := by decide +kernel
theorem dX6_tell_0 : decode cX6_tell 0 = .ok (.aload_n 0, 1) := by decide +kernel
theorem dX6_tell_1 : decode cX6_tell 1 = .ok (.invokevirtual 17, 3) := by decide +kernel
theorem dX6_tell_4 : decode cX6_tell 4 = .ok (.aload_n 0, 1) := by decide +kernel
theorem dX6_tell_5 : decode cX6_tell 5 = .ok (.lload_n 1, 1) := by decide +kernel
theorem dX6_tell_6 : decode cX6_tell 6 = .ok (.invokevirtual 20, 3) := by decide +kernel
theorem dX6_tell_9 : decode cX6_tell 9 = .ok (.return_, 1) := by decide +kernel
theorem dX6_tell__0 : decode cX6_tell_ 0 = .ok (.aload_n 0, 1) := by decide +kernel
theorem dX6_tell__1 : decode cX6_tell_ 1 = .ok (.invokevirtual 17, 3) := by decide +kernel
theorem dX6_tell__4 : decode cX6_tell_ 4 = .ok (.aload_n 0, 1) := by decide +kernel
theorem dX6_tell__5 : decode cX6_tell_ 5 = .ok (.lload_n 1, 1) := by decide +kernel
theorem dX6_tell__6 : decode cX6_tell_ 6 = .ok (.invokevirtual 20, 3) := by decide +kernel
theorem dX6_tell__9 : decode cX6_tell_ 9 = .ok (.aload_n 0, 1) := by decide +kernel
theorem dX6_tell__10 : decode cX6_tell_ 10 = .ok (.lload_n 3, 1) := by decide +kernel
theorem dX6_tell__11 : decode cX6_tell_ 11 = .ok (.invokevirtual 20, 3) := by decide +kernel
theorem dX6_tell__14 : decode cX6_tell_ 14 = .ok (.return_, 1) := by decide +kernel
theorem dX7_init_0 : decode cX7_init 0 = .ok (.aload_n 0, 1) := by decide +kernel
theorem dX7_init_1 : decode cX7_init 1 = .ok (.invokespecial 3, 3) := by decide +kernel
theorem dX7_init_4 : decode cX7_init 4 = .ok (.aload_n 0, 1) := by decide +kernel
theorem dX7_init_5 : decode cX7_init 5 = .ok (.iconst 4, 1) := by decide +kernel
theorem dX7_init_6 : decode cX7_init 6 = .ok (.newarray .int, 2) := by decide +kernel
theorem dX7_init_8 : decode cX7_init 8 = .ok (.putfield 9, 3) := by decide +kernel
theorem dX7_init_11 : decode cX7_init 11 = .ok (.aload_n 0, 1) := by decide +kernel
theorem dX7_init_12 : decode cX7_init 12 = .ok (.iconst 4, 1) := by decide +kernel
theorem dX7_init_13 : decode cX7_init 13 = .ok (.newarray .int, 2) := by decide +kernel
theorem dX7_init_15 : decode cX7_init 15 = .ok (.putfield 15, 3) := by decide +kernel
theorem dX7_init_18 : decode cX7_init 18 = .ok (.aload_n 0, 1) := by decide +kernel
theorem dX7_init_19 : decode cX7_init 19 = .ok (.iconst 4, 1) := by decide +kernel
theorem dX7_init_20 : decode cX7_init 20 = .ok (.newarray .int, 2) := by decide +kernel
theorem dX7_init_22 : decode cX7_init 22 = .ok (.putfield 18, 3) := by decide +kernel
theorem dX7_init_25 : decode cX7_init 25 = .ok (.aload_n 0, 1) := by decide +kernel
theorem dX7_init_26 : decode cX7_init 26 = .ok (.bipush 30, 2) := by decide +kernel
theorem dX7_init_28 : decode cX7_init 28 = .ok (.newarray .int, 2) := by decide +kernel
theorem dX7_init_30 : decode cX7_init 30 = .ok (.putfield 21, 3) := by decide +kernel
theorem dX7_init_33 : decode cX7_init 33 = .ok (.return_, 1) := by decide +kernel
theorem dX7_copy_0 : decode cX7_copy 0 = .ok (.aload_n 0, 1) := by decide +kernel
theorem dX7_copy_1 : decode cX7_copy 1 = .ok (.aload_n 1, 1) := by decide +kernel
theorem dX7_copy_2 : decode cX7_copy 2 = .ok (.getfield 24, 3) := by decide +kernel
theorem dX7_copy_5 : decode cX7_copy 5 = .ok (.putfield 24, 3) := by decide +kernel
theorem dX7_copy_8 : decode cX7_copy 8 = .ok (.aload_n 0, 1) := by decide +kernel
theorem dX7_copy_9 : decode cX7_copy 9 = .ok (.aload_n 1, 1) := by decide +kernel
theorem dX7_copy_10 : decode cX7_copy 10 = .ok (.getfield 28, 3) := by decide +kernel
theorem dX7_copy_13 : decode cX7_copy 13 = .ok (.putfield 28, 3) := by decide +kernel
theorem dX7_copy_16 : decode cX7_copy 16 = .ok (.aload_n 1, 1) := by decide +kernel
theorem dX7_copy_17 : decode cX7_copy 17 = .ok (.getfield 9, 3) := by decide +kernel
theorem dX7_copy_20 : decode cX7_copy 20 = .ok (.iconst 0, 1) := by decide +kernel
theorem dX7_copy_21 : decode cX7_copy 21 = .ok (.aload_n 0, 1) := by decide +kernel
theorem dX7_copy_22 : decode cX7_copy 22 = .ok (.getfield 9, 3) := by decide +kernel
theorem dX7_copy_25 : decode cX7_copy 25 = .ok (.iconst 0, 1) := by decide +kernel
theorem dX7_copy_26 : decode cX7_copy 26 = .ok (.iconst 4, 1) := by decide +kernel
theorem dX7_copy_27 : decode cX7_copy 27 = .ok (.invokestatic 31, 3) := by decide +kernel
theorem dX7_copy_30 : decode cX7_copy 30 = .ok (.aload_n 1, 1) := by decide +kernel
theorem dX7_copy_31 : decode cX7_copy 31 = .ok (.getfield 15, 3) := by decide +kernel
theorem dX7_copy_34 : decode cX7_copy 34 = .ok (.iconst 0, 1) := by decide +kernel
theorem dX7_copy_35 : decode cX7_copy 35 = .ok (.aload_n 0, 1) := by decide +kernel
theorem dX7_copy_36 : decode cX7_copy 36 = .ok (.getfield 15, 3) := by decide +kernel
theorem dX7_copy_39 : decode cX7_copy 39 = .ok (.iconst 0, 1) := by decide +kernel
theorem dX7_copy_40 : decode cX7_copy 40 = .ok (.iconst 4, 1) := by decide +kernel
theorem dX7_copy_41 : decode cX7_copy 41 = .ok (.invokestatic 31, 3) := by decide +kernel
theorem dX7_copy_44 : decode cX7_copy 44 = .ok (.aload_n 1, 1) := by decide +kernel
theorem dX7_copy_45 : decode cX7_copy 45 = .ok (.getfield 18, 3) := by decide +kernel
theorem dX7_copy_48 : decode cX7_copy 48 = .ok (.iconst 0, 1) := by decide +kernel
theorem dX7_copy_49 : decode cX7_copy 49 = .ok (.aload_n 0, 1) := by decide +kernel
theorem dX7_copy_50 : decode cX7_copy 50 = .ok (.getfield 18, 3) := by decide +kernel
theorem dX7_copy_53 : decode cX7_copy 53 = .ok (.iconst 0, 1) := by decide +kernel
theorem dX7_copy_54 : decode cX7_copy 54 = .ok (.iconst 4, 1) := by decide +kernel
theorem dX7_copy_55 : decode cX7_copy 55 = .ok (.invokestatic 31, 3) := by decide +kernel
theorem dX7_copy_58 : decode cX7_copy 58 = .ok (.aload_n 1, 1) := by decide +kernel
theorem dX7_copy_59 : decode cX7_copy 59 = .ok (.getfield 21, 3) := by decide +kernel
theorem dX7_copy_62 : decode cX7_copy 62 = .ok (.iconst 0, 1) := by decide +kernel
theorem dX7_copy_63 : decode cX7_copy 63 = .ok (.aload_n 0, 1) := by decide +kernel
theorem dX7_copy_64 : decode cX7_copy 64 = .ok (.getfield 21, 3) := by decide +kernel
theorem dX7_copy_67 : decode cX7_copy 67 = .ok (.iconst 0, 1) := by decide +kernel
theorem dX7_copy_68 : decode cX7_copy 68 = .ok (.bipush 30, 2) := by decide +kernel
theorem dX7_copy_70 : decode cX7_copy 70 = .ok (.invokestatic 31, 3) := by decide +kernel
theorem dX7_copy_73 : decode cX7_copy 73 = .ok (.return_, 1) := by decide +kernel
theorem dX7_readTraveller_0 : decode cX7_readTraveller 0 = .ok (.aload_n 0, 1) := by decide +kernel
theorem dX7_readTraveller_1 : decode cX7_readTraveller 1 = .ok (.getfield 9, 3) := by decide +kernel
theorem dX7_readTraveller_4 : decode cX7_readTraveller 4 = .ok (.iload_n 2, 1) := by decide +kernel
theorem dX7_readTraveller_5 : decode cX7_readTraveller 5 = .ok (.aload_n 1, 1) := by decide +kernel
theorem dX7_readTraveller_6 : decode cX7_readTraveller 6 = .ok (.bipush 48, 2) := by decide +kernel
theorem dX7_readTraveller_8 : decode cX7_readTraveller 8 = .ok (.iload_n 3, 1) := by decide +kernel
theorem dX7_readTraveller_9 : decode cX7_readTraveller 9 = .ok (.invokevirtual 37, 3) := by decide +kernel
theorem dX7_readTraveller_12 : decode cX7_readTraveller 12 = .ok (.iastore, 1) := by decide +kernel
theorem dX7_readTraveller_13 : decode cX7_readTraveller 13 = .ok (.aload_n 0, 1) := by decide +kernel
theorem dX7_readTraveller_14 : decode cX7_readTraveller 14 = .ok (.getfield 9, 3) := by decide +kernel
theorem dX7_readTraveller_17 : decode cX7_readTraveller 17 = .ok (.iload_n 2, 1) := by decide +kernel
theorem dX7_readTraveller_18 : decode cX7_readTraveller 18 = .ok (.iaload, 1) := by decide +kernel
theorem dX7_readTraveller_19 : decode cX7_readTraveller 19 = .ok (.ifCond .lt 12, 3) := by decide +kernel
theorem dX7_readTraveller_22 : decode cX7_readTraveller 22 = .ok (.aload_n 1, 1) := by decide +kernel
theorem dX7_readTraveller_23 : decode cX7_readTraveller 23 = .ok (.bipush 58, 2) := by decide +kernel
theorem dX7_readTraveller_25 : decode cX7_readTraveller 25 = .ok (.invokevirtual 43, 3) := by decide +kernel
theorem dX7_readTraveller_28 : decode cX7_readTraveller 28 = .ok (.ifCond .ne 5, 3) := by decide +kernel
theorem dX7_readTraveller_31 : decode cX7_readTraveller 31 = .ok (.iconst 0, 1) := by decide +kernel
theorem dX7_readTraveller_32 : decode cX7_readTraveller 32 = .ok (.ireturn, 1) := by decide +kernel
theorem dX7_readTraveller_33 : decode cX7_readTraveller 33 = .ok (.aload_n 0, 1) := by decide +kernel
theorem dX7_readTraveller_34 : decode cX7_readTraveller 34 = .ok (.getfield 15, 3) := by decide +kernel
theorem dX7_readTraveller_37 : decode cX7_readTraveller 37 = .ok (.iload_n 2, 1) := by decide +kernel
theorem dX7_readTraveller_38 : decode cX7_readTraveller 38 = .ok (.aload_n 1, 1) := by decide +kernel
theorem dX7_readTraveller_39 : decode cX7_readTraveller 39 = .ok (.iconst 3, 1) := by decide +kernel
theorem dX7_readTraveller_40 : decode cX7_readTraveller 40 = .ok (.invokevirtual 47, 3) := by decide +kernel
theorem dX7_readTraveller_43 : decode cX7_readTraveller 43 = .ok (.iastore, 1) := by decide +kernel
theorem dX7_readTraveller_44 : decode cX7_readTraveller 44 = .ok (.aload_n 0, 1) := by decide +kernel
theorem dX7_readTraveller_45 : decode cX7_readTraveller 45 = .ok (.getfield 18, 3) := by decide +kernel
theorem dX7_readTraveller_48 : decode cX7_readTraveller 48 = .ok (.iload_n 2, 1) := by decide +kernel
theorem dX7_readTraveller_49 : decode cX7_readTraveller 49 = .ok (.iconst 0, 1) := by decide +kernel
theorem dX7_readTraveller_50 : decode cX7_readTraveller 50 = .ok (.iastore, 1) := by decide +kernel
theorem dX7_readTraveller_51 : decode cX7_readTraveller 51 = .ok (.aload_n 0, 1) := by decide +kernel
theorem dX7_readTraveller_52 : decode cX7_readTraveller 52 = .ok (.getfield 15, 3) := by decide +kernel
theorem dX7_readTraveller_55 : decode cX7_readTraveller 55 = .ok (.iload_n 2, 1) := by decide +kernel
theorem dX7_readTraveller_56 : decode cX7_readTraveller 56 = .ok (.iaload, 1) := by decide +kernel
theorem dX7_readTraveller_57 : decode cX7_readTraveller 57 = .ok (.ifCond .lt 7, 3) := by decide +kernel
theorem dX7_readTraveller_60 : decode cX7_readTraveller 60 = .ok (.iconst 1, 1) := by decide +kernel
theorem dX7_readTraveller_61 : decode cX7_readTraveller 61 = .ok (.goto 4, 3) := by decide +kernel
theorem dX7_readTraveller_64 : decode cX7_readTraveller 64 = .ok (.iconst 0, 1) := by decide +kernel
theorem dX7_readTraveller_65 : decode cX7_readTraveller 65 = .ok (.ireturn, 1) := by decide +kernel
theorem dX7_closeBooks_0 : decode cX7_closeBooks 0 = .ok (.iload_n 1, 1) := by decide +kernel
theorem dX7_closeBooks_1 : decode cX7_closeBooks 1 = .ok (.iconst 5, 1) := by decide +kernel
theorem dX7_closeBooks_2 : decode cX7_closeBooks 2 = .ok (.imul, 1) := by decide +kernel
theorem dX7_closeBooks_3 : decode cX7_closeBooks 3 = .ok (.istore_n 2, 1) := by decide +kernel
theorem dX7_closeBooks_4 : decode cX7_closeBooks 4 = .ok (.iload_n 2, 1) := by decide +kernel
theorem dX7_closeBooks_5 : decode cX7_closeBooks 5 = .ok (.bipush 30, 2) := by decide +kernel
theorem dX7_closeBooks_7 : decode cX7_closeBooks 7 = .ok (.if_icmp .ge 16, 3) := by decide +kernel
theorem dX7_closeBooks_10 : decode cX7_closeBooks 10 = .ok (.aload_n 0, 1) := by decide +kernel
theorem dX7_closeBooks_11 : decode cX7_closeBooks 11 = .ok (.getfield 21, 3) := by decide +kernel
theorem dX7_closeBooks_14 : decode cX7_closeBooks 14 = .ok (.iload_n 2, 1) := by decide +kernel
theorem dX7_closeBooks_15 : decode cX7_closeBooks 15 = .ok (.iconst 0, 1) := by decide +kernel
theorem dX7_closeBooks_16 : decode cX7_closeBooks 16 = .ok (.iastore, 1) := by decide +kernel
theorem dX7_closeBooks_17 : decode cX7_closeBooks 17 = .ok (.iinc 2 1, 3) := by decide +kernel
theorem dX7_closeBooks_20 : decode cX7_closeBooks 20 = .ok (.goto (-16), 3) := by decide +kernel
theorem dX7_closeBooks_23 : decode cX7_closeBooks 23 = .ok (.return_, 1) := by decide +kernel
theorem dX7_vowelsInBooks_0 : decode cX7_vowelsInBooks 0 = .ok (.iconst 0, 1) := by decide +kernel
theorem dX7_vowelsInBooks_1 : decode cX7_vowelsInBooks 1 = .ok (.istore_n 1, 1) := by decide +kernel
theorem dX7_vowelsInBooks_2 : decode cX7_vowelsInBooks 2 = .ok (.iconst 0, 1) := by decide +kernel
theorem dX7_vowelsInBooks_3 : decode cX7_vowelsInBooks 3 = .ok (.istore_n 2, 1) := by decide +kernel
theorem dX7_vowelsInBooks_4 : decode cX7_vowelsInBooks 4 = .ok (.iload_n 2, 1) := by decide +kernel
theorem dX7_vowelsInBooks_5 : decode cX7_vowelsInBooks 5 = .ok (.bipush 30, 2) := by decide +kernel
theorem dX7_vowelsInBooks_7 : decode cX7_vowelsInBooks 7 = .ok (.if_icmp .ge 18, 3) := by decide +kernel
theorem dX7_vowelsInBooks_10 : decode cX7_vowelsInBooks 10 = .ok (.iload_n 1, 1) := by decide +kernel
theorem dX7_vowelsInBooks_11 : decode cX7_vowelsInBooks 11 = .ok (.aload_n 0, 1) := by decide +kernel
theorem dX7_vowelsInBooks_12 : decode cX7_vowelsInBooks 12 = .ok (.getfield 21, 3) := by decide +kernel
theorem dX7_vowelsInBooks_15 : decode cX7_vowelsInBooks 15 = .ok (.iload_n 2, 1) := by decide +kernel
theorem dX7_vowelsInBooks_16 : decode cX7_vowelsInBooks 16 = .ok (.iaload, 1) := by decide +kernel
theorem dX7_vowelsInBooks_17 : decode cX7_vowelsInBooks 17 = .ok (.iadd, 1) := by decide +kernel
theorem dX7_vowelsInBooks_18 : decode cX7_vowelsInBooks 18 = .ok (.istore_n 1, 1) := by decide +kernel
theorem dX7_vowelsInBooks_19 : decode cX7_vowelsInBooks 19 = .ok (.iinc 2 1, 3) := by decide +kernel
theorem dX7_vowelsInBooks_22 : decode cX7_vowelsInBooks 22 = .ok (.goto (-18), 3) := by decide +kernel
theorem dX7_vowelsInBooks_25 : decode cX7_vowelsInBooks 25 = .ok (.iload_n 1, 1) := by decide +kernel
theorem dX7_vowelsInBooks_26 : decode cX7_vowelsInBooks 26 = .ok (.ireturn, 1) := by decide +kernel
theorem dX8_init_0 : decode cX8_init 0 = .ok (.aload_n 0, 1) := by decide +kernel
theorem dX8_init_1 : decode cX8_init 1 = .ok (.invokespecial 5, 3) := by decide +kernel
theorem dX8_init_4 : decode cX8_init 4 = .ok (.aload_n 0, 1) := by decide +kernel
theorem dX8_init_5 : decode cX8_init 5 = .ok (.iconst 5, 1) := by decide +kernel
theorem dX8_init_6 : decode cX8_init 6 = .ok (.newarray .int, 2) := by decide +kernel
theorem dX8_init_8 : decode cX8_init 8 = .ok (.putfield 11, 3) := by decide +kernel
theorem dX8_init_11 : decode cX8_init 11 = .ok (.aload_n 0, 1) := by decide +kernel
theorem dX8_init_12 : decode cX8_init 12 = .ok (.bipush 40, 2) := by decide +kernel
theorem dX8_init_14 : decode cX8_init 14 = .ok (.newarray .int, 2) := by decide +kernel
theorem dX8_init_16 : decode cX8_init 16 = .ok (.putfield 15, 3) := by decide +kernel
theorem dX8_init_19 : decode cX8_init 19 = .ok (.aload_n 0, 1) := by decide +kernel
theorem dX8_init_20 : decode cX8_init 20 = .ok (.bipush 40, 2) := by decide +kernel
theorem dX8_init_22 : decode cX8_init 22 = .ok (.newarray .int, 2) := by decide +kernel
theorem dX8_init_24 : decode cX8_init 24 = .ok (.putfield 18, 3) := by decide +kernel
theorem dX8_init_27 : decode cX8_init 27 = .ok (.aload_n 0, 1) := by decide +kernel
theorem dX8_init_28 : decode cX8_init 28 = .ok (.bipush 7, 2) := by decide +kernel
theorem dX8_init_30 : decode cX8_init 30 = .ok (.newarray .int, 2) := by decide +kernel
theorem dX8_init_32 : decode cX8_init 32 = .ok (.putfield 21, 3) := by decide +kernel
theorem dX8_init_35 : decode cX8_init 35 = .ok (.aload_n 0, 1) := by decide +kernel
theorem dX8_init_36 : decode cX8_init 36 = .ok (.iconst 0, 1) := by decide +kernel
theorem dX8_init_37 : decode cX8_init 37 = .ok (.putfield 24, 3) := by decide +kernel
theorem dX8_init_40 : decode cX8_init 40 = .ok (.aload_n 0, 1) := by decide +kernel
theorem dX8_init_41 : decode cX8_init 41 = .ok (.invokevirtual 28, 3) := by decide +kernel
theorem dX8_init_44 : decode cX8_init 44 = .ok (.return_, 1) := by decide +kernel
theorem dX8_becomeNone_0 : decode cX8_becomeNone 0 = .ok (.aload_n 0, 1) := by decide +kernel
theorem dX8_becomeNone_1 : decode cX8_becomeNone 1 = .ok (.getfield 15, 3) := by decide +kernel
theorem dX8_becomeNone_4 : decode cX8_becomeNone 4 = .ok (.iconst 0, 1) := by decide +kernel
theorem dX8_becomeNone_5 : decode cX8_becomeNone 5 = .ok (.sipush 1000, 3) := by decide +kernel
theorem dX8_becomeNone_8 : decode cX8_becomeNone 8 = .ok (.iastore, 1) := by decide +kernel
theorem dX8_becomeNone_9 : decode cX8_becomeNone 9 = .ok (.aload_n 0, 1) := by decide +kernel
theorem dX8_becomeNone_10 : decode cX8_becomeNone 10 = .ok (.getfield 15, 3) := by decide +kernel
theorem dX8_becomeNone_13 : decode cX8_becomeNone 13 = .ok (.iconst 1, 1) := by decide +kernel
theorem dX8_becomeNone_14 : decode cX8_becomeNone 14 = .ok (.iconst 1, 1) := by decide +kernel
theorem dX8_becomeNone_15 : decode cX8_becomeNone 15 = .ok (.iastore, 1) := by decide +kernel
theorem dX8_becomeNone_16 : decode cX8_becomeNone 16 = .ok (.aload_n 0, 1) := by decide +kernel
theorem dX8_becomeNone_17 : decode cX8_becomeNone 17 = .ok (.getfield 15, 3) := by decide +kernel
theorem dX8_becomeNone_20 : decode cX8_becomeNone 20 = .ok (.iconst 2, 1) := by decide +kernel
theorem dX8_becomeNone_21 : decode cX8_becomeNone 21 = .ok (.sipush 2043, 3) := by decide +kernel
theorem dX8_becomeNone_24 : decode cX8_becomeNone 24 = .ok (.iastore, 1) := by decide +kernel
theorem dX8_becomeNone_25 : decode cX8_becomeNone 25 = .ok (.aload_n 0, 1) := by decide +kernel
theorem dX8_becomeNone_26 : decode cX8_becomeNone 26 = .ok (.iconst 3, 1) := by decide +kernel
theorem dX8_becomeNone_27 : decode cX8_becomeNone 27 = .ok (.putfield 24, 3) := by decide +kernel
theorem dX8_becomeNone_30 : decode cX8_becomeNone 30 = .ok (.return_, 1) := by decide +kernel
theorem dX8_read_0 : decode cX8_read 0 = .ok (.aload_n 1, 1) := by decide +kernel
theorem dX8_read_1 : decode cX8_read 1 = .ok (.invokevirtual 31, 3) := by decide +kernel
theorem dX8_read_4 : decode cX8_read 4 = .ok (.ifCond .eq 9, 3) := by decide +kernel
theorem dX8_read_7 : decode cX8_read 7 = .ok (.aload_n 0, 1) := by decide +kernel
theorem dX8_read_8 : decode cX8_read 8 = .ok (.invokevirtual 28, 3) := by decide +kernel
theorem dX8_read_11 : decode cX8_read 11 = .ok (.iconst 1, 1) := by decide +kernel
theorem dX8_read_12 : decode cX8_read 12 = .ok (.ireturn, 1) := by decide +kernel
theorem dX8_read_13 : decode cX8_read 13 = .ok (.aload_n 0, 1) := by decide +kernel
theorem dX8_read_14 : decode cX8_read 14 = .ok (.iconst 0, 1) := by decide +kernel
theorem dX8_read_15 : decode cX8_read 15 = .ok (.putfield 24, 3) := by decide +kernel
theorem dX8_read_18 : decode cX8_read 18 = .ok (.aload_n 0, 1) := by decide +kernel
theorem dX8_read_19 : decode cX8_read 19 = .ok (.aload_n 1, 1) := by decide +kernel
theorem dX8_read_20 : decode cX8_read 20 = .ok (.iconst 0, 1) := by decide +kernel
theorem dX8_read_21 : decode cX8_read 21 = .ok (.invokevirtual 37, 3) := by decide +kernel
theorem dX8_read_24 : decode cX8_read 24 = .ok (.ifCond .eq 14, 3) := by decide +kernel
theorem dX8_read_27 : decode cX8_read 27 = .ok (.aload_n 1, 1) := by decide +kernel
theorem dX8_read_28 : decode cX8_read 28 = .ok (.invokevirtual 31, 3) := by decide +kernel
theorem dX8_read_31 : decode cX8_read 31 = .ok (.ifCond .eq 7, 3) := by decide +kernel
theorem dX8_read_34 : decode cX8_read 34 = .ok (.iconst 1, 1) := by decide +kernel
theorem dX8_read_35 : decode cX8_read 35 = .ok (.goto 4, 3) := by decide +kernel
theorem dX8_read_38 : decode cX8_read 38 = .ok (.iconst 0, 1) := by decide +kernel
theorem dX8_read_39 : decode cX8_read 39 = .ok (.ireturn, 1) := by decide +kernel
theorem dX8_readComparison_0 : decode cX8_readComparison 0 = .ok (.aload_n 0, 1) := by decide +kernel
theorem dX8_readComparison_1 : decode cX8_readComparison 1 = .ok (.aload_n 1, 1) := by decide +kernel
theorem dX8_readComparison_2 : decode cX8_readComparison 2 = .ok (.iload_n 2, 1) := by decide +kernel
theorem dX8_readComparison_3 : decode cX8_readComparison 3 = .ok (.invokevirtual 41, 3) := by decide +kernel
theorem dX8_readComparison_6 : decode cX8_readComparison 6 = .ok (.ifCond .ne 5, 3) := by decide +kernel
theorem dX8_readComparison_9 : decode cX8_readComparison 9 = .ok (.iconst 0, 1) := by decide +kernel
theorem dX8_readComparison_10 : decode cX8_readComparison 10 = .ok (.ireturn, 1) := by decide +kernel
theorem dX8_readComparison_11 : decode cX8_readComparison 11 = .ok (.aload_n 1, 1) := by decide +kernel
theorem dX8_readComparison_12 : decode cX8_readComparison 12 = .ok (.bipush 60, 2) := by decide +kernel
theorem dX8_readComparison_14 : decode cX8_readComparison 14 = .ok (.bipush 62, 2) := by decide +kernel
theorem dX8_readComparison_16 : decode cX8_readComparison 16 = .ok (.invokestatic 44, 3) := by decide +kernel
theorem dX8_readComparison_19 : decode cX8_readComparison 19 = .ok (.istore_n 3, 1) := by decide +kernel
theorem dX8_readComparison_20 : decode cX8_readComparison 20 = .ok (.iload_n 3, 1) := by decide +kernel
theorem dX8_readComparison_21 : decode cX8_readComparison 21 = .ok (.iconst (-1), 1) := by decide +kernel
theorem dX8_readComparison_22 : decode cX8_readComparison 22 = .ok (.if_icmp .ne 12, 3) := by decide +kernel
theorem dX8_readComparison_25 : decode cX8_readComparison 25 = .ok (.aload_n 1, 1) := by decide +kernel
theorem dX8_readComparison_26 : decode cX8_readComparison 26 = .ok (.bipush 61, 2) := by decide +kernel
theorem dX8_readComparison_28 : decode cX8_readComparison 28 = .ok (.bipush 61, 2) := by decide +kernel
theorem dX8_readComparison_30 : decode cX8_readComparison 30 = .ok (.invokestatic 44, 3) := by decide +kernel
theorem dX8_readComparison_33 : decode cX8_readComparison 33 = .ok (.istore_n 3, 1) := by decide +kernel
theorem dX8_readComparison_34 : decode cX8_readComparison 34 = .ok (.iload_n 3, 1) := by decide +kernel
theorem dX8_readComparison_35 : decode cX8_readComparison 35 = .ok (.iconst (-1), 1) := by decide +kernel
theorem dX8_readComparison_36 : decode cX8_readComparison 36 = .ok (.if_icmp .eq 24, 3) := by decide +kernel
theorem dX8_readComparison_39 : decode cX8_readComparison 39 = .ok (.aload_n 0, 1) := by decide +kernel
theorem dX8_readComparison_40 : decode cX8_readComparison 40 = .ok (.aload_n 1, 1) := by decide +kernel
theorem dX8_readComparison_41 : decode cX8_readComparison 41 = .ok (.iload_n 2, 1) := by decide +kernel
theorem dX8_readComparison_42 : decode cX8_readComparison 42 = .ok (.invokevirtual 41, 3) := by decide +kernel
theorem dX8_readComparison_45 : decode cX8_readComparison 45 = .ok (.ifCond .eq 19, 3) := by decide +kernel
theorem dX8_readComparison_48 : decode cX8_readComparison 48 = .ok (.aload_n 0, 1) := by decide +kernel
theorem dX8_readComparison_49 : decode cX8_readComparison 49 = .ok (.sipush 2000, 3) := by decide +kernel
theorem dX8_readComparison_52 : decode cX8_readComparison 52 = .ok (.iload_n 3, 1) := by decide +kernel
theorem dX8_readComparison_53 : decode cX8_readComparison 53 = .ok (.iadd, 1) := by decide +kernel
theorem dX8_readComparison_54 : decode cX8_readComparison 54 = .ok (.invokevirtual 48, 3) := by decide +kernel
theorem dX8_readComparison_57 : decode cX8_readComparison 57 = .ok (.ifCond .eq 7, 3) := by decide +kernel
theorem dX8_readComparison_60 : decode cX8_readComparison 60 = .ok (.iconst 1, 1) := by decide +kernel
theorem dX8_readComparison_61 : decode cX8_readComparison 61 = .ok (.goto 4, 3) := by decide +kernel
theorem dX8_readComparison_64 : decode cX8_readComparison 64 = .ok (.iconst 0, 1) := by decide +kernel
theorem dX8_readComparison_65 : decode cX8_readComparison 65 = .ok (.ireturn, 1) := by decide +kernel
theorem dX8_readSum_0 : decode cX8_readSum 0 = .ok (.aload_n 0, 1) := by decide +kernel
theorem dX8_readSum_1 : decode cX8_readSum 1 = .ok (.aload_n 1, 1) := by decide +kernel
theorem dX8_readSum_2 : decode cX8_readSum 2 = .ok (.iload_n 2, 1) := by decide +kernel
theorem dX8_readSum_3 : decode cX8_readSum 3 = .ok (.invokevirtual 52, 3) := by decide +kernel
theorem dX8_readSum_6 : decode cX8_readSum 6 = .ok (.istore_n 3, 1) := by decide +kernel
theorem dX8_readSum_7 : decode cX8_readSum 7 = .ok (.iconst 0, 1) := by decide +kernel
theorem dX8_readSum_8 : decode cX8_readSum 8 = .ok (.istore 4, 2) := by decide +kernel
theorem dX8_readSum_10 : decode cX8_readSum 10 = .ok (.iconst 0, 1) := by decide +kernel
theorem dX8_readSum_11 : decode cX8_readSum 11 = .ok (.istore 5, 2) := by decide +kernel
theorem dX8_readSum_13 : decode cX8_readSum 13 = .ok (.iload 5, 2) := by decide +kernel
theorem dX8_readSum_15 : decode cX8_readSum 15 = .ok (.bipush 40, 2) := by decide +kernel
theorem dX8_readSum_17 : decode cX8_readSum 17 = .ok (.if_icmp .ge 63, 3) := by decide +kernel
theorem dX8_readSum_20 : decode cX8_readSum 20 = .ok (.iload_n 3, 1) := by decide +kernel
theorem dX8_readSum_21 : decode cX8_readSum 21 = .ok (.ifCond .eq 59, 3) := by decide +kernel
theorem dX8_readSum_24 : decode cX8_readSum 24 = .ok (.iload 4, 2) := by decide +kernel
theorem dX8_readSum_26 : decode cX8_readSum 26 = .ok (.iconst (-1), 1) := by decide +kernel
theorem dX8_readSum_27 : decode cX8_readSum 27 = .ok (.if_icmp .eq 53, 3) := by decide +kernel
theorem dX8_readSum_30 : decode cX8_readSum 30 = .ok (.aload_n 1, 1) := by decide +kernel
theorem dX8_readSum_31 : decode cX8_readSum 31 = .ok (.bipush 43, 2) := by decide +kernel
theorem dX8_readSum_33 : decode cX8_readSum 33 = .ok (.bipush 45, 2) := by decide +kernel
theorem dX8_readSum_35 : decode cX8_readSum 35 = .ok (.invokestatic 44, 3) := by decide +kernel
theorem dX8_readSum_38 : decode cX8_readSum 38 = .ok (.istore 4, 2) := by decide +kernel
theorem dX8_readSum_40 : decode cX8_readSum 40 = .ok (.iload 4, 2) := by decide +kernel
theorem dX8_readSum_42 : decode cX8_readSum 42 = .ok (.iconst (-1), 1) := by decide +kernel
theorem dX8_readSum_43 : decode cX8_readSum 43 = .ok (.if_icmp .eq 25, 3) := by decide +kernel
theorem dX8_readSum_46 : decode cX8_readSum 46 = .ok (.aload_n 0, 1) := by decide +kernel
theorem dX8_readSum_47 : decode cX8_readSum 47 = .ok (.aload_n 1, 1) := by decide +kernel
theorem dX8_readSum_48 : decode cX8_readSum 48 = .ok (.iload_n 2, 1) := by decide +kernel
theorem dX8_readSum_49 : decode cX8_readSum 49 = .ok (.invokevirtual 52, 3) := by decide +kernel
theorem dX8_readSum_52 : decode cX8_readSum 52 = .ok (.ifCond .eq 20, 3) := by decide +kernel
theorem dX8_readSum_55 : decode cX8_readSum 55 = .ok (.aload_n 0, 1) := by decide +kernel
theorem dX8_readSum_56 : decode cX8_readSum 56 = .ok (.sipush 2000, 3) := by decide +kernel
theorem dX8_readSum_59 : decode cX8_readSum 59 = .ok (.iload 4, 2) := by decide +kernel
theorem dX8_readSum_61 : decode cX8_readSum 61 = .ok (.iadd, 1) := by decide +kernel
theorem dX8_readSum_62 : decode cX8_readSum 62 = .ok (.invokevirtual 48, 3) := by decide +kernel
theorem dX8_readSum_65 : decode cX8_readSum 65 = .ok (.ifCond .eq 7, 3) := by decide +kernel
theorem dX8_readSum_68 : decode cX8_readSum 68 = .ok (.iconst 1, 1) := by decide +kernel
theorem dX8_readSum_69 : decode cX8_readSum 69 = .ok (.goto 4, 3) := by decide +kernel
theorem dX8_readSum_72 : decode cX8_readSum 72 = .ok (.iconst 0, 1) := by decide +kernel
theorem dX8_readSum_73 : decode cX8_readSum 73 = .ok (.istore_n 3, 1) := by decide +kernel
theorem dX8_readSum_74 : decode cX8_readSum 74 = .ok (.iinc 5 1, 3) := by decide +kernel
theorem dX8_readSum_77 : decode cX8_readSum 77 = .ok (.goto (-64), 3) := by decide +kernel
theorem dX8_readSum_80 : decode cX8_readSum 80 = .ok (.iload_n 3, 1) := by decide +kernel
theorem dX8_readSum_81 : decode cX8_readSum 81 = .ok (.ireturn, 1) := by decide +kernel
theorem dX8_readProduct_0 : decode cX8_readProduct 0 = .ok (.aload_n 0, 1) := by decide +kernel
theorem dX8_readProduct_1 : decode cX8_readProduct 1 = .ok (.aload_n 1, 1) := by decide +kernel
theorem dX8_readProduct_2 : decode cX8_readProduct 2 = .ok (.iload_n 2, 1) := by decide +kernel
theorem dX8_readProduct_3 : decode cX8_readProduct 3 = .ok (.invokevirtual 55, 3) := by decide +kernel
theorem dX8_readProduct_6 : decode cX8_readProduct 6 = .ok (.istore_n 3, 1) := by decide +kernel
theorem dX8_readProduct_7 : decode cX8_readProduct 7 = .ok (.iconst 0, 1) := by decide +kernel
theorem dX8_readProduct_8 : decode cX8_readProduct 8 = .ok (.istore 4, 2) := by decide +kernel
theorem dX8_readProduct_10 : decode cX8_readProduct 10 = .ok (.iconst 0, 1) := by decide +kernel
theorem dX8_readProduct_11 : decode cX8_readProduct 11 = .ok (.istore 5, 2) := by decide +kernel
theorem dX8_readProduct_13 : decode cX8_readProduct 13 = .ok (.iload 5, 2) := by decide +kernel
theorem dX8_readProduct_15 : decode cX8_readProduct 15 = .ok (.bipush 40, 2) := by decide +kernel
theorem dX8_readProduct_17 : decode cX8_readProduct 17 = .ok (.if_icmp .ge 63, 3) := by decide +kernel
theorem dX8_readProduct_20 : decode cX8_readProduct 20 = .ok (.iload_n 3, 1) := by decide +kernel
theorem dX8_readProduct_21 : decode cX8_readProduct 21 = .ok (.ifCond .eq 59, 3) := by decide +kernel
theorem dX8_readProduct_24 : decode cX8_readProduct 24 = .ok (.iload 4, 2) := by decide +kernel
theorem dX8_readProduct_26 : decode cX8_readProduct 26 = .ok (.iconst (-1), 1) := by decide +kernel
theorem dX8_readProduct_27 : decode cX8_readProduct 27 = .ok (.if_icmp .eq 53, 3) := by decide +kernel
theorem dX8_readProduct_30 : decode cX8_readProduct 30 = .ok (.aload_n 1, 1) := by decide +kernel
theorem dX8_readProduct_31 : decode cX8_readProduct 31 = .ok (.bipush 42, 2) := by decide +kernel
theorem dX8_readProduct_33 : decode cX8_readProduct 33 = .ok (.bipush 47, 2) := by decide +kernel
theorem dX8_readProduct_35 : decode cX8_readProduct 35 = .ok (.invokestatic 44, 3) := by decide +kernel
theorem dX8_readProduct_38 : decode cX8_readProduct 38 = .ok (.istore 4, 2) := by decide +kernel
theorem dX8_readProduct_40 : decode cX8_readProduct 40 = .ok (.iload 4, 2) := by decide +kernel
theorem dX8_readProduct_42 : decode cX8_readProduct 42 = .ok (.iconst (-1), 1) := by decide +kernel
theorem dX8_readProduct_43 : decode cX8_readProduct 43 = .ok (.if_icmp .eq 25, 3) := by decide +kernel
theorem dX8_readProduct_46 : decode cX8_readProduct 46 = .ok (.aload_n 0, 1) := by decide +kernel
theorem dX8_readProduct_47 : decode cX8_readProduct 47 = .ok (.aload_n 1, 1) := by decide +kernel
theorem dX8_readProduct_48 : decode cX8_readProduct 48 = .ok (.iload_n 2, 1) := by decide +kernel
theorem dX8_readProduct_49 : decode cX8_readProduct 49 = .ok (.invokevirtual 55, 3) := by decide +kernel
theorem dX8_readProduct_52 : decode cX8_readProduct 52 = .ok (.ifCond .eq 20, 3) := by decide +kernel
theorem dX8_readProduct_55 : decode cX8_readProduct 55 = .ok (.aload_n 0, 1) := by decide +kernel
theorem dX8_readProduct_56 : decode cX8_readProduct 56 = .ok (.sipush 2000, 3) := by decide +kernel
theorem dX8_readProduct_59 : decode cX8_readProduct 59 = .ok (.iload 4, 2) := by decide +kernel
theorem dX8_readProduct_61 : decode cX8_readProduct 61 = .ok (.iadd, 1) := by decide +kernel
theorem dX8_readProduct_62 : decode cX8_readProduct 62 = .ok (.invokevirtual 48, 3) := by decide +kernel
theorem dX8_readProduct_65 : decode cX8_readProduct 65 = .ok (.ifCond .eq 7, 3) := by decide +kernel
theorem dX8_readProduct_68 : decode cX8_readProduct 68 = .ok (.iconst 1, 1) := by decide +kernel
theorem dX8_readProduct_69 : decode cX8_readProduct 69 = .ok (.goto 4, 3) := by decide +kernel
theorem dX8_readProduct_72 : decode cX8_readProduct 72 = .ok (.iconst 0, 1) := by decide +kernel
theorem dX8_readProduct_73 : decode cX8_readProduct 73 = .ok (.istore_n 3, 1) := by decide +kernel
theorem dX8_readProduct_74 : decode cX8_readProduct 74 = .ok (.iinc 5 1, 3) := by decide +kernel
theorem dX8_readProduct_77 : decode cX8_readProduct 77 = .ok (.goto (-64), 3) := by decide +kernel
theorem dX8_readProduct_80 : decode cX8_readProduct 80 = .ok (.iload_n 3, 1) := by decide +kernel
theorem dX8_readProduct_81 : decode cX8_readProduct 81 = .ok (.ireturn, 1) := by decide +kernel
theorem dX8_readFactor_0 : decode cX8_readFactor 0 = .ok (.iconst 0, 1) := by decide +kernel
theorem dX8_readFactor_1 : decode cX8_readFactor 1 = .ok (.istore_n 3, 1) := by decide +kernel
theorem dX8_readFactor_2 : decode cX8_readFactor 2 = .ok (.iload_n 3, 1) := by decide +kernel
theorem dX8_readFactor_3 : decode cX8_readFactor 3 = .ok (.bipush 40, 2) := by decide +kernel
theorem dX8_readFactor_5 : decode cX8_readFactor 5 = .ok (.if_icmp .ge 18, 3) := by decide +kernel
theorem dX8_readFactor_8 : decode cX8_readFactor 8 = .ok (.aload_n 1, 1) := by decide +kernel
theorem dX8_readFactor_9 : decode cX8_readFactor 9 = .ok (.bipush 45, 2) := by decide +kernel
theorem dX8_readFactor_11 : decode cX8_readFactor 11 = .ok (.invokevirtual 58, 3) := by decide +kernel
theorem dX8_readFactor_14 : decode cX8_readFactor 14 = .ok (.ifCond .eq 9, 3) := by decide +kernel
theorem dX8_readFactor_17 : decode cX8_readFactor 17 = .ok (.iinc 3 1, 3) := by decide +kernel
theorem dX8_readFactor_20 : decode cX8_readFactor 20 = .ok (.goto (-18), 3) := by decide +kernel
theorem dX8_readFactor_23 : decode cX8_readFactor 23 = .ok (.aload_n 0, 1) := by decide +kernel
theorem dX8_readFactor_24 : decode cX8_readFactor 24 = .ok (.aload_n 1, 1) := by decide +kernel
theorem dX8_readFactor_25 : decode cX8_readFactor 25 = .ok (.iload_n 2, 1) := by decide +kernel
theorem dX8_readFactor_26 : decode cX8_readFactor 26 = .ok (.invokevirtual 61, 3) := by decide +kernel
theorem dX8_readFactor_29 : decode cX8_readFactor 29 = .ok (.ifCond .eq 23, 3) := by decide +kernel
theorem dX8_readFactor_32 : decode cX8_readFactor 32 = .ok (.iload_n 3, 1) := by decide +kernel
theorem dX8_readFactor_33 : decode cX8_readFactor 33 = .ok (.iconst 2, 1) := by decide +kernel
theorem dX8_readFactor_34 : decode cX8_readFactor 34 = .ok (.irem, 1) := by decide +kernel
theorem dX8_readFactor_35 : decode cX8_readFactor 35 = .ok (.ifCond .eq 13, 3) := by decide +kernel
theorem dX8_readFactor_38 : decode cX8_readFactor 38 = .ok (.aload_n 0, 1) := by decide +kernel
theorem dX8_readFactor_39 : decode cX8_readFactor 39 = .ok (.sipush 2000, 3) := by decide +kernel
theorem dX8_readFactor_42 : decode cX8_readFactor 42 = .ok (.invokevirtual 48, 3) := by decide +kernel
theorem dX8_readFactor_45 : decode cX8_readFactor 45 = .ok (.ifCond .eq 7, 3) := by decide +kernel
theorem dX8_readFactor_48 : decode cX8_readFactor 48 = .ok (.iconst 1, 1) := by decide +kernel
theorem dX8_readFactor_49 : decode cX8_readFactor 49 = .ok (.goto 4, 3) := by decide +kernel
theorem dX8_readFactor_52 : decode cX8_readFactor 52 = .ok (.iconst 0, 1) := by decide +kernel
theorem dX8_readFactor_53 : decode cX8_readFactor 53 = .ok (.ireturn, 1) := by decide +kernel
theorem dX8_readThing_0 : decode cX8_readThing 0 = .ok (.iload_n 2, 1) := by decide +kernel
theorem dX8_readThing_1 : decode cX8_readThing 1 = .ok (.iconst 4, 1) := by decide +kernel
theorem dX8_readThing_2 : decode cX8_readThing 2 = .ok (.if_icmp .ge 38, 3) := by decide +kernel
theorem dX8_readThing_5 : decode cX8_readThing 5 = .ok (.aload_n 1, 1) := by decide +kernel
theorem dX8_readThing_6 : decode cX8_readThing 6 = .ok (.bipush 40, 2) := by decide +kernel
theorem dX8_readThing_8 : decode cX8_readThing 8 = .ok (.invokevirtual 58, 3) := by decide +kernel
theorem dX8_readThing_11 : decode cX8_readThing 11 = .ok (.ifCond .eq 29, 3) := by decide +kernel
theorem dX8_readThing_14 : decode cX8_readThing 14 = .ok (.aload_n 0, 1) := by decide +kernel
theorem dX8_readThing_15 : decode cX8_readThing 15 = .ok (.aload_n 1, 1) := by decide +kernel
theorem dX8_readThing_16 : decode cX8_readThing 16 = .ok (.iload_n 2, 1) := by decide +kernel
theorem dX8_readThing_17 : decode cX8_readThing 17 = .ok (.iconst 1, 1) := by decide +kernel
theorem dX8_readThing_18 : decode cX8_readThing 18 = .ok (.iadd, 1) := by decide +kernel
theorem dX8_readThing_19 : decode cX8_readThing 19 = .ok (.invokevirtual 37, 3) := by decide +kernel
theorem dX8_readThing_22 : decode cX8_readThing 22 = .ok (.ifCond .eq 16, 3) := by decide +kernel
theorem dX8_readThing_25 : decode cX8_readThing 25 = .ok (.aload_n 1, 1) := by decide +kernel
theorem dX8_readThing_26 : decode cX8_readThing 26 = .ok (.bipush 41, 2) := by decide +kernel
theorem dX8_readThing_28 : decode cX8_readThing 28 = .ok (.invokevirtual 58, 3) := by decide +kernel
theorem dX8_readThing_31 : decode cX8_readThing 31 = .ok (.ifCond .eq 7, 3) := by decide +kernel
theorem dX8_readThing_34 : decode cX8_readThing 34 = .ok (.iconst 1, 1) := by decide +kernel
theorem dX8_readThing_35 : decode cX8_readThing 35 = .ok (.goto 4, 3) := by decide +kernel
theorem dX8_readThing_38 : decode cX8_readThing 38 = .ok (.iconst 0, 1) := by decide +kernel
theorem dX8_readThing_39 : decode cX8_readThing 39 = .ok (.ireturn, 1) := by decide +kernel
theorem dX8_readThing_40 : decode cX8_readThing 40 = .ok (.aload_n 1, 1) := by decide +kernel
theorem dX8_readThing_41 : decode cX8_readThing 41 = .ok (.iconst 3, 1) := by decide +kernel
theorem dX8_readThing_42 : decode cX8_readThing 42 = .ok (.invokevirtual 64, 3) := by decide +kernel
theorem dX8_readThing_45 : decode cX8_readThing 45 = .ok (.istore_n 3, 1) := by decide +kernel
theorem dX8_readThing_46 : decode cX8_readThing 46 = .ok (.iload_n 3, 1) := by decide +kernel
theorem dX8_readThing_47 : decode cX8_readThing 47 = .ok (.ifCond .lt 9, 3) := by decide +kernel
theorem dX8_readThing_50 : decode cX8_readThing 50 = .ok (.aload_n 0, 1) := by decide +kernel
theorem dX8_readThing_51 : decode cX8_readThing 51 = .ok (.iload_n 3, 1) := by decide +kernel
theorem dX8_readThing_52 : decode cX8_readThing 52 = .ok (.invokevirtual 48, 3) := by decide +kernel
theorem dX8_readThing_55 : decode cX8_readThing 55 = .ok (.ireturn, 1) := by decide +kernel
theorem dX8_readThing_56 : decode cX8_readThing 56 = .ok (.aload_n 1, 1) := by decide +kernel
theorem dX8_readThing_57 : decode cX8_readThing 57 = .ok (.invokevirtual 68, 3) := by decide +kernel
theorem dX8_readThing_60 : decode cX8_readThing 60 = .ok (.invokestatic 72, 3) := by decide +kernel
theorem dX8_readThing_63 : decode cX8_readThing 63 = .ok (.istore 4, 2) := by decide +kernel
theorem dX8_readThing_65 : decode cX8_readThing 65 = .ok (.iload 4, 2) := by decide +kernel
theorem dX8_readThing_67 : decode cX8_readThing 67 = .ok (.ifCond .lt 31, 3) := by decide +kernel
theorem dX8_readThing_70 : decode cX8_readThing 70 = .ok (.aload_n 1, 1) := by decide +kernel
theorem dX8_readThing_71 : decode cX8_readThing 71 = .ok (.aload_n 1, 1) := by decide +kernel
theorem dX8_readThing_72 : decode cX8_readThing 72 = .ok (.invokevirtual 68, 3) := by decide +kernel
theorem dX8_readThing_75 : decode cX8_readThing 75 = .ok (.invokevirtual 58, 3) := by decide +kernel
theorem dX8_readThing_78 : decode cX8_readThing 78 = .ok (.ifCond .eq 20, 3) := by decide +kernel
theorem dX8_readThing_81 : decode cX8_readThing 81 = .ok (.aload_n 0, 1) := by decide +kernel
theorem dX8_readThing_82 : decode cX8_readThing 82 = .ok (.sipush 1000, 3) := by decide +kernel
theorem dX8_readThing_85 : decode cX8_readThing 85 = .ok (.iload 4, 2) := by decide +kernel
theorem dX8_readThing_87 : decode cX8_readThing 87 = .ok (.iadd, 1) := by decide +kernel
theorem dX8_readThing_88 : decode cX8_readThing 88 = .ok (.invokevirtual 48, 3) := by decide +kernel
theorem dX8_readThing_91 : decode cX8_readThing 91 = .ok (.ifCond .eq 7, 3) := by decide +kernel
theorem dX8_readThing_94 : decode cX8_readThing 94 = .ok (.iconst 1, 1) := by decide +kernel
theorem dX8_readThing_95 : decode cX8_readThing 95 = .ok (.goto 4, 3) := by decide +kernel
theorem dX8_readThing_98 : decode cX8_readThing 98 = .ok (.iconst 0, 1) := by decide +kernel
theorem dX8_readThing_99 : decode cX8_readThing 99 = .ok (.ireturn, 1) := by decide +kernel
theorem dX8_takeEither_0 : decode cX8_takeEither 0 = .ok (.aload_n 0, 1) := by decide +kernel
theorem dX8_takeEither_1 : decode cX8_takeEither 1 = .ok (.iload_n 1, 1) := by decide +kernel
theorem dX8_takeEither_2 : decode cX8_takeEither 2 = .ok (.invokevirtual 58, 3) := by decide +kernel
theorem dX8_takeEither_5 : decode cX8_takeEither 5 = .ok (.ifCond .eq 7, 3) := by decide +kernel
theorem dX8_takeEither_8 : decode cX8_takeEither 8 = .ok (.iload_n 1, 1) := by decide +kernel
theorem dX8_takeEither_9 : decode cX8_takeEither 9 = .ok (.goto 16, 3) := by decide +kernel
theorem dX8_takeEither_12 : decode cX8_takeEither 12 = .ok (.aload_n 0, 1) := by decide +kernel
theorem dX8_takeEither_13 : decode cX8_takeEither 13 = .ok (.iload_n 2, 1) := by decide +kernel
theorem dX8_takeEither_14 : decode cX8_takeEither 14 = .ok (.invokevirtual 58, 3) := by decide +kernel
theorem dX8_takeEither_17 : decode cX8_takeEither 17 = .ok (.ifCond .eq 7, 3) := by decide +kernel
theorem dX8_takeEither_20 : decode cX8_takeEither 20 = .ok (.iload_n 2, 1) := by decide +kernel
theorem dX8_takeEither_21 : decode cX8_takeEither 21 = .ok (.goto 4, 3) := by decide +kernel
theorem dX8_takeEither_24 : decode cX8_takeEither 24 = .ok (.iconst (-1), 1) := by decide +kernel
theorem dX8_takeEither_25 : decode cX8_takeEither 25 = .ok (.ireturn, 1) := by decide +kernel
theorem dX8_put_0 : decode cX8_put 0 = .ok (.aload_n 0, 1) := by decide +kernel
theorem dX8_put_1 : decode cX8_put 1 = .ok (.getfield 24, 3) := by decide +kernel
theorem dX8_put_4 : decode cX8_put 4 = .ok (.bipush 40, 2) := by decide +kernel
theorem dX8_put_6 : decode cX8_put 6 = .ok (.if_icmp .lt 5, 3) := by decide +kernel
theorem dX8_put_9 : decode cX8_put 9 = .ok (.iconst 0, 1) := by decide +kernel
theorem dX8_put_10 : decode cX8_put 10 = .ok (.ireturn, 1) := by decide +kernel
theorem dX8_put_11 : decode cX8_put 11 = .ok (.aload_n 0, 1) := by decide +kernel
theorem dX8_put_12 : decode cX8_put 12 = .ok (.getfield 15, 3) := by decide +kernel
theorem dX8_put_15 : decode cX8_put 15 = .ok (.aload_n 0, 1) := by decide +kernel
theorem dX8_put_16 : decode cX8_put 16 = .ok (.getfield 24, 3) := by decide +kernel
theorem dX8_put_19 : decode cX8_put 19 = .ok (.iload_n 1, 1) := by decide +kernel
theorem dX8_put_20 : decode cX8_put 20 = .ok (.iastore, 1) := by decide +kernel
theorem dX8_put_21 : decode cX8_put 21 = .ok (.aload_n 0, 1) := by decide +kernel
theorem dX8_put_22 : decode cX8_put 22 = .ok (.dup, 1) := by decide +kernel
theorem dX8_put_23 : decode cX8_put 23 = .ok (.getfield 24, 3) := by decide +kernel
theorem dX8_put_26 : decode cX8_put 26 = .ok (.iconst 1, 1) := by decide +kernel
theorem dX8_put_27 : decode cX8_put 27 = .ok (.iadd, 1) := by decide +kernel
theorem dX8_put_28 : decode cX8_put 28 = .ok (.putfield 24, 3) := by decide +kernel
theorem dX8_put_31 : decode cX8_put 31 = .ok (.iconst 1, 1) := by decide +kernel
theorem dX8_put_32 : decode cX8_put 32 = .ok (.ireturn, 1) := by decide +kernel
theorem dX8_factOf_0 : decode cX8_factOf 0 = .ok (.iload_n 0, 1) := by decide +kernel
theorem dX8_factOf_1 : decode cX8_factOf 1 = .ok (.tableswitch 106 100 118 #[103, 106, 106, 106, 95, 106, 106, 106, 97, 106, 101, 106, 99, 106, 106, 93, 106, 106, 91], 91) := by decide +kernel
theorem dX8_factOf_92 : decode cX8_factOf 92 = .ok (.iconst 0, 1) := by decide +kernel
theorem dX8_factOf_93 : decode cX8_factOf 93 = .ok (.ireturn, 1) := by decide +kernel
theorem dX8_factOf_94 : decode cX8_factOf 94 = .ok (.iconst 1, 1) := by decide +kernel
theorem dX8_factOf_95 : decode cX8_factOf 95 = .ok (.ireturn, 1) := by decide +kernel
theorem dX8_factOf_96 : decode cX8_factOf 96 = .ok (.iconst 2, 1) := by decide +kernel
theorem dX8_factOf_97 : decode cX8_factOf 97 = .ok (.ireturn, 1) := by decide +kernel
theorem dX8_factOf_98 : decode cX8_factOf 98 = .ok (.iconst 3, 1) := by decide +kernel
theorem dX8_factOf_99 : decode cX8_factOf 99 = .ok (.ireturn, 1) := by decide +kernel
theorem dX8_factOf_100 : decode cX8_factOf 100 = .ok (.iconst 4, 1) := by decide +kernel
theorem dX8_factOf_101 : decode cX8_factOf 101 = .ok (.ireturn, 1) := by decide +kernel
theorem dX8_factOf_102 : decode cX8_factOf 102 = .ok (.iconst 5, 1) := by decide +kernel
theorem dX8_factOf_103 : decode cX8_factOf 103 = .ok (.ireturn, 1) := by decide +kernel
theorem dX8_factOf_104 : decode cX8_factOf 104 = .ok (.bipush 6, 2) := by decide +kernel
theorem dX8_factOf_106 : decode cX8_factOf 106 = .ok (.ireturn, 1) := by decide +kernel
theorem dX8_factOf_107 : decode cX8_factOf 107 = .ok (.iconst (-1), 1) := by decide +kernel
theorem dX8_factOf_108 : decode cX8_factOf 108 = .ok (.ireturn, 1) := by decide +kernel
theorem dX8_charge_0 : decode cX8_charge 0 = .ok (.aload_n 0, 1) := by decide +kernel
theorem dX8_charge_1 : decode cX8_charge 1 = .ok (.getfield 11, 3) := by decide +kernel
theorem dX8_charge_4 : decode cX8_charge 4 = .ok (.iconst 0, 1) := by decide +kernel
theorem dX8_charge_5 : decode cX8_charge 5 = .ok (.invokestatic 75, 3) := by decide +kernel
theorem dX8_charge_8 : decode cX8_charge 8 = .ok (.aload_n 0, 1) := by decide +kernel
theorem dX8_charge_9 : decode cX8_charge 9 = .ok (.getfield 21, 3) := by decide +kernel
theorem dX8_charge_12 : decode cX8_charge 12 = .ok (.iconst 1, 1) := by decide +kernel
theorem dX8_charge_13 : decode cX8_charge 13 = .ok (.iload_n 3, 1) := by decide +kernel
theorem dX8_charge_14 : decode cX8_charge 14 = .ok (.iastore, 1) := by decide +kernel
theorem dX8_charge_15 : decode cX8_charge 15 = .ok (.aload_n 0, 1) := by decide +kernel
theorem dX8_charge_16 : decode cX8_charge 16 = .ok (.getfield 21, 3) := by decide +kernel
theorem dX8_charge_19 : decode cX8_charge 19 = .ok (.iconst 2, 1) := by decide +kernel
theorem dX8_charge_20 : decode cX8_charge 20 = .ok (.iload 4, 2) := by decide +kernel
theorem dX8_charge_22 : decode cX8_charge 22 = .ok (.bipush 24, 2) := by decide +kernel
theorem dX8_charge_24 : decode cX8_charge 24 = .ok (.irem, 1) := by decide +kernel
theorem dX8_charge_25 : decode cX8_charge 25 = .ok (.iastore, 1) := by decide +kernel
theorem dX8_charge_26 : decode cX8_charge 26 = .ok (.aload_n 0, 1) := by decide +kernel
theorem dX8_charge_27 : decode cX8_charge 27 = .ok (.getfield 21, 3) := by decide +kernel
theorem dX8_charge_30 : decode cX8_charge 30 = .ok (.iconst 3, 1) := by decide +kernel
theorem dX8_charge_31 : decode cX8_charge 31 = .ok (.aload_n 1, 1) := by decide +kernel
theorem dX8_charge_32 : decode cX8_charge 32 = .ok (.getfield 81, 3) := by decide +kernel
theorem dX8_charge_35 : decode cX8_charge 35 = .ok (.iload_n 2, 1) := by decide +kernel
theorem dX8_charge_36 : decode cX8_charge 36 = .ok (.iaload, 1) := by decide +kernel
theorem dX8_charge_37 : decode cX8_charge 37 = .ok (.iastore, 1) := by decide +kernel
theorem dX8_charge_38 : decode cX8_charge 38 = .ok (.aload_n 0, 1) := by decide +kernel
theorem dX8_charge_39 : decode cX8_charge 39 = .ok (.getfield 21, 3) := by decide +kernel
theorem dX8_charge_42 : decode cX8_charge 42 = .ok (.iconst 5, 1) := by decide +kernel
theorem dX8_charge_43 : decode cX8_charge 43 = .ok (.iconst 0, 1) := by decide +kernel
theorem dX8_charge_44 : decode cX8_charge 44 = .ok (.iastore, 1) := by decide +kernel
theorem dX8_charge_45 : decode cX8_charge 45 = .ok (.iconst 0, 1) := by decide +kernel
theorem dX8_charge_46 : decode cX8_charge 46 = .ok (.istore 5, 2) := by decide +kernel
theorem dX8_charge_48 : decode cX8_charge 48 = .ok (.iconst (-1), 1) := by decide +kernel
theorem dX8_charge_49 : decode cX8_charge 49 = .ok (.istore 6, 2) := by decide +kernel
theorem dX8_charge_51 : decode cX8_charge 51 = .ok (.iconst 0, 1) := by decide +kernel
theorem dX8_charge_52 : decode cX8_charge 52 = .ok (.istore 7, 2) := by decide +kernel
theorem dX8_charge_54 : decode cX8_charge 54 = .ok (.iload 7, 2) := by decide +kernel
theorem dX8_charge_56 : decode cX8_charge 56 = .ok (.aload_n 1, 1) := by decide +kernel
theorem dX8_charge_57 : decode cX8_charge 57 = .ok (.getfield 81, 3) := by decide +kernel
theorem dX8_charge_60 : decode cX8_charge 60 = .ok (.iload_n 2, 1) := by decide +kernel
theorem dX8_charge_61 : decode cX8_charge 61 = .ok (.iaload, 1) := by decide +kernel
theorem dX8_charge_62 : decode cX8_charge 62 = .ok (.if_icmp .ge 109, 3) := by decide +kernel
theorem dX8_charge_65 : decode cX8_charge 65 = .ok (.aload_n 1, 1) := by decide +kernel
theorem dX8_charge_66 : decode cX8_charge 66 = .ok (.iload_n 2, 1) := by decide +kernel
theorem dX8_charge_67 : decode cX8_charge 67 = .ok (.iload 7, 2) := by decide +kernel
theorem dX8_charge_69 : decode cX8_charge 69 = .ok (.invokevirtual 86, 3) := by decide +kernel
theorem dX8_charge_72 : decode cX8_charge 72 = .ok (.istore 8, 2) := by decide +kernel
theorem dX8_charge_74 : decode cX8_charge 74 = .ok (.iload 8, 2) := by decide +kernel
theorem dX8_charge_76 : decode cX8_charge 76 = .ok (.invokestatic 90, 3) := by decide +kernel
theorem dX8_charge_79 : decode cX8_charge 79 = .ok (.istore 9, 2) := by decide +kernel
theorem dX8_charge_81 : decode cX8_charge 81 = .ok (.iload 9, 2) := by decide +kernel
theorem dX8_charge_83 : decode cX8_charge 83 = .ok (.ifCond .lt 78, 3) := by decide +kernel
theorem dX8_charge_86 : decode cX8_charge 86 = .ok (.aload_n 0, 1) := by decide +kernel
theorem dX8_charge_87 : decode cX8_charge 87 = .ok (.getfield 21, 3) := by decide +kernel
theorem dX8_charge_90 : decode cX8_charge 90 = .ok (.iconst 0, 1) := by decide +kernel
theorem dX8_charge_91 : decode cX8_charge 91 = .ok (.iload 9, 2) := by decide +kernel
theorem dX8_charge_93 : decode cX8_charge 93 = .ok (.iastore, 1) := by decide +kernel
theorem dX8_charge_94 : decode cX8_charge 94 = .ok (.aload_n 0, 1) := by decide +kernel
theorem dX8_charge_95 : decode cX8_charge 95 = .ok (.getfield 21, 3) := by decide +kernel
theorem dX8_charge_98 : decode cX8_charge 98 = .ok (.iconst 4, 1) := by decide +kernel
theorem dX8_charge_99 : decode cX8_charge 99 = .ok (.iload 7, 2) := by decide +kernel
theorem dX8_charge_101 : decode cX8_charge 101 = .ok (.iastore, 1) := by decide +kernel
theorem dX8_charge_102 : decode cX8_charge 102 = .ok (.aload_n 0, 1) := by decide +kernel
theorem dX8_charge_103 : decode cX8_charge 103 = .ok (.getfield 21, 3) := by decide +kernel
theorem dX8_charge_106 : decode cX8_charge 106 = .ok (.bipush 6, 2) := by decide +kernel
theorem dX8_charge_108 : decode cX8_charge 108 = .ok (.iload 8, 2) := by decide +kernel
theorem dX8_charge_110 : decode cX8_charge 110 = .ok (.iload 6, 2) := by decide +kernel
theorem dX8_charge_112 : decode cX8_charge 112 = .ok (.if_icmp .ne 7, 3) := by decide +kernel
theorem dX8_charge_115 : decode cX8_charge 115 = .ok (.iconst 1, 1) := by decide +kernel
theorem dX8_charge_116 : decode cX8_charge 116 = .ok (.goto 4, 3) := by decide +kernel
theorem dX8_charge_119 : decode cX8_charge 119 = .ok (.iconst 0, 1) := by decide +kernel
theorem dX8_charge_120 : decode cX8_charge 120 = .ok (.iastore, 1) := by decide +kernel
theorem dX8_charge_121 : decode cX8_charge 121 = .ok (.aload_n 0, 1) := by decide +kernel
theorem dX8_charge_122 : decode cX8_charge 122 = .ok (.invokevirtual 93, 3) := by decide +kernel
theorem dX8_charge_125 : decode cX8_charge 125 = .ok (.bipush 99, 2) := by decide +kernel
theorem dX8_charge_127 : decode cX8_charge 127 = .ok (.invokestatic 96, 3) := by decide +kernel
theorem dX8_charge_130 : decode cX8_charge 130 = .ok (.istore 10, 2) := by decide +kernel
theorem dX8_charge_132 : decode cX8_charge 132 = .ok (.aload_n 0, 1) := by decide +kernel
theorem dX8_charge_133 : decode cX8_charge 133 = .ok (.getfield 11, 3) := by decide +kernel
theorem dX8_charge_136 : decode cX8_charge 136 = .ok (.iload 9, 2) := by decide +kernel
theorem dX8_charge_138 : decode cX8_charge 138 = .ok (.dup2, 1) := by decide +kernel
theorem dX8_charge_139 : decode cX8_charge 139 = .ok (.iaload, 1) := by decide +kernel
theorem dX8_charge_140 : decode cX8_charge 140 = .ok (.iload 10, 2) := by decide +kernel
theorem dX8_charge_142 : decode cX8_charge 142 = .ok (.iadd, 1) := by decide +kernel
theorem dX8_charge_143 : decode cX8_charge 143 = .ok (.iastore, 1) := by decide +kernel
theorem dX8_charge_144 : decode cX8_charge 144 = .ok (.iload 5, 2) := by decide +kernel
theorem dX8_charge_146 : decode cX8_charge 146 = .ok (.iload 10, 2) := by decide +kernel
theorem dX8_charge_148 : decode cX8_charge 148 = .ok (.iadd, 1) := by decide +kernel
theorem dX8_charge_149 : decode cX8_charge 149 = .ok (.istore 5, 2) := by decide +kernel
theorem dX8_charge_151 : decode cX8_charge 151 = .ok (.aload_n 0, 1) := by decide +kernel
theorem dX8_charge_152 : decode cX8_charge 152 = .ok (.getfield 21, 3) := by decide +kernel
theorem dX8_charge_155 : decode cX8_charge 155 = .ok (.iconst 5, 1) := by decide +kernel
theorem dX8_charge_156 : decode cX8_charge 156 = .ok (.dup2, 1) := by decide +kernel
theorem dX8_charge_157 : decode cX8_charge 157 = .ok (.iaload, 1) := by decide +kernel
theorem dX8_charge_158 : decode cX8_charge 158 = .ok (.iconst 1, 1) := by decide +kernel
theorem dX8_charge_159 : decode cX8_charge 159 = .ok (.iadd, 1) := by decide +kernel
theorem dX8_charge_160 : decode cX8_charge 160 = .ok (.iastore, 1) := by decide +kernel
theorem dX8_charge_161 : decode cX8_charge 161 = .ok (.iload 8, 2) := by decide +kernel
theorem dX8_charge_163 : decode cX8_charge 163 = .ok (.istore 6, 2) := by decide +kernel
theorem dX8_charge_165 : decode cX8_charge 165 = .ok (.iinc 7 1, 3) := by decide +kernel
theorem dX8_charge_168 : decode cX8_charge 168 = .ok (.goto (-114), 3) := by decide +kernel
theorem dX8_charge_171 : decode cX8_charge 171 = .ok (.iload 5, 2) := by decide +kernel
theorem dX8_charge_173 : decode cX8_charge 173 = .ok (.ireturn, 1) := by decide +kernel
theorem dX8_value_0 : decode cX8_value 0 = .ok (.iconst 0, 1) := by decide +kernel
theorem dX8_value_1 : decode cX8_value 1 = .ok (.istore_n 1, 1) := by decide +kernel
theorem dX8_value_2 : decode cX8_value 2 = .ok (.iconst 0, 1) := by decide +kernel
theorem dX8_value_3 : decode cX8_value 3 = .ok (.istore_n 2, 1) := by decide +kernel
theorem dX8_value_4 : decode cX8_value 4 = .ok (.iload_n 2, 1) := by decide +kernel
theorem dX8_value_5 : decode cX8_value 5 = .ok (.aload_n 0, 1) := by decide +kernel
theorem dX8_value_6 : decode cX8_value 6 = .ok (.getfield 24, 3) := by decide +kernel
theorem dX8_value_9 : decode cX8_value 9 = .ok (.if_icmp .ge 131, 3) := by decide +kernel
theorem dX8_value_12 : decode cX8_value 12 = .ok (.aload_n 0, 1) := by decide +kernel
theorem dX8_value_13 : decode cX8_value 13 = .ok (.getfield 15, 3) := by decide +kernel
theorem dX8_value_16 : decode cX8_value 16 = .ok (.iload_n 2, 1) := by decide +kernel
theorem dX8_value_17 : decode cX8_value 17 = .ok (.iaload, 1) := by decide +kernel
theorem dX8_value_18 : decode cX8_value 18 = .ok (.istore_n 3, 1) := by decide +kernel
theorem dX8_value_19 : decode cX8_value 19 = .ok (.iload_n 3, 1) := by decide +kernel
theorem dX8_value_20 : decode cX8_value 20 = .ok (.sipush 2000, 3) := by decide +kernel
theorem dX8_value_23 : decode cX8_value 23 = .ok (.if_icmp .ge 42, 3) := by decide +kernel
theorem dX8_value_26 : decode cX8_value 26 = .ok (.iload_n 1, 1) := by decide +kernel
theorem dX8_value_27 : decode cX8_value 27 = .ok (.bipush 40, 2) := by decide +kernel
theorem dX8_value_29 : decode cX8_value 29 = .ok (.if_icmp .ge 36, 3) := by decide +kernel
theorem dX8_value_32 : decode cX8_value 32 = .ok (.aload_n 0, 1) := by decide +kernel
theorem dX8_value_33 : decode cX8_value 33 = .ok (.getfield 18, 3) := by decide +kernel
theorem dX8_value_36 : decode cX8_value 36 = .ok (.iload_n 1, 1) := by decide +kernel
theorem dX8_value_37 : decode cX8_value 37 = .ok (.iload_n 3, 1) := by decide +kernel
theorem dX8_value_38 : decode cX8_value 38 = .ok (.sipush 1000, 3) := by decide +kernel
theorem dX8_value_41 : decode cX8_value 41 = .ok (.if_icmp .ge 7, 3) := by decide +kernel
theorem dX8_value_44 : decode cX8_value 44 = .ok (.iload_n 3, 1) := by decide +kernel
theorem dX8_value_45 : decode cX8_value 45 = .ok (.goto 13, 3) := by decide +kernel
theorem dX8_value_48 : decode cX8_value 48 = .ok (.aload_n 0, 1) := by decide +kernel
theorem dX8_value_49 : decode cX8_value 49 = .ok (.getfield 21, 3) := by decide +kernel
theorem dX8_value_52 : decode cX8_value 52 = .ok (.iload_n 3, 1) := by decide +kernel
theorem dX8_value_53 : decode cX8_value 53 = .ok (.sipush 1000, 3) := by decide +kernel
theorem dX8_value_56 : decode cX8_value 56 = .ok (.isub, 1) := by decide +kernel
theorem dX8_value_57 : decode cX8_value 57 = .ok (.iaload, 1) := by decide +kernel
theorem dX8_value_58 : decode cX8_value 58 = .ok (.iastore, 1) := by decide +kernel
theorem dX8_value_59 : decode cX8_value 59 = .ok (.iinc 1 1, 3) := by decide +kernel
theorem dX8_value_62 : decode cX8_value 62 = .ok (.goto 72, 3) := by decide +kernel
theorem dX8_value_65 : decode cX8_value 65 = .ok (.iload_n 3, 1) := by decide +kernel
theorem dX8_value_66 : decode cX8_value 66 = .ok (.sipush 2000, 3) := by decide +kernel
theorem dX8_value_69 : decode cX8_value 69 = .ok (.if_icmp .ne 27, 3) := by decide +kernel
theorem dX8_value_72 : decode cX8_value 72 = .ok (.iload_n 1, 1) := by decide +kernel
theorem dX8_value_73 : decode cX8_value 73 = .ok (.ifCond .le 23, 3) := by decide +kernel
theorem dX8_value_76 : decode cX8_value 76 = .ok (.aload_n 0, 1) := by decide +kernel
theorem dX8_value_77 : decode cX8_value 77 = .ok (.getfield 18, 3) := by decide +kernel
theorem dX8_value_80 : decode cX8_value 80 = .ok (.iload_n 1, 1) := by decide +kernel
theorem dX8_value_81 : decode cX8_value 81 = .ok (.iconst 1, 1) := by decide +kernel
theorem dX8_value_82 : decode cX8_value 82 = .ok (.isub, 1) := by decide +kernel
theorem dX8_value_83 : decode cX8_value 83 = .ok (.aload_n 0, 1) := by decide +kernel
theorem dX8_value_84 : decode cX8_value 84 = .ok (.getfield 18, 3) := by decide +kernel
theorem dX8_value_87 : decode cX8_value 87 = .ok (.iload_n 1, 1) := by decide +kernel
theorem dX8_value_88 : decode cX8_value 88 = .ok (.iconst 1, 1) := by decide +kernel
theorem dX8_value_89 : decode cX8_value 89 = .ok (.isub, 1) := by decide +kernel
theorem dX8_value_90 : decode cX8_value 90 = .ok (.iaload, 1) := by decide +kernel
theorem dX8_value_91 : decode cX8_value 91 = .ok (.ineg, 1) := by decide +kernel
theorem dX8_value_92 : decode cX8_value 92 = .ok (.iastore, 1) := by decide +kernel
theorem dX8_value_93 : decode cX8_value 93 = .ok (.goto 41, 3) := by decide +kernel
theorem dX8_value_96 : decode cX8_value 96 = .ok (.iload_n 1, 1) := by decide +kernel
theorem dX8_value_97 : decode cX8_value 97 = .ok (.iconst 1, 1) := by decide +kernel
theorem dX8_value_98 : decode cX8_value 98 = .ok (.if_icmp .le 36, 3) := by decide +kernel
theorem dX8_value_101 : decode cX8_value 101 = .ok (.iinc 1 (-1), 3) := by decide +kernel
theorem dX8_value_104 : decode cX8_value 104 = .ok (.aload_n 0, 1) := by decide +kernel
theorem dX8_value_105 : decode cX8_value 105 = .ok (.getfield 18, 3) := by decide +kernel
theorem dX8_value_108 : decode cX8_value 108 = .ok (.iload_n 1, 1) := by decide +kernel
theorem dX8_value_109 : decode cX8_value 109 = .ok (.iconst 1, 1) := by decide +kernel
theorem dX8_value_110 : decode cX8_value 110 = .ok (.isub, 1) := by decide +kernel
theorem dX8_value_111 : decode cX8_value 111 = .ok (.iload_n 3, 1) := by decide +kernel
theorem dX8_value_112 : decode cX8_value 112 = .ok (.sipush 2000, 3) := by decide +kernel
theorem dX8_value_115 : decode cX8_value 115 = .ok (.isub, 1) := by decide +kernel
theorem dX8_value_116 : decode cX8_value 116 = .ok (.aload_n 0, 1) := by decide +kernel
theorem dX8_value_117 : decode cX8_value 117 = .ok (.getfield 18, 3) := by decide +kernel
theorem dX8_value_120 : decode cX8_value 120 = .ok (.iload_n 1, 1) := by decide +kernel
theorem dX8_value_121 : decode cX8_value 121 = .ok (.iconst 1, 1) := by decide +kernel
theorem dX8_value_122 : decode cX8_value 122 = .ok (.isub, 1) := by decide +kernel
theorem dX8_value_123 : decode cX8_value 123 = .ok (.iaload, 1) := by decide +kernel
theorem dX8_value_124 : decode cX8_value 124 = .ok (.aload_n 0, 1) := by decide +kernel
theorem dX8_value_125 : decode cX8_value 125 = .ok (.getfield 18, 3) := by decide +kernel
theorem dX8_value_128 : decode cX8_value 128 = .ok (.iload_n 1, 1) := by decide +kernel
theorem dX8_value_129 : decode cX8_value 129 = .ok (.iaload, 1) := by decide +kernel
theorem dX8_value_130 : decode cX8_value 130 = .ok (.invokestatic 99, 3) := by decide +kernel
theorem dX8_value_133 : decode cX8_value 133 = .ok (.iastore, 1) := by decide +kernel
theorem dX8_value_134 : decode cX8_value 134 = .ok (.iinc 2 1, 3) := by decide +kernel
theorem dX8_value_137 : decode cX8_value 137 = .ok (.goto (-133), 3) := by decide +kernel
theorem dX8_value_140 : decode cX8_value 140 = .ok (.aload_n 0, 1) := by decide +kernel
theorem dX8_value_141 : decode cX8_value 141 = .ok (.getfield 18, 3) := by decide +kernel
theorem dX8_value_144 : decode cX8_value 144 = .ok (.iconst 0, 1) := by decide +kernel
theorem dX8_value_145 : decode cX8_value 145 = .ok (.iaload, 1) := by decide +kernel
theorem dX8_value_146 : decode cX8_value 146 = .ok (.ireturn, 1) := by decide +kernel
theorem dX8_joined_0 : decode cX8_joined 0 = .ok (.iload_n 0, 1) := by decide +kernel
theorem dX8_joined_1 : decode cX8_joined 1 = .ok (.lookupswitch 105 #[(42, 67), (43, 59), (45, 63), (47, 71), (60, 83), (62, 94)], 59) := by decide +kernel
theorem dX8_joined_60 : decode cX8_joined 60 = .ok (.iload_n 1, 1) := by decide +kernel
theorem dX8_joined_61 : decode cX8_joined 61 = .ok (.iload_n 2, 1) := by decide +kernel
theorem dX8_joined_62 : decode cX8_joined 62 = .ok (.iadd, 1) := by decide +kernel
theorem dX8_joined_63 : decode cX8_joined 63 = .ok (.ireturn, 1) := by decide +kernel
theorem dX8_joined_64 : decode cX8_joined 64 = .ok (.iload_n 1, 1) := by decide +kernel
theorem dX8_joined_65 : decode cX8_joined 65 = .ok (.iload_n 2, 1) := by decide +kernel
theorem dX8_joined_66 : decode cX8_joined 66 = .ok (.isub, 1) := by decide +kernel
theorem dX8_joined_67 : decode cX8_joined 67 = .ok (.ireturn, 1) := by decide +kernel
theorem dX8_joined_68 : decode cX8_joined 68 = .ok (.iload_n 1, 1) := by decide +kernel
theorem dX8_joined_69 : decode cX8_joined 69 = .ok (.iload_n 2, 1) := by decide +kernel
theorem dX8_joined_70 : decode cX8_joined 70 = .ok (.imul, 1) := by decide +kernel
theorem dX8_joined_71 : decode cX8_joined 71 = .ok (.ireturn, 1) := by decide +kernel
theorem dX8_joined_72 : decode cX8_joined 72 = .ok (.iload_n 2, 1) := by decide +kernel
theorem dX8_joined_73 : decode cX8_joined 73 = .ok (.ifCond .ne 7, 3) := by decide +kernel
theorem dX8_joined_76 : decode cX8_joined 76 = .ok (.iconst 0, 1) := by decide +kernel
theorem dX8_joined_77 : decode cX8_joined 77 = .ok (.goto 6, 3) := by decide +kernel
theorem dX8_joined_80 : decode cX8_joined 80 = .ok (.iload_n 1, 1) := by decide +kernel
theorem dX8_joined_81 : decode cX8_joined 81 = .ok (.iload_n 2, 1) := by decide +kernel
theorem dX8_joined_82 : decode cX8_joined 82 = .ok (.idiv, 1) := by decide +kernel
theorem dX8_joined_83 : decode cX8_joined 83 = .ok (.ireturn, 1) := by decide +kernel
theorem dX8_joined_84 : decode cX8_joined 84 = .ok (.iload_n 1, 1) := by decide +kernel
theorem dX8_joined_85 : decode cX8_joined 85 = .ok (.iload_n 2, 1) := by decide +kernel
theorem dX8_joined_86 : decode cX8_joined 86 = .ok (.if_icmp .ge 7, 3) := by decide +kernel
theorem dX8_joined_89 : decode cX8_joined 89 = .ok (.iconst 1, 1) := by decide +kernel
theorem dX8_joined_90 : decode cX8_joined 90 = .ok (.goto 4, 3) := by decide +kernel
theorem dX8_joined_93 : decode cX8_joined 93 = .ok (.iconst 0, 1) := by decide +kernel
theorem dX8_joined_94 : decode cX8_joined 94 = .ok (.ireturn, 1) := by decide +kernel
theorem dX8_joined_95 : decode cX8_joined 95 = .ok (.iload_n 1, 1) := by decide +kernel
theorem dX8_joined_96 : decode cX8_joined 96 = .ok (.iload_n 2, 1) := by decide +kernel
theorem dX8_joined_97 : decode cX8_joined 97 = .ok (.if_icmp .le 7, 3) := by decide +kernel
theorem dX8_joined_100 : decode cX8_joined 100 = .ok (.iconst 1, 1) := by decide +kernel
theorem dX8_joined_101 : decode cX8_joined 101 = .ok (.goto 4, 3) := by decide +kernel
theorem dX8_joined_104 : decode cX8_joined 104 = .ok (.iconst 0, 1) := by decide +kernel
theorem dX8_joined_105 : decode cX8_joined 105 = .ok (.ireturn, 1) := by decide +kernel
theorem dX8_joined_106 : decode cX8_joined 106 = .ok (.iload_n 1, 1) := by decide +kernel
theorem dX8_joined_107 : decode cX8_joined 107 = .ok (.iload_n 2, 1) := by decide +kernel
theorem dX8_joined_108 : decode cX8_joined 108 = .ok (.if_icmp .ne 7, 3) := by decide +kernel
theorem dX8_joined_111 : decode cX8_joined 111 = .ok (.iconst 1, 1) := by decide +kernel
theorem dX8_joined_112 : decode cX8_joined 112 = .ok (.goto 4, 3) := by decide +kernel
theorem dX8_joined_115 : decode cX8_joined 115 = .ok (.iconst 0, 1) := by decide +kernel
theorem dX8_joined_116 : decode cX8_joined 116 = .ok (.ireturn, 1) := by decide +kernel
theorem dX9_init_0 : decode cX9_init 0 = .ok (.aload_n 0, 1) := by decide +kernel
theorem dX9_init_1 : decode cX9_init 1 = .ok (.invokespecial 3, 3) := by decide +kernel
theorem dX9_init_4 : decode cX9_init 4 = .ok (.aload_n 0, 1) := by decide +kernel
theorem dX9_init_5 : decode cX9_init 5 = .ok (.bipush 80, 2) := by decide +kernel
theorem dX9_init_7 : decode cX9_init 7 = .ok (.newarray .int, 2) := by decide +kernel
theorem dX9_init_9 : decode cX9_init 9 = .ok (.putfield 11, 3) := by decide +kernel
theorem dX9_init_12 : decode cX9_init 12 = .ok (.return_, 1) := by decide +kernel
theorem dX9_addFour_0 : decode cX9_addFour 0 = .ok (.aload_n 0, 1) := by decide +kernel
theorem dX9_addFour_1 : decode cX9_addFour 1 = .ok (.getfield 15, 3) := by decide +kernel
theorem dX9_addFour_4 : decode cX9_addFour 4 = .ok (.ifCond .lt 12, 3) := by decide +kernel
theorem dX9_addFour_7 : decode cX9_addFour 7 = .ok (.aload_n 0, 1) := by decide +kernel
theorem dX9_addFour_8 : decode cX9_addFour 8 = .ok (.getfield 15, 3) := by decide +kernel
theorem dX9_addFour_11 : decode cX9_addFour 11 = .ok (.bipush 76, 2) := by decide +kernel
theorem dX9_addFour_13 : decode cX9_addFour 13 = .ok (.if_icmp .le 5, 3) := by decide +kernel
theorem dX9_addFour_16 : decode cX9_addFour 16 = .ok (.iconst 0, 1) := by decide +kernel
theorem dX9_addFour_17 : decode cX9_addFour 17 = .ok (.ireturn, 1) := by decide +kernel
theorem dX9_addFour_18 : decode cX9_addFour 18 = .ok (.iconst 0, 1) := by decide +kernel
theorem dX9_addFour_19 : decode cX9_addFour 19 = .ok (.istore_n 2, 1) := by decide +kernel
theorem dX9_addFour_20 : decode cX9_addFour 20 = .ok (.iload_n 2, 1) := by decide +kernel
theorem dX9_addFour_21 : decode cX9_addFour 21 = .ok (.iconst 4, 1) := by decide +kernel
theorem dX9_addFour_22 : decode cX9_addFour 22 = .ok (.if_icmp .ge 33, 3) := by decide +kernel
theorem dX9_addFour_25 : decode cX9_addFour 25 = .ok (.aload_n 0, 1) := by decide +kernel
theorem dX9_addFour_26 : decode cX9_addFour 26 = .ok (.getfield 11, 3) := by decide +kernel
theorem dX9_addFour_29 : decode cX9_addFour 29 = .ok (.aload_n 0, 1) := by decide +kernel
theorem dX9_addFour_30 : decode cX9_addFour 30 = .ok (.getfield 15, 3) := by decide +kernel
theorem dX9_addFour_33 : decode cX9_addFour 33 = .ok (.iload_n 2, 1) := by decide +kernel
theorem dX9_addFour_34 : decode cX9_addFour 34 = .ok (.iadd, 1) := by decide +kernel
theorem dX9_addFour_35 : decode cX9_addFour 35 = .ok (.iload_n 1, 1) := by decide +kernel
theorem dX9_addFour_36 : decode cX9_addFour 36 = .ok (.bipush 24, 2) := by decide +kernel
theorem dX9_addFour_38 : decode cX9_addFour 38 = .ok (.bipush 8, 2) := by decide +kernel
theorem dX9_addFour_40 : decode cX9_addFour 40 = .ok (.iload_n 2, 1) := by decide +kernel
theorem dX9_addFour_41 : decode cX9_addFour 41 = .ok (.imul, 1) := by decide +kernel
theorem dX9_addFour_42 : decode cX9_addFour 42 = .ok (.isub, 1) := by decide +kernel
theorem dX9_addFour_43 : decode cX9_addFour 43 = .ok (.iushr, 1) := by decide +kernel
theorem dX9_addFour_44 : decode cX9_addFour 44 = .ok (.sipush 255, 3) := by decide +kernel
theorem dX9_addFour_47 : decode cX9_addFour 47 = .ok (.iand, 1) := by decide +kernel
theorem dX9_addFour_48 : decode cX9_addFour 48 = .ok (.iastore, 1) := by decide +kernel
theorem dX9_addFour_49 : decode cX9_addFour 49 = .ok (.iinc 2 1, 3) := by decide +kernel
theorem dX9_addFour_52 : decode cX9_addFour 52 = .ok (.goto (-32), 3) := by decide +kernel
theorem dX9_addFour_55 : decode cX9_addFour 55 = .ok (.aload_n 0, 1) := by decide +kernel
theorem dX9_addFour_56 : decode cX9_addFour 56 = .ok (.dup, 1) := by decide +kernel
theorem dX9_addFour_57 : decode cX9_addFour 57 = .ok (.getfield 15, 3) := by decide +kernel
theorem dX9_addFour_60 : decode cX9_addFour 60 = .ok (.iconst 4, 1) := by decide +kernel
theorem dX9_addFour_61 : decode cX9_addFour 61 = .ok (.iadd, 1) := by decide +kernel
theorem dX9_addFour_62 : decode cX9_addFour 62 = .ok (.putfield 15, 3) := by decide +kernel
theorem dX9_addFour_65 : decode cX9_addFour 65 = .ok (.iconst 1, 1) := by decide +kernel
theorem dX9_addFour_66 : decode cX9_addFour 66 = .ok (.ireturn, 1) := by decide +kernel
theorem dX9_open_0 : decode cX9_open 0 = .ok (.aload_n 0, 1) := by decide +kernel
theorem dX9_open_1 : decode cX9_open 1 = .ok (.iconst 0, 1) := by decide +kernel
theorem dX9_open_2 : decode cX9_open 2 = .ok (.putfield 19, 3) := by decide +kernel
theorem dX9_open_5 : decode cX9_open 5 = .ok (.aload_n 0, 1) := by decide +kernel
theorem dX9_open_6 : decode cX9_open 6 = .ok (.aload_n 0, 1) := by decide +kernel
theorem dX9_open_7 : decode cX9_open 7 = .ok (.getfield 15, 3) := by decide +kernel
theorem dX9_open_10 : decode cX9_open 10 = .ok (.iload_n 1, 1) := by decide +kernel
theorem dX9_open_11 : decode cX9_open 11 = .ok (.bipush 80, 2) := by decide +kernel
theorem dX9_open_13 : decode cX9_open 13 = .ok (.invokestatic 22, 3) := by decide +kernel
theorem dX9_open_16 : decode cX9_open 16 = .ok (.invokestatic 22, 3) := by decide +kernel
theorem dX9_open_19 : decode cX9_open 19 = .ok (.putfield 28, 3) := by decide +kernel
theorem dX9_open_22 : decode cX9_open 22 = .ok (.return_, 1) := by decide +kernel
theorem dX9_isOver_0 : decode cX9_isOver 0 = .ok (.aload_n 0, 1) := by decide +kernel
theorem dX9_isOver_1 : decode cX9_isOver 1 = .ok (.getfield 19, 3) := by decide +kernel
theorem dX9_isOver_4 : decode cX9_isOver 4 = .ok (.aload_n 0, 1) := by decide +kernel
theorem dX9_isOver_5 : decode cX9_isOver 5 = .ok (.getfield 15, 3) := by decide +kernel
theorem dX9_isOver_8 : decode cX9_isOver 8 = .ok (.if_icmp .ne 7, 3) := by decide +kernel
theorem dX9_isOver_11 : decode cX9_isOver 11 = .ok (.iconst 1, 1) := by decide +kernel
theorem dX9_isOver_12 : decode cX9_isOver 12 = .ok (.goto 4, 3) := by decide +kernel
theorem dX9_isOver_15 : decode cX9_isOver 15 = .ok (.iconst 0, 1) := by decide +kernel
theorem dX9_isOver_16 : decode cX9_isOver 16 = .ok (.ireturn, 1) := by decide +kernel
theorem dX9_fault_0 : decode cX9_fault 0 = .ok (.iconst (-1), 1) := by decide +kernel
theorem dX9_fault_1 : decode cX9_fault 1 = .ok (.aload_n 0, 1) := by decide +kernel
theorem dX9_fault_2 : decode cX9_fault 2 = .ok (.getfield 19, 3) := by decide +kernel
theorem dX9_fault_5 : decode cX9_fault 5 = .ok (.isub, 1) := by decide +kernel
theorem dX9_fault_6 : decode cX9_fault 6 = .ok (.ireturn, 1) := by decide +kernel
theorem dX9_peek_0 : decode cX9_peek 0 = .ok (.aload_n 0, 1) := by decide +kernel
theorem dX9_peek_1 : decode cX9_peek 1 = .ok (.getfield 19, 3) := by decide +kernel
theorem dX9_peek_4 : decode cX9_peek 4 = .ok (.ifCond .lt 26, 3) := by decide +kernel
theorem dX9_peek_7 : decode cX9_peek 7 = .ok (.aload_n 0, 1) := by decide +kernel
theorem dX9_peek_8 : decode cX9_peek 8 = .ok (.getfield 19, 3) := by decide +kernel
theorem dX9_peek_11 : decode cX9_peek 11 = .ok (.aload_n 0, 1) := by decide +kernel
theorem dX9_peek_12 : decode cX9_peek 12 = .ok (.getfield 28, 3) := by decide +kernel
theorem dX9_peek_15 : decode cX9_peek 15 = .ok (.if_icmp .ge 15, 3) := by decide +kernel
theorem dX9_peek_18 : decode cX9_peek 18 = .ok (.aload_n 0, 1) := by decide +kernel
theorem dX9_peek_19 : decode cX9_peek 19 = .ok (.getfield 11, 3) := by decide +kernel
theorem dX9_peek_22 : decode cX9_peek 22 = .ok (.aload_n 0, 1) := by decide +kernel
theorem dX9_peek_23 : decode cX9_peek 23 = .ok (.getfield 19, 3) := by decide +kernel
theorem dX9_peek_26 : decode cX9_peek 26 = .ok (.iaload, 1) := by decide +kernel
theorem dX9_peek_27 : decode cX9_peek 27 = .ok (.goto 4, 3) := by decide +kernel
theorem dX9_peek_30 : decode cX9_peek 30 = .ok (.iconst (-1), 1) := by decide +kernel
theorem dX9_peek_31 : decode cX9_peek 31 = .ok (.ireturn, 1) := by decide +kernel
theorem dX9_take_0 : decode cX9_take 0 = .ok (.aload_n 0, 1) := by decide +kernel
theorem dX9_take_1 : decode cX9_take 1 = .ok (.invokevirtual 31, 3) := by decide +kernel
theorem dX9_take_4 : decode cX9_take 4 = .ok (.iload_n 1, 1) := by decide +kernel
theorem dX9_take_5 : decode cX9_take 5 = .ok (.if_icmp .eq 5, 3) := by decide +kernel
theorem dX9_take_8 : decode cX9_take 8 = .ok (.iconst 0, 1) := by decide +kernel
theorem dX9_take_9 : decode cX9_take 9 = .ok (.ireturn, 1) := by decide +kernel
theorem dX9_take_10 : decode cX9_take 10 = .ok (.aload_n 0, 1) := by decide +kernel
theorem dX9_take_11 : decode cX9_take 11 = .ok (.dup, 1) := by decide +kernel
theorem dX9_take_12 : decode cX9_take 12 = .ok (.getfield 19, 3) := by decide +kernel
theorem dX9_take_15 : decode cX9_take 15 = .ok (.iconst 1, 1) := by decide +kernel
theorem dX9_take_16 : decode cX9_take 16 = .ok (.iadd, 1) := by decide +kernel
theorem dX9_take_17 : decode cX9_take 17 = .ok (.putfield 19, 3) := by decide +kernel
theorem dX9_take_20 : decode cX9_take 20 = .ok (.iconst 1, 1) := by decide +kernel
theorem dX9_take_21 : decode cX9_take 21 = .ok (.ireturn, 1) := by decide +kernel
theorem dX9_takeFrom_0 : decode cX9_takeFrom 0 = .ok (.aload_n 0, 1) := by decide +kernel
theorem dX9_takeFrom_1 : decode cX9_takeFrom 1 = .ok (.getfield 19, 3) := by decide +kernel
theorem dX9_takeFrom_4 : decode cX9_takeFrom 4 = .ok (.ifCond .lt 28, 3) := by decide +kernel
theorem dX9_takeFrom_7 : decode cX9_takeFrom 7 = .ok (.aload_n 0, 1) := by decide +kernel
theorem dX9_takeFrom_8 : decode cX9_takeFrom 8 = .ok (.getfield 19, 3) := by decide +kernel
theorem dX9_takeFrom_11 : decode cX9_takeFrom 11 = .ok (.aload_n 0, 1) := by decide +kernel
theorem dX9_takeFrom_12 : decode cX9_takeFrom 12 = .ok (.getfield 28, 3) := by decide +kernel
theorem dX9_takeFrom_15 : decode cX9_takeFrom 15 = .ok (.if_icmp .ge 17, 3) := by decide +kernel
theorem dX9_takeFrom_18 : decode cX9_takeFrom 18 = .ok (.aload_n 0, 1) := by decide +kernel
theorem dX9_takeFrom_19 : decode cX9_takeFrom 19 = .ok (.getfield 11, 3) := by decide +kernel
theorem dX9_takeFrom_22 : decode cX9_takeFrom 22 = .ok (.aload_n 0, 1) := by decide +kernel
theorem dX9_takeFrom_23 : decode cX9_takeFrom 23 = .ok (.getfield 19, 3) := by decide +kernel
theorem dX9_takeFrom_26 : decode cX9_takeFrom 26 = .ok (.iaload, 1) := by decide +kernel
theorem dX9_takeFrom_27 : decode cX9_takeFrom 27 = .ok (.iload_n 1, 1) := by decide +kernel
theorem dX9_takeFrom_28 : decode cX9_takeFrom 28 = .ok (.isub, 1) := by decide +kernel
theorem dX9_takeFrom_29 : decode cX9_takeFrom 29 = .ok (.goto 4, 3) := by decide +kernel
theorem dX9_takeFrom_32 : decode cX9_takeFrom 32 = .ok (.iconst (-1), 1) := by decide +kernel
theorem dX9_takeFrom_33 : decode cX9_takeFrom 33 = .ok (.istore_n 3, 1) := by decide +kernel
theorem dX9_takeFrom_34 : decode cX9_takeFrom 34 = .ok (.iload_n 3, 1) := by decide +kernel
theorem dX9_takeFrom_35 : decode cX9_takeFrom 35 = .ok (.ifCond .lt 8, 3) := by decide +kernel
theorem dX9_takeFrom_38 : decode cX9_takeFrom 38 = .ok (.iload_n 3, 1) := by decide +kernel
theorem dX9_takeFrom_39 : decode cX9_takeFrom 39 = .ok (.iload_n 2, 1) := by decide +kernel
theorem dX9_takeFrom_40 : decode cX9_takeFrom 40 = .ok (.if_icmp .lt 5, 3) := by decide +kernel
theorem dX9_takeFrom_43 : decode cX9_takeFrom 43 = .ok (.iconst (-1), 1) := by decide +kernel
theorem dX9_takeFrom_44 : decode cX9_takeFrom 44 = .ok (.ireturn, 1) := by decide +kernel
theorem dX9_takeFrom_45 : decode cX9_takeFrom 45 = .ok (.aload_n 0, 1) := by decide +kernel
theorem dX9_takeFrom_46 : decode cX9_takeFrom 46 = .ok (.dup, 1) := by decide +kernel
theorem dX9_takeFrom_47 : decode cX9_takeFrom 47 = .ok (.getfield 19, 3) := by decide +kernel
theorem dX9_takeFrom_50 : decode cX9_takeFrom 50 = .ok (.iconst 1, 1) := by decide +kernel
theorem dX9_takeFrom_51 : decode cX9_takeFrom 51 = .ok (.iadd, 1) := by decide +kernel
theorem dX9_takeFrom_52 : decode cX9_takeFrom 52 = .ok (.putfield 19, 3) := by decide +kernel
theorem dX9_takeFrom_55 : decode cX9_takeFrom 55 = .ok (.iload_n 3, 1) := by decide +kernel
theorem dX9_takeFrom_56 : decode cX9_takeFrom 56 = .ok (.ireturn, 1) := by decide +kernel
theorem dX9_takeNumber_0 : decode cX9_takeNumber 0 = .ok (.aload_n 0, 1) := by decide +kernel
theorem dX9_takeNumber_1 : decode cX9_takeNumber 1 = .ok (.bipush 48, 2) := by decide +kernel
theorem dX9_takeNumber_3 : decode cX9_takeNumber 3 = .ok (.bipush 10, 2) := by decide +kernel
theorem dX9_takeNumber_5 : decode cX9_takeNumber 5 = .ok (.invokevirtual 35, 3) := by decide +kernel
theorem dX9_takeNumber_8 : decode cX9_takeNumber 8 = .ok (.istore_n 2, 1) := by decide +kernel
theorem dX9_takeNumber_9 : decode cX9_takeNumber 9 = .ok (.iconst 1, 1) := by decide +kernel
theorem dX9_takeNumber_10 : decode cX9_takeNumber 10 = .ok (.istore_n 3, 1) := by decide +kernel
theorem dX9_takeNumber_11 : decode cX9_takeNumber 11 = .ok (.iload_n 3, 1) := by decide +kernel
theorem dX9_takeNumber_12 : decode cX9_takeNumber 12 = .ok (.iload_n 1, 1) := by decide +kernel
theorem dX9_takeNumber_13 : decode cX9_takeNumber 13 = .ok (.if_icmp .ge 38, 3) := by decide +kernel
theorem dX9_takeNumber_16 : decode cX9_takeNumber 16 = .ok (.iload_n 2, 1) := by decide +kernel
theorem dX9_takeNumber_17 : decode cX9_takeNumber 17 = .ok (.ifCond .lt 34, 3) := by decide +kernel
theorem dX9_takeNumber_20 : decode cX9_takeNumber 20 = .ok (.aload_n 0, 1) := by decide +kernel
theorem dX9_takeNumber_21 : decode cX9_takeNumber 21 = .ok (.bipush 48, 2) := by decide +kernel
theorem dX9_takeNumber_23 : decode cX9_takeNumber 23 = .ok (.bipush 10, 2) := by decide +kernel
theorem dX9_takeNumber_25 : decode cX9_takeNumber 25 = .ok (.invokevirtual 35, 3) := by decide +kernel
theorem dX9_takeNumber_28 : decode cX9_takeNumber 28 = .ok (.istore 4, 2) := by decide +kernel
theorem dX9_takeNumber_30 : decode cX9_takeNumber 30 = .ok (.iload 4, 2) := by decide +kernel
theorem dX9_takeNumber_32 : decode cX9_takeNumber 32 = .ok (.ifCond .ge 5, 3) := by decide +kernel
theorem dX9_takeNumber_35 : decode cX9_takeNumber 35 = .ok (.iload_n 2, 1) := by decide +kernel
theorem dX9_takeNumber_36 : decode cX9_takeNumber 36 = .ok (.ireturn, 1) := by decide +kernel
theorem dX9_takeNumber_37 : decode cX9_takeNumber 37 = .ok (.iload_n 2, 1) := by decide +kernel
theorem dX9_takeNumber_38 : decode cX9_takeNumber 38 = .ok (.bipush 10, 2) := by decide +kernel
theorem dX9_takeNumber_40 : decode cX9_takeNumber 40 = .ok (.imul, 1) := by decide +kernel
theorem dX9_takeNumber_41 : decode cX9_takeNumber 41 = .ok (.iload 4, 2) := by decide +kernel
theorem dX9_takeNumber_43 : decode cX9_takeNumber 43 = .ok (.iadd, 1) := by decide +kernel
theorem dX9_takeNumber_44 : decode cX9_takeNumber 44 = .ok (.istore_n 2, 1) := by decide +kernel
theorem dX9_takeNumber_45 : decode cX9_takeNumber 45 = .ok (.iinc 3 1, 3) := by decide +kernel
theorem dX9_takeNumber_48 : decode cX9_takeNumber 48 = .ok (.goto (-37), 3) := by decide +kernel
theorem dX9_takeNumber_51 : decode cX9_takeNumber 51 = .ok (.iload_n 2, 1) := by decide +kernel
theorem dX9_takeNumber_52 : decode cX9_takeNumber 52 = .ok (.ireturn, 1) := by decide +kernel
