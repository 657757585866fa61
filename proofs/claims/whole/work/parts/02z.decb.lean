/-! ===== decode rows ===== -/
theorem dX10_word_12 : decode cX10_word 12 = .ok (.iload_n 2, 1) := by decide +kernel
theorem dX10_word_13 : decode cX10_word 13 = .ok (.invokevirtual 125, 3) := by decide +kernel
theorem dX10_word_16 : decode cX10_word 16 = .ok (.invokevirtual 47, 3) := by decide +kernel
theorem dX10_word_19 : decode cX10_word 19 = .ok (.ifCond .ne 5, 3) := by decide +kernel
theorem dX10_word_22 : decode cX10_word 22 = .ok (.iconst 0, 1) := by decide +kernel
theorem dX10_word_23 : decode cX10_word 23 = .ok (.ireturn, 1) := by decide +kernel
theorem dX10_word_24 : decode cX10_word 24 = .ok (.iinc 2 1, 3) := by decide +kernel
theorem dX10_word_27 : decode cX10_word 27 = .ok (.goto (-25), 3) := by decide +kernel
theorem dX10_word_30 : decode cX10_word 30 = .ok (.iconst 1, 1) := by decide +kernel
theorem dX10_word_31 : decode cX10_word 31 = .ok (.ireturn, 1) := by decide +kernel
theorem dX10_oneOf_0 : decode cX10_oneOf 0 = .ok (.iconst 0, 1) := by decide +kernel
theorem dX10_oneOf_1 : decode cX10_oneOf 1 = .ok (.istore_n 2, 1) := by decide +kernel
theorem dX10_oneOf_2 : decode cX10_oneOf 2 = .ok (.iload_n 2, 1) := by decide +kernel
theorem dX10_oneOf_3 : decode cX10_oneOf 3 = .ok (.aload_n 1, 1) := by decide +kernel
theorem dX10_oneOf_4 : decode cX10_oneOf 4 = .ok (.invokevirtual 121, 3) := by decide +kernel
theorem dX10_oneOf_7 : decode cX10_oneOf 7 = .ok (.if_icmp .ge 23, 3) := by decide +kernel
theorem dX10_oneOf_10 : decode cX10_oneOf 10 = .ok (.aload_n 0, 1) := by decide +kernel
theorem dX10_oneOf_11 : decode cX10_oneOf 11 = .ok (.aload_n 1, 1) := by decide +kernel
theorem dX10_oneOf_12 : decode cX10_oneOf 12 = .ok (.iload_n 2, 1) := by decide +kernel
theorem dX10_oneOf_13 : decode cX10_oneOf 13 = .ok (.invokevirtual 125, 3) := by decide +kernel
theorem dX10_oneOf_16 : decode cX10_oneOf 16 = .ok (.invokevirtual 47, 3) := by decide +kernel
theorem dX10_oneOf_19 : decode cX10_oneOf 19 = .ok (.ifCond .eq 5, 3) := by decide +kernel
theorem dX10_oneOf_22 : decode cX10_oneOf 22 = .ok (.iload_n 2, 1) := by decide +kernel
theorem dX10_oneOf_23 : decode cX10_oneOf 23 = .ok (.ireturn, 1) := by decide +kernel
theorem dX10_oneOf_24 : decode cX10_oneOf 24 = .ok (.iinc 2 1, 3) := by decide +kernel
theorem dX10_oneOf_27 : decode cX10_oneOf 27 = .ok (.goto (-25), 3) := by decide +kernel
theorem dX10_oneOf_30 : decode cX10_oneOf 30 = .ok (.iconst (-1), 1) := by decide +kernel
theorem dX10_oneOf_31 : decode cX10_oneOf 31 = .ok (.ireturn, 1) := by decide +kernel
theorem dX11_init_0 : decode cX11_init 0 = .ok (.aload_n 0, 1) := by decide +kernel
theorem dX11_init_1 : decode cX11_init 1 = .ok (.invokespecial 3, 3) := by decide +kernel
theorem dX11_init_4 : decode cX11_init 4 = .ok (.aload_n 0, 1) := by decide +kernel
theorem dX11_init_5 : decode cX11_init 5 = .ok (.bipush 6, 2) := by decide +kernel
theorem dX11_init_7 : decode cX11_init 7 = .ok (.iconst 4, 1) := by decide +kernel
theorem dX11_init_8 : decode cX11_init 8 = .ok (.multianewarray 11 2, 4) := by decide +kernel
theorem dX11_init_12 : decode cX11_init 12 = .ok (.putfield 13, 3) := by decide +kernel
theorem dX11_init_15 : decode cX11_init 15 = .ok (.aload_n 0, 1) := by decide +kernel
theorem dX11_init_16 : decode cX11_init 16 = .ok (.bipush 100, 2) := by decide +kernel
theorem dX11_init_18 : decode cX11_init 18 = .ok (.newarray .byte, 2) := by decide +kernel
theorem dX11_init_20 : decode cX11_init 20 = .ok (.putfield 16, 3) := by decide +kernel
theorem dX11_init_23 : decode cX11_init 23 = .ok (.aload_n 0, 1) := by decide +kernel
theorem dX11_init_24 : decode cX11_init 24 = .ok (.bipush 6, 2) := by decide +kernel
theorem dX11_init_26 : decode cX11_init 26 = .ok (.anewarray 20, 3) := by decide +kernel
theorem dX11_init_29 : decode cX11_init 29 = .ok (.putfield 22, 3) := by decide +kernel
theorem dX11_init_32 : decode cX11_init 32 = .ok (.aload_n 0, 1) := by decide +kernel
theorem dX11_init_33 : decode cX11_init 33 = .ok (.new 20, 3) := by decide +kernel
theorem dX11_init_36 : decode cX11_init 36 = .ok (.dup, 1) := by decide +kernel
theorem dX11_init_37 : decode cX11_init 37 = .ok (.invokespecial 26, 3) := by decide +kernel
theorem dX11_init_40 : decode cX11_init 40 = .ok (.putfield 27, 3) := by decide +kernel
theorem dX11_init_43 : decode cX11_init 43 = .ok (.aload_n 0, 1) := by decide +kernel
theorem dX11_init_44 : decode cX11_init 44 = .ok (.bipush 10, 2) := by decide +kernel
theorem dX11_init_46 : decode cX11_init 46 = .ok (.anewarray 31, 3) := by decide +kernel
theorem dX11_init_49 : decode cX11_init 49 = .ok (.putfield 33, 3) := by decide +kernel
theorem dX11_init_52 : decode cX11_init 52 = .ok (.aload_n 0, 1) := by decide +kernel
theorem dX11_init_53 : decode cX11_init 53 = .ok (.new 31, 3) := by decide +kernel
theorem dX11_init_56 : decode cX11_init 56 = .ok (.dup, 1) := by decide +kernel
theorem dX11_init_57 : decode cX11_init 57 = .ok (.iconst 0, 1) := by decide +kernel
theorem dX11_init_58 : decode cX11_init 58 = .ok (.iconst 1, 1) := by decide +kernel
theorem dX11_init_59 : decode cX11_init 59 = .ok (.invokespecial 37, 3) := by decide +kernel
theorem dX11_init_62 : decode cX11_init 62 = .ok (.putfield 40, 3) := by decide +kernel
theorem dX11_init_65 : decode cX11_init 65 = .ok (.aload_n 0, 1) := by decide +kernel
theorem dX11_init_66 : decode cX11_init 66 = .ok (.new 44, 3) := by decide +kernel
theorem dX11_init_69 : decode cX11_init 69 = .ok (.dup, 1) := by decide +kernel
theorem dX11_init_70 : decode cX11_init 70 = .ok (.invokespecial 46, 3) := by decide +kernel
theorem dX11_init_73 : decode cX11_init 73 = .ok (.putfield 47, 3) := by decide +kernel
theorem dX11_init_76 : decode cX11_init 76 = .ok (.aload_n 0, 1) := by decide +kernel
theorem dX11_init_77 : decode cX11_init 77 = .ok (.new 44, 3) := by decide +kernel
theorem dX11_init_80 : decode cX11_init 80 = .ok (.dup, 1) := by decide +kernel
theorem dX11_init_81 : decode cX11_init 81 = .ok (.invokespecial 46, 3) := by decide +kernel
theorem dX11_init_84 : decode cX11_init 84 = .ok (.putfield 51, 3) := by decide +kernel
theorem dX11_init_87 : decode cX11_init 87 = .ok (.aload_n 0, 1) := by decide +kernel
theorem dX11_init_88 : decode cX11_init 88 = .ok (.new 44, 3) := by decide +kernel
theorem dX11_init_91 : decode cX11_init 91 = .ok (.dup, 1) := by decide +kernel
theorem dX11_init_92 : decode cX11_init 92 = .ok (.invokespecial 46, 3) := by decide +kernel
theorem dX11_init_95 : decode cX11_init 95 = .ok (.putfield 54, 3) := by decide +kernel
theorem dX11_init_98 : decode cX11_init 98 = .ok (.aload_n 0, 1) := by decide +kernel
theorem dX11_init_99 : decode cX11_init 99 = .ok (.new 57, 3) := by decide +kernel
theorem dX11_init_102 : decode cX11_init 102 = .ok (.dup, 1) := by decide +kernel
theorem dX11_init_103 : decode cX11_init 103 = .ok (.aload_n 0, 1) := by decide +kernel
theorem dX11_init_104 : decode cX11_init 104 = .ok (.getfield 13, 3) := by decide +kernel
theorem dX11_init_107 : decode cX11_init 107 = .ok (.invokespecial 59, 3) := by decide +kernel
theorem dX11_init_110 : decode cX11_init 110 = .ok (.putfield 62, 3) := by decide +kernel
theorem dX11_init_113 : decode cX11_init 113 = .ok (.aload_n 0, 1) := by decide +kernel
theorem dX11_init_114 : decode cX11_init 114 = .ok (.bipush 6, 2) := by decide +kernel
theorem dX11_init_116 : decode cX11_init 116 = .ok (.newarray .int, 2) := by decide +kernel
theorem dX11_init_118 : decode cX11_init 118 = .ok (.putfield 66, 3) := by decide +kernel
theorem dX11_init_121 : decode cX11_init 121 = .ok (.aload_n 0, 1) := by decide +kernel
theorem dX11_init_122 : decode cX11_init 122 = .ok (.bipush 6, 2) := by decide +kernel
theorem dX11_init_124 : decode cX11_init 124 = .ok (.anewarray 70, 3) := by decide +kernel
theorem dX11_init_127 : decode cX11_init 127 = .ok (.putfield 72, 3) := by decide +kernel
theorem dX11_init_130 : decode cX11_init 130 = .ok (.iconst 0, 1) := by decide +kernel
theorem dX11_init_131 : decode cX11_init 131 = .ok (.istore_n 1, 1) := by decide +kernel
theorem dX11_init_132 : decode cX11_init 132 = .ok (.iload_n 1, 1) := by decide +kernel
theorem dX11_init_133 : decode cX11_init 133 = .ok (.bipush 6, 2) := by decide +kernel
theorem dX11_init_135 : decode cX11_init 135 = .ok (.if_icmp .ge 22, 3) := by decide +kernel
theorem dX11_init_138 : decode cX11_init 138 = .ok (.aload_n 0, 1) := by decide +kernel
theorem dX11_init_139 : decode cX11_init 139 = .ok (.getfield 22, 3) := by decide +kernel
theorem dX11_init_142 : decode cX11_init 142 = .ok (.iload_n 1, 1) := by decide +kernel
theorem dX11_init_143 : decode cX11_init 143 = .ok (.new 20, 3) := by decide +kernel
theorem dX11_init_146 : decode cX11_init 146 = .ok (.dup, 1) := by decide +kernel
theorem dX11_init_147 : decode cX11_init 147 = .ok (.invokespecial 26, 3) := by decide +kernel
theorem dX11_init_150 : decode cX11_init 150 = .ok (.aastore, 1) := by decide +kernel
theorem dX11_init_151 : decode cX11_init 151 = .ok (.iinc 1 1, 3) := by decide +kernel
theorem dX11_init_154 : decode cX11_init 154 = .ok (.goto (-22), 3) := by decide +kernel
theorem dX11_init_157 : decode cX11_init 157 = .ok (.iconst 0, 1) := by decide +kernel
theorem dX11_init_158 : decode cX11_init 158 = .ok (.istore_n 1, 1) := by decide +kernel
theorem dX11_init_159 : decode cX11_init 159 = .ok (.iload_n 1, 1) := by decide +kernel
theorem dX11_init_160 : decode cX11_init 160 = .ok (.bipush 6, 2) := by decide +kernel
theorem dX11_init_162 : decode cX11_init 162 = .ok (.if_icmp .ge 22, 3) := by decide +kernel
theorem dX11_init_165 : decode cX11_init 165 = .ok (.aload_n 0, 1) := by decide +kernel
theorem dX11_init_166 : decode cX11_init 166 = .ok (.getfield 72, 3) := by decide +kernel
theorem dX11_init_169 : decode cX11_init 169 = .ok (.iload_n 1, 1) := by decide +kernel
theorem dX11_init_170 : decode cX11_init 170 = .ok (.new 70, 3) := by decide +kernel
theorem dX11_init_173 : decode cX11_init 173 = .ok (.dup, 1) := by decide +kernel
theorem dX11_init_174 : decode cX11_init 174 = .ok (.invokespecial 76, 3) := by decide +kernel
theorem dX11_init_177 : decode cX11_init 177 = .ok (.aastore, 1) := by decide +kernel
theorem dX11_init_178 : decode cX11_init 178 = .ok (.iinc 1 1, 3) := by decide +kernel
theorem dX11_init_181 : decode cX11_init 181 = .ok (.goto (-22), 3) := by decide +kernel
theorem dX11_init_184 : decode cX11_init 184 = .ok (.return_, 1) := by decide +kernel
theorem dX11_sort_0 : decode cX11_sort 0 = .ok (.iload_n 1, 1) := by decide +kernel
theorem dX11_sort_1 : decode cX11_sort 1 = .ok (.iconst 0, 1) := by decide +kernel
theorem dX11_sort_2 : decode cX11_sort 2 = .ok (.bipush 9, 2) := by decide +kernel
theorem dX11_sort_4 : decode cX11_sort 4 = .ok (.invokestatic 77, 3) := by decide +kernel
theorem dX11_sort_7 : decode cX11_sort 7 = .ok (.ifCond .ne 34, 3) := by decide +kernel
theorem dX11_sort_10 : decode cX11_sort 10 = .ok (.iload_n 2, 1) := by decide +kernel
theorem dX11_sort_11 : decode cX11_sort 11 = .ok (.iconst 0, 1) := by decide +kernel
theorem dX11_sort_12 : decode cX11_sort 12 = .ok (.bipush 99, 2) := by decide +kernel
theorem dX11_sort_14 : decode cX11_sort 14 = .ok (.invokestatic 77, 3) := by decide +kernel
theorem dX11_sort_17 : decode cX11_sort 17 = .ok (.ifCond .ne 24, 3) := by decide +kernel
theorem dX11_sort_20 : decode cX11_sort 20 = .ok (.iload_n 3, 1) := by decide +kernel
theorem dX11_sort_21 : decode cX11_sort 21 = .ok (.iconst 0, 1) := by decide +kernel
theorem dX11_sort_22 : decode cX11_sort 22 = .ok (.bipush 20, 2) := by decide +kernel
theorem dX11_sort_24 : decode cX11_sort 24 = .ok (.invokestatic 77, 3) := by decide +kernel
theorem dX11_sort_27 : decode cX11_sort 27 = .ok (.ifCond .ne 14, 3) := by decide +kernel
theorem dX11_sort_30 : decode cX11_sort 30 = .ok (.iload 4, 2) := by decide +kernel
theorem dX11_sort_32 : decode cX11_sort 32 = .ok (.iconst 1, 1) := by decide +kernel
theorem dX11_sort_33 : decode cX11_sort 33 = .ok (.bipush 9, 2) := by decide +kernel
theorem dX11_sort_35 : decode cX11_sort 35 = .ok (.invokestatic 77, 3) := by decide +kernel
theorem dX11_sort_38 : decode cX11_sort 38 = .ok (.ifCond .eq 6, 3) := by decide +kernel
theorem dX11_sort_41 : decode cX11_sort 41 = .ok (.bipush (-2), 2) := by decide +kernel
theorem dX11_sort_43 : decode cX11_sort 43 = .ok (.ireturn, 1) := by decide +kernel
theorem dX11_sort_44 : decode cX11_sort 44 = .ok (.aload_n 0, 1) := by decide +kernel
theorem dX11_sort_45 : decode cX11_sort 45 = .ok (.getfield 81, 3) := by decide +kernel
theorem dX11_sort_48 : decode cX11_sort 48 = .ok (.bipush 6, 2) := by decide +kernel
theorem dX11_sort_50 : decode cX11_sort 50 = .ok (.if_icmp .lt 6, 3) := by decide +kernel
theorem dX11_sort_53 : decode cX11_sort 53 = .ok (.bipush (-4), 2) := by decide +kernel
theorem dX11_sort_55 : decode cX11_sort 55 = .ok (.ireturn, 1) := by decide +kernel
theorem dX11_sort_56 : decode cX11_sort 56 = .ok (.aload_n 0, 1) := by decide +kernel
theorem dX11_sort_57 : decode cX11_sort 57 = .ok (.getfield 13, 3) := by decide +kernel
theorem dX11_sort_60 : decode cX11_sort 60 = .ok (.aload_n 0, 1) := by decide +kernel
theorem dX11_sort_61 : decode cX11_sort 61 = .ok (.getfield 81, 3) := by decide +kernel
theorem dX11_sort_64 : decode cX11_sort 64 = .ok (.aaload, 1) := by decide +kernel
theorem dX11_sort_65 : decode cX11_sort 65 = .ok (.astore 5, 2) := by decide +kernel
theorem dX11_sort_67 : decode cX11_sort 67 = .ok (.aload 5, 2) := by decide +kernel
theorem dX11_sort_69 : decode cX11_sort 69 = .ok (.iconst 0, 1) := by decide +kernel
theorem dX11_sort_70 : decode cX11_sort 70 = .ok (.iload_n 1, 1) := by decide +kernel
theorem dX11_sort_71 : decode cX11_sort 71 = .ok (.iastore, 1) := by decide +kernel
theorem dX11_sort_72 : decode cX11_sort 72 = .ok (.aload 5, 2) := by decide +kernel
theorem dX11_sort_74 : decode cX11_sort 74 = .ok (.iconst 1, 1) := by decide +kernel
theorem dX11_sort_75 : decode cX11_sort 75 = .ok (.iload_n 2, 1) := by decide +kernel
theorem dX11_sort_76 : decode cX11_sort 76 = .ok (.iastore, 1) := by decide +kernel
theorem dX11_sort_77 : decode cX11_sort 77 = .ok (.aload 5, 2) := by decide +kernel
theorem dX11_sort_79 : decode cX11_sort 79 = .ok (.iconst 2, 1) := by decide +kernel
theorem dX11_sort_80 : decode cX11_sort 80 = .ok (.iload_n 3, 1) := by decide +kernel
theorem dX11_sort_81 : decode cX11_sort 81 = .ok (.iastore, 1) := by decide +kernel
theorem dX11_sort_82 : decode cX11_sort 82 = .ok (.aload 5, 2) := by decide +kernel
theorem dX11_sort_84 : decode cX11_sort 84 = .ok (.iconst 3, 1) := by decide +kernel
theorem dX11_sort_85 : decode cX11_sort 85 = .ok (.iload 4, 2) := by decide +kernel
theorem dX11_sort_87 : decode cX11_sort 87 = .ok (.iastore, 1) := by decide +kernel
theorem dX11_sort_88 : decode cX11_sort 88 = .ok (.aload_n 0, 1) := by decide +kernel
theorem dX11_sort_89 : decode cX11_sort 89 = .ok (.getfield 47, 3) := by decide +kernel
theorem dX11_sort_92 : decode cX11_sort 92 = .ok (.getfield 85, 3) := by decide +kernel
theorem dX11_sort_95 : decode cX11_sort 95 = .ok (.aload_n 0, 1) := by decide +kernel
theorem dX11_sort_96 : decode cX11_sort 96 = .ok (.getfield 81, 3) := by decide +kernel
theorem dX11_sort_99 : decode cX11_sort 99 = .ok (.bipush 10, 2) := by decide +kernel
theorem dX11_sort_101 : decode cX11_sort 101 = .ok (.iastore, 1) := by decide +kernel
theorem dX11_sort_102 : decode cX11_sort 102 = .ok (.aload_n 0, 1) := by decide +kernel
theorem dX11_sort_103 : decode cX11_sort 103 = .ok (.dup, 1) := by decide +kernel
theorem dX11_sort_104 : decode cX11_sort 104 = .ok (.getfield 81, 3) := by decide +kernel
theorem dX11_sort_107 : decode cX11_sort 107 = .ok (.iconst 1, 1) := by decide +kernel
theorem dX11_sort_108 : decode cX11_sort 108 = .ok (.iadd, 1) := by decide +kernel
theorem dX11_sort_109 : decode cX11_sort 109 = .ok (.putfield 81, 3) := by decide +kernel
theorem dX11_sort_112 : decode cX11_sort 112 = .ok (.aload_n 0, 1) := by decide +kernel
theorem dX11_sort_113 : decode cX11_sort 113 = .ok (.getfield 81, 3) := by decide +kernel
theorem dX11_sort_116 : decode cX11_sort 116 = .ok (.iconst 1, 1) := by decide +kernel
theorem dX11_sort_117 : decode cX11_sort 117 = .ok (.isub, 1) := by decide +kernel
theorem dX11_sort_118 : decode cX11_sort 118 = .ok (.ireturn, 1) := by decide +kernel
theorem dX11_of_0 : decode cX11_of 0 = .ok (.aload_n 0, 1) := by decide +kernel
theorem dX11_of_1 : decode cX11_of 1 = .ok (.iload_n 1, 1) := by decide +kernel
theorem dX11_of_2 : decode cX11_of 2 = .ok (.invokevirtual 88, 3) := by decide +kernel
theorem dX11_of_5 : decode cX11_of 5 = .ok (.ifCond .ne 12, 3) := by decide +kernel
theorem dX11_of_8 : decode cX11_of 8 = .ok (.iload_n 2, 1) := by decide +kernel
theorem dX11_of_9 : decode cX11_of 9 = .ok (.iconst 0, 1) := by decide +kernel
theorem dX11_of_10 : decode cX11_of 10 = .ok (.iconst 4, 1) := by decide +kernel
theorem dX11_of_11 : decode cX11_of 11 = .ok (.invokestatic 77, 3) := by decide +kernel
theorem dX11_of_14 : decode cX11_of 14 = .ok (.ifCond .eq 5, 3) := by decide +kernel
theorem dX11_of_17 : decode cX11_of 17 = .ok (.iconst (-1), 1) := by decide +kernel
theorem dX11_of_18 : decode cX11_of 18 = .ok (.ireturn, 1) := by decide +kernel
theorem dX11_of_19 : decode cX11_of 19 = .ok (.iload_n 2, 1) := by decide +kernel
theorem dX11_of_20 : decode cX11_of 20 = .ok (.iconst 4, 1) := by decide +kernel
theorem dX11_of_21 : decode cX11_of 21 = .ok (.if_icmp .ne 15, 3) := by decide +kernel
theorem dX11_of_24 : decode cX11_of 24 = .ok (.aload_n 0, 1) := by decide +kernel
theorem dX11_of_25 : decode cX11_of 25 = .ok (.getfield 47, 3) := by decide +kernel
theorem dX11_of_28 : decode cX11_of 28 = .ok (.getfield 85, 3) := by decide +kernel
theorem dX11_of_31 : decode cX11_of 31 = .ok (.iload_n 1, 1) := by decide +kernel
theorem dX11_of_32 : decode cX11_of 32 = .ok (.iaload, 1) := by decide +kernel
theorem dX11_of_33 : decode cX11_of 33 = .ok (.goto 11, 3) := by decide +kernel
theorem dX11_of_36 : decode cX11_of 36 = .ok (.aload_n 0, 1) := by decide +kernel
theorem dX11_of_37 : decode cX11_of 37 = .ok (.getfield 13, 3) := by decide +kernel
theorem dX11_of_40 : decode cX11_of 40 = .ok (.iload_n 1, 1) := by decide +kernel
theorem dX11_of_41 : decode cX11_of 41 = .ok (.aaload, 1) := by decide +kernel
theorem dX11_of_42 : decode cX11_of 42 = .ok (.iload_n 2, 1) := by decide +kernel
theorem dX11_of_43 : decode cX11_of 43 = .ok (.iaload, 1) := by decide +kernel
theorem dX11_of_44 : decode cX11_of 44 = .ok (.ireturn, 1) := by decide +kernel
theorem dX11_odds_0 : decode cX11_odds 0 = .ok (.aload_n 0, 1) := by decide +kernel
theorem dX11_odds_1 : decode cX11_odds 1 = .ok (.iload_n 1, 1) := by decide +kernel
theorem dX11_odds_2 : decode cX11_odds 2 = .ok (.invokevirtual 88, 3) := by decide +kernel
theorem dX11_odds_5 : decode cX11_odds 5 = .ok (.ifCond .eq 5, 3) := by decide +kernel
theorem dX11_odds_8 : decode cX11_odds 8 = .ok (.iconst (-1), 1) := by decide +kernel
theorem dX11_odds_9 : decode cX11_odds 9 = .ok (.ireturn, 1) := by decide +kernel
theorem dX11_odds_10 : decode cX11_odds 10 = .ok (.iload_n 2, 1) := by decide +kernel
theorem dX11_odds_11 : decode cX11_odds 11 = .ok (.iconst 0, 1) := by decide +kernel
theorem dX11_odds_12 : decode cX11_odds 12 = .ok (.bipush 10, 2) := by decide +kernel
theorem dX11_odds_14 : decode cX11_odds 14 = .ok (.invokestatic 77, 3) := by decide +kernel
theorem dX11_odds_17 : decode cX11_odds 17 = .ok (.ifCond .eq 6, 3) := by decide +kernel
theorem dX11_odds_20 : decode cX11_odds 20 = .ok (.bipush (-2), 2) := by decide +kernel
theorem dX11_odds_22 : decode cX11_odds 22 = .ok (.ireturn, 1) := by decide +kernel
theorem dX11_odds_23 : decode cX11_odds 23 = .ok (.aload_n 0, 1) := by decide +kernel
theorem dX11_odds_24 : decode cX11_odds 24 = .ok (.getfield 47, 3) := by decide +kernel
theorem dX11_odds_27 : decode cX11_odds 27 = .ok (.getfield 85, 3) := by decide +kernel
theorem dX11_odds_30 : decode cX11_odds 30 = .ok (.iload_n 1, 1) := by decide +kernel
theorem dX11_odds_31 : decode cX11_odds 31 = .ok (.iaload, 1) := by decide +kernel
theorem dX11_odds_32 : decode cX11_odds 32 = .ok (.istore_n 3, 1) := by decide +kernel
theorem dX11_odds_33 : decode cX11_odds 33 = .ok (.aload_n 0, 1) := by decide +kernel
theorem dX11_odds_34 : decode cX11_odds 34 = .ok (.getfield 47, 3) := by decide +kernel
theorem dX11_odds_37 : decode cX11_odds 37 = .ok (.getfield 85, 3) := by decide +kernel
theorem dX11_odds_40 : decode cX11_odds 40 = .ok (.iload_n 1, 1) := by decide +kernel
theorem dX11_odds_41 : decode cX11_odds 41 = .ok (.iload_n 2, 1) := by decide +kernel
theorem dX11_odds_42 : decode cX11_odds 42 = .ok (.iastore, 1) := by decide +kernel
theorem dX11_odds_43 : decode cX11_odds 43 = .ok (.iload_n 3, 1) := by decide +kernel
theorem dX11_odds_44 : decode cX11_odds 44 = .ok (.ireturn, 1) := by decide +kernel
theorem dX11_feed_0 : decode cX11_feed 0 = .ok (.iload_n 2, 1) := by decide +kernel
theorem dX11_feed_1 : decode cX11_feed 1 = .ok (.iconst 0, 1) := by decide +kernel
theorem dX11_feed_2 : decode cX11_feed 2 = .ok (.iconst 4, 1) := by decide +kernel
theorem dX11_feed_3 : decode cX11_feed 3 = .ok (.invokestatic 77, 3) := by decide +kernel
theorem dX11_feed_6 : decode cX11_feed 6 = .ok (.ifCond .eq 6, 3) := by decide +kernel
theorem dX11_feed_9 : decode cX11_feed 9 = .ok (.bipush (-2), 2) := by decide +kernel
theorem dX11_feed_11 : decode cX11_feed 11 = .ok (.ireturn, 1) := by decide +kernel
theorem dX11_feed_12 : decode cX11_feed 12 = .ok (.aload_n 0, 1) := by decide +kernel
theorem dX11_feed_13 : decode cX11_feed 13 = .ok (.getfield 92, 3) := by decide +kernel
theorem dX11_feed_16 : decode cX11_feed 16 = .ok (.iload_n 2, 1) := by decide +kernel
theorem dX11_feed_17 : decode cX11_feed 17 = .ok (.iadd, 1) := by decide +kernel
theorem dX11_feed_18 : decode cX11_feed 18 = .ok (.bipush 100, 2) := by decide +kernel
theorem dX11_feed_20 : decode cX11_feed 20 = .ok (.if_icmp .le 6, 3) := by decide +kernel
theorem dX11_feed_23 : decode cX11_feed 23 = .ok (.bipush (-4), 2) := by decide +kernel
theorem dX11_feed_25 : decode cX11_feed 25 = .ok (.ireturn, 1) := by decide +kernel
theorem dX11_feed_26 : decode cX11_feed 26 = .ok (.iload_n 2, 1) := by decide +kernel
theorem dX11_feed_27 : decode cX11_feed 27 = .ok (.iconst 1, 1) := by decide +kernel
theorem dX11_feed_28 : decode cX11_feed 28 = .ok (.isub, 1) := by decide +kernel
theorem dX11_feed_29 : decode cX11_feed 29 = .ok (.istore_n 3, 1) := by decide +kernel
theorem dX11_feed_30 : decode cX11_feed 30 = .ok (.iload_n 3, 1) := by decide +kernel
theorem dX11_feed_31 : decode cX11_feed 31 = .ok (.ifCond .lt 35, 3) := by decide +kernel
theorem dX11_feed_34 : decode cX11_feed 34 = .ok (.aload_n 0, 1) := by decide +kernel
theorem dX11_feed_35 : decode cX11_feed 35 = .ok (.getfield 16, 3) := by decide +kernel
theorem dX11_feed_38 : decode cX11_feed 38 = .ok (.aload_n 0, 1) := by decide +kernel
theorem dX11_feed_39 : decode cX11_feed 39 = .ok (.getfield 92, 3) := by decide +kernel
theorem dX11_feed_42 : decode cX11_feed 42 = .ok (.iload_n 1, 1) := by decide +kernel
theorem dX11_feed_43 : decode cX11_feed 43 = .ok (.bipush 8, 2) := by decide +kernel
theorem dX11_feed_45 : decode cX11_feed 45 = .ok (.iload_n 3, 1) := by decide +kernel
theorem dX11_feed_46 : decode cX11_feed 46 = .ok (.imul, 1) := by decide +kernel
theorem dX11_feed_47 : decode cX11_feed 47 = .ok (.iushr, 1) := by decide +kernel
theorem dX11_feed_48 : decode cX11_feed 48 = .ok (.i2b, 1) := by decide +kernel
theorem dX11_feed_49 : decode cX11_feed 49 = .ok (.bastore, 1) := by decide +kernel
theorem dX11_feed_50 : decode cX11_feed 50 = .ok (.aload_n 0, 1) := by decide +kernel
theorem dX11_feed_51 : decode cX11_feed 51 = .ok (.dup, 1) := by decide +kernel
theorem dX11_feed_52 : decode cX11_feed 52 = .ok (.getfield 92, 3) := by decide +kernel
theorem dX11_feed_55 : decode cX11_feed 55 = .ok (.iconst 1, 1) := by decide +kernel
theorem dX11_feed_56 : decode cX11_feed 56 = .ok (.iadd, 1) := by decide +kernel
theorem dX11_feed_57 : decode cX11_feed 57 = .ok (.putfield 92, 3) := by decide +kernel
theorem dX11_feed_60 : decode cX11_feed 60 = .ok (.iinc 3 (-1), 3) := by decide +kernel
theorem dX11_feed_63 : decode cX11_feed 63 = .ok (.goto (-33), 3) := by decide +kernel
theorem dX11_feed_66 : decode cX11_feed 66 = .ok (.aload_n 0, 1) := by decide +kernel
theorem dX11_feed_67 : decode cX11_feed 67 = .ok (.getfield 92, 3) := by decide +kernel
theorem dX11_feed_70 : decode cX11_feed 70 = .ok (.ireturn, 1) := by decide +kernel
theorem dX11_window_0 : decode cX11_window 0 = .ok (.aload_n 0, 1) := by decide +kernel
theorem dX11_window_1 : decode cX11_window 1 = .ok (.getfield 95, 3) := by decide +kernel
theorem dX11_window_4 : decode cX11_window 4 = .ok (.bipush 6, 2) := by decide +kernel
theorem dX11_window_6 : decode cX11_window 6 = .ok (.if_icmp .lt 6, 3) := by decide +kernel
theorem dX11_window_9 : decode cX11_window 9 = .ok (.bipush (-4), 2) := by decide +kernel
theorem dX11_window_11 : decode cX11_window 11 = .ok (.ireturn, 1) := by decide +kernel
theorem dX11_window_12 : decode cX11_window 12 = .ok (.aload_n 0, 1) := by decide +kernel
theorem dX11_window_13 : decode cX11_window 13 = .ok (.getfield 22, 3) := by decide +kernel
theorem dX11_window_16 : decode cX11_window 16 = .ok (.aload_n 0, 1) := by decide +kernel
theorem dX11_window_17 : decode cX11_window 17 = .ok (.getfield 95, 3) := by decide +kernel
theorem dX11_window_20 : decode cX11_window 20 = .ok (.aaload, 1) := by decide +kernel
theorem dX11_window_21 : decode cX11_window 21 = .ok (.aload_n 0, 1) := by decide +kernel
theorem dX11_window_22 : decode cX11_window 22 = .ok (.getfield 16, 3) := by decide +kernel
theorem dX11_window_25 : decode cX11_window 25 = .ok (.aload_n 0, 1) := by decide +kernel
theorem dX11_window_26 : decode cX11_window 26 = .ok (.getfield 92, 3) := by decide +kernel
theorem dX11_window_29 : decode cX11_window 29 = .ok (.invokevirtual 98, 3) := by decide +kernel
theorem dX11_window_32 : decode cX11_window 32 = .ok (.istore_n 1, 1) := by decide +kernel
theorem dX11_window_33 : decode cX11_window 33 = .ok (.aload_n 0, 1) := by decide +kernel
theorem dX11_window_34 : decode cX11_window 34 = .ok (.iconst 0, 1) := by decide +kernel
theorem dX11_window_35 : decode cX11_window 35 = .ok (.putfield 92, 3) := by decide +kernel
theorem dX11_window_38 : decode cX11_window 38 = .ok (.iload_n 1, 1) := by decide +kernel
theorem dX11_window_39 : decode cX11_window 39 = .ok (.ifCond .lt 8, 3) := by decide +kernel
theorem dX11_window_42 : decode cX11_window 42 = .ok (.bipush (-10), 2) := by decide +kernel
theorem dX11_window_44 : decode cX11_window 44 = .ok (.iload_n 1, 1) := by decide +kernel
theorem dX11_window_45 : decode cX11_window 45 = .ok (.isub, 1) := by decide +kernel
theorem dX11_window_46 : decode cX11_window 46 = .ok (.ireturn, 1) := by decide +kernel
theorem dX11_window_47 : decode cX11_window 47 = .ok (.aload_n 0, 1) := by decide +kernel
theorem dX11_window_48 : decode cX11_window 48 = .ok (.getfield 47, 3) := by decide +kernel
theorem dX11_window_51 : decode cX11_window 51 = .ok (.aload_n 0, 1) := by decide +kernel
theorem dX11_window_52 : decode cX11_window 52 = .ok (.getfield 95, 3) := by decide +kernel
theorem dX11_window_55 : decode cX11_window 55 = .ok (.putfield 102, 3) := by decide +kernel
theorem dX11_window_58 : decode cX11_window 58 = .ok (.aload_n 0, 1) := by decide +kernel
theorem dX11_window_59 : decode cX11_window 59 = .ok (.dup, 1) := by decide +kernel
theorem dX11_window_60 : decode cX11_window 60 = .ok (.getfield 95, 3) := by decide +kernel
theorem dX11_window_63 : decode cX11_window 63 = .ok (.iconst 1, 1) := by decide +kernel
theorem dX11_window_64 : decode cX11_window 64 = .ok (.iadd, 1) := by decide +kernel
theorem dX11_window_65 : decode cX11_window 65 = .ok (.putfield 95, 3) := by decide +kernel
theorem dX11_window_68 : decode cX11_window 68 = .ok (.aload_n 0, 1) := by decide +kernel
theorem dX11_window_69 : decode cX11_window 69 = .ok (.getfield 47, 3) := by decide +kernel
theorem dX11_window_72 : decode cX11_window 72 = .ok (.getfield 102, 3) := by decide +kernel
theorem dX11_window_75 : decode cX11_window 75 = .ok (.ireturn, 1) := by decide +kernel
theorem dX11_told_0 : decode cX11_told 0 = .ok (.iload_n 1, 1) := by decide +kernel
theorem dX11_told_1 : decode cX11_told 1 = .ok (.tableswitch 51 0 2 #[27, 35, 43], 27) := by decide +kernel
theorem dX11_told_28 : decode cX11_told 28 = .ok (.aload_n 0, 1) := by decide +kernel
theorem dX11_told_29 : decode cX11_told 29 = .ok (.invokevirtual 105, 3) := by decide +kernel
theorem dX11_told_32 : decode cX11_told 32 = .ok (.getfield 109, 3) := by decide +kernel
theorem dX11_told_35 : decode cX11_told 35 = .ok (.ireturn, 1) := by decide +kernel
theorem dX11_told_36 : decode cX11_told 36 = .ok (.aload_n 0, 1) := by decide +kernel
theorem dX11_told_37 : decode cX11_told 37 = .ok (.invokevirtual 105, 3) := by decide +kernel
theorem dX11_told_40 : decode cX11_told 40 = .ok (.getfield 112, 3) := by decide +kernel
theorem dX11_told_43 : decode cX11_told 43 = .ok (.ireturn, 1) := by decide +kernel
theorem dX11_told_44 : decode cX11_told 44 = .ok (.aload_n 0, 1) := by decide +kernel
theorem dX11_told_45 : decode cX11_told 45 = .ok (.invokevirtual 105, 3) := by decide +kernel
theorem dX11_told_48 : decode cX11_told 48 = .ok (.getfield 115, 3) := by decide +kernel
theorem dX11_told_51 : decode cX11_told 51 = .ok (.ireturn, 1) := by decide +kernel
theorem dX11_told_52 : decode cX11_told 52 = .ok (.iconst (-1), 1) := by decide +kernel
theorem dX11_told_53 : decode cX11_told 53 = .ok (.ireturn, 1) := by decide +kernel
theorem dX11_come_0 : decode cX11_come 0 = .ok (.aload_n 0, 1) := by decide +kernel
theorem dX11_come_1 : decode cX11_come 1 = .ok (.iload_n 1, 1) := by decide +kernel
theorem dX11_come_2 : decode cX11_come 2 = .ok (.invokevirtual 88, 3) := by decide +kernel
theorem dX11_come_5 : decode cX11_come 5 = .ok (.ifCond .ne 13, 3) := by decide +kernel
theorem dX11_come_8 : decode cX11_come 8 = .ok (.iload_n 2, 1) := by decide +kernel
theorem dX11_come_9 : decode cX11_come 9 = .ok (.iconst 0, 1) := by decide +kernel
theorem dX11_come_10 : decode cX11_come 10 = .ok (.bipush 59, 2) := by decide +kernel
theorem dX11_come_12 : decode cX11_come 12 = .ok (.invokestatic 77, 3) := by decide +kernel
theorem dX11_come_15 : decode cX11_come 15 = .ok (.ifCond .eq 5, 3) := by decide +kernel
theorem dX11_come_18 : decode cX11_come 18 = .ok (.iconst (-1), 1) := by decide +kernel
theorem dX11_come_19 : decode cX11_come 19 = .ok (.ireturn, 1) := by decide +kernel
theorem dX11_come_20 : decode cX11_come 20 = .ok (.aload_n 0, 1) := by decide +kernel
theorem dX11_come_21 : decode cX11_come 21 = .ok (.getfield 47, 3) := by decide +kernel
theorem dX11_come_24 : decode cX11_come 24 = .ok (.getfield 118, 3) := by decide +kernel
theorem dX11_come_27 : decode cX11_come 27 = .ok (.bipush 12, 2) := by decide +kernel
theorem dX11_come_29 : decode cX11_come 29 = .ok (.if_icmp .lt 6, 3) := by decide +kernel
theorem dX11_come_32 : decode cX11_come 32 = .ok (.bipush (-4), 2) := by decide +kernel
theorem dX11_come_34 : decode cX11_come 34 = .ok (.ireturn, 1) := by decide +kernel
theorem dX11_come_35 : decode cX11_come 35 = .ok (.aload_n 0, 1) := by decide +kernel
theorem dX11_come_36 : decode cX11_come 36 = .ok (.getfield 47, 3) := by decide +kernel
theorem dX11_come_39 : decode cX11_come 39 = .ok (.iload_n 1, 1) := by decide +kernel
theorem dX11_come_40 : decode cX11_come 40 = .ok (.iload_n 2, 1) := by decide +kernel
theorem dX11_come_41 : decode cX11_come 41 = .ok (.invokevirtual 121, 3) := by decide +kernel
theorem dX11_come_44 : decode cX11_come 44 = .ok (.aload_n 0, 1) := by decide +kernel
theorem dX11_come_45 : decode cX11_come 45 = .ok (.getfield 47, 3) := by decide +kernel
theorem dX11_come_48 : decode cX11_come 48 = .ok (.getfield 118, 3) := by decide +kernel
theorem dX11_come_51 : decode cX11_come 51 = .ok (.ireturn, 1) := by decide +kernel
theorem dX11_clear_0 : decode cX11_clear 0 = .ok (.aload_n 0, 1) := by decide +kernel
theorem dX11_clear_1 : decode cX11_clear 1 = .ok (.getfield 47, 3) := by decide +kernel
theorem dX11_clear_4 : decode cX11_clear 4 = .ok (.getfield 118, 3) := by decide +kernel
theorem dX11_clear_7 : decode cX11_clear 7 = .ok (.istore_n 1, 1) := by decide +kernel
theorem dX11_clear_8 : decode cX11_clear 8 = .ok (.aload_n 0, 1) := by decide +kernel
theorem dX11_clear_9 : decode cX11_clear 9 = .ok (.getfield 47, 3) := by decide +kernel
theorem dX11_clear_12 : decode cX11_clear 12 = .ok (.iconst 0, 1) := by decide +kernel
theorem dX11_clear_13 : decode cX11_clear 13 = .ok (.putfield 118, 3) := by decide +kernel
theorem dX11_clear_16 : decode cX11_clear 16 = .ok (.iload_n 1, 1) := by decide +kernel
theorem dX11_clear_17 : decode cX11_clear 17 = .ok (.ireturn, 1) := by decide +kernel
theorem dX11_order_0 : decode cX11_order 0 = .ok (.iload_n 1, 1) := by decide +kernel
theorem dX11_order_1 : decode cX11_order 1 = .ok (.iconst 0, 1) := by decide +kernel
theorem dX11_order_2 : decode cX11_order 2 = .ok (.bipush 6, 2) := by decide +kernel
theorem dX11_order_4 : decode cX11_order 4 = .ok (.invokestatic 77, 3) := by decide +kernel
theorem dX11_order_7 : decode cX11_order 7 = .ok (.ifCond .eq 5, 3) := by decide +kernel
theorem dX11_order_10 : decode cX11_order 10 = .ok (.iconst (-1), 1) := by decide +kernel
theorem dX11_order_11 : decode cX11_order 11 = .ok (.ireturn, 1) := by decide +kernel
theorem dX11_order_12 : decode cX11_order 12 = .ok (.iload_n 2, 1) := by decide +kernel
theorem dX11_order_13 : decode cX11_order 13 = .ok (.iconst 1, 1) := by decide +kernel
theorem dX11_order_14 : decode cX11_order 14 = .ok (.bipush 9, 2) := by decide +kernel
theorem dX11_order_16 : decode cX11_order 16 = .ok (.invokestatic 77, 3) := by decide +kernel
theorem dX11_order_19 : decode cX11_order 19 = .ok (.ifCond .eq 6, 3) := by decide +kernel
theorem dX11_order_22 : decode cX11_order 22 = .ok (.bipush (-2), 2) := by decide +kernel
theorem dX11_order_24 : decode cX11_order 24 = .ok (.ireturn, 1) := by decide +kernel
theorem dX11_order_25 : decode cX11_order 25 = .ok (.aload_n 0, 1) := by decide +kernel
theorem dX11_order_26 : decode cX11_order 26 = .ok (.getfield 124, 3) := by decide +kernel
theorem dX11_order_29 : decode cX11_order 29 = .ok (.bipush 10, 2) := by decide +kernel
theorem dX11_order_31 : decode cX11_order 31 = .ok (.if_icmp .lt 6, 3) := by decide +kernel
theorem dX11_order_34 : decode cX11_order 34 = .ok (.bipush (-4), 2) := by decide +kernel
theorem dX11_order_36 : decode cX11_order 36 = .ok (.ireturn, 1) := by decide +kernel
theorem dX11_order_37 : decode cX11_order 37 = .ok (.aload_n 0, 1) := by decide +kernel
theorem dX11_order_38 : decode cX11_order 38 = .ok (.getfield 33, 3) := by decide +kernel
theorem dX11_order_41 : decode cX11_order 41 = .ok (.aload_n 0, 1) := by decide +kernel
theorem dX11_order_42 : decode cX11_order 42 = .ok (.getfield 124, 3) := by decide +kernel
theorem dX11_order_45 : decode cX11_order 45 = .ok (.iload_n 1, 1) := by decide +kernel
theorem dX11_order_46 : decode cX11_order 46 = .ok (.aload_n 0, 1) := by decide +kernel
theorem dX11_order_47 : decode cX11_order 47 = .ok (.getfield 124, 3) := by decide +kernel
theorem dX11_order_50 : decode cX11_order 50 = .ok (.iload_n 2, 1) := by decide +kernel
theorem dX11_order_51 : decode cX11_order 51 = .ok (.invokestatic 127, 3) := by decide +kernel
theorem dX11_order_54 : decode cX11_order 54 = .ok (.aastore, 1) := by decide +kernel
theorem dX11_order_55 : decode cX11_order 55 = .ok (.aload_n 0, 1) := by decide +kernel
theorem dX11_order_56 : decode cX11_order 56 = .ok (.dup, 1) := by decide +kernel
theorem dX11_order_57 : decode cX11_order 57 = .ok (.getfield 124, 3) := by decide +kernel
theorem dX11_order_60 : decode cX11_order 60 = .ok (.iconst 1, 1) := by decide +kernel
theorem dX11_order_61 : decode cX11_order 61 = .ok (.iadd, 1) := by decide +kernel
theorem dX11_order_62 : decode cX11_order 62 = .ok (.putfield 124, 3) := by decide +kernel
theorem dX11_order_65 : decode cX11_order 65 = .ok (.aload_n 0, 1) := by decide +kernel
theorem dX11_order_66 : decode cX11_order 66 = .ok (.getfield 124, 3) := by decide +kernel
theorem dX11_order_69 : decode cX11_order 69 = .ok (.iconst 1, 1) := by decide +kernel
theorem dX11_order_70 : decode cX11_order 70 = .ok (.isub, 1) := by decide +kernel
theorem dX11_order_71 : decode cX11_order 71 = .ok (.ireturn, 1) := by decide +kernel
theorem dX11_row_0 : decode cX11_row 0 = .ok (.aload_n 0, 1) := by decide +kernel
theorem dX11_row_1 : decode cX11_row 1 = .ok (.iload_n 1, 1) := by decide +kernel
theorem dX11_row_2 : decode cX11_row 2 = .ok (.invokevirtual 131, 3) := by decide +kernel
theorem dX11_row_5 : decode cX11_row 5 = .ok (.astore 4, 2) := by decide +kernel
theorem dX11_row_7 : decode cX11_row 7 = .ok (.aload 4, 2) := by decide +kernel
theorem dX11_row_9 : decode cX11_row 9 = .ok (.ifnull 13, 3) := by decide +kernel
theorem dX11_row_12 : decode cX11_row 12 = .ok (.iload_n 2, 1) := by decide +kernel
theorem dX11_row_13 : decode cX11_row 13 = .ok (.iconst 0, 1) := by decide +kernel
theorem dX11_row_14 : decode cX11_row 14 = .ok (.bipush 9, 2) := by decide +kernel
theorem dX11_row_16 : decode cX11_row 16 = .ok (.invokestatic 77, 3) := by decide +kernel
theorem dX11_row_19 : decode cX11_row 19 = .ok (.ifCond .eq 5, 3) := by decide +kernel
theorem dX11_row_22 : decode cX11_row 22 = .ok (.iconst (-1), 1) := by decide +kernel
theorem dX11_row_23 : decode cX11_row 23 = .ok (.ireturn, 1) := by decide +kernel
theorem dX11_row_24 : decode cX11_row 24 = .ok (.iload_n 3, 1) := by decide +kernel
theorem dX11_row_25 : decode cX11_row 25 = .ok (.iconst (-1), 1) := by decide +kernel
theorem dX11_row_26 : decode cX11_row 26 = .ok (.iconst 2, 1) := by decide +kernel
theorem dX11_row_27 : decode cX11_row 27 = .ok (.invokestatic 77, 3) := by decide +kernel
theorem dX11_row_30 : decode cX11_row 30 = .ok (.ifCond .eq 6, 3) := by decide +kernel
theorem dX11_row_33 : decode cX11_row 33 = .ok (.bipush (-2), 2) := by decide +kernel
theorem dX11_row_35 : decode cX11_row 35 = .ok (.ireturn, 1) := by decide +kernel
theorem dX11_row_36 : decode cX11_row 36 = .ok (.aload 4, 2) := by decide +kernel
theorem dX11_row_38 : decode cX11_row 38 = .ok (.instanceof 135, 3) := by decide +kernel
theorem dX11_row_41 : decode cX11_row 41 = .ok (.ifCond .eq 40, 3) := by decide +kernel
theorem dX11_row_44 : decode cX11_row 44 = .ok (.aload 4, 2) := by decide +kernel
theorem dX11_row_46 : decode cX11_row 46 = .ok (.checkcast 135, 3) := by decide +kernel
theorem dX11_row_49 : decode cX11_row 49 = .ok (.astore 5, 2) := by decide +kernel
theorem dX11_row_51 : decode cX11_row 51 = .ok (.aload 5, 2) := by decide +kernel
theorem dX11_row_53 : decode cX11_row 53 = .ok (.getfield 137, 3) := by decide +kernel
theorem dX11_row_56 : decode cX11_row 56 = .ok (.iload_n 2, 1) := by decide +kernel
theorem dX11_row_57 : decode cX11_row 57 = .ok (.iaload, 1) := by decide +kernel
theorem dX11_row_58 : decode cX11_row 58 = .ok (.istore 6, 2) := by decide +kernel
theorem dX11_row_60 : decode cX11_row 60 = .ok (.aload 5, 2) := by decide +kernel
theorem dX11_row_62 : decode cX11_row 62 = .ok (.getfield 137, 3) := by decide +kernel
theorem dX11_row_65 : decode cX11_row 65 = .ok (.iload_n 2, 1) := by decide +kernel
theorem dX11_row_66 : decode cX11_row 66 = .ok (.iload_n 3, 1) := by decide +kernel
theorem dX11_row_67 : decode cX11_row 67 = .ok (.iastore, 1) := by decide +kernel
theorem dX11_row_68 : decode cX11_row 68 = .ok (.iload 6, 2) := by decide +kernel
theorem dX11_row_70 : decode cX11_row 70 = .ok (.ifCond .ge 8, 3) := by decide +kernel
theorem dX11_row_73 : decode cX11_row 73 = .ok (.bipush (-5), 2) := by decide +kernel
theorem dX11_row_75 : decode cX11_row 75 = .ok (.goto 5, 3) := by decide +kernel
theorem dX11_row_78 : decode cX11_row 78 = .ok (.iload 6, 2) := by decide +kernel
theorem dX11_row_80 : decode cX11_row 80 = .ok (.ireturn, 1) := by decide +kernel
theorem dX11_row_81 : decode cX11_row 81 = .ok (.bipush (-3), 2) := by decide +kernel
theorem dX11_row_83 : decode cX11_row 83 = .ok (.ireturn, 1) := by decide +kernel
theorem dX11_comer_0 : decode cX11_comer 0 = .ok (.aload_n 0, 1) := by decide +kernel
theorem dX11_comer_1 : decode cX11_comer 1 = .ok (.iload_n 1, 1) := by decide +kernel
theorem dX11_comer_2 : decode cX11_comer 2 = .ok (.invokevirtual 131, 3) := by decide +kernel
theorem dX11_comer_5 : decode cX11_comer 5 = .ok (.astore 4, 2) := by decide +kernel
theorem dX11_comer_7 : decode cX11_comer 7 = .ok (.aload 4, 2) := by decide +kernel
theorem dX11_comer_9 : decode cX11_comer 9 = .ok (.ifnonnull 7, 3) := by decide +kernel
theorem dX11_comer_12 : decode cX11_comer 12 = .ok (.sipush (-1001), 3) := by decide +kernel
theorem dX11_comer_15 : decode cX11_comer 15 = .ok (.ireturn, 1) := by decide +kernel
theorem dX11_comer_16 : decode cX11_comer 16 = .ok (.aload_n 0, 1) := by decide +kernel
theorem dX11_comer_17 : decode cX11_comer 17 = .ok (.aload 4, 2) := by decide +kernel
theorem dX11_comer_19 : decode cX11_comer 19 = .ok (.invokevirtual 140, 3) := by decide +kernel
theorem dX11_comer_22 : decode cX11_comer 22 = .ok (.iload_n 2, 1) := by decide +kernel
theorem dX11_comer_23 : decode cX11_comer 23 = .ok (.ifCond .lt 14, 3) := by decide +kernel
theorem dX11_comer_26 : decode cX11_comer 26 = .ok (.iload_n 2, 1) := by decide +kernel
theorem dX11_comer_27 : decode cX11_comer 27 = .ok (.aload_n 0, 1) := by decide +kernel
theorem dX11_comer_28 : decode cX11_comer 28 = .ok (.getfield 62, 3) := by decide +kernel
theorem dX11_comer_31 : decode cX11_comer 31 = .ok (.getfield 144, 3) := by decide +kernel
theorem dX11_comer_34 : decode cX11_comer 34 = .ok (.if_icmp .lt 7, 3) := by decide +kernel
theorem dX11_comer_37 : decode cX11_comer 37 = .ok (.sipush (-1001), 3) := by decide +kernel
theorem dX11_comer_40 : decode cX11_comer 40 = .ok (.ireturn, 1) := by decide +kernel
theorem dX11_comer_41 : decode cX11_comer 41 = .ok (.iload_n 3, 1) := by decide +kernel
theorem dX11_comer_42 : decode cX11_comer 42 = .ok (.tableswitch 96 0 5 #[38, 48, 58, 68, 78, 87], 38) := by decide +kernel
theorem dX11_comer_80 : decode cX11_comer 80 = .ok (.aload_n 0, 1) := by decide +kernel
theorem dX11_comer_81 : decode cX11_comer 81 = .ok (.getfield 62, 3) := by decide +kernel
theorem dX11_comer_84 : decode cX11_comer 84 = .ok (.getfield 147, 3) := by decide +kernel
theorem dX11_comer_87 : decode cX11_comer 87 = .ok (.iload_n 2, 1) := by decide +kernel
theorem dX11_comer_88 : decode cX11_comer 88 = .ok (.iaload, 1) := by decide +kernel
theorem dX11_comer_89 : decode cX11_comer 89 = .ok (.ireturn, 1) := by decide +kernel
theorem dX11_comer_90 : decode cX11_comer 90 = .ok (.aload_n 0, 1) := by decide +kernel
theorem dX11_comer_91 : decode cX11_comer 91 = .ok (.getfield 62, 3) := by decide +kernel
theorem dX11_comer_94 : decode cX11_comer 94 = .ok (.getfield 150, 3) := by decide +kernel
theorem dX11_comer_97 : decode cX11_comer 97 = .ok (.iload_n 2, 1) := by decide +kernel
theorem dX11_comer_98 : decode cX11_comer 98 = .ok (.iaload, 1) := by decide +kernel
theorem dX11_comer_99 : decode cX11_comer 99 = .ok (.ireturn, 1) := by decide +kernel
theorem dX11_comer_100 : decode cX11_comer 100 = .ok (.aload_n 0, 1) := by decide +kernel
theorem dX11_comer_101 : decode cX11_comer 101 = .ok (.getfield 62, 3) := by decide +kernel
theorem dX11_comer_104 : decode cX11_comer 104 = .ok (.getfield 153, 3) := by decide +kernel
theorem dX11_comer_107 : decode cX11_comer 107 = .ok (.iload_n 2, 1) := by decide +kernel
theorem dX11_comer_108 : decode cX11_comer 108 = .ok (.iaload, 1) := by decide +kernel
theorem dX11_comer_109 : decode cX11_comer 109 = .ok (.ireturn, 1) := by decide +kernel
theorem dX11_comer_110 : decode cX11_comer 110 = .ok (.aload_n 0, 1) := by decide +kernel
theorem dX11_comer_111 : decode cX11_comer 111 = .ok (.getfield 62, 3) := by decide +kernel
theorem dX11_comer_114 : decode cX11_comer 114 = .ok (.getfield 156, 3) := by decide +kernel
theorem dX11_comer_117 : decode cX11_comer 117 = .ok (.iload_n 2, 1) := by decide +kernel
theorem dX11_comer_118 : decode cX11_comer 118 = .ok (.iaload, 1) := by decide +kernel
theorem dX11_comer_119 : decode cX11_comer 119 = .ok (.ireturn, 1) := by decide +kernel
theorem dX11_comer_120 : decode cX11_comer 120 = .ok (.aload_n 0, 1) := by decide +kernel
theorem dX11_comer_121 : decode cX11_comer 121 = .ok (.getfield 62, 3) := by decide +kernel
theorem dX11_comer_124 : decode cX11_comer 124 = .ok (.iload_n 2, 1) := by decide +kernel
theorem dX11_comer_125 : decode cX11_comer 125 = .ok (.invokevirtual 159, 3) := by decide +kernel
theorem dX11_comer_128 : decode cX11_comer 128 = .ok (.ireturn, 1) := by decide +kernel
theorem dX11_comer_129 : decode cX11_comer 129 = .ok (.aload_n 0, 1) := by decide +kernel
theorem dX11_comer_130 : decode cX11_comer 130 = .ok (.getfield 62, 3) := by decide +kernel
theorem dX11_comer_133 : decode cX11_comer 133 = .ok (.iload_n 2, 1) := by decide +kernel
theorem dX11_comer_134 : decode cX11_comer 134 = .ok (.invokevirtual 163, 3) := by decide +kernel
theorem dX11_comer_137 : decode cX11_comer 137 = .ok (.ireturn, 1) := by decide +kernel
theorem dX11_comer_138 : decode cX11_comer 138 = .ok (.sipush (-1001), 3) := by decide +kernel
theorem dX11_comer_141 : decode cX11_comer 141 = .ok (.ireturn, 1) := by decide +kernel
theorem dX11_served_0 : decode cX11_served 0 = .ok (.aload_n 0, 1) := by decide +kernel
theorem dX11_served_1 : decode cX11_served 1 = .ok (.iload_n 1, 1) := by decide +kernel
theorem dX11_served_2 : decode cX11_served 2 = .ok (.invokevirtual 131, 3) := by decide +kernel
theorem dX11_served_5 : decode cX11_served 5 = .ok (.astore 4, 2) := by decide +kernel
theorem dX11_served_7 : decode cX11_served 7 = .ok (.aload 4, 2) := by decide +kernel
theorem dX11_served_9 : decode cX11_served 9 = .ok (.ifnull 12, 3) := by decide +kernel
theorem dX11_served_12 : decode cX11_served 12 = .ok (.iload_n 3, 1) := by decide +kernel
theorem dX11_served_13 : decode cX11_served 13 = .ok (.iconst 0, 1) := by decide +kernel
theorem dX11_served_14 : decode cX11_served 14 = .ok (.iconst 1, 1) := by decide +kernel
theorem dX11_served_15 : decode cX11_served 15 = .ok (.invokestatic 77, 3) := by decide +kernel
theorem dX11_served_18 : decode cX11_served 18 = .ok (.ifCond .eq 5, 3) := by decide +kernel
theorem dX11_served_21 : decode cX11_served 21 = .ok (.iconst (-1), 1) := by decide +kernel
theorem dX11_served_22 : decode cX11_served 22 = .ok (.ireturn, 1) := by decide +kernel
theorem dX11_served_23 : decode cX11_served 23 = .ok (.aload_n 0, 1) := by decide +kernel
theorem dX11_served_24 : decode cX11_served 24 = .ok (.aload 4, 2) := by decide +kernel
theorem dX11_served_26 : decode cX11_served 26 = .ok (.invokevirtual 140, 3) := by decide +kernel
theorem dX11_served_29 : decode cX11_served 29 = .ok (.iload_n 2, 1) := by decide +kernel
theorem dX11_served_30 : decode cX11_served 30 = .ok (.ifCond .lt 14, 3) := by decide +kernel
theorem dX11_served_33 : decode cX11_served 33 = .ok (.iload_n 2, 1) := by decide +kernel
theorem dX11_served_34 : decode cX11_served 34 = .ok (.aload_n 0, 1) := by decide +kernel
theorem dX11_served_35 : decode cX11_served 35 = .ok (.getfield 62, 3) := by decide +kernel
theorem dX11_served_38 : decode cX11_served 38 = .ok (.getfield 166, 3) := by decide +kernel
theorem dX11_served_41 : decode cX11_served 41 = .ok (.if_icmp .lt 5, 3) := by decide +kernel
theorem dX11_served_44 : decode cX11_served 44 = .ok (.iconst (-1), 1) := by decide +kernel
theorem dX11_served_45 : decode cX11_served 45 = .ok (.ireturn, 1) := by decide +kernel
theorem dX11_served_46 : decode cX11_served 46 = .ok (.aload_n 0, 1) := by decide +kernel
theorem dX11_served_47 : decode cX11_served 47 = .ok (.getfield 62, 3) := by decide +kernel
theorem dX11_served_50 : decode cX11_served 50 = .ok (.getfield 169, 3) := by decide +kernel
theorem dX11_served_53 : decode cX11_served 53 = .ok (.iload_n 2, 1) := by decide +kernel
theorem dX11_served_54 : decode cX11_served 54 = .ok (.iaload, 1) := by decide +kernel
theorem dX11_served_55 : decode cX11_served 55 = .ok (.istore 5, 2) := by decide +kernel
theorem dX11_served_57 : decode cX11_served 57 = .ok (.iload_n 3, 1) := by decide +kernel
theorem dX11_served_58 : decode cX11_served 58 = .ok (.ifCond .ne 8, 3) := by decide +kernel
theorem dX11_served_61 : decode cX11_served 61 = .ok (.iload 5, 2) := by decide +kernel
theorem dX11_served_63 : decode cX11_served 63 = .ok (.goto 13, 3) := by decide +kernel
theorem dX11_served_66 : decode cX11_served 66 = .ok (.aload_n 0, 1) := by decide +kernel
theorem dX11_served_67 : decode cX11_served 67 = .ok (.getfield 62, 3) := by decide +kernel
theorem dX11_served_70 : decode cX11_served 70 = .ok (.getfield 172, 3) := by decide +kernel
theorem dX11_served_73 : decode cX11_served 73 = .ok (.iload 5, 2) := by decide +kernel
theorem dX11_served_75 : decode cX11_served 75 = .ok (.iaload, 1) := by decide +kernel
theorem dX11_served_76 : decode cX11_served 76 = .ok (.ireturn, 1) := by decide +kernel
theorem dX11_all_0 : decode cX11_all 0 = .ok (.aload_n 0, 1) := by decide +kernel
theorem dX11_all_1 : decode cX11_all 1 = .ok (.iload_n 1, 1) := by decide +kernel
theorem dX11_all_2 : decode cX11_all 2 = .ok (.invokevirtual 131, 3) := by decide +kernel
theorem dX11_all_5 : decode cX11_all 5 = .ok (.astore_n 3, 1) := by decide +kernel
theorem dX11_all_6 : decode cX11_all 6 = .ok (.aload_n 3, 1) := by decide +kernel
theorem dX11_all_7 : decode cX11_all 7 = .ok (.ifnull 13, 3) := by decide +kernel
theorem dX11_all_10 : decode cX11_all 10 = .ok (.iload_n 2, 1) := by decide +kernel
theorem dX11_all_11 : decode cX11_all 11 = .ok (.iconst 0, 1) := by decide +kernel
theorem dX11_all_12 : decode cX11_all 12 = .ok (.bipush 7, 2) := by decide +kernel
theorem dX11_all_14 : decode cX11_all 14 = .ok (.invokestatic 77, 3) := by decide +kernel
theorem dX11_all_17 : decode cX11_all 17 = .ok (.ifCond .eq 5, 3) := by decide +kernel
theorem dX11_all_20 : decode cX11_all 20 = .ok (.iconst (-1), 1) := by decide +kernel
theorem dX11_all_21 : decode cX11_all 21 = .ok (.ireturn, 1) := by decide +kernel
theorem dX11_all_22 : decode cX11_all 22 = .ok (.aload_n 0, 1) := by decide +kernel
theorem dX11_all_23 : decode cX11_all 23 = .ok (.aload_n 3, 1) := by decide +kernel
theorem dX11_all_24 : decode cX11_all 24 = .ok (.invokevirtual 140, 3) := by decide +kernel
theorem dX11_all_27 : decode cX11_all 27 = .ok (.iload_n 2, 1) := by decide +kernel
theorem dX11_all_28 : decode cX11_all 28 = .ok (.tableswitch 102 0 6 #[44, 52, 60, 69, 78, 86, 94], 44) := by decide +kernel
theorem dX11_all_72 : decode cX11_all 72 = .ok (.aload_n 0, 1) := by decide +kernel
theorem dX11_all_73 : decode cX11_all 73 = .ok (.getfield 62, 3) := by decide +kernel
theorem dX11_all_76 : decode cX11_all 76 = .ok (.getfield 144, 3) := by decide +kernel
theorem dX11_all_79 : decode cX11_all 79 = .ok (.ireturn, 1) := by decide +kernel
theorem dX11_all_80 : decode cX11_all 80 = .ok (.aload_n 0, 1) := by decide +kernel
theorem dX11_all_81 : decode cX11_all 81 = .ok (.getfield 62, 3) := by decide +kernel
theorem dX11_all_84 : decode cX11_all 84 = .ok (.getfield 166, 3) := by decide +kernel
theorem dX11_all_87 : decode cX11_all 87 = .ok (.ireturn, 1) := by decide +kernel
theorem dX11_all_88 : decode cX11_all 88 = .ok (.aload_n 0, 1) := by decide +kernel
theorem dX11_all_89 : decode cX11_all 89 = .ok (.getfield 62, 3) := by decide +kernel
theorem dX11_all_92 : decode cX11_all 92 = .ok (.iconst 0, 1) := by decide +kernel
theorem dX11_all_93 : decode cX11_all 93 = .ok (.invokevirtual 175, 3) := by decide +kernel
theorem dX11_all_96 : decode cX11_all 96 = .ok (.ireturn, 1) := by decide +kernel
theorem dX11_all_97 : decode cX11_all 97 = .ok (.aload_n 0, 1) := by decide +kernel
theorem dX11_all_98 : decode cX11_all 98 = .ok (.getfield 62, 3) := by decide +kernel
theorem dX11_all_101 : decode cX11_all 101 = .ok (.iconst 2, 1) := by decide +kernel
theorem dX11_all_102 : decode cX11_all 102 = .ok (.invokevirtual 175, 3) := by decide +kernel
theorem dX11_all_105 : decode cX11_all 105 = .ok (.ireturn, 1) := by decide +kernel
theorem dX11_all_106 : decode cX11_all 106 = .ok (.aload_n 0, 1) := by decide +kernel
theorem dX11_all_107 : decode cX11_all 107 = .ok (.getfield 62, 3) := by decide +kernel
theorem dX11_all_110 : decode cX11_all 110 = .ok (.invokevirtual 178, 3) := by decide +kernel
theorem dX11_all_113 : decode cX11_all 113 = .ok (.ireturn, 1) := by decide +kernel
theorem dX11_all_114 : decode cX11_all 114 = .ok (.aload_n 0, 1) := by decide +kernel
theorem dX11_all_115 : decode cX11_all 115 = .ok (.getfield 62, 3) := by decide +kernel
theorem dX11_all_118 : decode cX11_all 118 = .ok (.invokevirtual 182, 3) := by decide +kernel
theorem dX11_all_121 : decode cX11_all 121 = .ok (.ireturn, 1) := by decide +kernel
theorem dX11_all_122 : decode cX11_all 122 = .ok (.aload_n 0, 1) := by decide +kernel
theorem dX11_all_123 : decode cX11_all 123 = .ok (.getfield 62, 3) := by decide +kernel
theorem dX11_all_126 : decode cX11_all 126 = .ok (.getfield 185, 3) := by decide +kernel
theorem dX11_all_129 : decode cX11_all 129 = .ok (.ireturn, 1) := by decide +kernel
theorem dX11_all_130 : decode cX11_all 130 = .ok (.aload_n 0, 1) := by decide +kernel
theorem dX11_all_131 : decode cX11_all 131 = .ok (.getfield 62, 3) := by decide +kernel
theorem dX11_all_134 : decode cX11_all 134 = .ok (.invokevirtual 188, 3) := by decide +kernel
theorem dX11_all_137 : decode cX11_all 137 = .ok (.ireturn, 1) := by decide +kernel
theorem dX11_stand_0 : decode cX11_stand 0 = .ok (.aload_n 0, 1) := by decide +kernel
theorem dX11_stand_1 : decode cX11_stand 1 = .ok (.iload_n 1, 1) := by decide +kernel
theorem dX11_stand_2 : decode cX11_stand 2 = .ok (.invokevirtual 131, 3) := by decide +kernel
theorem dX11_stand_5 : decode cX11_stand 5 = .ok (.astore 4, 2) := by decide +kernel
theorem dX11_stand_7 : decode cX11_stand 7 = .ok (.aload 4, 2) := by decide +kernel
theorem dX11_stand_9 : decode cX11_stand 9 = .ok (.ifnull 12, 3) := by decide +kernel
theorem dX11_stand_12 : decode cX11_stand 12 = .ok (.iload_n 2, 1) := by decide +kernel
theorem dX11_stand_13 : decode cX11_stand 13 = .ok (.iconst 0, 1) := by decide +kernel
theorem dX11_stand_14 : decode cX11_stand 14 = .ok (.iconst 1, 1) := by decide +kernel
theorem dX11_stand_15 : decode cX11_stand 15 = .ok (.invokestatic 77, 3) := by decide +kernel
theorem dX11_stand_18 : decode cX11_stand 18 = .ok (.ifCond .eq 5, 3) := by decide +kernel
theorem dX11_stand_21 : decode cX11_stand 21 = .ok (.iconst (-1), 1) := by decide +kernel
theorem dX11_stand_22 : decode cX11_stand 22 = .ok (.ireturn, 1) := by decide +kernel
theorem dX11_stand_23 : decode cX11_stand 23 = .ok (.iload_n 3, 1) := by decide +kernel
theorem dX11_stand_24 : decode cX11_stand 24 = .ok (.iconst 0, 1) := by decide +kernel
theorem dX11_stand_25 : decode cX11_stand 25 = .ok (.bipush 99, 2) := by decide +kernel
theorem dX11_stand_27 : decode cX11_stand 27 = .ok (.invokestatic 77, 3) := by decide +kernel
theorem dX11_stand_30 : decode cX11_stand 30 = .ok (.ifCond .eq 6, 3) := by decide +kernel
theorem dX11_stand_33 : decode cX11_stand 33 = .ok (.bipush (-2), 2) := by decide +kernel
theorem dX11_stand_35 : decode cX11_stand 35 = .ok (.ireturn, 1) := by decide +kernel
theorem dX11_stand_36 : decode cX11_stand 36 = .ok (.aload_n 0, 1) := by decide +kernel
theorem dX11_stand_37 : decode cX11_stand 37 = .ok (.aload 4, 2) := by decide +kernel
theorem dX11_stand_39 : decode cX11_stand 39 = .ok (.invokevirtual 140, 3) := by decide +kernel
theorem dX11_stand_42 : decode cX11_stand 42 = .ok (.aload_n 0, 1) := by decide +kernel
theorem dX11_stand_43 : decode cX11_stand 43 = .ok (.getfield 62, 3) := by decide +kernel
theorem dX11_stand_46 : decode cX11_stand 46 = .ok (.iload_n 2, 1) := by decide +kernel
theorem dX11_stand_47 : decode cX11_stand 47 = .ok (.iload_n 3, 1) := by decide +kernel
theorem dX11_stand_48 : decode cX11_stand 48 = .ok (.invokevirtual 191, 3) := by decide +kernel
theorem dX11_stand_51 : decode cX11_stand 51 = .ok (.ireturn, 1) := by decide +kernel
theorem dX11_price_0 : decode cX11_price 0 = .ok (.aload_n 0, 1) := by decide +kernel
theorem dX11_price_1 : decode cX11_price 1 = .ok (.iload_n 1, 1) := by decide +kernel
theorem dX11_price_2 : decode cX11_price 2 = .ok (.invokevirtual 131, 3) := by decide +kernel
theorem dX11_price_5 : decode cX11_price 5 = .ok (.astore_n 3, 1) := by decide +kernel
theorem dX11_price_6 : decode cX11_price 6 = .ok (.aload_n 3, 1) := by decide +kernel
theorem dX11_price_7 : decode cX11_price 7 = .ok (.ifnull 12, 3) := by decide +kernel
theorem dX11_price_10 : decode cX11_price 10 = .ok (.iload_n 2, 1) := by decide +kernel
theorem dX11_price_11 : decode cX11_price 11 = .ok (.iconst 0, 1) := by decide +kernel
theorem dX11_price_12 : decode cX11_price 12 = .ok (.iconst 4, 1) := by decide +kernel
theorem dX11_price_13 : decode cX11_price 13 = .ok (.invokestatic 77, 3) := by decide +kernel
theorem dX11_price_16 : decode cX11_price 16 = .ok (.ifCond .eq 5, 3) := by decide +kernel
theorem dX11_price_19 : decode cX11_price 19 = .ok (.iconst (-1), 1) := by decide +kernel
theorem dX11_price_20 : decode cX11_price 20 = .ok (.ireturn, 1) := by decide +kernel
theorem dX11_price_21 : decode cX11_price 21 = .ok (.iconst 0, 1) := by decide +kernel
theorem dX11_price_22 : decode cX11_price 22 = .ok (.istore 4, 2) := by decide +kernel
theorem dX11_price_24 : decode cX11_price 24 = .ok (.iconst 0, 1) := by decide +kernel
theorem dX11_price_25 : decode cX11_price 25 = .ok (.istore 5, 2) := by decide +kernel
theorem dX11_price_27 : decode cX11_price 27 = .ok (.bipush (-5), 2) := by decide +kernel
theorem dX11_price_29 : decode cX11_price 29 = .ok (.istore 6, 2) := by decide +kernel
theorem dX11_price_31 : decode cX11_price 31 = .ok (.ldc 197, 2) := by decide +kernel
theorem dX11_price_33 : decode cX11_price 33 = .ok (.istore 7, 2) := by decide +kernel
theorem dX11_price_35 : decode cX11_price 35 = .ok (.iconst (-1), 1) := by decide +kernel
theorem dX11_price_36 : decode cX11_price 36 = .ok (.istore 8, 2) := by decide +kernel
theorem dX11_price_38 : decode cX11_price 38 = .ok (.iconst 0, 1) := by decide +kernel
theorem dX11_price_39 : decode cX11_price 39 = .ok (.istore 9, 2) := by decide +kernel
theorem dX11_price_41 : decode cX11_price 41 = .ok (.iload 9, 2) := by decide +kernel
theorem dX11_price_43 : decode cX11_price 43 = .ok (.bipush 20, 2) := by decide +kernel
theorem dX11_price_45 : decode cX11_price 45 = .ok (.if_icmp .gt 95, 3) := by decide +kernel
theorem dX11_price_48 : decode cX11_price 48 = .ok (.aload_n 0, 1) := by decide +kernel
theorem dX11_price_49 : decode cX11_price 49 = .ok (.aload_n 3, 1) := by decide +kernel
theorem dX11_price_50 : decode cX11_price 50 = .ok (.aload_n 0, 1) := by decide +kernel
theorem dX11_price_51 : decode cX11_price 51 = .ok (.getfield 47, 3) := by decide +kernel
theorem dX11_price_54 : decode cX11_price 54 = .ok (.iload 9, 2) := by decide +kernel
theorem dX11_price_56 : decode cX11_price 56 = .ok (.aload_n 0, 1) := by decide +kernel
theorem dX11_price_57 : decode cX11_price 57 = .ok (.invokevirtual 105, 3) := by decide +kernel
theorem dX11_price_60 : decode cX11_price 60 = .ok (.getfield 112, 3) := by decide +kernel
theorem dX11_price_63 : decode cX11_price 63 = .ok (.invokevirtual 198, 3) := by decide +kernel
theorem dX11_price_66 : decode cX11_price 66 = .ok (.aload_n 0, 1) := by decide +kernel
theorem dX11_price_67 : decode cX11_price 67 = .ok (.getfield 62, 3) := by decide +kernel
theorem dX11_price_70 : decode cX11_price 70 = .ok (.invokevirtual 178, 3) := by decide +kernel
theorem dX11_price_73 : decode cX11_price 73 = .ok (.istore 10, 2) := by decide +kernel
theorem dX11_price_75 : decode cX11_price 75 = .ok (.aload_n 0, 1) := by decide +kernel
theorem dX11_price_76 : decode cX11_price 76 = .ok (.getfield 62, 3) := by decide +kernel
theorem dX11_price_79 : decode cX11_price 79 = .ok (.invokevirtual 182, 3) := by decide +kernel
theorem dX11_price_82 : decode cX11_price 82 = .ok (.istore 11, 2) := by decide +kernel
theorem dX11_price_84 : decode cX11_price 84 = .ok (.iload 10, 2) := by decide +kernel
theorem dX11_price_86 : decode cX11_price 86 = .ok (.iload 7, 2) := by decide +kernel
theorem dX11_price_88 : decode cX11_price 88 = .ok (.if_icmp .ge 11, 3) := by decide +kernel
theorem dX11_price_91 : decode cX11_price 91 = .ok (.iload 10, 2) := by decide +kernel
theorem dX11_price_93 : decode cX11_price 93 = .ok (.istore 7, 2) := by decide +kernel
theorem dX11_price_95 : decode cX11_price 95 = .ok (.iload 9, 2) := by decide +kernel
theorem dX11_price_97 : decode cX11_price 97 = .ok (.istore 4, 2) := by decide +kernel
theorem dX11_price_99 : decode cX11_price 99 = .ok (.iload 11, 2) := by decide +kernel
theorem dX11_price_101 : decode cX11_price 101 = .ok (.iload 8, 2) := by decide +kernel
theorem dX11_price_103 : decode cX11_price 103 = .ok (.if_icmp .le 11, 3) := by decide +kernel
theorem dX11_price_106 : decode cX11_price 106 = .ok (.iload 11, 2) := by decide +kernel
theorem dX11_price_108 : decode cX11_price 108 = .ok (.istore 8, 2) := by decide +kernel
theorem dX11_price_110 : decode cX11_price 110 = .ok (.iload 9, 2) := by decide +kernel
theorem dX11_price_112 : decode cX11_price 112 = .ok (.istore 5, 2) := by decide +kernel
theorem dX11_price_114 : decode cX11_price 114 = .ok (.iload 9, 2) := by decide +kernel
theorem dX11_price_116 : decode cX11_price 116 = .ok (.iconst 1, 1) := by decide +kernel
theorem dX11_price_117 : decode cX11_price 117 = .ok (.if_icmp .lt 17, 3) := by decide +kernel
theorem dX11_price_120 : decode cX11_price 120 = .ok (.iload 11, 2) := by decide +kernel
theorem dX11_price_122 : decode cX11_price 122 = .ok (.ifCond .ne 12, 3) := by decide +kernel
theorem dX11_price_125 : decode cX11_price 125 = .ok (.iload 6, 2) := by decide +kernel
theorem dX11_price_127 : decode cX11_price 127 = .ok (.ifCond .ge 7, 3) := by decide +kernel
theorem dX11_price_130 : decode cX11_price 130 = .ok (.iload 9, 2) := by decide +kernel
theorem dX11_price_132 : decode cX11_price 132 = .ok (.istore 6, 2) := by decide +kernel
theorem dX11_price_134 : decode cX11_price 134 = .ok (.iinc 9 1, 3) := by decide +kernel
theorem dX11_price_137 : decode cX11_price 137 = .ok (.goto (-96), 3) := by decide +kernel
theorem dX11_price_140 : decode cX11_price 140 = .ok (.iload_n 2, 1) := by decide +kernel
theorem dX11_price_141 : decode cX11_price 141 = .ok (.tableswitch 43 0 3 #[31, 34, 37, 40], 31) := by decide +kernel
theorem dX11_price_172 : decode cX11_price 172 = .ok (.iload 4, 2) := by decide +kernel
theorem dX11_price_174 : decode cX11_price 174 = .ok (.ireturn, 1) := by decide +kernel
theorem dX11_price_175 : decode cX11_price 175 = .ok (.iload 5, 2) := by decide +kernel
theorem dX11_price_177 : decode cX11_price 177 = .ok (.ireturn, 1) := by decide +kernel
theorem dX11_price_178 : decode cX11_price 178 = .ok (.iload 6, 2) := by decide +kernel
theorem dX11_price_180 : decode cX11_price 180 = .ok (.ireturn, 1) := by decide +kernel
theorem dX11_price_181 : decode cX11_price 181 = .ok (.iload 7, 2) := by decide +kernel
theorem dX11_price_183 : decode cX11_price 183 = .ok (.ireturn, 1) := by decide +kernel
theorem dX11_price_184 : decode cX11_price 184 = .ok (.iload 8, 2) := by decide +kernel
theorem dX11_price_186 : decode cX11_price 186 = .ok (.ireturn, 1) := by decide +kernel
theorem dX11_worse_0 : decode cX11_worse 0 = .ok (.aload_n 0, 1) := by decide +kernel
theorem dX11_worse_1 : decode cX11_worse 1 = .ok (.iload_n 1, 1) := by decide +kernel
theorem dX11_worse_2 : decode cX11_worse 2 = .ok (.invokevirtual 131, 3) := by decide +kernel
theorem dX11_worse_5 : decode cX11_worse 5 = .ok (.astore_n 2, 1) := by decide +kernel
theorem dX11_worse_6 : decode cX11_worse 6 = .ok (.aload_n 2, 1) := by decide +kernel
theorem dX11_worse_7 : decode cX11_worse 7 = .ok (.ifnonnull 5, 3) := by decide +kernel
theorem dX11_worse_10 : decode cX11_worse 10 = .ok (.iconst (-1), 1) := by decide +kernel
theorem dX11_worse_11 : decode cX11_worse 11 = .ok (.ireturn, 1) := by decide +kernel
theorem dX11_worse_12 : decode cX11_worse 12 = .ok (.aload_n 0, 1) := by decide +kernel
theorem dX11_worse_13 : decode cX11_worse 13 = .ok (.aload_n 0, 1) := by decide +kernel
theorem dX11_worse_14 : decode cX11_worse 14 = .ok (.getfield 40, 3) := by decide +kernel
theorem dX11_worse_17 : decode cX11_worse 17 = .ok (.aload_n 0, 1) := by decide +kernel
theorem dX11_worse_18 : decode cX11_worse 18 = .ok (.getfield 47, 3) := by decide +kernel
theorem dX11_worse_21 : decode cX11_worse 21 = .ok (.iconst 0, 1) := by decide +kernel
theorem dX11_worse_22 : decode cX11_worse 22 = .ok (.aload_n 0, 1) := by decide +kernel
theorem dX11_worse_23 : decode cX11_worse 23 = .ok (.invokevirtual 105, 3) := by decide +kernel
theorem dX11_worse_26 : decode cX11_worse 26 = .ok (.getfield 112, 3) := by decide +kernel
theorem dX11_worse_29 : decode cX11_worse 29 = .ok (.invokevirtual 198, 3) := by decide +kernel
theorem dX11_worse_32 : decode cX11_worse 32 = .ok (.iconst 0, 1) := by decide +kernel
theorem dX11_worse_33 : decode cX11_worse 33 = .ok (.istore_n 3, 1) := by decide +kernel
theorem dX11_worse_34 : decode cX11_worse 34 = .ok (.iload_n 3, 1) := by decide +kernel
theorem dX11_worse_35 : decode cX11_worse 35 = .ok (.aload_n 0, 1) := by decide +kernel
theorem dX11_worse_36 : decode cX11_worse 36 = .ok (.getfield 81, 3) := by decide +kernel
theorem dX11_worse_39 : decode cX11_worse 39 = .ok (.if_icmp .ge 23, 3) := by decide +kernel
theorem dX11_worse_42 : decode cX11_worse 42 = .ok (.aload_n 0, 1) := by decide +kernel
theorem dX11_worse_43 : decode cX11_worse 43 = .ok (.getfield 66, 3) := by decide +kernel
theorem dX11_worse_46 : decode cX11_worse 46 = .ok (.iload_n 3, 1) := by decide +kernel
theorem dX11_worse_47 : decode cX11_worse 47 = .ok (.aload_n 0, 1) := by decide +kernel
theorem dX11_worse_48 : decode cX11_worse 48 = .ok (.getfield 62, 3) := by decide +kernel
theorem dX11_worse_51 : decode cX11_worse 51 = .ok (.iload_n 3, 1) := by decide +kernel
theorem dX11_worse_52 : decode cX11_worse 52 = .ok (.invokevirtual 202, 3) := by decide +kernel
theorem dX11_worse_55 : decode cX11_worse 55 = .ok (.iastore, 1) := by decide +kernel
theorem dX11_worse_56 : decode cX11_worse 56 = .ok (.iinc 3 1, 3) := by decide +kernel
theorem dX11_worse_59 : decode cX11_worse 59 = .ok (.goto (-25), 3) := by decide +kernel
theorem dX11_worse_62 : decode cX11_worse 62 = .ok (.aload_n 0, 1) := by decide +kernel
theorem dX11_worse_63 : decode cX11_worse 63 = .ok (.aload_n 2, 1) := by decide +kernel
theorem dX11_worse_64 : decode cX11_worse 64 = .ok (.invokevirtual 140, 3) := by decide +kernel
theorem dX11_worse_67 : decode cX11_worse 67 = .ok (.iconst 0, 1) := by decide +kernel
theorem dX11_worse_68 : decode cX11_worse 68 = .ok (.istore_n 3, 1) := by decide +kernel
theorem dX11_worse_69 : decode cX11_worse 69 = .ok (.iconst 0, 1) := by decide +kernel
theorem dX11_worse_70 : decode cX11_worse 70 = .ok (.istore 4, 2) := by decide +kernel
theorem dX11_worse_72 : decode cX11_worse 72 = .ok (.iload 4, 2) := by decide +kernel
theorem dX11_worse_74 : decode cX11_worse 74 = .ok (.aload_n 0, 1) := by decide +kernel
theorem dX11_worse_75 : decode cX11_worse 75 = .ok (.getfield 81, 3) := by decide +kernel
theorem dX11_worse_78 : decode cX11_worse 78 = .ok (.if_icmp .ge 35, 3) := by decide +kernel
theorem dX11_worse_81 : decode cX11_worse 81 = .ok (.aload_n 0, 1) := by decide +kernel
theorem dX11_worse_82 : decode cX11_worse 82 = .ok (.getfield 62, 3) := by decide +kernel
theorem dX11_worse_85 : decode cX11_worse 85 = .ok (.iload 4, 2) := by decide +kernel
theorem dX11_worse_87 : decode cX11_worse 87 = .ok (.invokevirtual 202, 3) := by decide +kernel
theorem dX11_worse_90 : decode cX11_worse 90 = .ok (.aload_n 0, 1) := by decide +kernel
theorem dX11_worse_91 : decode cX11_worse 91 = .ok (.getfield 66, 3) := by decide +kernel
theorem dX11_worse_94 : decode cX11_worse 94 = .ok (.iload 4, 2) := by decide +kernel
theorem dX11_worse_96 : decode cX11_worse 96 = .ok (.iaload, 1) := by decide +kernel
theorem dX11_worse_97 : decode cX11_worse 97 = .ok (.if_icmp .le 10, 3) := by decide +kernel
theorem dX11_worse_100 : decode cX11_worse 100 = .ok (.iload_n 3, 1) := by decide +kernel
theorem dX11_worse_101 : decode cX11_worse 101 = .ok (.iconst 1, 1) := by decide +kernel
theorem dX11_worse_102 : decode cX11_worse 102 = .ok (.iload 4, 2) := by decide +kernel
theorem dX11_worse_104 : decode cX11_worse 104 = .ok (.ishl, 1) := by decide +kernel
theorem dX11_worse_105 : decode cX11_worse 105 = .ok (.ior, 1) := by decide +kernel
theorem dX11_worse_106 : decode cX11_worse 106 = .ok (.istore_n 3, 1) := by decide +kernel
theorem dX11_worse_107 : decode cX11_worse 107 = .ok (.iinc 4 1, 3) := by decide +kernel
theorem dX11_worse_110 : decode cX11_worse 110 = .ok (.goto (-38), 3) := by decide +kernel
theorem dX11_worse_113 : decode cX11_worse 113 = .ok (.iload_n 3, 1) := by decide +kernel
theorem dX11_worse_114 : decode cX11_worse 114 = .ok (.ireturn, 1) := by decide +kernel
theorem dX11_loss_0 : decode cX11_loss 0 = .ok (.aload_n 0, 1) := by decide +kernel
theorem dX11_loss_1 : decode cX11_loss 1 = .ok (.iload_n 1, 1) := by decide +kernel
theorem dX11_loss_2 : decode cX11_loss 2 = .ok (.invokevirtual 131, 3) := by decide +kernel
theorem dX11_loss_5 : decode cX11_loss 5 = .ok (.astore_n 3, 1) := by decide +kernel
theorem dX11_loss_6 : decode cX11_loss 6 = .ok (.aload_n 3, 1) := by decide +kernel
theorem dX11_loss_7 : decode cX11_loss 7 = .ok (.ifnull 11, 3) := by decide +kernel
theorem dX11_loss_10 : decode cX11_loss 10 = .ok (.aload_n 0, 1) := by decide +kernel
theorem dX11_loss_11 : decode cX11_loss 11 = .ok (.iload_n 2, 1) := by decide +kernel
theorem dX11_loss_12 : decode cX11_loss 12 = .ok (.invokevirtual 88, 3) := by decide +kernel
theorem dX11_loss_15 : decode cX11_loss 15 = .ok (.ifCond .eq 5, 3) := by decide +kernel
theorem dX11_loss_18 : decode cX11_loss 18 = .ok (.iconst (-1), 1) := by decide +kernel
theorem dX11_loss_19 : decode cX11_loss 19 = .ok (.ireturn, 1) := by decide +kernel
theorem dX11_loss_20 : decode cX11_loss 20 = .ok (.aload_n 0, 1) := by decide +kernel
theorem dX11_loss_21 : decode cX11_loss 21 = .ok (.aload_n 3, 1) := by decide +kernel
theorem dX11_loss_22 : decode cX11_loss 22 = .ok (.invokevirtual 140, 3) := by decide +kernel
theorem dX11_loss_25 : decode cX11_loss 25 = .ok (.aload_n 0, 1) := by decide +kernel
theorem dX11_loss_26 : decode cX11_loss 26 = .ok (.getfield 62, 3) := by decide +kernel
theorem dX11_loss_29 : decode cX11_loss 29 = .ok (.iload_n 2, 1) := by decide +kernel
theorem dX11_loss_30 : decode cX11_loss 30 = .ok (.invokevirtual 202, 3) := by decide +kernel
theorem dX11_loss_33 : decode cX11_loss 33 = .ok (.ireturn, 1) := by decide +kernel
theorem dX11_slow_0 : decode cX11_slow 0 = .ok (.aload_n 0, 1) := by decide +kernel
theorem dX11_slow_1 : decode cX11_slow 1 = .ok (.iload_n 1, 1) := by decide +kernel
theorem dX11_slow_2 : decode cX11_slow 2 = .ok (.invokevirtual 131, 3) := by decide +kernel
theorem dX11_slow_5 : decode cX11_slow 5 = .ok (.astore_n 3, 1) := by decide +kernel
theorem dX11_slow_6 : decode cX11_slow 6 = .ok (.aload_n 3, 1) := by decide +kernel
theorem dX11_slow_7 : decode cX11_slow 7 = .ok (.ifnonnull 6, 3) := by decide +kernel
theorem dX11_slow_10 : decode cX11_slow 10 = .ok (.ldc 205, 2) := by decide +kernel
theorem dX11_slow_12 : decode cX11_slow 12 = .ok (.ireturn, 1) := by decide +kernel
theorem dX11_slow_13 : decode cX11_slow 13 = .ok (.iload_n 2, 1) := by decide +kernel
theorem dX11_slow_14 : decode cX11_slow 14 = .ok (.iconst 1, 1) := by decide +kernel
theorem dX11_slow_15 : decode cX11_slow 15 = .ok (.bipush 9, 2) := by decide +kernel
theorem dX11_slow_17 : decode cX11_slow 17 = .ok (.invokestatic 77, 3) := by decide +kernel
theorem dX11_slow_20 : decode cX11_slow 20 = .ok (.ifCond .eq 6, 3) := by decide +kernel
theorem dX11_slow_23 : decode cX11_slow 23 = .ok (.ldc 206, 2) := by decide +kernel
theorem dX11_slow_25 : decode cX11_slow 25 = .ok (.ireturn, 1) := by decide +kernel
theorem dX11_slow_26 : decode cX11_slow 26 = .ok (.aload_n 0, 1) := by decide +kernel
theorem dX11_slow_27 : decode cX11_slow 27 = .ok (.aload_n 3, 1) := by decide +kernel
theorem dX11_slow_28 : decode cX11_slow 28 = .ok (.invokevirtual 140, 3) := by decide +kernel
theorem dX11_slow_31 : decode cX11_slow 31 = .ok (.aload_n 0, 1) := by decide +kernel
theorem dX11_slow_32 : decode cX11_slow 32 = .ok (.getfield 62, 3) := by decide +kernel
theorem dX11_slow_35 : decode cX11_slow 35 = .ok (.invokevirtual 182, 3) := by decide +kernel
theorem dX11_slow_38 : decode cX11_slow 38 = .ok (.istore 4, 2) := by decide +kernel
theorem dX11_slow_40 : decode cX11_slow 40 = .ok (.aload_n 0, 1) := by decide +kernel
theorem dX11_slow_41 : decode cX11_slow 41 = .ok (.aload_n 3, 1) := by decide +kernel
theorem dX11_slow_42 : decode cX11_slow 42 = .ok (.aload_n 0, 1) := by decide +kernel
theorem dX11_slow_43 : decode cX11_slow 43 = .ok (.getfield 47, 3) := by decide +kernel
theorem dX11_slow_46 : decode cX11_slow 46 = .ok (.aload_n 0, 1) := by decide +kernel
theorem dX11_slow_47 : decode cX11_slow 47 = .ok (.invokevirtual 105, 3) := by decide +kernel
theorem dX11_slow_50 : decode cX11_slow 50 = .ok (.getfield 109, 3) := by decide +kernel
theorem dX11_slow_53 : decode cX11_slow 53 = .ok (.aload_n 0, 1) := by decide +kernel
theorem dX11_slow_54 : decode cX11_slow 54 = .ok (.invokevirtual 105, 3) := by decide +kernel
theorem dX11_slow_57 : decode cX11_slow 57 = .ok (.getfield 112, 3) := by decide +kernel
theorem dX11_slow_60 : decode cX11_slow 60 = .ok (.iload_n 2, 1) := by decide +kernel
theorem dX11_slow_61 : decode cX11_slow 61 = .ok (.iadd, 1) := by decide +kernel
theorem dX11_slow_62 : decode cX11_slow 62 = .ok (.invokevirtual 198, 3) := by decide +kernel
theorem dX11_slow_65 : decode cX11_slow 65 = .ok (.aload_n 0, 1) := by decide +kernel
theorem dX11_slow_66 : decode cX11_slow 66 = .ok (.getfield 62, 3) := by decide +kernel
theorem dX11_slow_69 : decode cX11_slow 69 = .ok (.invokevirtual 182, 3) := by decide +kernel
theorem dX11_slow_72 : decode cX11_slow 72 = .ok (.iload 4, 2) := by decide +kernel
theorem dX11_slow_74 : decode cX11_slow 74 = .ok (.isub, 1) := by decide +kernel
theorem dX11_slow_75 : decode cX11_slow 75 = .ok (.ireturn, 1) := by decide +kernel
theorem dX11_early_0 : decode cX11_early 0 = .ok (.aload_n 0, 1) := by decide +kernel
theorem dX11_early_1 : decode cX11_early 1 = .ok (.iload_n 1, 1) := by decide +kernel
theorem dX11_early_2 : decode cX11_early 2 = .ok (.invokevirtual 131, 3) := by decide +kernel
theorem dX11_early_5 : decode cX11_early 5 = .ok (.astore 4, 2) := by decide +kernel
theorem dX11_early_7 : decode cX11_early 7 = .ok (.aload 4, 2) := by decide +kernel
theorem dX11_early_9 : decode cX11_early 9 = .ok (.ifnull 20, 3) := by decide +kernel
theorem dX11_early_12 : decode cX11_early 12 = .ok (.aload_n 0, 1) := by decide +kernel
theorem dX11_early_13 : decode cX11_early 13 = .ok (.iload_n 2, 1) := by decide +kernel
theorem dX11_early_14 : decode cX11_early 14 = .ok (.invokevirtual 88, 3) := by decide +kernel
theorem dX11_early_17 : decode cX11_early 17 = .ok (.ifCond .ne 12, 3) := by decide +kernel
theorem dX11_early_20 : decode cX11_early 20 = .ok (.iload_n 3, 1) := by decide +kernel
theorem dX11_early_21 : decode cX11_early 21 = .ok (.iconst 0, 1) := by decide +kernel
theorem dX11_early_22 : decode cX11_early 22 = .ok (.iconst 1, 1) := by decide +kernel
theorem dX11_early_23 : decode cX11_early 23 = .ok (.invokestatic 77, 3) := by decide +kernel
theorem dX11_early_26 : decode cX11_early 26 = .ok (.ifCond .eq 5, 3) := by decide +kernel
theorem dX11_early_29 : decode cX11_early 29 = .ok (.iconst (-1), 1) := by decide +kernel
theorem dX11_early_30 : decode cX11_early 30 = .ok (.ireturn, 1) := by decide +kernel
theorem dX11_early_31 : decode cX11_early 31 = .ok (.aload_n 0, 1) := by decide +kernel
theorem dX11_early_32 : decode cX11_early 32 = .ok (.getfield 47, 3) := by decide +kernel
theorem dX11_early_35 : decode cX11_early 35 = .ok (.getfield 118, 3) := by decide +kernel
theorem dX11_early_38 : decode cX11_early 38 = .ok (.bipush 12, 2) := by decide +kernel
theorem dX11_early_40 : decode cX11_early 40 = .ok (.if_icmp .lt 6, 3) := by decide +kernel
theorem dX11_early_43 : decode cX11_early 43 = .ok (.bipush (-4), 2) := by decide +kernel
theorem dX11_early_45 : decode cX11_early 45 = .ok (.ireturn, 1) := by decide +kernel
theorem dX11_early_46 : decode cX11_early 46 = .ok (.bipush (-5), 2) := by decide +kernel
theorem dX11_early_48 : decode cX11_early 48 = .ok (.istore 5, 2) := by decide +kernel
theorem dX11_early_50 : decode cX11_early 50 = .ok (.bipush (-5), 2) := by decide +kernel
theorem dX11_early_52 : decode cX11_early 52 = .ok (.istore 6, 2) := by decide +kernel
theorem dX11_early_54 : decode cX11_early 54 = .ok (.iconst 0, 1) := by decide +kernel
theorem dX11_early_55 : decode cX11_early 55 = .ok (.istore 7, 2) := by decide +kernel
theorem dX11_early_57 : decode cX11_early 57 = .ok (.iload 7, 2) := by decide +kernel
theorem dX11_early_59 : decode cX11_early 59 = .ok (.bipush 60, 2) := by decide +kernel
theorem dX11_early_61 : decode cX11_early 61 = .ok (.if_icmp .ge 99, 3) := by decide +kernel
theorem dX11_early_64 : decode cX11_early 64 = .ok (.aload_n 0, 1) := by decide +kernel
theorem dX11_early_65 : decode cX11_early 65 = .ok (.getfield 54, 3) := by decide +kernel
theorem dX11_early_68 : decode cX11_early 68 = .ok (.aload_n 0, 1) := by decide +kernel
theorem dX11_early_69 : decode cX11_early 69 = .ok (.getfield 47, 3) := by decide +kernel
theorem dX11_early_72 : decode cX11_early 72 = .ok (.aload_n 0, 1) := by decide +kernel
theorem dX11_early_73 : decode cX11_early 73 = .ok (.getfield 81, 3) := by decide +kernel
theorem dX11_early_76 : decode cX11_early 76 = .ok (.invokevirtual 207, 3) := by decide +kernel
theorem dX11_early_79 : decode cX11_early 79 = .ok (.aload_n 0, 1) := by decide +kernel
theorem dX11_early_80 : decode cX11_early 80 = .ok (.getfield 54, 3) := by decide +kernel
theorem dX11_early_83 : decode cX11_early 83 = .ok (.iload_n 2, 1) := by decide +kernel
theorem dX11_early_84 : decode cX11_early 84 = .ok (.iload 7, 2) := by decide +kernel
theorem dX11_early_86 : decode cX11_early 86 = .ok (.invokevirtual 121, 3) := by decide +kernel
theorem dX11_early_89 : decode cX11_early 89 = .ok (.aload_n 0, 1) := by decide +kernel
theorem dX11_early_90 : decode cX11_early 90 = .ok (.aload 4, 2) := by decide +kernel
theorem dX11_early_92 : decode cX11_early 92 = .ok (.aload_n 0, 1) := by decide +kernel
theorem dX11_early_93 : decode cX11_early 93 = .ok (.getfield 54, 3) := by decide +kernel
theorem dX11_early_96 : decode cX11_early 96 = .ok (.aload_n 0, 1) := by decide +kernel
theorem dX11_early_97 : decode cX11_early 97 = .ok (.invokevirtual 105, 3) := by decide +kernel
theorem dX11_early_100 : decode cX11_early 100 = .ok (.getfield 109, 3) := by decide +kernel
theorem dX11_early_103 : decode cX11_early 103 = .ok (.aload_n 0, 1) := by decide +kernel
theorem dX11_early_104 : decode cX11_early 104 = .ok (.invokevirtual 105, 3) := by decide +kernel
theorem dX11_early_107 : decode cX11_early 107 = .ok (.getfield 112, 3) := by decide +kernel
theorem dX11_early_110 : decode cX11_early 110 = .ok (.invokevirtual 198, 3) := by decide +kernel
theorem dX11_early_113 : decode cX11_early 113 = .ok (.aload_n 0, 1) := by decide +kernel
theorem dX11_early_114 : decode cX11_early 114 = .ok (.getfield 62, 3) := by decide +kernel
theorem dX11_early_117 : decode cX11_early 117 = .ok (.aload_n 0, 1) := by decide +kernel
theorem dX11_early_118 : decode cX11_early 118 = .ok (.getfield 62, 3) := by decide +kernel
theorem dX11_early_121 : decode cX11_early 121 = .ok (.getfield 211, 3) := by decide +kernel
theorem dX11_early_124 : decode cX11_early 124 = .ok (.invokevirtual 159, 3) := by decide +kernel
theorem dX11_early_127 : decode cX11_early 127 = .ok (.istore 8, 2) := by decide +kernel
theorem dX11_early_129 : decode cX11_early 129 = .ok (.iload 8, 2) := by decide +kernel
theorem dX11_early_131 : decode cX11_early 131 = .ok (.ifCond .lt 23, 3) := by decide +kernel
theorem dX11_early_134 : decode cX11_early 134 = .ok (.iload 6, 2) := by decide +kernel
theorem dX11_early_136 : decode cX11_early 136 = .ok (.ifCond .lt 10, 3) := by decide +kernel
theorem dX11_early_139 : decode cX11_early 139 = .ok (.iload 8, 2) := by decide +kernel
theorem dX11_early_141 : decode cX11_early 141 = .ok (.iload 6, 2) := by decide +kernel
theorem dX11_early_143 : decode cX11_early 143 = .ok (.if_icmp .ge 11, 3) := by decide +kernel
theorem dX11_early_146 : decode cX11_early 146 = .ok (.iload 7, 2) := by decide +kernel
theorem dX11_early_148 : decode cX11_early 148 = .ok (.istore 5, 2) := by decide +kernel
theorem dX11_early_150 : decode cX11_early 150 = .ok (.iload 8, 2) := by decide +kernel
theorem dX11_early_152 : decode cX11_early 152 = .ok (.istore 6, 2) := by decide +kernel
theorem dX11_early_154 : decode cX11_early 154 = .ok (.iinc 7 1, 3) := by decide +kernel
theorem dX11_early_157 : decode cX11_early 157 = .ok (.goto (-100), 3) := by decide +kernel
theorem dX11_early_160 : decode cX11_early 160 = .ok (.iload_n 3, 1) := by decide +kernel
theorem dX11_early_161 : decode cX11_early 161 = .ok (.ifCond .ne 8, 3) := by decide +kernel
theorem dX11_early_164 : decode cX11_early 164 = .ok (.iload 5, 2) := by decide +kernel
theorem dX11_early_166 : decode cX11_early 166 = .ok (.goto 5, 3) := by decide +kernel
theorem dX11_early_169 : decode cX11_early 169 = .ok (.iload 6, 2) := by decide +kernel
theorem dX11_early_171 : decode cX11_early 171 = .ok (.ireturn, 1) := by decide +kernel
theorem dX11_sell_0 : decode cX11_sell 0 = .ok (.aload_n 0, 1) := by decide +kernel
theorem dX11_sell_1 : decode cX11_sell 1 = .ok (.iload_n 1, 1) := by decide +kernel
theorem dX11_sell_2 : decode cX11_sell 2 = .ok (.invokevirtual 131, 3) := by decide +kernel
theorem dX11_sell_5 : decode cX11_sell 5 = .ok (.astore_n 2, 1) := by decide +kernel
theorem dX11_sell_6 : decode cX11_sell 6 = .ok (.aload_n 2, 1) := by decide +kernel
theorem dX11_sell_7 : decode cX11_sell 7 = .ok (.ifnonnull 5, 3) := by decide +kernel
theorem dX11_sell_10 : decode cX11_sell 10 = .ok (.iconst (-1), 1) := by decide +kernel
theorem dX11_sell_11 : decode cX11_sell 11 = .ok (.ireturn, 1) := by decide +kernel
theorem dX11_sell_12 : decode cX11_sell 12 = .ok (.aload_n 0, 1) := by decide +kernel
theorem dX11_sell_13 : decode cX11_sell 13 = .ok (.aload_n 2, 1) := by decide +kernel
theorem dX11_sell_14 : decode cX11_sell 14 = .ok (.invokevirtual 140, 3) := by decide +kernel
theorem dX11_sell_17 : decode cX11_sell 17 = .ok (.aload_n 0, 1) := by decide +kernel
theorem dX11_sell_18 : decode cX11_sell 18 = .ok (.getfield 62, 3) := by decide +kernel
theorem dX11_sell_21 : decode cX11_sell 21 = .ok (.invokevirtual 214, 3) := by decide +kernel
theorem dX11_sell_24 : decode cX11_sell 24 = .ok (.ireturn, 1) := by decide +kernel
theorem dX11_mean_0 : decode cX11_mean 0 = .ok (.aload_n 0, 1) := by decide +kernel
theorem dX11_mean_1 : decode cX11_mean 1 = .ok (.iload_n 1, 1) := by decide +kernel
theorem dX11_mean_2 : decode cX11_mean 2 = .ok (.invokevirtual 131, 3) := by decide +kernel
theorem dX11_mean_5 : decode cX11_mean 5 = .ok (.astore_n 3, 1) := by decide +kernel
theorem dX11_mean_6 : decode cX11_mean 6 = .ok (.aload_n 3, 1) := by decide +kernel
theorem dX11_mean_7 : decode cX11_mean 7 = .ok (.ifnull 24, 3) := by decide +kernel
theorem dX11_mean_10 : decode cX11_mean 10 = .ok (.iload_n 2, 1) := by decide +kernel
theorem dX11_mean_11 : decode cX11_mean 11 = .ok (.iconst 0, 1) := by decide +kernel
theorem dX11_mean_12 : decode cX11_mean 12 = .ok (.iconst 1, 1) := by decide +kernel
theorem dX11_mean_13 : decode cX11_mean 13 = .ok (.invokestatic 77, 3) := by decide +kernel
theorem dX11_mean_16 : decode cX11_mean 16 = .ok (.ifCond .ne 15, 3) := by decide +kernel
theorem dX11_mean_19 : decode cX11_mean 19 = .ok (.aload_n 0, 1) := by decide +kernel
theorem dX11_mean_20 : decode cX11_mean 20 = .ok (.getfield 47, 3) := by decide +kernel
theorem dX11_mean_23 : decode cX11_mean 23 = .ok (.getfield 118, 3) := by decide +kernel
theorem dX11_mean_26 : decode cX11_mean 26 = .ok (.bipush 6, 2) := by decide +kernel
theorem dX11_mean_28 : decode cX11_mean 28 = .ok (.if_icmp .le 7, 3) := by decide +kernel
theorem dX11_mean_31 : decode cX11_mean 31 = .ok (.ldc2_w 217, 3) := by decide +kernel
theorem dX11_mean_34 : decode cX11_mean 34 = .ok (.lreturn, 1) := by decide +kernel
theorem dX11_mean_35 : decode cX11_mean 35 = .ok (.lconst 0, 1) := by decide +kernel
theorem dX11_mean_36 : decode cX11_mean 36 = .ok (.lstore 4, 2) := by decide +kernel
theorem dX11_mean_38 : decode cX11_mean 38 = .ok (.lconst 1, 1) := by decide +kernel
theorem dX11_mean_39 : decode cX11_mean 39 = .ok (.lstore 6, 2) := by decide +kernel
theorem dX11_mean_41 : decode cX11_mean 41 = .ok (.iconst 0, 1) := by decide +kernel
theorem dX11_mean_42 : decode cX11_mean 42 = .ok (.istore 8, 2) := by decide +kernel
theorem dX11_mean_44 : decode cX11_mean 44 = .ok (.iload 8, 2) := by decide +kernel
theorem dX11_mean_46 : decode cX11_mean 46 = .ok (.iconst 1, 1) := by decide +kernel
theorem dX11_mean_47 : decode cX11_mean 47 = .ok (.aload_n 0, 1) := by decide +kernel
theorem dX11_mean_48 : decode cX11_mean 48 = .ok (.getfield 47, 3) := by decide +kernel
theorem dX11_mean_51 : decode cX11_mean 51 = .ok (.getfield 118, 3) := by decide +kernel
theorem dX11_mean_54 : decode cX11_mean 54 = .ok (.ishl, 1) := by decide +kernel
theorem dX11_mean_55 : decode cX11_mean 55 = .ok (.if_icmp .ge 63, 3) := by decide +kernel
theorem dX11_mean_58 : decode cX11_mean 58 = .ok (.aload_n 0, 1) := by decide +kernel
theorem dX11_mean_59 : decode cX11_mean 59 = .ok (.iload 8, 2) := by decide +kernel
theorem dX11_mean_61 : decode cX11_mean 61 = .ok (.invokevirtual 219, 3) := by decide +kernel
theorem dX11_mean_64 : decode cX11_mean 64 = .ok (.lstore 9, 2) := by decide +kernel
theorem dX11_mean_66 : decode cX11_mean 66 = .ok (.lload 9, 2) := by decide +kernel
theorem dX11_mean_68 : decode cX11_mean 68 = .ok (.lconst 0, 1) := by decide +kernel
theorem dX11_mean_69 : decode cX11_mean 69 = .ok (.lcmp, 1) := by decide +kernel
theorem dX11_mean_70 : decode cX11_mean 70 = .ok (.ifCond .le 42, 3) := by decide +kernel
theorem dX11_mean_73 : decode cX11_mean 73 = .ok (.aload_n 0, 1) := by decide +kernel
theorem dX11_mean_74 : decode cX11_mean 74 = .ok (.aload_n 3, 1) := by decide +kernel
theorem dX11_mean_75 : decode cX11_mean 75 = .ok (.aload_n 0, 1) := by decide +kernel
theorem dX11_mean_76 : decode cX11_mean 76 = .ok (.getfield 54, 3) := by decide +kernel
theorem dX11_mean_79 : decode cX11_mean 79 = .ok (.aload_n 0, 1) := by decide +kernel
theorem dX11_mean_80 : decode cX11_mean 80 = .ok (.invokevirtual 105, 3) := by decide +kernel
theorem dX11_mean_83 : decode cX11_mean 83 = .ok (.getfield 109, 3) := by decide +kernel
theorem dX11_mean_86 : decode cX11_mean 86 = .ok (.aload_n 0, 1) := by decide +kernel
theorem dX11_mean_87 : decode cX11_mean 87 = .ok (.invokevirtual 105, 3) := by decide +kernel
theorem dX11_mean_90 : decode cX11_mean 90 = .ok (.getfield 112, 3) := by decide +kernel
theorem dX11_mean_93 : decode cX11_mean 93 = .ok (.invokevirtual 198, 3) := by decide +kernel
theorem dX11_mean_96 : decode cX11_mean 96 = .ok (.lload 4, 2) := by decide +kernel
theorem dX11_mean_98 : decode cX11_mean 98 = .ok (.lload 9, 2) := by decide +kernel
theorem dX11_mean_100 : decode cX11_mean 100 = .ok (.aload_n 0, 1) := by decide +kernel
theorem dX11_mean_101 : decode cX11_mean 101 = .ok (.getfield 62, 3) := by decide +kernel
theorem dX11_mean_104 : decode cX11_mean 104 = .ok (.invokevirtual 178, 3) := by decide +kernel
theorem dX11_mean_107 : decode cX11_mean 107 = .ok (.i2l, 1) := by decide +kernel
theorem dX11_mean_108 : decode cX11_mean 108 = .ok (.lmul, 1) := by decide +kernel
theorem dX11_mean_109 : decode cX11_mean 109 = .ok (.ladd, 1) := by decide +kernel
theorem dX11_mean_110 : decode cX11_mean 110 = .ok (.lstore 4, 2) := by decide +kernel
theorem dX11_mean_112 : decode cX11_mean 112 = .ok (.iinc 8 1, 3) := by decide +kernel
theorem dX11_mean_115 : decode cX11_mean 115 = .ok (.goto (-71), 3) := by decide +kernel
theorem dX11_mean_118 : decode cX11_mean 118 = .ok (.iconst 0, 1) := by decide +kernel
theorem dX11_mean_119 : decode cX11_mean 119 = .ok (.istore 8, 2) := by decide +kernel
theorem dX11_mean_121 : decode cX11_mean 121 = .ok (.iload 8, 2) := by decide +kernel
theorem dX11_mean_123 : decode cX11_mean 123 = .ok (.aload_n 0, 1) := by decide +kernel
theorem dX11_mean_124 : decode cX11_mean 124 = .ok (.getfield 47, 3) := by decide +kernel
theorem dX11_mean_127 : decode cX11_mean 127 = .ok (.getfield 118, 3) := by decide +kernel
theorem dX11_mean_130 : decode cX11_mean 130 = .ok (.if_icmp .ge 17, 3) := by decide +kernel
theorem dX11_mean_133 : decode cX11_mean 133 = .ok (.lload 6, 2) := by decide +kernel
theorem dX11_mean_135 : decode cX11_mean 135 = .ok (.ldc2_w 223, 3) := by decide +kernel
theorem dX11_mean_138 : decode cX11_mean 138 = .ok (.lmul, 1) := by decide +kernel
theorem dX11_mean_139 : decode cX11_mean 139 = .ok (.lstore 6, 2) := by decide +kernel
theorem dX11_mean_141 : decode cX11_mean 141 = .ok (.iinc 8 1, 3) := by decide +kernel
theorem dX11_mean_144 : decode cX11_mean 144 = .ok (.goto (-23), 3) := by decide +kernel
theorem dX11_mean_147 : decode cX11_mean 147 = .ok (.lload 4, 2) := by decide +kernel
theorem dX11_mean_149 : decode cX11_mean 149 = .ok (.lload 6, 2) := by decide +kernel
theorem dX11_mean_151 : decode cX11_mean 151 = .ok (.iload_n 2, 1) := by decide +kernel
theorem dX11_mean_152 : decode cX11_mean 152 = .ok (.invokestatic 225, 3) := by decide +kernel
theorem dX11_mean_155 : decode cX11_mean 155 = .ok (.lreturn, 1) := by decide +kernel
theorem dX11_judge_0 : decode cX11_judge 0 = .ok (.aload_n 0, 1) := by decide +kernel
theorem dX11_judge_1 : decode cX11_judge 1 = .ok (.iload_n 1, 1) := by decide +kernel
theorem dX11_judge_2 : decode cX11_judge 2 = .ok (.invokevirtual 229, 3) := by decide +kernel
theorem dX11_judge_5 : decode cX11_judge 5 = .ok (.astore 5, 2) := by decide +kernel
theorem dX11_judge_7 : decode cX11_judge 7 = .ok (.aload_n 0, 1) := by decide +kernel
theorem dX11_judge_8 : decode cX11_judge 8 = .ok (.iload 4, 2) := by decide +kernel
theorem dX11_judge_10 : decode cX11_judge 10 = .ok (.invokevirtual 131, 3) := by decide +kernel
theorem dX11_judge_13 : decode cX11_judge 13 = .ok (.astore 6, 2) := by decide +kernel
theorem dX11_judge_15 : decode cX11_judge 15 = .ok (.aload 5, 2) := by decide +kernel
theorem dX11_judge_17 : decode cX11_judge 17 = .ok (.ifnull 8, 3) := by decide +kernel
theorem dX11_judge_20 : decode cX11_judge 20 = .ok (.aload 6, 2) := by decide +kernel
theorem dX11_judge_22 : decode cX11_judge 22 = .ok (.ifnonnull 5, 3) := by decide +kernel
theorem dX11_judge_25 : decode cX11_judge 25 = .ok (.iconst (-1), 1) := by decide +kernel
theorem dX11_judge_26 : decode cX11_judge 26 = .ok (.ireturn, 1) := by decide +kernel
theorem dX11_judge_27 : decode cX11_judge 27 = .ok (.iload_n 3, 1) := by decide +kernel
theorem dX11_judge_28 : decode cX11_judge 28 = .ok (.iconst 0, 1) := by decide +kernel
theorem dX11_judge_29 : decode cX11_judge 29 = .ok (.bipush 40, 2) := by decide +kernel
theorem dX11_judge_31 : decode cX11_judge 31 = .ok (.invokestatic 77, 3) := by decide +kernel
theorem dX11_judge_34 : decode cX11_judge 34 = .ok (.ifCond .eq 6, 3) := by decide +kernel
theorem dX11_judge_37 : decode cX11_judge 37 = .ok (.bipush (-2), 2) := by decide +kernel
theorem dX11_judge_39 : decode cX11_judge 39 = .ok (.ireturn, 1) := by decide +kernel
theorem dX11_judge_40 : decode cX11_judge 40 = .ok (.aload 5, 2) := by decide +kernel
theorem dX11_judge_42 : decode cX11_judge 42 = .ok (.getfield 233, 3) := by decide +kernel
theorem dX11_judge_45 : decode cX11_judge 45 = .ok (.ifCond .le 6, 3) := by decide +kernel
theorem dX11_judge_48 : decode cX11_judge 48 = .ok (.bipush (-12), 2) := by decide +kernel
theorem dX11_judge_50 : decode cX11_judge 50 = .ok (.ireturn, 1) := by decide +kernel
theorem dX11_judge_51 : decode cX11_judge 51 = .ok (.aload_n 0, 1) := by decide +kernel
theorem dX11_judge_52 : decode cX11_judge 52 = .ok (.aload 6, 2) := by decide +kernel
theorem dX11_judge_54 : decode cX11_judge 54 = .ok (.invokevirtual 140, 3) := by decide +kernel
theorem dX11_judge_57 : decode cX11_judge 57 = .ok (.iconst 0, 1) := by decide +kernel
theorem dX11_judge_58 : decode cX11_judge 58 = .ok (.istore 7, 2) := by decide +kernel
theorem dX11_judge_60 : decode cX11_judge 60 = .ok (.iload 7, 2) := by decide +kernel
theorem dX11_judge_62 : decode cX11_judge 62 = .ok (.iload_n 3, 1) := by decide +kernel
theorem dX11_judge_63 : decode cX11_judge 63 = .ok (.if_icmp .ge 77, 3) := by decide +kernel
theorem dX11_judge_66 : decode cX11_judge 66 = .ok (.aload 5, 2) := by decide +kernel
theorem dX11_judge_68 : decode cX11_judge 68 = .ok (.iload_n 2, 1) := by decide +kernel
theorem dX11_judge_69 : decode cX11_judge 69 = .ok (.i2l, 1) := by decide +kernel
theorem dX11_judge_70 : decode cX11_judge 70 = .ok (.iload 7, 2) := by decide +kernel
theorem dX11_judge_72 : decode cX11_judge 72 = .ok (.i2l, 1) := by decide +kernel
theorem dX11_judge_73 : decode cX11_judge 73 = .ok (.ladd, 1) := by decide +kernel
theorem dX11_judge_74 : decode cX11_judge 74 = .ok (.invokevirtual 236, 3) := by decide +kernel
theorem dX11_judge_77 : decode cX11_judge 77 = .ok (.ifCond .eq 9, 3) := by decide +kernel
theorem dX11_judge_80 : decode cX11_judge 80 = .ok (.bipush 100, 2) := by decide +kernel
theorem dX11_judge_82 : decode cX11_judge 82 = .ok (.iload 7, 2) := by decide +kernel
theorem dX11_judge_84 : decode cX11_judge 84 = .ok (.iadd, 1) := by decide +kernel
theorem dX11_judge_85 : decode cX11_judge 85 = .ok (.ireturn, 1) := by decide +kernel
theorem dX11_judge_86 : decode cX11_judge 86 = .ok (.iload 7, 2) := by decide +kernel
theorem dX11_judge_88 : decode cX11_judge 88 = .ok (.aload_n 0, 1) := by decide +kernel
theorem dX11_judge_89 : decode cX11_judge 89 = .ok (.getfield 62, 3) := by decide +kernel
theorem dX11_judge_92 : decode cX11_judge 92 = .ok (.getfield 166, 3) := by decide +kernel
theorem dX11_judge_95 : decode cX11_judge 95 = .ok (.if_icmp .ge 36, 3) := by decide +kernel
theorem dX11_judge_98 : decode cX11_judge 98 = .ok (.aload 5, 2) := by decide +kernel
theorem dX11_judge_100 : decode cX11_judge 100 = .ok (.getfield 240, 3) := by decide +kernel
theorem dX11_judge_103 : decode cX11_judge 103 = .ok (.iload_n 2, 1) := by decide +kernel
theorem dX11_judge_104 : decode cX11_judge 104 = .ok (.iload 7, 2) := by decide +kernel
theorem dX11_judge_106 : decode cX11_judge 106 = .ok (.iadd, 1) := by decide +kernel
theorem dX11_judge_107 : decode cX11_judge 107 = .ok (.laload, 1) := by decide +kernel
theorem dX11_judge_108 : decode cX11_judge 108 = .ok (.aload_n 0, 1) := by decide +kernel
theorem dX11_judge_109 : decode cX11_judge 109 = .ok (.getfield 62, 3) := by decide +kernel
theorem dX11_judge_112 : decode cX11_judge 112 = .ok (.getfield 147, 3) := by decide +kernel
theorem dX11_judge_115 : decode cX11_judge 115 = .ok (.aload_n 0, 1) := by decide +kernel
theorem dX11_judge_116 : decode cX11_judge 116 = .ok (.getfield 62, 3) := by decide +kernel
theorem dX11_judge_119 : decode cX11_judge 119 = .ok (.getfield 169, 3) := by decide +kernel
theorem dX11_judge_122 : decode cX11_judge 122 = .ok (.iload 7, 2) := by decide +kernel
theorem dX11_judge_124 : decode cX11_judge 124 = .ok (.iaload, 1) := by decide +kernel
theorem dX11_judge_125 : decode cX11_judge 125 = .ok (.iaload, 1) := by decide +kernel
theorem dX11_judge_126 : decode cX11_judge 126 = .ok (.i2l, 1) := by decide +kernel
theorem dX11_judge_127 : decode cX11_judge 127 = .ok (.lcmp, 1) := by decide +kernel
theorem dX11_judge_128 : decode cX11_judge 128 = .ok (.ifCond .eq 6, 3) := by decide +kernel
theorem dX11_judge_131 : decode cX11_judge 131 = .ok (.iload 7, 2) := by decide +kernel
theorem dX11_judge_133 : decode cX11_judge 133 = .ok (.ireturn, 1) := by decide +kernel
theorem dX11_judge_134 : decode cX11_judge 134 = .ok (.iinc 7 1, 3) := by decide +kernel
theorem dX11_judge_137 : decode cX11_judge 137 = .ok (.goto (-77), 3) := by decide +kernel
theorem dX11_judge_140 : decode cX11_judge 140 = .ok (.bipush (-5), 2) := by decide +kernel
theorem dX11_judge_142 : decode cX11_judge 142 = .ok (.ireturn, 1) := by decide +kernel
theorem dX11_image_0 : decode cX11_image 0 = .ok (.aload_n 0, 1) := by decide +kernel
theorem dX11_image_1 : decode cX11_image 1 = .ok (.getfield 51, 3) := by decide +kernel
theorem dX11_image_4 : decode cX11_image 4 = .ok (.aload_n 0, 1) := by decide +kernel
theorem dX11_image_5 : decode cX11_image 5 = .ok (.getfield 47, 3) := by decide +kernel
theorem dX11_image_8 : decode cX11_image 8 = .ok (.aload_n 0, 1) := by decide +kernel
theorem dX11_image_9 : decode cX11_image 9 = .ok (.getfield 81, 3) := by decide +kernel
theorem dX11_image_12 : decode cX11_image 12 = .ok (.invokevirtual 207, 3) := by decide +kernel
theorem dX11_image_15 : decode cX11_image 15 = .ok (.aload_n 0, 1) := by decide +kernel
theorem dX11_image_16 : decode cX11_image 16 = .ok (.aload_n 0, 1) := by decide +kernel
theorem dX11_image_17 : decode cX11_image 17 = .ok (.getfield 81, 3) := by decide +kernel
theorem dX11_image_20 : decode cX11_image 20 = .ok (.putfield 244, 3) := by decide +kernel
theorem dX11_image_23 : decode cX11_image 23 = .ok (.aload_n 0, 1) := by decide +kernel
theorem dX11_image_24 : decode cX11_image 24 = .ok (.iconst 1, 1) := by decide +kernel
theorem dX11_image_25 : decode cX11_image 25 = .ok (.putfield 247, 3) := by decide +kernel
theorem dX11_image_28 : decode cX11_image 28 = .ok (.aload_n 0, 1) := by decide +kernel
theorem dX11_image_29 : decode cX11_image 29 = .ok (.getfield 47, 3) := by decide +kernel
theorem dX11_image_32 : decode cX11_image 32 = .ok (.getfield 118, 3) := by decide +kernel
theorem dX11_image_35 : decode cX11_image 35 = .ok (.ireturn, 1) := by decide +kernel
theorem dX11_undo_0 : decode cX11_undo 0 = .ok (.aload_n 0, 1) := by decide +kernel
theorem dX11_undo_1 : decode cX11_undo 1 = .ok (.getfield 247, 3) := by decide +kernel
theorem dX11_undo_4 : decode cX11_undo 4 = .ok (.ifCond .ne 6, 3) := by decide +kernel
theorem dX11_undo_7 : decode cX11_undo 7 = .ok (.bipush (-3), 2) := by decide +kernel
theorem dX11_undo_9 : decode cX11_undo 9 = .ok (.ireturn, 1) := by decide +kernel
theorem dX11_undo_10 : decode cX11_undo 10 = .ok (.aload_n 0, 1) := by decide +kernel
theorem dX11_undo_11 : decode cX11_undo 11 = .ok (.getfield 47, 3) := by decide +kernel
theorem dX11_undo_14 : decode cX11_undo 14 = .ok (.aload_n 0, 1) := by decide +kernel
theorem dX11_undo_15 : decode cX11_undo 15 = .ok (.getfield 51, 3) := by decide +kernel
theorem dX11_undo_18 : decode cX11_undo 18 = .ok (.aload_n 0, 1) := by decide +kernel
theorem dX11_undo_19 : decode cX11_undo 19 = .ok (.getfield 244, 3) := by decide +kernel
theorem dX11_undo_22 : decode cX11_undo 22 = .ok (.invokevirtual 207, 3) := by decide +kernel
theorem dX11_undo_25 : decode cX11_undo 25 = .ok (.aload_n 0, 1) := by decide +kernel
theorem dX11_undo_26 : decode cX11_undo 26 = .ok (.getfield 47, 3) := by decide +kernel
theorem dX11_undo_29 : decode cX11_undo 29 = .ok (.getfield 118, 3) := by decide +kernel
theorem dX11_undo_32 : decode cX11_undo 32 = .ok (.ireturn, 1) := by decide +kernel
theorem dX11_act_0 : decode cX11_act 0 = .ok (.aload_n 0, 1) := by decide +kernel
theorem dX11_act_1 : decode cX11_act 1 = .ok (.aconst_null, 1) := by decide +kernel
theorem dX11_act_2 : decode cX11_act 2 = .ok (.putfield 251, 3) := by decide +kernel
theorem dX11_act_5 : decode cX11_act 5 = .ok (.aload_n 0, 1) := by decide +kernel
theorem dX11_act_6 : decode cX11_act 6 = .ok (.iload_n 1, 1) := by decide +kernel
theorem dX11_act_7 : decode cX11_act 7 = .ok (.invokevirtual 131, 3) := by decide +kernel
theorem dX11_act_10 : decode cX11_act 10 = .ok (.astore 4, 2) := by decide +kernel
theorem dX11_act_12 : decode cX11_act 12 = .ok (.aload 4, 2) := by decide +kernel
theorem dX11_act_14 : decode cX11_act 14 = .ok (.ifnull 12, 3) := by decide +kernel
theorem dX11_act_17 : decode cX11_act 17 = .ok (.iload_n 2, 1) := by decide +kernel
theorem dX11_act_18 : decode cX11_act 18 = .ok (.iconst 0, 1) := by decide +kernel
theorem dX11_act_19 : decode cX11_act 19 = .ok (.iconst 2, 1) := by decide +kernel
theorem dX11_act_20 : decode cX11_act 20 = .ok (.invokestatic 77, 3) := by decide +kernel
theorem dX11_act_23 : decode cX11_act 23 = .ok (.ifCond .eq 5, 3) := by decide +kernel
theorem dX11_act_26 : decode cX11_act 26 = .ok (.iconst 0, 1) := by decide +kernel
theorem dX11_act_27 : decode cX11_act 27 = .ok (.ireturn, 1) := by decide +kernel
theorem dX11_act_28 : decode cX11_act 28 = .ok (.aload_n 0, 1) := by decide +kernel
theorem dX11_act_29 : decode cX11_act 29 = .ok (.aload 4, 2) := by decide +kernel
theorem dX11_act_31 : decode cX11_act 31 = .ok (.putfield 251, 3) := by decide +kernel
theorem dX11_act_34 : decode cX11_act 34 = .ok (.aload 4, 2) := by decide +kernel
theorem dX11_act_36 : decode cX11_act 36 = .ok (.iconst 0, 1) := by decide +kernel
theorem dX11_act_37 : decode cX11_act 37 = .ok (.putfield 254, 3) := by decide +kernel
theorem dX11_act_40 : decode cX11_act 40 = .ok (.iload_n 2, 1) := by decide +kernel
theorem dX11_act_41 : decode cX11_act 41 = .ok (.lookupswitch 41 #[(0, 27), (1, 34)], 27) := by decide +kernel
theorem dX11_act_68 : decode cX11_act 68 = .ok (.aload 4, 2) := by decide +kernel
theorem dX11_act_70 : decode cX11_act 70 = .ok (.iload_n 3, 1) := by decide +kernel
theorem dX11_act_71 : decode cX11_act 71 = .ok (.invokevirtual 257, 3) := by decide +kernel
theorem dX11_act_74 : decode cX11_act 74 = .ok (.ireturn, 1) := by decide +kernel
theorem dX11_act_75 : decode cX11_act 75 = .ok (.aload 4, 2) := by decide +kernel
theorem dX11_act_77 : decode cX11_act 77 = .ok (.iload_n 3, 1) := by decide +kernel
theorem dX11_act_78 : decode cX11_act 78 = .ok (.invokevirtual 260, 3) := by decide +kernel
theorem dX11_act_81 : decode cX11_act 81 = .ok (.ireturn, 1) := by decide +kernel
theorem dX11_act_82 : decode cX11_act 82 = .ok (.aload 4, 2) := by decide +kernel
theorem dX11_act_84 : decode cX11_act 84 = .ok (.iload_n 3, 1) := by decide +kernel
theorem dX11_act_85 : decode cX11_act 85 = .ok (.invokevirtual 263, 3) := by decide +kernel
theorem dX11_act_88 : decode cX11_act 88 = .ok (.ireturn, 1) := by decide +kernel
theorem dX11_trace_0 : decode cX11_trace 0 = .ok (.aload_n 0, 1) := by decide +kernel
theorem dX11_trace_1 : decode cX11_trace 1 = .ok (.getfield 251, 3) := by decide +kernel
theorem dX11_trace_4 : decode cX11_trace 4 = .ok (.ifnull 24, 3) := by decide +kernel
theorem dX11_trace_7 : decode cX11_trace 7 = .ok (.iload_n 1, 1) := by decide +kernel
theorem dX11_trace_8 : decode cX11_trace 8 = .ok (.ifCond .lt 20, 3) := by decide +kernel
theorem dX11_trace_11 : decode cX11_trace 11 = .ok (.iload_n 1, 1) := by decide +kernel
theorem dX11_trace_12 : decode cX11_trace 12 = .ok (.bipush 20, 2) := by decide +kernel
theorem dX11_trace_14 : decode cX11_trace 14 = .ok (.if_icmp .ge 14, 3) := by decide +kernel
theorem dX11_trace_17 : decode cX11_trace 17 = .ok (.iload_n 1, 1) := by decide +kernel
theorem dX11_trace_18 : decode cX11_trace 18 = .ok (.aload_n 0, 1) := by decide +kernel
theorem dX11_trace_19 : decode cX11_trace 19 = .ok (.getfield 251, 3) := by decide +kernel
theorem dX11_trace_22 : decode cX11_trace 22 = .ok (.getfield 254, 3) := by decide +kernel
theorem dX11_trace_25 : decode cX11_trace 25 = .ok (.if_icmp .lt 5, 3) := by decide +kernel
theorem dX11_trace_28 : decode cX11_trace 28 = .ok (.iconst (-1), 1) := by decide +kernel
theorem dX11_trace_29 : decode cX11_trace 29 = .ok (.ireturn, 1) := by decide +kernel
theorem dX11_trace_30 : decode cX11_trace 30 = .ok (.aload_n 0, 1) := by decide +kernel
theorem dX11_trace_31 : decode cX11_trace 31 = .ok (.getfield 251, 3) := by decide +kernel
theorem dX11_trace_34 : decode cX11_trace 34 = .ok (.getfield 266, 3) := by decide +kernel
theorem dX11_trace_37 : decode cX11_trace 37 = .ok (.iload_n 1, 1) := by decide +kernel
theorem dX11_trace_38 : decode cX11_trace 38 = .ok (.iaload, 1) := by decide +kernel
theorem dX11_trace_39 : decode cX11_trace 39 = .ok (.ireturn, 1) := by decide +kernel
theorem dX11_taken_0 : decode cX11_taken 0 = .ok (.iload_n 2, 1) := by decide +kernel
theorem dX11_taken_1 : decode cX11_taken 1 = .ok (.iconst 0, 1) := by decide +kernel
theorem dX11_taken_2 : decode cX11_taken 2 = .ok (.bipush 6, 2) := by decide +kernel
theorem dX11_taken_4 : decode cX11_taken 4 = .ok (.invokestatic 77, 3) := by decide +kernel
theorem dX11_taken_7 : decode cX11_taken 7 = .ok (.ifCond .eq 6, 3) := by decide +kernel
theorem dX11_taken_10 : decode cX11_taken 10 = .ok (.bipush (-2), 2) := by decide +kernel
theorem dX11_taken_12 : decode cX11_taken 12 = .ok (.ireturn, 1) := by decide +kernel
theorem dX11_taken_13 : decode cX11_taken 13 = .ok (.aload_n 0, 1) := by decide +kernel
theorem dX11_taken_14 : decode cX11_taken 14 = .ok (.iload_n 1, 1) := by decide +kernel
theorem dX11_taken_15 : decode cX11_taken 15 = .ok (.invokevirtual 131, 3) := by decide +kernel
theorem dX11_taken_18 : decode cX11_taken 18 = .ok (.astore_n 3, 1) := by decide +kernel
theorem dX11_taken_19 : decode cX11_taken 19 = .ok (.aload_n 3, 1) := by decide +kernel
theorem dX11_taken_20 : decode cX11_taken 20 = .ok (.ifnonnull 6, 3) := by decide +kernel
theorem dX11_taken_23 : decode cX11_taken 23 = .ok (.bipush (-11), 2) := by decide +kernel
theorem dX11_taken_25 : decode cX11_taken 25 = .ok (.ireturn, 1) := by decide +kernel
theorem dX11_taken_26 : decode cX11_taken 26 = .ok (.aload_n 3, 1) := by decide +kernel
theorem dX11_taken_27 : decode cX11_taken 27 = .ok (.iload_n 2, 1) := by decide +kernel
theorem dX11_taken_28 : decode cX11_taken 28 = .ok (.invokestatic 269, 3) := by decide +kernel
theorem dX11_taken_31 : decode cX11_taken 31 = .ok (.ifCond .eq 10, 3) := by decide +kernel
theorem dX11_taken_34 : decode cX11_taken 34 = .ok (.aload_n 3, 1) := by decide +kernel
theorem dX11_taken_35 : decode cX11_taken 35 = .ok (.invokevirtual 273, 3) := by decide +kernel
theorem dX11_taken_38 : decode cX11_taken 38 = .ok (.goto 5, 3) := by decide +kernel
theorem dX11_taken_41 : decode cX11_taken 41 = .ok (.bipush (-12), 2) := by decide +kernel
theorem dX11_taken_43 : decode cX11_taken 43 = .ok (.ireturn, 1) := by decide +kernel
theorem dX11_count_0 : decode cX11_count 0 = .ok (.iload_n 1, 1) := by decide +kernel
theorem dX11_count_1 : decode cX11_count 1 = .ok (.tableswitch 86 0 5 #[39, 44, 49, 54, 62, 67], 39) := by decide +kernel
theorem dX11_count_40 : decode cX11_count 40 = .ok (.aload_n 0, 1) := by decide +kernel
theorem dX11_count_41 : decode cX11_count 41 = .ok (.getfield 81, 3) := by decide +kernel
theorem dX11_count_44 : decode cX11_count 44 = .ok (.ireturn, 1) := by decide +kernel
theorem dX11_count_45 : decode cX11_count 45 = .ok (.aload_n 0, 1) := by decide +kernel
theorem dX11_count_46 : decode cX11_count 46 = .ok (.getfield 95, 3) := by decide +kernel
theorem dX11_count_49 : decode cX11_count 49 = .ok (.ireturn, 1) := by decide +kernel
theorem dX11_count_50 : decode cX11_count 50 = .ok (.aload_n 0, 1) := by decide +kernel
theorem dX11_count_51 : decode cX11_count 51 = .ok (.getfield 124, 3) := by decide +kernel
theorem dX11_count_54 : decode cX11_count 54 = .ok (.ireturn, 1) := by decide +kernel
theorem dX11_count_55 : decode cX11_count 55 = .ok (.aload_n 0, 1) := by decide +kernel
theorem dX11_count_56 : decode cX11_count 56 = .ok (.getfield 47, 3) := by decide +kernel
theorem dX11_count_59 : decode cX11_count 59 = .ok (.getfield 118, 3) := by decide +kernel
theorem dX11_count_62 : decode cX11_count 62 = .ok (.ireturn, 1) := by decide +kernel
theorem dX11_count_63 : decode cX11_count 63 = .ok (.aload_n 0, 1) := by decide +kernel
theorem dX11_count_64 : decode cX11_count 64 = .ok (.getfield 92, 3) := by decide +kernel
theorem dX11_count_67 : decode cX11_count 67 = .ok (.ireturn, 1) := by decide +kernel
theorem dX11_count_68 : decode cX11_count 68 = .ok (.aload_n 0, 1) := by decide +kernel
theorem dX11_count_69 : decode cX11_count 69 = .ok (.getfield 251, 3) := by decide +kernel
theorem dX11_count_72 : decode cX11_count 72 = .ok (.ifnonnull 7, 3) := by decide +kernel
theorem dX11_count_75 : decode cX11_count 75 = .ok (.iconst 0, 1) := by decide +kernel
theorem dX11_count_76 : decode cX11_count 76 = .ok (.goto 10, 3) := by decide +kernel
theorem dX11_count_79 : decode cX11_count 79 = .ok (.aload_n 0, 1) := by decide +kernel
theorem dX11_count_80 : decode cX11_count 80 = .ok (.getfield 251, 3) := by decide +kernel
theorem dX11_count_83 : decode cX11_count 83 = .ok (.getfield 254, 3) := by decide +kernel
theorem dX11_count_86 : decode cX11_count 86 = .ok (.ireturn, 1) := by decide +kernel
theorem dX11_count_87 : decode cX11_count 87 = .ok (.bipush (-2), 2) := by decide +kernel
theorem dX11_count_89 : decode cX11_count 89 = .ok (.ireturn, 1) := by decide +kernel
theorem dX11_tape_0 : decode cX11_tape 0 = .ok (.aload_n 0, 1) := by decide +kernel
theorem dX11_tape_1 : decode cX11_tape 1 = .ok (.iload_n 1, 1) := by decide +kernel
theorem dX11_tape_2 : decode cX11_tape 2 = .ok (.invokevirtual 229, 3) := by decide +kernel
theorem dX11_tape_5 : decode cX11_tape 5 = .ok (.astore 4, 2) := by decide +kernel
theorem dX11_tape_7 : decode cX11_tape 7 = .ok (.aload 4, 2) := by decide +kernel
theorem dX11_tape_9 : decode cX11_tape 9 = .ok (.ifnonnull 5, 3) := by decide +kernel
theorem dX11_tape_12 : decode cX11_tape 12 = .ok (.iconst (-1), 1) := by decide +kernel
theorem dX11_tape_13 : decode cX11_tape 13 = .ok (.ireturn, 1) := by decide +kernel
theorem dX11_tape_14 : decode cX11_tape 14 = .ok (.iload_n 2, 1) := by decide +kernel
theorem dX11_tape_15 : decode cX11_tape 15 = .ok (.iconst (-1), 1) := by decide +kernel
theorem dX11_tape_16 : decode cX11_tape 16 = .ok (.iconst 4, 1) := by decide +kernel
theorem dX11_tape_17 : decode cX11_tape 17 = .ok (.invokestatic 77, 3) := by decide +kernel
theorem dX11_tape_20 : decode cX11_tape 20 = .ok (.ifCond .ne 14, 3) := by decide +kernel
theorem dX11_tape_23 : decode cX11_tape 23 = .ok (.iload_n 2, 1) := by decide +kernel
theorem dX11_tape_24 : decode cX11_tape 24 = .ok (.iconst (-1), 1) := by decide +kernel
theorem dX11_tape_25 : decode cX11_tape 25 = .ok (.if_icmp .eq 12, 3) := by decide +kernel
theorem dX11_tape_28 : decode cX11_tape 28 = .ok (.iload_n 3, 1) := by decide +kernel
theorem dX11_tape_29 : decode cX11_tape 29 = .ok (.bipush 60, 2) := by decide +kernel
theorem dX11_tape_31 : decode cX11_tape 31 = .ok (.if_icmp .le 6, 3) := by decide +kernel
theorem dX11_tape_34 : decode cX11_tape 34 = .ok (.bipush (-2), 2) := by decide +kernel
theorem dX11_tape_36 : decode cX11_tape 36 = .ok (.ireturn, 1) := by decide +kernel
theorem dX11_tape_37 : decode cX11_tape 37 = .ok (.iload_n 2, 1) := by decide +kernel
theorem dX11_tape_38 : decode cX11_tape 38 = .ok (.iconst (-1), 1) := by decide +kernel
theorem dX11_tape_39 : decode cX11_tape 39 = .ok (.if_icmp .eq 10, 3) := by decide +kernel
theorem dX11_tape_42 : decode cX11_tape 42 = .ok (.iload_n 3, 1) := by decide +kernel
theorem dX11_tape_43 : decode cX11_tape 43 = .ok (.ifCond .ge 6, 3) := by decide +kernel
theorem dX11_tape_46 : decode cX11_tape 46 = .ok (.bipush (-14), 2) := by decide +kernel
theorem dX11_tape_48 : decode cX11_tape 48 = .ok (.ireturn, 1) := by decide +kernel
theorem dX11_tape_49 : decode cX11_tape 49 = .ok (.aload 4, 2) := by decide +kernel
theorem dX11_tape_51 : decode cX11_tape 51 = .ok (.iload_n 2, 1) := by decide +kernel
theorem dX11_tape_52 : decode cX11_tape 52 = .ok (.iload_n 2, 1) := by decide +kernel
theorem dX11_tape_53 : decode cX11_tape 53 = .ok (.iconst (-1), 1) := by decide +kernel
theorem dX11_tape_54 : decode cX11_tape 54 = .ok (.if_icmp .ne 7, 3) := by decide +kernel
theorem dX11_tape_57 : decode cX11_tape 57 = .ok (.iconst 0, 1) := by decide +kernel
theorem dX11_tape_58 : decode cX11_tape 58 = .ok (.goto 4, 3) := by decide +kernel
theorem dX11_tape_61 : decode cX11_tape 61 = .ok (.iload_n 3, 1) := by decide +kernel
theorem dX11_tape_62 : decode cX11_tape 62 = .ok (.invokevirtual 276, 3) := by decide +kernel
theorem dX11_tape_65 : decode cX11_tape 65 = .ok (.iconst 1, 1) := by decide +kernel
theorem dX11_tape_66 : decode cX11_tape 66 = .ok (.ireturn, 1) := by decide +kernel
theorem dX11_item_0 : decode cX11_item 0 = .ok (.aload_n 0, 1) := by decide +kernel
theorem dX11_item_1 : decode cX11_item 1 = .ok (.iload_n 1, 1) := by decide +kernel
theorem dX11_item_2 : decode cX11_item 2 = .ok (.invokevirtual 229, 3) := by decide +kernel
theorem dX11_item_5 : decode cX11_item 5 = .ok (.astore 5, 2) := by decide +kernel
theorem dX11_item_7 : decode cX11_item 7 = .ok (.aload 5, 2) := by decide +kernel
theorem dX11_item_9 : decode cX11_item 9 = .ok (.ifnonnull 5, 3) := by decide +kernel
theorem dX11_item_12 : decode cX11_item 12 = .ok (.iconst (-1), 1) := by decide +kernel
theorem dX11_item_13 : decode cX11_item 13 = .ok (.ireturn, 1) := by decide +kernel
theorem dX11_item_14 : decode cX11_item 14 = .ok (.aload 5, 2) := by decide +kernel
theorem dX11_item_16 : decode cX11_item 16 = .ok (.getfield 233, 3) := by decide +kernel
theorem dX11_item_19 : decode cX11_item 19 = .ok (.iconst (-1), 1) := by decide +kernel
theorem dX11_item_20 : decode cX11_item 20 = .ok (.if_icmp .ne 6, 3) := by decide +kernel
theorem dX11_item_23 : decode cX11_item 23 = .ok (.bipush (-11), 2) := by decide +kernel
theorem dX11_item_25 : decode cX11_item 25 = .ok (.ireturn, 1) := by decide +kernel
theorem dX11_item_26 : decode cX11_item 26 = .ok (.aload 5, 2) := by decide +kernel
theorem dX11_item_28 : decode cX11_item 28 = .ok (.iload_n 2, 1) := by decide +kernel
theorem dX11_item_29 : decode cX11_item 29 = .ok (.i2l, 1) := by decide +kernel
theorem dX11_item_30 : decode cX11_item 30 = .ok (.invokevirtual 236, 3) := by decide +kernel
theorem dX11_item_33 : decode cX11_item 33 = .ok (.ifCond .eq 6, 3) := by decide +kernel
theorem dX11_item_36 : decode cX11_item 36 = .ok (.bipush (-13), 2) := by decide +kernel
theorem dX11_item_38 : decode cX11_item 38 = .ok (.ireturn, 1) := by decide +kernel
theorem dX11_item_39 : decode cX11_item 39 = .ok (.aload 5, 2) := by decide +kernel
theorem dX11_item_41 : decode cX11_item 41 = .ok (.getfield 240, 3) := by decide +kernel
theorem dX11_item_44 : decode cX11_item 44 = .ok (.iload_n 2, 1) := by decide +kernel
theorem dX11_item_45 : decode cX11_item 45 = .ok (.aload 5, 2) := by decide +kernel
theorem dX11_item_47 : decode cX11_item 47 = .ok (.lload_n 3, 1) := by decide +kernel
theorem dX11_item_48 : decode cX11_item 48 = .ok (.invokevirtual 278, 3) := by decide +kernel
theorem dX11_item_51 : decode cX11_item 51 = .ok (.lastore, 1) := by decide +kernel
theorem dX11_item_52 : decode cX11_item 52 = .ok (.iconst 1, 1) := by decide +kernel
theorem dX11_item_53 : decode cX11_item 53 = .ok (.ireturn, 1) := by decide +kernel
theorem dX11_read_0 : decode cX11_read 0 = .ok (.aload_n 0, 1) := by decide +kernel
theorem dX11_read_1 : decode cX11_read 1 = .ok (.iload_n 1, 1) := by decide +kernel
theorem dX11_read_2 : decode cX11_read 2 = .ok (.invokevirtual 229, 3) := by decide +kernel
theorem dX11_read_5 : decode cX11_read 5 = .ok (.astore_n 3, 1) := by decide +kernel
theorem dX11_read_6 : decode cX11_read 6 = .ok (.aload_n 3, 1) := by decide +kernel
theorem dX11_read_7 : decode cX11_read 7 = .ok (.ifnull 12, 3) := by decide +kernel
theorem dX11_read_10 : decode cX11_read 10 = .ok (.aload_n 3, 1) := by decide +kernel
theorem dX11_read_11 : decode cX11_read 11 = .ok (.iload_n 2, 1) := by decide +kernel
theorem dX11_read_12 : decode cX11_read 12 = .ok (.i2l, 1) := by decide +kernel
theorem dX11_read_13 : decode cX11_read 13 = .ok (.invokevirtual 236, 3) := by decide +kernel
theorem dX11_read_16 : decode cX11_read 16 = .ok (.ifCond .eq 7, 3) := by decide +kernel
theorem dX11_read_19 : decode cX11_read 19 = .ok (.ldc2_w 217, 3) := by decide +kernel
theorem dX11_read_22 : decode cX11_read 22 = .ok (.lreturn, 1) := by decide +kernel
theorem dX11_read_23 : decode cX11_read 23 = .ok (.aload_n 3, 1) := by decide +kernel
theorem dX11_read_24 : decode cX11_read 24 = .ok (.getfield 240, 3) := by decide +kernel
theorem dX11_read_27 : decode cX11_read 27 = .ok (.iload_n 2, 1) := by decide +kernel
theorem dX11_read_28 : decode cX11_read 28 = .ok (.laload, 1) := by decide +kernel
theorem dX11_read_29 : decode cX11_read 29 = .ok (.lreturn, 1) := by decide +kernel
theorem dX11_shift_0 : decode cX11_shift 0 = .ok (.aload_n 0, 1) := by decide +kernel
theorem dX11_shift_1 : decode cX11_shift 1 = .ok (.iload_n 1, 1) := by decide +kernel
theorem dX11_shift_2 : decode cX11_shift 2 = .ok (.invokevirtual 229, 3) := by decide +kernel
theorem dX11_shift_5 : decode cX11_shift 5 = .ok (.astore 6, 2) := by decide +kernel
theorem dX11_shift_7 : decode cX11_shift 7 = .ok (.aload_n 0, 1) := by decide +kernel
theorem dX11_shift_8 : decode cX11_shift 8 = .ok (.iload_n 3, 1) := by decide +kernel
theorem dX11_shift_9 : decode cX11_shift 9 = .ok (.invokevirtual 229, 3) := by decide +kernel
theorem dX11_shift_12 : decode cX11_shift 12 = .ok (.astore 7, 2) := by decide +kernel
theorem dX11_shift_14 : decode cX11_shift 14 = .ok (.aload 6, 2) := by decide +kernel
theorem dX11_shift_16 : decode cX11_shift 16 = .ok (.ifnull 8, 3) := by decide +kernel
theorem dX11_shift_19 : decode cX11_shift 19 = .ok (.aload 7, 2) := by decide +kernel
theorem dX11_shift_21 : decode cX11_shift 21 = .ok (.ifnonnull 5, 3) := by decide +kernel
theorem dX11_shift_24 : decode cX11_shift 24 = .ok (.iconst (-1), 1) := by decide +kernel
theorem dX11_shift_25 : decode cX11_shift 25 = .ok (.ireturn, 1) := by decide +kernel
theorem dX11_shift_26 : decode cX11_shift 26 = .ok (.aload 6, 2) := by decide +kernel
theorem dX11_shift_28 : decode cX11_shift 28 = .ok (.getfield 233, 3) := by decide +kernel
theorem dX11_shift_31 : decode cX11_shift 31 = .ok (.iconst (-1), 1) := by decide +kernel
theorem dX11_shift_32 : decode cX11_shift 32 = .ok (.if_icmp .eq 12, 3) := by decide +kernel
theorem dX11_shift_35 : decode cX11_shift 35 = .ok (.aload 7, 2) := by decide +kernel
theorem dX11_shift_37 : decode cX11_shift 37 = .ok (.getfield 233, 3) := by decide +kernel
theorem dX11_shift_40 : decode cX11_shift 40 = .ok (.iconst (-1), 1) := by decide +kernel
theorem dX11_shift_41 : decode cX11_shift 41 = .ok (.if_icmp .ne 6, 3) := by decide +kernel
theorem dX11_shift_44 : decode cX11_shift 44 = .ok (.bipush (-11), 2) := by decide +kernel
theorem dX11_shift_46 : decode cX11_shift 46 = .ok (.ireturn, 1) := by decide +kernel
theorem dX11_shift_47 : decode cX11_shift 47 = .ok (.aload 6, 2) := by decide +kernel
theorem dX11_shift_49 : decode cX11_shift 49 = .ok (.getfield 233, 3) := by decide +kernel
theorem dX11_shift_52 : decode cX11_shift 52 = .ok (.aload 7, 2) := by decide +kernel
theorem dX11_shift_54 : decode cX11_shift 54 = .ok (.getfield 233, 3) := by decide +kernel
theorem dX11_shift_57 : decode cX11_shift 57 = .ok (.if_icmp .eq 6, 3) := by decide +kernel
theorem dX11_shift_60 : decode cX11_shift 60 = .ok (.bipush (-12), 2) := by decide +kernel
theorem dX11_shift_62 : decode cX11_shift 62 = .ok (.ireturn, 1) := by decide +kernel
theorem dX11_shift_63 : decode cX11_shift 63 = .ok (.iload 5, 2) := by decide +kernel
theorem dX11_shift_65 : decode cX11_shift 65 = .ok (.ifCond .lt 45, 3) := by decide +kernel
theorem dX11_shift_68 : decode cX11_shift 68 = .ok (.iload_n 2, 1) := by decide +kernel
theorem dX11_shift_69 : decode cX11_shift 69 = .ok (.ifCond .lt 41, 3) := by decide +kernel
theorem dX11_shift_72 : decode cX11_shift 72 = .ok (.iload 4, 2) := by decide +kernel
theorem dX11_shift_74 : decode cX11_shift 74 = .ok (.ifCond .lt 36, 3) := by decide +kernel
theorem dX11_shift_77 : decode cX11_shift 77 = .ok (.iload_n 2, 1) := by decide +kernel
theorem dX11_shift_78 : decode cX11_shift 78 = .ok (.i2l, 1) := by decide +kernel
theorem dX11_shift_79 : decode cX11_shift 79 = .ok (.iload 5, 2) := by decide +kernel
theorem dX11_shift_81 : decode cX11_shift 81 = .ok (.i2l, 1) := by decide +kernel
theorem dX11_shift_82 : decode cX11_shift 82 = .ok (.ladd, 1) := by decide +kernel
theorem dX11_shift_83 : decode cX11_shift 83 = .ok (.aload 6, 2) := by decide +kernel
theorem dX11_shift_85 : decode cX11_shift 85 = .ok (.getfield 282, 3) := by decide +kernel
theorem dX11_shift_88 : decode cX11_shift 88 = .ok (.i2l, 1) := by decide +kernel
theorem dX11_shift_89 : decode cX11_shift 89 = .ok (.lcmp, 1) := by decide +kernel
theorem dX11_shift_90 : decode cX11_shift 90 = .ok (.ifCond .gt 20, 3) := by decide +kernel
theorem dX11_shift_93 : decode cX11_shift 93 = .ok (.iload 4, 2) := by decide +kernel
theorem dX11_shift_95 : decode cX11_shift 95 = .ok (.i2l, 1) := by decide +kernel
theorem dX11_shift_96 : decode cX11_shift 96 = .ok (.iload 5, 2) := by decide +kernel
theorem dX11_shift_98 : decode cX11_shift 98 = .ok (.i2l, 1) := by decide +kernel
theorem dX11_shift_99 : decode cX11_shift 99 = .ok (.ladd, 1) := by decide +kernel
theorem dX11_shift_100 : decode cX11_shift 100 = .ok (.aload 7, 2) := by decide +kernel
theorem dX11_shift_102 : decode cX11_shift 102 = .ok (.getfield 282, 3) := by decide +kernel
theorem dX11_shift_105 : decode cX11_shift 105 = .ok (.i2l, 1) := by decide +kernel
theorem dX11_shift_106 : decode cX11_shift 106 = .ok (.lcmp, 1) := by decide +kernel
theorem dX11_shift_107 : decode cX11_shift 107 = .ok (.ifCond .le 6, 3) := by decide +kernel
theorem dX11_shift_110 : decode cX11_shift 110 = .ok (.bipush (-13), 2) := by decide +kernel
theorem dX11_shift_112 : decode cX11_shift 112 = .ok (.ireturn, 1) := by decide +kernel
theorem dX11_shift_113 : decode cX11_shift 113 = .ok (.aload 6, 2) := by decide +kernel
theorem dX11_shift_115 : decode cX11_shift 115 = .ok (.getfield 240, 3) := by decide +kernel
theorem dX11_shift_118 : decode cX11_shift 118 = .ok (.iload_n 2, 1) := by decide +kernel
theorem dX11_shift_119 : decode cX11_shift 119 = .ok (.aload 7, 2) := by decide +kernel
theorem dX11_shift_121 : decode cX11_shift 121 = .ok (.getfield 240, 3) := by decide +kernel
theorem dX11_shift_124 : decode cX11_shift 124 = .ok (.iload 4, 2) := by decide +kernel
theorem dX11_shift_126 : decode cX11_shift 126 = .ok (.iload 5, 2) := by decide +kernel
theorem dX11_shift_128 : decode cX11_shift 128 = .ok (.invokestatic 285, 3) := by decide +kernel
theorem dX11_shift_131 : decode cX11_shift 131 = .ok (.iload 5, 2) := by decide +kernel
theorem dX11_shift_133 : decode cX11_shift 133 = .ok (.ireturn, 1) := by decide +kernel
theorem dX11_outside_0 : decode cX11_outside 0 = .ok (.iload_n 0, 1) := by decide +kernel
theorem dX11_outside_1 : decode cX11_outside 1 = .ok (.iload_n 1, 1) := by decide +kernel
theorem dX11_outside_2 : decode cX11_outside 2 = .ok (.if_icmp .lt 8, 3) := by decide +kernel
theorem dX11_outside_5 : decode cX11_outside 5 = .ok (.iload_n 0, 1) := by decide +kernel
theorem dX11_outside_6 : decode cX11_outside 6 = .ok (.iload_n 2, 1) := by decide +kernel
theorem dX11_outside_7 : decode cX11_outside 7 = .ok (.if_icmp .le 7, 3) := by decide +kernel
theorem dX11_outside_10 : decode cX11_outside 10 = .ok (.iconst 1, 1) := by decide +kernel
theorem dX11_outside_11 : decode cX11_outside 11 = .ok (.goto 4, 3) := by decide +kernel
theorem dX11_outside_14 : decode cX11_outside 14 = .ok (.iconst 0, 1) := by decide +kernel
theorem dX11_outside_15 : decode cX11_outside 15 = .ok (.ireturn, 1) := by decide +kernel
theorem dX11_noSort_0 : decode cX11_noSort 0 = .ok (.iload_n 1, 1) := by decide +kernel
theorem dX11_noSort_1 : decode cX11_noSort 1 = .ok (.ifCond .lt 11, 3) := by decide +kernel
theorem dX11_noSort_4 : decode cX11_noSort 4 = .ok (.iload_n 1, 1) := by decide +kernel
theorem dX11_noSort_5 : decode cX11_noSort 5 = .ok (.aload_n 0, 1) := by decide +kernel
theorem dX11_noSort_6 : decode cX11_noSort 6 = .ok (.getfield 81, 3) := by decide +kernel
theorem dX11_noSort_9 : decode cX11_noSort 9 = .ok (.if_icmp .lt 7, 3) := by decide +kernel
theorem dX11_noSort_12 : decode cX11_noSort 12 = .ok (.iconst 1, 1) := by decide +kernel
theorem dX11_noSort_13 : decode cX11_noSort 13 = .ok (.goto 4, 3) := by decide +kernel
theorem dX11_noSort_16 : decode cX11_noSort 16 = .ok (.iconst 0, 1) := by decide +kernel
theorem dX11_noSort_17 : decode cX11_noSort 17 = .ok (.ireturn, 1) := by decide +kernel
theorem dX11_orderAt_0 : decode cX11_orderAt 0 = .ok (.iload_n 1, 1) := by decide +kernel
theorem dX11_orderAt_1 : decode cX11_orderAt 1 = .ok (.ifCond .lt 11, 3) := by decide +kernel
theorem dX11_orderAt_4 : decode cX11_orderAt 4 = .ok (.iload_n 1, 1) := by decide +kernel
theorem dX11_orderAt_5 : decode cX11_orderAt 5 = .ok (.aload_n 0, 1) := by decide +kernel
theorem dX11_orderAt_6 : decode cX11_orderAt 6 = .ok (.getfield 124, 3) := by decide +kernel
theorem dX11_orderAt_9 : decode cX11_orderAt 9 = .ok (.if_icmp .lt 7, 3) := by decide +kernel
theorem dX11_orderAt_12 : decode cX11_orderAt 12 = .ok (.aconst_null, 1) := by decide +kernel
theorem dX11_orderAt_13 : decode cX11_orderAt 13 = .ok (.goto 9, 3) := by decide +kernel
theorem dX11_orderAt_16 : decode cX11_orderAt 16 = .ok (.aload_n 0, 1) := by decide +kernel
theorem dX11_orderAt_17 : decode cX11_orderAt 17 = .ok (.getfield 33, 3) := by decide +kernel
theorem dX11_orderAt_20 : decode cX11_orderAt 20 = .ok (.iload_n 1, 1) := by decide +kernel
theorem dX11_orderAt_21 : decode cX11_orderAt 21 = .ok (.aaload, 1) := by decide +kernel
theorem dX11_orderAt_22 : decode cX11_orderAt 22 = .ok (.areturn, 1) := by decide +kernel
theorem dX11_tapeAt_0 : decode cX11_tapeAt 0 = .ok (.iload_n 1, 1) := by decide +kernel
theorem dX11_tapeAt_1 : decode cX11_tapeAt 1 = .ok (.ifCond .lt 9, 3) := by decide +kernel
theorem dX11_tapeAt_4 : decode cX11_tapeAt 4 = .ok (.iload_n 1, 1) := by decide +kernel
theorem dX11_tapeAt_5 : decode cX11_tapeAt 5 = .ok (.bipush 6, 2) := by decide +kernel
theorem dX11_tapeAt_7 : decode cX11_tapeAt 7 = .ok (.if_icmp .lt 7, 3) := by decide +kernel
theorem dX11_tapeAt_10 : decode cX11_tapeAt 10 = .ok (.aconst_null, 1) := by decide +kernel
theorem dX11_tapeAt_11 : decode cX11_tapeAt 11 = .ok (.goto 9, 3) := by decide +kernel
theorem dX11_tapeAt_14 : decode cX11_tapeAt 14 = .ok (.aload_n 0, 1) := by decide +kernel
theorem dX11_tapeAt_15 : decode cX11_tapeAt 15 = .ok (.getfield 72, 3) := by decide +kernel
theorem dX11_tapeAt_18 : decode cX11_tapeAt 18 = .ok (.iload_n 1, 1) := by decide +kernel
theorem dX11_tapeAt_19 : decode cX11_tapeAt 19 = .ok (.aaload, 1) := by decide +kernel
theorem dX11_tapeAt_20 : decode cX11_tapeAt 20 = .ok (.areturn, 1) := by decide +kernel
theorem dX11_held_0 : decode cX11_held 0 = .ok (.aload_n 0, 1) := by decide +kernel
theorem dX11_held_1 : decode cX11_held 1 = .ok (.getfield 47, 3) := by decide +kernel
theorem dX11_held_4 : decode cX11_held 4 = .ok (.getfield 102, 3) := by decide +kernel
theorem dX11_held_7 : decode cX11_held 7 = .ok (.ifCond .lt 17, 3) := by decide +kernel
theorem dX11_held_10 : decode cX11_held 10 = .ok (.aload_n 0, 1) := by decide +kernel
theorem dX11_held_11 : decode cX11_held 11 = .ok (.getfield 47, 3) := by decide +kernel
theorem dX11_held_14 : decode cX11_held 14 = .ok (.getfield 102, 3) := by decide +kernel
theorem dX11_held_17 : decode cX11_held 17 = .ok (.aload_n 0, 1) := by decide +kernel
theorem dX11_held_18 : decode cX11_held 18 = .ok (.getfield 95, 3) := by decide +kernel
theorem dX11_held_21 : decode cX11_held 21 = .ok (.if_icmp .lt 10, 3) := by decide +kernel
theorem dX11_held_24 : decode cX11_held 24 = .ok (.aload_n 0, 1) := by decide +kernel
theorem dX11_held_25 : decode cX11_held 25 = .ok (.getfield 27, 3) := by decide +kernel
theorem dX11_held_28 : decode cX11_held 28 = .ok (.goto 15, 3) := by decide +kernel
theorem dX11_held_31 : decode cX11_held 31 = .ok (.aload_n 0, 1) := by decide +kernel
theorem dX11_held_32 : decode cX11_held 32 = .ok (.getfield 22, 3) := by decide +kernel
theorem dX11_held_35 : decode cX11_held 35 = .ok (.aload_n 0, 1) := by decide +kernel
theorem dX11_held_36 : decode cX11_held 36 = .ok (.getfield 47, 3) := by decide +kernel
theorem dX11_held_39 : decode cX11_held 39 = .ok (.getfield 102, 3) := by decide +kernel
theorem dX11_held_42 : decode cX11_held 42 = .ok (.aaload, 1) := by decide +kernel
theorem dX11_held_43 : decode cX11_held 43 = .ok (.areturn, 1) := by decide +kernel
theorem dX11_goThrough_0 : decode cX11_goThrough 0 = .ok (.aload_n 0, 1) := by decide +kernel
theorem dX11_goThrough_1 : decode cX11_goThrough 1 = .ok (.aload_n 1, 1) := by decide +kernel
theorem dX11_goThrough_2 : decode cX11_goThrough 2 = .ok (.aload_n 0, 1) := by decide +kernel
theorem dX11_goThrough_3 : decode cX11_goThrough 3 = .ok (.getfield 47, 3) := by decide +kernel
theorem dX11_goThrough_6 : decode cX11_goThrough 6 = .ok (.aload_n 0, 1) := by decide +kernel
theorem dX11_goThrough_7 : decode cX11_goThrough 7 = .ok (.invokevirtual 105, 3) := by decide +kernel
theorem dX11_goThrough_10 : decode cX11_goThrough 10 = .ok (.getfield 109, 3) := by decide +kernel
theorem dX11_goThrough_13 : decode cX11_goThrough 13 = .ok (.aload_n 0, 1) := by decide +kernel
theorem dX11_goThrough_14 : decode cX11_goThrough 14 = .ok (.invokevirtual 105, 3) := by decide +kernel
theorem dX11_goThrough_17 : decode cX11_goThrough 17 = .ok (.getfield 112, 3) := by decide +kernel
theorem dX11_goThrough_20 : decode cX11_goThrough 20 = .ok (.invokevirtual 198, 3) := by decide +kernel
theorem dX11_goThrough_23 : decode cX11_goThrough 23 = .ok (.return_, 1) := by decide +kernel
theorem dX11_goThroughWith_0 : decode cX11_goThroughWith 0 = .ok (.aload_n 0, 1) := by decide +kernel
theorem dX11_goThroughWith_1 : decode cX11_goThroughWith 1 = .ok (.getfield 62, 3) := by decide +kernel
theorem dX11_goThroughWith_4 : decode cX11_goThroughWith 4 = .ok (.aload_n 1, 1) := by decide +kernel
theorem dX11_goThroughWith_5 : decode cX11_goThroughWith 5 = .ok (.aload_n 0, 1) := by decide +kernel
theorem dX11_goThroughWith_6 : decode cX11_goThroughWith 6 = .ok (.invokevirtual 105, 3) := by decide +kernel
theorem dX11_goThroughWith_9 : decode cX11_goThroughWith 9 = .ok (.iload_n 3, 1) := by decide +kernel
theorem dX11_goThroughWith_10 : decode cX11_goThroughWith 10 = .ok (.iload 4, 2) := by decide +kernel
theorem dX11_goThroughWith_12 : decode cX11_goThroughWith 12 = .ok (.aload_n 2, 1) := by decide +kernel
theorem dX11_goThroughWith_13 : decode cX11_goThroughWith 13 = .ok (.aload_n 0, 1) := by decide +kernel
theorem dX11_goThroughWith_14 : decode cX11_goThroughWith 14 = .ok (.getfield 81, 3) := by decide +kernel
theorem dX11_goThroughWith_17 : decode cX11_goThroughWith 17 = .ok (.invokevirtual 291, 3) := by decide +kernel
theorem dX11_goThroughWith_20 : decode cX11_goThroughWith 20 = .ok (.return_, 1) := by decide +kernel
theorem dX11_chance_0 : decode cX11_chance 0 = .ok (.aload_n 0, 1) := by decide +kernel
theorem dX11_chance_1 : decode cX11_chance 1 = .ok (.getfield 54, 3) := by decide +kernel
theorem dX11_chance_4 : decode cX11_chance 4 = .ok (.iconst 0, 1) := by decide +kernel
theorem dX11_chance_5 : decode cX11_chance 5 = .ok (.putfield 118, 3) := by decide +kernel
theorem dX11_chance_8 : decode cX11_chance 8 = .ok (.lconst 1, 1) := by decide +kernel
theorem dX11_chance_9 : decode cX11_chance 9 = .ok (.lstore_n 2, 1) := by decide +kernel
theorem dX11_chance_10 : decode cX11_chance 10 = .ok (.iconst 0, 1) := by decide +kernel
theorem dX11_chance_11 : decode cX11_chance 11 = .ok (.istore 4, 2) := by decide +kernel
theorem dX11_chance_13 : decode cX11_chance 13 = .ok (.iload 4, 2) := by decide +kernel
theorem dX11_chance_15 : decode cX11_chance 15 = .ok (.aload_n 0, 1) := by decide +kernel
theorem dX11_chance_16 : decode cX11_chance 16 = .ok (.getfield 47, 3) := by decide +kernel
theorem dX11_chance_19 : decode cX11_chance 19 = .ok (.getfield 118, 3) := by decide +kernel
theorem dX11_chance_22 : decode cX11_chance 22 = .ok (.if_icmp .ge 84, 3) := by decide +kernel
theorem dX11_chance_25 : decode cX11_chance 25 = .ok (.aload_n 0, 1) := by decide +kernel
theorem dX11_chance_26 : decode cX11_chance 26 = .ok (.getfield 47, 3) := by decide +kernel
theorem dX11_chance_29 : decode cX11_chance 29 = .ok (.getfield 85, 3) := by decide +kernel
theorem dX11_chance_32 : decode cX11_chance 32 = .ok (.aload_n 0, 1) := by decide +kernel
theorem dX11_chance_33 : decode cX11_chance 33 = .ok (.getfield 47, 3) := by decide +kernel
theorem dX11_chance_36 : decode cX11_chance 36 = .ok (.getfield 295, 3) := by decide +kernel
theorem dX11_chance_39 : decode cX11_chance 39 = .ok (.iload 4, 2) := by decide +kernel
theorem dX11_chance_41 : decode cX11_chance 41 = .ok (.iaload, 1) := by decide +kernel
theorem dX11_chance_42 : decode cX11_chance 42 = .ok (.iaload, 1) := by decide +kernel
theorem dX11_chance_43 : decode cX11_chance 43 = .ok (.istore 5, 2) := by decide +kernel
theorem dX11_chance_45 : decode cX11_chance 45 = .ok (.iload_n 1, 1) := by decide +kernel
theorem dX11_chance_46 : decode cX11_chance 46 = .ok (.iload 4, 2) := by decide +kernel
theorem dX11_chance_48 : decode cX11_chance 48 = .ok (.ishr, 1) := by decide +kernel
theorem dX11_chance_49 : decode cX11_chance 49 = .ok (.iconst 1, 1) := by decide +kernel
theorem dX11_chance_50 : decode cX11_chance 50 = .ok (.iand, 1) := by decide +kernel
theorem dX11_chance_51 : decode cX11_chance 51 = .ok (.iconst 1, 1) := by decide +kernel
theorem dX11_chance_52 : decode cX11_chance 52 = .ok (.if_icmp .ne 39, 3) := by decide +kernel
theorem dX11_chance_55 : decode cX11_chance 55 = .ok (.lload_n 2, 1) := by decide +kernel
theorem dX11_chance_56 : decode cX11_chance 56 = .ok (.iload 5, 2) := by decide +kernel
theorem dX11_chance_58 : decode cX11_chance 58 = .ok (.i2l, 1) := by decide +kernel
theorem dX11_chance_59 : decode cX11_chance 59 = .ok (.lmul, 1) := by decide +kernel
theorem dX11_chance_60 : decode cX11_chance 60 = .ok (.lstore_n 2, 1) := by decide +kernel
theorem dX11_chance_61 : decode cX11_chance 61 = .ok (.aload_n 0, 1) := by decide +kernel
theorem dX11_chance_62 : decode cX11_chance 62 = .ok (.getfield 54, 3) := by decide +kernel
theorem dX11_chance_65 : decode cX11_chance 65 = .ok (.aload_n 0, 1) := by decide +kernel
theorem dX11_chance_66 : decode cX11_chance 66 = .ok (.getfield 47, 3) := by decide +kernel
theorem dX11_chance_69 : decode cX11_chance 69 = .ok (.getfield 295, 3) := by decide +kernel
theorem dX11_chance_72 : decode cX11_chance 72 = .ok (.iload 4, 2) := by decide +kernel
theorem dX11_chance_74 : decode cX11_chance 74 = .ok (.iaload, 1) := by decide +kernel
theorem dX11_chance_75 : decode cX11_chance 75 = .ok (.aload_n 0, 1) := by decide +kernel
theorem dX11_chance_76 : decode cX11_chance 76 = .ok (.getfield 47, 3) := by decide +kernel
theorem dX11_chance_79 : decode cX11_chance 79 = .ok (.getfield 297, 3) := by decide +kernel
theorem dX11_chance_82 : decode cX11_chance 82 = .ok (.iload 4, 2) := by decide +kernel
theorem dX11_chance_84 : decode cX11_chance 84 = .ok (.iaload, 1) := by decide +kernel
theorem dX11_chance_85 : decode cX11_chance 85 = .ok (.invokevirtual 121, 3) := by decide +kernel
theorem dX11_chance_88 : decode cX11_chance 88 = .ok (.goto 12, 3) := by decide +kernel
theorem dX11_chance_91 : decode cX11_chance 91 = .ok (.lload_n 2, 1) := by decide +kernel
theorem dX11_chance_92 : decode cX11_chance 92 = .ok (.bipush 10, 2) := by decide +kernel
theorem dX11_chance_94 : decode cX11_chance 94 = .ok (.iload 5, 2) := by decide +kernel
theorem dX11_chance_96 : decode cX11_chance 96 = .ok (.isub, 1) := by decide +kernel
theorem dX11_chance_97 : decode cX11_chance 97 = .ok (.i2l, 1) := by decide +kernel
theorem dX11_chance_98 : decode cX11_chance 98 = .ok (.lmul, 1) := by decide +kernel
theorem dX11_chance_99 : decode cX11_chance 99 = .ok (.lstore_n 2, 1) := by decide +kernel
theorem dX11_chance_100 : decode cX11_chance 100 = .ok (.iinc 4 1, 3) := by decide +kernel
theorem dX11_chance_103 : decode cX11_chance 103 = .ok (.goto (-90), 3) := by decide +kernel
theorem dX11_chance_106 : decode cX11_chance 106 = .ok (.lload_n 2, 1) := by decide +kernel
theorem dX11_chance_107 : decode cX11_chance 107 = .ok (.lreturn, 1) := by decide +kernel
theorem dX11_reduced_0 : decode cX11_reduced 0 = .ok (.iconst 0, 1) := by decide +kernel
theorem dX11_reduced_1 : decode cX11_reduced 1 = .ok (.istore 5, 2) := by decide +kernel
theorem dX11_reduced_3 : decode cX11_reduced 3 = .ok (.iload 5, 2) := by decide +kernel
theorem dX11_reduced_5 : decode cX11_reduced 5 = .ok (.bipush 6, 2) := by decide +kernel
theorem dX11_reduced_7 : decode cX11_reduced 7 = .ok (.if_icmp .ge 73, 3) := by decide +kernel
theorem dX11_reduced_10 : decode cX11_reduced 10 = .ok (.lload_n 0, 1) := by decide +kernel
theorem dX11_reduced_11 : decode cX11_reduced 11 = .ok (.ldc2_w 300, 3) := by decide +kernel
theorem dX11_reduced_14 : decode cX11_reduced 14 = .ok (.lrem, 1) := by decide +kernel
theorem dX11_reduced_15 : decode cX11_reduced 15 = .ok (.lconst 0, 1) := by decide +kernel
theorem dX11_reduced_16 : decode cX11_reduced 16 = .ok (.lcmp, 1) := by decide +kernel
theorem dX11_reduced_17 : decode cX11_reduced 17 = .ok (.ifCond .ne 25, 3) := by decide +kernel
theorem dX11_reduced_20 : decode cX11_reduced 20 = .ok (.lload_n 2, 1) := by decide +kernel
theorem dX11_reduced_21 : decode cX11_reduced 21 = .ok (.ldc2_w 300, 3) := by decide +kernel
theorem dX11_reduced_24 : decode cX11_reduced 24 = .ok (.lrem, 1) := by decide +kernel
theorem dX11_reduced_25 : decode cX11_reduced 25 = .ok (.lconst 0, 1) := by decide +kernel
theorem dX11_reduced_26 : decode cX11_reduced 26 = .ok (.lcmp, 1) := by decide +kernel
theorem dX11_reduced_27 : decode cX11_reduced 27 = .ok (.ifCond .ne 15, 3) := by decide +kernel
theorem dX11_reduced_30 : decode cX11_reduced 30 = .ok (.lload_n 0, 1) := by decide +kernel
theorem dX11_reduced_31 : decode cX11_reduced 31 = .ok (.ldc2_w 300, 3) := by decide +kernel
theorem dX11_reduced_34 : decode cX11_reduced 34 = .ok (.ldiv, 1) := by decide +kernel
theorem dX11_reduced_35 : decode cX11_reduced 35 = .ok (.lstore_n 0, 1) := by decide +kernel
theorem dX11_reduced_36 : decode cX11_reduced 36 = .ok (.lload_n 2, 1) := by decide +kernel
theorem dX11_reduced_37 : decode cX11_reduced 37 = .ok (.ldc2_w 300, 3) := by decide +kernel
theorem dX11_reduced_40 : decode cX11_reduced 40 = .ok (.ldiv, 1) := by decide +kernel
theorem dX11_reduced_41 : decode cX11_reduced 41 = .ok (.lstore_n 2, 1) := by decide +kernel
theorem dX11_reduced_42 : decode cX11_reduced 42 = .ok (.lload_n 0, 1) := by decide +kernel
theorem dX11_reduced_43 : decode cX11_reduced 43 = .ok (.ldc2_w 302, 3) := by decide +kernel
theorem dX11_reduced_46 : decode cX11_reduced 46 = .ok (.lrem, 1) := by decide +kernel
theorem dX11_reduced_47 : decode cX11_reduced 47 = .ok (.lconst 0, 1) := by decide +kernel
theorem dX11_reduced_48 : decode cX11_reduced 48 = .ok (.lcmp, 1) := by decide +kernel
theorem dX11_reduced_49 : decode cX11_reduced 49 = .ok (.ifCond .ne 25, 3) := by decide +kernel
theorem dX11_reduced_52 : decode cX11_reduced 52 = .ok (.lload_n 2, 1) := by decide +kernel
theorem dX11_reduced_53 : decode cX11_reduced 53 = .ok (.ldc2_w 302, 3) := by decide +kernel
theorem dX11_reduced_56 : decode cX11_reduced 56 = .ok (.lrem, 1) := by decide +kernel
theorem dX11_reduced_57 : decode cX11_reduced 57 = .ok (.lconst 0, 1) := by decide +kernel
theorem dX11_reduced_58 : decode cX11_reduced 58 = .ok (.lcmp, 1) := by decide +kernel
theorem dX11_reduced_59 : decode cX11_reduced 59 = .ok (.ifCond .ne 15, 3) := by decide +kernel
theorem dX11_reduced_62 : decode cX11_reduced 62 = .ok (.lload_n 0, 1) := by decide +kernel
theorem dX11_reduced_63 : decode cX11_reduced 63 = .ok (.ldc2_w 302, 3) := by decide +kernel
theorem dX11_reduced_66 : decode cX11_reduced 66 = .ok (.ldiv, 1) := by decide +kernel
theorem dX11_reduced_67 : decode cX11_reduced 67 = .ok (.lstore_n 0, 1) := by decide +kernel
theorem dX11_reduced_68 : decode cX11_reduced 68 = .ok (.lload_n 2, 1) := by decide +kernel
theorem dX11_reduced_69 : decode cX11_reduced 69 = .ok (.ldc2_w 302, 3) := by decide +kernel
theorem dX11_reduced_72 : decode cX11_reduced 72 = .ok (.ldiv, 1) := by decide +kernel
theorem dX11_reduced_73 : decode cX11_reduced 73 = .ok (.lstore_n 2, 1) := by decide +kernel
theorem dX11_reduced_74 : decode cX11_reduced 74 = .ok (.iinc 5 1, 3) := by decide +kernel
theorem dX11_reduced_77 : decode cX11_reduced 77 = .ok (.goto (-74), 3) := by decide +kernel
theorem dX11_reduced_80 : decode cX11_reduced 80 = .ok (.iload 4, 2) := by decide +kernel
theorem dX11_reduced_82 : decode cX11_reduced 82 = .ok (.ifCond .ne 7, 3) := by decide +kernel
theorem dX11_reduced_85 : decode cX11_reduced 85 = .ok (.lload_n 0, 1) := by decide +kernel
theorem dX11_reduced_86 : decode cX11_reduced 86 = .ok (.goto 4, 3) := by decide +kernel
theorem dX11_reduced_89 : decode cX11_reduced 89 = .ok (.lload_n 2, 1) := by decide +kernel
theorem dX11_reduced_90 : decode cX11_reduced 90 = .ok (.lreturn, 1) := by decide +kernel
theorem dX11_made_0 : decode cX11_made 0 = .ok (.iload_n 0, 1) := by decide +kernel
theorem dX11_made_1 : decode cX11_made 1 = .ok (.tableswitch 99 1 6 #[39, 49, 59, 69, 79, 89], 39) := by decide +kernel
theorem dX11_made_40 : decode cX11_made 40 = .ok (.new 304, 3) := by decide +kernel
theorem dX11_made_43 : decode cX11_made 43 = .ok (.dup, 1) := by decide +kernel
theorem dX11_made_44 : decode cX11_made 44 = .ok (.iload_n 1, 1) := by decide +kernel
theorem dX11_made_45 : decode cX11_made 45 = .ok (.iload_n 2, 1) := by decide +kernel
theorem dX11_made_46 : decode cX11_made 46 = .ok (.invokespecial 306, 3) := by decide +kernel
theorem dX11_made_49 : decode cX11_made 49 = .ok (.areturn, 1) := by decide +kernel
theorem dX11_made_50 : decode cX11_made 50 = .ok (.new 307, 3) := by decide +kernel
theorem dX11_made_53 : decode cX11_made 53 = .ok (.dup, 1) := by decide +kernel
theorem dX11_made_54 : decode cX11_made 54 = .ok (.iload_n 1, 1) := by decide +kernel
theorem dX11_made_55 : decode cX11_made 55 = .ok (.iload_n 2, 1) := by decide +kernel
theorem dX11_made_56 : decode cX11_made 56 = .ok (.invokespecial 309, 3) := by decide +kernel
theorem dX11_made_59 : decode cX11_made 59 = .ok (.areturn, 1) := by decide +kernel
theorem dX11_made_60 : decode cX11_made 60 = .ok (.new 310, 3) := by decide +kernel
theorem dX11_made_63 : decode cX11_made 63 = .ok (.dup, 1) := by decide +kernel
theorem dX11_made_64 : decode cX11_made 64 = .ok (.iload_n 1, 1) := by decide +kernel
theorem dX11_made_65 : decode cX11_made 65 = .ok (.iload_n 2, 1) := by decide +kernel
theorem dX11_made_66 : decode cX11_made 66 = .ok (.invokespecial 312, 3) := by decide +kernel
theorem dX11_made_69 : decode cX11_made 69 = .ok (.areturn, 1) := by decide +kernel
theorem dX11_made_70 : decode cX11_made 70 = .ok (.new 313, 3) := by decide +kernel
theorem dX11_made_73 : decode cX11_made 73 = .ok (.dup, 1) := by decide +kernel
theorem dX11_made_74 : decode cX11_made 74 = .ok (.iload_n 1, 1) := by decide +kernel
theorem dX11_made_75 : decode cX11_made 75 = .ok (.iload_n 2, 1) := by decide +kernel
theorem dX11_made_76 : decode cX11_made 76 = .ok (.invokespecial 315, 3) := by decide +kernel
theorem dX11_made_79 : decode cX11_made 79 = .ok (.areturn, 1) := by decide +kernel
theorem dX11_made_80 : decode cX11_made 80 = .ok (.new 316, 3) := by decide +kernel
theorem dX11_made_83 : decode cX11_made 83 = .ok (.dup, 1) := by decide +kernel
theorem dX11_made_84 : decode cX11_made 84 = .ok (.iload_n 1, 1) := by decide +kernel
theorem dX11_made_85 : decode cX11_made 85 = .ok (.iload_n 2, 1) := by decide +kernel
theorem dX11_made_86 : decode cX11_made 86 = .ok (.invokespecial 318, 3) := by decide +kernel
theorem dX11_made_89 : decode cX11_made 89 = .ok (.areturn, 1) := by decide +kernel
theorem dX11_made_90 : decode cX11_made 90 = .ok (.new 135, 3) := by decide +kernel
theorem dX11_made_93 : decode cX11_made 93 = .ok (.dup, 1) := by decide +kernel
theorem dX11_made_94 : decode cX11_made 94 = .ok (.iload_n 1, 1) := by decide +kernel
theorem dX11_made_95 : decode cX11_made 95 = .ok (.iload_n 2, 1) := by decide +kernel
theorem dX11_made_96 : decode cX11_made 96 = .ok (.invokespecial 319, 3) := by decide +kernel
theorem dX11_made_99 : decode cX11_made 99 = .ok (.areturn, 1) := by decide +kernel
theorem dX11_made_100 : decode cX11_made 100 = .ok (.new 31, 3) := by decide +kernel
theorem dX11_made_103 : decode cX11_made 103 = .ok (.dup, 1) := by decide +kernel
theorem dX11_made_104 : decode cX11_made 104 = .ok (.iload_n 1, 1) := by decide +kernel
theorem dX11_made_105 : decode cX11_made 105 = .ok (.iload_n 2, 1) := by decide +kernel
theorem dX11_made_106 : decode cX11_made 106 = .ok (.invokespecial 37, 3) := by decide +kernel
theorem dX11_made_109 : decode cX11_made 109 = .ok (.areturn, 1) := by decide +kernel
theorem dX11_isOf_0 : decode cX11_isOf 0 = .ok (.iload_n 1, 1) := by decide +kernel
theorem dX11_isOf_1 : decode cX11_isOf 1 = .ok (.tableswitch 69 1 6 #[39, 44, 49, 54, 59, 64], 39) := by decide +kernel
theorem dX11_isOf_40 : decode cX11_isOf 40 = .ok (.aload_n 0, 1) := by decide +kernel
theorem dX11_isOf_41 : decode cX11_isOf 41 = .ok (.instanceof 304, 3) := by decide +kernel
theorem dX11_isOf_44 : decode cX11_isOf 44 = .ok (.ireturn, 1) := by decide +kernel
theorem dX11_isOf_45 : decode cX11_isOf 45 = .ok (.aload_n 0, 1) := by decide +kernel
theorem dX11_isOf_46 : decode cX11_isOf 46 = .ok (.instanceof 307, 3) := by decide +kernel
theorem dX11_isOf_49 : decode cX11_isOf 49 = .ok (.ireturn, 1) := by decide +kernel
theorem dX11_isOf_50 : decode cX11_isOf 50 = .ok (.aload_n 0, 1) := by decide +kernel
theorem dX11_isOf_51 : decode cX11_isOf 51 = .ok (.instanceof 310, 3) := by decide +kernel
theorem dX11_isOf_54 : decode cX11_isOf 54 = .ok (.ireturn, 1) := by decide +kernel
theorem dX11_isOf_55 : decode cX11_isOf 55 = .ok (.aload_n 0, 1) := by decide +kernel
theorem dX11_isOf_56 : decode cX11_isOf 56 = .ok (.instanceof 313, 3) := by decide +kernel
theorem dX11_isOf_59 : decode cX11_isOf 59 = .ok (.ireturn, 1) := by decide +kernel
theorem dX11_isOf_60 : decode cX11_isOf 60 = .ok (.aload_n 0, 1) := by decide +kernel
theorem dX11_isOf_61 : decode cX11_isOf 61 = .ok (.instanceof 316, 3) := by decide +kernel
theorem dX11_isOf_64 : decode cX11_isOf 64 = .ok (.ireturn, 1) := by decide +kernel
theorem dX11_isOf_65 : decode cX11_isOf 65 = .ok (.aload_n 0, 1) := by decide +kernel
theorem dX11_isOf_66 : decode cX11_isOf 66 = .ok (.instanceof 135, 3) := by decide +kernel
theorem dX11_isOf_69 : decode cX11_isOf 69 = .ok (.ireturn, 1) := by decide +kernel
theorem dX11_isOf_70 : decode cX11_isOf 70 = .ok (.iconst 1, 1) := by decide +kernel
theorem dX11_isOf_71 : decode cX11_isOf 71 = .ok (.ireturn, 1) := by decide +kernel
theorem dJ9_max_7cf53_0 : decode cJ9_max_7cf53 0 = .ok (.iload_n 0, 1) := by decide +kernel
theorem dJ9_max_7cf53_1 : decode cJ9_max_7cf53 1 = .ok (.iload_n 1, 1) := by decide +kernel
theorem dJ9_max_7cf53_2 : decode cJ9_max_7cf53 2 = .ok (.if_icmp .lt 7, 3) := by decide +kernel
theorem dJ9_max_7cf53_5 : decode cJ9_max_7cf53 5 = .ok (.iload_n 0, 1) := by decide +kernel
theorem dJ9_max_7cf53_6 : decode cJ9_max_7cf53 6 = .ok (.goto 4, 3) := by decide +kernel
theorem dJ9_max_7cf53_9 : decode cJ9_max_7cf53 9 = .ok (.iload_n 1, 1) := by decide +kernel
theorem dJ9_max_7cf53_10 : decode cJ9_max_7cf53 10 = .ok (.ireturn, 1) := by decide +kernel
theorem dJ9_min_7cf53_0 : decode cJ9_min_7cf53 0 = .ok (.iload_n 0, 1) := by decide +kernel
theorem dJ9_min_7cf53_1 : decode cJ9_min_7cf53 1 = .ok (.iload_n 1, 1) := by decide +kernel
theorem dJ9_min_7cf53_2 : decode cJ9_min_7cf53 2 = .ok (.if_icmp .gt 7, 3) := by decide +kernel
theorem dJ9_min_7cf53_5 : decode cJ9_min_7cf53 5 = .ok (.iload_n 0, 1) := by decide +kernel
theorem dJ9_min_7cf53_6 : decode cJ9_min_7cf53 6 = .ok (.goto 4, 3) := by decide +kernel
theorem dJ9_min_7cf53_9 : decode cJ9_min_7cf53 9 = .ok (.iload_n 1, 1) := by decide +kernel
theorem dJ9_min_7cf53_10 : decode cJ9_min_7cf53 10 = .ok (.ireturn, 1) := by decide +kernel
theorem dJ0_length_8abf5_0 : decode cJ0_length_8abf5 0 = .ok (.aload_n 0, 1) := by decide +kernel
theorem dJ0_length_8abf5_1 : decode cJ0_length_8abf5 1 = .ok (.getfield 9, 3) := by decide +kernel
theorem dJ0_length_8abf5_4 : decode cJ0_length_8abf5 4 = .ok (.arraylength, 1) := by decide +kernel
theorem dJ0_length_8abf5_5 : decode cJ0_length_8abf5 5 = .ok (.aload_n 0, 1) := by decide +kernel
theorem dJ0_length_8abf5_6 : decode cJ0_length_8abf5 6 = .ok (.invokevirtual 335, 3) := by decide +kernel
theorem dJ0_length_8abf5_9 : decode cJ0_length_8abf5 9 = .ok (.ishr, 1) := by decide +kernel
theorem dJ0_length_8abf5_10 : decode cJ0_length_8abf5 10 = .ok (.ireturn, 1) := by decide +kernel
theorem dJ0_charAt_5068e_0 : decode cJ0_charAt_5068e 0 = .ok (.aload_n 0, 1) := by decide +kernel
theorem dJ0_charAt_5068e_1 : decode cJ0_charAt_5068e 1 = .ok (.invokevirtual 492, 3) := by decide +kernel
theorem dJ0_charAt_5068e_4 : decode cJ0_charAt_5068e 4 = .ok (.ifCond .eq 12, 3) := by decide +kernel
theorem dJ0_charAt_5068e_7 : decode cJ0_charAt_5068e 7 = .ok (.aload_n 0, 1) := by decide +kernel
theorem dJ0_charAt_5068e_8 : decode cJ0_charAt_5068e 8 = .ok (.getfield 9, 3) := by decide +kernel
theorem dJ0_charAt_5068e_11 : decode cJ0_charAt_5068e 11 = .ok (.iload_n 1, 1) := by decide +kernel
theorem dJ0_charAt_5068e_12 : decode cJ0_charAt_5068e 12 = .ok (.invokestatic 495, 3) := by decide +kernel
theorem dJ0_charAt_5068e_15 : decode cJ0_charAt_5068e 15 = .ok (.ireturn, 1) := by decide +kernel
theorem dJ0_charAt_5068e_16 : decode cJ0_charAt_5068e 16 = .ok (.aload_n 0, 1) := by decide +kernel
theorem dJ0_charAt_5068e_17 : decode cJ0_charAt_5068e 17 = .ok (.getfield 9, 3) := by decide +kernel
theorem dJ0_charAt_5068e_20 : decode cJ0_charAt_5068e 20 = .ok (.iload_n 1, 1) := by decide +kernel
theorem dJ0_charAt_5068e_21 : decode cJ0_charAt_5068e 21 = .ok (.invokestatic 498, 3) := by decide +kernel
theorem dJ0_charAt_5068e_24 : decode cJ0_charAt_5068e 24 = .ok (.ireturn, 1) := by decide +kernel
theorem dJ0_coder_7d493_0 : decode cJ0_coder_7d493 0 = .ok (.getstatic 38, 3) := by decide +kernel
theorem dJ0_coder_7d493_3 : decode cJ0_coder_7d493 3 = .ok (.ifCond .eq 10, 3) := by decide +kernel
theorem dJ0_coder_7d493_6 : decode cJ0_coder_7d493 6 = .ok (.aload_n 0, 1) := by decide +kernel
theorem dJ0_coder_7d493_7 : decode cJ0_coder_7d493 7 = .ok (.getfield 15, 3) := by decide +kernel
theorem dJ0_coder_7d493_10 : decode cJ0_coder_7d493 10 = .ok (.goto 4, 3) := by decide +kernel
theorem dJ0_coder_7d493_13 : decode cJ0_coder_7d493 13 = .ok (.iconst 1, 1) := by decide +kernel
theorem dJ0_coder_7d493_14 : decode cJ0_coder_7d493 14 = .ok (.ireturn, 1) := by decide +kernel
theorem dJ0_isLatin1_aae02_0 : decode cJ0_isLatin1_aae02 0 = .ok (.getstatic 38, 3) := by decide +kernel
theorem dJ0_isLatin1_aae02_3 : decode cJ0_isLatin1_aae02 3 = .ok (.ifCond .eq 14, 3) := by decide +kernel
theorem dJ0_isLatin1_aae02_6 : decode cJ0_isLatin1_aae02 6 = .ok (.aload_n 0, 1) := by decide +kernel
theorem dJ0_isLatin1_aae02_7 : decode cJ0_isLatin1_aae02 7 = .ok (.getfield 15, 3) := by decide +kernel
theorem dJ0_isLatin1_aae02_10 : decode cJ0_isLatin1_aae02 10 = .ok (.ifCond .ne 7, 3) := by decide +kernel
theorem dJ0_isLatin1_aae02_13 : decode cJ0_isLatin1_aae02 13 = .ok (.iconst 1, 1) := by decide +kernel
theorem dJ0_isLatin1_aae02_14 : decode cJ0_isLatin1_aae02 14 = .ok (.goto 4, 3) := by decide +kernel
theorem dJ0_isLatin1_aae02_17 : decode cJ0_isLatin1_aae02 17 = .ok (.iconst 0, 1) := by decide +kernel
theorem dJ0_isLatin1_aae02_18 : decode cJ0_isLatin1_aae02 18 = .ok (.ireturn, 1) := by decide +kernel
theorem dJ0_checkIndex_df160_0 : decode cJ0_checkIndex_df160 0 = .ok (.iload_n 0, 1) := by decide +kernel
theorem dJ0_checkIndex_df160_1 : decode cJ0_checkIndex_df160 1 = .ok (.iload_n 1, 1) := by decide +kernel
theorem dJ0_checkIndex_df160_2 : decode cJ0_checkIndex_df160 2 = .ok (.getstatic 1053, 3) := by decide +kernel
theorem dJ0_checkIndex_df160_5 : decode cJ0_checkIndex_df160 5 = .ok (.invokestatic 1059, 3) := by decide +kernel
theorem dJ0_checkIndex_df160_8 : decode cJ0_checkIndex_df160 8 = .ok (.pop, 1) := by decide +kernel
theorem dJ0_checkIndex_df160_9 : decode cJ0_checkIndex_df160 9 = .ok (.return_, 1) := by decide +kernel
theorem dJ1_charAt_3b067_0 : decode cJ1_charAt_3b067 0 = .ok (.iload_n 1, 1) := by decide +kernel
theorem dJ1_charAt_3b067_1 : decode cJ1_charAt_3b067 1 = .ok (.aload_n 0, 1) := by decide +kernel
theorem dJ1_charAt_3b067_2 : decode cJ1_charAt_3b067 2 = .ok (.arraylength, 1) := by decide +kernel
theorem dJ1_charAt_3b067_3 : decode cJ1_charAt_3b067 3 = .ok (.invokestatic 9, 3) := by decide +kernel
theorem dJ1_charAt_3b067_6 : decode cJ1_charAt_3b067 6 = .ok (.aload_n 0, 1) := by decide +kernel
theorem dJ1_charAt_3b067_7 : decode cJ1_charAt_3b067 7 = .ok (.iload_n 1, 1) := by decide +kernel
theorem dJ1_charAt_3b067_8 : decode cJ1_charAt_3b067 8 = .ok (.baload, 1) := by decide +kernel
theorem dJ1_charAt_3b067_9 : decode cJ1_charAt_3b067 9 = .ok (.sipush 255, 3) := by decide +kernel
theorem dJ1_charAt_3b067_12 : decode cJ1_charAt_3b067 12 = .ok (.iand, 1) := by decide +kernel
theorem dJ1_charAt_3b067_13 : decode cJ1_charAt_3b067 13 = .ok (.i2c, 1) := by decide +kernel
theorem dJ1_charAt_3b067_14 : decode cJ1_charAt_3b067 14 = .ok (.ireturn, 1) := by decide +kernel
theorem dJ2_getChar_3b067_0 : decode cJ2_getChar_3b067 0 = .ok (.getstatic 44, 3) := by decide +kernel
theorem dJ2_getChar_3b067_3 : decode cJ2_getChar_3b067 3 = .ok (.ifCond .ne 25, 3) := by decide +kernel
theorem dJ2_getChar_3b067_6 : decode cJ2_getChar_3b067 6 = .ok (.iload_n 1, 1) := by decide +kernel
theorem dJ2_getChar_3b067_7 : decode cJ2_getChar_3b067 7 = .ok (.ifCond .lt 11, 3) := by decide +kernel
theorem dJ2_getChar_3b067_10 : decode cJ2_getChar_3b067 10 = .ok (.iload_n 1, 1) := by decide +kernel
theorem dJ2_getChar_3b067_11 : decode cJ2_getChar_3b067 11 = .ok (.aload_n 0, 1) := by decide +kernel
theorem dJ2_getChar_3b067_12 : decode cJ2_getChar_3b067 12 = .ok (.invokestatic 48, 3) := by decide +kernel
theorem dJ2_getChar_3b067_15 : decode cJ2_getChar_3b067 15 = .ok (.if_icmp .lt 13, 3) := by decide +kernel
theorem dJ2_getChar_3b067_18 : decode cJ2_getChar_3b067 18 = .ok (.new 52, 3) := by decide +kernel
theorem dJ2_getChar_3b067_21 : decode cJ2_getChar_3b067 21 = .ok (.dup, 1) := by decide +kernel
theorem dJ2_getChar_3b067_22 : decode cJ2_getChar_3b067 22 = .ok (.ldc 54, 2) := by decide +kernel
theorem dJ2_getChar_3b067_24 : decode cJ2_getChar_3b067 24 = .ok (.invokespecial 56, 3) := by decide +kernel
theorem dJ2_getChar_3b067_27 : decode cJ2_getChar_3b067 27 = .ok (.athrow, 1) := by decide +kernel
theorem dJ2_getChar_3b067_28 : decode cJ2_getChar_3b067 28 = .ok (.iload_n 1, 1) := by decide +kernel
theorem dJ2_getChar_3b067_29 : decode cJ2_getChar_3b067 29 = .ok (.iconst 1, 1) := by decide +kernel
theorem dJ2_getChar_3b067_30 : decode cJ2_getChar_3b067 30 = .ok (.ishl, 1) := by decide +kernel
theorem dJ2_getChar_3b067_31 : decode cJ2_getChar_3b067 31 = .ok (.istore_n 1, 1) := by decide +kernel
theorem dJ2_getChar_3b067_32 : decode cJ2_getChar_3b067 32 = .ok (.aload_n 0, 1) := by decide +kernel
theorem dJ2_getChar_3b067_33 : decode cJ2_getChar_3b067 33 = .ok (.iload_n 1, 1) := by decide +kernel
theorem dJ2_getChar_3b067_34 : decode cJ2_getChar_3b067 34 = .ok (.iinc 1 1, 3) := by decide +kernel
theorem dJ2_getChar_3b067_37 : decode cJ2_getChar_3b067 37 = .ok (.baload, 1) := by decide +kernel
theorem dJ2_getChar_3b067_38 : decode cJ2_getChar_3b067 38 = .ok (.sipush 255, 3) := by decide +kernel
theorem dJ2_getChar_3b067_41 : decode cJ2_getChar_3b067 41 = .ok (.iand, 1) := by decide +kernel
theorem dJ2_getChar_3b067_42 : decode cJ2_getChar_3b067 42 = .ok (.getstatic 59, 3) := by decide +kernel
theorem dJ2_getChar_3b067_45 : decode cJ2_getChar_3b067 45 = .ok (.ishl, 1) := by decide +kernel
theorem dJ2_getChar_3b067_46 : decode cJ2_getChar_3b067 46 = .ok (.aload_n 0, 1) := by decide +kernel
theorem dJ2_getChar_3b067_47 : decode cJ2_getChar_3b067 47 = .ok (.iload_n 1, 1) := by decide +kernel
theorem dJ2_getChar_3b067_48 : decode cJ2_getChar_3b067 48 = .ok (.baload, 1) := by decide +kernel
theorem dJ2_getChar_3b067_49 : decode cJ2_getChar_3b067 49 = .ok (.sipush 255, 3) := by decide +kernel
theorem dJ2_getChar_3b067_52 : decode cJ2_getChar_3b067 52 = .ok (.iand, 1) := by decide +kernel
theorem dJ2_getChar_3b067_53 : decode cJ2_getChar_3b067 53 = .ok (.getstatic 63, 3) := by decide +kernel
theorem dJ2_getChar_3b067_56 : decode cJ2_getChar_3b067 56 = .ok (.ishl, 1) := by decide +kernel
theorem dJ2_getChar_3b067_57 : decode cJ2_getChar_3b067 57 = .ok (.ior, 1) := by decide +kernel
theorem dJ2_getChar_3b067_58 : decode cJ2_getChar_3b067 58 = .ok (.i2c, 1) := by decide +kernel
theorem dJ2_getChar_3b067_59 : decode cJ2_getChar_3b067 59 = .ok (.ireturn, 1) := by decide +kernel
theorem dJ2_length_9d52b_0 : decode cJ2_length_9d52b 0 = .ok (.aload_n 0, 1) := by decide +kernel
theorem dJ2_length_9d52b_1 : decode cJ2_length_9d52b 1 = .ok (.arraylength, 1) := by decide +kernel
theorem dJ2_length_9d52b_2 : decode cJ2_length_9d52b 2 = .ok (.iconst 1, 1) := by decide +kernel
theorem dJ2_length_9d52b_3 : decode cJ2_length_9d52b 3 = .ok (.ishr, 1) := by decide +kernel
theorem dJ2_length_9d52b_4 : decode cJ2_length_9d52b 4 = .ok (.ireturn, 1) := by decide +kernel
theorem dJ2_charAt_3b067_0 : decode cJ2_charAt_3b067 0 = .ok (.iload_n 1, 1) := by decide +kernel
theorem dJ2_charAt_3b067_1 : decode cJ2_charAt_3b067 1 = .ok (.aload_n 0, 1) := by decide +kernel
theorem dJ2_charAt_3b067_2 : decode cJ2_charAt_3b067 2 = .ok (.invokestatic 67, 3) := by decide +kernel
theorem dJ2_charAt_3b067_5 : decode cJ2_charAt_3b067 5 = .ok (.aload_n 0, 1) := by decide +kernel
theorem dJ2_charAt_3b067_6 : decode cJ2_charAt_3b067 6 = .ok (.iload_n 1, 1) := by decide +kernel
theorem dJ2_charAt_3b067_7 : decode cJ2_charAt_3b067 7 = .ok (.invokestatic 71, 3) := by decide +kernel
theorem dJ2_charAt_3b067_10 : decode cJ2_charAt_3b067 10 = .ok (.ireturn, 1) := by decide +kernel
theorem dJ2_checkIndex_2214a_0 : decode cJ2_checkIndex_2214a 0 = .ok (.iload_n 0, 1) := by decide +kernel
theorem dJ2_checkIndex_2214a_1 : decode cJ2_checkIndex_2214a 1 = .ok (.aload_n 1, 1) := by decide +kernel
theorem dJ2_checkIndex_2214a_2 : decode cJ2_checkIndex_2214a 2 = .ok (.invokestatic 48, 3) := by decide +kernel
theorem dJ2_checkIndex_2214a_5 : decode cJ2_checkIndex_2214a 5 = .ok (.invokestatic 414, 3) := by decide +kernel
theorem dJ2_checkIndex_2214a_8 : decode cJ2_checkIndex_2214a 8 = .ok (.return_, 1) := by decide +kernel
theorem dJ7_fill_d0a16_0 : decode cJ7_fill_d0a16 0 = .ok (.iconst 0, 1) := by decide +kernel
theorem dJ7_fill_d0a16_1 : decode cJ7_fill_d0a16 1 = .ok (.istore_n 3, 1) := by decide +kernel
theorem dJ7_fill_d0a16_2 : decode cJ7_fill_d0a16 2 = .ok (.aload_n 0, 1) := by decide +kernel
theorem dJ7_fill_d0a16_3 : decode cJ7_fill_d0a16 3 = .ok (.arraylength, 1) := by decide +kernel
theorem dJ7_fill_d0a16_4 : decode cJ7_fill_d0a16 4 = .ok (.istore 4, 2) := by decide +kernel
theorem dJ7_fill_d0a16_6 : decode cJ7_fill_d0a16 6 = .ok (.iload_n 3, 1) := by decide +kernel
theorem dJ7_fill_d0a16_7 : decode cJ7_fill_d0a16 7 = .ok (.iload 4, 2) := by decide +kernel
theorem dJ7_fill_d0a16_9 : decode cJ7_fill_d0a16 9 = .ok (.if_icmp .ge 13, 3) := by decide +kernel
theorem dJ7_fill_d0a16_12 : decode cJ7_fill_d0a16 12 = .ok (.aload_n 0, 1) := by decide +kernel
theorem dJ7_fill_d0a16_13 : decode cJ7_fill_d0a16 13 = .ok (.iload_n 3, 1) := by decide +kernel
theorem dJ7_fill_d0a16_14 : decode cJ7_fill_d0a16 14 = .ok (.lload_n 1, 1) := by decide +kernel
theorem dJ7_fill_d0a16_15 : decode cJ7_fill_d0a16 15 = .ok (.lastore, 1) := by decide +kernel
theorem dJ7_fill_d0a16_16 : decode cJ7_fill_d0a16 16 = .ok (.iinc 3 1, 3) := by decide +kernel
theorem dJ7_fill_d0a16_19 : decode cJ7_fill_d0a16 19 = .ok (.goto (-13), 3) := by decide +kernel
theorem dJ7_fill_d0a16_22 : decode cJ7_fill_d0a16 22 = .ok (.return_, 1) := by decide +kernel
theorem dJ7_fill_53178_0 : decode cJ7_fill_53178 0 = .ok (.iconst 0, 1) := by decide +kernel
theorem dJ7_fill_53178_1 : decode cJ7_fill_53178 1 = .ok (.istore_n 2, 1) := by decide +kernel
theorem dJ7_fill_53178_2 : decode cJ7_fill_53178 2 = .ok (.aload_n 0, 1) := by decide +kernel
theorem dJ7_fill_53178_3 : decode cJ7_fill_53178 3 = .ok (.arraylength, 1) := by decide +kernel
theorem dJ7_fill_53178_4 : decode cJ7_fill_53178 4 = .ok (.istore_n 3, 1) := by decide +kernel
theorem dJ7_fill_53178_5 : decode cJ7_fill_53178 5 = .ok (.iload_n 2, 1) := by decide +kernel
theorem dJ7_fill_53178_6 : decode cJ7_fill_53178 6 = .ok (.iload_n 3, 1) := by decide +kernel
theorem dJ7_fill_53178_7 : decode cJ7_fill_53178 7 = .ok (.if_icmp .ge 13, 3) := by decide +kernel
theorem dJ7_fill_53178_10 : decode cJ7_fill_53178 10 = .ok (.aload_n 0, 1) := by decide +kernel
theorem dJ7_fill_53178_11 : decode cJ7_fill_53178 11 = .ok (.iload_n 2, 1) := by decide +kernel
theorem dJ7_fill_53178_12 : decode cJ7_fill_53178 12 = .ok (.iload_n 1, 1) := by decide +kernel
theorem dJ7_fill_53178_13 : decode cJ7_fill_53178 13 = .ok (.iastore, 1) := by decide +kernel
theorem dJ7_fill_53178_14 : decode cJ7_fill_53178 14 = .ok (.iinc 2 1, 3) := by decide +kernel
theorem dJ7_fill_53178_17 : decode cJ7_fill_53178 17 = .ok (.goto (-12), 3) := by decide +kernel
theorem dJ7_fill_53178_20 : decode cJ7_fill_53178 20 = .ok (.return_, 1) := by decide +kernel
theorem dJ3_checkIndex_8e157_0 : decode cJ3_checkIndex_8e157 0 = .ok (.iload_n 0, 1) := by decide +kernel
theorem dJ3_checkIndex_8e157_1 : decode cJ3_checkIndex_8e157 1 = .ok (.ifCond .lt 8, 3) := by decide +kernel
theorem dJ3_checkIndex_8e157_4 : decode cJ3_checkIndex_8e157 4 = .ok (.iload_n 0, 1) := by decide +kernel
theorem dJ3_checkIndex_8e157_5 : decode cJ3_checkIndex_8e157 5 = .ok (.iload_n 1, 1) := by decide +kernel
theorem dJ3_checkIndex_8e157_6 : decode cJ3_checkIndex_8e157 6 = .ok (.if_icmp .lt 10, 3) := by decide +kernel
theorem dJ3_checkIndex_8e157_9 : decode cJ3_checkIndex_8e157 9 = .ok (.aload_n 2, 1) := by decide +kernel
theorem dJ3_checkIndex_8e157_10 : decode cJ3_checkIndex_8e157 10 = .ok (.iload_n 0, 1) := by decide +kernel
theorem dJ3_checkIndex_8e157_11 : decode cJ3_checkIndex_8e157 11 = .ok (.iload_n 1, 1) := by decide +kernel
theorem dJ3_checkIndex_8e157_12 : decode cJ3_checkIndex_8e157 12 = .ok (.invokestatic 95, 3) := by decide +kernel
theorem dJ3_checkIndex_8e157_15 : decode cJ3_checkIndex_8e157 15 = .ok (.athrow, 1) := by decide +kernel
theorem dJ3_checkIndex_8e157_16 : decode cJ3_checkIndex_8e157 16 = .ok (.iload_n 0, 1) := by decide +kernel
theorem dJ3_checkIndex_8e157_17 : decode cJ3_checkIndex_8e157 17 = .ok (.ireturn, 1) := by decide +kernel
