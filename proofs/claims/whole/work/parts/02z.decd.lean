/-! ===== decode rows ===== -/
theorem dX12_nextLine_67 : decode cX12_nextLine 67 = .ok (.if_icmp .ge 7, 3) := by decide +kernel
theorem dX12_nextLine_70 : decode cX12_nextLine 70 = .ok (.iconst 1, 1) := by decide +kernel
theorem dX12_nextLine_71 : decode cX12_nextLine 71 = .ok (.goto 4, 3) := by decide +kernel
theorem dX12_nextLine_74 : decode cX12_nextLine 74 = .ok (.iconst 0, 1) := by decide +kernel
theorem dX12_nextLine_75 : decode cX12_nextLine 75 = .ok (.ireturn, 1) := by decide +kernel
theorem dX12_nextLine_76 : decode cX12_nextLine 76 = .ok (.aload_n 0, 1) := by decide +kernel
theorem dX12_nextLine_77 : decode cX12_nextLine 77 = .ok (.getfield 153, 3) := by decide +kernel
theorem dX12_nextLine_80 : decode cX12_nextLine 80 = .ok (.bipush 41, 2) := by decide +kernel
theorem dX12_nextLine_82 : decode cX12_nextLine 82 = .ok (.aload_n 0, 1) := by decide +kernel
theorem dX12_nextLine_83 : decode cX12_nextLine 83 = .ok (.getfield 156, 3) := by decide +kernel
theorem dX12_nextLine_86 : decode cX12_nextLine 86 = .ok (.iconst 1, 1) := by decide +kernel
theorem dX12_nextLine_87 : decode cX12_nextLine 87 = .ok (.iaload, 1) := by decide +kernel
theorem dX12_nextLine_88 : decode cX12_nextLine 88 = .ok (.iadd, 1) := by decide +kernel
theorem dX12_nextLine_89 : decode cX12_nextLine 89 = .ok (.iaload, 1) := by decide +kernel
theorem dX12_nextLine_90 : decode cX12_nextLine 90 = .ok (.aload_n 0, 1) := by decide +kernel
theorem dX12_nextLine_91 : decode cX12_nextLine 91 = .ok (.getfield 153, 3) := by decide +kernel
theorem dX12_nextLine_94 : decode cX12_nextLine 94 = .ok (.aload_n 0, 1) := by decide +kernel
theorem dX12_nextLine_95 : decode cX12_nextLine 95 = .ok (.getfield 156, 3) := by decide +kernel
theorem dX12_nextLine_98 : decode cX12_nextLine 98 = .ok (.iconst 0, 1) := by decide +kernel
theorem dX12_nextLine_99 : decode cX12_nextLine 99 = .ok (.iaload, 1) := by decide +kernel
theorem dX12_nextLine_100 : decode cX12_nextLine 100 = .ok (.iaload, 1) := by decide +kernel
theorem dX12_nextLine_101 : decode cX12_nextLine 101 = .ok (.if_icmp .ge 7, 3) := by decide +kernel
theorem dX12_nextLine_104 : decode cX12_nextLine 104 = .ok (.iconst 1, 1) := by decide +kernel
theorem dX12_nextLine_105 : decode cX12_nextLine 105 = .ok (.goto 4, 3) := by decide +kernel
theorem dX12_nextLine_108 : decode cX12_nextLine 108 = .ok (.iconst 0, 1) := by decide +kernel
theorem dX12_nextLine_109 : decode cX12_nextLine 109 = .ok (.ireturn, 1) := by decide +kernel
theorem dX12_takes_0 : decode cX12_takes 0 = .ok (.aload_n 0, 1) := by decide +kernel
theorem dX12_takes_1 : decode cX12_takes 1 = .ok (.getfield 111, 3) := by decide +kernel
theorem dX12_takes_4 : decode cX12_takes 4 = .ok (.aload_n 0, 1) := by decide +kernel
theorem dX12_takes_5 : decode cX12_takes 5 = .ok (.getfield 129, 3) := by decide +kernel
theorem dX12_takes_8 : decode cX12_takes 8 = .ok (.if_icmp .gt 17, 3) := by decide +kernel
theorem dX12_takes_11 : decode cX12_takes 11 = .ok (.aload_n 0, 1) := by decide +kernel
theorem dX12_takes_12 : decode cX12_takes 12 = .ok (.iconst 0, 1) := by decide +kernel
theorem dX12_takes_13 : decode cX12_takes 13 = .ok (.invokevirtual 288, 3) := by decide +kernel
theorem dX12_takes_16 : decode cX12_takes 16 = .ok (.aload_n 0, 1) := by decide +kernel
theorem dX12_takes_17 : decode cX12_takes 17 = .ok (.iconst 1, 1) := by decide +kernel
theorem dX12_takes_18 : decode cX12_takes 18 = .ok (.invokevirtual 288, 3) := by decide +kernel
theorem dX12_takes_21 : decode cX12_takes 21 = .ok (.iadd, 1) := by decide +kernel
theorem dX12_takes_22 : decode cX12_takes 22 = .ok (.ifCond .ne 4, 3) := by decide +kernel
theorem dX12_takes_25 : decode cX12_takes 25 = .ok (.return_, 1) := by decide +kernel
theorem dX12_takes_26 : decode cX12_takes 26 = .ok (.aload_n 0, 1) := by decide +kernel
theorem dX12_takes_27 : decode cX12_takes 27 = .ok (.iload_n 1, 1) := by decide +kernel
theorem dX12_takes_28 : decode cX12_takes 28 = .ok (.invokevirtual 309, 3) := by decide +kernel
theorem dX12_takes_31 : decode cX12_takes 31 = .ok (.istore_n 2, 1) := by decide +kernel
theorem dX12_takes_32 : decode cX12_takes 32 = .ok (.aload_n 0, 1) := by decide +kernel
theorem dX12_takes_33 : decode cX12_takes 33 = .ok (.getfield 153, 3) := by decide +kernel
theorem dX12_takes_36 : decode cX12_takes 36 = .ok (.bipush 41, 2) := by decide +kernel
theorem dX12_takes_38 : decode cX12_takes 38 = .ok (.iload_n 2, 1) := by decide +kernel
theorem dX12_takes_39 : decode cX12_takes 39 = .ok (.imul, 1) := by decide +kernel
theorem dX12_takes_40 : decode cX12_takes 40 = .ok (.aload_n 0, 1) := by decide +kernel
theorem dX12_takes_41 : decode cX12_takes 41 = .ok (.getfield 156, 3) := by decide +kernel
theorem dX12_takes_44 : decode cX12_takes 44 = .ok (.iload_n 2, 1) := by decide +kernel
theorem dX12_takes_45 : decode cX12_takes 45 = .ok (.iaload, 1) := by decide +kernel
theorem dX12_takes_46 : decode cX12_takes 46 = .ok (.iadd, 1) := by decide +kernel
theorem dX12_takes_47 : decode cX12_takes 47 = .ok (.iaload, 1) := by decide +kernel
theorem dX12_takes_48 : decode cX12_takes 48 = .ok (.istore_n 3, 1) := by decide +kernel
theorem dX12_takes_49 : decode cX12_takes 49 = .ok (.aload_n 0, 1) := by decide +kernel
theorem dX12_takes_50 : decode cX12_takes 50 = .ok (.getfield 156, 3) := by decide +kernel
theorem dX12_takes_53 : decode cX12_takes 53 = .ok (.iload_n 2, 1) := by decide +kernel
theorem dX12_takes_54 : decode cX12_takes 54 = .ok (.dup2, 1) := by decide +kernel
theorem dX12_takes_55 : decode cX12_takes 55 = .ok (.iaload, 1) := by decide +kernel
theorem dX12_takes_56 : decode cX12_takes 56 = .ok (.iconst 1, 1) := by decide +kernel
theorem dX12_takes_57 : decode cX12_takes 57 = .ok (.iadd, 1) := by decide +kernel
theorem dX12_takes_58 : decode cX12_takes 58 = .ok (.iastore, 1) := by decide +kernel
theorem dX12_takes_59 : decode cX12_takes 59 = .ok (.aload_n 0, 1) := by decide +kernel
theorem dX12_takes_60 : decode cX12_takes 60 = .ok (.iload_n 2, 1) := by decide +kernel
theorem dX12_takes_61 : decode cX12_takes 61 = .ok (.ifCond .ne 7, 3) := by decide +kernel
theorem dX12_takes_64 : decode cX12_takes 64 = .ok (.iconst 0, 1) := by decide +kernel
theorem dX12_takes_65 : decode cX12_takes 65 = .ok (.goto 9, 3) := by decide +kernel
theorem dX12_takes_68 : decode cX12_takes 68 = .ok (.aload_n 0, 1) := by decide +kernel
theorem dX12_takes_69 : decode cX12_takes 69 = .ok (.getfield 114, 3) := by decide +kernel
theorem dX12_takes_72 : decode cX12_takes 72 = .ok (.iconst 1, 1) := by decide +kernel
theorem dX12_takes_73 : decode cX12_takes 73 = .ok (.iadd, 1) := by decide +kernel
theorem dX12_takes_74 : decode cX12_takes 74 = .ok (.putfield 114, 3) := by decide +kernel
theorem dX12_takes_77 : decode cX12_takes 77 = .ok (.aload_n 0, 1) := by decide +kernel
theorem dX12_takes_78 : decode cX12_takes 78 = .ok (.getfield 147, 3) := by decide +kernel
theorem dX12_takes_81 : decode cX12_takes 81 = .ok (.iload_n 3, 1) := by decide +kernel
theorem dX12_takes_82 : decode cX12_takes 82 = .ok (.aload_n 0, 1) := by decide +kernel
theorem dX12_takes_83 : decode cX12_takes 83 = .ok (.getfield 129, 3) := by decide +kernel
theorem dX12_takes_86 : decode cX12_takes 86 = .ok (.aload_n 0, 1) := by decide +kernel
theorem dX12_takes_87 : decode cX12_takes 87 = .ok (.getfield 138, 3) := by decide +kernel
theorem dX12_takes_90 : decode cX12_takes 90 = .ok (.iload_n 3, 1) := by decide +kernel
theorem dX12_takes_91 : decode cX12_takes 91 = .ok (.iaload, 1) := by decide +kernel
theorem dX12_takes_92 : decode cX12_takes 92 = .ok (.isub, 1) := by decide +kernel
theorem dX12_takes_93 : decode cX12_takes 93 = .ok (.iastore, 1) := by decide +kernel
theorem dX12_takes_94 : decode cX12_takes 94 = .ok (.aload_n 0, 1) := by decide +kernel
theorem dX12_takes_95 : decode cX12_takes 95 = .ok (.getfield 150, 3) := by decide +kernel
theorem dX12_takes_98 : decode cX12_takes 98 = .ok (.iload_n 3, 1) := by decide +kernel
theorem dX12_takes_99 : decode cX12_takes 99 = .ok (.aload_n 0, 1) := by decide +kernel
theorem dX12_takes_100 : decode cX12_takes 100 = .ok (.getfield 108, 3) := by decide +kernel
theorem dX12_takes_103 : decode cX12_takes 103 = .ok (.iastore, 1) := by decide +kernel
theorem dX12_takes_104 : decode cX12_takes 104 = .ok (.aload_n 0, 1) := by decide +kernel
theorem dX12_takes_105 : decode cX12_takes 105 = .ok (.getfield 162, 3) := by decide +kernel
theorem dX12_takes_108 : decode cX12_takes 108 = .ok (.aload_n 0, 1) := by decide +kernel
theorem dX12_takes_109 : decode cX12_takes 109 = .ok (.getfield 108, 3) := by decide +kernel
theorem dX12_takes_112 : decode cX12_takes 112 = .ok (.iload_n 3, 1) := by decide +kernel
theorem dX12_takes_113 : decode cX12_takes 113 = .ok (.iastore, 1) := by decide +kernel
theorem dX12_takes_114 : decode cX12_takes 114 = .ok (.aload_n 0, 1) := by decide +kernel
theorem dX12_takes_115 : decode cX12_takes 115 = .ok (.getfield 165, 3) := by decide +kernel
theorem dX12_takes_118 : decode cX12_takes 118 = .ok (.aload_n 0, 1) := by decide +kernel
theorem dX12_takes_119 : decode cX12_takes 119 = .ok (.getfield 108, 3) := by decide +kernel
theorem dX12_takes_122 : decode cX12_takes 122 = .ok (.aload_n 0, 1) := by decide +kernel
theorem dX12_takes_123 : decode cX12_takes 123 = .ok (.getfield 129, 3) := by decide +kernel
theorem dX12_takes_126 : decode cX12_takes 126 = .ok (.iastore, 1) := by decide +kernel
theorem dX12_takes_127 : decode cX12_takes 127 = .ok (.aload_n 0, 1) := by decide +kernel
theorem dX12_takes_128 : decode cX12_takes 128 = .ok (.dup, 1) := by decide +kernel
theorem dX12_takes_129 : decode cX12_takes 129 = .ok (.getfield 108, 3) := by decide +kernel
theorem dX12_takes_132 : decode cX12_takes 132 = .ok (.iconst 1, 1) := by decide +kernel
theorem dX12_takes_133 : decode cX12_takes 133 = .ok (.iadd, 1) := by decide +kernel
theorem dX12_takes_134 : decode cX12_takes 134 = .ok (.putfield 108, 3) := by decide +kernel
theorem dX12_takes_137 : decode cX12_takes 137 = .ok (.aload_n 0, 1) := by decide +kernel
theorem dX12_takes_138 : decode cX12_takes 138 = .ok (.aload_n 0, 1) := by decide +kernel
theorem dX12_takes_139 : decode cX12_takes 139 = .ok (.getfield 129, 3) := by decide +kernel
theorem dX12_takes_142 : decode cX12_takes 142 = .ok (.aload_n 0, 1) := by decide +kernel
theorem dX12_takes_143 : decode cX12_takes 143 = .ok (.iload_n 3, 1) := by decide +kernel
theorem dX12_takes_144 : decode cX12_takes 144 = .ok (.invokevirtual 297, 3) := by decide +kernel
theorem dX12_takes_147 : decode cX12_takes 147 = .ok (.iadd, 1) := by decide +kernel
theorem dX12_takes_148 : decode cX12_takes 148 = .ok (.putfield 111, 3) := by decide +kernel
theorem dX12_takes_151 : decode cX12_takes 151 = .ok (.return_, 1) := by decide +kernel
theorem dX12_go_0 : decode cX12_go 0 = .ok (.aload_n 0, 1) := by decide +kernel
theorem dX12_go_1 : decode cX12_go 1 = .ok (.iconst 0, 1) := by decide +kernel
theorem dX12_go_2 : decode cX12_go 2 = .ok (.putfield 105, 3) := by decide +kernel
theorem dX12_go_5 : decode cX12_go 5 = .ok (.aload_n 0, 1) := by decide +kernel
theorem dX12_go_6 : decode cX12_go 6 = .ok (.iconst 0, 1) := by decide +kernel
theorem dX12_go_7 : decode cX12_go 7 = .ok (.putfield 108, 3) := by decide +kernel
theorem dX12_go_10 : decode cX12_go 10 = .ok (.aload_n 0, 1) := by decide +kernel
theorem dX12_go_11 : decode cX12_go 11 = .ok (.iconst 0, 1) := by decide +kernel
theorem dX12_go_12 : decode cX12_go 12 = .ok (.putfield 111, 3) := by decide +kernel
theorem dX12_go_15 : decode cX12_go 15 = .ok (.aload_n 0, 1) := by decide +kernel
theorem dX12_go_16 : decode cX12_go 16 = .ok (.iconst 0, 1) := by decide +kernel
theorem dX12_go_17 : decode cX12_go 17 = .ok (.putfield 114, 3) := by decide +kernel
theorem dX12_go_20 : decode cX12_go 20 = .ok (.aload_n 0, 1) := by decide +kernel
theorem dX12_go_21 : decode cX12_go 21 = .ok (.iload_n 2, 1) := by decide +kernel
theorem dX12_go_22 : decode cX12_go 22 = .ok (.putfield 117, 3) := by decide +kernel
theorem dX12_go_25 : decode cX12_go 25 = .ok (.aload_n 0, 1) := by decide +kernel
theorem dX12_go_26 : decode cX12_go 26 = .ok (.aload_n 0, 1) := by decide +kernel
theorem dX12_go_27 : decode cX12_go 27 = .ok (.iconst 1, 1) := by decide +kernel
theorem dX12_go_28 : decode cX12_go 28 = .ok (.invokevirtual 312, 3) := by decide +kernel
theorem dX12_go_31 : decode cX12_go 31 = .ok (.iload_n 3, 1) := by decide +kernel
theorem dX12_go_32 : decode cX12_go 32 = .ok (.iadd, 1) := by decide +kernel
theorem dX12_go_33 : decode cX12_go 33 = .ok (.putfield 120, 3) := by decide +kernel
theorem dX12_go_36 : decode cX12_go 36 = .ok (.aload_n 0, 1) := by decide +kernel
theorem dX12_go_37 : decode cX12_go 37 = .ok (.aload_n 0, 1) := by decide +kernel
theorem dX12_go_38 : decode cX12_go 38 = .ok (.iconst 2, 1) := by decide +kernel
theorem dX12_go_39 : decode cX12_go 39 = .ok (.invokevirtual 312, 3) := by decide +kernel
theorem dX12_go_42 : decode cX12_go 42 = .ok (.putfield 123, 3) := by decide +kernel
theorem dX12_go_45 : decode cX12_go 45 = .ok (.aload_n 0, 1) := by decide +kernel
theorem dX12_go_46 : decode cX12_go 46 = .ok (.iconst (-1), 1) := by decide +kernel
theorem dX12_go_47 : decode cX12_go 47 = .ok (.putfield 132, 3) := by decide +kernel
theorem dX12_go_50 : decode cX12_go 50 = .ok (.iconst 0, 1) := by decide +kernel
theorem dX12_go_51 : decode cX12_go 51 = .ok (.istore 5, 2) := by decide +kernel
theorem dX12_go_53 : decode cX12_go 53 = .ok (.iload 5, 2) := by decide +kernel
theorem dX12_go_55 : decode cX12_go 55 = .ok (.iconst 2, 1) := by decide +kernel
theorem dX12_go_56 : decode cX12_go 56 = .ok (.if_icmp .ge 25, 3) := by decide +kernel
theorem dX12_go_59 : decode cX12_go 59 = .ok (.aload_n 0, 1) := by decide +kernel
theorem dX12_go_60 : decode cX12_go 60 = .ok (.getfield 156, 3) := by decide +kernel
theorem dX12_go_63 : decode cX12_go 63 = .ok (.iload 5, 2) := by decide +kernel
theorem dX12_go_65 : decode cX12_go 65 = .ok (.iconst 0, 1) := by decide +kernel
theorem dX12_go_66 : decode cX12_go 66 = .ok (.iastore, 1) := by decide +kernel
theorem dX12_go_67 : decode cX12_go 67 = .ok (.aload_n 0, 1) := by decide +kernel
theorem dX12_go_68 : decode cX12_go 68 = .ok (.getfield 159, 3) := by decide +kernel
theorem dX12_go_71 : decode cX12_go 71 = .ok (.iload 5, 2) := by decide +kernel
theorem dX12_go_73 : decode cX12_go 73 = .ok (.iconst 0, 1) := by decide +kernel
theorem dX12_go_74 : decode cX12_go 74 = .ok (.iastore, 1) := by decide +kernel
theorem dX12_go_75 : decode cX12_go 75 = .ok (.iinc 5 1, 3) := by decide +kernel
theorem dX12_go_78 : decode cX12_go 78 = .ok (.goto (-25), 3) := by decide +kernel
theorem dX12_go_81 : decode cX12_go 81 = .ok (.iconst 0, 1) := by decide +kernel
theorem dX12_go_82 : decode cX12_go 82 = .ok (.istore 5, 2) := by decide +kernel
theorem dX12_go_84 : decode cX12_go 84 = .ok (.iload 5, 2) := by decide +kernel
theorem dX12_go_86 : decode cX12_go 86 = .ok (.sipush 200, 3) := by decide +kernel
theorem dX12_go_89 : decode cX12_go 89 = .ok (.if_icmp .ge 17, 3) := by decide +kernel
theorem dX12_go_92 : decode cX12_go 92 = .ok (.aload_n 0, 1) := by decide +kernel
theorem dX12_go_93 : decode cX12_go 93 = .ok (.getfield 168, 3) := by decide +kernel
theorem dX12_go_96 : decode cX12_go 96 = .ok (.iload 5, 2) := by decide +kernel
theorem dX12_go_98 : decode cX12_go 98 = .ok (.iconst 0, 1) := by decide +kernel
theorem dX12_go_99 : decode cX12_go 99 = .ok (.iastore, 1) := by decide +kernel
theorem dX12_go_100 : decode cX12_go 100 = .ok (.iinc 5 1, 3) := by decide +kernel
theorem dX12_go_103 : decode cX12_go 103 = .ok (.goto (-19), 3) := by decide +kernel
theorem dX12_go_106 : decode cX12_go 106 = .ok (.aload_n 0, 1) := by decide +kernel
theorem dX12_go_107 : decode cX12_go 107 = .ok (.iconst 0, 1) := by decide +kernel
theorem dX12_go_108 : decode cX12_go 108 = .ok (.putfield 129, 3) := by decide +kernel
theorem dX12_go_111 : decode cX12_go 111 = .ok (.aload_n 0, 1) := by decide +kernel
theorem dX12_go_112 : decode cX12_go 112 = .ok (.getfield 129, 3) := by decide +kernel
theorem dX12_go_115 : decode cX12_go 115 = .ok (.bipush 60, 2) := by decide +kernel
theorem dX12_go_117 : decode cX12_go 117 = .ok (.if_icmp .lt 17, 3) := by decide +kernel
theorem dX12_go_120 : decode cX12_go 120 = .ok (.aload_n 0, 1) := by decide +kernel
theorem dX12_go_121 : decode cX12_go 121 = .ok (.iconst 0, 1) := by decide +kernel
theorem dX12_go_122 : decode cX12_go 122 = .ok (.invokevirtual 288, 3) := by decide +kernel
theorem dX12_go_125 : decode cX12_go 125 = .ok (.aload_n 0, 1) := by decide +kernel
theorem dX12_go_126 : decode cX12_go 126 = .ok (.iconst 1, 1) := by decide +kernel
theorem dX12_go_127 : decode cX12_go 127 = .ok (.invokevirtual 288, 3) := by decide +kernel
theorem dX12_go_130 : decode cX12_go 130 = .ok (.iadd, 1) := by decide +kernel
theorem dX12_go_131 : decode cX12_go 131 = .ok (.ifCond .le 224, 3) := by decide +kernel
theorem dX12_go_134 : decode cX12_go 134 = .ok (.iconst 0, 1) := by decide +kernel
theorem dX12_go_135 : decode cX12_go 135 = .ok (.istore 5, 2) := by decide +kernel
theorem dX12_go_137 : decode cX12_go 137 = .ok (.iload 5, 2) := by decide +kernel
theorem dX12_go_139 : decode cX12_go 139 = .ok (.aload_n 0, 1) := by decide +kernel
theorem dX12_go_140 : decode cX12_go 140 = .ok (.getfield 13, 3) := by decide +kernel
theorem dX12_go_143 : decode cX12_go 143 = .ok (.aload_n 0, 1) := by decide +kernel
theorem dX12_go_144 : decode cX12_go 144 = .ok (.getfield 126, 3) := by decide +kernel
theorem dX12_go_147 : decode cX12_go 147 = .ok (.iadd, 1) := by decide +kernel
theorem dX12_go_148 : decode cX12_go 148 = .ok (.if_icmp .ge 86, 3) := by decide +kernel
theorem dX12_go_151 : decode cX12_go 151 = .ok (.aload_n 0, 1) := by decide +kernel
theorem dX12_go_152 : decode cX12_go 152 = .ok (.getfield 129, 3) := by decide +kernel
theorem dX12_go_155 : decode cX12_go 155 = .ok (.bipush 60, 2) := by decide +kernel
theorem dX12_go_157 : decode cX12_go 157 = .ok (.if_icmp .ge 77, 3) := by decide +kernel
theorem dX12_go_160 : decode cX12_go 160 = .ok (.aload_n 0, 1) := by decide +kernel
theorem dX12_go_161 : decode cX12_go 161 = .ok (.getfield 35, 3) := by decide +kernel
theorem dX12_go_164 : decode cX12_go 164 = .ok (.iload 5, 2) := by decide +kernel
theorem dX12_go_166 : decode cX12_go 166 = .ok (.iaload, 1) := by decide +kernel
theorem dX12_go_167 : decode cX12_go 167 = .ok (.aload_n 0, 1) := by decide +kernel
theorem dX12_go_168 : decode cX12_go 168 = .ok (.getfield 129, 3) := by decide +kernel
theorem dX12_go_171 : decode cX12_go 171 = .ok (.if_icmp .ne 57, 3) := by decide +kernel
theorem dX12_go_174 : decode cX12_go 174 = .ok (.iload 4, 2) := by decide +kernel
theorem dX12_go_176 : decode cX12_go 176 = .ok (.iload 5, 2) := by decide +kernel
theorem dX12_go_178 : decode cX12_go 178 = .ok (.ishr, 1) := by decide +kernel
theorem dX12_go_179 : decode cX12_go 179 = .ok (.iconst 1, 1) := by decide +kernel
theorem dX12_go_180 : decode cX12_go 180 = .ok (.iand, 1) := by decide +kernel
theorem dX12_go_181 : decode cX12_go 181 = .ok (.iconst 1, 1) := by decide +kernel
theorem dX12_go_182 : decode cX12_go 182 = .ok (.if_icmp .ne 6, 3) := by decide +kernel
theorem dX12_go_185 : decode cX12_go 185 = .ok (.goto 43, 3) := by decide +kernel
theorem dX12_go_188 : decode cX12_go 188 = .ok (.iload 5, 2) := by decide +kernel
theorem dX12_go_190 : decode cX12_go 190 = .ok (.aload_n 0, 1) := by decide +kernel
theorem dX12_go_191 : decode cX12_go 191 = .ok (.getfield 13, 3) := by decide +kernel
theorem dX12_go_194 : decode cX12_go 194 = .ok (.if_icmp .ne 22, 3) := by decide +kernel
theorem dX12_go_197 : decode cX12_go 197 = .ok (.aload_n 0, 1) := by decide +kernel
theorem dX12_go_198 : decode cX12_go 198 = .ok (.getfield 105, 3) := by decide +kernel
theorem dX12_go_201 : decode cX12_go 201 = .ok (.aload_n 0, 1) := by decide +kernel
theorem dX12_go_202 : decode cX12_go 202 = .ok (.getfield 123, 3) := by decide +kernel
theorem dX12_go_205 : decode cX12_go 205 = .ok (.if_icmp .ge 11, 3) := by decide +kernel
theorem dX12_go_208 : decode cX12_go 208 = .ok (.aload_n 0, 1) := by decide +kernel
theorem dX12_go_209 : decode cX12_go 209 = .ok (.aload_n 0, 1) := by decide +kernel
theorem dX12_go_210 : decode cX12_go 210 = .ok (.getfield 105, 3) := by decide +kernel
theorem dX12_go_213 : decode cX12_go 213 = .ok (.putfield 132, 3) := by decide +kernel
theorem dX12_go_216 : decode cX12_go 216 = .ok (.aload_n 0, 1) := by decide +kernel
theorem dX12_go_217 : decode cX12_go 217 = .ok (.iload_n 1, 1) := by decide +kernel
theorem dX12_go_218 : decode cX12_go 218 = .ok (.aload_n 0, 1) := by decide +kernel
theorem dX12_go_219 : decode cX12_go 219 = .ok (.getfield 32, 3) := by decide +kernel
theorem dX12_go_222 : decode cX12_go 222 = .ok (.iload 5, 2) := by decide +kernel
theorem dX12_go_224 : decode cX12_go 224 = .ok (.iaload, 1) := by decide +kernel
theorem dX12_go_225 : decode cX12_go 225 = .ok (.invokevirtual 315, 3) := by decide +kernel
theorem dX12_go_228 : decode cX12_go 228 = .ok (.iinc 5 1, 3) := by decide +kernel
theorem dX12_go_231 : decode cX12_go 231 = .ok (.goto (-94), 3) := by decide +kernel
theorem dX12_go_234 : decode cX12_go 234 = .ok (.iconst 0, 1) := by decide +kernel
theorem dX12_go_235 : decode cX12_go 235 = .ok (.istore 5, 2) := by decide +kernel
theorem dX12_go_237 : decode cX12_go 237 = .ok (.iload 5, 2) := by decide +kernel
theorem dX12_go_239 : decode cX12_go 239 = .ok (.aload_n 0, 1) := by decide +kernel
theorem dX12_go_240 : decode cX12_go 240 = .ok (.getfield 7, 3) := by decide +kernel
theorem dX12_go_243 : decode cX12_go 243 = .ok (.if_icmp .ge 49, 3) := by decide +kernel
theorem dX12_go_246 : decode cX12_go 246 = .ok (.aload_n 0, 1) := by decide +kernel
theorem dX12_go_247 : decode cX12_go 247 = .ok (.getfield 129, 3) := by decide +kernel
theorem dX12_go_250 : decode cX12_go 250 = .ok (.bipush 60, 2) := by decide +kernel
theorem dX12_go_252 : decode cX12_go 252 = .ok (.if_icmp .ge 40, 3) := by decide +kernel
theorem dX12_go_255 : decode cX12_go 255 = .ok (.aload_n 0, 1) := by decide +kernel
theorem dX12_go_256 : decode cX12_go 256 = .ok (.getfield 105, 3) := by decide +kernel
theorem dX12_go_259 : decode cX12_go 259 = .ok (.aload_n 0, 1) := by decide +kernel
theorem dX12_go_260 : decode cX12_go 260 = .ok (.getfield 123, 3) := by decide +kernel
theorem dX12_go_263 : decode cX12_go 263 = .ok (.if_icmp .ge 23, 3) := by decide +kernel
theorem dX12_go_266 : decode cX12_go 266 = .ok (.aload_n 0, 1) := by decide +kernel
theorem dX12_go_267 : decode cX12_go 267 = .ok (.iload 5, 2) := by decide +kernel
theorem dX12_go_269 : decode cX12_go 269 = .ok (.aload_n 0, 1) := by decide +kernel
theorem dX12_go_270 : decode cX12_go 270 = .ok (.getfield 129, 3) := by decide +kernel
theorem dX12_go_273 : decode cX12_go 273 = .ok (.invokevirtual 319, 3) := by decide +kernel
theorem dX12_go_276 : decode cX12_go 276 = .ok (.ifCond .eq 10, 3) := by decide +kernel
theorem dX12_go_279 : decode cX12_go 279 = .ok (.aload_n 0, 1) := by decide +kernel
theorem dX12_go_280 : decode cX12_go 280 = .ok (.iload_n 1, 1) := by decide +kernel
theorem dX12_go_281 : decode cX12_go 281 = .ok (.iload 5, 2) := by decide +kernel
theorem dX12_go_283 : decode cX12_go 283 = .ok (.invokevirtual 315, 3) := by decide +kernel
theorem dX12_go_286 : decode cX12_go 286 = .ok (.iinc 5 1, 3) := by decide +kernel
theorem dX12_go_289 : decode cX12_go 289 = .ok (.goto (-52), 3) := by decide +kernel
theorem dX12_go_292 : decode cX12_go 292 = .ok (.aload_n 0, 1) := by decide +kernel
theorem dX12_go_293 : decode cX12_go 293 = .ok (.iload_n 1, 1) := by decide +kernel
theorem dX12_go_294 : decode cX12_go 294 = .ok (.invokevirtual 322, 3) := by decide +kernel
theorem dX12_go_297 : decode cX12_go 297 = .ok (.iconst 0, 1) := by decide +kernel
theorem dX12_go_298 : decode cX12_go 298 = .ok (.istore 5, 2) := by decide +kernel
theorem dX12_go_300 : decode cX12_go 300 = .ok (.iload 5, 2) := by decide +kernel
theorem dX12_go_302 : decode cX12_go 302 = .ok (.iconst 2, 1) := by decide +kernel
theorem dX12_go_303 : decode cX12_go 303 = .ok (.if_icmp .ge 39, 3) := by decide +kernel
theorem dX12_go_306 : decode cX12_go 306 = .ok (.aload_n 0, 1) := by decide +kernel
theorem dX12_go_307 : decode cX12_go 307 = .ok (.getfield 129, 3) := by decide +kernel
theorem dX12_go_310 : decode cX12_go 310 = .ok (.bipush 100, 2) := by decide +kernel
theorem dX12_go_312 : decode cX12_go 312 = .ok (.if_icmp .ge 30, 3) := by decide +kernel
theorem dX12_go_315 : decode cX12_go 315 = .ok (.aload_n 0, 1) := by decide +kernel
theorem dX12_go_316 : decode cX12_go 316 = .ok (.getfield 168, 3) := by decide +kernel
theorem dX12_go_319 : decode cX12_go 319 = .ok (.bipush 100, 2) := by decide +kernel
theorem dX12_go_321 : decode cX12_go 321 = .ok (.iload 5, 2) := by decide +kernel
theorem dX12_go_323 : decode cX12_go 323 = .ok (.imul, 1) := by decide +kernel
theorem dX12_go_324 : decode cX12_go 324 = .ok (.aload_n 0, 1) := by decide +kernel
theorem dX12_go_325 : decode cX12_go 325 = .ok (.getfield 129, 3) := by decide +kernel
theorem dX12_go_328 : decode cX12_go 328 = .ok (.iadd, 1) := by decide +kernel
theorem dX12_go_329 : decode cX12_go 329 = .ok (.aload_n 0, 1) := by decide +kernel
theorem dX12_go_330 : decode cX12_go 330 = .ok (.iload 5, 2) := by decide +kernel
theorem dX12_go_332 : decode cX12_go 332 = .ok (.invokevirtual 288, 3) := by decide +kernel
theorem dX12_go_335 : decode cX12_go 335 = .ok (.iastore, 1) := by decide +kernel
theorem dX12_go_336 : decode cX12_go 336 = .ok (.iinc 5 1, 3) := by decide +kernel
theorem dX12_go_339 : decode cX12_go 339 = .ok (.goto (-39), 3) := by decide +kernel
theorem dX12_go_342 : decode cX12_go 342 = .ok (.aload_n 0, 1) := by decide +kernel
theorem dX12_go_343 : decode cX12_go 343 = .ok (.dup, 1) := by decide +kernel
theorem dX12_go_344 : decode cX12_go 344 = .ok (.getfield 129, 3) := by decide +kernel
theorem dX12_go_347 : decode cX12_go 347 = .ok (.iconst 1, 1) := by decide +kernel
theorem dX12_go_348 : decode cX12_go 348 = .ok (.iadd, 1) := by decide +kernel
theorem dX12_go_349 : decode cX12_go 349 = .ok (.putfield 129, 3) := by decide +kernel
theorem dX12_go_352 : decode cX12_go 352 = .ok (.goto (-241), 3) := by decide +kernel
theorem dX12_go_355 : decode cX12_go 355 = .ok (.return_, 1) := by decide +kernel
theorem dX12_goPlainly_0 : decode cX12_goPlainly 0 = .ok (.aload_n 0, 1) := by decide +kernel
theorem dX12_goPlainly_1 : decode cX12_goPlainly 1 = .ok (.iload_n 1, 1) := by decide +kernel
theorem dX12_goPlainly_2 : decode cX12_goPlainly 2 = .ok (.aload_n 0, 1) := by decide +kernel
theorem dX12_goPlainly_3 : decode cX12_goPlainly 3 = .ok (.iconst 0, 1) := by decide +kernel
theorem dX12_goPlainly_4 : decode cX12_goPlainly 4 = .ok (.invokevirtual 312, 3) := by decide +kernel
theorem dX12_goPlainly_7 : decode cX12_goPlainly 7 = .ok (.iconst 0, 1) := by decide +kernel
theorem dX12_goPlainly_8 : decode cX12_goPlainly 8 = .ok (.iconst 0, 1) := by decide +kernel
theorem dX12_goPlainly_9 : decode cX12_goPlainly 9 = .ok (.invokevirtual 325, 3) := by decide +kernel
theorem dX12_goPlainly_12 : decode cX12_goPlainly 12 = .ok (.return_, 1) := by decide +kernel
theorem dX12_lost_0 : decode cX12_lost 0 = .ok (.iconst 0, 1) := by decide +kernel
theorem dX12_lost_1 : decode cX12_lost 1 = .ok (.istore_n 1, 1) := by decide +kernel
theorem dX12_lost_2 : decode cX12_lost 2 = .ok (.iconst 0, 1) := by decide +kernel
theorem dX12_lost_3 : decode cX12_lost 3 = .ok (.istore_n 2, 1) := by decide +kernel
theorem dX12_lost_4 : decode cX12_lost 4 = .ok (.iload_n 2, 1) := by decide +kernel
theorem dX12_lost_5 : decode cX12_lost 5 = .ok (.aload_n 0, 1) := by decide +kernel
theorem dX12_lost_6 : decode cX12_lost 6 = .ok (.getfield 108, 3) := by decide +kernel
theorem dX12_lost_9 : decode cX12_lost 9 = .ok (.if_icmp .ge 40, 3) := by decide +kernel
theorem dX12_lost_12 : decode cX12_lost 12 = .ok (.iload_n 1, 1) := by decide +kernel
theorem dX12_lost_13 : decode cX12_lost 13 = .ok (.aload_n 0, 1) := by decide +kernel
theorem dX12_lost_14 : decode cX12_lost 14 = .ok (.getfield 16, 3) := by decide +kernel
theorem dX12_lost_17 : decode cX12_lost 17 = .ok (.aload_n 0, 1) := by decide +kernel
theorem dX12_lost_18 : decode cX12_lost 18 = .ok (.getfield 135, 3) := by decide +kernel
theorem dX12_lost_21 : decode cX12_lost 21 = .ok (.aload_n 0, 1) := by decide +kernel
theorem dX12_lost_22 : decode cX12_lost 22 = .ok (.getfield 162, 3) := by decide +kernel
theorem dX12_lost_25 : decode cX12_lost 25 = .ok (.iload_n 2, 1) := by decide +kernel
theorem dX12_lost_26 : decode cX12_lost 26 = .ok (.iaload, 1) := by decide +kernel
theorem dX12_lost_27 : decode cX12_lost 27 = .ok (.iaload, 1) := by decide +kernel
theorem dX12_lost_28 : decode cX12_lost 28 = .ok (.iaload, 1) := by decide +kernel
theorem dX12_lost_29 : decode cX12_lost 29 = .ok (.aload_n 0, 1) := by decide +kernel
theorem dX12_lost_30 : decode cX12_lost 30 = .ok (.getfield 147, 3) := by decide +kernel
theorem dX12_lost_33 : decode cX12_lost 33 = .ok (.aload_n 0, 1) := by decide +kernel
theorem dX12_lost_34 : decode cX12_lost 34 = .ok (.getfield 162, 3) := by decide +kernel
theorem dX12_lost_37 : decode cX12_lost 37 = .ok (.iload_n 2, 1) := by decide +kernel
theorem dX12_lost_38 : decode cX12_lost 38 = .ok (.iaload, 1) := by decide +kernel
theorem dX12_lost_39 : decode cX12_lost 39 = .ok (.iaload, 1) := by decide +kernel
theorem dX12_lost_40 : decode cX12_lost 40 = .ok (.imul, 1) := by decide +kernel
theorem dX12_lost_41 : decode cX12_lost 41 = .ok (.iadd, 1) := by decide +kernel
theorem dX12_lost_42 : decode cX12_lost 42 = .ok (.istore_n 1, 1) := by decide +kernel
theorem dX12_lost_43 : decode cX12_lost 43 = .ok (.iinc 2 1, 3) := by decide +kernel
theorem dX12_lost_46 : decode cX12_lost 46 = .ok (.goto (-42), 3) := by decide +kernel
theorem dX12_lost_49 : decode cX12_lost 49 = .ok (.iload_n 1, 1) := by decide +kernel
theorem dX12_lost_50 : decode cX12_lost 50 = .ok (.ireturn, 1) := by decide +kernel
theorem dX12_pence_0 : decode cX12_pence 0 = .ok (.iconst 0, 1) := by decide +kernel
theorem dX12_pence_1 : decode cX12_pence 1 = .ok (.istore_n 1, 1) := by decide +kernel
theorem dX12_pence_2 : decode cX12_pence 2 = .ok (.iconst 0, 1) := by decide +kernel
theorem dX12_pence_3 : decode cX12_pence 3 = .ok (.istore_n 2, 1) := by decide +kernel
theorem dX12_pence_4 : decode cX12_pence 4 = .ok (.iload_n 2, 1) := by decide +kernel
theorem dX12_pence_5 : decode cX12_pence 5 = .ok (.aload_n 0, 1) := by decide +kernel
theorem dX12_pence_6 : decode cX12_pence 6 = .ok (.getfield 105, 3) := by decide +kernel
theorem dX12_pence_9 : decode cX12_pence 9 = .ok (.if_icmp .ge 18, 3) := by decide +kernel
theorem dX12_pence_12 : decode cX12_pence 12 = .ok (.iload_n 1, 1) := by decide +kernel
theorem dX12_pence_13 : decode cX12_pence 13 = .ok (.aload_n 0, 1) := by decide +kernel
theorem dX12_pence_14 : decode cX12_pence 14 = .ok (.getfield 144, 3) := by decide +kernel
theorem dX12_pence_17 : decode cX12_pence 17 = .ok (.iload_n 2, 1) := by decide +kernel
theorem dX12_pence_18 : decode cX12_pence 18 = .ok (.iaload, 1) := by decide +kernel
theorem dX12_pence_19 : decode cX12_pence 19 = .ok (.iadd, 1) := by decide +kernel
theorem dX12_pence_20 : decode cX12_pence 20 = .ok (.istore_n 1, 1) := by decide +kernel
theorem dX12_pence_21 : decode cX12_pence 21 = .ok (.iinc 2 1, 3) := by decide +kernel
theorem dX12_pence_24 : decode cX12_pence 24 = .ok (.goto (-20), 3) := by decide +kernel
theorem dX12_pence_27 : decode cX12_pence 27 = .ok (.iload_n 1, 1) := by decide +kernel
theorem dX12_pence_28 : decode cX12_pence 28 = .ok (.ireturn, 1) := by decide +kernel
theorem dX12_inLine_0 : decode cX12_inLine 0 = .ok (.iconst 0, 1) := by decide +kernel
theorem dX12_inLine_1 : decode cX12_inLine 1 = .ok (.istore_n 2, 1) := by decide +kernel
theorem dX12_inLine_2 : decode cX12_inLine 2 = .ok (.iconst 0, 1) := by decide +kernel
theorem dX12_inLine_3 : decode cX12_inLine 3 = .ok (.istore_n 3, 1) := by decide +kernel
theorem dX12_inLine_4 : decode cX12_inLine 4 = .ok (.iload_n 3, 1) := by decide +kernel
theorem dX12_inLine_5 : decode cX12_inLine 5 = .ok (.aload_n 0, 1) := by decide +kernel
theorem dX12_inLine_6 : decode cX12_inLine 6 = .ok (.getfield 105, 3) := by decide +kernel
theorem dX12_inLine_9 : decode cX12_inLine 9 = .ok (.if_icmp .ge 27, 3) := by decide +kernel
theorem dX12_inLine_12 : decode cX12_inLine 12 = .ok (.iload_n 2, 1) := by decide +kernel
theorem dX12_inLine_13 : decode cX12_inLine 13 = .ok (.aload_n 0, 1) := by decide +kernel
theorem dX12_inLine_14 : decode cX12_inLine 14 = .ok (.getfield 141, 3) := by decide +kernel
theorem dX12_inLine_17 : decode cX12_inLine 17 = .ok (.iload_n 3, 1) := by decide +kernel
theorem dX12_inLine_18 : decode cX12_inLine 18 = .ok (.iaload, 1) := by decide +kernel
theorem dX12_inLine_19 : decode cX12_inLine 19 = .ok (.iload_n 1, 1) := by decide +kernel
theorem dX12_inLine_20 : decode cX12_inLine 20 = .ok (.if_icmp .ne 7, 3) := by decide +kernel
theorem dX12_inLine_23 : decode cX12_inLine 23 = .ok (.iconst 1, 1) := by decide +kernel
theorem dX12_inLine_24 : decode cX12_inLine 24 = .ok (.goto 4, 3) := by decide +kernel
theorem dX12_inLine_27 : decode cX12_inLine 27 = .ok (.iconst 0, 1) := by decide +kernel
theorem dX12_inLine_28 : decode cX12_inLine 28 = .ok (.iadd, 1) := by decide +kernel
theorem dX12_inLine_29 : decode cX12_inLine 29 = .ok (.istore_n 2, 1) := by decide +kernel
theorem dX12_inLine_30 : decode cX12_inLine 30 = .ok (.iinc 3 1, 3) := by decide +kernel
theorem dX12_inLine_33 : decode cX12_inLine 33 = .ok (.goto (-29), 3) := by decide +kernel
theorem dX12_inLine_36 : decode cX12_inLine 36 = .ok (.iload_n 2, 1) := by decide +kernel
theorem dX12_inLine_37 : decode cX12_inLine 37 = .ok (.ireturn, 1) := by decide +kernel
theorem dX12_comer_0 : decode cX12_comer 0 = .ok (.aload_n 0, 1) := by decide +kernel
theorem dX12_comer_1 : decode cX12_comer 1 = .ok (.iload_n 1, 1) := by decide +kernel
theorem dX12_comer_2 : decode cX12_comer 2 = .ok (.invokevirtual 294, 3) := by decide +kernel
theorem dX12_comer_5 : decode cX12_comer 5 = .ok (.ifCond .eq 13, 3) := by decide +kernel
theorem dX12_comer_8 : decode cX12_comer 8 = .ok (.aload_n 0, 1) := by decide +kernel
theorem dX12_comer_9 : decode cX12_comer 9 = .ok (.iload_n 3, 1) := by decide +kernel
theorem dX12_comer_10 : decode cX12_comer 10 = .ok (.iconst 0, 1) := by decide +kernel
theorem dX12_comer_11 : decode cX12_comer 11 = .ok (.iconst 5, 1) := by decide +kernel
theorem dX12_comer_12 : decode cX12_comer 12 = .ok (.invokevirtual 215, 3) := by decide +kernel
theorem dX12_comer_15 : decode cX12_comer 15 = .ok (.ifCond .ne 7, 3) := by decide +kernel
theorem dX12_comer_18 : decode cX12_comer 18 = .ok (.sipush (-1001), 3) := by decide +kernel
theorem dX12_comer_21 : decode cX12_comer 21 = .ok (.ireturn, 1) := by decide +kernel
theorem dX12_comer_22 : decode cX12_comer 22 = .ok (.aload_n 0, 1) := by decide +kernel
theorem dX12_comer_23 : decode cX12_comer 23 = .ok (.iload_n 1, 1) := by decide +kernel
theorem dX12_comer_24 : decode cX12_comer 24 = .ok (.invokevirtual 329, 3) := by decide +kernel
theorem dX12_comer_27 : decode cX12_comer 27 = .ok (.aload_n 0, 1) := by decide +kernel
theorem dX12_comer_28 : decode cX12_comer 28 = .ok (.iload_n 2, 1) := by decide +kernel
theorem dX12_comer_29 : decode cX12_comer 29 = .ok (.iconst 0, 1) := by decide +kernel
theorem dX12_comer_30 : decode cX12_comer 30 = .ok (.aload_n 0, 1) := by decide +kernel
theorem dX12_comer_31 : decode cX12_comer 31 = .ok (.getfield 105, 3) := by decide +kernel
theorem dX12_comer_34 : decode cX12_comer 34 = .ok (.iconst 1, 1) := by decide +kernel
theorem dX12_comer_35 : decode cX12_comer 35 = .ok (.isub, 1) := by decide +kernel
theorem dX12_comer_36 : decode cX12_comer 36 = .ok (.invokevirtual 215, 3) := by decide +kernel
theorem dX12_comer_39 : decode cX12_comer 39 = .ok (.ifCond .ne 7, 3) := by decide +kernel
theorem dX12_comer_42 : decode cX12_comer 42 = .ok (.sipush (-1001), 3) := by decide +kernel
theorem dX12_comer_45 : decode cX12_comer 45 = .ok (.ireturn, 1) := by decide +kernel
theorem dX12_comer_46 : decode cX12_comer 46 = .ok (.iload_n 3, 1) := by decide +kernel
theorem dX12_comer_47 : decode cX12_comer 47 = .ok (.tableswitch 68 0 4 #[33, 40, 47, 54, 61], 33) := by decide +kernel
theorem dX12_comer_80 : decode cX12_comer 80 = .ok (.aload_n 0, 1) := by decide +kernel
theorem dX12_comer_81 : decode cX12_comer 81 = .ok (.getfield 135, 3) := by decide +kernel
theorem dX12_comer_84 : decode cX12_comer 84 = .ok (.iload_n 2, 1) := by decide +kernel
theorem dX12_comer_85 : decode cX12_comer 85 = .ok (.iaload, 1) := by decide +kernel
theorem dX12_comer_86 : decode cX12_comer 86 = .ok (.ireturn, 1) := by decide +kernel
theorem dX12_comer_87 : decode cX12_comer 87 = .ok (.aload_n 0, 1) := by decide +kernel
theorem dX12_comer_88 : decode cX12_comer 88 = .ok (.getfield 138, 3) := by decide +kernel
theorem dX12_comer_91 : decode cX12_comer 91 = .ok (.iload_n 2, 1) := by decide +kernel
theorem dX12_comer_92 : decode cX12_comer 92 = .ok (.iaload, 1) := by decide +kernel
theorem dX12_comer_93 : decode cX12_comer 93 = .ok (.ireturn, 1) := by decide +kernel
theorem dX12_comer_94 : decode cX12_comer 94 = .ok (.aload_n 0, 1) := by decide +kernel
theorem dX12_comer_95 : decode cX12_comer 95 = .ok (.getfield 141, 3) := by decide +kernel
theorem dX12_comer_98 : decode cX12_comer 98 = .ok (.iload_n 2, 1) := by decide +kernel
theorem dX12_comer_99 : decode cX12_comer 99 = .ok (.iaload, 1) := by decide +kernel
theorem dX12_comer_100 : decode cX12_comer 100 = .ok (.ireturn, 1) := by decide +kernel
theorem dX12_comer_101 : decode cX12_comer 101 = .ok (.aload_n 0, 1) := by decide +kernel
theorem dX12_comer_102 : decode cX12_comer 102 = .ok (.getfield 144, 3) := by decide +kernel
theorem dX12_comer_105 : decode cX12_comer 105 = .ok (.iload_n 2, 1) := by decide +kernel
theorem dX12_comer_106 : decode cX12_comer 106 = .ok (.iaload, 1) := by decide +kernel
theorem dX12_comer_107 : decode cX12_comer 107 = .ok (.ireturn, 1) := by decide +kernel
theorem dX12_comer_108 : decode cX12_comer 108 = .ok (.aload_n 0, 1) := by decide +kernel
theorem dX12_comer_109 : decode cX12_comer 109 = .ok (.getfield 147, 3) := by decide +kernel
theorem dX12_comer_112 : decode cX12_comer 112 = .ok (.iload_n 2, 1) := by decide +kernel
theorem dX12_comer_113 : decode cX12_comer 113 = .ok (.iaload, 1) := by decide +kernel
theorem dX12_comer_114 : decode cX12_comer 114 = .ok (.ireturn, 1) := by decide +kernel
theorem dX12_comer_115 : decode cX12_comer 115 = .ok (.aload_n 0, 1) := by decide +kernel
theorem dX12_comer_116 : decode cX12_comer 116 = .ok (.getfield 150, 3) := by decide +kernel
theorem dX12_comer_119 : decode cX12_comer 119 = .ok (.iload_n 2, 1) := by decide +kernel
theorem dX12_comer_120 : decode cX12_comer 120 = .ok (.iaload, 1) := by decide +kernel
theorem dX12_comer_121 : decode cX12_comer 121 = .ok (.ireturn, 1) := by decide +kernel
theorem dX12_served_0 : decode cX12_served 0 = .ok (.aload_n 0, 1) := by decide +kernel
theorem dX12_served_1 : decode cX12_served 1 = .ok (.iload_n 1, 1) := by decide +kernel
theorem dX12_served_2 : decode cX12_served 2 = .ok (.invokevirtual 294, 3) := by decide +kernel
theorem dX12_served_5 : decode cX12_served 5 = .ok (.ifCond .eq 13, 3) := by decide +kernel
theorem dX12_served_8 : decode cX12_served 8 = .ok (.aload_n 0, 1) := by decide +kernel
theorem dX12_served_9 : decode cX12_served 9 = .ok (.iload_n 3, 1) := by decide +kernel
theorem dX12_served_10 : decode cX12_served 10 = .ok (.iconst 0, 1) := by decide +kernel
theorem dX12_served_11 : decode cX12_served 11 = .ok (.iconst 1, 1) := by decide +kernel
theorem dX12_served_12 : decode cX12_served 12 = .ok (.invokevirtual 215, 3) := by decide +kernel
theorem dX12_served_15 : decode cX12_served 15 = .ok (.ifCond .ne 5, 3) := by decide +kernel
theorem dX12_served_18 : decode cX12_served 18 = .ok (.iconst (-1), 1) := by decide +kernel
theorem dX12_served_19 : decode cX12_served 19 = .ok (.ireturn, 1) := by decide +kernel
theorem dX12_served_20 : decode cX12_served 20 = .ok (.aload_n 0, 1) := by decide +kernel
theorem dX12_served_21 : decode cX12_served 21 = .ok (.iload_n 1, 1) := by decide +kernel
theorem dX12_served_22 : decode cX12_served 22 = .ok (.invokevirtual 329, 3) := by decide +kernel
theorem dX12_served_25 : decode cX12_served 25 = .ok (.aload_n 0, 1) := by decide +kernel
theorem dX12_served_26 : decode cX12_served 26 = .ok (.iload_n 2, 1) := by decide +kernel
theorem dX12_served_27 : decode cX12_served 27 = .ok (.iconst 0, 1) := by decide +kernel
theorem dX12_served_28 : decode cX12_served 28 = .ok (.aload_n 0, 1) := by decide +kernel
theorem dX12_served_29 : decode cX12_served 29 = .ok (.getfield 108, 3) := by decide +kernel
theorem dX12_served_32 : decode cX12_served 32 = .ok (.iconst 1, 1) := by decide +kernel
theorem dX12_served_33 : decode cX12_served 33 = .ok (.isub, 1) := by decide +kernel
theorem dX12_served_34 : decode cX12_served 34 = .ok (.invokevirtual 215, 3) := by decide +kernel
theorem dX12_served_37 : decode cX12_served 37 = .ok (.ifCond .ne 5, 3) := by decide +kernel
theorem dX12_served_40 : decode cX12_served 40 = .ok (.iconst (-1), 1) := by decide +kernel
theorem dX12_served_41 : decode cX12_served 41 = .ok (.ireturn, 1) := by decide +kernel
theorem dX12_served_42 : decode cX12_served 42 = .ok (.iload_n 3, 1) := by decide +kernel
theorem dX12_served_43 : decode cX12_served 43 = .ok (.ifCond .ne 12, 3) := by decide +kernel
theorem dX12_served_46 : decode cX12_served 46 = .ok (.aload_n 0, 1) := by decide +kernel
theorem dX12_served_47 : decode cX12_served 47 = .ok (.getfield 162, 3) := by decide +kernel
theorem dX12_served_50 : decode cX12_served 50 = .ok (.iload_n 2, 1) := by decide +kernel
theorem dX12_served_51 : decode cX12_served 51 = .ok (.iaload, 1) := by decide +kernel
theorem dX12_served_52 : decode cX12_served 52 = .ok (.goto 9, 3) := by decide +kernel
theorem dX12_served_55 : decode cX12_served 55 = .ok (.aload_n 0, 1) := by decide +kernel
theorem dX12_served_56 : decode cX12_served 56 = .ok (.getfield 165, 3) := by decide +kernel
theorem dX12_served_59 : decode cX12_served 59 = .ok (.iload_n 2, 1) := by decide +kernel
theorem dX12_served_60 : decode cX12_served 60 = .ok (.iaload, 1) := by decide +kernel
theorem dX12_served_61 : decode cX12_served 61 = .ok (.ireturn, 1) := by decide +kernel
theorem dX12_all_0 : decode cX12_all 0 = .ok (.aload_n 0, 1) := by decide +kernel
theorem dX12_all_1 : decode cX12_all 1 = .ok (.iload_n 1, 1) := by decide +kernel
theorem dX12_all_2 : decode cX12_all 2 = .ok (.invokevirtual 294, 3) := by decide +kernel
theorem dX12_all_5 : decode cX12_all 5 = .ok (.ifCond .eq 14, 3) := by decide +kernel
theorem dX12_all_8 : decode cX12_all 8 = .ok (.aload_n 0, 1) := by decide +kernel
theorem dX12_all_9 : decode cX12_all 9 = .ok (.iload_n 2, 1) := by decide +kernel
theorem dX12_all_10 : decode cX12_all 10 = .ok (.iconst 0, 1) := by decide +kernel
theorem dX12_all_11 : decode cX12_all 11 = .ok (.bipush 7, 2) := by decide +kernel
theorem dX12_all_13 : decode cX12_all 13 = .ok (.invokevirtual 215, 3) := by decide +kernel
theorem dX12_all_16 : decode cX12_all 16 = .ok (.ifCond .ne 5, 3) := by decide +kernel
theorem dX12_all_19 : decode cX12_all 19 = .ok (.iconst (-1), 1) := by decide +kernel
theorem dX12_all_20 : decode cX12_all 20 = .ok (.ireturn, 1) := by decide +kernel
theorem dX12_all_21 : decode cX12_all 21 = .ok (.aload_n 0, 1) := by decide +kernel
theorem dX12_all_22 : decode cX12_all 22 = .ok (.iload_n 1, 1) := by decide +kernel
theorem dX12_all_23 : decode cX12_all 23 = .ok (.invokevirtual 329, 3) := by decide +kernel
theorem dX12_all_26 : decode cX12_all 26 = .ok (.iload_n 2, 1) := by decide +kernel
theorem dX12_all_27 : decode cX12_all 27 = .ok (.tableswitch 78 0 6 #[41, 46, 51, 57, 63, 68, 73], 41) := by decide +kernel
theorem dX12_all_68 : decode cX12_all 68 = .ok (.aload_n 0, 1) := by decide +kernel
theorem dX12_all_69 : decode cX12_all 69 = .ok (.getfield 105, 3) := by decide +kernel
theorem dX12_all_72 : decode cX12_all 72 = .ok (.ireturn, 1) := by decide +kernel
theorem dX12_all_73 : decode cX12_all 73 = .ok (.aload_n 0, 1) := by decide +kernel
theorem dX12_all_74 : decode cX12_all 74 = .ok (.getfield 108, 3) := by decide +kernel
theorem dX12_all_77 : decode cX12_all 77 = .ok (.ireturn, 1) := by decide +kernel
theorem dX12_all_78 : decode cX12_all 78 = .ok (.aload_n 0, 1) := by decide +kernel
theorem dX12_all_79 : decode cX12_all 79 = .ok (.iconst 0, 1) := by decide +kernel
theorem dX12_all_80 : decode cX12_all 80 = .ok (.invokevirtual 332, 3) := by decide +kernel
theorem dX12_all_83 : decode cX12_all 83 = .ok (.ireturn, 1) := by decide +kernel
theorem dX12_all_84 : decode cX12_all 84 = .ok (.aload_n 0, 1) := by decide +kernel
theorem dX12_all_85 : decode cX12_all 85 = .ok (.iconst 2, 1) := by decide +kernel
theorem dX12_all_86 : decode cX12_all 86 = .ok (.invokevirtual 332, 3) := by decide +kernel
theorem dX12_all_89 : decode cX12_all 89 = .ok (.ireturn, 1) := by decide +kernel
theorem dX12_all_90 : decode cX12_all 90 = .ok (.aload_n 0, 1) := by decide +kernel
theorem dX12_all_91 : decode cX12_all 91 = .ok (.invokevirtual 335, 3) := by decide +kernel
theorem dX12_all_94 : decode cX12_all 94 = .ok (.ireturn, 1) := by decide +kernel
theorem dX12_all_95 : decode cX12_all 95 = .ok (.aload_n 0, 1) := by decide +kernel
theorem dX12_all_96 : decode cX12_all 96 = .ok (.invokevirtual 338, 3) := by decide +kernel
theorem dX12_all_99 : decode cX12_all 99 = .ok (.ireturn, 1) := by decide +kernel
theorem dX12_all_100 : decode cX12_all 100 = .ok (.aload_n 0, 1) := by decide +kernel
theorem dX12_all_101 : decode cX12_all 101 = .ok (.getfield 111, 3) := by decide +kernel
theorem dX12_all_104 : decode cX12_all 104 = .ok (.ireturn, 1) := by decide +kernel
theorem dX12_all_105 : decode cX12_all 105 = .ok (.aload_n 0, 1) := by decide +kernel
theorem dX12_all_106 : decode cX12_all 106 = .ok (.iconst 0, 1) := by decide +kernel
theorem dX12_all_107 : decode cX12_all 107 = .ok (.invokevirtual 332, 3) := by decide +kernel
theorem dX12_all_110 : decode cX12_all 110 = .ok (.ifCond .ne 7, 3) := by decide +kernel
theorem dX12_all_113 : decode cX12_all 113 = .ok (.iconst 0, 1) := by decide +kernel
theorem dX12_all_114 : decode cX12_all 114 = .ok (.goto 13, 3) := by decide +kernel
theorem dX12_all_117 : decode cX12_all 117 = .ok (.aload_n 0, 1) := by decide +kernel
theorem dX12_all_118 : decode cX12_all 118 = .ok (.invokevirtual 338, 3) := by decide +kernel
theorem dX12_all_121 : decode cX12_all 121 = .ok (.aload_n 0, 1) := by decide +kernel
theorem dX12_all_122 : decode cX12_all 122 = .ok (.iconst 0, 1) := by decide +kernel
theorem dX12_all_123 : decode cX12_all 123 = .ok (.invokevirtual 332, 3) := by decide +kernel
theorem dX12_all_126 : decode cX12_all 126 = .ok (.idiv, 1) := by decide +kernel
theorem dX12_all_127 : decode cX12_all 127 = .ok (.ireturn, 1) := by decide +kernel
theorem dX12_stand_0 : decode cX12_stand 0 = .ok (.aload_n 0, 1) := by decide +kernel
theorem dX12_stand_1 : decode cX12_stand 1 = .ok (.iload_n 1, 1) := by decide +kernel
theorem dX12_stand_2 : decode cX12_stand 2 = .ok (.invokevirtual 294, 3) := by decide +kernel
theorem dX12_stand_5 : decode cX12_stand 5 = .ok (.ifCond .eq 13, 3) := by decide +kernel
theorem dX12_stand_8 : decode cX12_stand 8 = .ok (.aload_n 0, 1) := by decide +kernel
theorem dX12_stand_9 : decode cX12_stand 9 = .ok (.iload_n 2, 1) := by decide +kernel
theorem dX12_stand_10 : decode cX12_stand 10 = .ok (.iconst 0, 1) := by decide +kernel
theorem dX12_stand_11 : decode cX12_stand 11 = .ok (.iconst 1, 1) := by decide +kernel
theorem dX12_stand_12 : decode cX12_stand 12 = .ok (.invokevirtual 215, 3) := by decide +kernel
theorem dX12_stand_15 : decode cX12_stand 15 = .ok (.ifCond .ne 5, 3) := by decide +kernel
theorem dX12_stand_18 : decode cX12_stand 18 = .ok (.iconst (-1), 1) := by decide +kernel
theorem dX12_stand_19 : decode cX12_stand 19 = .ok (.ireturn, 1) := by decide +kernel
theorem dX12_stand_20 : decode cX12_stand 20 = .ok (.aload_n 0, 1) := by decide +kernel
theorem dX12_stand_21 : decode cX12_stand 21 = .ok (.iload_n 3, 1) := by decide +kernel
theorem dX12_stand_22 : decode cX12_stand 22 = .ok (.iconst 0, 1) := by decide +kernel
theorem dX12_stand_23 : decode cX12_stand 23 = .ok (.bipush 99, 2) := by decide +kernel
theorem dX12_stand_25 : decode cX12_stand 25 = .ok (.invokevirtual 215, 3) := by decide +kernel
theorem dX12_stand_28 : decode cX12_stand 28 = .ok (.ifCond .ne 6, 3) := by decide +kernel
theorem dX12_stand_31 : decode cX12_stand 31 = .ok (.bipush (-2), 2) := by decide +kernel
theorem dX12_stand_33 : decode cX12_stand 33 = .ok (.ireturn, 1) := by decide +kernel
theorem dX12_stand_34 : decode cX12_stand 34 = .ok (.aload_n 0, 1) := by decide +kernel
theorem dX12_stand_35 : decode cX12_stand 35 = .ok (.iload_n 1, 1) := by decide +kernel
theorem dX12_stand_36 : decode cX12_stand 36 = .ok (.invokevirtual 329, 3) := by decide +kernel
theorem dX12_stand_39 : decode cX12_stand 39 = .ok (.aload_n 0, 1) := by decide +kernel
theorem dX12_stand_40 : decode cX12_stand 40 = .ok (.getfield 168, 3) := by decide +kernel
theorem dX12_stand_43 : decode cX12_stand 43 = .ok (.bipush 100, 2) := by decide +kernel
theorem dX12_stand_45 : decode cX12_stand 45 = .ok (.iload_n 2, 1) := by decide +kernel
theorem dX12_stand_46 : decode cX12_stand 46 = .ok (.imul, 1) := by decide +kernel
theorem dX12_stand_47 : decode cX12_stand 47 = .ok (.iload_n 3, 1) := by decide +kernel
theorem dX12_stand_48 : decode cX12_stand 48 = .ok (.iadd, 1) := by decide +kernel
theorem dX12_stand_49 : decode cX12_stand 49 = .ok (.iaload, 1) := by decide +kernel
theorem dX12_stand_50 : decode cX12_stand 50 = .ok (.ireturn, 1) := by decide +kernel
theorem dX12_price_0 : decode cX12_price 0 = .ok (.aload_n 0, 1) := by decide +kernel
theorem dX12_price_1 : decode cX12_price 1 = .ok (.iload_n 1, 1) := by decide +kernel
theorem dX12_price_2 : decode cX12_price 2 = .ok (.invokevirtual 294, 3) := by decide +kernel
theorem dX12_price_5 : decode cX12_price 5 = .ok (.ifCond .eq 13, 3) := by decide +kernel
theorem dX12_price_8 : decode cX12_price 8 = .ok (.aload_n 0, 1) := by decide +kernel
theorem dX12_price_9 : decode cX12_price 9 = .ok (.iload_n 2, 1) := by decide +kernel
theorem dX12_price_10 : decode cX12_price 10 = .ok (.iconst 0, 1) := by decide +kernel
theorem dX12_price_11 : decode cX12_price 11 = .ok (.iconst 4, 1) := by decide +kernel
theorem dX12_price_12 : decode cX12_price 12 = .ok (.invokevirtual 215, 3) := by decide +kernel
theorem dX12_price_15 : decode cX12_price 15 = .ok (.ifCond .ne 5, 3) := by decide +kernel
theorem dX12_price_18 : decode cX12_price 18 = .ok (.iconst (-1), 1) := by decide +kernel
theorem dX12_price_19 : decode cX12_price 19 = .ok (.ireturn, 1) := by decide +kernel
theorem dX12_price_20 : decode cX12_price 20 = .ok (.iconst 0, 1) := by decide +kernel
theorem dX12_price_21 : decode cX12_price 21 = .ok (.istore_n 3, 1) := by decide +kernel
theorem dX12_price_22 : decode cX12_price 22 = .ok (.iconst (-1), 1) := by decide +kernel
theorem dX12_price_23 : decode cX12_price 23 = .ok (.istore 4, 2) := by decide +kernel
theorem dX12_price_25 : decode cX12_price 25 = .ok (.iconst 0, 1) := by decide +kernel
theorem dX12_price_26 : decode cX12_price 26 = .ok (.istore 5, 2) := by decide +kernel
theorem dX12_price_28 : decode cX12_price 28 = .ok (.iconst (-1), 1) := by decide +kernel
theorem dX12_price_29 : decode cX12_price 29 = .ok (.istore 6, 2) := by decide +kernel
theorem dX12_price_31 : decode cX12_price 31 = .ok (.bipush (-5), 2) := by decide +kernel
theorem dX12_price_33 : decode cX12_price 33 = .ok (.istore 7, 2) := by decide +kernel
theorem dX12_price_35 : decode cX12_price 35 = .ok (.iconst 0, 1) := by decide +kernel
theorem dX12_price_36 : decode cX12_price 36 = .ok (.istore 8, 2) := by decide +kernel
theorem dX12_price_38 : decode cX12_price 38 = .ok (.iload 8, 2) := by decide +kernel
theorem dX12_price_40 : decode cX12_price 40 = .ok (.bipush 21, 2) := by decide +kernel
theorem dX12_price_42 : decode cX12_price 42 = .ok (.if_icmp .ge 88, 3) := by decide +kernel
theorem dX12_price_45 : decode cX12_price 45 = .ok (.aload_n 0, 1) := by decide +kernel
theorem dX12_price_46 : decode cX12_price 46 = .ok (.iload_n 1, 1) := by decide +kernel
theorem dX12_price_47 : decode cX12_price 47 = .ok (.iload 8, 2) := by decide +kernel
theorem dX12_price_49 : decode cX12_price 49 = .ok (.iconst 0, 1) := by decide +kernel
theorem dX12_price_50 : decode cX12_price 50 = .ok (.iconst 0, 1) := by decide +kernel
theorem dX12_price_51 : decode cX12_price 51 = .ok (.invokevirtual 325, 3) := by decide +kernel
theorem dX12_price_54 : decode cX12_price 54 = .ok (.aload_n 0, 1) := by decide +kernel
theorem dX12_price_55 : decode cX12_price 55 = .ok (.invokevirtual 335, 3) := by decide +kernel
theorem dX12_price_58 : decode cX12_price 58 = .ok (.istore 9, 2) := by decide +kernel
theorem dX12_price_60 : decode cX12_price 60 = .ok (.aload_n 0, 1) := by decide +kernel
theorem dX12_price_61 : decode cX12_price 61 = .ok (.invokevirtual 338, 3) := by decide +kernel
theorem dX12_price_64 : decode cX12_price 64 = .ok (.istore 10, 2) := by decide +kernel
theorem dX12_price_66 : decode cX12_price 66 = .ok (.iload 4, 2) := by decide +kernel
theorem dX12_price_68 : decode cX12_price 68 = .ok (.ifCond .lt 10, 3) := by decide +kernel
theorem dX12_price_71 : decode cX12_price 71 = .ok (.iload 9, 2) := by decide +kernel
theorem dX12_price_73 : decode cX12_price 73 = .ok (.iload 4, 2) := by decide +kernel
theorem dX12_price_75 : decode cX12_price 75 = .ok (.if_icmp .ge 10, 3) := by decide +kernel
theorem dX12_price_78 : decode cX12_price 78 = .ok (.iload 9, 2) := by decide +kernel
theorem dX12_price_80 : decode cX12_price 80 = .ok (.istore 4, 2) := by decide +kernel
theorem dX12_price_82 : decode cX12_price 82 = .ok (.iload 8, 2) := by decide +kernel
theorem dX12_price_84 : decode cX12_price 84 = .ok (.istore_n 3, 1) := by decide +kernel
theorem dX12_price_85 : decode cX12_price 85 = .ok (.iload 10, 2) := by decide +kernel
theorem dX12_price_87 : decode cX12_price 87 = .ok (.iload 6, 2) := by decide +kernel
theorem dX12_price_89 : decode cX12_price 89 = .ok (.if_icmp .le 11, 3) := by decide +kernel
theorem dX12_price_92 : decode cX12_price 92 = .ok (.iload 10, 2) := by decide +kernel
theorem dX12_price_94 : decode cX12_price 94 = .ok (.istore 6, 2) := by decide +kernel
theorem dX12_price_96 : decode cX12_price 96 = .ok (.iload 8, 2) := by decide +kernel
theorem dX12_price_98 : decode cX12_price 98 = .ok (.istore 5, 2) := by decide +kernel
theorem dX12_price_100 : decode cX12_price 100 = .ok (.iload 8, 2) := by decide +kernel
theorem dX12_price_102 : decode cX12_price 102 = .ok (.ifCond .le 18, 3) := by decide +kernel
theorem dX12_price_105 : decode cX12_price 105 = .ok (.iload 10, 2) := by decide +kernel
theorem dX12_price_107 : decode cX12_price 107 = .ok (.ifCond .ne 13, 3) := by decide +kernel
theorem dX12_price_110 : decode cX12_price 110 = .ok (.iload 7, 2) := by decide +kernel
theorem dX12_price_112 : decode cX12_price 112 = .ok (.ifCond .ge 8, 3) := by decide +kernel
theorem dX12_price_115 : decode cX12_price 115 = .ok (.iload 8, 2) := by decide +kernel
theorem dX12_price_117 : decode cX12_price 117 = .ok (.goto 5, 3) := by decide +kernel
theorem dX12_price_120 : decode cX12_price 120 = .ok (.iload 7, 2) := by decide +kernel
theorem dX12_price_122 : decode cX12_price 122 = .ok (.istore 7, 2) := by decide +kernel
theorem dX12_price_124 : decode cX12_price 124 = .ok (.iinc 8 1, 3) := by decide +kernel
theorem dX12_price_127 : decode cX12_price 127 = .ok (.goto (-89), 3) := by decide +kernel
theorem dX12_price_130 : decode cX12_price 130 = .ok (.iload_n 2, 1) := by decide +kernel
theorem dX12_price_131 : decode cX12_price 131 = .ok (.tableswitch 40 0 3 #[29, 31, 34, 37], 29) := by decide +kernel
theorem dX12_price_160 : decode cX12_price 160 = .ok (.iload_n 3, 1) := by decide +kernel
theorem dX12_price_161 : decode cX12_price 161 = .ok (.ireturn, 1) := by decide +kernel
theorem dX12_price_162 : decode cX12_price 162 = .ok (.iload 5, 2) := by decide +kernel
theorem dX12_price_164 : decode cX12_price 164 = .ok (.ireturn, 1) := by decide +kernel
theorem dX12_price_165 : decode cX12_price 165 = .ok (.iload 7, 2) := by decide +kernel
theorem dX12_price_167 : decode cX12_price 167 = .ok (.ireturn, 1) := by decide +kernel
theorem dX12_price_168 : decode cX12_price 168 = .ok (.iload 4, 2) := by decide +kernel
theorem dX12_price_170 : decode cX12_price 170 = .ok (.ireturn, 1) := by decide +kernel
theorem dX12_price_171 : decode cX12_price 171 = .ok (.iload 6, 2) := by decide +kernel
theorem dX12_price_173 : decode cX12_price 173 = .ok (.ireturn, 1) := by decide +kernel
theorem dX12_lossOf_0 : decode cX12_lossOf 0 = .ok (.iconst 0, 1) := by decide +kernel
theorem dX12_lossOf_1 : decode cX12_lossOf 1 = .ok (.istore_n 2, 1) := by decide +kernel
theorem dX12_lossOf_2 : decode cX12_lossOf 2 = .ok (.iconst 0, 1) := by decide +kernel
theorem dX12_lossOf_3 : decode cX12_lossOf 3 = .ok (.istore_n 3, 1) := by decide +kernel
theorem dX12_lossOf_4 : decode cX12_lossOf 4 = .ok (.iload_n 3, 1) := by decide +kernel
theorem dX12_lossOf_5 : decode cX12_lossOf 5 = .ok (.aload_n 0, 1) := by decide +kernel
theorem dX12_lossOf_6 : decode cX12_lossOf 6 = .ok (.getfield 105, 3) := by decide +kernel
theorem dX12_lossOf_9 : decode cX12_lossOf 9 = .ok (.if_icmp .ge 61, 3) := by decide +kernel
theorem dX12_lossOf_12 : decode cX12_lossOf 12 = .ok (.aload_n 0, 1) := by decide +kernel
theorem dX12_lossOf_13 : decode cX12_lossOf 13 = .ok (.getfield 135, 3) := by decide +kernel
theorem dX12_lossOf_16 : decode cX12_lossOf 16 = .ok (.iload_n 3, 1) := by decide +kernel
theorem dX12_lossOf_17 : decode cX12_lossOf 17 = .ok (.iaload, 1) := by decide +kernel
theorem dX12_lossOf_18 : decode cX12_lossOf 18 = .ok (.iload_n 1, 1) := by decide +kernel
theorem dX12_lossOf_19 : decode cX12_lossOf 19 = .ok (.if_icmp .ne 45, 3) := by decide +kernel
theorem dX12_lossOf_22 : decode cX12_lossOf 22 = .ok (.iload_n 2, 1) := by decide +kernel
theorem dX12_lossOf_23 : decode cX12_lossOf 23 = .ok (.aload_n 0, 1) := by decide +kernel
theorem dX12_lossOf_24 : decode cX12_lossOf 24 = .ok (.getfield 141, 3) := by decide +kernel
theorem dX12_lossOf_27 : decode cX12_lossOf 27 = .ok (.iload_n 3, 1) := by decide +kernel
theorem dX12_lossOf_28 : decode cX12_lossOf 28 = .ok (.iaload, 1) := by decide +kernel
theorem dX12_lossOf_29 : decode cX12_lossOf 29 = .ok (.iconst 2, 1) := by decide +kernel
theorem dX12_lossOf_30 : decode cX12_lossOf 30 = .ok (.if_icmp .ne 12, 3) := by decide +kernel
theorem dX12_lossOf_33 : decode cX12_lossOf 33 = .ok (.aload_n 0, 1) := by decide +kernel
theorem dX12_lossOf_34 : decode cX12_lossOf 34 = .ok (.getfield 20, 3) := by decide +kernel
theorem dX12_lossOf_37 : decode cX12_lossOf 37 = .ok (.iload_n 1, 1) := by decide +kernel
theorem dX12_lossOf_38 : decode cX12_lossOf 38 = .ok (.iaload, 1) := by decide +kernel
theorem dX12_lossOf_39 : decode cX12_lossOf 39 = .ok (.goto 23, 3) := by decide +kernel
theorem dX12_lossOf_42 : decode cX12_lossOf 42 = .ok (.aload_n 0, 1) := by decide +kernel
theorem dX12_lossOf_43 : decode cX12_lossOf 43 = .ok (.getfield 16, 3) := by decide +kernel
theorem dX12_lossOf_46 : decode cX12_lossOf 46 = .ok (.iload_n 1, 1) := by decide +kernel
theorem dX12_lossOf_47 : decode cX12_lossOf 47 = .ok (.iaload, 1) := by decide +kernel
theorem dX12_lossOf_48 : decode cX12_lossOf 48 = .ok (.aload_n 0, 1) := by decide +kernel
theorem dX12_lossOf_49 : decode cX12_lossOf 49 = .ok (.getfield 147, 3) := by decide +kernel
theorem dX12_lossOf_52 : decode cX12_lossOf 52 = .ok (.iload_n 3, 1) := by decide +kernel
theorem dX12_lossOf_53 : decode cX12_lossOf 53 = .ok (.iaload, 1) := by decide +kernel
theorem dX12_lossOf_54 : decode cX12_lossOf 54 = .ok (.imul, 1) := by decide +kernel
theorem dX12_lossOf_55 : decode cX12_lossOf 55 = .ok (.aload_n 0, 1) := by decide +kernel
theorem dX12_lossOf_56 : decode cX12_lossOf 56 = .ok (.getfield 144, 3) := by decide +kernel
theorem dX12_lossOf_59 : decode cX12_lossOf 59 = .ok (.iload_n 3, 1) := by decide +kernel
theorem dX12_lossOf_60 : decode cX12_lossOf 60 = .ok (.iaload, 1) := by decide +kernel
theorem dX12_lossOf_61 : decode cX12_lossOf 61 = .ok (.iadd, 1) := by decide +kernel
theorem dX12_lossOf_62 : decode cX12_lossOf 62 = .ok (.iadd, 1) := by decide +kernel
theorem dX12_lossOf_63 : decode cX12_lossOf 63 = .ok (.istore_n 2, 1) := by decide +kernel
theorem dX12_lossOf_64 : decode cX12_lossOf 64 = .ok (.iinc 3 1, 3) := by decide +kernel
theorem dX12_lossOf_67 : decode cX12_lossOf 67 = .ok (.goto (-63), 3) := by decide +kernel
theorem dX12_lossOf_70 : decode cX12_lossOf 70 = .ok (.iload_n 2, 1) := by decide +kernel
theorem dX12_lossOf_71 : decode cX12_lossOf 71 = .ok (.ireturn, 1) := by decide +kernel
theorem dX12_worse_0 : decode cX12_worse 0 = .ok (.aload_n 0, 1) := by decide +kernel
theorem dX12_worse_1 : decode cX12_worse 1 = .ok (.iload_n 1, 1) := by decide +kernel
theorem dX12_worse_2 : decode cX12_worse 2 = .ok (.invokevirtual 294, 3) := by decide +kernel
theorem dX12_worse_5 : decode cX12_worse 5 = .ok (.ifCond .ne 5, 3) := by decide +kernel
theorem dX12_worse_8 : decode cX12_worse 8 = .ok (.iconst (-1), 1) := by decide +kernel
theorem dX12_worse_9 : decode cX12_worse 9 = .ok (.ireturn, 1) := by decide +kernel
theorem dX12_worse_10 : decode cX12_worse 10 = .ok (.aload_n 0, 1) := by decide +kernel
theorem dX12_worse_11 : decode cX12_worse 11 = .ok (.iload_n 1, 1) := by decide +kernel
theorem dX12_worse_12 : decode cX12_worse 12 = .ok (.invokevirtual 329, 3) := by decide +kernel
theorem dX12_worse_15 : decode cX12_worse 15 = .ok (.iconst 0, 1) := by decide +kernel
theorem dX12_worse_16 : decode cX12_worse 16 = .ok (.istore_n 2, 1) := by decide +kernel
theorem dX12_worse_17 : decode cX12_worse 17 = .ok (.iload_n 2, 1) := by decide +kernel
theorem dX12_worse_18 : decode cX12_worse 18 = .ok (.aload_n 0, 1) := by decide +kernel
theorem dX12_worse_19 : decode cX12_worse 19 = .ok (.getfield 7, 3) := by decide +kernel
theorem dX12_worse_22 : decode cX12_worse 22 = .ok (.if_icmp .ge 20, 3) := by decide +kernel
theorem dX12_worse_25 : decode cX12_worse 25 = .ok (.aload_n 0, 1) := by decide +kernel
theorem dX12_worse_26 : decode cX12_worse 26 = .ok (.getfield 171, 3) := by decide +kernel
theorem dX12_worse_29 : decode cX12_worse 29 = .ok (.iload_n 2, 1) := by decide +kernel
theorem dX12_worse_30 : decode cX12_worse 30 = .ok (.aload_n 0, 1) := by decide +kernel
theorem dX12_worse_31 : decode cX12_worse 31 = .ok (.iload_n 2, 1) := by decide +kernel
theorem dX12_worse_32 : decode cX12_worse 32 = .ok (.invokevirtual 341, 3) := by decide +kernel
theorem dX12_worse_35 : decode cX12_worse 35 = .ok (.iastore, 1) := by decide +kernel
theorem dX12_worse_36 : decode cX12_worse 36 = .ok (.iinc 2 1, 3) := by decide +kernel
theorem dX12_worse_39 : decode cX12_worse 39 = .ok (.goto (-22), 3) := by decide +kernel
theorem dX12_worse_42 : decode cX12_worse 42 = .ok (.aload_n 0, 1) := by decide +kernel
theorem dX12_worse_43 : decode cX12_worse 43 = .ok (.bipush 10, 2) := by decide +kernel
theorem dX12_worse_45 : decode cX12_worse 45 = .ok (.iconst 0, 1) := by decide +kernel
theorem dX12_worse_46 : decode cX12_worse 46 = .ok (.iconst 0, 1) := by decide +kernel
theorem dX12_worse_47 : decode cX12_worse 47 = .ok (.iconst 0, 1) := by decide +kernel
theorem dX12_worse_48 : decode cX12_worse 48 = .ok (.invokevirtual 325, 3) := by decide +kernel
theorem dX12_worse_51 : decode cX12_worse 51 = .ok (.iconst 0, 1) := by decide +kernel
theorem dX12_worse_52 : decode cX12_worse 52 = .ok (.istore_n 2, 1) := by decide +kernel
theorem dX12_worse_53 : decode cX12_worse 53 = .ok (.iconst 0, 1) := by decide +kernel
theorem dX12_worse_54 : decode cX12_worse 54 = .ok (.istore_n 3, 1) := by decide +kernel
theorem dX12_worse_55 : decode cX12_worse 55 = .ok (.iload_n 3, 1) := by decide +kernel
theorem dX12_worse_56 : decode cX12_worse 56 = .ok (.aload_n 0, 1) := by decide +kernel
theorem dX12_worse_57 : decode cX12_worse 57 = .ok (.getfield 7, 3) := by decide +kernel
theorem dX12_worse_60 : decode cX12_worse 60 = .ok (.if_icmp .ge 33, 3) := by decide +kernel
theorem dX12_worse_63 : decode cX12_worse 63 = .ok (.iload_n 2, 1) := by decide +kernel
theorem dX12_worse_64 : decode cX12_worse 64 = .ok (.aload_n 0, 1) := by decide +kernel
theorem dX12_worse_65 : decode cX12_worse 65 = .ok (.getfield 171, 3) := by decide +kernel
theorem dX12_worse_68 : decode cX12_worse 68 = .ok (.iload_n 3, 1) := by decide +kernel
theorem dX12_worse_69 : decode cX12_worse 69 = .ok (.iaload, 1) := by decide +kernel
theorem dX12_worse_70 : decode cX12_worse 70 = .ok (.aload_n 0, 1) := by decide +kernel
theorem dX12_worse_71 : decode cX12_worse 71 = .ok (.iload_n 3, 1) := by decide +kernel
theorem dX12_worse_72 : decode cX12_worse 72 = .ok (.invokevirtual 341, 3) := by decide +kernel
theorem dX12_worse_75 : decode cX12_worse 75 = .ok (.if_icmp .le 9, 3) := by decide +kernel
theorem dX12_worse_78 : decode cX12_worse 78 = .ok (.iconst 1, 1) := by decide +kernel
theorem dX12_worse_79 : decode cX12_worse 79 = .ok (.iload_n 3, 1) := by decide +kernel
theorem dX12_worse_80 : decode cX12_worse 80 = .ok (.ishl, 1) := by decide +kernel
theorem dX12_worse_81 : decode cX12_worse 81 = .ok (.goto 4, 3) := by decide +kernel
theorem dX12_worse_84 : decode cX12_worse 84 = .ok (.iconst 0, 1) := by decide +kernel
theorem dX12_worse_85 : decode cX12_worse 85 = .ok (.ior, 1) := by decide +kernel
theorem dX12_worse_86 : decode cX12_worse 86 = .ok (.istore_n 2, 1) := by decide +kernel
theorem dX12_worse_87 : decode cX12_worse 87 = .ok (.iinc 3 1, 3) := by decide +kernel
theorem dX12_worse_90 : decode cX12_worse 90 = .ok (.goto (-35), 3) := by decide +kernel
theorem dX12_worse_93 : decode cX12_worse 93 = .ok (.iload_n 2, 1) := by decide +kernel
theorem dX12_worse_94 : decode cX12_worse 94 = .ok (.ireturn, 1) := by decide +kernel
theorem dX12_loss_0 : decode cX12_loss 0 = .ok (.aload_n 0, 1) := by decide +kernel
theorem dX12_loss_1 : decode cX12_loss 1 = .ok (.iload_n 1, 1) := by decide +kernel
theorem dX12_loss_2 : decode cX12_loss 2 = .ok (.invokevirtual 294, 3) := by decide +kernel
theorem dX12_loss_5 : decode cX12_loss 5 = .ok (.ifCond .eq 11, 3) := by decide +kernel
theorem dX12_loss_8 : decode cX12_loss 8 = .ok (.aload_n 0, 1) := by decide +kernel
theorem dX12_loss_9 : decode cX12_loss 9 = .ok (.iload_n 2, 1) := by decide +kernel
theorem dX12_loss_10 : decode cX12_loss 10 = .ok (.invokevirtual 219, 3) := by decide +kernel
theorem dX12_loss_13 : decode cX12_loss 13 = .ok (.ifCond .ne 5, 3) := by decide +kernel
theorem dX12_loss_16 : decode cX12_loss 16 = .ok (.iconst (-1), 1) := by decide +kernel
theorem dX12_loss_17 : decode cX12_loss 17 = .ok (.ireturn, 1) := by decide +kernel
theorem dX12_loss_18 : decode cX12_loss 18 = .ok (.aload_n 0, 1) := by decide +kernel
theorem dX12_loss_19 : decode cX12_loss 19 = .ok (.iload_n 1, 1) := by decide +kernel
theorem dX12_loss_20 : decode cX12_loss 20 = .ok (.invokevirtual 329, 3) := by decide +kernel
theorem dX12_loss_23 : decode cX12_loss 23 = .ok (.aload_n 0, 1) := by decide +kernel
theorem dX12_loss_24 : decode cX12_loss 24 = .ok (.iload_n 2, 1) := by decide +kernel
theorem dX12_loss_25 : decode cX12_loss 25 = .ok (.invokevirtual 341, 3) := by decide +kernel
theorem dX12_loss_28 : decode cX12_loss 28 = .ok (.ireturn, 1) := by decide +kernel
theorem dX12_slow_0 : decode cX12_slow 0 = .ok (.aload_n 0, 1) := by decide +kernel
theorem dX12_slow_1 : decode cX12_slow 1 = .ok (.iload_n 1, 1) := by decide +kernel
theorem dX12_slow_2 : decode cX12_slow 2 = .ok (.invokevirtual 294, 3) := by decide +kernel
theorem dX12_slow_5 : decode cX12_slow 5 = .ok (.ifCond .ne 7, 3) := by decide +kernel
theorem dX12_slow_8 : decode cX12_slow 8 = .ok (.ldc_w 344, 3) := by decide +kernel
theorem dX12_slow_11 : decode cX12_slow 11 = .ok (.ireturn, 1) := by decide +kernel
theorem dX12_slow_12 : decode cX12_slow 12 = .ok (.aload_n 0, 1) := by decide +kernel
theorem dX12_slow_13 : decode cX12_slow 13 = .ok (.iload_n 2, 1) := by decide +kernel
theorem dX12_slow_14 : decode cX12_slow 14 = .ok (.iconst 1, 1) := by decide +kernel
theorem dX12_slow_15 : decode cX12_slow 15 = .ok (.bipush 9, 2) := by decide +kernel
theorem dX12_slow_17 : decode cX12_slow 17 = .ok (.invokevirtual 215, 3) := by decide +kernel
theorem dX12_slow_20 : decode cX12_slow 20 = .ok (.ifCond .ne 7, 3) := by decide +kernel
theorem dX12_slow_23 : decode cX12_slow 23 = .ok (.ldc_w 345, 3) := by decide +kernel
theorem dX12_slow_26 : decode cX12_slow 26 = .ok (.ireturn, 1) := by decide +kernel
theorem dX12_slow_27 : decode cX12_slow 27 = .ok (.aload_n 0, 1) := by decide +kernel
theorem dX12_slow_28 : decode cX12_slow 28 = .ok (.iload_n 1, 1) := by decide +kernel
theorem dX12_slow_29 : decode cX12_slow 29 = .ok (.invokevirtual 329, 3) := by decide +kernel
theorem dX12_slow_32 : decode cX12_slow 32 = .ok (.aload_n 0, 1) := by decide +kernel
theorem dX12_slow_33 : decode cX12_slow 33 = .ok (.invokevirtual 338, 3) := by decide +kernel
theorem dX12_slow_36 : decode cX12_slow 36 = .ok (.istore_n 3, 1) := by decide +kernel
theorem dX12_slow_37 : decode cX12_slow 37 = .ok (.aload_n 0, 1) := by decide +kernel
theorem dX12_slow_38 : decode cX12_slow 38 = .ok (.iload_n 1, 1) := by decide +kernel
theorem dX12_slow_39 : decode cX12_slow 39 = .ok (.aload_n 0, 1) := by decide +kernel
theorem dX12_slow_40 : decode cX12_slow 40 = .ok (.iconst 0, 1) := by decide +kernel
theorem dX12_slow_41 : decode cX12_slow 41 = .ok (.invokevirtual 312, 3) := by decide +kernel
theorem dX12_slow_44 : decode cX12_slow 44 = .ok (.iload_n 2, 1) := by decide +kernel
theorem dX12_slow_45 : decode cX12_slow 45 = .ok (.iconst 0, 1) := by decide +kernel
theorem dX12_slow_46 : decode cX12_slow 46 = .ok (.invokevirtual 325, 3) := by decide +kernel
theorem dX12_slow_49 : decode cX12_slow 49 = .ok (.aload_n 0, 1) := by decide +kernel
theorem dX12_slow_50 : decode cX12_slow 50 = .ok (.invokevirtual 338, 3) := by decide +kernel
theorem dX12_slow_53 : decode cX12_slow 53 = .ok (.iload_n 3, 1) := by decide +kernel
theorem dX12_slow_54 : decode cX12_slow 54 = .ok (.isub, 1) := by decide +kernel
theorem dX12_slow_55 : decode cX12_slow 55 = .ok (.ireturn, 1) := by decide +kernel
theorem dX12_early_0 : decode cX12_early 0 = .ok (.aload_n 0, 1) := by decide +kernel
theorem dX12_early_1 : decode cX12_early 1 = .ok (.iload_n 1, 1) := by decide +kernel
theorem dX12_early_2 : decode cX12_early 2 = .ok (.invokevirtual 294, 3) := by decide +kernel
theorem dX12_early_5 : decode cX12_early 5 = .ok (.ifCond .eq 21, 3) := by decide +kernel
theorem dX12_early_8 : decode cX12_early 8 = .ok (.aload_n 0, 1) := by decide +kernel
theorem dX12_early_9 : decode cX12_early 9 = .ok (.iload_n 2, 1) := by decide +kernel
theorem dX12_early_10 : decode cX12_early 10 = .ok (.invokevirtual 219, 3) := by decide +kernel
theorem dX12_early_13 : decode cX12_early 13 = .ok (.ifCond .eq 13, 3) := by decide +kernel
theorem dX12_early_16 : decode cX12_early 16 = .ok (.aload_n 0, 1) := by decide +kernel
theorem dX12_early_17 : decode cX12_early 17 = .ok (.iload_n 3, 1) := by decide +kernel
theorem dX12_early_18 : decode cX12_early 18 = .ok (.iconst 0, 1) := by decide +kernel
theorem dX12_early_19 : decode cX12_early 19 = .ok (.iconst 1, 1) := by decide +kernel
theorem dX12_early_20 : decode cX12_early 20 = .ok (.invokevirtual 215, 3) := by decide +kernel
theorem dX12_early_23 : decode cX12_early 23 = .ok (.ifCond .ne 5, 3) := by decide +kernel
theorem dX12_early_26 : decode cX12_early 26 = .ok (.iconst (-1), 1) := by decide +kernel
theorem dX12_early_27 : decode cX12_early 27 = .ok (.ireturn, 1) := by decide +kernel
theorem dX12_early_28 : decode cX12_early 28 = .ok (.aload_n 0, 1) := by decide +kernel
theorem dX12_early_29 : decode cX12_early 29 = .ok (.getfield 13, 3) := by decide +kernel
theorem dX12_early_32 : decode cX12_early 32 = .ok (.bipush 12, 2) := by decide +kernel
theorem dX12_early_34 : decode cX12_early 34 = .ok (.if_icmp .ne 6, 3) := by decide +kernel
theorem dX12_early_37 : decode cX12_early 37 = .ok (.bipush (-4), 2) := by decide +kernel
theorem dX12_early_39 : decode cX12_early 39 = .ok (.ireturn, 1) := by decide +kernel
theorem dX12_early_40 : decode cX12_early 40 = .ok (.bipush (-5), 2) := by decide +kernel
theorem dX12_early_42 : decode cX12_early 42 = .ok (.istore 4, 2) := by decide +kernel
theorem dX12_early_44 : decode cX12_early 44 = .ok (.bipush (-5), 2) := by decide +kernel
theorem dX12_early_46 : decode cX12_early 46 = .ok (.istore 5, 2) := by decide +kernel
theorem dX12_early_48 : decode cX12_early 48 = .ok (.aload_n 0, 1) := by decide +kernel
theorem dX12_early_49 : decode cX12_early 49 = .ok (.iconst 1, 1) := by decide +kernel
theorem dX12_early_50 : decode cX12_early 50 = .ok (.putfield 126, 3) := by decide +kernel
theorem dX12_early_53 : decode cX12_early 53 = .ok (.aload_n 0, 1) := by decide +kernel
theorem dX12_early_54 : decode cX12_early 54 = .ok (.getfield 32, 3) := by decide +kernel
theorem dX12_early_57 : decode cX12_early 57 = .ok (.aload_n 0, 1) := by decide +kernel
theorem dX12_early_58 : decode cX12_early 58 = .ok (.getfield 13, 3) := by decide +kernel
theorem dX12_early_61 : decode cX12_early 61 = .ok (.iload_n 2, 1) := by decide +kernel
theorem dX12_early_62 : decode cX12_early 62 = .ok (.iastore, 1) := by decide +kernel
theorem dX12_early_63 : decode cX12_early 63 = .ok (.iconst 0, 1) := by decide +kernel
theorem dX12_early_64 : decode cX12_early 64 = .ok (.istore 6, 2) := by decide +kernel
theorem dX12_early_66 : decode cX12_early 66 = .ok (.iload 6, 2) := by decide +kernel
theorem dX12_early_68 : decode cX12_early 68 = .ok (.bipush 60, 2) := by decide +kernel
theorem dX12_early_70 : decode cX12_early 70 = .ok (.if_icmp .ge 76, 3) := by decide +kernel
theorem dX12_early_73 : decode cX12_early 73 = .ok (.aload_n 0, 1) := by decide +kernel
theorem dX12_early_74 : decode cX12_early 74 = .ok (.getfield 35, 3) := by decide +kernel
theorem dX12_early_77 : decode cX12_early 77 = .ok (.aload_n 0, 1) := by decide +kernel
theorem dX12_early_78 : decode cX12_early 78 = .ok (.getfield 13, 3) := by decide +kernel
theorem dX12_early_81 : decode cX12_early 81 = .ok (.iload 6, 2) := by decide +kernel
theorem dX12_early_83 : decode cX12_early 83 = .ok (.iastore, 1) := by decide +kernel
theorem dX12_early_84 : decode cX12_early 84 = .ok (.aload_n 0, 1) := by decide +kernel
theorem dX12_early_85 : decode cX12_early 85 = .ok (.iload_n 1, 1) := by decide +kernel
theorem dX12_early_86 : decode cX12_early 86 = .ok (.invokevirtual 329, 3) := by decide +kernel
theorem dX12_early_89 : decode cX12_early 89 = .ok (.aload_n 0, 1) := by decide +kernel
theorem dX12_early_90 : decode cX12_early 90 = .ok (.getfield 132, 3) := by decide +kernel
theorem dX12_early_93 : decode cX12_early 93 = .ok (.ifCond .ge 8, 3) := by decide +kernel
theorem dX12_early_96 : decode cX12_early 96 = .ok (.bipush (-5), 2) := by decide +kernel
theorem dX12_early_98 : decode cX12_early 98 = .ok (.goto 12, 3) := by decide +kernel
theorem dX12_early_101 : decode cX12_early 101 = .ok (.aload_n 0, 1) := by decide +kernel
theorem dX12_early_102 : decode cX12_early 102 = .ok (.getfield 147, 3) := by decide +kernel
theorem dX12_early_105 : decode cX12_early 105 = .ok (.aload_n 0, 1) := by decide +kernel
theorem dX12_early_106 : decode cX12_early 106 = .ok (.getfield 132, 3) := by decide +kernel
theorem dX12_early_109 : decode cX12_early 109 = .ok (.iaload, 1) := by decide +kernel
theorem dX12_early_110 : decode cX12_early 110 = .ok (.istore 7, 2) := by decide +kernel
theorem dX12_early_112 : decode cX12_early 112 = .ok (.iload 7, 2) := by decide +kernel
theorem dX12_early_114 : decode cX12_early 114 = .ok (.ifCond .lt 26, 3) := by decide +kernel
theorem dX12_early_117 : decode cX12_early 117 = .ok (.iload 5, 2) := by decide +kernel
theorem dX12_early_119 : decode cX12_early 119 = .ok (.ifCond .lt 13, 3) := by decide +kernel
theorem dX12_early_122 : decode cX12_early 122 = .ok (.iload 7, 2) := by decide +kernel
theorem dX12_early_124 : decode cX12_early 124 = .ok (.iload 5, 2) := by decide +kernel
theorem dX12_early_126 : decode cX12_early 126 = .ok (.if_icmp .lt 6, 3) := by decide +kernel
theorem dX12_early_129 : decode cX12_early 129 = .ok (.goto 11, 3) := by decide +kernel
theorem dX12_early_132 : decode cX12_early 132 = .ok (.iload 7, 2) := by decide +kernel
theorem dX12_early_134 : decode cX12_early 134 = .ok (.istore 5, 2) := by decide +kernel
theorem dX12_early_136 : decode cX12_early 136 = .ok (.iload 6, 2) := by decide +kernel
theorem dX12_early_138 : decode cX12_early 138 = .ok (.istore 4, 2) := by decide +kernel
theorem dX12_early_140 : decode cX12_early 140 = .ok (.iinc 6 1, 3) := by decide +kernel
theorem dX12_early_143 : decode cX12_early 143 = .ok (.goto (-77), 3) := by decide +kernel
theorem dX12_early_146 : decode cX12_early 146 = .ok (.aload_n 0, 1) := by decide +kernel
theorem dX12_early_147 : decode cX12_early 147 = .ok (.iconst 0, 1) := by decide +kernel
theorem dX12_early_148 : decode cX12_early 148 = .ok (.putfield 126, 3) := by decide +kernel
theorem dX12_early_151 : decode cX12_early 151 = .ok (.iload_n 3, 1) := by decide +kernel
theorem dX12_early_152 : decode cX12_early 152 = .ok (.ifCond .ne 8, 3) := by decide +kernel
theorem dX12_early_155 : decode cX12_early 155 = .ok (.iload 4, 2) := by decide +kernel
theorem dX12_early_157 : decode cX12_early 157 = .ok (.goto 5, 3) := by decide +kernel
theorem dX12_early_160 : decode cX12_early 160 = .ok (.iload 5, 2) := by decide +kernel
theorem dX12_early_162 : decode cX12_early 162 = .ok (.ireturn, 1) := by decide +kernel
theorem dX12_sell_0 : decode cX12_sell 0 = .ok (.aload_n 0, 1) := by decide +kernel
theorem dX12_sell_1 : decode cX12_sell 1 = .ok (.iload_n 1, 1) := by decide +kernel
theorem dX12_sell_2 : decode cX12_sell 2 = .ok (.invokevirtual 294, 3) := by decide +kernel
theorem dX12_sell_5 : decode cX12_sell 5 = .ok (.ifCond .ne 5, 3) := by decide +kernel
theorem dX12_sell_8 : decode cX12_sell 8 = .ok (.iconst (-1), 1) := by decide +kernel
theorem dX12_sell_9 : decode cX12_sell 9 = .ok (.ireturn, 1) := by decide +kernel
theorem dX12_sell_10 : decode cX12_sell 10 = .ok (.aload_n 0, 1) := by decide +kernel
theorem dX12_sell_11 : decode cX12_sell 11 = .ok (.iload_n 1, 1) := by decide +kernel
theorem dX12_sell_12 : decode cX12_sell 12 = .ok (.invokevirtual 329, 3) := by decide +kernel
theorem dX12_sell_15 : decode cX12_sell 15 = .ok (.iconst 0, 1) := by decide +kernel
theorem dX12_sell_16 : decode cX12_sell 16 = .ok (.istore_n 2, 1) := by decide +kernel
theorem dX12_sell_17 : decode cX12_sell 17 = .ok (.iconst 1, 1) := by decide +kernel
theorem dX12_sell_18 : decode cX12_sell 18 = .ok (.istore_n 3, 1) := by decide +kernel
theorem dX12_sell_19 : decode cX12_sell 19 = .ok (.iload_n 3, 1) := by decide +kernel
theorem dX12_sell_20 : decode cX12_sell 20 = .ok (.aload_n 0, 1) := by decide +kernel
theorem dX12_sell_21 : decode cX12_sell 21 = .ok (.getfield 108, 3) := by decide +kernel
theorem dX12_sell_24 : decode cX12_sell 24 = .ok (.if_icmp .ge 93, 3) := by decide +kernel
theorem dX12_sell_27 : decode cX12_sell 27 = .ok (.aload_n 0, 1) := by decide +kernel
theorem dX12_sell_28 : decode cX12_sell 28 = .ok (.getfield 162, 3) := by decide +kernel
theorem dX12_sell_31 : decode cX12_sell 31 = .ok (.iload_n 3, 1) := by decide +kernel
theorem dX12_sell_32 : decode cX12_sell 32 = .ok (.iconst 1, 1) := by decide +kernel
theorem dX12_sell_33 : decode cX12_sell 33 = .ok (.isub, 1) := by decide +kernel
theorem dX12_sell_34 : decode cX12_sell 34 = .ok (.iaload, 1) := by decide +kernel
theorem dX12_sell_35 : decode cX12_sell 35 = .ok (.istore 4, 2) := by decide +kernel
theorem dX12_sell_37 : decode cX12_sell 37 = .ok (.aload_n 0, 1) := by decide +kernel
theorem dX12_sell_38 : decode cX12_sell 38 = .ok (.getfield 162, 3) := by decide +kernel
theorem dX12_sell_41 : decode cX12_sell 41 = .ok (.iload_n 3, 1) := by decide +kernel
theorem dX12_sell_42 : decode cX12_sell 42 = .ok (.iaload, 1) := by decide +kernel
theorem dX12_sell_43 : decode cX12_sell 43 = .ok (.istore 5, 2) := by decide +kernel
theorem dX12_sell_45 : decode cX12_sell 45 = .ok (.iload_n 2, 1) := by decide +kernel
theorem dX12_sell_46 : decode cX12_sell 46 = .ok (.aload_n 0, 1) := by decide +kernel
theorem dX12_sell_47 : decode cX12_sell 47 = .ok (.getfield 135, 3) := by decide +kernel
theorem dX12_sell_50 : decode cX12_sell 50 = .ok (.iload 4, 2) := by decide +kernel
theorem dX12_sell_52 : decode cX12_sell 52 = .ok (.iaload, 1) := by decide +kernel
theorem dX12_sell_53 : decode cX12_sell 53 = .ok (.aload_n 0, 1) := by decide +kernel
theorem dX12_sell_54 : decode cX12_sell 54 = .ok (.getfield 135, 3) := by decide +kernel
theorem dX12_sell_57 : decode cX12_sell 57 = .ok (.iload 5, 2) := by decide +kernel
theorem dX12_sell_59 : decode cX12_sell 59 = .ok (.iaload, 1) := by decide +kernel
theorem dX12_sell_60 : decode cX12_sell 60 = .ok (.if_icmp .eq 48, 3) := by decide +kernel
theorem dX12_sell_63 : decode cX12_sell 63 = .ok (.aload_n 0, 1) := by decide +kernel
theorem dX12_sell_64 : decode cX12_sell 64 = .ok (.getfield 16, 3) := by decide +kernel
theorem dX12_sell_67 : decode cX12_sell 67 = .ok (.aload_n 0, 1) := by decide +kernel
theorem dX12_sell_68 : decode cX12_sell 68 = .ok (.getfield 135, 3) := by decide +kernel
theorem dX12_sell_71 : decode cX12_sell 71 = .ok (.iload 5, 2) := by decide +kernel
theorem dX12_sell_73 : decode cX12_sell 73 = .ok (.iaload, 1) := by decide +kernel
theorem dX12_sell_74 : decode cX12_sell 74 = .ok (.iaload, 1) := by decide +kernel
theorem dX12_sell_75 : decode cX12_sell 75 = .ok (.aload_n 0, 1) := by decide +kernel
theorem dX12_sell_76 : decode cX12_sell 76 = .ok (.iload 4, 2) := by decide +kernel
theorem dX12_sell_78 : decode cX12_sell 78 = .ok (.invokevirtual 297, 3) := by decide +kernel
theorem dX12_sell_81 : decode cX12_sell 81 = .ok (.imul, 1) := by decide +kernel
theorem dX12_sell_82 : decode cX12_sell 82 = .ok (.aload_n 0, 1) := by decide +kernel
theorem dX12_sell_83 : decode cX12_sell 83 = .ok (.getfield 16, 3) := by decide +kernel
theorem dX12_sell_86 : decode cX12_sell 86 = .ok (.aload_n 0, 1) := by decide +kernel
theorem dX12_sell_87 : decode cX12_sell 87 = .ok (.getfield 135, 3) := by decide +kernel
theorem dX12_sell_90 : decode cX12_sell 90 = .ok (.iload 4, 2) := by decide +kernel
theorem dX12_sell_92 : decode cX12_sell 92 = .ok (.iaload, 1) := by decide +kernel
theorem dX12_sell_93 : decode cX12_sell 93 = .ok (.iaload, 1) := by decide +kernel
theorem dX12_sell_94 : decode cX12_sell 94 = .ok (.aload_n 0, 1) := by decide +kernel
theorem dX12_sell_95 : decode cX12_sell 95 = .ok (.iload 5, 2) := by decide +kernel
theorem dX12_sell_97 : decode cX12_sell 97 = .ok (.invokevirtual 297, 3) := by decide +kernel
theorem dX12_sell_100 : decode cX12_sell 100 = .ok (.imul, 1) := by decide +kernel
theorem dX12_sell_101 : decode cX12_sell 101 = .ok (.if_icmp .le 7, 3) := by decide +kernel
theorem dX12_sell_104 : decode cX12_sell 104 = .ok (.iconst 1, 1) := by decide +kernel
theorem dX12_sell_105 : decode cX12_sell 105 = .ok (.goto 4, 3) := by decide +kernel
theorem dX12_sell_108 : decode cX12_sell 108 = .ok (.iconst 0, 1) := by decide +kernel
theorem dX12_sell_109 : decode cX12_sell 109 = .ok (.iadd, 1) := by decide +kernel
theorem dX12_sell_110 : decode cX12_sell 110 = .ok (.istore_n 2, 1) := by decide +kernel
theorem dX12_sell_111 : decode cX12_sell 111 = .ok (.iinc 3 1, 3) := by decide +kernel
theorem dX12_sell_114 : decode cX12_sell 114 = .ok (.goto (-95), 3) := by decide +kernel
theorem dX12_sell_117 : decode cX12_sell 117 = .ok (.iload_n 2, 1) := by decide +kernel
theorem dX12_sell_118 : decode cX12_sell 118 = .ok (.ireturn, 1) := by decide +kernel
theorem dX12_divisor_0 : decode cX12_divisor 0 = .ok (.lload_n 1, 1) := by decide +kernel
theorem dX12_divisor_1 : decode cX12_divisor 1 = .ok (.lstore 5, 2) := by decide +kernel
theorem dX12_divisor_3 : decode cX12_divisor 3 = .ok (.lload_n 3, 1) := by decide +kernel
theorem dX12_divisor_4 : decode cX12_divisor 4 = .ok (.lstore 7, 2) := by decide +kernel
theorem dX12_divisor_6 : decode cX12_divisor 6 = .ok (.lload 7, 2) := by decide +kernel
theorem dX12_divisor_8 : decode cX12_divisor 8 = .ok (.lconst 0, 1) := by decide +kernel
theorem dX12_divisor_9 : decode cX12_divisor 9 = .ok (.lcmp, 1) := by decide +kernel
theorem dX12_divisor_10 : decode cX12_divisor 10 = .ok (.ifCond .eq 21, 3) := by decide +kernel
theorem dX12_divisor_13 : decode cX12_divisor 13 = .ok (.lload 5, 2) := by decide +kernel
theorem dX12_divisor_15 : decode cX12_divisor 15 = .ok (.lload 7, 2) := by decide +kernel
theorem dX12_divisor_17 : decode cX12_divisor 17 = .ok (.lrem, 1) := by decide +kernel
theorem dX12_divisor_18 : decode cX12_divisor 18 = .ok (.lstore 9, 2) := by decide +kernel
theorem dX12_divisor_20 : decode cX12_divisor 20 = .ok (.lload 7, 2) := by decide +kernel
theorem dX12_divisor_22 : decode cX12_divisor 22 = .ok (.lstore 5, 2) := by decide +kernel
theorem dX12_divisor_24 : decode cX12_divisor 24 = .ok (.lload 9, 2) := by decide +kernel
theorem dX12_divisor_26 : decode cX12_divisor 26 = .ok (.lstore 7, 2) := by decide +kernel
theorem dX12_divisor_28 : decode cX12_divisor 28 = .ok (.goto (-22), 3) := by decide +kernel
theorem dX12_divisor_31 : decode cX12_divisor 31 = .ok (.lload 5, 2) := by decide +kernel
theorem dX12_divisor_33 : decode cX12_divisor 33 = .ok (.lreturn, 1) := by decide +kernel
theorem dX12_mean_0 : decode cX12_mean 0 = .ok (.aload_n 0, 1) := by decide +kernel
theorem dX12_mean_1 : decode cX12_mean 1 = .ok (.iload_n 1, 1) := by decide +kernel
theorem dX12_mean_2 : decode cX12_mean 2 = .ok (.invokevirtual 294, 3) := by decide +kernel
theorem dX12_mean_5 : decode cX12_mean 5 = .ok (.ifCond .eq 22, 3) := by decide +kernel
theorem dX12_mean_8 : decode cX12_mean 8 = .ok (.aload_n 0, 1) := by decide +kernel
theorem dX12_mean_9 : decode cX12_mean 9 = .ok (.iload_n 2, 1) := by decide +kernel
theorem dX12_mean_10 : decode cX12_mean 10 = .ok (.iconst 0, 1) := by decide +kernel
theorem dX12_mean_11 : decode cX12_mean 11 = .ok (.iconst 1, 1) := by decide +kernel
theorem dX12_mean_12 : decode cX12_mean 12 = .ok (.invokevirtual 215, 3) := by decide +kernel
theorem dX12_mean_15 : decode cX12_mean 15 = .ok (.ifCond .eq 12, 3) := by decide +kernel
theorem dX12_mean_18 : decode cX12_mean 18 = .ok (.aload_n 0, 1) := by decide +kernel
theorem dX12_mean_19 : decode cX12_mean 19 = .ok (.getfield 13, 3) := by decide +kernel
theorem dX12_mean_22 : decode cX12_mean 22 = .ok (.bipush 6, 2) := by decide +kernel
theorem dX12_mean_24 : decode cX12_mean 24 = .ok (.if_icmp .le 7, 3) := by decide +kernel
theorem dX12_mean_27 : decode cX12_mean 27 = .ok (.ldc2_w 346, 3) := by decide +kernel
theorem dX12_mean_30 : decode cX12_mean 30 = .ok (.lreturn, 1) := by decide +kernel
theorem dX12_mean_31 : decode cX12_mean 31 = .ok (.lconst 0, 1) := by decide +kernel
theorem dX12_mean_32 : decode cX12_mean 32 = .ok (.lstore_n 3, 1) := by decide +kernel
theorem dX12_mean_33 : decode cX12_mean 33 = .ok (.lconst 1, 1) := by decide +kernel
theorem dX12_mean_34 : decode cX12_mean 34 = .ok (.lstore 5, 2) := by decide +kernel
theorem dX12_mean_36 : decode cX12_mean 36 = .ok (.iconst 0, 1) := by decide +kernel
theorem dX12_mean_37 : decode cX12_mean 37 = .ok (.istore 7, 2) := by decide +kernel
theorem dX12_mean_39 : decode cX12_mean 39 = .ok (.iload 7, 2) := by decide +kernel
theorem dX12_mean_41 : decode cX12_mean 41 = .ok (.aload_n 0, 1) := by decide +kernel
theorem dX12_mean_42 : decode cX12_mean 42 = .ok (.getfield 13, 3) := by decide +kernel
theorem dX12_mean_45 : decode cX12_mean 45 = .ok (.if_icmp .ge 17, 3) := by decide +kernel
theorem dX12_mean_48 : decode cX12_mean 48 = .ok (.lload 5, 2) := by decide +kernel
theorem dX12_mean_50 : decode cX12_mean 50 = .ok (.ldc2_w 348, 3) := by decide +kernel
theorem dX12_mean_53 : decode cX12_mean 53 = .ok (.lmul, 1) := by decide +kernel
theorem dX12_mean_54 : decode cX12_mean 54 = .ok (.lstore 5, 2) := by decide +kernel
theorem dX12_mean_56 : decode cX12_mean 56 = .ok (.iinc 7 1, 3) := by decide +kernel
theorem dX12_mean_59 : decode cX12_mean 59 = .ok (.goto (-20), 3) := by decide +kernel
theorem dX12_mean_62 : decode cX12_mean 62 = .ok (.iconst 0, 1) := by decide +kernel
theorem dX12_mean_63 : decode cX12_mean 63 = .ok (.istore 7, 2) := by decide +kernel
theorem dX12_mean_65 : decode cX12_mean 65 = .ok (.iload 7, 2) := by decide +kernel
theorem dX12_mean_67 : decode cX12_mean 67 = .ok (.iconst 1, 1) := by decide +kernel
theorem dX12_mean_68 : decode cX12_mean 68 = .ok (.aload_n 0, 1) := by decide +kernel
theorem dX12_mean_69 : decode cX12_mean 69 = .ok (.getfield 13, 3) := by decide +kernel
theorem dX12_mean_72 : decode cX12_mean 72 = .ok (.ishl, 1) := by decide +kernel
theorem dX12_mean_73 : decode cX12_mean 73 = .ok (.if_icmp .ge 112, 3) := by decide +kernel
theorem dX12_mean_76 : decode cX12_mean 76 = .ok (.lconst 1, 1) := by decide +kernel
theorem dX12_mean_77 : decode cX12_mean 77 = .ok (.lstore 8, 2) := by decide +kernel
theorem dX12_mean_79 : decode cX12_mean 79 = .ok (.iconst 0, 1) := by decide +kernel
theorem dX12_mean_80 : decode cX12_mean 80 = .ok (.istore 10, 2) := by decide +kernel
theorem dX12_mean_82 : decode cX12_mean 82 = .ok (.iload 10, 2) := by decide +kernel
theorem dX12_mean_84 : decode cX12_mean 84 = .ok (.aload_n 0, 1) := by decide +kernel
theorem dX12_mean_85 : decode cX12_mean 85 = .ok (.getfield 13, 3) := by decide +kernel
theorem dX12_mean_88 : decode cX12_mean 88 = .ok (.if_icmp .ge 57, 3) := by decide +kernel
theorem dX12_mean_91 : decode cX12_mean 91 = .ok (.lload 8, 2) := by decide +kernel
theorem dX12_mean_93 : decode cX12_mean 93 = .ok (.iload 7, 2) := by decide +kernel
theorem dX12_mean_95 : decode cX12_mean 95 = .ok (.iload 10, 2) := by decide +kernel
theorem dX12_mean_97 : decode cX12_mean 97 = .ok (.ishr, 1) := by decide +kernel
theorem dX12_mean_98 : decode cX12_mean 98 = .ok (.iconst 1, 1) := by decide +kernel
theorem dX12_mean_99 : decode cX12_mean 99 = .ok (.iand, 1) := by decide +kernel
theorem dX12_mean_100 : decode cX12_mean 100 = .ok (.iconst 1, 1) := by decide +kernel
theorem dX12_mean_101 : decode cX12_mean 101 = .ok (.if_icmp .ne 22, 3) := by decide +kernel
theorem dX12_mean_104 : decode cX12_mean 104 = .ok (.bipush 10, 2) := by decide +kernel
theorem dX12_mean_106 : decode cX12_mean 106 = .ok (.aload_n 0, 1) := by decide +kernel
theorem dX12_mean_107 : decode cX12_mean 107 = .ok (.getfield 29, 3) := by decide +kernel
theorem dX12_mean_110 : decode cX12_mean 110 = .ok (.aload_n 0, 1) := by decide +kernel
theorem dX12_mean_111 : decode cX12_mean 111 = .ok (.getfield 32, 3) := by decide +kernel
theorem dX12_mean_114 : decode cX12_mean 114 = .ok (.iload 10, 2) := by decide +kernel
theorem dX12_mean_116 : decode cX12_mean 116 = .ok (.iaload, 1) := by decide +kernel
theorem dX12_mean_117 : decode cX12_mean 117 = .ok (.iaload, 1) := by decide +kernel
theorem dX12_mean_118 : decode cX12_mean 118 = .ok (.isub, 1) := by decide +kernel
theorem dX12_mean_119 : decode cX12_mean 119 = .ok (.i2l, 1) := by decide +kernel
theorem dX12_mean_120 : decode cX12_mean 120 = .ok (.goto 16, 3) := by decide +kernel
theorem dX12_mean_123 : decode cX12_mean 123 = .ok (.aload_n 0, 1) := by decide +kernel
theorem dX12_mean_124 : decode cX12_mean 124 = .ok (.getfield 29, 3) := by decide +kernel
theorem dX12_mean_127 : decode cX12_mean 127 = .ok (.aload_n 0, 1) := by decide +kernel
theorem dX12_mean_128 : decode cX12_mean 128 = .ok (.getfield 32, 3) := by decide +kernel
theorem dX12_mean_131 : decode cX12_mean 131 = .ok (.iload 10, 2) := by decide +kernel
theorem dX12_mean_133 : decode cX12_mean 133 = .ok (.iaload, 1) := by decide +kernel
theorem dX12_mean_134 : decode cX12_mean 134 = .ok (.iaload, 1) := by decide +kernel
theorem dX12_mean_135 : decode cX12_mean 135 = .ok (.i2l, 1) := by decide +kernel
theorem dX12_mean_136 : decode cX12_mean 136 = .ok (.lmul, 1) := by decide +kernel
theorem dX12_mean_137 : decode cX12_mean 137 = .ok (.lstore 8, 2) := by decide +kernel
theorem dX12_mean_139 : decode cX12_mean 139 = .ok (.iinc 10 1, 3) := by decide +kernel
theorem dX12_mean_142 : decode cX12_mean 142 = .ok (.goto (-60), 3) := by decide +kernel
theorem dX12_mean_145 : decode cX12_mean 145 = .ok (.lload 8, 2) := by decide +kernel
theorem dX12_mean_147 : decode cX12_mean 147 = .ok (.lconst 0, 1) := by decide +kernel
theorem dX12_mean_148 : decode cX12_mean 148 = .ok (.lcmp, 1) := by decide +kernel
theorem dX12_mean_149 : decode cX12_mean 149 = .ok (.ifCond .ne 6, 3) := by decide +kernel
theorem dX12_mean_152 : decode cX12_mean 152 = .ok (.goto 27, 3) := by decide +kernel
theorem dX12_mean_155 : decode cX12_mean 155 = .ok (.aload_n 0, 1) := by decide +kernel
theorem dX12_mean_156 : decode cX12_mean 156 = .ok (.iload_n 1, 1) := by decide +kernel
theorem dX12_mean_157 : decode cX12_mean 157 = .ok (.aload_n 0, 1) := by decide +kernel
theorem dX12_mean_158 : decode cX12_mean 158 = .ok (.iconst 0, 1) := by decide +kernel
theorem dX12_mean_159 : decode cX12_mean 159 = .ok (.invokevirtual 312, 3) := by decide +kernel
theorem dX12_mean_162 : decode cX12_mean 162 = .ok (.iconst 0, 1) := by decide +kernel
theorem dX12_mean_163 : decode cX12_mean 163 = .ok (.iload 7, 2) := by decide +kernel
theorem dX12_mean_165 : decode cX12_mean 165 = .ok (.invokevirtual 325, 3) := by decide +kernel
theorem dX12_mean_168 : decode cX12_mean 168 = .ok (.lload_n 3, 1) := by decide +kernel
theorem dX12_mean_169 : decode cX12_mean 169 = .ok (.lload 8, 2) := by decide +kernel
theorem dX12_mean_171 : decode cX12_mean 171 = .ok (.aload_n 0, 1) := by decide +kernel
theorem dX12_mean_172 : decode cX12_mean 172 = .ok (.invokevirtual 335, 3) := by decide +kernel
theorem dX12_mean_175 : decode cX12_mean 175 = .ok (.i2l, 1) := by decide +kernel
theorem dX12_mean_176 : decode cX12_mean 176 = .ok (.lmul, 1) := by decide +kernel
theorem dX12_mean_177 : decode cX12_mean 177 = .ok (.ladd, 1) := by decide +kernel
theorem dX12_mean_178 : decode cX12_mean 178 = .ok (.lstore_n 3, 1) := by decide +kernel
theorem dX12_mean_179 : decode cX12_mean 179 = .ok (.iinc 7 1, 3) := by decide +kernel
theorem dX12_mean_182 : decode cX12_mean 182 = .ok (.goto (-117), 3) := by decide +kernel
theorem dX12_mean_185 : decode cX12_mean 185 = .ok (.aload_n 0, 1) := by decide +kernel
theorem dX12_mean_186 : decode cX12_mean 186 = .ok (.lload_n 3, 1) := by decide +kernel
theorem dX12_mean_187 : decode cX12_mean 187 = .ok (.lload 5, 2) := by decide +kernel
theorem dX12_mean_189 : decode cX12_mean 189 = .ok (.invokevirtual 350, 3) := by decide +kernel
theorem dX12_mean_192 : decode cX12_mean 192 = .ok (.lstore 7, 2) := by decide +kernel
theorem dX12_mean_194 : decode cX12_mean 194 = .ok (.iload_n 2, 1) := by decide +kernel
theorem dX12_mean_195 : decode cX12_mean 195 = .ok (.ifCond .ne 10, 3) := by decide +kernel
theorem dX12_mean_198 : decode cX12_mean 198 = .ok (.lload_n 3, 1) := by decide +kernel
theorem dX12_mean_199 : decode cX12_mean 199 = .ok (.lload 7, 2) := by decide +kernel
theorem dX12_mean_201 : decode cX12_mean 201 = .ok (.ldiv, 1) := by decide +kernel
theorem dX12_mean_202 : decode cX12_mean 202 = .ok (.goto 8, 3) := by decide +kernel
theorem dX12_mean_205 : decode cX12_mean 205 = .ok (.lload 5, 2) := by decide +kernel
theorem dX12_mean_207 : decode cX12_mean 207 = .ok (.lload 7, 2) := by decide +kernel
theorem dX12_mean_209 : decode cX12_mean 209 = .ok (.ldiv, 1) := by decide +kernel
theorem dX12_mean_210 : decode cX12_mean 210 = .ok (.lreturn, 1) := by decide +kernel
theorem dX12_judge_0 : decode cX12_judge 0 = .ok (.aload_n 0, 1) := by decide +kernel
theorem dX12_judge_1 : decode cX12_judge 1 = .ok (.iload_n 1, 1) := by decide +kernel
theorem dX12_judge_2 : decode cX12_judge 2 = .ok (.invokevirtual 354, 3) := by decide +kernel
theorem dX12_judge_5 : decode cX12_judge 5 = .ok (.ifCond .eq 12, 3) := by decide +kernel
theorem dX12_judge_8 : decode cX12_judge 8 = .ok (.aload_n 0, 1) := by decide +kernel
theorem dX12_judge_9 : decode cX12_judge 9 = .ok (.iload 4, 2) := by decide +kernel
theorem dX12_judge_11 : decode cX12_judge 11 = .ok (.invokevirtual 294, 3) := by decide +kernel
theorem dX12_judge_14 : decode cX12_judge 14 = .ok (.ifCond .ne 5, 3) := by decide +kernel
theorem dX12_judge_17 : decode cX12_judge 17 = .ok (.iconst (-1), 1) := by decide +kernel
theorem dX12_judge_18 : decode cX12_judge 18 = .ok (.ireturn, 1) := by decide +kernel
theorem dX12_judge_19 : decode cX12_judge 19 = .ok (.aload_n 0, 1) := by decide +kernel
theorem dX12_judge_20 : decode cX12_judge 20 = .ok (.iload_n 3, 1) := by decide +kernel
theorem dX12_judge_21 : decode cX12_judge 21 = .ok (.iconst 0, 1) := by decide +kernel
theorem dX12_judge_22 : decode cX12_judge 22 = .ok (.bipush 40, 2) := by decide +kernel
theorem dX12_judge_24 : decode cX12_judge 24 = .ok (.invokevirtual 215, 3) := by decide +kernel
theorem dX12_judge_27 : decode cX12_judge 27 = .ok (.ifCond .ne 6, 3) := by decide +kernel
theorem dX12_judge_30 : decode cX12_judge 30 = .ok (.bipush (-2), 2) := by decide +kernel
theorem dX12_judge_32 : decode cX12_judge 32 = .ok (.ireturn, 1) := by decide +kernel
theorem dX12_judge_33 : decode cX12_judge 33 = .ok (.aload_n 0, 1) := by decide +kernel
theorem dX12_judge_34 : decode cX12_judge 34 = .ok (.getfield 202, 3) := by decide +kernel
theorem dX12_judge_37 : decode cX12_judge 37 = .ok (.iload_n 1, 1) := by decide +kernel
theorem dX12_judge_38 : decode cX12_judge 38 = .ok (.iaload, 1) := by decide +kernel
theorem dX12_judge_39 : decode cX12_judge 39 = .ok (.ifCond .le 6, 3) := by decide +kernel
theorem dX12_judge_42 : decode cX12_judge 42 = .ok (.bipush (-12), 2) := by decide +kernel
theorem dX12_judge_44 : decode cX12_judge 44 = .ok (.ireturn, 1) := by decide +kernel
theorem dX12_judge_45 : decode cX12_judge 45 = .ok (.aload_n 0, 1) := by decide +kernel
theorem dX12_judge_46 : decode cX12_judge 46 = .ok (.iload 4, 2) := by decide +kernel
theorem dX12_judge_48 : decode cX12_judge 48 = .ok (.invokevirtual 329, 3) := by decide +kernel
theorem dX12_judge_51 : decode cX12_judge 51 = .ok (.iconst 0, 1) := by decide +kernel
theorem dX12_judge_52 : decode cX12_judge 52 = .ok (.istore 5, 2) := by decide +kernel
theorem dX12_judge_54 : decode cX12_judge 54 = .ok (.iload 5, 2) := by decide +kernel
theorem dX12_judge_56 : decode cX12_judge 56 = .ok (.iload_n 3, 1) := by decide +kernel
theorem dX12_judge_57 : decode cX12_judge 57 = .ok (.if_icmp .ge 86, 3) := by decide +kernel
theorem dX12_judge_60 : decode cX12_judge 60 = .ok (.aload_n 0, 1) := by decide +kernel
theorem dX12_judge_61 : decode cX12_judge 61 = .ok (.getfield 202, 3) := by decide +kernel
theorem dX12_judge_64 : decode cX12_judge 64 = .ok (.iload_n 1, 1) := by decide +kernel
theorem dX12_judge_65 : decode cX12_judge 65 = .ok (.iaload, 1) := by decide +kernel
theorem dX12_judge_66 : decode cX12_judge 66 = .ok (.ifCond .lt 22, 3) := by decide +kernel
theorem dX12_judge_69 : decode cX12_judge 69 = .ok (.iload_n 2, 1) := by decide +kernel
theorem dX12_judge_70 : decode cX12_judge 70 = .ok (.ifCond .lt 18, 3) := by decide +kernel
theorem dX12_judge_73 : decode cX12_judge 73 = .ok (.iload_n 2, 1) := by decide +kernel
theorem dX12_judge_74 : decode cX12_judge 74 = .ok (.aload_n 0, 1) := by decide +kernel
theorem dX12_judge_75 : decode cX12_judge 75 = .ok (.getfield 205, 3) := by decide +kernel
theorem dX12_judge_78 : decode cX12_judge 78 = .ok (.iload_n 1, 1) := by decide +kernel
theorem dX12_judge_79 : decode cX12_judge 79 = .ok (.iaload, 1) := by decide +kernel
theorem dX12_judge_80 : decode cX12_judge 80 = .ok (.iload 5, 2) := by decide +kernel
theorem dX12_judge_82 : decode cX12_judge 82 = .ok (.isub, 1) := by decide +kernel
theorem dX12_judge_83 : decode cX12_judge 83 = .ok (.iconst 1, 1) := by decide +kernel
theorem dX12_judge_84 : decode cX12_judge 84 = .ok (.isub, 1) := by decide +kernel
theorem dX12_judge_85 : decode cX12_judge 85 = .ok (.if_icmp .le 9, 3) := by decide +kernel
theorem dX12_judge_88 : decode cX12_judge 88 = .ok (.bipush 100, 2) := by decide +kernel
theorem dX12_judge_90 : decode cX12_judge 90 = .ok (.iload 5, 2) := by decide +kernel
theorem dX12_judge_92 : decode cX12_judge 92 = .ok (.iadd, 1) := by decide +kernel
theorem dX12_judge_93 : decode cX12_judge 93 = .ok (.ireturn, 1) := by decide +kernel
theorem dX12_judge_94 : decode cX12_judge 94 = .ok (.iload 5, 2) := by decide +kernel
theorem dX12_judge_96 : decode cX12_judge 96 = .ok (.aload_n 0, 1) := by decide +kernel
theorem dX12_judge_97 : decode cX12_judge 97 = .ok (.getfield 108, 3) := by decide +kernel
theorem dX12_judge_100 : decode cX12_judge 100 = .ok (.if_icmp .ge 34, 3) := by decide +kernel
theorem dX12_judge_103 : decode cX12_judge 103 = .ok (.aload_n 0, 1) := by decide +kernel
theorem dX12_judge_104 : decode cX12_judge 104 = .ok (.getfield 208, 3) := by decide +kernel
theorem dX12_judge_107 : decode cX12_judge 107 = .ok (.bipush 60, 2) := by decide +kernel
theorem dX12_judge_109 : decode cX12_judge 109 = .ok (.iload_n 1, 1) := by decide +kernel
theorem dX12_judge_110 : decode cX12_judge 110 = .ok (.imul, 1) := by decide +kernel
theorem dX12_judge_111 : decode cX12_judge 111 = .ok (.iload_n 2, 1) := by decide +kernel
theorem dX12_judge_112 : decode cX12_judge 112 = .ok (.iadd, 1) := by decide +kernel
theorem dX12_judge_113 : decode cX12_judge 113 = .ok (.iload 5, 2) := by decide +kernel
theorem dX12_judge_115 : decode cX12_judge 115 = .ok (.iadd, 1) := by decide +kernel
theorem dX12_judge_116 : decode cX12_judge 116 = .ok (.laload, 1) := by decide +kernel
theorem dX12_judge_117 : decode cX12_judge 117 = .ok (.aload_n 0, 1) := by decide +kernel
theorem dX12_judge_118 : decode cX12_judge 118 = .ok (.getfield 135, 3) := by decide +kernel
theorem dX12_judge_121 : decode cX12_judge 121 = .ok (.aload_n 0, 1) := by decide +kernel
theorem dX12_judge_122 : decode cX12_judge 122 = .ok (.getfield 162, 3) := by decide +kernel
theorem dX12_judge_125 : decode cX12_judge 125 = .ok (.iload 5, 2) := by decide +kernel
theorem dX12_judge_127 : decode cX12_judge 127 = .ok (.iaload, 1) := by decide +kernel
theorem dX12_judge_128 : decode cX12_judge 128 = .ok (.iaload, 1) := by decide +kernel
theorem dX12_judge_129 : decode cX12_judge 129 = .ok (.i2l, 1) := by decide +kernel
theorem dX12_judge_130 : decode cX12_judge 130 = .ok (.lcmp, 1) := by decide +kernel
theorem dX12_judge_131 : decode cX12_judge 131 = .ok (.ifCond .eq 6, 3) := by decide +kernel
theorem dX12_judge_134 : decode cX12_judge 134 = .ok (.iload 5, 2) := by decide +kernel
theorem dX12_judge_136 : decode cX12_judge 136 = .ok (.ireturn, 1) := by decide +kernel
theorem dX12_judge_137 : decode cX12_judge 137 = .ok (.iinc 5 1, 3) := by decide +kernel
theorem dX12_judge_140 : decode cX12_judge 140 = .ok (.goto (-86), 3) := by decide +kernel
theorem dX12_judge_143 : decode cX12_judge 143 = .ok (.bipush (-5), 2) := by decide +kernel
theorem dX12_judge_145 : decode cX12_judge 145 = .ok (.ireturn, 1) := by decide +kernel
theorem dX12_image_0 : decode cX12_image 0 = .ok (.aload_n 0, 1) := by decide +kernel
theorem dX12_image_1 : decode cX12_image 1 = .ok (.iconst 1, 1) := by decide +kernel
theorem dX12_image_2 : decode cX12_image 2 = .ok (.putfield 174, 3) := by decide +kernel
theorem dX12_image_5 : decode cX12_image 5 = .ok (.aload_n 0, 1) := by decide +kernel
theorem dX12_image_6 : decode cX12_image 6 = .ok (.aload_n 0, 1) := by decide +kernel
theorem dX12_image_7 : decode cX12_image 7 = .ok (.getfield 41, 3) := by decide +kernel
theorem dX12_image_10 : decode cX12_image 10 = .ok (.putfield 178, 3) := by decide +kernel
theorem dX12_image_13 : decode cX12_image 13 = .ok (.aload_n 0, 1) := by decide +kernel
theorem dX12_image_14 : decode cX12_image 14 = .ok (.aload_n 0, 1) := by decide +kernel
theorem dX12_image_15 : decode cX12_image 15 = .ok (.getfield 7, 3) := by decide +kernel
theorem dX12_image_18 : decode cX12_image 18 = .ok (.putfield 181, 3) := by decide +kernel
theorem dX12_image_21 : decode cX12_image 21 = .ok (.aload_n 0, 1) := by decide +kernel
theorem dX12_image_22 : decode cX12_image 22 = .ok (.aload_n 0, 1) := by decide +kernel
theorem dX12_image_23 : decode cX12_image 23 = .ok (.getfield 13, 3) := by decide +kernel
theorem dX12_image_26 : decode cX12_image 26 = .ok (.putfield 184, 3) := by decide +kernel
theorem dX12_image_29 : decode cX12_image 29 = .ok (.iconst 0, 1) := by decide +kernel
theorem dX12_image_30 : decode cX12_image 30 = .ok (.istore_n 1, 1) := by decide +kernel
theorem dX12_image_31 : decode cX12_image 31 = .ok (.iload_n 1, 1) := by decide +kernel
theorem dX12_image_32 : decode cX12_image 32 = .ok (.bipush 6, 2) := by decide +kernel
theorem dX12_image_34 : decode cX12_image 34 = .ok (.if_icmp .ge 21, 3) := by decide +kernel
theorem dX12_image_37 : decode cX12_image 37 = .ok (.aload_n 0, 1) := by decide +kernel
theorem dX12_image_38 : decode cX12_image 38 = .ok (.getfield 187, 3) := by decide +kernel
theorem dX12_image_41 : decode cX12_image 41 = .ok (.iload_n 1, 1) := by decide +kernel
theorem dX12_image_42 : decode cX12_image 42 = .ok (.aload_n 0, 1) := by decide +kernel
theorem dX12_image_43 : decode cX12_image 43 = .ok (.getfield 29, 3) := by decide +kernel
theorem dX12_image_46 : decode cX12_image 46 = .ok (.iload_n 1, 1) := by decide +kernel
theorem dX12_image_47 : decode cX12_image 47 = .ok (.iaload, 1) := by decide +kernel
theorem dX12_image_48 : decode cX12_image 48 = .ok (.iastore, 1) := by decide +kernel
theorem dX12_image_49 : decode cX12_image 49 = .ok (.iinc 1 1, 3) := by decide +kernel
theorem dX12_image_52 : decode cX12_image 52 = .ok (.goto (-21), 3) := by decide +kernel
theorem dX12_image_55 : decode cX12_image 55 = .ok (.iconst 0, 1) := by decide +kernel
theorem dX12_image_56 : decode cX12_image 56 = .ok (.istore_n 1, 1) := by decide +kernel
theorem dX12_image_57 : decode cX12_image 57 = .ok (.iload_n 1, 1) := by decide +kernel
theorem dX12_image_58 : decode cX12_image 58 = .ok (.bipush 12, 2) := by decide +kernel
theorem dX12_image_60 : decode cX12_image 60 = .ok (.if_icmp .ge 33, 3) := by decide +kernel
theorem dX12_image_63 : decode cX12_image 63 = .ok (.aload_n 0, 1) := by decide +kernel
theorem dX12_image_64 : decode cX12_image 64 = .ok (.getfield 190, 3) := by decide +kernel
theorem dX12_image_67 : decode cX12_image 67 = .ok (.iload_n 1, 1) := by decide +kernel
theorem dX12_image_68 : decode cX12_image 68 = .ok (.aload_n 0, 1) := by decide +kernel
theorem dX12_image_69 : decode cX12_image 69 = .ok (.getfield 32, 3) := by decide +kernel
theorem dX12_image_72 : decode cX12_image 72 = .ok (.iload_n 1, 1) := by decide +kernel
theorem dX12_image_73 : decode cX12_image 73 = .ok (.iaload, 1) := by decide +kernel
theorem dX12_image_74 : decode cX12_image 74 = .ok (.iastore, 1) := by decide +kernel
theorem dX12_image_75 : decode cX12_image 75 = .ok (.aload_n 0, 1) := by decide +kernel
theorem dX12_image_76 : decode cX12_image 76 = .ok (.getfield 193, 3) := by decide +kernel
theorem dX12_image_79 : decode cX12_image 79 = .ok (.iload_n 1, 1) := by decide +kernel
theorem dX12_image_80 : decode cX12_image 80 = .ok (.aload_n 0, 1) := by decide +kernel
theorem dX12_image_81 : decode cX12_image 81 = .ok (.getfield 35, 3) := by decide +kernel
theorem dX12_image_84 : decode cX12_image 84 = .ok (.iload_n 1, 1) := by decide +kernel
theorem dX12_image_85 : decode cX12_image 85 = .ok (.iaload, 1) := by decide +kernel
theorem dX12_image_86 : decode cX12_image 86 = .ok (.iastore, 1) := by decide +kernel
theorem dX12_image_87 : decode cX12_image 87 = .ok (.iinc 1 1, 3) := by decide +kernel
theorem dX12_image_90 : decode cX12_image 90 = .ok (.goto (-33), 3) := by decide +kernel
theorem dX12_image_93 : decode cX12_image 93 = .ok (.aload_n 0, 1) := by decide +kernel
theorem dX12_image_94 : decode cX12_image 94 = .ok (.getfield 13, 3) := by decide +kernel
theorem dX12_image_97 : decode cX12_image 97 = .ok (.ireturn, 1) := by decide +kernel
theorem dX12_undo_0 : decode cX12_undo 0 = .ok (.aload_n 0, 1) := by decide +kernel
theorem dX12_undo_1 : decode cX12_undo 1 = .ok (.getfield 174, 3) := by decide +kernel
theorem dX12_undo_4 : decode cX12_undo 4 = .ok (.ifCond .ne 6, 3) := by decide +kernel
theorem dX12_undo_7 : decode cX12_undo 7 = .ok (.bipush (-3), 2) := by decide +kernel
theorem dX12_undo_9 : decode cX12_undo 9 = .ok (.ireturn, 1) := by decide +kernel
theorem dX12_undo_10 : decode cX12_undo 10 = .ok (.aload_n 0, 1) := by decide +kernel
theorem dX12_undo_11 : decode cX12_undo 11 = .ok (.aload_n 0, 1) := by decide +kernel
theorem dX12_undo_12 : decode cX12_undo 12 = .ok (.getfield 178, 3) := by decide +kernel
theorem dX12_undo_15 : decode cX12_undo 15 = .ok (.putfield 41, 3) := by decide +kernel
theorem dX12_undo_18 : decode cX12_undo 18 = .ok (.aload_n 0, 1) := by decide +kernel
theorem dX12_undo_19 : decode cX12_undo 19 = .ok (.aload_n 0, 1) := by decide +kernel
theorem dX12_undo_20 : decode cX12_undo 20 = .ok (.getfield 184, 3) := by decide +kernel
theorem dX12_undo_23 : decode cX12_undo 23 = .ok (.putfield 13, 3) := by decide +kernel
theorem dX12_undo_26 : decode cX12_undo 26 = .ok (.iconst 0, 1) := by decide +kernel
theorem dX12_undo_27 : decode cX12_undo 27 = .ok (.istore_n 1, 1) := by decide +kernel
theorem dX12_undo_28 : decode cX12_undo 28 = .ok (.iload_n 1, 1) := by decide +kernel
theorem dX12_undo_29 : decode cX12_undo 29 = .ok (.aload_n 0, 1) := by decide +kernel
theorem dX12_undo_30 : decode cX12_undo 30 = .ok (.getfield 181, 3) := by decide +kernel
theorem dX12_undo_33 : decode cX12_undo 33 = .ok (.if_icmp .ge 21, 3) := by decide +kernel
theorem dX12_undo_36 : decode cX12_undo 36 = .ok (.aload_n 0, 1) := by decide +kernel
theorem dX12_undo_37 : decode cX12_undo 37 = .ok (.getfield 29, 3) := by decide +kernel
theorem dX12_undo_40 : decode cX12_undo 40 = .ok (.iload_n 1, 1) := by decide +kernel
theorem dX12_undo_41 : decode cX12_undo 41 = .ok (.aload_n 0, 1) := by decide +kernel
theorem dX12_undo_42 : decode cX12_undo 42 = .ok (.getfield 187, 3) := by decide +kernel
theorem dX12_undo_45 : decode cX12_undo 45 = .ok (.iload_n 1, 1) := by decide +kernel
theorem dX12_undo_46 : decode cX12_undo 46 = .ok (.iaload, 1) := by decide +kernel
theorem dX12_undo_47 : decode cX12_undo 47 = .ok (.iastore, 1) := by decide +kernel
theorem dX12_undo_48 : decode cX12_undo 48 = .ok (.iinc 1 1, 3) := by decide +kernel
theorem dX12_undo_51 : decode cX12_undo 51 = .ok (.goto (-23), 3) := by decide +kernel
theorem dX12_undo_54 : decode cX12_undo 54 = .ok (.iconst 0, 1) := by decide +kernel
theorem dX12_undo_55 : decode cX12_undo 55 = .ok (.istore_n 1, 1) := by decide +kernel
theorem dX12_undo_56 : decode cX12_undo 56 = .ok (.iload_n 1, 1) := by decide +kernel
theorem dX12_undo_57 : decode cX12_undo 57 = .ok (.bipush 12, 2) := by decide +kernel
theorem dX12_undo_59 : decode cX12_undo 59 = .ok (.if_icmp .ge 33, 3) := by decide +kernel
theorem dX12_undo_62 : decode cX12_undo 62 = .ok (.aload_n 0, 1) := by decide +kernel
theorem dX12_undo_63 : decode cX12_undo 63 = .ok (.getfield 32, 3) := by decide +kernel
theorem dX12_undo_66 : decode cX12_undo 66 = .ok (.iload_n 1, 1) := by decide +kernel
theorem dX12_undo_67 : decode cX12_undo 67 = .ok (.aload_n 0, 1) := by decide +kernel
theorem dX12_undo_68 : decode cX12_undo 68 = .ok (.getfield 190, 3) := by decide +kernel
theorem dX12_undo_71 : decode cX12_undo 71 = .ok (.iload_n 1, 1) := by decide +kernel
theorem dX12_undo_72 : decode cX12_undo 72 = .ok (.iaload, 1) := by decide +kernel
theorem dX12_undo_73 : decode cX12_undo 73 = .ok (.iastore, 1) := by decide +kernel
theorem dX12_undo_74 : decode cX12_undo 74 = .ok (.aload_n 0, 1) := by decide +kernel
theorem dX12_undo_75 : decode cX12_undo 75 = .ok (.getfield 35, 3) := by decide +kernel
theorem dX12_undo_78 : decode cX12_undo 78 = .ok (.iload_n 1, 1) := by decide +kernel
theorem dX12_undo_79 : decode cX12_undo 79 = .ok (.aload_n 0, 1) := by decide +kernel
theorem dX12_undo_80 : decode cX12_undo 80 = .ok (.getfield 193, 3) := by decide +kernel
theorem dX12_undo_83 : decode cX12_undo 83 = .ok (.iload_n 1, 1) := by decide +kernel
theorem dX12_undo_84 : decode cX12_undo 84 = .ok (.iaload, 1) := by decide +kernel
theorem dX12_undo_85 : decode cX12_undo 85 = .ok (.iastore, 1) := by decide +kernel
theorem dX12_undo_86 : decode cX12_undo 86 = .ok (.iinc 1 1, 3) := by decide +kernel
theorem dX12_undo_89 : decode cX12_undo 89 = .ok (.goto (-33), 3) := by decide +kernel
theorem dX12_undo_92 : decode cX12_undo 92 = .ok (.aload_n 0, 1) := by decide +kernel
theorem dX12_undo_93 : decode cX12_undo 93 = .ok (.getfield 13, 3) := by decide +kernel
theorem dX12_undo_96 : decode cX12_undo 96 = .ok (.ireturn, 1) := by decide +kernel
theorem dX12_body_0 : decode cX12_body 0 = .ok (.aload_n 0, 1) := by decide +kernel
theorem dX12_body_1 : decode cX12_body 1 = .ok (.getfield 196, 3) := by decide +kernel
theorem dX12_body_4 : decode cX12_body 4 = .ok (.bipush 20, 2) := by decide +kernel
theorem dX12_body_6 : decode cX12_body 6 = .ok (.if_icmp .ge 13, 3) := by decide +kernel
theorem dX12_body_9 : decode cX12_body 9 = .ok (.aload_n 0, 1) := by decide +kernel
theorem dX12_body_10 : decode cX12_body 10 = .ok (.getfield 199, 3) := by decide +kernel
theorem dX12_body_13 : decode cX12_body 13 = .ok (.aload_n 0, 1) := by decide +kernel
theorem dX12_body_14 : decode cX12_body 14 = .ok (.getfield 196, 3) := by decide +kernel
theorem dX12_body_17 : decode cX12_body 17 = .ok (.iload_n 1, 1) := by decide +kernel
theorem dX12_body_18 : decode cX12_body 18 = .ok (.iastore, 1) := by decide +kernel
theorem dX12_body_19 : decode cX12_body 19 = .ok (.aload_n 0, 1) := by decide +kernel
theorem dX12_body_20 : decode cX12_body 20 = .ok (.dup, 1) := by decide +kernel
theorem dX12_body_21 : decode cX12_body 21 = .ok (.getfield 196, 3) := by decide +kernel
theorem dX12_body_24 : decode cX12_body 24 = .ok (.iconst 1, 1) := by decide +kernel
theorem dX12_body_25 : decode cX12_body 25 = .ok (.iadd, 1) := by decide +kernel
theorem dX12_body_26 : decode cX12_body 26 = .ok (.putfield 196, 3) := by decide +kernel
theorem dX12_body_29 : decode cX12_body 29 = .ok (.return_, 1) := by decide +kernel
theorem dX12_plainJoins_0 : decode cX12_plainJoins 0 = .ok (.aload_n 0, 1) := by decide +kernel
theorem dX12_plainJoins_1 : decode cX12_plainJoins 1 = .ok (.bipush 10, 2) := by decide +kernel
theorem dX12_plainJoins_3 : decode cX12_plainJoins 3 = .ok (.invokevirtual 357, 3) := by decide +kernel
theorem dX12_plainJoins_6 : decode cX12_plainJoins 6 = .ok (.iload_n 2, 1) := by decide +kernel
theorem dX12_plainJoins_7 : decode cX12_plainJoins 7 = .ok (.iload_n 1, 1) := by decide +kernel
theorem dX12_plainJoins_8 : decode cX12_plainJoins 8 = .ok (.iadd, 1) := by decide +kernel
theorem dX12_plainJoins_9 : decode cX12_plainJoins 9 = .ok (.ireturn, 1) := by decide +kernel
theorem dX12_joinsAct_0 : decode cX12_joinsAct 0 = .ok (.aload_n 0, 1) := by decide +kernel
theorem dX12_joinsAct_1 : decode cX12_joinsAct 1 = .ok (.getfield 96, 3) := by decide +kernel
theorem dX12_joinsAct_4 : decode cX12_joinsAct 4 = .ok (.iload_n 1, 1) := by decide +kernel
theorem dX12_joinsAct_5 : decode cX12_joinsAct 5 = .ok (.iaload, 1) := by decide +kernel
theorem dX12_joinsAct_6 : decode cX12_joinsAct 6 = .ok (.tableswitch 83 2 6 #[34, 49, 34, 83, 63], 34) := by decide +kernel
theorem dX12_joinsAct_40 : decode cX12_joinsAct 40 = .ok (.aload_n 0, 1) := by decide +kernel
theorem dX12_joinsAct_41 : decode cX12_joinsAct 41 = .ok (.bipush 30, 2) := by decide +kernel
theorem dX12_joinsAct_43 : decode cX12_joinsAct 43 = .ok (.invokevirtual 357, 3) := by decide +kernel
theorem dX12_joinsAct_46 : decode cX12_joinsAct 46 = .ok (.aload_n 0, 1) := by decide +kernel
theorem dX12_joinsAct_47 : decode cX12_joinsAct 47 = .ok (.iload_n 1, 1) := by decide +kernel
theorem dX12_joinsAct_48 : decode cX12_joinsAct 48 = .ok (.iload_n 2, 1) := by decide +kernel
theorem dX12_joinsAct_49 : decode cX12_joinsAct 49 = .ok (.iconst 3, 1) := by decide +kernel
theorem dX12_joinsAct_50 : decode cX12_joinsAct 50 = .ok (.imul, 1) := by decide +kernel
theorem dX12_joinsAct_51 : decode cX12_joinsAct 51 = .ok (.invokevirtual 360, 3) := by decide +kernel
theorem dX12_joinsAct_54 : decode cX12_joinsAct 54 = .ok (.ireturn, 1) := by decide +kernel
theorem dX12_joinsAct_55 : decode cX12_joinsAct 55 = .ok (.aload_n 0, 1) := by decide +kernel
theorem dX12_joinsAct_56 : decode cX12_joinsAct 56 = .ok (.bipush 50, 2) := by decide +kernel
theorem dX12_joinsAct_58 : decode cX12_joinsAct 58 = .ok (.invokevirtual 357, 3) := by decide +kernel
theorem dX12_joinsAct_61 : decode cX12_joinsAct 61 = .ok (.aload_n 0, 1) := by decide +kernel
theorem dX12_joinsAct_62 : decode cX12_joinsAct 62 = .ok (.iload_n 1, 1) := by decide +kernel
theorem dX12_joinsAct_63 : decode cX12_joinsAct 63 = .ok (.iload_n 2, 1) := by decide +kernel
theorem dX12_joinsAct_64 : decode cX12_joinsAct 64 = .ok (.invokevirtual 360, 3) := by decide +kernel
theorem dX12_joinsAct_67 : decode cX12_joinsAct 67 = .ok (.ineg, 1) := by decide +kernel
theorem dX12_joinsAct_68 : decode cX12_joinsAct 68 = .ok (.ireturn, 1) := by decide +kernel
theorem dX12_joinsAct_69 : decode cX12_joinsAct 69 = .ok (.aload_n 0, 1) := by decide +kernel
theorem dX12_joinsAct_70 : decode cX12_joinsAct 70 = .ok (.bipush 71, 2) := by decide +kernel
theorem dX12_joinsAct_72 : decode cX12_joinsAct 72 = .ok (.invokevirtual 357, 3) := by decide +kernel
theorem dX12_joinsAct_75 : decode cX12_joinsAct 75 = .ok (.aload_n 0, 1) := by decide +kernel
theorem dX12_joinsAct_76 : decode cX12_joinsAct 76 = .ok (.iload_n 1, 1) := by decide +kernel
theorem dX12_joinsAct_77 : decode cX12_joinsAct 77 = .ok (.iload_n 2, 1) := by decide +kernel
theorem dX12_joinsAct_78 : decode cX12_joinsAct 78 = .ok (.invokevirtual 360, 3) := by decide +kernel
theorem dX12_joinsAct_81 : decode cX12_joinsAct 81 = .ok (.aload_n 0, 1) := by decide +kernel
theorem dX12_joinsAct_82 : decode cX12_joinsAct 82 = .ok (.getfield 99, 3) := by decide +kernel
theorem dX12_joinsAct_85 : decode cX12_joinsAct 85 = .ok (.iload_n 1, 1) := by decide +kernel
theorem dX12_joinsAct_86 : decode cX12_joinsAct 86 = .ok (.iaload, 1) := by decide +kernel
theorem dX12_joinsAct_87 : decode cX12_joinsAct 87 = .ok (.ixor, 1) := by decide +kernel
theorem dX12_joinsAct_88 : decode cX12_joinsAct 88 = .ok (.ireturn, 1) := by decide +kernel
theorem dX12_joinsAct_89 : decode cX12_joinsAct 89 = .ok (.aload_n 0, 1) := by decide +kernel
theorem dX12_joinsAct_90 : decode cX12_joinsAct 90 = .ok (.iload_n 1, 1) := by decide +kernel
theorem dX12_joinsAct_91 : decode cX12_joinsAct 91 = .ok (.iload_n 2, 1) := by decide +kernel
theorem dX12_joinsAct_92 : decode cX12_joinsAct 92 = .ok (.invokevirtual 360, 3) := by decide +kernel
theorem dX12_joinsAct_95 : decode cX12_joinsAct 95 = .ok (.ireturn, 1) := by decide +kernel
theorem dX12_plainTakes_0 : decode cX12_plainTakes 0 = .ok (.aload_n 0, 1) := by decide +kernel
theorem dX12_plainTakes_1 : decode cX12_plainTakes 1 = .ok (.bipush 11, 2) := by decide +kernel
theorem dX12_plainTakes_3 : decode cX12_plainTakes 3 = .ok (.invokevirtual 357, 3) := by decide +kernel
theorem dX12_plainTakes_6 : decode cX12_plainTakes 6 = .ok (.aload_n 0, 1) := by decide +kernel
theorem dX12_plainTakes_7 : decode cX12_plainTakes 7 = .ok (.iload_n 1, 1) := by decide +kernel
theorem dX12_plainTakes_8 : decode cX12_plainTakes 8 = .ok (.iload_n 2, 1) := by decide +kernel
theorem dX12_plainTakes_9 : decode cX12_plainTakes 9 = .ok (.invokevirtual 363, 3) := by decide +kernel
theorem dX12_plainTakes_12 : decode cX12_plainTakes 12 = .ok (.aload_n 0, 1) := by decide +kernel
theorem dX12_plainTakes_13 : decode cX12_plainTakes 13 = .ok (.getfield 99, 3) := by decide +kernel
theorem dX12_plainTakes_16 : decode cX12_plainTakes 16 = .ok (.iload_n 1, 1) := by decide +kernel
theorem dX12_plainTakes_17 : decode cX12_plainTakes 17 = .ok (.iaload, 1) := by decide +kernel
theorem dX12_plainTakes_18 : decode cX12_plainTakes 18 = .ok (.isub, 1) := by decide +kernel
theorem dX12_plainTakes_19 : decode cX12_plainTakes 19 = .ok (.ireturn, 1) := by decide +kernel
theorem dX12_firstTakes_0 : decode cX12_firstTakes 0 = .ok (.aload_n 0, 1) := by decide +kernel
theorem dX12_firstTakes_1 : decode cX12_firstTakes 1 = .ok (.bipush 20, 2) := by decide +kernel
theorem dX12_firstTakes_3 : decode cX12_firstTakes 3 = .ok (.invokevirtual 357, 3) := by decide +kernel
theorem dX12_firstTakes_6 : decode cX12_firstTakes 6 = .ok (.aload_n 0, 1) := by decide +kernel
theorem dX12_firstTakes_7 : decode cX12_firstTakes 7 = .ok (.iload_n 1, 1) := by decide +kernel
theorem dX12_firstTakes_8 : decode cX12_firstTakes 8 = .ok (.iload_n 2, 1) := by decide +kernel
theorem dX12_firstTakes_9 : decode cX12_firstTakes 9 = .ok (.invokevirtual 366, 3) := by decide +kernel
theorem dX12_firstTakes_12 : decode cX12_firstTakes 12 = .ok (.bipush 6, 2) := by decide +kernel
theorem dX12_firstTakes_14 : decode cX12_firstTakes 14 = .ok (.ixor, 1) := by decide +kernel
theorem dX12_firstTakes_15 : decode cX12_firstTakes 15 = .ok (.ireturn, 1) := by decide +kernel
theorem dX12_takesAct_0 : decode cX12_takesAct 0 = .ok (.aload_n 0, 1) := by decide +kernel
theorem dX12_takesAct_1 : decode cX12_takesAct 1 = .ok (.getfield 96, 3) := by decide +kernel
theorem dX12_takesAct_4 : decode cX12_takesAct 4 = .ok (.iload_n 1, 1) := by decide +kernel
theorem dX12_takesAct_5 : decode cX12_takesAct 5 = .ok (.iaload, 1) := by decide +kernel
theorem dX12_takesAct_6 : decode cX12_takesAct 6 = .ok (.lookupswitch 78 #[(1, 34), (3, 41), (6, 56)], 34) := by decide +kernel
theorem dX12_takesAct_40 : decode cX12_takesAct 40 = .ok (.aload_n 0, 1) := by decide +kernel
theorem dX12_takesAct_41 : decode cX12_takesAct 41 = .ok (.iload_n 1, 1) := by decide +kernel
theorem dX12_takesAct_42 : decode cX12_takesAct 42 = .ok (.iload_n 2, 1) := by decide +kernel
theorem dX12_takesAct_43 : decode cX12_takesAct 43 = .ok (.invokevirtual 369, 3) := by decide +kernel
theorem dX12_takesAct_46 : decode cX12_takesAct 46 = .ok (.ireturn, 1) := by decide +kernel
theorem dX12_takesAct_47 : decode cX12_takesAct 47 = .ok (.aload_n 0, 1) := by decide +kernel
theorem dX12_takesAct_48 : decode cX12_takesAct 48 = .ok (.bipush 51, 2) := by decide +kernel
theorem dX12_takesAct_50 : decode cX12_takesAct 50 = .ok (.invokevirtual 357, 3) := by decide +kernel
theorem dX12_takesAct_53 : decode cX12_takesAct 53 = .ok (.aload_n 0, 1) := by decide +kernel
theorem dX12_takesAct_54 : decode cX12_takesAct 54 = .ok (.iload_n 1, 1) := by decide +kernel
theorem dX12_takesAct_55 : decode cX12_takesAct 55 = .ok (.iload_n 2, 1) := by decide +kernel
theorem dX12_takesAct_56 : decode cX12_takesAct 56 = .ok (.iconst 1, 1) := by decide +kernel
theorem dX12_takesAct_57 : decode cX12_takesAct 57 = .ok (.iadd, 1) := by decide +kernel
theorem dX12_takesAct_58 : decode cX12_takesAct 58 = .ok (.invokevirtual 369, 3) := by decide +kernel
theorem dX12_takesAct_61 : decode cX12_takesAct 61 = .ok (.ireturn, 1) := by decide +kernel
theorem dX12_takesAct_62 : decode cX12_takesAct 62 = .ok (.aload_n 0, 1) := by decide +kernel
theorem dX12_takesAct_63 : decode cX12_takesAct 63 = .ok (.bipush 70, 2) := by decide +kernel
theorem dX12_takesAct_65 : decode cX12_takesAct 65 = .ok (.invokevirtual 357, 3) := by decide +kernel
theorem dX12_takesAct_68 : decode cX12_takesAct 68 = .ok (.aload_n 0, 1) := by decide +kernel
theorem dX12_takesAct_69 : decode cX12_takesAct 69 = .ok (.iload_n 1, 1) := by decide +kernel
theorem dX12_takesAct_70 : decode cX12_takesAct 70 = .ok (.iload_n 2, 1) := by decide +kernel
theorem dX12_takesAct_71 : decode cX12_takesAct 71 = .ok (.invokevirtual 369, 3) := by decide +kernel
theorem dX12_takesAct_74 : decode cX12_takesAct 74 = .ok (.istore_n 3, 1) := by decide +kernel
theorem dX12_takesAct_75 : decode cX12_takesAct 75 = .ok (.iload_n 3, 1) := by decide +kernel
theorem dX12_takesAct_76 : decode cX12_takesAct 76 = .ok (.aload_n 0, 1) := by decide +kernel
theorem dX12_takesAct_77 : decode cX12_takesAct 77 = .ok (.iload_n 1, 1) := by decide +kernel
theorem dX12_takesAct_78 : decode cX12_takesAct 78 = .ok (.iconst 2, 1) := by decide +kernel
theorem dX12_takesAct_79 : decode cX12_takesAct 79 = .ok (.invokevirtual 360, 3) := by decide +kernel
theorem dX12_takesAct_82 : decode cX12_takesAct 82 = .ok (.iadd, 1) := by decide +kernel
theorem dX12_takesAct_83 : decode cX12_takesAct 83 = .ok (.ireturn, 1) := by decide +kernel
theorem dX12_takesAct_84 : decode cX12_takesAct 84 = .ok (.aload_n 0, 1) := by decide +kernel
theorem dX12_takesAct_85 : decode cX12_takesAct 85 = .ok (.iload_n 1, 1) := by decide +kernel
theorem dX12_takesAct_86 : decode cX12_takesAct 86 = .ok (.iload_n 2, 1) := by decide +kernel
theorem dX12_takesAct_87 : decode cX12_takesAct 87 = .ok (.invokevirtual 366, 3) := by decide +kernel
theorem dX12_takesAct_90 : decode cX12_takesAct 90 = .ok (.ireturn, 1) := by decide +kernel
theorem dX12_plainTells_0 : decode cX12_plainTells 0 = .ok (.aload_n 0, 1) := by decide +kernel
theorem dX12_plainTells_1 : decode cX12_plainTells 1 = .ok (.bipush 12, 2) := by decide +kernel
theorem dX12_plainTells_3 : decode cX12_plainTells 3 = .ok (.invokevirtual 357, 3) := by decide +kernel
theorem dX12_plainTells_6 : decode cX12_plainTells 6 = .ok (.aload_n 0, 1) := by decide +kernel
theorem dX12_plainTells_7 : decode cX12_plainTells 7 = .ok (.iload_n 1, 1) := by decide +kernel
theorem dX12_plainTells_8 : decode cX12_plainTells 8 = .ok (.iload_n 2, 1) := by decide +kernel
theorem dX12_plainTells_9 : decode cX12_plainTells 9 = .ok (.invokevirtual 372, 3) := by decide +kernel
theorem dX12_plainTells_12 : decode cX12_plainTells 12 = .ok (.iconst 2, 1) := by decide +kernel
theorem dX12_plainTells_13 : decode cX12_plainTells 13 = .ok (.imul, 1) := by decide +kernel
theorem dX12_plainTells_14 : decode cX12_plainTells 14 = .ok (.ireturn, 1) := by decide +kernel
theorem dX12_tellsAct_0 : decode cX12_tellsAct 0 = .ok (.aload_n 0, 1) := by decide +kernel
theorem dX12_tellsAct_1 : decode cX12_tellsAct 1 = .ok (.getfield 96, 3) := by decide +kernel
theorem dX12_tellsAct_4 : decode cX12_tellsAct 4 = .ok (.iload_n 1, 1) := by decide +kernel
theorem dX12_tellsAct_5 : decode cX12_tellsAct 5 = .ok (.iaload, 1) := by decide +kernel
theorem dX12_tellsAct_6 : decode cX12_tellsAct 6 = .ok (.lookupswitch 63 #[(4, 48), (5, 26)], 26) := by decide +kernel
theorem dX12_tellsAct_32 : decode cX12_tellsAct 32 = .ok (.aload_n 0, 1) := by decide +kernel
theorem dX12_tellsAct_33 : decode cX12_tellsAct 33 = .ok (.bipush 40, 2) := by decide +kernel
theorem dX12_tellsAct_35 : decode cX12_tellsAct 35 = .ok (.invokevirtual 357, 3) := by decide +kernel
theorem dX12_tellsAct_38 : decode cX12_tellsAct 38 = .ok (.aload_n 0, 1) := by decide +kernel
theorem dX12_tellsAct_39 : decode cX12_tellsAct 39 = .ok (.iload_n 1, 1) := by decide +kernel
theorem dX12_tellsAct_40 : decode cX12_tellsAct 40 = .ok (.iload_n 2, 1) := by decide +kernel
theorem dX12_tellsAct_41 : decode cX12_tellsAct 41 = .ok (.invokevirtual 375, 3) := by decide +kernel
theorem dX12_tellsAct_44 : decode cX12_tellsAct 44 = .ok (.istore_n 3, 1) := by decide +kernel
theorem dX12_tellsAct_45 : decode cX12_tellsAct 45 = .ok (.iload_n 3, 1) := by decide +kernel
theorem dX12_tellsAct_46 : decode cX12_tellsAct 46 = .ok (.aload_n 0, 1) := by decide +kernel
theorem dX12_tellsAct_47 : decode cX12_tellsAct 47 = .ok (.iload_n 1, 1) := by decide +kernel
theorem dX12_tellsAct_48 : decode cX12_tellsAct 48 = .ok (.iconst 1, 1) := by decide +kernel
theorem dX12_tellsAct_49 : decode cX12_tellsAct 49 = .ok (.invokevirtual 372, 3) := by decide +kernel
theorem dX12_tellsAct_52 : decode cX12_tellsAct 52 = .ok (.iadd, 1) := by decide +kernel
theorem dX12_tellsAct_53 : decode cX12_tellsAct 53 = .ok (.ireturn, 1) := by decide +kernel
theorem dX12_tellsAct_54 : decode cX12_tellsAct 54 = .ok (.aload_n 0, 1) := by decide +kernel
theorem dX12_tellsAct_55 : decode cX12_tellsAct 55 = .ok (.bipush 60, 2) := by decide +kernel
theorem dX12_tellsAct_57 : decode cX12_tellsAct 57 = .ok (.invokevirtual 357, 3) := by decide +kernel
theorem dX12_tellsAct_60 : decode cX12_tellsAct 60 = .ok (.aload_n 0, 1) := by decide +kernel
theorem dX12_tellsAct_61 : decode cX12_tellsAct 61 = .ok (.iload_n 1, 1) := by decide +kernel
theorem dX12_tellsAct_62 : decode cX12_tellsAct 62 = .ok (.iload_n 2, 1) := by decide +kernel
theorem dX12_tellsAct_63 : decode cX12_tellsAct 63 = .ok (.iload_n 1, 1) := by decide +kernel
theorem dX12_tellsAct_64 : decode cX12_tellsAct 64 = .ok (.isub, 1) := by decide +kernel
theorem dX12_tellsAct_65 : decode cX12_tellsAct 65 = .ok (.invokevirtual 375, 3) := by decide +kernel
theorem dX12_tellsAct_68 : decode cX12_tellsAct 68 = .ok (.ireturn, 1) := by decide +kernel
theorem dX12_tellsAct_69 : decode cX12_tellsAct 69 = .ok (.aload_n 0, 1) := by decide +kernel
theorem dX12_tellsAct_70 : decode cX12_tellsAct 70 = .ok (.iload_n 1, 1) := by decide +kernel
theorem dX12_tellsAct_71 : decode cX12_tellsAct 71 = .ok (.iload_n 2, 1) := by decide +kernel
theorem dX12_tellsAct_72 : decode cX12_tellsAct 72 = .ok (.invokevirtual 375, 3) := by decide +kernel
theorem dX12_tellsAct_75 : decode cX12_tellsAct 75 = .ok (.ireturn, 1) := by decide +kernel
theorem dX12_act_0 : decode cX12_act 0 = .ok (.aload_n 0, 1) := by decide +kernel
theorem dX12_act_1 : decode cX12_act 1 = .ok (.iconst 0, 1) := by decide +kernel
theorem dX12_act_2 : decode cX12_act 2 = .ok (.putfield 196, 3) := by decide +kernel
theorem dX12_act_5 : decode cX12_act 5 = .ok (.aload_n 0, 1) := by decide +kernel
theorem dX12_act_6 : decode cX12_act 6 = .ok (.iload_n 1, 1) := by decide +kernel
theorem dX12_act_7 : decode cX12_act 7 = .ok (.invokevirtual 294, 3) := by decide +kernel
theorem dX12_act_10 : decode cX12_act 10 = .ok (.ifCond .eq 13, 3) := by decide +kernel
theorem dX12_act_13 : decode cX12_act 13 = .ok (.aload_n 0, 1) := by decide +kernel
theorem dX12_act_14 : decode cX12_act 14 = .ok (.iload_n 2, 1) := by decide +kernel
theorem dX12_act_15 : decode cX12_act 15 = .ok (.iconst 0, 1) := by decide +kernel
theorem dX12_act_16 : decode cX12_act 16 = .ok (.iconst 2, 1) := by decide +kernel
theorem dX12_act_17 : decode cX12_act 17 = .ok (.invokevirtual 215, 3) := by decide +kernel
theorem dX12_act_20 : decode cX12_act 20 = .ok (.ifCond .ne 5, 3) := by decide +kernel
theorem dX12_act_23 : decode cX12_act 23 = .ok (.iconst 0, 1) := by decide +kernel
theorem dX12_act_24 : decode cX12_act 24 = .ok (.ireturn, 1) := by decide +kernel
theorem dX12_act_25 : decode cX12_act 25 = .ok (.iload_n 2, 1) := by decide +kernel
theorem dX12_act_26 : decode cX12_act 26 = .ok (.ifCond .ne 12, 3) := by decide +kernel
theorem dX12_act_29 : decode cX12_act 29 = .ok (.aload_n 0, 1) := by decide +kernel
theorem dX12_act_30 : decode cX12_act 30 = .ok (.iload_n 1, 1) := by decide +kernel
theorem dX12_act_31 : decode cX12_act 31 = .ok (.iload_n 3, 1) := by decide +kernel
theorem dX12_act_32 : decode cX12_act 32 = .ok (.invokevirtual 363, 3) := by decide +kernel
theorem dX12_act_35 : decode cX12_act 35 = .ok (.goto 23, 3) := by decide +kernel
theorem dX12_act_38 : decode cX12_act 38 = .ok (.iload_n 2, 1) := by decide +kernel
theorem dX12_act_39 : decode cX12_act 39 = .ok (.iconst 1, 1) := by decide +kernel
theorem dX12_act_40 : decode cX12_act 40 = .ok (.if_icmp .ne 12, 3) := by decide +kernel
theorem dX12_act_43 : decode cX12_act 43 = .ok (.aload_n 0, 1) := by decide +kernel
theorem dX12_act_44 : decode cX12_act 44 = .ok (.iload_n 1, 1) := by decide +kernel
theorem dX12_act_45 : decode cX12_act 45 = .ok (.iload_n 3, 1) := by decide +kernel
theorem dX12_act_46 : decode cX12_act 46 = .ok (.invokevirtual 372, 3) := by decide +kernel
theorem dX12_act_49 : decode cX12_act 49 = .ok (.goto 9, 3) := by decide +kernel
theorem dX12_act_52 : decode cX12_act 52 = .ok (.aload_n 0, 1) := by decide +kernel
theorem dX12_act_53 : decode cX12_act 53 = .ok (.iload_n 1, 1) := by decide +kernel
theorem dX12_act_54 : decode cX12_act 54 = .ok (.iload_n 3, 1) := by decide +kernel
theorem dX12_act_55 : decode cX12_act 55 = .ok (.invokevirtual 378, 3) := by decide +kernel
theorem dX12_act_58 : decode cX12_act 58 = .ok (.ireturn, 1) := by decide +kernel
theorem dX12_trace_0 : decode cX12_trace 0 = .ok (.aload_n 0, 1) := by decide +kernel
theorem dX12_trace_1 : decode cX12_trace 1 = .ok (.iload_n 1, 1) := by decide +kernel
theorem dX12_trace_2 : decode cX12_trace 2 = .ok (.iconst 0, 1) := by decide +kernel
theorem dX12_trace_3 : decode cX12_trace 3 = .ok (.bipush 19, 2) := by decide +kernel
theorem dX12_trace_5 : decode cX12_trace 5 = .ok (.invokevirtual 215, 3) := by decide +kernel
theorem dX12_trace_8 : decode cX12_trace 8 = .ok (.ifCond .eq 20, 3) := by decide +kernel
theorem dX12_trace_11 : decode cX12_trace 11 = .ok (.iload_n 1, 1) := by decide +kernel
theorem dX12_trace_12 : decode cX12_trace 12 = .ok (.aload_n 0, 1) := by decide +kernel
theorem dX12_trace_13 : decode cX12_trace 13 = .ok (.getfield 196, 3) := by decide +kernel
theorem dX12_trace_16 : decode cX12_trace 16 = .ok (.if_icmp .ge 12, 3) := by decide +kernel
theorem dX12_trace_19 : decode cX12_trace 19 = .ok (.aload_n 0, 1) := by decide +kernel
theorem dX12_trace_20 : decode cX12_trace 20 = .ok (.getfield 199, 3) := by decide +kernel
theorem dX12_trace_23 : decode cX12_trace 23 = .ok (.iload_n 1, 1) := by decide +kernel
theorem dX12_trace_24 : decode cX12_trace 24 = .ok (.iaload, 1) := by decide +kernel
theorem dX12_trace_25 : decode cX12_trace 25 = .ok (.goto 4, 3) := by decide +kernel
theorem dX12_trace_28 : decode cX12_trace 28 = .ok (.iconst (-1), 1) := by decide +kernel
theorem dX12_trace_29 : decode cX12_trace 29 = .ok (.ireturn, 1) := by decide +kernel
theorem dX12_taken_0 : decode cX12_taken 0 = .ok (.aload_n 0, 1) := by decide +kernel
theorem dX12_taken_1 : decode cX12_taken 1 = .ok (.iload_n 2, 1) := by decide +kernel
theorem dX12_taken_2 : decode cX12_taken 2 = .ok (.iconst 0, 1) := by decide +kernel
theorem dX12_taken_3 : decode cX12_taken 3 = .ok (.bipush 6, 2) := by decide +kernel
theorem dX12_taken_5 : decode cX12_taken 5 = .ok (.invokevirtual 215, 3) := by decide +kernel
theorem dX12_taken_8 : decode cX12_taken 8 = .ok (.ifCond .ne 6, 3) := by decide +kernel
theorem dX12_taken_11 : decode cX12_taken 11 = .ok (.bipush (-2), 2) := by decide +kernel
theorem dX12_taken_13 : decode cX12_taken 13 = .ok (.ireturn, 1) := by decide +kernel
theorem dX12_taken_14 : decode cX12_taken 14 = .ok (.aload_n 0, 1) := by decide +kernel
theorem dX12_taken_15 : decode cX12_taken 15 = .ok (.iload_n 1, 1) := by decide +kernel
theorem dX12_taken_16 : decode cX12_taken 16 = .ok (.invokevirtual 294, 3) := by decide +kernel
theorem dX12_taken_19 : decode cX12_taken 19 = .ok (.ifCond .ne 6, 3) := by decide +kernel
theorem dX12_taken_22 : decode cX12_taken 22 = .ok (.bipush (-11), 2) := by decide +kernel
theorem dX12_taken_24 : decode cX12_taken 24 = .ok (.ireturn, 1) := by decide +kernel
theorem dX12_taken_25 : decode cX12_taken 25 = .ok (.aload_n 0, 1) := by decide +kernel
theorem dX12_taken_26 : decode cX12_taken 26 = .ok (.getfield 96, 3) := by decide +kernel
theorem dX12_taken_29 : decode cX12_taken 29 = .ok (.iload_n 1, 1) := by decide +kernel
theorem dX12_taken_30 : decode cX12_taken 30 = .ok (.iaload, 1) := by decide +kernel
theorem dX12_taken_31 : decode cX12_taken 31 = .ok (.istore_n 3, 1) := by decide +kernel
theorem dX12_taken_32 : decode cX12_taken 32 = .ok (.iload_n 2, 1) := by decide +kernel
theorem dX12_taken_33 : decode cX12_taken 33 = .ok (.ifCond .eq 34, 3) := by decide +kernel
theorem dX12_taken_36 : decode cX12_taken 36 = .ok (.iload_n 3, 1) := by decide +kernel
theorem dX12_taken_37 : decode cX12_taken 37 = .ok (.iload_n 2, 1) := by decide +kernel
theorem dX12_taken_38 : decode cX12_taken 38 = .ok (.if_icmp .eq 29, 3) := by decide +kernel
theorem dX12_taken_41 : decode cX12_taken 41 = .ok (.iload_n 2, 1) := by decide +kernel
theorem dX12_taken_42 : decode cX12_taken 42 = .ok (.iconst 1, 1) := by decide +kernel
theorem dX12_taken_43 : decode cX12_taken 43 = .ok (.if_icmp .ne 14, 3) := by decide +kernel
theorem dX12_taken_46 : decode cX12_taken 46 = .ok (.iload_n 3, 1) := by decide +kernel
theorem dX12_taken_47 : decode cX12_taken 47 = .ok (.iconst 3, 1) := by decide +kernel
theorem dX12_taken_48 : decode cX12_taken 48 = .ok (.if_icmp .eq 19, 3) := by decide +kernel
theorem dX12_taken_51 : decode cX12_taken 51 = .ok (.iload_n 3, 1) := by decide +kernel
theorem dX12_taken_52 : decode cX12_taken 52 = .ok (.bipush 6, 2) := by decide +kernel
theorem dX12_taken_54 : decode cX12_taken 54 = .ok (.if_icmp .eq 13, 3) := by decide +kernel
theorem dX12_taken_57 : decode cX12_taken 57 = .ok (.iload_n 2, 1) := by decide +kernel
theorem dX12_taken_58 : decode cX12_taken 58 = .ok (.iconst 2, 1) := by decide +kernel
theorem dX12_taken_59 : decode cX12_taken 59 = .ok (.if_icmp .ne 12, 3) := by decide +kernel
theorem dX12_taken_62 : decode cX12_taken 62 = .ok (.iload_n 3, 1) := by decide +kernel
theorem dX12_taken_63 : decode cX12_taken 63 = .ok (.iconst 4, 1) := by decide +kernel
theorem dX12_taken_64 : decode cX12_taken 64 = .ok (.if_icmp .ne 7, 3) := by decide +kernel
theorem dX12_taken_67 : decode cX12_taken 67 = .ok (.iload_n 3, 1) := by decide +kernel
theorem dX12_taken_68 : decode cX12_taken 68 = .ok (.goto 5, 3) := by decide +kernel
theorem dX12_taken_71 : decode cX12_taken 71 = .ok (.bipush (-12), 2) := by decide +kernel
theorem dX12_taken_73 : decode cX12_taken 73 = .ok (.ireturn, 1) := by decide +kernel
theorem dX12_count_0 : decode cX12_count 0 = .ok (.iload_n 1, 1) := by decide +kernel
theorem dX12_count_1 : decode cX12_count 1 = .ok (.tableswitch 69 0 5 #[39, 44, 49, 54, 59, 64], 39) := by decide +kernel
theorem dX12_count_40 : decode cX12_count 40 = .ok (.aload_n 0, 1) := by decide +kernel
theorem dX12_count_41 : decode cX12_count 41 = .ok (.getfield 7, 3) := by decide +kernel
theorem dX12_count_44 : decode cX12_count 44 = .ok (.ireturn, 1) := by decide +kernel
theorem dX12_count_45 : decode cX12_count 45 = .ok (.aload_n 0, 1) := by decide +kernel
theorem dX12_count_46 : decode cX12_count 46 = .ok (.getfield 38, 3) := by decide +kernel
theorem dX12_count_49 : decode cX12_count 49 = .ok (.ireturn, 1) := by decide +kernel
theorem dX12_count_50 : decode cX12_count 50 = .ok (.aload_n 0, 1) := by decide +kernel
theorem dX12_count_51 : decode cX12_count 51 = .ok (.getfield 93, 3) := by decide +kernel
theorem dX12_count_54 : decode cX12_count 54 = .ok (.ireturn, 1) := by decide +kernel
theorem dX12_count_55 : decode cX12_count 55 = .ok (.aload_n 0, 1) := by decide +kernel
theorem dX12_count_56 : decode cX12_count 56 = .ok (.getfield 13, 3) := by decide +kernel
theorem dX12_count_59 : decode cX12_count 59 = .ok (.ireturn, 1) := by decide +kernel
theorem dX12_count_60 : decode cX12_count 60 = .ok (.aload_n 0, 1) := by decide +kernel
theorem dX12_count_61 : decode cX12_count 61 = .ok (.getfield 44, 3) := by decide +kernel
theorem dX12_count_64 : decode cX12_count 64 = .ok (.ireturn, 1) := by decide +kernel
theorem dX12_count_65 : decode cX12_count 65 = .ok (.aload_n 0, 1) := by decide +kernel
theorem dX12_count_66 : decode cX12_count 66 = .ok (.getfield 196, 3) := by decide +kernel
theorem dX12_count_69 : decode cX12_count 69 = .ok (.ireturn, 1) := by decide +kernel
theorem dX12_count_70 : decode cX12_count 70 = .ok (.bipush (-2), 2) := by decide +kernel
theorem dX12_count_72 : decode cX12_count 72 = .ok (.ireturn, 1) := by decide +kernel
theorem dX12_isTape_0 : decode cX12_isTape 0 = .ok (.aload_n 0, 1) := by decide +kernel
theorem dX12_isTape_1 : decode cX12_isTape 1 = .ok (.iload_n 1, 1) := by decide +kernel
theorem dX12_isTape_2 : decode cX12_isTape 2 = .ok (.iconst 0, 1) := by decide +kernel
theorem dX12_isTape_3 : decode cX12_isTape 3 = .ok (.iconst 5, 1) := by decide +kernel
theorem dX12_isTape_4 : decode cX12_isTape 4 = .ok (.invokevirtual 215, 3) := by decide +kernel
theorem dX12_isTape_7 : decode cX12_isTape 7 = .ok (.ireturn, 1) := by decide +kernel
theorem dX12_tape_0 : decode cX12_tape 0 = .ok (.aload_n 0, 1) := by decide +kernel
theorem dX12_tape_1 : decode cX12_tape 1 = .ok (.iload_n 1, 1) := by decide +kernel
theorem dX12_tape_2 : decode cX12_tape 2 = .ok (.invokevirtual 354, 3) := by decide +kernel
theorem dX12_tape_5 : decode cX12_tape 5 = .ok (.ifCond .ne 5, 3) := by decide +kernel
theorem dX12_tape_8 : decode cX12_tape 8 = .ok (.iconst (-1), 1) := by decide +kernel
theorem dX12_tape_9 : decode cX12_tape 9 = .ok (.ireturn, 1) := by decide +kernel
theorem dX12_tape_10 : decode cX12_tape 10 = .ok (.aload_n 0, 1) := by decide +kernel
theorem dX12_tape_11 : decode cX12_tape 11 = .ok (.iload_n 2, 1) := by decide +kernel
theorem dX12_tape_12 : decode cX12_tape 12 = .ok (.iconst (-1), 1) := by decide +kernel
theorem dX12_tape_13 : decode cX12_tape 13 = .ok (.iconst 4, 1) := by decide +kernel
theorem dX12_tape_14 : decode cX12_tape 14 = .ok (.invokevirtual 215, 3) := by decide +kernel
theorem dX12_tape_17 : decode cX12_tape 17 = .ok (.ifCond .eq 13, 3) := by decide +kernel
theorem dX12_tape_20 : decode cX12_tape 20 = .ok (.iload_n 2, 1) := by decide +kernel
theorem dX12_tape_21 : decode cX12_tape 21 = .ok (.ifCond .lt 12, 3) := by decide +kernel
theorem dX12_tape_24 : decode cX12_tape 24 = .ok (.iload_n 3, 1) := by decide +kernel
theorem dX12_tape_25 : decode cX12_tape 25 = .ok (.bipush 60, 2) := by decide +kernel
theorem dX12_tape_27 : decode cX12_tape 27 = .ok (.if_icmp .le 6, 3) := by decide +kernel
theorem dX12_tape_30 : decode cX12_tape 30 = .ok (.bipush (-2), 2) := by decide +kernel
theorem dX12_tape_32 : decode cX12_tape 32 = .ok (.ireturn, 1) := by decide +kernel
theorem dX12_tape_33 : decode cX12_tape 33 = .ok (.iload_n 2, 1) := by decide +kernel
theorem dX12_tape_34 : decode cX12_tape 34 = .ok (.ifCond .lt 10, 3) := by decide +kernel
theorem dX12_tape_37 : decode cX12_tape 37 = .ok (.iload_n 3, 1) := by decide +kernel
theorem dX12_tape_38 : decode cX12_tape 38 = .ok (.ifCond .ge 6, 3) := by decide +kernel
theorem dX12_tape_41 : decode cX12_tape 41 = .ok (.bipush (-14), 2) := by decide +kernel
theorem dX12_tape_43 : decode cX12_tape 43 = .ok (.ireturn, 1) := by decide +kernel
theorem dX12_tape_44 : decode cX12_tape 44 = .ok (.aload_n 0, 1) := by decide +kernel
theorem dX12_tape_45 : decode cX12_tape 45 = .ok (.getfield 202, 3) := by decide +kernel
theorem dX12_tape_48 : decode cX12_tape 48 = .ok (.iload_n 1, 1) := by decide +kernel
theorem dX12_tape_49 : decode cX12_tape 49 = .ok (.iload_n 2, 1) := by decide +kernel
theorem dX12_tape_50 : decode cX12_tape 50 = .ok (.iastore, 1) := by decide +kernel
theorem dX12_tape_51 : decode cX12_tape 51 = .ok (.aload_n 0, 1) := by decide +kernel
theorem dX12_tape_52 : decode cX12_tape 52 = .ok (.getfield 205, 3) := by decide +kernel
theorem dX12_tape_55 : decode cX12_tape 55 = .ok (.iload_n 1, 1) := by decide +kernel
theorem dX12_tape_56 : decode cX12_tape 56 = .ok (.iload_n 2, 1) := by decide +kernel
theorem dX12_tape_57 : decode cX12_tape 57 = .ok (.ifCond .ge 7, 3) := by decide +kernel
theorem dX12_tape_60 : decode cX12_tape 60 = .ok (.iconst 0, 1) := by decide +kernel
theorem dX12_tape_61 : decode cX12_tape 61 = .ok (.goto 4, 3) := by decide +kernel
theorem dX12_tape_64 : decode cX12_tape 64 = .ok (.iload_n 3, 1) := by decide +kernel
theorem dX12_tape_65 : decode cX12_tape 65 = .ok (.iastore, 1) := by decide +kernel
theorem dX12_tape_66 : decode cX12_tape 66 = .ok (.iconst 0, 1) := by decide +kernel
theorem dX12_tape_67 : decode cX12_tape 67 = .ok (.istore 4, 2) := by decide +kernel
theorem dX12_tape_69 : decode cX12_tape 69 = .ok (.iload 4, 2) := by decide +kernel
theorem dX12_tape_71 : decode cX12_tape 71 = .ok (.bipush 60, 2) := by decide +kernel
theorem dX12_tape_73 : decode cX12_tape 73 = .ok (.if_icmp .ge 22, 3) := by decide +kernel
theorem dX12_tape_76 : decode cX12_tape 76 = .ok (.aload_n 0, 1) := by decide +kernel
theorem dX12_tape_77 : decode cX12_tape 77 = .ok (.getfield 208, 3) := by decide +kernel
theorem dX12_tape_80 : decode cX12_tape 80 = .ok (.bipush 60, 2) := by decide +kernel
theorem dX12_tape_82 : decode cX12_tape 82 = .ok (.iload_n 1, 1) := by decide +kernel
theorem dX12_tape_83 : decode cX12_tape 83 = .ok (.imul, 1) := by decide +kernel
theorem dX12_tape_84 : decode cX12_tape 84 = .ok (.iload 4, 2) := by decide +kernel
theorem dX12_tape_86 : decode cX12_tape 86 = .ok (.iadd, 1) := by decide +kernel
theorem dX12_tape_87 : decode cX12_tape 87 = .ok (.lconst 0, 1) := by decide +kernel
theorem dX12_tape_88 : decode cX12_tape 88 = .ok (.lastore, 1) := by decide +kernel
theorem dX12_tape_89 : decode cX12_tape 89 = .ok (.iinc 4 1, 3) := by decide +kernel
theorem dX12_tape_92 : decode cX12_tape 92 = .ok (.goto (-23), 3) := by decide +kernel
theorem dX12_tape_95 : decode cX12_tape 95 = .ok (.iconst 1, 1) := by decide +kernel
theorem dX12_tape_96 : decode cX12_tape 96 = .ok (.ireturn, 1) := by decide +kernel
theorem dX12_narrow_0 : decode cX12_narrow 0 = .ok (.iload_n 1, 1) := by decide +kernel
theorem dX12_narrow_1 : decode cX12_narrow 1 = .ok (.ifCond .ne 10, 3) := by decide +kernel
theorem dX12_narrow_4 : decode cX12_narrow 4 = .ok (.lload_n 2, 1) := by decide +kernel
theorem dX12_narrow_5 : decode cX12_narrow 5 = .ok (.l2i, 1) := by decide +kernel
theorem dX12_narrow_6 : decode cX12_narrow 6 = .ok (.i2b, 1) := by decide +kernel
theorem dX12_narrow_7 : decode cX12_narrow 7 = .ok (.i2l, 1) := by decide +kernel
theorem dX12_narrow_8 : decode cX12_narrow 8 = .ok (.goto 46, 3) := by decide +kernel
theorem dX12_narrow_11 : decode cX12_narrow 11 = .ok (.iload_n 1, 1) := by decide +kernel
theorem dX12_narrow_12 : decode cX12_narrow 12 = .ok (.iconst 1, 1) := by decide +kernel
theorem dX12_narrow_13 : decode cX12_narrow 13 = .ok (.if_icmp .ne 10, 3) := by decide +kernel
theorem dX12_narrow_16 : decode cX12_narrow 16 = .ok (.lload_n 2, 1) := by decide +kernel
theorem dX12_narrow_17 : decode cX12_narrow 17 = .ok (.l2i, 1) := by decide +kernel
theorem dX12_narrow_18 : decode cX12_narrow 18 = .ok (.i2s, 1) := by decide +kernel
theorem dX12_narrow_19 : decode cX12_narrow 19 = .ok (.i2l, 1) := by decide +kernel
theorem dX12_narrow_20 : decode cX12_narrow 20 = .ok (.goto 34, 3) := by decide +kernel
theorem dX12_narrow_23 : decode cX12_narrow 23 = .ok (.iload_n 1, 1) := by decide +kernel
theorem dX12_narrow_24 : decode cX12_narrow 24 = .ok (.iconst 2, 1) := by decide +kernel
theorem dX12_narrow_25 : decode cX12_narrow 25 = .ok (.if_icmp .ne 9, 3) := by decide +kernel
theorem dX12_narrow_28 : decode cX12_narrow 28 = .ok (.lload_n 2, 1) := by decide +kernel
theorem dX12_narrow_29 : decode cX12_narrow 29 = .ok (.l2i, 1) := by decide +kernel
theorem dX12_narrow_30 : decode cX12_narrow 30 = .ok (.i2l, 1) := by decide +kernel
theorem dX12_narrow_31 : decode cX12_narrow 31 = .ok (.goto 23, 3) := by decide +kernel
theorem dX12_narrow_34 : decode cX12_narrow 34 = .ok (.iload_n 1, 1) := by decide +kernel
theorem dX12_narrow_35 : decode cX12_narrow 35 = .ok (.iconst 4, 1) := by decide +kernel
theorem dX12_narrow_36 : decode cX12_narrow 36 = .ok (.if_icmp .ne 17, 3) := by decide +kernel
theorem dX12_narrow_39 : decode cX12_narrow 39 = .ok (.lload_n 2, 1) := by decide +kernel
theorem dX12_narrow_40 : decode cX12_narrow 40 = .ok (.lconst 0, 1) := by decide +kernel
theorem dX12_narrow_41 : decode cX12_narrow 41 = .ok (.lcmp, 1) := by decide +kernel
theorem dX12_narrow_42 : decode cX12_narrow 42 = .ok (.ifCond .eq 7, 3) := by decide +kernel
theorem dX12_narrow_45 : decode cX12_narrow 45 = .ok (.lconst 1, 1) := by decide +kernel
theorem dX12_narrow_46 : decode cX12_narrow 46 = .ok (.goto 8, 3) := by decide +kernel
theorem dX12_narrow_49 : decode cX12_narrow 49 = .ok (.lconst 0, 1) := by decide +kernel
theorem dX12_narrow_50 : decode cX12_narrow 50 = .ok (.goto 4, 3) := by decide +kernel
theorem dX12_narrow_53 : decode cX12_narrow 53 = .ok (.lload_n 2, 1) := by decide +kernel
theorem dX12_narrow_54 : decode cX12_narrow 54 = .ok (.lreturn, 1) := by decide +kernel
theorem dX12_item_0 : decode cX12_item 0 = .ok (.aload_n 0, 1) := by decide +kernel
theorem dX12_item_1 : decode cX12_item 1 = .ok (.iload_n 1, 1) := by decide +kernel
theorem dX12_item_2 : decode cX12_item 2 = .ok (.invokevirtual 354, 3) := by decide +kernel
theorem dX12_item_5 : decode cX12_item 5 = .ok (.ifCond .ne 5, 3) := by decide +kernel
theorem dX12_item_8 : decode cX12_item 8 = .ok (.iconst (-1), 1) := by decide +kernel
theorem dX12_item_9 : decode cX12_item 9 = .ok (.ireturn, 1) := by decide +kernel
theorem dX12_item_10 : decode cX12_item 10 = .ok (.aload_n 0, 1) := by decide +kernel
theorem dX12_item_11 : decode cX12_item 11 = .ok (.getfield 202, 3) := by decide +kernel
theorem dX12_item_14 : decode cX12_item 14 = .ok (.iload_n 1, 1) := by decide +kernel
theorem dX12_item_15 : decode cX12_item 15 = .ok (.iaload, 1) := by decide +kernel
theorem dX12_item_16 : decode cX12_item 16 = .ok (.ifCond .ge 6, 3) := by decide +kernel
theorem dX12_item_19 : decode cX12_item 19 = .ok (.bipush (-11), 2) := by decide +kernel
theorem dX12_item_21 : decode cX12_item 21 = .ok (.ireturn, 1) := by decide +kernel
theorem dX12_item_22 : decode cX12_item 22 = .ok (.aload_n 0, 1) := by decide +kernel
theorem dX12_item_23 : decode cX12_item 23 = .ok (.iload_n 2, 1) := by decide +kernel
theorem dX12_item_24 : decode cX12_item 24 = .ok (.iconst 0, 1) := by decide +kernel
theorem dX12_item_25 : decode cX12_item 25 = .ok (.aload_n 0, 1) := by decide +kernel
theorem dX12_item_26 : decode cX12_item 26 = .ok (.getfield 205, 3) := by decide +kernel
theorem dX12_item_29 : decode cX12_item 29 = .ok (.iload_n 1, 1) := by decide +kernel
theorem dX12_item_30 : decode cX12_item 30 = .ok (.iaload, 1) := by decide +kernel
theorem dX12_item_31 : decode cX12_item 31 = .ok (.iconst 1, 1) := by decide +kernel
theorem dX12_item_32 : decode cX12_item 32 = .ok (.isub, 1) := by decide +kernel
theorem dX12_item_33 : decode cX12_item 33 = .ok (.invokevirtual 215, 3) := by decide +kernel
theorem dX12_item_36 : decode cX12_item 36 = .ok (.ifCond .ne 6, 3) := by decide +kernel
theorem dX12_item_39 : decode cX12_item 39 = .ok (.bipush (-13), 2) := by decide +kernel
theorem dX12_item_41 : decode cX12_item 41 = .ok (.ireturn, 1) := by decide +kernel
theorem dX12_item_42 : decode cX12_item 42 = .ok (.aload_n 0, 1) := by decide +kernel
theorem dX12_item_43 : decode cX12_item 43 = .ok (.getfield 208, 3) := by decide +kernel
theorem dX12_item_46 : decode cX12_item 46 = .ok (.bipush 60, 2) := by decide +kernel
theorem dX12_item_48 : decode cX12_item 48 = .ok (.iload_n 1, 1) := by decide +kernel
theorem dX12_item_49 : decode cX12_item 49 = .ok (.imul, 1) := by decide +kernel
theorem dX12_item_50 : decode cX12_item 50 = .ok (.iload_n 2, 1) := by decide +kernel
theorem dX12_item_51 : decode cX12_item 51 = .ok (.iadd, 1) := by decide +kernel
theorem dX12_item_52 : decode cX12_item 52 = .ok (.aload_n 0, 1) := by decide +kernel
theorem dX12_item_53 : decode cX12_item 53 = .ok (.aload_n 0, 1) := by decide +kernel
theorem dX12_item_54 : decode cX12_item 54 = .ok (.getfield 202, 3) := by decide +kernel
theorem dX12_item_57 : decode cX12_item 57 = .ok (.iload_n 1, 1) := by decide +kernel
theorem dX12_item_58 : decode cX12_item 58 = .ok (.iaload, 1) := by decide +kernel
theorem dX12_item_59 : decode cX12_item 59 = .ok (.lload_n 3, 1) := by decide +kernel
theorem dX12_item_60 : decode cX12_item 60 = .ok (.invokevirtual 381, 3) := by decide +kernel
theorem dX12_item_63 : decode cX12_item 63 = .ok (.lastore, 1) := by decide +kernel
theorem dX12_item_64 : decode cX12_item 64 = .ok (.iconst 1, 1) := by decide +kernel
theorem dX12_item_65 : decode cX12_item 65 = .ok (.ireturn, 1) := by decide +kernel
theorem dX12_read_0 : decode cX12_read 0 = .ok (.aload_n 0, 1) := by decide +kernel
theorem dX12_read_1 : decode cX12_read 1 = .ok (.iload_n 1, 1) := by decide +kernel
theorem dX12_read_2 : decode cX12_read 2 = .ok (.invokevirtual 354, 3) := by decide +kernel
theorem dX12_read_5 : decode cX12_read 5 = .ok (.ifCond .eq 29, 3) := by decide +kernel
theorem dX12_read_8 : decode cX12_read 8 = .ok (.aload_n 0, 1) := by decide +kernel
theorem dX12_read_9 : decode cX12_read 9 = .ok (.getfield 202, 3) := by decide +kernel
theorem dX12_read_12 : decode cX12_read 12 = .ok (.iload_n 1, 1) := by decide +kernel
theorem dX12_read_13 : decode cX12_read 13 = .ok (.iaload, 1) := by decide +kernel
theorem dX12_read_14 : decode cX12_read 14 = .ok (.ifCond .lt 20, 3) := by decide +kernel
theorem dX12_read_17 : decode cX12_read 17 = .ok (.aload_n 0, 1) := by decide +kernel
theorem dX12_read_18 : decode cX12_read 18 = .ok (.iload_n 2, 1) := by decide +kernel
theorem dX12_read_19 : decode cX12_read 19 = .ok (.iconst 0, 1) := by decide +kernel
theorem dX12_read_20 : decode cX12_read 20 = .ok (.aload_n 0, 1) := by decide +kernel
theorem dX12_read_21 : decode cX12_read 21 = .ok (.getfield 205, 3) := by decide +kernel
theorem dX12_read_24 : decode cX12_read 24 = .ok (.iload_n 1, 1) := by decide +kernel
theorem dX12_read_25 : decode cX12_read 25 = .ok (.iaload, 1) := by decide +kernel
theorem dX12_read_26 : decode cX12_read 26 = .ok (.iconst 1, 1) := by decide +kernel
theorem dX12_read_27 : decode cX12_read 27 = .ok (.isub, 1) := by decide +kernel
theorem dX12_read_28 : decode cX12_read 28 = .ok (.invokevirtual 215, 3) := by decide +kernel
theorem dX12_read_31 : decode cX12_read 31 = .ok (.ifCond .ne 9, 3) := by decide +kernel
theorem dX12_read_34 : decode cX12_read 34 = .ok (.ldc2_w 346, 3) := by decide +kernel
theorem dX12_read_37 : decode cX12_read 37 = .ok (.goto 14, 3) := by decide +kernel
theorem dX12_read_40 : decode cX12_read 40 = .ok (.aload_n 0, 1) := by decide +kernel
theorem dX12_read_41 : decode cX12_read 41 = .ok (.getfield 208, 3) := by decide +kernel
theorem dX12_read_44 : decode cX12_read 44 = .ok (.bipush 60, 2) := by decide +kernel
theorem dX12_read_46 : decode cX12_read 46 = .ok (.iload_n 1, 1) := by decide +kernel
theorem dX12_read_47 : decode cX12_read 47 = .ok (.imul, 1) := by decide +kernel
theorem dX12_read_48 : decode cX12_read 48 = .ok (.iload_n 2, 1) := by decide +kernel
theorem dX12_read_49 : decode cX12_read 49 = .ok (.iadd, 1) := by decide +kernel
theorem dX12_read_50 : decode cX12_read 50 = .ok (.laload, 1) := by decide +kernel
theorem dX12_read_51 : decode cX12_read 51 = .ok (.lreturn, 1) := by decide +kernel
theorem dX12_shift_0 : decode cX12_shift 0 = .ok (.aload_n 0, 1) := by decide +kernel
theorem dX12_shift_1 : decode cX12_shift 1 = .ok (.iload_n 1, 1) := by decide +kernel
theorem dX12_shift_2 : decode cX12_shift 2 = .ok (.invokevirtual 354, 3) := by decide +kernel
theorem dX12_shift_5 : decode cX12_shift 5 = .ok (.ifCond .eq 11, 3) := by decide +kernel
theorem dX12_shift_8 : decode cX12_shift 8 = .ok (.aload_n 0, 1) := by decide +kernel
theorem dX12_shift_9 : decode cX12_shift 9 = .ok (.iload_n 3, 1) := by decide +kernel
theorem dX12_shift_10 : decode cX12_shift 10 = .ok (.invokevirtual 354, 3) := by decide +kernel
theorem dX12_shift_13 : decode cX12_shift 13 = .ok (.ifCond .ne 5, 3) := by decide +kernel
theorem dX12_shift_16 : decode cX12_shift 16 = .ok (.iconst (-1), 1) := by decide +kernel
theorem dX12_shift_17 : decode cX12_shift 17 = .ok (.ireturn, 1) := by decide +kernel
theorem dX12_shift_18 : decode cX12_shift 18 = .ok (.aload_n 0, 1) := by decide +kernel
theorem dX12_shift_19 : decode cX12_shift 19 = .ok (.getfield 202, 3) := by decide +kernel
theorem dX12_shift_22 : decode cX12_shift 22 = .ok (.iload_n 1, 1) := by decide +kernel
theorem dX12_shift_23 : decode cX12_shift 23 = .ok (.iaload, 1) := by decide +kernel
theorem dX12_shift_24 : decode cX12_shift 24 = .ok (.ifCond .lt 12, 3) := by decide +kernel
theorem dX12_shift_27 : decode cX12_shift 27 = .ok (.aload_n 0, 1) := by decide +kernel
theorem dX12_shift_28 : decode cX12_shift 28 = .ok (.getfield 202, 3) := by decide +kernel
theorem dX12_shift_31 : decode cX12_shift 31 = .ok (.iload_n 3, 1) := by decide +kernel
theorem dX12_shift_32 : decode cX12_shift 32 = .ok (.iaload, 1) := by decide +kernel
theorem dX12_shift_33 : decode cX12_shift 33 = .ok (.ifCond .ge 6, 3) := by decide +kernel
theorem dX12_shift_36 : decode cX12_shift 36 = .ok (.bipush (-11), 2) := by decide +kernel
theorem dX12_shift_38 : decode cX12_shift 38 = .ok (.ireturn, 1) := by decide +kernel
theorem dX12_shift_39 : decode cX12_shift 39 = .ok (.aload_n 0, 1) := by decide +kernel
theorem dX12_shift_40 : decode cX12_shift 40 = .ok (.getfield 202, 3) := by decide +kernel
theorem dX12_shift_43 : decode cX12_shift 43 = .ok (.iload_n 1, 1) := by decide +kernel
theorem dX12_shift_44 : decode cX12_shift 44 = .ok (.iaload, 1) := by decide +kernel
theorem dX12_shift_45 : decode cX12_shift 45 = .ok (.aload_n 0, 1) := by decide +kernel
theorem dX12_shift_46 : decode cX12_shift 46 = .ok (.getfield 202, 3) := by decide +kernel
theorem dX12_shift_49 : decode cX12_shift 49 = .ok (.iload_n 3, 1) := by decide +kernel
theorem dX12_shift_50 : decode cX12_shift 50 = .ok (.iaload, 1) := by decide +kernel
theorem dX12_shift_51 : decode cX12_shift 51 = .ok (.if_icmp .eq 6, 3) := by decide +kernel
theorem dX12_shift_54 : decode cX12_shift 54 = .ok (.bipush (-12), 2) := by decide +kernel
theorem dX12_shift_56 : decode cX12_shift 56 = .ok (.ireturn, 1) := by decide +kernel
theorem dX12_shift_57 : decode cX12_shift 57 = .ok (.iload 5, 2) := by decide +kernel
theorem dX12_shift_59 : decode cX12_shift 59 = .ok (.ifCond .lt 39, 3) := by decide +kernel
theorem dX12_shift_62 : decode cX12_shift 62 = .ok (.iload_n 2, 1) := by decide +kernel
theorem dX12_shift_63 : decode cX12_shift 63 = .ok (.ifCond .lt 35, 3) := by decide +kernel
theorem dX12_shift_66 : decode cX12_shift 66 = .ok (.iload 4, 2) := by decide +kernel
theorem dX12_shift_68 : decode cX12_shift 68 = .ok (.ifCond .lt 30, 3) := by decide +kernel
theorem dX12_shift_71 : decode cX12_shift 71 = .ok (.iload_n 2, 1) := by decide +kernel
theorem dX12_shift_72 : decode cX12_shift 72 = .ok (.aload_n 0, 1) := by decide +kernel
theorem dX12_shift_73 : decode cX12_shift 73 = .ok (.getfield 205, 3) := by decide +kernel
theorem dX12_shift_76 : decode cX12_shift 76 = .ok (.iload_n 1, 1) := by decide +kernel
theorem dX12_shift_77 : decode cX12_shift 77 = .ok (.iaload, 1) := by decide +kernel
theorem dX12_shift_78 : decode cX12_shift 78 = .ok (.iload 5, 2) := by decide +kernel
theorem dX12_shift_80 : decode cX12_shift 80 = .ok (.isub, 1) := by decide +kernel
theorem dX12_shift_81 : decode cX12_shift 81 = .ok (.if_icmp .gt 17, 3) := by decide +kernel
theorem dX12_shift_84 : decode cX12_shift 84 = .ok (.iload 4, 2) := by decide +kernel
theorem dX12_shift_86 : decode cX12_shift 86 = .ok (.aload_n 0, 1) := by decide +kernel
theorem dX12_shift_87 : decode cX12_shift 87 = .ok (.getfield 205, 3) := by decide +kernel
theorem dX12_shift_90 : decode cX12_shift 90 = .ok (.iload_n 3, 1) := by decide +kernel
theorem dX12_shift_91 : decode cX12_shift 91 = .ok (.iaload, 1) := by decide +kernel
theorem dX12_shift_92 : decode cX12_shift 92 = .ok (.iload 5, 2) := by decide +kernel
theorem dX12_shift_94 : decode cX12_shift 94 = .ok (.isub, 1) := by decide +kernel
theorem dX12_shift_95 : decode cX12_shift 95 = .ok (.if_icmp .le 6, 3) := by decide +kernel
theorem dX12_shift_98 : decode cX12_shift 98 = .ok (.bipush (-13), 2) := by decide +kernel
theorem dX12_shift_100 : decode cX12_shift 100 = .ok (.ireturn, 1) := by decide +kernel
theorem dX12_shift_101 : decode cX12_shift 101 = .ok (.iconst 0, 1) := by decide +kernel
theorem dX12_shift_102 : decode cX12_shift 102 = .ok (.istore 6, 2) := by decide +kernel
theorem dX12_shift_104 : decode cX12_shift 104 = .ok (.iload 6, 2) := by decide +kernel
theorem dX12_shift_106 : decode cX12_shift 106 = .ok (.iload 5, 2) := by decide +kernel
theorem dX12_shift_108 : decode cX12_shift 108 = .ok (.if_icmp .ge 30, 3) := by decide +kernel
theorem dX12_shift_111 : decode cX12_shift 111 = .ok (.aload_n 0, 1) := by decide +kernel
theorem dX12_shift_112 : decode cX12_shift 112 = .ok (.getfield 212, 3) := by decide +kernel
theorem dX12_shift_115 : decode cX12_shift 115 = .ok (.iload 6, 2) := by decide +kernel
theorem dX12_shift_117 : decode cX12_shift 117 = .ok (.aload_n 0, 1) := by decide +kernel
theorem dX12_shift_118 : decode cX12_shift 118 = .ok (.getfield 208, 3) := by decide +kernel
theorem dX12_shift_121 : decode cX12_shift 121 = .ok (.bipush 60, 2) := by decide +kernel
theorem dX12_shift_123 : decode cX12_shift 123 = .ok (.iload_n 1, 1) := by decide +kernel
theorem dX12_shift_124 : decode cX12_shift 124 = .ok (.imul, 1) := by decide +kernel
theorem dX12_shift_125 : decode cX12_shift 125 = .ok (.iload_n 2, 1) := by decide +kernel
theorem dX12_shift_126 : decode cX12_shift 126 = .ok (.iadd, 1) := by decide +kernel
theorem dX12_shift_127 : decode cX12_shift 127 = .ok (.iload 6, 2) := by decide +kernel
theorem dX12_shift_129 : decode cX12_shift 129 = .ok (.iadd, 1) := by decide +kernel
theorem dX12_shift_130 : decode cX12_shift 130 = .ok (.laload, 1) := by decide +kernel
theorem dX12_shift_131 : decode cX12_shift 131 = .ok (.lastore, 1) := by decide +kernel
theorem dX12_shift_132 : decode cX12_shift 132 = .ok (.iinc 6 1, 3) := by decide +kernel
theorem dX12_shift_135 : decode cX12_shift 135 = .ok (.goto (-31), 3) := by decide +kernel
theorem dX12_shift_138 : decode cX12_shift 138 = .ok (.iconst 0, 1) := by decide +kernel
theorem dX12_shift_139 : decode cX12_shift 139 = .ok (.istore 6, 2) := by decide +kernel
theorem dX12_shift_141 : decode cX12_shift 141 = .ok (.iload 6, 2) := by decide +kernel
theorem dX12_shift_143 : decode cX12_shift 143 = .ok (.iload 5, 2) := by decide +kernel
theorem dX12_shift_145 : decode cX12_shift 145 = .ok (.if_icmp .ge 31, 3) := by decide +kernel
theorem dX12_shift_148 : decode cX12_shift 148 = .ok (.aload_n 0, 1) := by decide +kernel
theorem dX12_shift_149 : decode cX12_shift 149 = .ok (.getfield 208, 3) := by decide +kernel
theorem dX12_shift_152 : decode cX12_shift 152 = .ok (.bipush 60, 2) := by decide +kernel
theorem dX12_shift_154 : decode cX12_shift 154 = .ok (.iload_n 3, 1) := by decide +kernel
theorem dX12_shift_155 : decode cX12_shift 155 = .ok (.imul, 1) := by decide +kernel
theorem dX12_shift_156 : decode cX12_shift 156 = .ok (.iload 4, 2) := by decide +kernel
theorem dX12_shift_158 : decode cX12_shift 158 = .ok (.iadd, 1) := by decide +kernel
theorem dX12_shift_159 : decode cX12_shift 159 = .ok (.iload 6, 2) := by decide +kernel
theorem dX12_shift_161 : decode cX12_shift 161 = .ok (.iadd, 1) := by decide +kernel
theorem dX12_shift_162 : decode cX12_shift 162 = .ok (.aload_n 0, 1) := by decide +kernel
theorem dX12_shift_163 : decode cX12_shift 163 = .ok (.getfield 212, 3) := by decide +kernel
theorem dX12_shift_166 : decode cX12_shift 166 = .ok (.iload 6, 2) := by decide +kernel
theorem dX12_shift_168 : decode cX12_shift 168 = .ok (.laload, 1) := by decide +kernel
theorem dX12_shift_169 : decode cX12_shift 169 = .ok (.lastore, 1) := by decide +kernel
theorem dX12_shift_170 : decode cX12_shift 170 = .ok (.iinc 6 1, 3) := by decide +kernel
theorem dX12_shift_173 : decode cX12_shift 173 = .ok (.goto (-32), 3) := by decide +kernel
theorem dX12_shift_176 : decode cX12_shift 176 = .ok (.iload 5, 2) := by decide +kernel
theorem dX12_shift_178 : decode cX12_shift 178 = .ok (.ireturn, 1) := by decide +kernel
