theorem dX2_setVars_0 : decode cX2_setVars 0 = .ok (.iconst 0, 1) := by decide +kernel
theorem dX2_setVars_1 : decode cX2_setVars 1 = .ok (.iload_n 2, 1) := by decide +kernel
theorem dX2_setVars_2 : decode cX2_setVars 2 = .ok (.if_icmp .gt 13, 3) := by decide +kernel
theorem dX2_setVars_5 : decode cX2_setVars 5 = .ok (.iload_n 2, 1) := by decide +kernel
theorem dX2_setVars_6 : decode cX2_setVars 6 = .ok (.bipush 10, 2) := by decide +kernel
theorem dX2_setVars_8 : decode cX2_setVars 8 = .ok (.if_icmp .ge 7, 3) := by decide +kernel
theorem dX2_setVars_11 : decode cX2_setVars 11 = .ok (.iconst 1, 1) := by decide +kernel
theorem dX2_setVars_12 : decode cX2_setVars 12 = .ok (.goto 4, 3) := by decide +kernel
theorem dX2_setVars_15 : decode cX2_setVars 15 = .ok (.iconst 0, 1) := by decide +kernel
theorem dX2_setVars_16 : decode cX2_setVars 16 = .ok (.istore 5, 2) := by decide +kernel
theorem dX2_setVars_18 : decode cX2_setVars 18 = .ok (.iconst 0, 1) := by decide +kernel
theorem dX2_setVars_19 : decode cX2_setVars 19 = .ok (.iload_n 3, 1) := by decide +kernel
theorem dX2_setVars_20 : decode cX2_setVars 20 = .ok (.if_icmp .gt 12, 3) := by decide +kernel
theorem dX2_setVars_23 : decode cX2_setVars 23 = .ok (.iload_n 3, 1) := by decide +kernel
theorem dX2_setVars_24 : decode cX2_setVars 24 = .ok (.iconst 5, 1) := by decide +kernel
theorem dX2_setVars_25 : decode cX2_setVars 25 = .ok (.if_icmp .ge 7, 3) := by decide +kernel
theorem dX2_setVars_28 : decode cX2_setVars 28 = .ok (.iconst 1, 1) := by decide +kernel
theorem dX2_setVars_29 : decode cX2_setVars 29 = .ok (.goto 4, 3) := by decide +kernel
theorem dX2_setVars_32 : decode cX2_setVars 32 = .ok (.iconst 0, 1) := by decide +kernel
theorem dX2_setVars_33 : decode cX2_setVars 33 = .ok (.istore 6, 2) := by decide +kernel
theorem dX2_setVars_35 : decode cX2_setVars 35 = .ok (.aload_n 0, 1) := by decide +kernel
theorem dX2_setVars_36 : decode cX2_setVars 36 = .ok (.getfield 13, 3) := by decide +kernel
theorem dX2_setVars_39 : decode cX2_setVars 39 = .ok (.iconst 0, 1) := by decide +kernel
theorem dX2_setVars_40 : decode cX2_setVars 40 = .ok (.iload 5, 2) := by decide +kernel
theorem dX2_setVars_42 : decode cX2_setVars 42 = .ok (.ifCond .eq 7, 3) := by decide +kernel
theorem dX2_setVars_45 : decode cX2_setVars 45 = .ok (.iload_n 2, 1) := by decide +kernel
theorem dX2_setVars_46 : decode cX2_setVars 46 = .ok (.goto 4, 3) := by decide +kernel
theorem dX2_setVars_49 : decode cX2_setVars 49 = .ok (.iconst 0, 1) := by decide +kernel
theorem dX2_setVars_50 : decode cX2_setVars 50 = .ok (.iastore, 1) := by decide +kernel
theorem dX2_setVars_51 : decode cX2_setVars 51 = .ok (.aload_n 0, 1) := by decide +kernel
theorem dX2_setVars_52 : decode cX2_setVars 52 = .ok (.getfield 13, 3) := by decide +kernel
theorem dX2_setVars_55 : decode cX2_setVars 55 = .ok (.iconst 1, 1) := by decide +kernel
theorem dX2_setVars_56 : decode cX2_setVars 56 = .ok (.iload 5, 2) := by decide +kernel
theorem dX2_setVars_58 : decode cX2_setVars 58 = .ok (.ifCond .eq 14, 3) := by decide +kernel
theorem dX2_setVars_61 : decode cX2_setVars 61 = .ok (.aload_n 1, 1) := by decide +kernel
theorem dX2_setVars_62 : decode cX2_setVars 62 = .ok (.getfield 51, 3) := by decide +kernel
theorem dX2_setVars_65 : decode cX2_setVars 65 = .ok (.iconst 0, 1) := by decide +kernel
theorem dX2_setVars_66 : decode cX2_setVars 66 = .ok (.iload_n 2, 1) := by decide +kernel
theorem dX2_setVars_67 : decode cX2_setVars 67 = .ok (.iadd, 1) := by decide +kernel
theorem dX2_setVars_68 : decode cX2_setVars 68 = .ok (.iaload, 1) := by decide +kernel
theorem dX2_setVars_69 : decode cX2_setVars 69 = .ok (.goto 4, 3) := by decide +kernel
theorem dX2_setVars_72 : decode cX2_setVars 72 = .ok (.iconst 0, 1) := by decide +kernel
theorem dX2_setVars_73 : decode cX2_setVars 73 = .ok (.iastore, 1) := by decide +kernel
theorem dX2_setVars_74 : decode cX2_setVars 74 = .ok (.aload_n 0, 1) := by decide +kernel
theorem dX2_setVars_75 : decode cX2_setVars 75 = .ok (.getfield 13, 3) := by decide +kernel
theorem dX2_setVars_78 : decode cX2_setVars 78 = .ok (.iconst 2, 1) := by decide +kernel
theorem dX2_setVars_79 : decode cX2_setVars 79 = .ok (.aload_n 1, 1) := by decide +kernel
theorem dX2_setVars_80 : decode cX2_setVars 80 = .ok (.getfield 51, 3) := by decide +kernel
theorem dX2_setVars_83 : decode cX2_setVars 83 = .ok (.bipush 28, 2) := by decide +kernel
theorem dX2_setVars_85 : decode cX2_setVars 85 = .ok (.iaload, 1) := by decide +kernel
theorem dX2_setVars_86 : decode cX2_setVars 86 = .ok (.iastore, 1) := by decide +kernel
theorem dX2_setVars_87 : decode cX2_setVars 87 = .ok (.aload_n 0, 1) := by decide +kernel
theorem dX2_setVars_88 : decode cX2_setVars 88 = .ok (.getfield 13, 3) := by decide +kernel
theorem dX2_setVars_91 : decode cX2_setVars 91 = .ok (.iconst 3, 1) := by decide +kernel
theorem dX2_setVars_92 : decode cX2_setVars 92 = .ok (.aload_n 1, 1) := by decide +kernel
theorem dX2_setVars_93 : decode cX2_setVars 93 = .ok (.getfield 51, 3) := by decide +kernel
theorem dX2_setVars_96 : decode cX2_setVars 96 = .ok (.bipush 29, 2) := by decide +kernel
theorem dX2_setVars_98 : decode cX2_setVars 98 = .ok (.iaload, 1) := by decide +kernel
theorem dX2_setVars_99 : decode cX2_setVars 99 = .ok (.iastore, 1) := by decide +kernel
theorem dX2_setVars_100 : decode cX2_setVars 100 = .ok (.aload_n 0, 1) := by decide +kernel
theorem dX2_setVars_101 : decode cX2_setVars 101 = .ok (.getfield 13, 3) := by decide +kernel
theorem dX2_setVars_104 : decode cX2_setVars 104 = .ok (.iconst 4, 1) := by decide +kernel
theorem dX2_setVars_105 : decode cX2_setVars 105 = .ok (.iload 6, 2) := by decide +kernel
theorem dX2_setVars_107 : decode cX2_setVars 107 = .ok (.ifCond .eq 15, 3) := by decide +kernel
theorem dX2_setVars_110 : decode cX2_setVars 110 = .ok (.aload_n 0, 1) := by decide +kernel
theorem dX2_setVars_111 : decode cX2_setVars 111 = .ok (.getfield 20, 3) := by decide +kernel
theorem dX2_setVars_114 : decode cX2_setVars 114 = .ok (.getfield 54, 3) := by decide +kernel
theorem dX2_setVars_117 : decode cX2_setVars 117 = .ok (.iload_n 3, 1) := by decide +kernel
theorem dX2_setVars_118 : decode cX2_setVars 118 = .ok (.iaload, 1) := by decide +kernel
theorem dX2_setVars_119 : decode cX2_setVars 119 = .ok (.goto 4, 3) := by decide +kernel
theorem dX2_setVars_122 : decode cX2_setVars 122 = .ok (.iconst 0, 1) := by decide +kernel
theorem dX2_setVars_123 : decode cX2_setVars 123 = .ok (.iastore, 1) := by decide +kernel
theorem dX2_setVars_124 : decode cX2_setVars 124 = .ok (.aload_n 0, 1) := by decide +kernel
theorem dX2_setVars_125 : decode cX2_setVars 125 = .ok (.getfield 13, 3) := by decide +kernel
theorem dX2_setVars_128 : decode cX2_setVars 128 = .ok (.iconst 5, 1) := by decide +kernel
theorem dX2_setVars_129 : decode cX2_setVars 129 = .ok (.iload 6, 2) := by decide +kernel
theorem dX2_setVars_131 : decode cX2_setVars 131 = .ok (.ifCond .eq 15, 3) := by decide +kernel
theorem dX2_setVars_134 : decode cX2_setVars 134 = .ok (.aload_n 0, 1) := by decide +kernel
theorem dX2_setVars_135 : decode cX2_setVars 135 = .ok (.getfield 20, 3) := by decide +kernel
theorem dX2_setVars_138 : decode cX2_setVars 138 = .ok (.getfield 59, 3) := by decide +kernel
theorem dX2_setVars_141 : decode cX2_setVars 141 = .ok (.iload_n 3, 1) := by decide +kernel
theorem dX2_setVars_142 : decode cX2_setVars 142 = .ok (.iaload, 1) := by decide +kernel
theorem dX2_setVars_143 : decode cX2_setVars 143 = .ok (.goto 4, 3) := by decide +kernel
theorem dX2_setVars_146 : decode cX2_setVars 146 = .ok (.iconst 0, 1) := by decide +kernel
theorem dX2_setVars_147 : decode cX2_setVars 147 = .ok (.iastore, 1) := by decide +kernel
theorem dX2_setVars_148 : decode cX2_setVars 148 = .ok (.aload_n 0, 1) := by decide +kernel
theorem dX2_setVars_149 : decode cX2_setVars 149 = .ok (.getfield 13, 3) := by decide +kernel
theorem dX2_setVars_152 : decode cX2_setVars 152 = .ok (.bipush 6, 2) := by decide +kernel
theorem dX2_setVars_154 : decode cX2_setVars 154 = .ok (.aload_n 1, 1) := by decide +kernel
theorem dX2_setVars_155 : decode cX2_setVars 155 = .ok (.getfield 51, 3) := by decide +kernel
theorem dX2_setVars_158 : decode cX2_setVars 158 = .ok (.bipush 30, 2) := by decide +kernel
theorem dX2_setVars_160 : decode cX2_setVars 160 = .ok (.iaload, 1) := by decide +kernel
theorem dX2_setVars_161 : decode cX2_setVars 161 = .ok (.iastore, 1) := by decide +kernel
theorem dX2_setVars_162 : decode cX2_setVars 162 = .ok (.aload_n 0, 1) := by decide +kernel
theorem dX2_setVars_163 : decode cX2_setVars 163 = .ok (.getfield 13, 3) := by decide +kernel
theorem dX2_setVars_166 : decode cX2_setVars 166 = .ok (.bipush 7, 2) := by decide +kernel
theorem dX2_setVars_168 : decode cX2_setVars 168 = .ok (.iload 4, 2) := by decide +kernel
theorem dX2_setVars_170 : decode cX2_setVars 170 = .ok (.iastore, 1) := by decide +kernel
theorem dX2_setVars_171 : decode cX2_setVars 171 = .ok (.aload_n 0, 1) := by decide +kernel
theorem dX2_setVars_172 : decode cX2_setVars 172 = .ok (.getfield 13, 3) := by decide +kernel
theorem dX2_setVars_175 : decode cX2_setVars 175 = .ok (.bipush 8, 2) := by decide +kernel
theorem dX2_setVars_177 : decode cX2_setVars 177 = .ok (.iload 6, 2) := by decide +kernel
theorem dX2_setVars_179 : decode cX2_setVars 179 = .ok (.ifCond .eq 7, 3) := by decide +kernel
theorem dX2_setVars_182 : decode cX2_setVars 182 = .ok (.iload_n 3, 1) := by decide +kernel
theorem dX2_setVars_183 : decode cX2_setVars 183 = .ok (.goto 4, 3) := by decide +kernel
theorem dX2_setVars_186 : decode cX2_setVars 186 = .ok (.iconst 0, 1) := by decide +kernel
theorem dX2_setVars_187 : decode cX2_setVars 187 = .ok (.iastore, 1) := by decide +kernel
theorem dX2_setVars_188 : decode cX2_setVars 188 = .ok (.return_, 1) := by decide +kernel
theorem dX2_resultOf_0 : decode cX2_resultOf 0 = .ok (.aload_n 0, 1) := by decide +kernel
theorem dX2_resultOf_1 : decode cX2_resultOf 1 = .ok (.getfield 20, 3) := by decide +kernel
theorem dX2_resultOf_4 : decode cX2_resultOf 4 = .ok (.getfield 62, 3) := by decide +kernel
theorem dX2_resultOf_7 : decode cX2_resultOf 7 = .ok (.iload_n 1, 1) := by decide +kernel
theorem dX2_resultOf_8 : decode cX2_resultOf 8 = .ok (.iaload, 1) := by decide +kernel
theorem dX2_resultOf_9 : decode cX2_resultOf 9 = .ok (.istore_n 2, 1) := by decide +kernel
theorem dX2_resultOf_10 : decode cX2_resultOf 10 = .ok (.iconst 0, 1) := by decide +kernel
theorem dX2_resultOf_11 : decode cX2_resultOf 11 = .ok (.istore_n 3, 1) := by decide +kernel
theorem dX2_resultOf_12 : decode cX2_resultOf 12 = .ok (.iconst 0, 1) := by decide +kernel
theorem dX2_resultOf_13 : decode cX2_resultOf 13 = .ok (.istore 4, 2) := by decide +kernel
theorem dX2_resultOf_15 : decode cX2_resultOf 15 = .ok (.iload 4, 2) := by decide +kernel
theorem dX2_resultOf_17 : decode cX2_resultOf 17 = .ok (.sipush 408, 3) := by decide +kernel
theorem dX2_resultOf_20 : decode cX2_resultOf 20 = .ok (.if_icmp .ge 334, 3) := by decide +kernel
theorem dX2_resultOf_23 : decode cX2_resultOf 23 = .ok (.iload_n 2, 1) := by decide +kernel
theorem dX2_resultOf_24 : decode cX2_resultOf 24 = .ok (.aload_n 0, 1) := by decide +kernel
theorem dX2_resultOf_25 : decode cX2_resultOf 25 = .ok (.getfield 20, 3) := by decide +kernel
theorem dX2_resultOf_28 : decode cX2_resultOf 28 = .ok (.getfield 65, 3) := by decide +kernel
theorem dX2_resultOf_31 : decode cX2_resultOf 31 = .ok (.if_icmp .ge 323, 3) := by decide +kernel
theorem dX2_resultOf_34 : decode cX2_resultOf 34 = .ok (.aload_n 0, 1) := by decide +kernel
theorem dX2_resultOf_35 : decode cX2_resultOf 35 = .ok (.getfield 20, 3) := by decide +kernel
theorem dX2_resultOf_38 : decode cX2_resultOf 38 = .ok (.getfield 69, 3) := by decide +kernel
theorem dX2_resultOf_41 : decode cX2_resultOf 41 = .ok (.iload_n 2, 1) := by decide +kernel
theorem dX2_resultOf_42 : decode cX2_resultOf 42 = .ok (.iaload, 1) := by decide +kernel
theorem dX2_resultOf_43 : decode cX2_resultOf 43 = .ok (.istore 5, 2) := by decide +kernel
theorem dX2_resultOf_45 : decode cX2_resultOf 45 = .ok (.aload_n 0, 1) := by decide +kernel
theorem dX2_resultOf_46 : decode cX2_resultOf 46 = .ok (.getfield 20, 3) := by decide +kernel
theorem dX2_resultOf_49 : decode cX2_resultOf 49 = .ok (.getfield 72, 3) := by decide +kernel
theorem dX2_resultOf_52 : decode cX2_resultOf 52 = .ok (.iload_n 2, 1) := by decide +kernel
theorem dX2_resultOf_53 : decode cX2_resultOf 53 = .ok (.iaload, 1) := by decide +kernel
theorem dX2_resultOf_54 : decode cX2_resultOf 54 = .ok (.istore 6, 2) := by decide +kernel
theorem dX2_resultOf_56 : decode cX2_resultOf 56 = .ok (.iinc 2 1, 3) := by decide +kernel
theorem dX2_resultOf_59 : decode cX2_resultOf 59 = .ok (.iload 5, 2) := by decide +kernel
theorem dX2_resultOf_61 : decode cX2_resultOf 61 = .ok (.ifCond .eq 9, 3) := by decide +kernel
theorem dX2_resultOf_64 : decode cX2_resultOf 64 = .ok (.iload 5, 2) := by decide +kernel
theorem dX2_resultOf_66 : decode cX2_resultOf 66 = .ok (.iconst 1, 1) := by decide +kernel
theorem dX2_resultOf_67 : decode cX2_resultOf 67 = .ok (.if_icmp .ne 7, 3) := by decide +kernel
theorem dX2_resultOf_70 : decode cX2_resultOf 70 = .ok (.iconst 1, 1) := by decide +kernel
theorem dX2_resultOf_71 : decode cX2_resultOf 71 = .ok (.goto 4, 3) := by decide +kernel
theorem dX2_resultOf_74 : decode cX2_resultOf 74 = .ok (.iconst 0, 1) := by decide +kernel
theorem dX2_resultOf_75 : decode cX2_resultOf 75 = .ok (.istore 7, 2) := by decide +kernel
theorem dX2_resultOf_77 : decode cX2_resultOf 77 = .ok (.iload 7, 2) := by decide +kernel
theorem dX2_resultOf_79 : decode cX2_resultOf 79 = .ok (.ifCond .eq 11, 3) := by decide +kernel
theorem dX2_resultOf_82 : decode cX2_resultOf 82 = .ok (.iload_n 3, 1) := by decide +kernel
theorem dX2_resultOf_83 : decode cX2_resultOf 83 = .ok (.bipush 16, 2) := by decide +kernel
theorem dX2_resultOf_85 : decode cX2_resultOf 85 = .ok (.if_icmp .lt 5, 3) := by decide +kernel
theorem dX2_resultOf_88 : decode cX2_resultOf 88 = .ok (.iconst 0, 1) := by decide +kernel
theorem dX2_resultOf_89 : decode cX2_resultOf 89 = .ok (.ireturn, 1) := by decide +kernel
theorem dX2_resultOf_90 : decode cX2_resultOf 90 = .ok (.iload 7, 2) := by decide +kernel
theorem dX2_resultOf_92 : decode cX2_resultOf 92 = .ok (.ifCond .eq 46, 3) := by decide +kernel
theorem dX2_resultOf_95 : decode cX2_resultOf 95 = .ok (.aload_n 0, 1) := by decide +kernel
theorem dX2_resultOf_96 : decode cX2_resultOf 96 = .ok (.getfield 17, 3) := by decide +kernel
theorem dX2_resultOf_99 : decode cX2_resultOf 99 = .ok (.iload_n 3, 1) := by decide +kernel
theorem dX2_resultOf_100 : decode cX2_resultOf 100 = .ok (.iload 5, 2) := by decide +kernel
theorem dX2_resultOf_102 : decode cX2_resultOf 102 = .ok (.iconst 1, 1) := by decide +kernel
theorem dX2_resultOf_103 : decode cX2_resultOf 103 = .ok (.if_icmp .ne 26, 3) := by decide +kernel
theorem dX2_resultOf_106 : decode cX2_resultOf 106 = .ok (.iconst 0, 1) := by decide +kernel
theorem dX2_resultOf_107 : decode cX2_resultOf 107 = .ok (.iload 6, 2) := by decide +kernel
theorem dX2_resultOf_109 : decode cX2_resultOf 109 = .ok (.if_icmp .gt 20, 3) := by decide +kernel
theorem dX2_resultOf_112 : decode cX2_resultOf 112 = .ok (.iload 6, 2) := by decide +kernel
theorem dX2_resultOf_114 : decode cX2_resultOf 114 = .ok (.bipush 9, 2) := by decide +kernel
theorem dX2_resultOf_116 : decode cX2_resultOf 116 = .ok (.if_icmp .ge 13, 3) := by decide +kernel
theorem dX2_resultOf_119 : decode cX2_resultOf 119 = .ok (.aload_n 0, 1) := by decide +kernel
theorem dX2_resultOf_120 : decode cX2_resultOf 120 = .ok (.getfield 13, 3) := by decide +kernel
theorem dX2_resultOf_123 : decode cX2_resultOf 123 = .ok (.iload 6, 2) := by decide +kernel
theorem dX2_resultOf_125 : decode cX2_resultOf 125 = .ok (.iaload, 1) := by decide +kernel
theorem dX2_resultOf_126 : decode cX2_resultOf 126 = .ok (.goto 5, 3) := by decide +kernel
theorem dX2_resultOf_129 : decode cX2_resultOf 129 = .ok (.iload 6, 2) := by decide +kernel
theorem dX2_resultOf_131 : decode cX2_resultOf 131 = .ok (.iastore, 1) := by decide +kernel
theorem dX2_resultOf_132 : decode cX2_resultOf 132 = .ok (.iinc 3 1, 3) := by decide +kernel
theorem dX2_resultOf_135 : decode cX2_resultOf 135 = .ok (.goto 213, 3) := by decide +kernel
theorem dX2_resultOf_138 : decode cX2_resultOf 138 = .ok (.iload 5, 2) := by decide +kernel
theorem dX2_resultOf_140 : decode cX2_resultOf 140 = .ok (.iconst 3, 1) := by decide +kernel
theorem dX2_resultOf_141 : decode cX2_resultOf 141 = .ok (.if_icmp .ne 20, 3) := by decide +kernel
theorem dX2_resultOf_144 : decode cX2_resultOf 144 = .ok (.iload_n 3, 1) := by decide +kernel
theorem dX2_resultOf_145 : decode cX2_resultOf 145 = .ok (.ifCond .le 14, 3) := by decide +kernel
theorem dX2_resultOf_148 : decode cX2_resultOf 148 = .ok (.aload_n 0, 1) := by decide +kernel
theorem dX2_resultOf_149 : decode cX2_resultOf 149 = .ok (.getfield 17, 3) := by decide +kernel
theorem dX2_resultOf_152 : decode cX2_resultOf 152 = .ok (.iload_n 3, 1) := by decide +kernel
theorem dX2_resultOf_153 : decode cX2_resultOf 153 = .ok (.iconst 1, 1) := by decide +kernel
theorem dX2_resultOf_154 : decode cX2_resultOf 154 = .ok (.isub, 1) := by decide +kernel
theorem dX2_resultOf_155 : decode cX2_resultOf 155 = .ok (.iaload, 1) := by decide +kernel
theorem dX2_resultOf_156 : decode cX2_resultOf 156 = .ok (.goto 4, 3) := by decide +kernel
theorem dX2_resultOf_159 : decode cX2_resultOf 159 = .ok (.iconst 0, 1) := by decide +kernel
theorem dX2_resultOf_160 : decode cX2_resultOf 160 = .ok (.ireturn, 1) := by decide +kernel
theorem dX2_resultOf_161 : decode cX2_resultOf 161 = .ok (.iload_n 3, 1) := by decide +kernel
theorem dX2_resultOf_162 : decode cX2_resultOf 162 = .ok (.iconst 2, 1) := by decide +kernel
theorem dX2_resultOf_163 : decode cX2_resultOf 163 = .ok (.if_icmp .lt 21, 3) := by decide +kernel
theorem dX2_resultOf_166 : decode cX2_resultOf 166 = .ok (.iload 5, 2) := by decide +kernel
theorem dX2_resultOf_168 : decode cX2_resultOf 168 = .ok (.bipush 47, 2) := by decide +kernel
theorem dX2_resultOf_170 : decode cX2_resultOf 170 = .ok (.if_icmp .ne 16, 3) := by decide +kernel
theorem dX2_resultOf_173 : decode cX2_resultOf 173 = .ok (.aload_n 0, 1) := by decide +kernel
theorem dX2_resultOf_174 : decode cX2_resultOf 174 = .ok (.getfield 17, 3) := by decide +kernel
theorem dX2_resultOf_177 : decode cX2_resultOf 177 = .ok (.iload_n 3, 1) := by decide +kernel
theorem dX2_resultOf_178 : decode cX2_resultOf 178 = .ok (.iconst 1, 1) := by decide +kernel
theorem dX2_resultOf_179 : decode cX2_resultOf 179 = .ok (.isub, 1) := by decide +kernel
theorem dX2_resultOf_180 : decode cX2_resultOf 180 = .ok (.iaload, 1) := by decide +kernel
theorem dX2_resultOf_181 : decode cX2_resultOf 181 = .ok (.ifCond .ne 5, 3) := by decide +kernel
theorem dX2_resultOf_184 : decode cX2_resultOf 184 = .ok (.iconst 0, 1) := by decide +kernel
theorem dX2_resultOf_185 : decode cX2_resultOf 185 = .ok (.ireturn, 1) := by decide +kernel
theorem dX2_resultOf_186 : decode cX2_resultOf 186 = .ok (.iload 5, 2) := by decide +kernel
theorem dX2_resultOf_188 : decode cX2_resultOf 188 = .ok (.iconst 2, 1) := by decide +kernel
theorem dX2_resultOf_189 : decode cX2_resultOf 189 = .ok (.if_icmp .ne 39, 3) := by decide +kernel
theorem dX2_resultOf_192 : decode cX2_resultOf 192 = .ok (.iinc 3 (-2), 3) := by decide +kernel
theorem dX2_resultOf_195 : decode cX2_resultOf 195 = .ok (.aload_n 0, 1) := by decide +kernel
theorem dX2_resultOf_196 : decode cX2_resultOf 196 = .ok (.getfield 17, 3) := by decide +kernel
theorem dX2_resultOf_199 : decode cX2_resultOf 199 = .ok (.iload_n 3, 1) := by decide +kernel
theorem dX2_resultOf_200 : decode cX2_resultOf 200 = .ok (.iaload, 1) := by decide +kernel
theorem dX2_resultOf_201 : decode cX2_resultOf 201 = .ok (.aload_n 0, 1) := by decide +kernel
theorem dX2_resultOf_202 : decode cX2_resultOf 202 = .ok (.getfield 17, 3) := by decide +kernel
theorem dX2_resultOf_205 : decode cX2_resultOf 205 = .ok (.iload_n 3, 1) := by decide +kernel
theorem dX2_resultOf_206 : decode cX2_resultOf 206 = .ok (.iconst 1, 1) := by decide +kernel
theorem dX2_resultOf_207 : decode cX2_resultOf 207 = .ok (.iadd, 1) := by decide +kernel
theorem dX2_resultOf_208 : decode cX2_resultOf 208 = .ok (.iaload, 1) := by decide +kernel
theorem dX2_resultOf_209 : decode cX2_resultOf 209 = .ok (.if_icmp .lt 9, 3) := by decide +kernel
theorem dX2_resultOf_212 : decode cX2_resultOf 212 = .ok (.iload 6, 2) := by decide +kernel
theorem dX2_resultOf_214 : decode cX2_resultOf 214 = .ok (.iload_n 2, 1) := by decide +kernel
theorem dX2_resultOf_215 : decode cX2_resultOf 215 = .ok (.if_icmp .ge 7, 3) := by decide +kernel
theorem dX2_resultOf_218 : decode cX2_resultOf 218 = .ok (.iload_n 2, 1) := by decide +kernel
theorem dX2_resultOf_219 : decode cX2_resultOf 219 = .ok (.goto 5, 3) := by decide +kernel
theorem dX2_resultOf_222 : decode cX2_resultOf 222 = .ok (.iload 6, 2) := by decide +kernel
theorem dX2_resultOf_224 : decode cX2_resultOf 224 = .ok (.istore_n 2, 1) := by decide +kernel
theorem dX2_resultOf_225 : decode cX2_resultOf 225 = .ok (.goto 123, 3) := by decide +kernel
theorem dX2_resultOf_228 : decode cX2_resultOf 228 = .ok (.iinc 3 (-1), 3) := by decide +kernel
theorem dX2_resultOf_231 : decode cX2_resultOf 231 = .ok (.aload_n 0, 1) := by decide +kernel
theorem dX2_resultOf_232 : decode cX2_resultOf 232 = .ok (.getfield 17, 3) := by decide +kernel
theorem dX2_resultOf_235 : decode cX2_resultOf 235 = .ok (.iload_n 3, 1) := by decide +kernel
theorem dX2_resultOf_236 : decode cX2_resultOf 236 = .ok (.iaload, 1) := by decide +kernel
theorem dX2_resultOf_237 : decode cX2_resultOf 237 = .ok (.istore 8, 2) := by decide +kernel
theorem dX2_resultOf_239 : decode cX2_resultOf 239 = .ok (.iload 5, 2) := by decide +kernel
theorem dX2_resultOf_241 : decode cX2_resultOf 241 = .ok (.tableswitch 79 42 45 #[63, 31, 79, 47], 31) := by decide +kernel
theorem dX2_resultOf_272 : decode cX2_resultOf 272 = .ok (.aload_n 0, 1) := by decide +kernel
theorem dX2_resultOf_273 : decode cX2_resultOf 273 = .ok (.getfield 17, 3) := by decide +kernel
theorem dX2_resultOf_276 : decode cX2_resultOf 276 = .ok (.iload_n 3, 1) := by decide +kernel
theorem dX2_resultOf_277 : decode cX2_resultOf 277 = .ok (.iconst 1, 1) := by decide +kernel
theorem dX2_resultOf_278 : decode cX2_resultOf 278 = .ok (.isub, 1) := by decide +kernel
theorem dX2_resultOf_279 : decode cX2_resultOf 279 = .ok (.dup2, 1) := by decide +kernel
theorem dX2_resultOf_280 : decode cX2_resultOf 280 = .ok (.iaload, 1) := by decide +kernel
theorem dX2_resultOf_281 : decode cX2_resultOf 281 = .ok (.iload 8, 2) := by decide +kernel
theorem dX2_resultOf_283 : decode cX2_resultOf 283 = .ok (.iadd, 1) := by decide +kernel
theorem dX2_resultOf_284 : decode cX2_resultOf 284 = .ok (.iastore, 1) := by decide +kernel
theorem dX2_resultOf_285 : decode cX2_resultOf 285 = .ok (.goto 63, 3) := by decide +kernel
theorem dX2_resultOf_288 : decode cX2_resultOf 288 = .ok (.aload_n 0, 1) := by decide +kernel
theorem dX2_resultOf_289 : decode cX2_resultOf 289 = .ok (.getfield 17, 3) := by decide +kernel
theorem dX2_resultOf_292 : decode cX2_resultOf 292 = .ok (.iload_n 3, 1) := by decide +kernel
theorem dX2_resultOf_293 : decode cX2_resultOf 293 = .ok (.iconst 1, 1) := by decide +kernel
theorem dX2_resultOf_294 : decode cX2_resultOf 294 = .ok (.isub, 1) := by decide +kernel
theorem dX2_resultOf_295 : decode cX2_resultOf 295 = .ok (.dup2, 1) := by decide +kernel
theorem dX2_resultOf_296 : decode cX2_resultOf 296 = .ok (.iaload, 1) := by decide +kernel
theorem dX2_resultOf_297 : decode cX2_resultOf 297 = .ok (.iload 8, 2) := by decide +kernel
theorem dX2_resultOf_299 : decode cX2_resultOf 299 = .ok (.isub, 1) := by decide +kernel
theorem dX2_resultOf_300 : decode cX2_resultOf 300 = .ok (.iastore, 1) := by decide +kernel
theorem dX2_resultOf_301 : decode cX2_resultOf 301 = .ok (.goto 47, 3) := by decide +kernel
theorem dX2_resultOf_304 : decode cX2_resultOf 304 = .ok (.aload_n 0, 1) := by decide +kernel
theorem dX2_resultOf_305 : decode cX2_resultOf 305 = .ok (.getfield 17, 3) := by decide +kernel
theorem dX2_resultOf_308 : decode cX2_resultOf 308 = .ok (.iload_n 3, 1) := by decide +kernel
theorem dX2_resultOf_309 : decode cX2_resultOf 309 = .ok (.iconst 1, 1) := by decide +kernel
theorem dX2_resultOf_310 : decode cX2_resultOf 310 = .ok (.isub, 1) := by decide +kernel
theorem dX2_resultOf_311 : decode cX2_resultOf 311 = .ok (.dup2, 1) := by decide +kernel
theorem dX2_resultOf_312 : decode cX2_resultOf 312 = .ok (.iaload, 1) := by decide +kernel
theorem dX2_resultOf_313 : decode cX2_resultOf 313 = .ok (.iload 8, 2) := by decide +kernel
theorem dX2_resultOf_315 : decode cX2_resultOf 315 = .ok (.imul, 1) := by decide +kernel
theorem dX2_resultOf_316 : decode cX2_resultOf 316 = .ok (.iastore, 1) := by decide +kernel
theorem dX2_resultOf_317 : decode cX2_resultOf 317 = .ok (.goto 31, 3) := by decide +kernel
theorem dX2_resultOf_320 : decode cX2_resultOf 320 = .ok (.aload_n 0, 1) := by decide +kernel
theorem dX2_resultOf_321 : decode cX2_resultOf 321 = .ok (.getfield 17, 3) := by decide +kernel
theorem dX2_resultOf_324 : decode cX2_resultOf 324 = .ok (.iload_n 3, 1) := by decide +kernel
theorem dX2_resultOf_325 : decode cX2_resultOf 325 = .ok (.iconst 1, 1) := by decide +kernel
theorem dX2_resultOf_326 : decode cX2_resultOf 326 = .ok (.isub, 1) := by decide +kernel
theorem dX2_resultOf_327 : decode cX2_resultOf 327 = .ok (.iload 8, 2) := by decide +kernel
theorem dX2_resultOf_329 : decode cX2_resultOf 329 = .ok (.ifCond .ne 7, 3) := by decide +kernel
theorem dX2_resultOf_332 : decode cX2_resultOf 332 = .ok (.iconst 0, 1) := by decide +kernel
theorem dX2_resultOf_333 : decode cX2_resultOf 333 = .ok (.goto 14, 3) := by decide +kernel
theorem dX2_resultOf_336 : decode cX2_resultOf 336 = .ok (.aload_n 0, 1) := by decide +kernel
theorem dX2_resultOf_337 : decode cX2_resultOf 337 = .ok (.getfield 17, 3) := by decide +kernel
theorem dX2_resultOf_340 : decode cX2_resultOf 340 = .ok (.iload_n 3, 1) := by decide +kernel
theorem dX2_resultOf_341 : decode cX2_resultOf 341 = .ok (.iconst 1, 1) := by decide +kernel
theorem dX2_resultOf_342 : decode cX2_resultOf 342 = .ok (.isub, 1) := by decide +kernel
theorem dX2_resultOf_343 : decode cX2_resultOf 343 = .ok (.iaload, 1) := by decide +kernel
theorem dX2_resultOf_344 : decode cX2_resultOf 344 = .ok (.iload 8, 2) := by decide +kernel
theorem dX2_resultOf_346 : decode cX2_resultOf 346 = .ok (.idiv, 1) := by decide +kernel
theorem dX2_resultOf_347 : decode cX2_resultOf 347 = .ok (.iastore, 1) := by decide +kernel
theorem dX2_resultOf_348 : decode cX2_resultOf 348 = .ok (.iinc 4 1, 3) := by decide +kernel
theorem dX2_resultOf_351 : decode cX2_resultOf 351 = .ok (.goto (-336), 3) := by decide +kernel
theorem dX2_resultOf_354 : decode cX2_resultOf 354 = .ok (.iconst 0, 1) := by decide +kernel
theorem dX2_resultOf_355 : decode cX2_resultOf 355 = .ok (.ireturn, 1) := by decide +kernel
theorem dX2_quartersOf_0 : decode cX2_quartersOf 0 = .ok (.aload_n 0, 1) := by decide +kernel
theorem dX2_quartersOf_1 : decode cX2_quartersOf 1 = .ok (.aload_n 1, 1) := by decide +kernel
theorem dX2_quartersOf_2 : decode cX2_quartersOf 2 = .ok (.iload_n 2, 1) := by decide +kernel
theorem dX2_quartersOf_3 : decode cX2_quartersOf 3 = .ok (.iconst (-1), 1) := by decide +kernel
theorem dX2_quartersOf_4 : decode cX2_quartersOf 4 = .ok (.iconst 0, 1) := by decide +kernel
theorem dX2_quartersOf_5 : decode cX2_quartersOf 5 = .ok (.invokevirtual 24, 3) := by decide +kernel
theorem dX2_quartersOf_8 : decode cX2_quartersOf 8 = .ok (.iconst 0, 1) := by decide +kernel
theorem dX2_quartersOf_9 : decode cX2_quartersOf 9 = .ok (.iconst 4, 1) := by decide +kernel
theorem dX2_quartersOf_10 : decode cX2_quartersOf 10 = .ok (.aload_n 0, 1) := by decide +kernel
theorem dX2_quartersOf_11 : decode cX2_quartersOf 11 = .ok (.iconst 0, 1) := by decide +kernel
theorem dX2_quartersOf_12 : decode cX2_quartersOf 12 = .ok (.invokevirtual 28, 3) := by decide +kernel
theorem dX2_quartersOf_15 : decode cX2_quartersOf 15 = .ok (.invokestatic 32, 3) := by decide +kernel
theorem dX2_quartersOf_18 : decode cX2_quartersOf 18 = .ok (.invokestatic 38, 3) := by decide +kernel
theorem dX2_quartersOf_21 : decode cX2_quartersOf 21 = .ok (.ireturn, 1) := by decide +kernel
theorem dX2_worthTo_0 : decode cX2_worthTo 0 = .ok (.aload_n 0, 1) := by decide +kernel
theorem dX2_worthTo_1 : decode cX2_worthTo 1 = .ok (.aload_n 1, 1) := by decide +kernel
theorem dX2_worthTo_2 : decode cX2_worthTo 2 = .ok (.iload_n 3, 1) := by decide +kernel
theorem dX2_worthTo_3 : decode cX2_worthTo 3 = .ok (.iload_n 2, 1) := by decide +kernel
theorem dX2_worthTo_4 : decode cX2_worthTo 4 = .ok (.iload 4, 2) := by decide +kernel
theorem dX2_worthTo_6 : decode cX2_worthTo 6 = .ok (.invokevirtual 24, 3) := by decide +kernel
theorem dX2_worthTo_9 : decode cX2_worthTo 9 = .ok (.iconst 0, 1) := by decide +kernel
theorem dX2_worthTo_10 : decode cX2_worthTo 10 = .ok (.bipush 9, 2) := by decide +kernel
theorem dX2_worthTo_12 : decode cX2_worthTo 12 = .ok (.aload_n 0, 1) := by decide +kernel
theorem dX2_worthTo_13 : decode cX2_worthTo 13 = .ok (.iconst 1, 1) := by decide +kernel
theorem dX2_worthTo_14 : decode cX2_worthTo 14 = .ok (.invokevirtual 28, 3) := by decide +kernel
theorem dX2_worthTo_17 : decode cX2_worthTo 17 = .ok (.invokestatic 32, 3) := by decide +kernel
theorem dX2_worthTo_20 : decode cX2_worthTo 20 = .ok (.invokestatic 38, 3) := by decide +kernel
theorem dX2_worthTo_23 : decode cX2_worthTo 23 = .ok (.ireturn, 1) := by decide +kernel
theorem dX2_rentOf_0 : decode cX2_rentOf 0 = .ok (.aload_n 0, 1) := by decide +kernel
theorem dX2_rentOf_1 : decode cX2_rentOf 1 = .ok (.aload_n 1, 1) := by decide +kernel
theorem dX2_rentOf_2 : decode cX2_rentOf 2 = .ok (.iconst (-1), 1) := by decide +kernel
theorem dX2_rentOf_3 : decode cX2_rentOf 3 = .ok (.iload_n 2, 1) := by decide +kernel
theorem dX2_rentOf_4 : decode cX2_rentOf 4 = .ok (.aload_n 1, 1) := by decide +kernel
theorem dX2_rentOf_5 : decode cX2_rentOf 5 = .ok (.iload_n 2, 1) := by decide +kernel
theorem dX2_rentOf_6 : decode cX2_rentOf 6 = .ok (.invokevirtual 41, 3) := by decide +kernel
theorem dX2_rentOf_9 : decode cX2_rentOf 9 = .ok (.invokestatic 46, 3) := by decide +kernel
theorem dX2_rentOf_12 : decode cX2_rentOf 12 = .ok (.invokevirtual 24, 3) := by decide +kernel
theorem dX2_rentOf_15 : decode cX2_rentOf 15 = .ok (.iconst 0, 1) := by decide +kernel
theorem dX2_rentOf_16 : decode cX2_rentOf 16 = .ok (.bipush 99, 2) := by decide +kernel
theorem dX2_rentOf_18 : decode cX2_rentOf 18 = .ok (.aload_n 0, 1) := by decide +kernel
theorem dX2_rentOf_19 : decode cX2_rentOf 19 = .ok (.iconst 2, 1) := by decide +kernel
theorem dX2_rentOf_20 : decode cX2_rentOf 20 = .ok (.invokevirtual 28, 3) := by decide +kernel
theorem dX2_rentOf_23 : decode cX2_rentOf 23 = .ok (.invokestatic 32, 3) := by decide +kernel
theorem dX2_rentOf_26 : decode cX2_rentOf 26 = .ok (.invokestatic 38, 3) := by decide +kernel
theorem dX2_rentOf_29 : decode cX2_rentOf 29 = .ok (.ireturn, 1) := by decide +kernel
theorem dX2_cureFor_0 : decode cX2_cureFor 0 = .ok (.aload_n 0, 1) := by decide +kernel
theorem dX2_cureFor_1 : decode cX2_cureFor 1 = .ok (.aload_n 1, 1) := by decide +kernel
theorem dX2_cureFor_2 : decode cX2_cureFor 2 = .ok (.iconst (-1), 1) := by decide +kernel
theorem dX2_cureFor_3 : decode cX2_cureFor 3 = .ok (.iload_n 2, 1) := by decide +kernel
theorem dX2_cureFor_4 : decode cX2_cureFor 4 = .ok (.aload_n 1, 1) := by decide +kernel
theorem dX2_cureFor_5 : decode cX2_cureFor 5 = .ok (.iload_n 2, 1) := by decide +kernel
theorem dX2_cureFor_6 : decode cX2_cureFor 6 = .ok (.invokevirtual 41, 3) := by decide +kernel
theorem dX2_cureFor_9 : decode cX2_cureFor 9 = .ok (.invokestatic 46, 3) := by decide +kernel
theorem dX2_cureFor_12 : decode cX2_cureFor 12 = .ok (.invokevirtual 24, 3) := by decide +kernel
theorem dX2_cureFor_15 : decode cX2_cureFor 15 = .ok (.iconst 0, 1) := by decide +kernel
theorem dX2_cureFor_16 : decode cX2_cureFor 16 = .ok (.bipush 99, 2) := by decide +kernel
theorem dX2_cureFor_18 : decode cX2_cureFor 18 = .ok (.aload_n 0, 1) := by decide +kernel
theorem dX2_cureFor_19 : decode cX2_cureFor 19 = .ok (.iconst 3, 1) := by decide +kernel
theorem dX2_cureFor_20 : decode cX2_cureFor 20 = .ok (.invokevirtual 28, 3) := by decide +kernel
theorem dX2_cureFor_23 : decode cX2_cureFor 23 = .ok (.invokestatic 32, 3) := by decide +kernel
theorem dX2_cureFor_26 : decode cX2_cureFor 26 = .ok (.invokestatic 38, 3) := by decide +kernel
theorem dX2_cureFor_29 : decode cX2_cureFor 29 = .ok (.ireturn, 1) := by decide +kernel
theorem fl_X2_13 : fl RX2 13 2 1 := ⟨RX2, TX2, 3, rfl, iw_X2, by decide, lg_at 270 (by decide +kernel) (by decide +kernel), rfl⟩
theorem fl_X2_17 : fl RX2 17 2 2 := ⟨RX2, TX2, 3, rfl, iw_X2, by decide, lg_at 271 (by decide +kernel) (by decide +kernel), rfl⟩
theorem fl_X2_20 : fl RX2 20 2 0 := ⟨RX2, TX2, 3, rfl, iw_X2, by decide, lg_at 269 (by decide +kernel) (by decide +kernel), rfl⟩
theorem fl_X2_51 : fl RX2 51 7 0 := ⟨RX7, TX7, 1, rfl, iw_X7, by decide, lg_at 234 (by decide +kernel) (by decide +kernel), rfl⟩
theorem fl_X2_54 : fl RX2 54 9 7 := ⟨RX9, TX9, 13, rfl, iw_X9, by decide, lg_at 106 (by decide +kernel) (by decide +kernel), rfl⟩
theorem fl_X2_59 : fl RX2 59 9 8 := ⟨RX9, TX9, 13, rfl, iw_X9, by decide, lg_at 110 (by decide +kernel) (by decide +kernel), rfl⟩
theorem fl_X2_62 : fl RX2 62 9 10 := ⟨RX9, TX9, 13, rfl, iw_X9, by decide, lg_at 116 (by decide +kernel) (by decide +kernel), rfl⟩
theorem fl_X2_65 : fl RX2 65 9 5 := ⟨RX9, TX9, 13, rfl, iw_X9, by decide, lg_at 99 (by decide +kernel) (by decide +kernel), rfl⟩
theorem fl_X2_69 : fl RX2 69 9 11 := ⟨RX9, TX9, 13, rfl, iw_X9, by decide, lg_at 118 (by decide +kernel) (by decide +kernel), rfl⟩
theorem fl_X2_72 : fl RX2 72 9 12 := ⟨RX9, TX9, 13, rfl, iw_X9, by decide, lg_at 120 (by decide +kernel) (by decide +kernel), rfl⟩
theorem cV_X2_24 : cV RX2 24 yX2_setVars cX2_setVars 7 none 4 := ⟨⟨lg_at 730 (by decide +kernel) (by decide +kernel), lg_at 732 (by decide +kernel) (by decide +kernel), lg_sel 23 (by decide +kernel) (by decide +kernel), lg_at 9 (by decide +kernel) (by decide +kernel), lg_at 733 (by decide +kernel) (by decide +kernel)⟩, by decide +kernel, by decide +kernel, by decide +kernel⟩
theorem cV_X2_28 : cV RX2 28 yX2_resultOf cX2_resultOf 9 (some .int) 1 := ⟨⟨lg_at 734 (by decide +kernel) (by decide +kernel), lg_at 736 (by decide +kernel) (by decide +kernel), lg_sel 24 (by decide +kernel) (by decide +kernel), lg_at 9 (by decide +kernel) (by decide +kernel), lg_at 737 (by decide +kernel) (by decide +kernel)⟩, by decide +kernel, by decide +kernel, by decide +kernel⟩
theorem cV_X2_41 : cV RX2 41 yX7_partsOf cX7_partsOf 4 (some .int) 1 := ⟨⟨lg_at 780 (by decide +kernel) (by decide +kernel), lg_at 761 (by decide +kernel) (by decide +kernel), lg_at 762 (by decide +kernel) (by decide +kernel), lg_at 7 (by decide +kernel) (by decide +kernel), lg_at 763 (by decide +kernel) (by decide +kernel)⟩, by decide +kernel, by decide +kernel, by decide +kernel⟩
theorem cS_X2_46 : cS RX2 46 yJ6_bitCount_0f7a4 cJ6_bitCount_0f7a4 1 (some .int) 1 := ⟨⟨lg_at 781 (by decide +kernel) (by decide +kernel), lg_at 782 (by decide +kernel) (by decide +kernel), lg_at 22 (by decide +kernel) (by decide +kernel), lg_at 783 (by decide +kernel) (by decide +kernel)⟩, by decide +kernel, by decide +kernel, by decide +kernel⟩
theorem mmax_X2_38 : mMax RX2 38 := ⟨lg_at 739 (by decide +kernel) (by decide +kernel), lg_at 569 (by decide +kernel) (by decide +kernel), lg_at 20 (by decide +kernel) (by decide +kernel), lg_at 570 (by decide +kernel) (by decide +kernel)⟩
theorem mmin_X2_32 : mMin RX2 32 := ⟨lg_at 738 (by decide +kernel) (by decide +kernel), lg_at 572 (by decide +kernel) (by decide +kernel), lg_at 20 (by decide +kernel) (by decide +kernel), lg_at 573 (by decide +kernel) (by decide +kernel)⟩
section
variable {p : Program} {l : Launch} {e : Env} {s : State} {m : MethodId} {args : Array Value} {below : List Frame} {meth : Method} {c : Code} {D : va_G} {ad : Nat → Nat} {κ : KC}
-- X2_setVars
def FX2_setVars_147  (st : Nat) (x2 : Int32) (x3 : Int32) (x4 : Int32) (x5 : Int32) (x6 : Int32) (y2 : Int32) (σ : HS) : Option HS :=
  hl_ (pI σ 39 5 y2) fun σ_1 => hl_ (pI σ_1 39 6 (σ_1.1 (st + 10) 30)) fun σ_2 => hl_ (pI σ_2 39 7 x4) fun σ_3 => if x6 = 0 then hl_ (pI σ_3 39 8 (0 : Int32)) fun σ_5 => some σ_5 else hl_ (pI σ_3 39 8 x3) fun σ_6 => some σ_6
def FX2_setVars_123  (st : Nat) (x2 : Int32) (x3 : Int32) (x4 : Int32) (x5 : Int32) (x6 : Int32) (y2 : Int32) (σ : HS) : Option HS :=
  hl_ (pI σ 39 4 y2) fun σ_7 => if x6 = 0 then FX2_setVars_147 st x2 x3 x4 x5 x6 (0 : Int32) σ_7 else gd (ix x3 5) (FX2_setVars_147 st x2 x3 x4 x5 x6 (σ_7.1 24 (x3.toNatClampNeg)) σ_7)
def FX2_setVars_73  (st : Nat) (x2 : Int32) (x3 : Int32) (x4 : Int32) (x5 : Int32) (x6 : Int32) (y2 : Int32) (σ : HS) : Option HS :=
  hl_ (pI σ 39 1 y2) fun σ_10 => hl_ (pI σ_10 39 2 (σ_10.1 (st + 10) 28)) fun σ_11 => hl_ (pI σ_11 39 3 (σ_11.1 (st + 10) 29)) fun σ_12 => if x6 = 0 then FX2_setVars_123 st x2 x3 x4 x5 x6 (0 : Int32) σ_12 else gd (ix x3 5) (FX2_setVars_123 st x2 x3 x4 x5 x6 (σ_12.1 23 (x3.toNatClampNeg)) σ_12)
def FX2_setVars_50  (st : Nat) (x2 : Int32) (x3 : Int32) (x4 : Int32) (x5 : Int32) (x6 : Int32) (y2 : Int32) (σ : HS) : Option HS :=
  hl_ (pI σ 39 0 y2) fun σ_15 => if x5 = 0 then FX2_setVars_73 st x2 x3 x4 x5 x6 (0 : Int32) σ_15 else gd (ix ((0 : Int32) + x2) 33) (FX2_setVars_73 st x2 x3 x4 x5 x6 (σ_15.1 (st + 10) (((0 : Int32) + x2).toNatClampNeg)) σ_15)
def FX2_setVars_33  (st : Nat) (x2 : Int32) (x3 : Int32) (x4 : Int32) (x5 : Int32) (y0 : Int32) (σ : HS) : Option HS :=
  if x5 = 0 then FX2_setVars_50 st x2 x3 x4 x5 y0 (0 : Int32) σ else FX2_setVars_50 st x2 x3 x4 x5 y0 x2 σ
def FX2_setVars_32  (st : Nat) (x2 : Int32) (x3 : Int32) (x4 : Int32) (x5 : Int32) (σ : HS) : Option HS :=
  FX2_setVars_33 st x2 x3 x4 x5 (0 : Int32) σ
def FX2_setVars_16  (st : Nat) (x2 : Int32) (x3 : Int32) (x4 : Int32) (y0 : Int32) (σ : HS) : Option HS :=
  if x3 < (0 : Int32) then FX2_setVars_32 st x2 x3 x4 y0 σ else if (5 : Int32) ≤ x3 then FX2_setVars_32 st x2 x3 x4 y0 σ else FX2_setVars_33 st x2 x3 x4 y0 (1 : Int32) σ
def FX2_setVars_15  (st : Nat) (x2 : Int32) (x3 : Int32) (x4 : Int32) (σ : HS) : Option HS :=
  FX2_setVars_16 st x2 x3 x4 (0 : Int32) σ
def FX2_setVars (st : Nat) (x2 : Int32) (x3 : Int32) (x4 : Int32) (σ : HS) : Option HS :=
  if x2 < (0 : Int32) then FX2_setVars_15 st x2 x3 x4 σ else if (10 : Int32) ≤ x2 then FX2_setVars_15 st x2 x3 x4 σ else FX2_setVars_16 st x2 x3 x4 (1 : Int32) σ
set_option maxHeartbeats 4000000 in
set_option maxRecDepth 100000 in
theorem wX2_setVars_147 (C : Cx 50 D ad κ p s m args meth c cX2_setVars RX2 7 none) {st : Nat} (hst : isSt st) {R : HS} : ∀ (x2 : Int32) (x3 : Int32) (x4 : Int32) (x5 : Int32) (x6 : Int32) (y2 : Int32) (σ : HS) (H : Heap) (locs : List Loc) (ls : Array Slot), FX2_setVars_147 st x2 x3 x4 x5 x6 y2 σ = some R → Hd 50 ceX D ad κ s σ H locs → lv_has ls 7 [(0, .ref (ad 7)), (1, .ref (ad st)), (2, .int x2), (3, .int x3), (4, .int x4), (5, .int x5), (6, .int x6)] → W p l e ({ frames := 0, cells := 0, slots := 0, locals := 0 } : Room) s m args below meth c H locs 0 0 (MQ below (QV 50 ceX D ad κ R) args s 0 0 (AX 50 ad)) (F0 m 147 ls [.int y2, .int (5 : Int32), .ref (ad 39)]) := by
  have hx := C.1
  have hb := C.2.1
  have hown := C.2.2.2.1
  have hts := C.2.2.2.2.1
  intro x2 x3 x4 x5 x6 y2 σ H locs ls h hH hl
  rw [FX2_setVars_147] at h
  obtain ⟨σ_1, eσ_1, h⟩ := hl_ex h
  refine g_iast C hH 39 (Nat.le_of_ble_eq_true rfl) (fun _ _ => rfl) (k := 5) (by decide) (ix_in rfl) dX2_setVars_147 (fun H locs hH => ?_)
  rw [← eσ_1] at hH
  refine lv_aload_n hx hb dX2_setVars_148 rfl (lv_at hl 0 rfl) ?_
  refine g_get C hH 7 (Nat.le_of_ble_eq_true rfl) rfl fl_X2_13 (v := .ref (ad 39)) rfl dX2_setVars_149 ?_
  refine lv_bipush (v := 6) hx hb dX2_setVars_152 (by decide) ?_
  refine lv_aload_n hx hb dX2_setVars_154 rfl (lv_at hl 1 rfl) ?_
  refine g_get C hH st (st_lt hst) (st_ce hst) fl_X2_51 (v := .ref (ad (st + 10))) rfl dX2_setVars_155 ?_
  refine lv_bipush (v := 30) hx hb dX2_setVars_158 (by decide) ?_
  refine g_iald C hH (st + 10) (st_lt2 hst) (st_ce2 hst _ _) (k := 30) (by decide) (ix_in rfl) dX2_setVars_160 ?_
  obtain ⟨σ_2, eσ_2, h⟩ := hl_ex h
  refine g_iast C hH 39 (Nat.le_of_ble_eq_true rfl) (fun _ _ => rfl) (k := 6) (by decide) (ix_in rfl) dX2_setVars_161 (fun H locs hH => ?_)
  rw [← eσ_2] at hH
  refine lv_aload_n hx hb dX2_setVars_162 rfl (lv_at hl 0 rfl) ?_
  refine g_get C hH 7 (Nat.le_of_ble_eq_true rfl) rfl fl_X2_13 (v := .ref (ad 39)) rfl dX2_setVars_163 ?_
  refine lv_bipush (v := 7) hx hb dX2_setVars_166 (by decide) ?_
  refine lv_iload hx hb dX2_setVars_168 (lv_at hl 4 rfl) ?_
  obtain ⟨σ_3, eσ_3, h⟩ := hl_ex h
  refine g_iast C hH 39 (Nat.le_of_ble_eq_true rfl) (fun _ _ => rfl) (k := 7) (by decide) (ix_in rfl) dX2_setVars_170 (fun H locs hH => ?_)
  rw [← eσ_3] at hH
  refine lv_aload_n hx hb dX2_setVars_171 rfl (lv_at hl 0 rfl) ?_
  refine g_get C hH 7 (Nat.le_of_ble_eq_true rfl) rfl fl_X2_13 (v := .ref (ad 39)) rfl dX2_setVars_172 ?_
  refine lv_bipush (v := 8) hx hb dX2_setVars_175 (by decide) ?_
  refine lv_iload hx hb dX2_setVars_177 (lv_at hl 6 rfl) ?_
  refine lv_if_eq (tgt := 186) hx hb dX2_setVars_179 (by decide) (fun hq_4 => ?_) (fun hq_4 => ?_)
  · rw [if_pos hq_4] at h
    refine lv_iconst (v := 0) hx hb dX2_setVars_186 (by decide) ?_
    obtain ⟨σ_5, eσ_5, h⟩ := hl_ex h
    refine g_iast C hH 39 (Nat.le_of_ble_eq_true rfl) (fun _ _ => rfl) (k := 8) (by decide) (ix_in rfl) dX2_setVars_187 (fun H locs hH => ?_)
    rw [← eσ_5] at hH
    exact g_retV C hH h dX2_setVars_188
  · rw [if_neg hq_4] at h
    refine lv_iload_n hx hb dX2_setVars_182 rfl (lv_at hl 3 rfl) ?_
    refine lv_goto (tgt := 187) hx hb dX2_setVars_183 (by decide) ?_
    obtain ⟨σ_6, eσ_6, h⟩ := hl_ex h
    refine g_iast C hH 39 (Nat.le_of_ble_eq_true rfl) (fun _ _ => rfl) (k := 8) (by decide) (ix_in rfl) dX2_setVars_187 (fun H locs hH => ?_)
    rw [← eσ_6] at hH
    exact g_retV C hH h dX2_setVars_188
set_option maxHeartbeats 4000000 in
set_option maxRecDepth 100000 in
theorem wX2_setVars_123 (C : Cx 50 D ad κ p s m args meth c cX2_setVars RX2 7 none) {st : Nat} (hst : isSt st) {R : HS} : ∀ (x2 : Int32) (x3 : Int32) (x4 : Int32) (x5 : Int32) (x6 : Int32) (y2 : Int32) (σ : HS) (H : Heap) (locs : List Loc) (ls : Array Slot), FX2_setVars_123 st x2 x3 x4 x5 x6 y2 σ = some R → Hd 50 ceX D ad κ s σ H locs → lv_has ls 7 [(0, .ref (ad 7)), (1, .ref (ad st)), (2, .int x2), (3, .int x3), (4, .int x4), (5, .int x5), (6, .int x6)] → W p l e ({ frames := 0, cells := 0, slots := 0, locals := 0 } : Room) s m args below meth c H locs 0 0 (MQ below (QV 50 ceX D ad κ R) args s 0 0 (AX 50 ad)) (F0 m 123 ls [.int y2, .int (4 : Int32), .ref (ad 39)]) := by
  have hx := C.1
  have hb := C.2.1
  have hown := C.2.2.2.1
  have hts := C.2.2.2.2.1
  intro x2 x3 x4 x5 x6 y2 σ H locs ls h hH hl
  rw [FX2_setVars_123] at h
  obtain ⟨σ_7, eσ_7, h⟩ := hl_ex h
  refine g_iast C hH 39 (Nat.le_of_ble_eq_true rfl) (fun _ _ => rfl) (k := 4) (by decide) (ix_in rfl) dX2_setVars_123 (fun H locs hH => ?_)
  rw [← eσ_7] at hH
  refine lv_aload_n hx hb dX2_setVars_124 rfl (lv_at hl 0 rfl) ?_
  refine g_get C hH 7 (Nat.le_of_ble_eq_true rfl) rfl fl_X2_13 (v := .ref (ad 39)) rfl dX2_setVars_125 ?_
  refine lv_iconst (v := 5) hx hb dX2_setVars_128 (by decide) ?_
  refine lv_iload hx hb dX2_setVars_129 (lv_at hl 6 rfl) ?_
  refine lv_if_eq (tgt := 146) hx hb dX2_setVars_131 (by decide) (fun hq_8 => ?_) (fun hq_8 => ?_)
  · rw [if_pos hq_8] at h
    refine lv_iconst (v := 0) hx hb dX2_setVars_146 (by decide) ?_
    exact wX2_setVars_147 C hst  _ _ _ _ _ _ _ _ _ _ h hH (lv_sub hl [0, 1, 2, 3, 4, 5, 6] rfl)
  · rw [if_neg hq_8] at h
    refine lv_aload_n hx hb dX2_setVars_134 rfl (lv_at hl 0 rfl) ?_
    refine g_get C hH 7 (Nat.le_of_ble_eq_true rfl) rfl fl_X2_20 (v := .ref (ad 3)) rfl dX2_setVars_135 ?_
    refine g_get C hH 3 (Nat.le_of_ble_eq_true rfl) rfl fl_X2_59 (v := .ref (ad 24)) rfl dX2_setVars_138 ?_
    refine lv_iload_n hx hb dX2_setVars_141 rfl (lv_at hl 3 rfl) ?_
    obtain ⟨hi_9, h⟩ := gd_ex h
    refine g_iald C hH 24 (Nat.le_of_ble_eq_true rfl) rfl (k := (x3.toNatClampNeg)) rfl (ix_in hi_9) dX2_setVars_142 ?_
    refine lv_goto (tgt := 147) hx hb dX2_setVars_143 (by decide) ?_
    exact wX2_setVars_147 C hst  _ _ _ _ _ _ _ _ _ _ h hH (lv_sub hl [0, 1, 2, 3, 4, 5, 6] rfl)
set_option maxHeartbeats 4000000 in
set_option maxRecDepth 100000 in
theorem wX2_setVars_73 (C : Cx 50 D ad κ p s m args meth c cX2_setVars RX2 7 none) {st : Nat} (hst : isSt st) {R : HS} : ∀ (x2 : Int32) (x3 : Int32) (x4 : Int32) (x5 : Int32) (x6 : Int32) (y2 : Int32) (σ : HS) (H : Heap) (locs : List Loc) (ls : Array Slot), FX2_setVars_73 st x2 x3 x4 x5 x6 y2 σ = some R → Hd 50 ceX D ad κ s σ H locs → lv_has ls 7 [(0, .ref (ad 7)), (1, .ref (ad st)), (2, .int x2), (3, .int x3), (4, .int x4), (5, .int x5), (6, .int x6)] → W p l e ({ frames := 0, cells := 0, slots := 0, locals := 0 } : Room) s m args below meth c H locs 0 0 (MQ below (QV 50 ceX D ad κ R) args s 0 0 (AX 50 ad)) (F0 m 73 ls [.int y2, .int (1 : Int32), .ref (ad 39)]) := by
  have hx := C.1
  have hb := C.2.1
  have hown := C.2.2.2.1
  have hts := C.2.2.2.2.1
  intro x2 x3 x4 x5 x6 y2 σ H locs ls h hH hl
  rw [FX2_setVars_73] at h
  obtain ⟨σ_10, eσ_10, h⟩ := hl_ex h
  refine g_iast C hH 39 (Nat.le_of_ble_eq_true rfl) (fun _ _ => rfl) (k := 1) (by decide) (ix_in rfl) dX2_setVars_73 (fun H locs hH => ?_)
  rw [← eσ_10] at hH
  refine lv_aload_n hx hb dX2_setVars_74 rfl (lv_at hl 0 rfl) ?_
  refine g_get C hH 7 (Nat.le_of_ble_eq_true rfl) rfl fl_X2_13 (v := .ref (ad 39)) rfl dX2_setVars_75 ?_
  refine lv_iconst (v := 2) hx hb dX2_setVars_78 (by decide) ?_
  refine lv_aload_n hx hb dX2_setVars_79 rfl (lv_at hl 1 rfl) ?_
  refine g_get C hH st (st_lt hst) (st_ce hst) fl_X2_51 (v := .ref (ad (st + 10))) rfl dX2_setVars_80 ?_
  refine lv_bipush (v := 28) hx hb dX2_setVars_83 (by decide) ?_
  refine g_iald C hH (st + 10) (st_lt2 hst) (st_ce2 hst _ _) (k := 28) (by decide) (ix_in rfl) dX2_setVars_85 ?_
  obtain ⟨σ_11, eσ_11, h⟩ := hl_ex h
  refine g_iast C hH 39 (Nat.le_of_ble_eq_true rfl) (fun _ _ => rfl) (k := 2) (by decide) (ix_in rfl) dX2_setVars_86 (fun H locs hH => ?_)
  rw [← eσ_11] at hH
  refine lv_aload_n hx hb dX2_setVars_87 rfl (lv_at hl 0 rfl) ?_
  refine g_get C hH 7 (Nat.le_of_ble_eq_true rfl) rfl fl_X2_13 (v := .ref (ad 39)) rfl dX2_setVars_88 ?_
  refine lv_iconst (v := 3) hx hb dX2_setVars_91 (by decide) ?_
  refine lv_aload_n hx hb dX2_setVars_92 rfl (lv_at hl 1 rfl) ?_
  refine g_get C hH st (st_lt hst) (st_ce hst) fl_X2_51 (v := .ref (ad (st + 10))) rfl dX2_setVars_93 ?_
  refine lv_bipush (v := 29) hx hb dX2_setVars_96 (by decide) ?_
  refine g_iald C hH (st + 10) (st_lt2 hst) (st_ce2 hst _ _) (k := 29) (by decide) (ix_in rfl) dX2_setVars_98 ?_
  obtain ⟨σ_12, eσ_12, h⟩ := hl_ex h
  refine g_iast C hH 39 (Nat.le_of_ble_eq_true rfl) (fun _ _ => rfl) (k := 3) (by decide) (ix_in rfl) dX2_setVars_99 (fun H locs hH => ?_)
  rw [← eσ_12] at hH
  refine lv_aload_n hx hb dX2_setVars_100 rfl (lv_at hl 0 rfl) ?_
  refine g_get C hH 7 (Nat.le_of_ble_eq_true rfl) rfl fl_X2_13 (v := .ref (ad 39)) rfl dX2_setVars_101 ?_
  refine lv_iconst (v := 4) hx hb dX2_setVars_104 (by decide) ?_
  refine lv_iload hx hb dX2_setVars_105 (lv_at hl 6 rfl) ?_
  refine lv_if_eq (tgt := 122) hx hb dX2_setVars_107 (by decide) (fun hq_13 => ?_) (fun hq_13 => ?_)
  · rw [if_pos hq_13] at h
    refine lv_iconst (v := 0) hx hb dX2_setVars_122 (by decide) ?_
    exact wX2_setVars_123 C hst  _ _ _ _ _ _ _ _ _ _ h hH (lv_sub hl [0, 1, 2, 3, 4, 5, 6] rfl)
  · rw [if_neg hq_13] at h
    refine lv_aload_n hx hb dX2_setVars_110 rfl (lv_at hl 0 rfl) ?_
    refine g_get C hH 7 (Nat.le_of_ble_eq_true rfl) rfl fl_X2_20 (v := .ref (ad 3)) rfl dX2_setVars_111 ?_
    refine g_get C hH 3 (Nat.le_of_ble_eq_true rfl) rfl fl_X2_54 (v := .ref (ad 23)) rfl dX2_setVars_114 ?_
    refine lv_iload_n hx hb dX2_setVars_117 rfl (lv_at hl 3 rfl) ?_
    obtain ⟨hi_14, h⟩ := gd_ex h
    refine g_iald C hH 23 (Nat.le_of_ble_eq_true rfl) rfl (k := (x3.toNatClampNeg)) rfl (ix_in hi_14) dX2_setVars_118 ?_
    refine lv_goto (tgt := 123) hx hb dX2_setVars_119 (by decide) ?_
    exact wX2_setVars_123 C hst  _ _ _ _ _ _ _ _ _ _ h hH (lv_sub hl [0, 1, 2, 3, 4, 5, 6] rfl)
set_option maxHeartbeats 4000000 in
set_option maxRecDepth 100000 in
theorem wX2_setVars_50 (C : Cx 50 D ad κ p s m args meth c cX2_setVars RX2 7 none) {st : Nat} (hst : isSt st) {R : HS} : ∀ (x2 : Int32) (x3 : Int32) (x4 : Int32) (x5 : Int32) (x6 : Int32) (y2 : Int32) (σ : HS) (H : Heap) (locs : List Loc) (ls : Array Slot), FX2_setVars_50 st x2 x3 x4 x5 x6 y2 σ = some R → Hd 50 ceX D ad κ s σ H locs → lv_has ls 7 [(0, .ref (ad 7)), (1, .ref (ad st)), (2, .int x2), (3, .int x3), (4, .int x4), (5, .int x5), (6, .int x6)] → W p l e ({ frames := 0, cells := 0, slots := 0, locals := 0 } : Room) s m args below meth c H locs 0 0 (MQ below (QV 50 ceX D ad κ R) args s 0 0 (AX 50 ad)) (F0 m 50 ls [.int y2, .int (0 : Int32), .ref (ad 39)]) := by
  have hx := C.1
  have hb := C.2.1
  have hown := C.2.2.2.1
  have hts := C.2.2.2.2.1
  intro x2 x3 x4 x5 x6 y2 σ H locs ls h hH hl
  rw [FX2_setVars_50] at h
  obtain ⟨σ_15, eσ_15, h⟩ := hl_ex h
  refine g_iast C hH 39 (Nat.le_of_ble_eq_true rfl) (fun _ _ => rfl) (k := 0) (by decide) (ix_in rfl) dX2_setVars_50 (fun H locs hH => ?_)
  rw [← eσ_15] at hH
  refine lv_aload_n hx hb dX2_setVars_51 rfl (lv_at hl 0 rfl) ?_
  refine g_get C hH 7 (Nat.le_of_ble_eq_true rfl) rfl fl_X2_13 (v := .ref (ad 39)) rfl dX2_setVars_52 ?_
  refine lv_iconst (v := 1) hx hb dX2_setVars_55 (by decide) ?_
  refine lv_iload hx hb dX2_setVars_56 (lv_at hl 5 rfl) ?_
  refine lv_if_eq (tgt := 72) hx hb dX2_setVars_58 (by decide) (fun hq_16 => ?_) (fun hq_16 => ?_)
  · rw [if_pos hq_16] at h
    refine lv_iconst (v := 0) hx hb dX2_setVars_72 (by decide) ?_
    exact wX2_setVars_73 C hst  _ _ _ _ _ _ _ _ _ _ h hH (lv_sub hl [0, 1, 2, 3, 4, 5, 6] rfl)
  · rw [if_neg hq_16] at h
    refine lv_aload_n hx hb dX2_setVars_61 rfl (lv_at hl 1 rfl) ?_
    refine g_get C hH st (st_lt hst) (st_ce hst) fl_X2_51 (v := .ref (ad (st + 10))) rfl dX2_setVars_62 ?_
    refine lv_iconst (v := 0) hx hb dX2_setVars_65 (by decide) ?_
    refine lv_iload_n hx hb dX2_setVars_66 rfl (lv_at hl 2 rfl) ?_
    refine lv_iadd hx hb dX2_setVars_67 ?_
    obtain ⟨hi_17, h⟩ := gd_ex h
    refine g_iald C hH (st + 10) (st_lt2 hst) (st_ce2 hst _ _) (k := (((0 : Int32) + x2).toNatClampNeg)) rfl (ix_in hi_17) dX2_setVars_68 ?_
    refine lv_goto (tgt := 73) hx hb dX2_setVars_69 (by decide) ?_
    exact wX2_setVars_73 C hst  _ _ _ _ _ _ _ _ _ _ h hH (lv_sub hl [0, 1, 2, 3, 4, 5, 6] rfl)
set_option maxHeartbeats 4000000 in
set_option maxRecDepth 100000 in
theorem wX2_setVars_33 (C : Cx 50 D ad κ p s m args meth c cX2_setVars RX2 7 none) {st : Nat} (hst : isSt st) {R : HS} : ∀ (x2 : Int32) (x3 : Int32) (x4 : Int32) (x5 : Int32) (y0 : Int32) (σ : HS) (H : Heap) (locs : List Loc) (ls : Array Slot), FX2_setVars_33 st x2 x3 x4 x5 y0 σ = some R → Hd 50 ceX D ad κ s σ H locs → lv_has ls 7 [(0, .ref (ad 7)), (1, .ref (ad st)), (2, .int x2), (3, .int x3), (4, .int x4), (5, .int x5)] → W p l e ({ frames := 0, cells := 0, slots := 0, locals := 0 } : Room) s m args below meth c H locs 0 0 (MQ below (QV 50 ceX D ad κ R) args s 0 0 (AX 50 ad)) (F0 m 33 ls [.int y0]) := by
  have hx := C.1
  have hb := C.2.1
  have hown := C.2.2.2.1
  have hts := C.2.2.2.2.1
  intro x2 x3 x4 x5 y0 σ H locs ls h hH hl
  rw [FX2_setVars_33] at h
  refine lv_istore (lv' := [(6, .int y0), (0, .ref (ad 7)), (1, .ref (ad st)), (2, .int x2), (3, .int x3), (4, .int x4), (5, .int x5)]) hx hb dX2_setVars_33 hl (by decide) rfl (fun ls hl => ?_)
  refine lv_aload_n hx hb dX2_setVars_35 rfl (lv_at hl 1 rfl) ?_
  refine g_get C hH 7 (Nat.le_of_ble_eq_true rfl) rfl fl_X2_13 (v := .ref (ad 39)) rfl dX2_setVars_36 ?_
  refine lv_iconst (v := 0) hx hb dX2_setVars_39 (by decide) ?_
  refine lv_iload hx hb dX2_setVars_40 (lv_at hl 6 rfl) ?_
  refine lv_if_eq (tgt := 49) hx hb dX2_setVars_42 (by decide) (fun hq_18 => ?_) (fun hq_18 => ?_)
  · rw [if_pos hq_18] at h
    refine lv_iconst (v := 0) hx hb dX2_setVars_49 (by decide) ?_
    exact wX2_setVars_50 C hst  _ _ _ _ _ _ _ _ _ _ h hH (lv_sub hl [1, 2, 3, 4, 5, 6, 0] rfl)
  · rw [if_neg hq_18] at h
    refine lv_iload_n hx hb dX2_setVars_45 rfl (lv_at hl 3 rfl) ?_
    refine lv_goto (tgt := 50) hx hb dX2_setVars_46 (by decide) ?_
    exact wX2_setVars_50 C hst  _ _ _ _ _ _ _ _ _ _ h hH (lv_sub hl [1, 2, 3, 4, 5, 6, 0] rfl)
set_option maxHeartbeats 4000000 in
set_option maxRecDepth 100000 in
theorem wX2_setVars_32 (C : Cx 50 D ad κ p s m args meth c cX2_setVars RX2 7 none) {st : Nat} (hst : isSt st) {R : HS} : ∀ (x2 : Int32) (x3 : Int32) (x4 : Int32) (x5 : Int32) (σ : HS) (H : Heap) (locs : List Loc) (ls : Array Slot), FX2_setVars_32 st x2 x3 x4 x5 σ = some R → Hd 50 ceX D ad κ s σ H locs → lv_has ls 7 [(0, .ref (ad 7)), (1, .ref (ad st)), (2, .int x2), (3, .int x3), (4, .int x4), (5, .int x5)] → W p l e ({ frames := 0, cells := 0, slots := 0, locals := 0 } : Room) s m args below meth c H locs 0 0 (MQ below (QV 50 ceX D ad κ R) args s 0 0 (AX 50 ad)) (F0 m 32 ls []) := by
  have hx := C.1
  have hb := C.2.1
  have hown := C.2.2.2.1
  have hts := C.2.2.2.2.1
  intro x2 x3 x4 x5 σ H locs ls h hH hl
  rw [FX2_setVars_32] at h
  refine lv_iconst (v := 0) hx hb dX2_setVars_32 (by decide) ?_
  exact wX2_setVars_33 C hst  _ _ _ _ _ _ _ _ _ h hH (lv_sub hl [0, 1, 2, 3, 4, 5] rfl)
set_option maxHeartbeats 4000000 in
set_option maxRecDepth 100000 in
theorem wX2_setVars_16 (C : Cx 50 D ad κ p s m args meth c cX2_setVars RX2 7 none) {st : Nat} (hst : isSt st) {R : HS} : ∀ (x2 : Int32) (x3 : Int32) (x4 : Int32) (y0 : Int32) (σ : HS) (H : Heap) (locs : List Loc) (ls : Array Slot), FX2_setVars_16 st x2 x3 x4 y0 σ = some R → Hd 50 ceX D ad κ s σ H locs → lv_has ls 7 [(0, .ref (ad 7)), (1, .ref (ad st)), (2, .int x2), (3, .int x3), (4, .int x4)] → W p l e ({ frames := 0, cells := 0, slots := 0, locals := 0 } : Room) s m args below meth c H locs 0 0 (MQ below (QV 50 ceX D ad κ R) args s 0 0 (AX 50 ad)) (F0 m 16 ls [.int y0]) := by
  have hx := C.1
  have hb := C.2.1
  have hown := C.2.2.2.1
  have hts := C.2.2.2.2.1
  intro x2 x3 x4 y0 σ H locs ls h hH hl
  rw [FX2_setVars_16] at h
  refine lv_istore (lv' := [(5, .int y0), (0, .ref (ad 7)), (1, .ref (ad st)), (2, .int x2), (3, .int x3), (4, .int x4)]) hx hb dX2_setVars_16 hl (by decide) rfl (fun ls hl => ?_)
  refine lv_iconst (v := 0) hx hb dX2_setVars_18 (by decide) ?_
  refine lv_iload_n hx hb dX2_setVars_19 rfl (lv_at hl 4 rfl) ?_
  refine lv_icmp_gt (tgt := 32) hx hb dX2_setVars_20 (by decide) (fun hq_19 => ?_) (fun hq_19 => ?_)
  · rw [if_pos hq_19] at h
    exact wX2_setVars_32 C hst  _ _ _ _ _ _ _ _ h hH (lv_sub hl [1, 2, 3, 4, 5, 0] rfl)
  · rw [if_neg hq_19] at h
    refine lv_iload_n hx hb dX2_setVars_23 rfl (lv_at hl 4 rfl) ?_
    refine lv_iconst (v := 5) hx hb dX2_setVars_24 (by decide) ?_
    refine lv_icmp_ge (tgt := 32) hx hb dX2_setVars_25 (by decide) (fun hq_20 => ?_) (fun hq_20 => ?_)
    · rw [if_pos hq_20] at h
      exact wX2_setVars_32 C hst  _ _ _ _ _ _ _ _ h hH (lv_sub hl [1, 2, 3, 4, 5, 0] rfl)
    · rw [if_neg hq_20] at h
      refine lv_iconst (v := 1) hx hb dX2_setVars_28 (by decide) ?_
      refine lv_goto (tgt := 33) hx hb dX2_setVars_29 (by decide) ?_
      exact wX2_setVars_33 C hst  _ _ _ _ _ _ _ _ _ h hH (lv_sub hl [1, 2, 3, 4, 5, 0] rfl)
set_option maxHeartbeats 4000000 in
set_option maxRecDepth 100000 in
theorem wX2_setVars_15 (C : Cx 50 D ad κ p s m args meth c cX2_setVars RX2 7 none) {st : Nat} (hst : isSt st) {R : HS} : ∀ (x2 : Int32) (x3 : Int32) (x4 : Int32) (σ : HS) (H : Heap) (locs : List Loc) (ls : Array Slot), FX2_setVars_15 st x2 x3 x4 σ = some R → Hd 50 ceX D ad κ s σ H locs → lv_has ls 7 [(0, .ref (ad 7)), (1, .ref (ad st)), (2, .int x2), (3, .int x3), (4, .int x4)] → W p l e ({ frames := 0, cells := 0, slots := 0, locals := 0 } : Room) s m args below meth c H locs 0 0 (MQ below (QV 50 ceX D ad κ R) args s 0 0 (AX 50 ad)) (F0 m 15 ls []) := by
  have hx := C.1
  have hb := C.2.1
  have hown := C.2.2.2.1
  have hts := C.2.2.2.2.1
  intro x2 x3 x4 σ H locs ls h hH hl
  rw [FX2_setVars_15] at h
  refine lv_iconst (v := 0) hx hb dX2_setVars_15 (by decide) ?_
  exact wX2_setVars_16 C hst  _ _ _ _ _ _ _ _ h hH (lv_sub hl [0, 1, 2, 3, 4] rfl)
set_option maxHeartbeats 4000000 in
set_option maxRecDepth 100000 in
theorem kX2_setVars (l : Launch) (D : va_G) (ad : Nat → Nat) (κ : KC) {st : Nat} (hst : isSt st) {x2 : Int32} {x3 : Int32} {x4 : Int32} {σ : HS} {R : HS} (h : FX2_setVars st x2 x3 x4 σ = some R) : MtV l 50 ceX D ad κ yX2_setVars cX2_setVars 7 none ({ frames := 0, cells := 0, slots := 0, locals := 0 } : Room) [.ref (ad 7), .ref (ad st), .int x2, .int x3, .int x4] σ R := by
  refine open_ (by decide) (Nat.le_of_ble_eq_true rfl) (la := [(0, .ref (ad 7)), (1, .ref (ad st)), (2, .int x2), (3, .int x3), (4, .int x4)]) rfl ?_
  intro p e s m below meth c ls C hH hl
  replace C : Cx 50 D ad κ p s m _ meth c cX2_setVars RX2 7 none := C
  have hx := C.1
  have hb := C.2.1
  have hown := C.2.2.2.1
  have hts := C.2.2.2.2.1
  rw [FX2_setVars] at h
  refine lv_iconst (v := 0) hx hb dX2_setVars_0 (by decide) ?_
  refine lv_iload_n hx hb dX2_setVars_1 rfl (lv_at hl 2 rfl) ?_
  refine lv_icmp_gt (tgt := 15) hx hb dX2_setVars_2 (by decide) (fun hq_21 => ?_) (fun hq_21 => ?_)
  · rw [if_pos hq_21] at h
    exact wX2_setVars_15 C hst  _ _ _ _ _ _ _ h hH (lv_sub hl [0, 1, 2, 3, 4] rfl)
  · rw [if_neg hq_21] at h
    refine lv_iload_n hx hb dX2_setVars_5 rfl (lv_at hl 2 rfl) ?_
    refine lv_bipush (v := 10) hx hb dX2_setVars_6 (by decide) ?_
    refine lv_icmp_ge (tgt := 15) hx hb dX2_setVars_8 (by decide) (fun hq_22 => ?_) (fun hq_22 => ?_)
    · rw [if_pos hq_22] at h
      exact wX2_setVars_15 C hst  _ _ _ _ _ _ _ h hH (lv_sub hl [0, 1, 2, 3, 4] rfl)
    · rw [if_neg hq_22] at h
      refine lv_iconst (v := 1) hx hb dX2_setVars_11 (by decide) ?_
      refine lv_goto (tgt := 16) hx hb dX2_setVars_12 (by decide) ?_
      exact wX2_setVars_16 C hst  _ _ _ _ _ _ _ _ h hH (lv_sub hl [0, 1, 2, 3, 4] rfl)
-- X2_resultOf
def FX2_resultOf_186 (k15 : Int32 → Int32 → Int32 → Int32 → HS → Option (Int32 × HS)) (x1 : Int32) (x2 : Int32) (x3 : Int32) (x4 : Int32) (x5 : Int32) (x6 : Int32) (x7 : Int32) (σ : HS) : Option (Int32 × HS) :=
  if x5 = (2 : Int32) then gd (ix (x3 + (-2)) 16) (gd (ix ((x3 + (-2)) + (1 : Int32)) 16) (if (σ.1 40 ((x3 + (-2)).toNatClampNeg)) < (σ.1 40 (((x3 + (-2)) + (1 : Int32)).toNatClampNeg)) then k15 x1 x2 (x3 + (-2)) (x4 + 1) σ else if x2 ≤ x6 then k15 x1 x6 (x3 + (-2)) (x4 + 1) σ else k15 x1 x2 (x3 + (-2)) (x4 + 1) σ)) else gd (ix (x3 + (-1)) 16) (hl_ (σ.1 40 ((x3 + (-1)).toNatClampNeg)) fun x8_3 => if x5 = 42 then gd (ix ((x3 + (-1)) - (1 : Int32)) 16) (gd (ix ((x3 + (-1)) - (1 : Int32)) 16) (hl_ (pI σ 40 (((x3 + (-1)) - (1 : Int32)).toNatClampNeg) ((σ.1 40 (((x3 + (-1)) - (1 : Int32)).toNatClampNeg)) * x8_3)) fun σ_7 => k15 x1 x2 (x3 + (-1)) (x4 + 1) σ_7)) else if x5 = 43 then gd (ix ((x3 + (-1)) - (1 : Int32)) 16) (gd (ix ((x3 + (-1)) - (1 : Int32)) 16) (hl_ (pI σ 40 (((x3 + (-1)) - (1 : Int32)).toNatClampNeg) ((σ.1 40 (((x3 + (-1)) - (1 : Int32)).toNatClampNeg)) + x8_3)) fun σ_11 => k15 x1 x2 (x3 + (-1)) (x4 + 1) σ_11)) else if x5 = 44 then if x8_3 = 0 then gd (ix ((x3 + (-1)) - (1 : Int32)) 16) (hl_ (pI σ 40 (((x3 + (-1)) - (1 : Int32)).toNatClampNeg) (0 : Int32)) fun σ_19 => k15 x1 x2 (x3 + (-1)) (x4 + 1) σ_19) else gd (ix ((x3 + (-1)) - (1 : Int32)) 16) (gd (nz x8_3) (gd (ix ((x3 + (-1)) - (1 : Int32)) 16) (hl_ (pI σ 40 (((x3 + (-1)) - (1 : Int32)).toNatClampNeg) ((σ.1 40 (((x3 + (-1)) - (1 : Int32)).toNatClampNeg)) / x8_3)) fun σ_17 => k15 x1 x2 (x3 + (-1)) (x4 + 1) σ_17))) else if x5 = 45 then gd (ix ((x3 + (-1)) - (1 : Int32)) 16) (gd (ix ((x3 + (-1)) - (1 : Int32)) 16) (hl_ (pI σ 40 (((x3 + (-1)) - (1 : Int32)).toNatClampNeg) ((σ.1 40 (((x3 + (-1)) - (1 : Int32)).toNatClampNeg)) - x8_3)) fun σ_23 => k15 x1 x2 (x3 + (-1)) (x4 + 1) σ_23)) else if x8_3 = 0 then gd (ix ((x3 + (-1)) - (1 : Int32)) 16) (hl_ (pI σ 40 (((x3 + (-1)) - (1 : Int32)).toNatClampNeg) (0 : Int32)) fun σ_30 => k15 x1 x2 (x3 + (-1)) (x4 + 1) σ_30) else gd (ix ((x3 + (-1)) - (1 : Int32)) 16) (gd (nz x8_3) (gd (ix ((x3 + (-1)) - (1 : Int32)) 16) (hl_ (pI σ 40 (((x3 + (-1)) - (1 : Int32)).toNatClampNeg) ((σ.1 40 (((x3 + (-1)) - (1 : Int32)).toNatClampNeg)) / x8_3)) fun σ_28 => k15 x1 x2 (x3 + (-1)) (x4 + 1) σ_28))))
def FX2_resultOf_90 (k15 : Int32 → Int32 → Int32 → Int32 → HS → Option (Int32 × HS)) (x1 : Int32) (x2 : Int32) (x3 : Int32) (x4 : Int32) (x5 : Int32) (x6 : Int32) (x7 : Int32) (σ : HS) : Option (Int32 × HS) :=
  if x7 = 0 then if x5 = (3 : Int32) then if x3 ≤ 0 then some ((0 : Int32), σ) else gd (ix (x3 - (1 : Int32)) 16) (some ((σ.1 40 ((x3 - (1 : Int32)).toNatClampNeg)), σ)) else if x3 < (2 : Int32) then some ((0 : Int32), σ) else if x5 = (47 : Int32) then gd (ix (x3 - (1 : Int32)) 16) (if (σ.1 40 ((x3 - (1 : Int32)).toNatClampNeg)) = 0 then some ((0 : Int32), σ) else FX2_resultOf_186 k15 x1 x2 x3 x4 x5 x6 x7 σ) else FX2_resultOf_186 k15 x1 x2 x3 x4 x5 x6 x7 σ else if x5 = (1 : Int32) then if x6 < (0 : Int32) then gd (ix x3 16) (hl_ (pI σ 40 (x3.toNatClampNeg) x6) fun σ_48 => k15 x1 x2 (x3 + 1) (x4 + 1) σ_48) else if (9 : Int32) ≤ x6 then gd (ix x3 16) (hl_ (pI σ 40 (x3.toNatClampNeg) x6) fun σ_51 => k15 x1 x2 (x3 + 1) (x4 + 1) σ_51) else gd (ix x6 9) (gd (ix x3 16) (hl_ (pI σ 40 (x3.toNatClampNeg) (σ.1 39 (x6.toNatClampNeg))) fun σ_54 => k15 x1 x2 (x3 + 1) (x4 + 1) σ_54)) else gd (ix x3 16) (hl_ (pI σ 40 (x3.toNatClampNeg) x6) fun σ_45 => k15 x1 x2 (x3 + 1) (x4 + 1) σ_45)
def FX2_resultOf_75 (k15 : Int32 → Int32 → Int32 → Int32 → HS → Option (Int32 × HS)) (x1 : Int32) (x2 : Int32) (x3 : Int32) (x4 : Int32) (x5 : Int32) (x6 : Int32) (y0 : Int32) (σ : HS) : Option (Int32 × HS) :=
  if y0 = 0 then FX2_resultOf_90 k15 x1 x2 x3 x4 x5 x6 y0 σ else if x3 < (16 : Int32) then FX2_resultOf_90 k15 x1 x2 x3 x4 x5 x6 y0 σ else some ((0 : Int32), σ)
def FX2_resultOf_70 (k15 : Int32 → Int32 → Int32 → Int32 → HS → Option (Int32 × HS)) (x1 : Int32) (x2 : Int32) (x3 : Int32) (x4 : Int32) (x5 : Int32) (x6 : Int32) (σ : HS) : Option (Int32 × HS) :=
  FX2_resultOf_75 k15 x1 x2 x3 x4 x5 x6 (1 : Int32) σ
def FX2_resultOf_15  : Nat → Int32 → Int32 → Int32 → Int32 → HS → Option (Int32 × HS)
  | 0, _, _, _, _, _ => none
  | f + 1, x1, x2, x3, x4, σ => if (408 : Int32) ≤ x4 then some ((0 : Int32), σ) else if (σ.1 3 5) ≤ x2 then some ((0 : Int32), σ) else gd (ix x2 408) (hl_ (σ.1 27 (x2.toNatClampNeg)) fun x5_60 => gd (ix x2 408) (hl_ (σ.1 28 (x2.toNatClampNeg)) fun x6_62 => if x5_60 = 0 then FX2_resultOf_70 (FX2_resultOf_15  f) x1 (x2 + 1) x3 x4 x5_60 x6_62 σ else if x5_60 = (1 : Int32) then FX2_resultOf_70 (FX2_resultOf_15  f) x1 (x2 + 1) x3 x4 x5_60 x6_62 σ else FX2_resultOf_75 (FX2_resultOf_15  f) x1 (x2 + 1) x3 x4 x5_60 x6_62 (0 : Int32) σ))
def FX2_resultOf (x1 : Int32) (σ : HS) : Option (Int32 × HS) :=
  gd (ix x1 4) (hl_ (σ.1 26 (x1.toNatClampNeg)) fun x2_66 => FX2_resultOf_15 fu x1 x2_66 (0 : Int32) (0 : Int32) σ)
set_option maxHeartbeats 4000000 in
set_option maxRecDepth 100000 in
theorem wX2_resultOf_186 (C : Cx 50 D ad κ p s m args meth c cX2_resultOf RX2 9 (some .int)) {R : (Int32 × HS)} {k15 : Int32 → Int32 → Int32 → Int32 → HS → Option (Int32 × HS)} (K15 : ∀ (x1 : Int32) (x2 : Int32) (x3 : Int32) (x4 : Int32) (σ : HS) (H : Heap) (locs : List Loc) (ls : Array Slot), k15 x1 x2 x3 x4 σ = some R → Hd 50 ceX D ad κ s σ H locs → lv_has ls 9 [(0, .ref (ad 7)), (1, .int x1), (2, .int x2), (3, .int x3), (4, .int x4)] → W p l e ({ frames := 0, cells := 0, slots := 0, locals := 0 } : Room) s m args below meth c H locs 0 0 (MQ below (QI 50 ceX D ad κ R) args s 0 0 (AX 50 ad)) (F0 m 15 ls [])) : ∀ (x1 : Int32) (x2 : Int32) (x3 : Int32) (x4 : Int32) (x5 : Int32) (x6 : Int32) (x7 : Int32) (σ : HS) (H : Heap) (locs : List Loc) (ls : Array Slot), FX2_resultOf_186 k15 x1 x2 x3 x4 x5 x6 x7 σ = some R → Hd 50 ceX D ad κ s σ H locs → lv_has ls 9 [(0, .ref (ad 7)), (1, .int x1), (2, .int x2), (3, .int x3), (4, .int x4), (5, .int x5), (6, .int x6), (7, .int x7)] → W p l e ({ frames := 0, cells := 0, slots := 0, locals := 0 } : Room) s m args below meth c H locs 0 0 (MQ below (QI 50 ceX D ad κ R) args s 0 0 (AX 50 ad)) (F0 m 186 ls []) := by
  have hx := C.1
  have hb := C.2.1
  have hown := C.2.2.2.1
  have hts := C.2.2.2.2.1
  intro x1 x2 x3 x4 x5 x6 x7 σ H locs ls h hH hl
  rw [FX2_resultOf_186] at h
  refine lv_iload hx hb dX2_resultOf_186 (lv_at hl 5 rfl) ?_
  refine lv_iconst (v := 2) hx hb dX2_resultOf_188 (by decide) ?_
  refine lv_icmp_ne (tgt := 228) hx hb dX2_resultOf_189 (by decide) (fun hq_1 => ?_) (fun hq_1 => ?_)
  · rw [if_neg hq_1] at h
    refine lv_iinc (v := (x3 + (-1))) (lv' := [(3, .int (x3 + (-1))), (0, .ref (ad 7)), (1, .int x1), (2, .int x2), (4, .int x4), (5, .int x5), (6, .int x6), (7, .int x7)]) hx hb dX2_resultOf_228 hl (k := 3) rfl rfl (by decide) rfl (fun ls hl => ?_)
    refine lv_aload_n hx hb dX2_resultOf_231 rfl (lv_at hl 1 rfl) ?_
    refine g_get C hH 7 (Nat.le_of_ble_eq_true rfl) rfl fl_X2_17 (v := .ref (ad 40)) rfl dX2_resultOf_232 ?_
    refine lv_iload_n hx hb dX2_resultOf_235 rfl (lv_at hl 0 rfl) ?_
    obtain ⟨hi_2, h⟩ := gd_ex h
    refine g_iald C hH 40 (Nat.le_of_ble_eq_true rfl) rfl (k := ((x3 + (-1)).toNatClampNeg)) rfl (ix_in hi_2) dX2_resultOf_236 ?_
    obtain ⟨x8_3, ex8_3, h⟩ := hl_ex h
    refine lv_eqi ex8_3 ?_
    refine lv_istore (lv' := [(8, .int x8_3), (3, .int (x3 + (-1))), (0, .ref (ad 7)), (1, .int x1), (2, .int x2), (4, .int x4), (5, .int x5), (6, .int x6), (7, .int x7)]) hx hb dX2_resultOf_237 hl (by decide) rfl (fun ls hl => ?_)
    refine lv_iload hx hb dX2_resultOf_239 (lv_at hl 6 rfl) ?_
    by_cases hs_4 : x5 = 42
    · rw [if_pos hs_4] at h
      refine lv_tableIn (off := 63) (tgt := 304) hx hb dX2_resultOf_241 (by rw [hs_4]; decide) (by rw [hs_4]; decide) (by rw [hs_4]; rfl) (by decide) ?_
      refine lv_aload_n hx hb dX2_resultOf_304 rfl (lv_at hl 2 rfl) ?_
      refine g_get C hH 7 (Nat.le_of_ble_eq_true rfl) rfl fl_X2_17 (v := .ref (ad 40)) rfl dX2_resultOf_305 ?_
      refine lv_iload_n hx hb dX2_resultOf_308 rfl (lv_at hl 1 rfl) ?_
      refine lv_iconst (v := 1) hx hb dX2_resultOf_309 (by decide) ?_
      refine lv_isub hx hb dX2_resultOf_310 ?_
      refine lv_dup2_11 hx hb dX2_resultOf_311 rfl rfl ?_
      obtain ⟨hi_5, h⟩ := gd_ex h
      refine g_iald C hH 40 (Nat.le_of_ble_eq_true rfl) rfl (k := (((x3 + (-1)) - (1 : Int32)).toNatClampNeg)) rfl (ix_in hi_5) dX2_resultOf_312 ?_
      refine lv_iload hx hb dX2_resultOf_313 (lv_at hl 0 rfl) ?_
      refine lv_imul hx hb dX2_resultOf_315 ?_
      obtain ⟨hi_6, h⟩ := gd_ex h
      obtain ⟨σ_7, eσ_7, h⟩ := hl_ex h
      refine g_iast C hH 40 (Nat.le_of_ble_eq_true rfl) (fun _ _ => rfl) (k := (((x3 + (-1)) - (1 : Int32)).toNatClampNeg)) rfl (ix_in hi_6) dX2_resultOf_316 (fun H locs hH => ?_)
      rw [← eσ_7] at hH
      refine lv_goto (tgt := 348) hx hb dX2_resultOf_317 (by decide) ?_
      refine lv_iinc (v := (x4 + 1)) (lv' := [(4, .int (x4 + 1)), (8, .int x8_3), (3, .int (x3 + (-1))), (0, .ref (ad 7)), (1, .int x1), (2, .int x2), (5, .int x5), (6, .int x6), (7, .int x7)]) hx hb dX2_resultOf_348 hl (k := 5) rfl rfl (by decide) rfl (fun ls hl => ?_)
      refine lv_goto (tgt := 15) hx hb dX2_resultOf_351 (by decide) ?_
      exact K15 _ _ _ _ _ _ _ _ h hH (lv_sub hl [3, 4, 5, 2, 0] rfl)
    · rw [if_neg hs_4] at h
      by_cases hs_8 : x5 = 43
      · rw [if_pos hs_8] at h
        refine lv_tableIn (off := 31) (tgt := 272) hx hb dX2_resultOf_241 (by rw [hs_8]; decide) (by rw [hs_8]; decide) (by rw [hs_8]; rfl) (by decide) ?_
        refine lv_aload_n hx hb dX2_resultOf_272 rfl (lv_at hl 2 rfl) ?_
        refine g_get C hH 7 (Nat.le_of_ble_eq_true rfl) rfl fl_X2_17 (v := .ref (ad 40)) rfl dX2_resultOf_273 ?_
        refine lv_iload_n hx hb dX2_resultOf_276 rfl (lv_at hl 1 rfl) ?_
        refine lv_iconst (v := 1) hx hb dX2_resultOf_277 (by decide) ?_
        refine lv_isub hx hb dX2_resultOf_278 ?_
        refine lv_dup2_11 hx hb dX2_resultOf_279 rfl rfl ?_
        obtain ⟨hi_9, h⟩ := gd_ex h
        refine g_iald C hH 40 (Nat.le_of_ble_eq_true rfl) rfl (k := (((x3 + (-1)) - (1 : Int32)).toNatClampNeg)) rfl (ix_in hi_9) dX2_resultOf_280 ?_
        refine lv_iload hx hb dX2_resultOf_281 (lv_at hl 0 rfl) ?_
        refine lv_iadd hx hb dX2_resultOf_283 ?_
        obtain ⟨hi_10, h⟩ := gd_ex h
        obtain ⟨σ_11, eσ_11, h⟩ := hl_ex h
        refine g_iast C hH 40 (Nat.le_of_ble_eq_true rfl) (fun _ _ => rfl) (k := (((x3 + (-1)) - (1 : Int32)).toNatClampNeg)) rfl (ix_in hi_10) dX2_resultOf_284 (fun H locs hH => ?_)
        rw [← eσ_11] at hH
        refine lv_goto (tgt := 348) hx hb dX2_resultOf_285 (by decide) ?_
        refine lv_iinc (v := (x4 + 1)) (lv' := [(4, .int (x4 + 1)), (8, .int x8_3), (3, .int (x3 + (-1))), (0, .ref (ad 7)), (1, .int x1), (2, .int x2), (5, .int x5), (6, .int x6), (7, .int x7)]) hx hb dX2_resultOf_348 hl (k := 5) rfl rfl (by decide) rfl (fun ls hl => ?_)
        refine lv_goto (tgt := 15) hx hb dX2_resultOf_351 (by decide) ?_
        exact K15 _ _ _ _ _ _ _ _ h hH (lv_sub hl [3, 4, 5, 2, 0] rfl)
      · rw [if_neg hs_8] at h
        by_cases hs_12 : x5 = 44
        · rw [if_pos hs_12] at h
          refine lv_tableIn (off := 79) (tgt := 320) hx hb dX2_resultOf_241 (by rw [hs_12]; decide) (by rw [hs_12]; decide) (by rw [hs_12]; rfl) (by decide) ?_
          refine lv_aload_n hx hb dX2_resultOf_320 rfl (lv_at hl 2 rfl) ?_
          refine g_get C hH 7 (Nat.le_of_ble_eq_true rfl) rfl fl_X2_17 (v := .ref (ad 40)) rfl dX2_resultOf_321 ?_
          refine lv_iload_n hx hb dX2_resultOf_324 rfl (lv_at hl 1 rfl) ?_
          refine lv_iconst (v := 1) hx hb dX2_resultOf_325 (by decide) ?_
          refine lv_isub hx hb dX2_resultOf_326 ?_
          refine lv_iload hx hb dX2_resultOf_327 (lv_at hl 0 rfl) ?_
          refine lv_if_ne (tgt := 336) hx hb dX2_resultOf_329 (by decide) (fun hq_13 => ?_) (fun hq_13 => ?_)
          · rw [if_neg hq_13] at h
            refine lv_aload_n hx hb dX2_resultOf_336 rfl (lv_at hl 2 rfl) ?_
            refine g_get C hH 7 (Nat.le_of_ble_eq_true rfl) rfl fl_X2_17 (v := .ref (ad 40)) rfl dX2_resultOf_337 ?_
            refine lv_iload_n hx hb dX2_resultOf_340 rfl (lv_at hl 1 rfl) ?_
            refine lv_iconst (v := 1) hx hb dX2_resultOf_341 (by decide) ?_
            refine lv_isub hx hb dX2_resultOf_342 ?_
            obtain ⟨hi_14, h⟩ := gd_ex h
            refine g_iald C hH 40 (Nat.le_of_ble_eq_true rfl) rfl (k := (((x3 + (-1)) - (1 : Int32)).toNatClampNeg)) rfl (ix_in hi_14) dX2_resultOf_343 ?_
            refine lv_iload hx hb dX2_resultOf_344 (lv_at hl 0 rfl) ?_
            obtain ⟨hz_15, h⟩ := gd_ex h
            refine lv_idiv hx hb dX2_resultOf_346 (nz_ne hz_15) ?_
            obtain ⟨hi_16, h⟩ := gd_ex h
            obtain ⟨σ_17, eσ_17, h⟩ := hl_ex h
            refine g_iast C hH 40 (Nat.le_of_ble_eq_true rfl) (fun _ _ => rfl) (k := (((x3 + (-1)) - (1 : Int32)).toNatClampNeg)) rfl (ix_in hi_16) dX2_resultOf_347 (fun H locs hH => ?_)
            rw [← eσ_17] at hH
            refine lv_iinc (v := (x4 + 1)) (lv' := [(4, .int (x4 + 1)), (8, .int x8_3), (3, .int (x3 + (-1))), (0, .ref (ad 7)), (1, .int x1), (2, .int x2), (5, .int x5), (6, .int x6), (7, .int x7)]) hx hb dX2_resultOf_348 hl (k := 5) rfl rfl (by decide) rfl (fun ls hl => ?_)
            refine lv_goto (tgt := 15) hx hb dX2_resultOf_351 (by decide) ?_
            exact K15 _ _ _ _ _ _ _ _ h hH (lv_sub hl [3, 4, 5, 2, 0] rfl)
          · rw [if_pos hq_13] at h
            refine lv_iconst (v := 0) hx hb dX2_resultOf_332 (by decide) ?_
            refine lv_goto (tgt := 347) hx hb dX2_resultOf_333 (by decide) ?_
            obtain ⟨hi_18, h⟩ := gd_ex h
            obtain ⟨σ_19, eσ_19, h⟩ := hl_ex h
            refine g_iast C hH 40 (Nat.le_of_ble_eq_true rfl) (fun _ _ => rfl) (k := (((x3 + (-1)) - (1 : Int32)).toNatClampNeg)) rfl (ix_in hi_18) dX2_resultOf_347 (fun H locs hH => ?_)
            rw [← eσ_19] at hH
            refine lv_iinc (v := (x4 + 1)) (lv' := [(4, .int (x4 + 1)), (8, .int x8_3), (3, .int (x3 + (-1))), (0, .ref (ad 7)), (1, .int x1), (2, .int x2), (5, .int x5), (6, .int x6), (7, .int x7)]) hx hb dX2_resultOf_348 hl (k := 5) rfl rfl (by decide) rfl (fun ls hl => ?_)
            refine lv_goto (tgt := 15) hx hb dX2_resultOf_351 (by decide) ?_
            exact K15 _ _ _ _ _ _ _ _ h hH (lv_sub hl [3, 4, 5, 2, 0] rfl)
        · rw [if_neg hs_12] at h
          by_cases hs_20 : x5 = 45
          · rw [if_pos hs_20] at h
            refine lv_tableIn (off := 47) (tgt := 288) hx hb dX2_resultOf_241 (by rw [hs_20]; decide) (by rw [hs_20]; decide) (by rw [hs_20]; rfl) (by decide) ?_
            refine lv_aload_n hx hb dX2_resultOf_288 rfl (lv_at hl 2 rfl) ?_
            refine g_get C hH 7 (Nat.le_of_ble_eq_true rfl) rfl fl_X2_17 (v := .ref (ad 40)) rfl dX2_resultOf_289 ?_
            refine lv_iload_n hx hb dX2_resultOf_292 rfl (lv_at hl 1 rfl) ?_
            refine lv_iconst (v := 1) hx hb dX2_resultOf_293 (by decide) ?_
            refine lv_isub hx hb dX2_resultOf_294 ?_
            refine lv_dup2_11 hx hb dX2_resultOf_295 rfl rfl ?_
            obtain ⟨hi_21, h⟩ := gd_ex h
            refine g_iald C hH 40 (Nat.le_of_ble_eq_true rfl) rfl (k := (((x3 + (-1)) - (1 : Int32)).toNatClampNeg)) rfl (ix_in hi_21) dX2_resultOf_296 ?_
            refine lv_iload hx hb dX2_resultOf_297 (lv_at hl 0 rfl) ?_
            refine lv_isub hx hb dX2_resultOf_299 ?_
            obtain ⟨hi_22, h⟩ := gd_ex h
            obtain ⟨σ_23, eσ_23, h⟩ := hl_ex h
            refine g_iast C hH 40 (Nat.le_of_ble_eq_true rfl) (fun _ _ => rfl) (k := (((x3 + (-1)) - (1 : Int32)).toNatClampNeg)) rfl (ix_in hi_22) dX2_resultOf_300 (fun H locs hH => ?_)
            rw [← eσ_23] at hH
            refine lv_goto (tgt := 348) hx hb dX2_resultOf_301 (by decide) ?_
            refine lv_iinc (v := (x4 + 1)) (lv' := [(4, .int (x4 + 1)), (8, .int x8_3), (3, .int (x3 + (-1))), (0, .ref (ad 7)), (1, .int x1), (2, .int x2), (5, .int x5), (6, .int x6), (7, .int x7)]) hx hb dX2_resultOf_348 hl (k := 5) rfl rfl (by decide) rfl (fun ls hl => ?_)
            refine lv_goto (tgt := 15) hx hb dX2_resultOf_351 (by decide) ?_
            exact K15 _ _ _ _ _ _ _ _ h hH (lv_sub hl [3, 4, 5, 2, 0] rfl)
          · rw [if_neg hs_20] at h
            refine lv_tableOut (tgt := 320) hx hb dX2_resultOf_241 (by have a0 := lv_neT hs_4 (show (42 : Int32).toInt = 42 from by decide); have a1 := lv_neT hs_8 (show (43 : Int32).toInt = 43 from by decide); have a2 := lv_neT hs_12 (show (44 : Int32).toInt = 44 from by decide); have a3 := lv_neT hs_20 (show (45 : Int32).toInt = 45 from by decide); omega) (by decide) ?_
            refine lv_aload_n hx hb dX2_resultOf_320 rfl (lv_at hl 2 rfl) ?_
            refine g_get C hH 7 (Nat.le_of_ble_eq_true rfl) rfl fl_X2_17 (v := .ref (ad 40)) rfl dX2_resultOf_321 ?_
            refine lv_iload_n hx hb dX2_resultOf_324 rfl (lv_at hl 1 rfl) ?_
            refine lv_iconst (v := 1) hx hb dX2_resultOf_325 (by decide) ?_
            refine lv_isub hx hb dX2_resultOf_326 ?_
            refine lv_iload hx hb dX2_resultOf_327 (lv_at hl 0 rfl) ?_
            refine lv_if_ne (tgt := 336) hx hb dX2_resultOf_329 (by decide) (fun hq_24 => ?_) (fun hq_24 => ?_)
            · rw [if_neg hq_24] at h
              refine lv_aload_n hx hb dX2_resultOf_336 rfl (lv_at hl 2 rfl) ?_
              refine g_get C hH 7 (Nat.le_of_ble_eq_true rfl) rfl fl_X2_17 (v := .ref (ad 40)) rfl dX2_resultOf_337 ?_
              refine lv_iload_n hx hb dX2_resultOf_340 rfl (lv_at hl 1 rfl) ?_
              refine lv_iconst (v := 1) hx hb dX2_resultOf_341 (by decide) ?_
              refine lv_isub hx hb dX2_resultOf_342 ?_
              obtain ⟨hi_25, h⟩ := gd_ex h
              refine g_iald C hH 40 (Nat.le_of_ble_eq_true rfl) rfl (k := (((x3 + (-1)) - (1 : Int32)).toNatClampNeg)) rfl (ix_in hi_25) dX2_resultOf_343 ?_
              refine lv_iload hx hb dX2_resultOf_344 (lv_at hl 0 rfl) ?_
              obtain ⟨hz_26, h⟩ := gd_ex h
              refine lv_idiv hx hb dX2_resultOf_346 (nz_ne hz_26) ?_
              obtain ⟨hi_27, h⟩ := gd_ex h
              obtain ⟨σ_28, eσ_28, h⟩ := hl_ex h
              refine g_iast C hH 40 (Nat.le_of_ble_eq_true rfl) (fun _ _ => rfl) (k := (((x3 + (-1)) - (1 : Int32)).toNatClampNeg)) rfl (ix_in hi_27) dX2_resultOf_347 (fun H locs hH => ?_)
              rw [← eσ_28] at hH
              refine lv_iinc (v := (x4 + 1)) (lv' := [(4, .int (x4 + 1)), (8, .int x8_3), (3, .int (x3 + (-1))), (0, .ref (ad 7)), (1, .int x1), (2, .int x2), (5, .int x5), (6, .int x6), (7, .int x7)]) hx hb dX2_resultOf_348 hl (k := 5) rfl rfl (by decide) rfl (fun ls hl => ?_)
              refine lv_goto (tgt := 15) hx hb dX2_resultOf_351 (by decide) ?_
              exact K15 _ _ _ _ _ _ _ _ h hH (lv_sub hl [3, 4, 5, 2, 0] rfl)
            · rw [if_pos hq_24] at h
              refine lv_iconst (v := 0) hx hb dX2_resultOf_332 (by decide) ?_
              refine lv_goto (tgt := 347) hx hb dX2_resultOf_333 (by decide) ?_
              obtain ⟨hi_29, h⟩ := gd_ex h
              obtain ⟨σ_30, eσ_30, h⟩ := hl_ex h
              refine g_iast C hH 40 (Nat.le_of_ble_eq_true rfl) (fun _ _ => rfl) (k := (((x3 + (-1)) - (1 : Int32)).toNatClampNeg)) rfl (ix_in hi_29) dX2_resultOf_347 (fun H locs hH => ?_)
              rw [← eσ_30] at hH
              refine lv_iinc (v := (x4 + 1)) (lv' := [(4, .int (x4 + 1)), (8, .int x8_3), (3, .int (x3 + (-1))), (0, .ref (ad 7)), (1, .int x1), (2, .int x2), (5, .int x5), (6, .int x6), (7, .int x7)]) hx hb dX2_resultOf_348 hl (k := 5) rfl rfl (by decide) rfl (fun ls hl => ?_)
              refine lv_goto (tgt := 15) hx hb dX2_resultOf_351 (by decide) ?_
              exact K15 _ _ _ _ _ _ _ _ h hH (lv_sub hl [3, 4, 5, 2, 0] rfl)
  · rw [if_pos hq_1] at h
    refine lv_iinc (v := (x3 + (-2))) (lv' := [(3, .int (x3 + (-2))), (0, .ref (ad 7)), (1, .int x1), (2, .int x2), (4, .int x4), (5, .int x5), (6, .int x6), (7, .int x7)]) hx hb dX2_resultOf_192 hl (k := 3) rfl rfl (by decide) rfl (fun ls hl => ?_)
    refine lv_aload_n hx hb dX2_resultOf_195 rfl (lv_at hl 1 rfl) ?_
    refine g_get C hH 7 (Nat.le_of_ble_eq_true rfl) rfl fl_X2_17 (v := .ref (ad 40)) rfl dX2_resultOf_196 ?_
    refine lv_iload_n hx hb dX2_resultOf_199 rfl (lv_at hl 0 rfl) ?_
    obtain ⟨hi_31, h⟩ := gd_ex h
    refine g_iald C hH 40 (Nat.le_of_ble_eq_true rfl) rfl (k := ((x3 + (-2)).toNatClampNeg)) rfl (ix_in hi_31) dX2_resultOf_200 ?_
    refine lv_aload_n hx hb dX2_resultOf_201 rfl (lv_at hl 1 rfl) ?_
    refine g_get C hH 7 (Nat.le_of_ble_eq_true rfl) rfl fl_X2_17 (v := .ref (ad 40)) rfl dX2_resultOf_202 ?_
    refine lv_iload_n hx hb dX2_resultOf_205 rfl (lv_at hl 0 rfl) ?_
    refine lv_iconst (v := 1) hx hb dX2_resultOf_206 (by decide) ?_
    refine lv_iadd hx hb dX2_resultOf_207 ?_
    obtain ⟨hi_32, h⟩ := gd_ex h
    refine g_iald C hH 40 (Nat.le_of_ble_eq_true rfl) rfl (k := (((x3 + (-2)) + (1 : Int32)).toNatClampNeg)) rfl (ix_in hi_32) dX2_resultOf_208 ?_
    refine lv_icmp_lt (tgt := 218) hx hb dX2_resultOf_209 (by decide) (fun hq_33 => ?_) (fun hq_33 => ?_)
    · rw [if_pos hq_33] at h
      refine lv_iload_n hx hb dX2_resultOf_218 rfl (lv_at hl 3 rfl) ?_
      refine lv_goto (tgt := 224) hx hb dX2_resultOf_219 (by decide) ?_
      refine lv_istore_n (lv' := [(2, .int x2), (3, .int (x3 + (-2))), (0, .ref (ad 7)), (1, .int x1), (4, .int x4), (5, .int x5), (6, .int x6), (7, .int x7)]) hx hb dX2_resultOf_224 rfl hl (by decide) rfl (fun ls hl => ?_)
      refine lv_goto (tgt := 348) hx hb dX2_resultOf_225 (by decide) ?_
      refine lv_iinc (v := (x4 + 1)) (lv' := [(4, .int (x4 + 1)), (2, .int x2), (3, .int (x3 + (-2))), (0, .ref (ad 7)), (1, .int x1), (5, .int x5), (6, .int x6), (7, .int x7)]) hx hb dX2_resultOf_348 hl (k := 4) rfl rfl (by decide) rfl (fun ls hl => ?_)
      refine lv_goto (tgt := 15) hx hb dX2_resultOf_351 (by decide) ?_
      exact K15 _ _ _ _ _ _ _ _ h hH (lv_sub hl [3, 4, 1, 2, 0] rfl)
    · rw [if_neg hq_33] at h
      refine lv_iload hx hb dX2_resultOf_212 (lv_at hl 6 rfl) ?_
      refine lv_iload_n hx hb dX2_resultOf_214 rfl (lv_at hl 3 rfl) ?_
      refine lv_icmp_ge (tgt := 222) hx hb dX2_resultOf_215 (by decide) (fun hq_34 => ?_) (fun hq_34 => ?_)
      · rw [if_pos hq_34] at h
        refine lv_iload hx hb dX2_resultOf_222 (lv_at hl 6 rfl) ?_
        refine lv_istore_n (lv' := [(2, .int x6), (3, .int (x3 + (-2))), (0, .ref (ad 7)), (1, .int x1), (4, .int x4), (5, .int x5), (6, .int x6), (7, .int x7)]) hx hb dX2_resultOf_224 rfl hl (by decide) rfl (fun ls hl => ?_)
        refine lv_goto (tgt := 348) hx hb dX2_resultOf_225 (by decide) ?_
        refine lv_iinc (v := (x4 + 1)) (lv' := [(4, .int (x4 + 1)), (2, .int x6), (3, .int (x3 + (-2))), (0, .ref (ad 7)), (1, .int x1), (5, .int x5), (6, .int x6), (7, .int x7)]) hx hb dX2_resultOf_348 hl (k := 4) rfl rfl (by decide) rfl (fun ls hl => ?_)
        refine lv_goto (tgt := 15) hx hb dX2_resultOf_351 (by decide) ?_
        exact K15 _ _ _ _ _ _ _ _ h hH (lv_sub hl [3, 4, 1, 2, 0] rfl)
      · rw [if_neg hq_34] at h
        refine lv_iload_n hx hb dX2_resultOf_218 rfl (lv_at hl 3 rfl) ?_
        refine lv_goto (tgt := 224) hx hb dX2_resultOf_219 (by decide) ?_
        refine lv_istore_n (lv' := [(2, .int x2), (3, .int (x3 + (-2))), (0, .ref (ad 7)), (1, .int x1), (4, .int x4), (5, .int x5), (6, .int x6), (7, .int x7)]) hx hb dX2_resultOf_224 rfl hl (by decide) rfl (fun ls hl => ?_)
        refine lv_goto (tgt := 348) hx hb dX2_resultOf_225 (by decide) ?_
        refine lv_iinc (v := (x4 + 1)) (lv' := [(4, .int (x4 + 1)), (2, .int x2), (3, .int (x3 + (-2))), (0, .ref (ad 7)), (1, .int x1), (5, .int x5), (6, .int x6), (7, .int x7)]) hx hb dX2_resultOf_348 hl (k := 4) rfl rfl (by decide) rfl (fun ls hl => ?_)
        refine lv_goto (tgt := 15) hx hb dX2_resultOf_351 (by decide) ?_
        exact K15 _ _ _ _ _ _ _ _ h hH (lv_sub hl [3, 4, 1, 2, 0] rfl)
set_option maxHeartbeats 4000000 in
set_option maxRecDepth 100000 in
theorem wX2_resultOf_90 (C : Cx 50 D ad κ p s m args meth c cX2_resultOf RX2 9 (some .int)) {R : (Int32 × HS)} {k15 : Int32 → Int32 → Int32 → Int32 → HS → Option (Int32 × HS)} (K15 : ∀ (x1 : Int32) (x2 : Int32) (x3 : Int32) (x4 : Int32) (σ : HS) (H : Heap) (locs : List Loc) (ls : Array Slot), k15 x1 x2 x3 x4 σ = some R → Hd 50 ceX D ad κ s σ H locs → lv_has ls 9 [(0, .ref (ad 7)), (1, .int x1), (2, .int x2), (3, .int x3), (4, .int x4)] → W p l e ({ frames := 0, cells := 0, slots := 0, locals := 0 } : Room) s m args below meth c H locs 0 0 (MQ below (QI 50 ceX D ad κ R) args s 0 0 (AX 50 ad)) (F0 m 15 ls [])) : ∀ (x1 : Int32) (x2 : Int32) (x3 : Int32) (x4 : Int32) (x5 : Int32) (x6 : Int32) (x7 : Int32) (σ : HS) (H : Heap) (locs : List Loc) (ls : Array Slot), FX2_resultOf_90 k15 x1 x2 x3 x4 x5 x6 x7 σ = some R → Hd 50 ceX D ad κ s σ H locs → lv_has ls 9 [(0, .ref (ad 7)), (1, .int x1), (2, .int x2), (3, .int x3), (4, .int x4), (5, .int x5), (6, .int x6), (7, .int x7)] → W p l e ({ frames := 0, cells := 0, slots := 0, locals := 0 } : Room) s m args below meth c H locs 0 0 (MQ below (QI 50 ceX D ad κ R) args s 0 0 (AX 50 ad)) (F0 m 90 ls []) := by
  have hx := C.1
  have hb := C.2.1
  have hown := C.2.2.2.1
  have hts := C.2.2.2.2.1
  intro x1 x2 x3 x4 x5 x6 x7 σ H locs ls h hH hl
  rw [FX2_resultOf_90] at h
  refine lv_iload hx hb dX2_resultOf_90 (lv_at hl 7 rfl) ?_
  refine lv_if_eq (tgt := 138) hx hb dX2_resultOf_92 (by decide) (fun hq_35 => ?_) (fun hq_35 => ?_)
  · rw [if_pos hq_35] at h
    refine lv_iload hx hb dX2_resultOf_138 (lv_at hl 5 rfl) ?_
    refine lv_iconst (v := 3) hx hb dX2_resultOf_140 (by decide) ?_
    refine lv_icmp_ne (tgt := 161) hx hb dX2_resultOf_141 (by decide) (fun hq_36 => ?_) (fun hq_36 => ?_)
    · rw [if_neg hq_36] at h
      refine lv_iload_n hx hb dX2_resultOf_161 rfl (lv_at hl 3 rfl) ?_
      refine lv_iconst (v := 2) hx hb dX2_resultOf_162 (by decide) ?_
      refine lv_icmp_lt (tgt := 184) hx hb dX2_resultOf_163 (by decide) (fun hq_37 => ?_) (fun hq_37 => ?_)
      · rw [if_pos hq_37] at h
        refine lv_iconst (v := 0) hx hb dX2_resultOf_184 (by decide) ?_
        exact g_ret C hH h dX2_resultOf_185
      · rw [if_neg hq_37] at h
        refine lv_iload hx hb dX2_resultOf_166 (lv_at hl 5 rfl) ?_
        refine lv_bipush (v := 47) hx hb dX2_resultOf_168 (by decide) ?_
        refine lv_icmp_ne (tgt := 186) hx hb dX2_resultOf_170 (by decide) (fun hq_38 => ?_) (fun hq_38 => ?_)
        · rw [if_neg hq_38] at h
          exact wX2_resultOf_186 C K15  _ _ _ _ _ _ _ _ _ _ _ h hH (lv_sub hl [0, 1, 2, 3, 4, 5, 6, 7] rfl)
        · rw [if_pos hq_38] at h
          refine lv_aload_n hx hb dX2_resultOf_173 rfl (lv_at hl 0 rfl) ?_
          refine g_get C hH 7 (Nat.le_of_ble_eq_true rfl) rfl fl_X2_17 (v := .ref (ad 40)) rfl dX2_resultOf_174 ?_
          refine lv_iload_n hx hb dX2_resultOf_177 rfl (lv_at hl 3 rfl) ?_
          refine lv_iconst (v := 1) hx hb dX2_resultOf_178 (by decide) ?_
          refine lv_isub hx hb dX2_resultOf_179 ?_
          obtain ⟨hi_39, h⟩ := gd_ex h
          refine g_iald C hH 40 (Nat.le_of_ble_eq_true rfl) rfl (k := ((x3 - (1 : Int32)).toNatClampNeg)) rfl (ix_in hi_39) dX2_resultOf_180 ?_
          refine lv_if_ne (tgt := 186) hx hb dX2_resultOf_181 (by decide) (fun hq_40 => ?_) (fun hq_40 => ?_)
          · rw [if_neg hq_40] at h
            exact wX2_resultOf_186 C K15  _ _ _ _ _ _ _ _ _ _ _ h hH (lv_sub hl [0, 1, 2, 3, 4, 5, 6, 7] rfl)
          · rw [if_pos hq_40] at h
            refine lv_iconst (v := 0) hx hb dX2_resultOf_184 (by decide) ?_
            exact g_ret C hH h dX2_resultOf_185
    · rw [if_pos hq_36] at h
      refine lv_iload_n hx hb dX2_resultOf_144 rfl (lv_at hl 3 rfl) ?_
      refine lv_if_le (tgt := 159) hx hb dX2_resultOf_145 (by decide) (fun hq_41 => ?_) (fun hq_41 => ?_)
      · rw [if_pos hq_41] at h
        refine lv_iconst (v := 0) hx hb dX2_resultOf_159 (by decide) ?_
        exact g_ret C hH h dX2_resultOf_160
      · rw [if_neg hq_41] at h
        refine lv_aload_n hx hb dX2_resultOf_148 rfl (lv_at hl 0 rfl) ?_
        refine g_get C hH 7 (Nat.le_of_ble_eq_true rfl) rfl fl_X2_17 (v := .ref (ad 40)) rfl dX2_resultOf_149 ?_
        refine lv_iload_n hx hb dX2_resultOf_152 rfl (lv_at hl 3 rfl) ?_
        refine lv_iconst (v := 1) hx hb dX2_resultOf_153 (by decide) ?_
        refine lv_isub hx hb dX2_resultOf_154 ?_
        obtain ⟨hi_42, h⟩ := gd_ex h
        refine g_iald C hH 40 (Nat.le_of_ble_eq_true rfl) rfl (k := ((x3 - (1 : Int32)).toNatClampNeg)) rfl (ix_in hi_42) dX2_resultOf_155 ?_
        refine lv_goto (tgt := 160) hx hb dX2_resultOf_156 (by decide) ?_
        exact g_ret C hH h dX2_resultOf_160
  · rw [if_neg hq_35] at h
    refine lv_aload_n hx hb dX2_resultOf_95 rfl (lv_at hl 0 rfl) ?_
    refine g_get C hH 7 (Nat.le_of_ble_eq_true rfl) rfl fl_X2_17 (v := .ref (ad 40)) rfl dX2_resultOf_96 ?_
    refine lv_iload_n hx hb dX2_resultOf_99 rfl (lv_at hl 3 rfl) ?_
    refine lv_iload hx hb dX2_resultOf_100 (lv_at hl 5 rfl) ?_
    refine lv_iconst (v := 1) hx hb dX2_resultOf_102 (by decide) ?_
    refine lv_icmp_ne (tgt := 129) hx hb dX2_resultOf_103 (by decide) (fun hq_43 => ?_) (fun hq_43 => ?_)
    · rw [if_neg hq_43] at h
      refine lv_iload hx hb dX2_resultOf_129 (lv_at hl 6 rfl) ?_
      obtain ⟨hi_44, h⟩ := gd_ex h
      obtain ⟨σ_45, eσ_45, h⟩ := hl_ex h
      refine g_iast C hH 40 (Nat.le_of_ble_eq_true rfl) (fun _ _ => rfl) (k := (x3.toNatClampNeg)) rfl (ix_in hi_44) dX2_resultOf_131 (fun H locs hH => ?_)
      rw [← eσ_45] at hH
      refine lv_iinc (v := (x3 + 1)) (lv' := [(3, .int (x3 + 1)), (0, .ref (ad 7)), (1, .int x1), (2, .int x2), (4, .int x4), (5, .int x5), (6, .int x6), (7, .int x7)]) hx hb dX2_resultOf_132 hl (k := 3) rfl rfl (by decide) rfl (fun ls hl => ?_)
      refine lv_goto (tgt := 348) hx hb dX2_resultOf_135 (by decide) ?_
      refine lv_iinc (v := (x4 + 1)) (lv' := [(4, .int (x4 + 1)), (3, .int (x3 + 1)), (0, .ref (ad 7)), (1, .int x1), (2, .int x2), (5, .int x5), (6, .int x6), (7, .int x7)]) hx hb dX2_resultOf_348 hl (k := 4) rfl rfl (by decide) rfl (fun ls hl => ?_)
      refine lv_goto (tgt := 15) hx hb dX2_resultOf_351 (by decide) ?_
      exact K15 _ _ _ _ _ _ _ _ h hH (lv_sub hl [2, 3, 4, 1, 0] rfl)
    · rw [if_pos hq_43] at h
      refine lv_iconst (v := 0) hx hb dX2_resultOf_106 (by decide) ?_
      refine lv_iload hx hb dX2_resultOf_107 (lv_at hl 6 rfl) ?_
      refine lv_icmp_gt (tgt := 129) hx hb dX2_resultOf_109 (by decide) (fun hq_46 => ?_) (fun hq_46 => ?_)
      · rw [if_pos hq_46] at h
        refine lv_iload hx hb dX2_resultOf_129 (lv_at hl 6 rfl) ?_
        obtain ⟨hi_47, h⟩ := gd_ex h
        obtain ⟨σ_48, eσ_48, h⟩ := hl_ex h
        refine g_iast C hH 40 (Nat.le_of_ble_eq_true rfl) (fun _ _ => rfl) (k := (x3.toNatClampNeg)) rfl (ix_in hi_47) dX2_resultOf_131 (fun H locs hH => ?_)
        rw [← eσ_48] at hH
        refine lv_iinc (v := (x3 + 1)) (lv' := [(3, .int (x3 + 1)), (0, .ref (ad 7)), (1, .int x1), (2, .int x2), (4, .int x4), (5, .int x5), (6, .int x6), (7, .int x7)]) hx hb dX2_resultOf_132 hl (k := 3) rfl rfl (by decide) rfl (fun ls hl => ?_)
        refine lv_goto (tgt := 348) hx hb dX2_resultOf_135 (by decide) ?_
        refine lv_iinc (v := (x4 + 1)) (lv' := [(4, .int (x4 + 1)), (3, .int (x3 + 1)), (0, .ref (ad 7)), (1, .int x1), (2, .int x2), (5, .int x5), (6, .int x6), (7, .int x7)]) hx hb dX2_resultOf_348 hl (k := 4) rfl rfl (by decide) rfl (fun ls hl => ?_)
        refine lv_goto (tgt := 15) hx hb dX2_resultOf_351 (by decide) ?_
        exact K15 _ _ _ _ _ _ _ _ h hH (lv_sub hl [2, 3, 4, 1, 0] rfl)
      · rw [if_neg hq_46] at h
        refine lv_iload hx hb dX2_resultOf_112 (lv_at hl 6 rfl) ?_
        refine lv_bipush (v := 9) hx hb dX2_resultOf_114 (by decide) ?_
        refine lv_icmp_ge (tgt := 129) hx hb dX2_resultOf_116 (by decide) (fun hq_49 => ?_) (fun hq_49 => ?_)
        · rw [if_pos hq_49] at h
          refine lv_iload hx hb dX2_resultOf_129 (lv_at hl 6 rfl) ?_
          obtain ⟨hi_50, h⟩ := gd_ex h
          obtain ⟨σ_51, eσ_51, h⟩ := hl_ex h
          refine g_iast C hH 40 (Nat.le_of_ble_eq_true rfl) (fun _ _ => rfl) (k := (x3.toNatClampNeg)) rfl (ix_in hi_50) dX2_resultOf_131 (fun H locs hH => ?_)
          rw [← eσ_51] at hH
          refine lv_iinc (v := (x3 + 1)) (lv' := [(3, .int (x3 + 1)), (0, .ref (ad 7)), (1, .int x1), (2, .int x2), (4, .int x4), (5, .int x5), (6, .int x6), (7, .int x7)]) hx hb dX2_resultOf_132 hl (k := 3) rfl rfl (by decide) rfl (fun ls hl => ?_)
          refine lv_goto (tgt := 348) hx hb dX2_resultOf_135 (by decide) ?_
          refine lv_iinc (v := (x4 + 1)) (lv' := [(4, .int (x4 + 1)), (3, .int (x3 + 1)), (0, .ref (ad 7)), (1, .int x1), (2, .int x2), (5, .int x5), (6, .int x6), (7, .int x7)]) hx hb dX2_resultOf_348 hl (k := 4) rfl rfl (by decide) rfl (fun ls hl => ?_)
          refine lv_goto (tgt := 15) hx hb dX2_resultOf_351 (by decide) ?_
          exact K15 _ _ _ _ _ _ _ _ h hH (lv_sub hl [2, 3, 4, 1, 0] rfl)
        · rw [if_neg hq_49] at h
          refine lv_aload_n hx hb dX2_resultOf_119 rfl (lv_at hl 0 rfl) ?_
          refine g_get C hH 7 (Nat.le_of_ble_eq_true rfl) rfl fl_X2_13 (v := .ref (ad 39)) rfl dX2_resultOf_120 ?_
          refine lv_iload hx hb dX2_resultOf_123 (lv_at hl 6 rfl) ?_
          obtain ⟨hi_52, h⟩ := gd_ex h
          refine g_iald C hH 39 (Nat.le_of_ble_eq_true rfl) rfl (k := (x6.toNatClampNeg)) rfl (ix_in hi_52) dX2_resultOf_125 ?_
          refine lv_goto (tgt := 131) hx hb dX2_resultOf_126 (by decide) ?_
          obtain ⟨hi_53, h⟩ := gd_ex h
          obtain ⟨σ_54, eσ_54, h⟩ := hl_ex h
          refine g_iast C hH 40 (Nat.le_of_ble_eq_true rfl) (fun _ _ => rfl) (k := (x3.toNatClampNeg)) rfl (ix_in hi_53) dX2_resultOf_131 (fun H locs hH => ?_)
          rw [← eσ_54] at hH
          refine lv_iinc (v := (x3 + 1)) (lv' := [(3, .int (x3 + 1)), (0, .ref (ad 7)), (1, .int x1), (2, .int x2), (4, .int x4), (5, .int x5), (6, .int x6), (7, .int x7)]) hx hb dX2_resultOf_132 hl (k := 3) rfl rfl (by decide) rfl (fun ls hl => ?_)
          refine lv_goto (tgt := 348) hx hb dX2_resultOf_135 (by decide) ?_
          refine lv_iinc (v := (x4 + 1)) (lv' := [(4, .int (x4 + 1)), (3, .int (x3 + 1)), (0, .ref (ad 7)), (1, .int x1), (2, .int x2), (5, .int x5), (6, .int x6), (7, .int x7)]) hx hb dX2_resultOf_348 hl (k := 4) rfl rfl (by decide) rfl (fun ls hl => ?_)
          refine lv_goto (tgt := 15) hx hb dX2_resultOf_351 (by decide) ?_
          exact K15 _ _ _ _ _ _ _ _ h hH (lv_sub hl [2, 3, 4, 1, 0] rfl)
set_option maxHeartbeats 4000000 in
set_option maxRecDepth 100000 in
theorem wX2_resultOf_75 (C : Cx 50 D ad κ p s m args meth c cX2_resultOf RX2 9 (some .int)) {R : (Int32 × HS)} {k15 : Int32 → Int32 → Int32 → Int32 → HS → Option (Int32 × HS)} (K15 : ∀ (x1 : Int32) (x2 : Int32) (x3 : Int32) (x4 : Int32) (σ : HS) (H : Heap) (locs : List Loc) (ls : Array Slot), k15 x1 x2 x3 x4 σ = some R → Hd 50 ceX D ad κ s σ H locs → lv_has ls 9 [(0, .ref (ad 7)), (1, .int x1), (2, .int x2), (3, .int x3), (4, .int x4)] → W p l e ({ frames := 0, cells := 0, slots := 0, locals := 0 } : Room) s m args below meth c H locs 0 0 (MQ below (QI 50 ceX D ad κ R) args s 0 0 (AX 50 ad)) (F0 m 15 ls [])) : ∀ (x1 : Int32) (x2 : Int32) (x3 : Int32) (x4 : Int32) (x5 : Int32) (x6 : Int32) (y0 : Int32) (σ : HS) (H : Heap) (locs : List Loc) (ls : Array Slot), FX2_resultOf_75 k15 x1 x2 x3 x4 x5 x6 y0 σ = some R → Hd 50 ceX D ad κ s σ H locs → lv_has ls 9 [(0, .ref (ad 7)), (1, .int x1), (2, .int x2), (3, .int x3), (4, .int x4), (5, .int x5), (6, .int x6)] → W p l e ({ frames := 0, cells := 0, slots := 0, locals := 0 } : Room) s m args below meth c H locs 0 0 (MQ below (QI 50 ceX D ad κ R) args s 0 0 (AX 50 ad)) (F0 m 75 ls [.int y0]) := by
  have hx := C.1
  have hb := C.2.1
  have hown := C.2.2.2.1
  have hts := C.2.2.2.2.1
  intro x1 x2 x3 x4 x5 x6 y0 σ H locs ls h hH hl
  rw [FX2_resultOf_75] at h
  refine lv_istore (lv' := [(7, .int y0), (0, .ref (ad 7)), (1, .int x1), (2, .int x2), (3, .int x3), (4, .int x4), (5, .int x5), (6, .int x6)]) hx hb dX2_resultOf_75 hl (by decide) rfl (fun ls hl => ?_)
  refine lv_iload hx hb dX2_resultOf_77 (lv_at hl 0 rfl) ?_
  refine lv_if_eq (tgt := 90) hx hb dX2_resultOf_79 (by decide) (fun hq_55 => ?_) (fun hq_55 => ?_)
  · rw [if_pos hq_55] at h
    exact wX2_resultOf_90 C K15  _ _ _ _ _ _ _ _ _ _ _ h hH (lv_sub hl [1, 2, 3, 4, 5, 6, 7, 0] rfl)
  · rw [if_neg hq_55] at h
    refine lv_iload_n hx hb dX2_resultOf_82 rfl (lv_at hl 4 rfl) ?_
    refine lv_bipush (v := 16) hx hb dX2_resultOf_83 (by decide) ?_
    refine lv_icmp_lt (tgt := 90) hx hb dX2_resultOf_85 (by decide) (fun hq_56 => ?_) (fun hq_56 => ?_)
    · rw [if_pos hq_56] at h
      exact wX2_resultOf_90 C K15  _ _ _ _ _ _ _ _ _ _ _ h hH (lv_sub hl [1, 2, 3, 4, 5, 6, 7, 0] rfl)
    · rw [if_neg hq_56] at h
      refine lv_iconst (v := 0) hx hb dX2_resultOf_88 (by decide) ?_
      exact g_ret C hH h dX2_resultOf_89
set_option maxHeartbeats 4000000 in
set_option maxRecDepth 100000 in
theorem wX2_resultOf_70 (C : Cx 50 D ad κ p s m args meth c cX2_resultOf RX2 9 (some .int)) {R : (Int32 × HS)} {k15 : Int32 → Int32 → Int32 → Int32 → HS → Option (Int32 × HS)} (K15 : ∀ (x1 : Int32) (x2 : Int32) (x3 : Int32) (x4 : Int32) (σ : HS) (H : Heap) (locs : List Loc) (ls : Array Slot), k15 x1 x2 x3 x4 σ = some R → Hd 50 ceX D ad κ s σ H locs → lv_has ls 9 [(0, .ref (ad 7)), (1, .int x1), (2, .int x2), (3, .int x3), (4, .int x4)] → W p l e ({ frames := 0, cells := 0, slots := 0, locals := 0 } : Room) s m args below meth c H locs 0 0 (MQ below (QI 50 ceX D ad κ R) args s 0 0 (AX 50 ad)) (F0 m 15 ls [])) : ∀ (x1 : Int32) (x2 : Int32) (x3 : Int32) (x4 : Int32) (x5 : Int32) (x6 : Int32) (σ : HS) (H : Heap) (locs : List Loc) (ls : Array Slot), FX2_resultOf_70 k15 x1 x2 x3 x4 x5 x6 σ = some R → Hd 50 ceX D ad κ s σ H locs → lv_has ls 9 [(0, .ref (ad 7)), (1, .int x1), (2, .int x2), (3, .int x3), (4, .int x4), (5, .int x5), (6, .int x6)] → W p l e ({ frames := 0, cells := 0, slots := 0, locals := 0 } : Room) s m args below meth c H locs 0 0 (MQ below (QI 50 ceX D ad κ R) args s 0 0 (AX 50 ad)) (F0 m 70 ls []) := by
  have hx := C.1
  have hb := C.2.1
  have hown := C.2.2.2.1
  have hts := C.2.2.2.2.1
  intro x1 x2 x3 x4 x5 x6 σ H locs ls h hH hl
  rw [FX2_resultOf_70] at h
  refine lv_iconst (v := 1) hx hb dX2_resultOf_70 (by decide) ?_
  refine lv_goto (tgt := 75) hx hb dX2_resultOf_71 (by decide) ?_
  exact wX2_resultOf_75 C K15  _ _ _ _ _ _ _ _ _ _ _ h hH (lv_sub hl [0, 1, 2, 3, 4, 5, 6] rfl)
set_option maxHeartbeats 4000000 in
set_option maxRecDepth 100000 in
theorem wX2_resultOf_15 (C : Cx 50 D ad κ p s m args meth c cX2_resultOf RX2 9 (some .int)) {R : (Int32 × HS)} : ∀ (f : Nat) (x1 : Int32) (x2 : Int32) (x3 : Int32) (x4 : Int32) (σ : HS) (H : Heap) (locs : List Loc) (ls : Array Slot), FX2_resultOf_15  f x1 x2 x3 x4 σ = some R → Hd 50 ceX D ad κ s σ H locs → lv_has ls 9 [(0, .ref (ad 7)), (1, .int x1), (2, .int x2), (3, .int x3), (4, .int x4)] → W p l e ({ frames := 0, cells := 0, slots := 0, locals := 0 } : Room) s m args below meth c H locs 0 0 (MQ below (QI 50 ceX D ad κ R) args s 0 0 (AX 50 ad)) (F0 m 15 ls []) := by
  have hx := C.1
  have hb := C.2.1
  have hown := C.2.2.2.1
  have hts := C.2.2.2.2.1
  intro f
  induction f with
  | zero =>
    intro x1 x2 x3 x4 σ H locs ls h hH hl
    cases h
  | succ f ih =>
    intro x1 x2 x3 x4 σ H locs ls h hH hl
    rw [FX2_resultOf_15] at h
    refine lv_iload hx hb dX2_resultOf_15 (lv_at hl 4 rfl) ?_
    refine lv_sipush (v := 408) hx hb dX2_resultOf_17 (by decide) ?_
    refine lv_icmp_ge (tgt := 354) hx hb dX2_resultOf_20 (by decide) (fun hq_57 => ?_) (fun hq_57 => ?_)
    · rw [if_pos hq_57] at h
      refine lv_iconst (v := 0) hx hb dX2_resultOf_354 (by decide) ?_
      exact g_ret C hH h dX2_resultOf_355
    · rw [if_neg hq_57] at h
      refine lv_iload_n hx hb dX2_resultOf_23 rfl (lv_at hl 2 rfl) ?_
      refine lv_aload_n hx hb dX2_resultOf_24 rfl (lv_at hl 0 rfl) ?_
      refine g_get C hH 7 (Nat.le_of_ble_eq_true rfl) rfl fl_X2_20 (v := .ref (ad 3)) rfl dX2_resultOf_25 ?_
      refine g_get C hH 3 (Nat.le_of_ble_eq_true rfl) rfl fl_X2_65 (v := .int (σ.1 3 5)) rfl dX2_resultOf_28 ?_
      refine lv_icmp_ge (tgt := 354) hx hb dX2_resultOf_31 (by decide) (fun hq_58 => ?_) (fun hq_58 => ?_)
      · rw [if_pos hq_58] at h
        refine lv_iconst (v := 0) hx hb dX2_resultOf_354 (by decide) ?_
        exact g_ret C hH h dX2_resultOf_355
      · rw [if_neg hq_58] at h
        refine lv_aload_n hx hb dX2_resultOf_34 rfl (lv_at hl 0 rfl) ?_
        refine g_get C hH 7 (Nat.le_of_ble_eq_true rfl) rfl fl_X2_20 (v := .ref (ad 3)) rfl dX2_resultOf_35 ?_
        refine g_get C hH 3 (Nat.le_of_ble_eq_true rfl) rfl fl_X2_69 (v := .ref (ad 27)) rfl dX2_resultOf_38 ?_
        refine lv_iload_n hx hb dX2_resultOf_41 rfl (lv_at hl 2 rfl) ?_
        obtain ⟨hi_59, h⟩ := gd_ex h
        refine g_iald C hH 27 (Nat.le_of_ble_eq_true rfl) rfl (k := (x2.toNatClampNeg)) rfl (ix_in hi_59) dX2_resultOf_42 ?_
        obtain ⟨x5_60, ex5_60, h⟩ := hl_ex h
        refine lv_eqi ex5_60 ?_
        refine lv_istore (lv' := [(5, .int x5_60), (0, .ref (ad 7)), (1, .int x1), (2, .int x2), (3, .int x3), (4, .int x4)]) hx hb dX2_resultOf_43 hl (by decide) rfl (fun ls hl => ?_)
        refine lv_aload_n hx hb dX2_resultOf_45 rfl (lv_at hl 1 rfl) ?_
        refine g_get C hH 7 (Nat.le_of_ble_eq_true rfl) rfl fl_X2_20 (v := .ref (ad 3)) rfl dX2_resultOf_46 ?_
        refine g_get C hH 3 (Nat.le_of_ble_eq_true rfl) rfl fl_X2_72 (v := .ref (ad 28)) rfl dX2_resultOf_49 ?_
        refine lv_iload_n hx hb dX2_resultOf_52 rfl (lv_at hl 3 rfl) ?_
        obtain ⟨hi_61, h⟩ := gd_ex h
        refine g_iald C hH 28 (Nat.le_of_ble_eq_true rfl) rfl (k := (x2.toNatClampNeg)) rfl (ix_in hi_61) dX2_resultOf_53 ?_
        obtain ⟨x6_62, ex6_62, h⟩ := hl_ex h
        refine lv_eqi ex6_62 ?_
        refine lv_istore (lv' := [(6, .int x6_62), (5, .int x5_60), (0, .ref (ad 7)), (1, .int x1), (2, .int x2), (3, .int x3), (4, .int x4)]) hx hb dX2_resultOf_54 hl (by decide) rfl (fun ls hl => ?_)
        refine lv_iinc (v := (x2 + 1)) (lv' := [(2, .int (x2 + 1)), (6, .int x6_62), (5, .int x5_60), (0, .ref (ad 7)), (1, .int x1), (3, .int x3), (4, .int x4)]) hx hb dX2_resultOf_56 hl (k := 4) rfl rfl (by decide) rfl (fun ls hl => ?_)
        refine lv_iload hx hb dX2_resultOf_59 (lv_at hl 2 rfl) ?_
        refine lv_if_eq (tgt := 70) hx hb dX2_resultOf_61 (by decide) (fun hq_63 => ?_) (fun hq_63 => ?_)
        · rw [if_pos hq_63] at h
          exact wX2_resultOf_70 C ih  _ _ _ _ _ _ _ _ _ _ h hH (lv_sub hl [3, 4, 0, 5, 6, 2, 1] rfl)
        · rw [if_neg hq_63] at h
          refine lv_iload hx hb dX2_resultOf_64 (lv_at hl 2 rfl) ?_
          refine lv_iconst (v := 1) hx hb dX2_resultOf_66 (by decide) ?_
          refine lv_icmp_ne (tgt := 74) hx hb dX2_resultOf_67 (by decide) (fun hq_64 => ?_) (fun hq_64 => ?_)
          · rw [if_neg hq_64] at h
            refine lv_iconst (v := 0) hx hb dX2_resultOf_74 (by decide) ?_
            exact wX2_resultOf_75 C ih  _ _ _ _ _ _ _ _ _ _ _ h hH (lv_sub hl [3, 4, 0, 5, 6, 2, 1] rfl)
          · rw [if_pos hq_64] at h
            exact wX2_resultOf_70 C ih  _ _ _ _ _ _ _ _ _ _ h hH (lv_sub hl [3, 4, 0, 5, 6, 2, 1] rfl)
set_option maxHeartbeats 4000000 in
set_option maxRecDepth 100000 in
theorem kX2_resultOf (l : Launch) (D : va_G) (ad : Nat → Nat) (κ : KC) {x1 : Int32} {σ : HS} {R : (Int32 × HS)} (h : FX2_resultOf x1 σ = some R) : MtI l 50 ceX D ad κ yX2_resultOf cX2_resultOf 9 (some .int) ({ frames := 0, cells := 0, slots := 0, locals := 0 } : Room) [.ref (ad 7), .int x1] σ R := by
  refine open_ (by decide) (Nat.le_of_ble_eq_true rfl) (la := [(0, .ref (ad 7)), (1, .int x1)]) rfl ?_
  intro p e s m below meth c ls C hH hl
  replace C : Cx 50 D ad κ p s m _ meth c cX2_resultOf RX2 9 (some .int) := C
  have hx := C.1
  have hb := C.2.1
  have hown := C.2.2.2.1
  have hts := C.2.2.2.2.1
  rw [FX2_resultOf] at h
  refine lv_aload_n hx hb dX2_resultOf_0 rfl (lv_at hl 0 rfl) ?_
  refine g_get C hH 7 (Nat.le_of_ble_eq_true rfl) rfl fl_X2_20 (v := .ref (ad 3)) rfl dX2_resultOf_1 ?_
  refine g_get C hH 3 (Nat.le_of_ble_eq_true rfl) rfl fl_X2_62 (v := .ref (ad 26)) rfl dX2_resultOf_4 ?_
  refine lv_iload_n hx hb dX2_resultOf_7 rfl (lv_at hl 1 rfl) ?_
  obtain ⟨hi_65, h⟩ := gd_ex h
  refine g_iald C hH 26 (Nat.le_of_ble_eq_true rfl) rfl (k := (x1.toNatClampNeg)) rfl (ix_in hi_65) dX2_resultOf_8 ?_
  obtain ⟨x2_66, ex2_66, h⟩ := hl_ex h
  refine lv_eqi ex2_66 ?_
  refine lv_istore_n (lv' := [(2, .int x2_66), (0, .ref (ad 7)), (1, .int x1)]) hx hb dX2_resultOf_9 rfl hl (by decide) rfl (fun ls hl => ?_)
  refine lv_iconst (v := 0) hx hb dX2_resultOf_10 (by decide) ?_
  refine lv_istore_n (lv' := [(3, .int (0 : Int32)), (2, .int x2_66), (0, .ref (ad 7)), (1, .int x1)]) hx hb dX2_resultOf_11 rfl hl (by decide) rfl (fun ls hl => ?_)
  refine lv_iconst (v := 0) hx hb dX2_resultOf_12 (by decide) ?_
  refine lv_istore (lv' := [(4, .int (0 : Int32)), (3, .int (0 : Int32)), (2, .int x2_66), (0, .ref (ad 7)), (1, .int x1)]) hx hb dX2_resultOf_13 hl (by decide) rfl (fun ls hl => ?_)
  exact wX2_resultOf_15 C _ _ _ _ _ _ _ _ _ h hH (lv_sub hl [3, 4, 2, 1, 0] rfl)
-- X2_quartersOf
def FX2_quartersOf (st : Nat) (x2 : Int32) (σ : HS) : Option (Int32 × HS) :=
  bdV (FX2_setVars st x2 (-1 : Int32) (0 : Int32) σ) fun σ_1 => bdI (FX2_resultOf (0 : Int32) σ_1) fun r_3 σ_4 => some ((maxI (0 : Int32) (minI (4 : Int32) r_3)), σ_4)
set_option maxHeartbeats 4000000 in
set_option maxRecDepth 100000 in
theorem kX2_quartersOf (l : Launch) (D : va_G) (ad : Nat → Nat) (κ : KC) {st : Nat} (hst : isSt st) {x2 : Int32} {σ : HS} {R : (Int32 × HS)} (h : FX2_quartersOf st x2 σ = some R) : MtI l 50 ceX D ad κ yX2_quartersOf cX2_quartersOf 3 (some .int) ({ frames := 1, cells := 0, slots := 0, locals := 28 } : Room) [.ref (ad 7), .ref (ad st), .int x2] σ R := by
  refine open_ (by decide) (Nat.le_of_ble_eq_true rfl) (la := [(0, .ref (ad 7)), (1, .ref (ad st)), (2, .int x2)]) rfl ?_
  intro p e s m below meth c ls C hH hl
  replace C : Cx 50 D ad κ p s m _ meth c cX2_quartersOf RX2 3 (some .int) := C
  have hx := C.1
  have hb := C.2.1
  have hown := C.2.2.2.1
  have hts := C.2.2.2.2.1
  rw [FX2_quartersOf] at h
  refine lv_aload_n hx hb dX2_quartersOf_0 rfl (lv_at hl 0 rfl) ?_
  refine lv_aload_n hx hb dX2_quartersOf_1 rfl (lv_at hl 1 rfl) ?_
  refine lv_iload_n hx hb dX2_quartersOf_2 rfl (lv_at hl 2 rfl) ?_
  refine lv_iconst (v := (-1)) hx hb dX2_quartersOf_3 (by decide) ?_
  refine lv_iconst (v := 0) hx hb dX2_quartersOf_4 (by decide) ?_
  obtain ⟨σ_1, hc_2, h⟩ := bdV_ex h
  refine g_cv (g_runV (rest := []) C hH hl.1 cV_X2_24 7 (Nat.le_of_ble_eq_true rfl) rfl rfl (kX2_setVars l D ad κ hst hc_2) ⟨rfl, rfl⟩ ⟨(Nat.le_of_ble_eq_true rfl), (Nat.le_of_ble_eq_true rfl)⟩ rfl rfl (Nat.le_of_ble_eq_true rfl) dX2_quartersOf_5 z00) hH (fun H locs hH => ?_)
  refine lv_iconst (v := 0) hx hb dX2_quartersOf_8 (by decide) ?_
  refine lv_iconst (v := 4) hx hb dX2_quartersOf_9 (by decide) ?_
  refine lv_aload_n hx hb dX2_quartersOf_10 rfl (lv_at hl 0 rfl) ?_
  refine lv_iconst (v := 0) hx hb dX2_quartersOf_11 (by decide) ?_
  obtain ⟨r_3, σ_4, hc_5, h⟩ := bdI_ex h
  refine g_ci (g_runV (rest := [.int (4 : Int32), .int (0 : Int32)]) C hH hl.1 cV_X2_28 7 (Nat.le_of_ble_eq_true rfl) rfl rfl (kX2_resultOf l D ad κ hc_5) ⟨rfl, rfl⟩ ⟨(Nat.le_of_ble_eq_true rfl), (Nat.le_of_ble_eq_true rfl)⟩ rfl rfl (Nat.le_of_ble_eq_true rfl) dX2_quartersOf_12 z00) hH (fun H locs hH => ?_)
  refine g_min C hl.1 mmin_X2_32 (Nat.le_of_ble_eq_true rfl) (Nat.le_of_ble_eq_true rfl) z00 dX2_quartersOf_15 ?_
  refine g_max C hl.1 mmax_X2_38 (Nat.le_of_ble_eq_true rfl) (Nat.le_of_ble_eq_true rfl) z00 dX2_quartersOf_18 ?_
  exact g_ret C hH h dX2_quartersOf_21
-- X2_worthTo
def FX2_worthTo (st : Nat) (x2 : Int32) (x3 : Int32) (x4 : Int32) (σ : HS) : Option (Int32 × HS) :=
  bdV (FX2_setVars st x3 x2 x4 σ) fun σ_1 => bdI (FX2_resultOf (1 : Int32) σ_1) fun r_3 σ_4 => some ((maxI (0 : Int32) (minI (9 : Int32) r_3)), σ_4)
set_option maxHeartbeats 4000000 in
set_option maxRecDepth 100000 in
theorem kX2_worthTo (l : Launch) (D : va_G) (ad : Nat → Nat) (κ : KC) {st : Nat} (hst : isSt st) {x2 : Int32} {x3 : Int32} {x4 : Int32} {σ : HS} {R : (Int32 × HS)} (h : FX2_worthTo st x2 x3 x4 σ = some R) : MtI l 50 ceX D ad κ yX2_worthTo cX2_worthTo 5 (some .int) ({ frames := 1, cells := 0, slots := 0, locals := 28 } : Room) [.ref (ad 7), .ref (ad st), .int x2, .int x3, .int x4] σ R := by
  refine open_ (by decide) (Nat.le_of_ble_eq_true rfl) (la := [(0, .ref (ad 7)), (1, .ref (ad st)), (2, .int x2), (3, .int x3), (4, .int x4)]) rfl ?_
  intro p e s m below meth c ls C hH hl
  replace C : Cx 50 D ad κ p s m _ meth c cX2_worthTo RX2 5 (some .int) := C
  have hx := C.1
  have hb := C.2.1
  have hown := C.2.2.2.1
  have hts := C.2.2.2.2.1
  rw [FX2_worthTo] at h
  refine lv_aload_n hx hb dX2_worthTo_0 rfl (lv_at hl 0 rfl) ?_
  refine lv_aload_n hx hb dX2_worthTo_1 rfl (lv_at hl 1 rfl) ?_
  refine lv_iload_n hx hb dX2_worthTo_2 rfl (lv_at hl 3 rfl) ?_
  refine lv_iload_n hx hb dX2_worthTo_3 rfl (lv_at hl 2 rfl) ?_
  refine lv_iload hx hb dX2_worthTo_4 (lv_at hl 4 rfl) ?_
  obtain ⟨σ_1, hc_2, h⟩ := bdV_ex h
  refine g_cv (g_runV (rest := []) C hH hl.1 cV_X2_24 7 (Nat.le_of_ble_eq_true rfl) rfl rfl (kX2_setVars l D ad κ hst hc_2) ⟨rfl, rfl⟩ ⟨(Nat.le_of_ble_eq_true rfl), (Nat.le_of_ble_eq_true rfl)⟩ rfl rfl (Nat.le_of_ble_eq_true rfl) dX2_worthTo_6 z00) hH (fun H locs hH => ?_)
  refine lv_iconst (v := 0) hx hb dX2_worthTo_9 (by decide) ?_
  refine lv_bipush (v := 9) hx hb dX2_worthTo_10 (by decide) ?_
  refine lv_aload_n hx hb dX2_worthTo_12 rfl (lv_at hl 0 rfl) ?_
  refine lv_iconst (v := 1) hx hb dX2_worthTo_13 (by decide) ?_
  obtain ⟨r_3, σ_4, hc_5, h⟩ := bdI_ex h
  refine g_ci (g_runV (rest := [.int (9 : Int32), .int (0 : Int32)]) C hH hl.1 cV_X2_28 7 (Nat.le_of_ble_eq_true rfl) rfl rfl (kX2_resultOf l D ad κ hc_5) ⟨rfl, rfl⟩ ⟨(Nat.le_of_ble_eq_true rfl), (Nat.le_of_ble_eq_true rfl)⟩ rfl rfl (Nat.le_of_ble_eq_true rfl) dX2_worthTo_14 z00) hH (fun H locs hH => ?_)
  refine g_min C hl.1 mmin_X2_32 (Nat.le_of_ble_eq_true rfl) (Nat.le_of_ble_eq_true rfl) z00 dX2_worthTo_17 ?_
  refine g_max C hl.1 mmax_X2_38 (Nat.le_of_ble_eq_true rfl) (Nat.le_of_ble_eq_true rfl) z00 dX2_worthTo_20 ?_
  exact g_ret C hH h dX2_worthTo_23
-- X2_rentOf
def FX2_rentOf (st : Nat) (x2 : Int32) (σ : HS) : Option (Int32 × HS) :=
  bdI (FX7_partsOf st x2 σ) fun r_1 σ_2 => bdI (FJ6_bitCount_0f7a4 r_1 σ_2) fun r_4 σ_5 => bdV (FX2_setVars st (-1 : Int32) x2 r_4 σ_5) fun σ_7 => bdI (FX2_resultOf (2 : Int32) σ_7) fun r_9 σ_10 => some ((maxI (0 : Int32) (minI (99 : Int32) r_9)), σ_10)
set_option maxHeartbeats 4000000 in
set_option maxRecDepth 100000 in
theorem kX2_rentOf (l : Launch) (D : va_G) (ad : Nat → Nat) (κ : KC) {st : Nat} (hst : isSt st) {x2 : Int32} {σ : HS} {R : (Int32 × HS)} (h : FX2_rentOf st x2 σ = some R) : MtI l 50 ceX D ad κ yX2_rentOf cX2_rentOf 3 (some .int) ({ frames := 2, cells := 0, slots := 0, locals := 44 } : Room) [.ref (ad 7), .ref (ad st), .int x2] σ R := by
  refine open_ (by decide) (Nat.le_of_ble_eq_true rfl) (la := [(0, .ref (ad 7)), (1, .ref (ad st)), (2, .int x2)]) rfl ?_
  intro p e s m below meth c ls C hH hl
  replace C : Cx 50 D ad κ p s m _ meth c cX2_rentOf RX2 3 (some .int) := C
  have hx := C.1
  have hb := C.2.1
  have hown := C.2.2.2.1
  have hts := C.2.2.2.2.1
  rw [FX2_rentOf] at h
  refine lv_aload_n hx hb dX2_rentOf_0 rfl (lv_at hl 0 rfl) ?_
  refine lv_aload_n hx hb dX2_rentOf_1 rfl (lv_at hl 1 rfl) ?_
  refine lv_iconst (v := (-1)) hx hb dX2_rentOf_2 (by decide) ?_
  refine lv_iload_n hx hb dX2_rentOf_3 rfl (lv_at hl 2 rfl) ?_
  refine lv_aload_n hx hb dX2_rentOf_4 rfl (lv_at hl 1 rfl) ?_
  refine lv_iload_n hx hb dX2_rentOf_5 rfl (lv_at hl 2 rfl) ?_
  obtain ⟨r_1, σ_2, hc_3, h⟩ := bdI_ex h
  refine g_ci (g_runV (rest := [.int x2, .int (-1 : Int32), .ref (ad st), .ref (ad 7)]) C hH hl.1 cV_X2_41 st (st_lt hst) (st_ce hst) rfl (kX7_partsOf l D ad κ hst hc_3) ⟨rfl, rfl⟩ ⟨(Nat.le_of_ble_eq_true rfl), (Nat.le_of_ble_eq_true rfl)⟩ rfl rfl (Nat.le_of_ble_eq_true rfl) dX2_rentOf_6 z00) hH (fun H locs hH => ?_)
  obtain ⟨r_4, σ_5, hc_6, h⟩ := bdI_ex h
  refine g_ci (g_runS (rest := [.int x2, .int (-1 : Int32), .ref (ad st), .ref (ad 7)]) C hH hl.1 cS_X2_46 (kJ6_bitCount_0f7a4 l D ad κ hc_6) ⟨rfl, rfl⟩ ⟨(Nat.le_of_ble_eq_true rfl), (Nat.le_of_ble_eq_true rfl)⟩ rfl rfl (Nat.le_of_ble_eq_true rfl) dX2_rentOf_9 z00) hH (fun H locs hH => ?_)
  obtain ⟨σ_7, hc_8, h⟩ := bdV_ex h
  refine g_cv (g_runV (rest := []) C hH hl.1 cV_X2_24 7 (Nat.le_of_ble_eq_true rfl) rfl rfl (kX2_setVars l D ad κ hst hc_8) ⟨rfl, rfl⟩ ⟨(Nat.le_of_ble_eq_true rfl), (Nat.le_of_ble_eq_true rfl)⟩ rfl rfl (Nat.le_of_ble_eq_true rfl) dX2_rentOf_12 z00) hH (fun H locs hH => ?_)
  refine lv_iconst (v := 0) hx hb dX2_rentOf_15 (by decide) ?_
  refine lv_bipush (v := 99) hx hb dX2_rentOf_16 (by decide) ?_
  refine lv_aload_n hx hb dX2_rentOf_18 rfl (lv_at hl 0 rfl) ?_
  refine lv_iconst (v := 2) hx hb dX2_rentOf_19 (by decide) ?_
  obtain ⟨r_9, σ_10, hc_11, h⟩ := bdI_ex h
  refine g_ci (g_runV (rest := [.int (99 : Int32), .int (0 : Int32)]) C hH hl.1 cV_X2_28 7 (Nat.le_of_ble_eq_true rfl) rfl rfl (kX2_resultOf l D ad κ hc_11) ⟨rfl, rfl⟩ ⟨(Nat.le_of_ble_eq_true rfl), (Nat.le_of_ble_eq_true rfl)⟩ rfl rfl (Nat.le_of_ble_eq_true rfl) dX2_rentOf_20 z00) hH (fun H locs hH => ?_)
  refine g_min C hl.1 mmin_X2_32 (Nat.le_of_ble_eq_true rfl) (Nat.le_of_ble_eq_true rfl) z00 dX2_rentOf_23 ?_
  refine g_max C hl.1 mmax_X2_38 (Nat.le_of_ble_eq_true rfl) (Nat.le_of_ble_eq_true rfl) z00 dX2_rentOf_26 ?_
  exact g_ret C hH h dX2_rentOf_29
-- X2_cureFor
def FX2_cureFor (st : Nat) (x2 : Int32) (σ : HS) : Option (Int32 × HS) :=
  bdI (FX7_partsOf st x2 σ) fun r_1 σ_2 => bdI (FJ6_bitCount_0f7a4 r_1 σ_2) fun r_4 σ_5 => bdV (FX2_setVars st (-1 : Int32) x2 r_4 σ_5) fun σ_7 => bdI (FX2_resultOf (3 : Int32) σ_7) fun r_9 σ_10 => some ((maxI (0 : Int32) (minI (99 : Int32) r_9)), σ_10)
set_option maxHeartbeats 4000000 in
set_option maxRecDepth 100000 in
theorem kX2_cureFor (l : Launch) (D : va_G) (ad : Nat → Nat) (κ : KC) {st : Nat} (hst : isSt st) {x2 : Int32} {σ : HS} {R : (Int32 × HS)} (h : FX2_cureFor st x2 σ = some R) : MtI l 50 ceX D ad κ yX2_cureFor cX2_cureFor 3 (some .int) ({ frames := 2, cells := 0, slots := 0, locals := 44 } : Room) [.ref (ad 7), .ref (ad st), .int x2] σ R := by
  refine open_ (by decide) (Nat.le_of_ble_eq_true rfl) (la := [(0, .ref (ad 7)), (1, .ref (ad st)), (2, .int x2)]) rfl ?_
  intro p e s m below meth c ls C hH hl
  replace C : Cx 50 D ad κ p s m _ meth c cX2_cureFor RX2 3 (some .int) := C
  have hx := C.1
  have hb := C.2.1
  have hown := C.2.2.2.1
  have hts := C.2.2.2.2.1
  rw [FX2_cureFor] at h
  refine lv_aload_n hx hb dX2_cureFor_0 rfl (lv_at hl 0 rfl) ?_
  refine lv_aload_n hx hb dX2_cureFor_1 rfl (lv_at hl 1 rfl) ?_
  refine lv_iconst (v := (-1)) hx hb dX2_cureFor_2 (by decide) ?_
  refine lv_iload_n hx hb dX2_cureFor_3 rfl (lv_at hl 2 rfl) ?_
  refine lv_aload_n hx hb dX2_cureFor_4 rfl (lv_at hl 1 rfl) ?_
  refine lv_iload_n hx hb dX2_cureFor_5 rfl (lv_at hl 2 rfl) ?_
  obtain ⟨r_1, σ_2, hc_3, h⟩ := bdI_ex h
  refine g_ci (g_runV (rest := [.int x2, .int (-1 : Int32), .ref (ad st), .ref (ad 7)]) C hH hl.1 cV_X2_41 st (st_lt hst) (st_ce hst) rfl (kX7_partsOf l D ad κ hst hc_3) ⟨rfl, rfl⟩ ⟨(Nat.le_of_ble_eq_true rfl), (Nat.le_of_ble_eq_true rfl)⟩ rfl rfl (Nat.le_of_ble_eq_true rfl) dX2_cureFor_6 z00) hH (fun H locs hH => ?_)
  obtain ⟨r_4, σ_5, hc_6, h⟩ := bdI_ex h
  refine g_ci (g_runS (rest := [.int x2, .int (-1 : Int32), .ref (ad st), .ref (ad 7)]) C hH hl.1 cS_X2_46 (kJ6_bitCount_0f7a4 l D ad κ hc_6) ⟨rfl, rfl⟩ ⟨(Nat.le_of_ble_eq_true rfl), (Nat.le_of_ble_eq_true rfl)⟩ rfl rfl (Nat.le_of_ble_eq_true rfl) dX2_cureFor_9 z00) hH (fun H locs hH => ?_)
  obtain ⟨σ_7, hc_8, h⟩ := bdV_ex h
  refine g_cv (g_runV (rest := []) C hH hl.1 cV_X2_24 7 (Nat.le_of_ble_eq_true rfl) rfl rfl (kX2_setVars l D ad κ hst hc_8) ⟨rfl, rfl⟩ ⟨(Nat.le_of_ble_eq_true rfl), (Nat.le_of_ble_eq_true rfl)⟩ rfl rfl (Nat.le_of_ble_eq_true rfl) dX2_cureFor_12 z00) hH (fun H locs hH => ?_)
  refine lv_iconst (v := 0) hx hb dX2_cureFor_15 (by decide) ?_
  refine lv_bipush (v := 99) hx hb dX2_cureFor_16 (by decide) ?_
  refine lv_aload_n hx hb dX2_cureFor_18 rfl (lv_at hl 0 rfl) ?_
  refine lv_iconst (v := 3) hx hb dX2_cureFor_19 (by decide) ?_
  obtain ⟨r_9, σ_10, hc_11, h⟩ := bdI_ex h
  refine g_ci (g_runV (rest := [.int (99 : Int32), .int (0 : Int32)]) C hH hl.1 cV_X2_28 7 (Nat.le_of_ble_eq_true rfl) rfl rfl (kX2_resultOf l D ad κ hc_11) ⟨rfl, rfl⟩ ⟨(Nat.le_of_ble_eq_true rfl), (Nat.le_of_ble_eq_true rfl)⟩ rfl rfl (Nat.le_of_ble_eq_true rfl) dX2_cureFor_20 z00) hH (fun H locs hH => ?_)
  refine g_min C hl.1 mmin_X2_32 (Nat.le_of_ble_eq_true rfl) (Nat.le_of_ble_eq_true rfl) z00 dX2_cureFor_23 ?_
  refine g_max C hl.1 mmax_X2_38 (Nat.le_of_ble_eq_true rfl) (Nat.le_of_ble_eq_true rfl) z00 dX2_cureFor_26 ?_
  exact g_ret C hH h dX2_cureFor_29
end
