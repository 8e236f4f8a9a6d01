theorem dX12_termOf_0 : decode cX12_termOf 0 = .ok (.iconst 0, 1) := by decide +kernel
theorem dX12_termOf_1 : decode cX12_termOf 1 = .ok (.istore_n 3, 1) := by decide +kernel
theorem dX12_termOf_2 : decode cX12_termOf 2 = .ok (.iload_n 1, 1) := by decide +kernel
theorem dX12_termOf_3 : decode cX12_termOf 3 = .ok (.istore 4, 2) := by decide +kernel
theorem dX12_termOf_5 : decode cX12_termOf 5 = .ok (.iload 4, 2) := by decide +kernel
theorem dX12_termOf_7 : decode cX12_termOf 7 = .ok (.iload_n 2, 1) := by decide +kernel
theorem dX12_termOf_8 : decode cX12_termOf 8 = .ok (.if_icmp .ge 157, 3) := by decide +kernel
theorem dX12_termOf_11 : decode cX12_termOf 11 = .ok (.aload_n 0, 1) := by decide +kernel
theorem dX12_termOf_12 : decode cX12_termOf 12 = .ok (.getfield 95, 3) := by decide +kernel
theorem dX12_termOf_15 : decode cX12_termOf 15 = .ok (.iload 4, 2) := by decide +kernel
theorem dX12_termOf_17 : decode cX12_termOf 17 = .ok (.iaload, 1) := by decide +kernel
theorem dX12_termOf_18 : decode cX12_termOf 18 = .ok (.istore 5, 2) := by decide +kernel
theorem dX12_termOf_20 : decode cX12_termOf 20 = .ok (.iload 5, 2) := by decide +kernel
theorem dX12_termOf_22 : decode cX12_termOf 22 = .ok (.iconst 2, 1) := by decide +kernel
theorem dX12_termOf_23 : decode cX12_termOf 23 = .ok (.if_icmp .ge 42, 3) := by decide +kernel
theorem dX12_termOf_26 : decode cX12_termOf 26 = .ok (.aload_n 0, 1) := by decide +kernel
theorem dX12_termOf_27 : decode cX12_termOf 27 = .ok (.getfield 107, 3) := by decide +kernel
theorem dX12_termOf_30 : decode cX12_termOf 30 = .ok (.iload_n 3, 1) := by decide +kernel
theorem dX12_termOf_31 : decode cX12_termOf 31 = .ok (.iload 5, 2) := by decide +kernel
theorem dX12_termOf_33 : decode cX12_termOf 33 = .ok (.ifCond .ne 13, 3) := by decide +kernel
theorem dX12_termOf_36 : decode cX12_termOf 36 = .ok (.aload_n 0, 1) := by decide +kernel
theorem dX12_termOf_37 : decode cX12_termOf 37 = .ok (.getfield 98, 3) := by decide +kernel
theorem dX12_termOf_40 : decode cX12_termOf 40 = .ok (.iload 4, 2) := by decide +kernel
theorem dX12_termOf_42 : decode cX12_termOf 42 = .ok (.iaload, 1) := by decide +kernel
theorem dX12_termOf_43 : decode cX12_termOf 43 = .ok (.goto 15, 3) := by decide +kernel
theorem dX12_termOf_46 : decode cX12_termOf 46 = .ok (.aload_n 0, 1) := by decide +kernel
theorem dX12_termOf_47 : decode cX12_termOf 47 = .ok (.getfield 104, 3) := by decide +kernel
theorem dX12_termOf_50 : decode cX12_termOf 50 = .ok (.aload_n 0, 1) := by decide +kernel
theorem dX12_termOf_51 : decode cX12_termOf 51 = .ok (.getfield 98, 3) := by decide +kernel
theorem dX12_termOf_54 : decode cX12_termOf 54 = .ok (.iload 4, 2) := by decide +kernel
theorem dX12_termOf_56 : decode cX12_termOf 56 = .ok (.iaload, 1) := by decide +kernel
theorem dX12_termOf_57 : decode cX12_termOf 57 = .ok (.iaload, 1) := by decide +kernel
theorem dX12_termOf_58 : decode cX12_termOf 58 = .ok (.iastore, 1) := by decide +kernel
theorem dX12_termOf_59 : decode cX12_termOf 59 = .ok (.iinc 3 1, 3) := by decide +kernel
theorem dX12_termOf_62 : decode cX12_termOf 62 = .ok (.goto 97, 3) := by decide +kernel
theorem dX12_termOf_65 : decode cX12_termOf 65 = .ok (.iinc 3 (-1), 3) := by decide +kernel
theorem dX12_termOf_68 : decode cX12_termOf 68 = .ok (.aload_n 0, 1) := by decide +kernel
theorem dX12_termOf_69 : decode cX12_termOf 69 = .ok (.getfield 107, 3) := by decide +kernel
theorem dX12_termOf_72 : decode cX12_termOf 72 = .ok (.iload_n 3, 1) := by decide +kernel
theorem dX12_termOf_73 : decode cX12_termOf 73 = .ok (.iconst 1, 1) := by decide +kernel
theorem dX12_termOf_74 : decode cX12_termOf 74 = .ok (.isub, 1) := by decide +kernel
theorem dX12_termOf_75 : decode cX12_termOf 75 = .ok (.iaload, 1) := by decide +kernel
theorem dX12_termOf_76 : decode cX12_termOf 76 = .ok (.istore 6, 2) := by decide +kernel
theorem dX12_termOf_78 : decode cX12_termOf 78 = .ok (.aload_n 0, 1) := by decide +kernel
theorem dX12_termOf_79 : decode cX12_termOf 79 = .ok (.getfield 107, 3) := by decide +kernel
theorem dX12_termOf_82 : decode cX12_termOf 82 = .ok (.iload_n 3, 1) := by decide +kernel
theorem dX12_termOf_83 : decode cX12_termOf 83 = .ok (.iaload, 1) := by decide +kernel
theorem dX12_termOf_84 : decode cX12_termOf 84 = .ok (.istore 7, 2) := by decide +kernel
theorem dX12_termOf_86 : decode cX12_termOf 86 = .ok (.iload 5, 2) := by decide +kernel
theorem dX12_termOf_88 : decode cX12_termOf 88 = .ok (.iconst 5, 1) := by decide +kernel
theorem dX12_termOf_89 : decode cX12_termOf 89 = .ok (.if_icmp .ne 15, 3) := by decide +kernel
theorem dX12_termOf_92 : decode cX12_termOf 92 = .ok (.iload 7, 2) := by decide +kernel
theorem dX12_termOf_94 : decode cX12_termOf 94 = .ok (.ifCond .ne 10, 3) := by decide +kernel
theorem dX12_termOf_97 : decode cX12_termOf 97 = .ok (.aload_n 0, 1) := by decide +kernel
theorem dX12_termOf_98 : decode cX12_termOf 98 = .ok (.iconst 1, 1) := by decide +kernel
theorem dX12_termOf_99 : decode cX12_termOf 99 = .ok (.putfield 302, 3) := by decide +kernel
theorem dX12_termOf_102 : decode cX12_termOf 102 = .ok (.iconst 0, 1) := by decide +kernel
theorem dX12_termOf_103 : decode cX12_termOf 103 = .ok (.ireturn, 1) := by decide +kernel
theorem dX12_termOf_104 : decode cX12_termOf 104 = .ok (.aload_n 0, 1) := by decide +kernel
theorem dX12_termOf_105 : decode cX12_termOf 105 = .ok (.getfield 107, 3) := by decide +kernel
theorem dX12_termOf_108 : decode cX12_termOf 108 = .ok (.iload_n 3, 1) := by decide +kernel
theorem dX12_termOf_109 : decode cX12_termOf 109 = .ok (.iconst 1, 1) := by decide +kernel
theorem dX12_termOf_110 : decode cX12_termOf 110 = .ok (.isub, 1) := by decide +kernel
theorem dX12_termOf_111 : decode cX12_termOf 111 = .ok (.iload 5, 2) := by decide +kernel
theorem dX12_termOf_113 : decode cX12_termOf 113 = .ok (.iconst 2, 1) := by decide +kernel
theorem dX12_termOf_114 : decode cX12_termOf 114 = .ok (.if_icmp .ne 11, 3) := by decide +kernel
theorem dX12_termOf_117 : decode cX12_termOf 117 = .ok (.iload 6, 2) := by decide +kernel
theorem dX12_termOf_119 : decode cX12_termOf 119 = .ok (.iload 7, 2) := by decide +kernel
theorem dX12_termOf_121 : decode cX12_termOf 121 = .ok (.iadd, 1) := by decide +kernel
theorem dX12_termOf_122 : decode cX12_termOf 122 = .ok (.goto 36, 3) := by decide +kernel
theorem dX12_termOf_125 : decode cX12_termOf 125 = .ok (.iload 5, 2) := by decide +kernel
theorem dX12_termOf_127 : decode cX12_termOf 127 = .ok (.iconst 3, 1) := by decide +kernel
theorem dX12_termOf_128 : decode cX12_termOf 128 = .ok (.if_icmp .ne 11, 3) := by decide +kernel
theorem dX12_termOf_131 : decode cX12_termOf 131 = .ok (.iload 6, 2) := by decide +kernel
theorem dX12_termOf_133 : decode cX12_termOf 133 = .ok (.iload 7, 2) := by decide +kernel
theorem dX12_termOf_135 : decode cX12_termOf 135 = .ok (.isub, 1) := by decide +kernel
theorem dX12_termOf_136 : decode cX12_termOf 136 = .ok (.goto 22, 3) := by decide +kernel
theorem dX12_termOf_139 : decode cX12_termOf 139 = .ok (.iload 5, 2) := by decide +kernel
theorem dX12_termOf_141 : decode cX12_termOf 141 = .ok (.iconst 4, 1) := by decide +kernel
theorem dX12_termOf_142 : decode cX12_termOf 142 = .ok (.if_icmp .ne 11, 3) := by decide +kernel
theorem dX12_termOf_145 : decode cX12_termOf 145 = .ok (.iload 6, 2) := by decide +kernel
theorem dX12_termOf_147 : decode cX12_termOf 147 = .ok (.iload 7, 2) := by decide +kernel
theorem dX12_termOf_149 : decode cX12_termOf 149 = .ok (.imul, 1) := by decide +kernel
theorem dX12_termOf_150 : decode cX12_termOf 150 = .ok (.goto 8, 3) := by decide +kernel
theorem dX12_termOf_153 : decode cX12_termOf 153 = .ok (.iload 6, 2) := by decide +kernel
theorem dX12_termOf_155 : decode cX12_termOf 155 = .ok (.iload 7, 2) := by decide +kernel
theorem dX12_termOf_157 : decode cX12_termOf 157 = .ok (.idiv, 1) := by decide +kernel
theorem dX12_termOf_158 : decode cX12_termOf 158 = .ok (.iastore, 1) := by decide +kernel
theorem dX12_termOf_159 : decode cX12_termOf 159 = .ok (.iinc 4 1, 3) := by decide +kernel
theorem dX12_termOf_162 : decode cX12_termOf 162 = .ok (.goto (-157), 3) := by decide +kernel
theorem dX12_termOf_165 : decode cX12_termOf 165 = .ok (.aload_n 0, 1) := by decide +kernel
theorem dX12_termOf_166 : decode cX12_termOf 166 = .ok (.getfield 107, 3) := by decide +kernel
theorem dX12_termOf_169 : decode cX12_termOf 169 = .ok (.iconst 0, 1) := by decide +kernel
theorem dX12_termOf_170 : decode cX12_termOf 170 = .ok (.iaload, 1) := by decide +kernel
theorem dX12_termOf_171 : decode cX12_termOf 171 = .ok (.ireturn, 1) := by decide +kernel
theorem dX12_lawTells_0 : decode cX12_lawTells 0 = .ok (.iconst 4, 1) := by decide +kernel
theorem dX12_lawTells_1 : decode cX12_lawTells 1 = .ok (.aload_n 0, 1) := by decide +kernel
theorem dX12_lawTells_2 : decode cX12_lawTells 2 = .ok (.getfield 233, 3) := by decide +kernel
theorem dX12_lawTells_5 : decode cX12_lawTells 5 = .ok (.imul, 1) := by decide +kernel
theorem dX12_lawTells_6 : decode cX12_lawTells 6 = .ok (.iload_n 1, 1) := by decide +kernel
theorem dX12_lawTells_7 : decode cX12_lawTells 7 = .ok (.iadd, 1) := by decide +kernel
theorem dX12_lawTells_8 : decode cX12_lawTells 8 = .ok (.istore_n 3, 1) := by decide +kernel
theorem dX12_lawTells_9 : decode cX12_lawTells 9 = .ok (.aload_n 0, 1) := by decide +kernel
theorem dX12_lawTells_10 : decode cX12_lawTells 10 = .ok (.getfield 73, 3) := by decide +kernel
theorem dX12_lawTells_13 : decode cX12_lawTells 13 = .ok (.iload_n 3, 1) := by decide +kernel
theorem dX12_lawTells_14 : decode cX12_lawTells 14 = .ok (.iaload, 1) := by decide +kernel
theorem dX12_lawTells_15 : decode cX12_lawTells 15 = .ok (.aload_n 0, 1) := by decide +kernel
theorem dX12_lawTells_16 : decode cX12_lawTells 16 = .ok (.getfield 76, 3) := by decide +kernel
theorem dX12_lawTells_19 : decode cX12_lawTells 19 = .ok (.iload_n 3, 1) := by decide +kernel
theorem dX12_lawTells_20 : decode cX12_lawTells 20 = .ok (.iaload, 1) := by decide +kernel
theorem dX12_lawTells_21 : decode cX12_lawTells 21 = .ok (.if_icmp .ne 5, 3) := by decide +kernel
theorem dX12_lawTells_24 : decode cX12_lawTells 24 = .ok (.iload_n 2, 1) := by decide +kernel
theorem dX12_lawTells_25 : decode cX12_lawTells 25 = .ok (.ireturn, 1) := by decide +kernel
theorem dX12_lawTells_26 : decode cX12_lawTells 26 = .ok (.aload_n 0, 1) := by decide +kernel
theorem dX12_lawTells_27 : decode cX12_lawTells 27 = .ok (.iconst 0, 1) := by decide +kernel
theorem dX12_lawTells_28 : decode cX12_lawTells 28 = .ok (.putfield 302, 3) := by decide +kernel
theorem dX12_lawTells_31 : decode cX12_lawTells 31 = .ok (.aload_n 0, 1) := by decide +kernel
theorem dX12_lawTells_32 : decode cX12_lawTells 32 = .ok (.getfield 73, 3) := by decide +kernel
theorem dX12_lawTells_35 : decode cX12_lawTells 35 = .ok (.iload_n 3, 1) := by decide +kernel
theorem dX12_lawTells_36 : decode cX12_lawTells 36 = .ok (.iaload, 1) := by decide +kernel
theorem dX12_lawTells_37 : decode cX12_lawTells 37 = .ok (.istore 4, 2) := by decide +kernel
theorem dX12_lawTells_39 : decode cX12_lawTells 39 = .ok (.iload 4, 2) := by decide +kernel
theorem dX12_lawTells_41 : decode cX12_lawTells 41 = .ok (.aload_n 0, 1) := by decide +kernel
theorem dX12_lawTells_42 : decode cX12_lawTells 42 = .ok (.getfield 76, 3) := by decide +kernel
theorem dX12_lawTells_45 : decode cX12_lawTells 45 = .ok (.iload_n 3, 1) := by decide +kernel
theorem dX12_lawTells_46 : decode cX12_lawTells 46 = .ok (.iaload, 1) := by decide +kernel
theorem dX12_lawTells_47 : decode cX12_lawTells 47 = .ok (.if_icmp .ge 112, 3) := by decide +kernel
theorem dX12_lawTells_50 : decode cX12_lawTells 50 = .ok (.aload_n 0, 1) := by decide +kernel
theorem dX12_lawTells_51 : decode cX12_lawTells 51 = .ok (.getfield 79, 3) := by decide +kernel
theorem dX12_lawTells_54 : decode cX12_lawTells 54 = .ok (.iload 4, 2) := by decide +kernel
theorem dX12_lawTells_56 : decode cX12_lawTells 56 = .ok (.baload, 1) := by decide +kernel
theorem dX12_lawTells_57 : decode cX12_lawTells 57 = .ok (.ifCond .eq 62, 3) := by decide +kernel
theorem dX12_lawTells_60 : decode cX12_lawTells 60 = .ok (.aload_n 0, 1) := by decide +kernel
theorem dX12_lawTells_61 : decode cX12_lawTells 61 = .ok (.aload_n 0, 1) := by decide +kernel
theorem dX12_lawTells_62 : decode cX12_lawTells 62 = .ok (.getfield 83, 3) := by decide +kernel
theorem dX12_lawTells_65 : decode cX12_lawTells 65 = .ok (.iload 4, 2) := by decide +kernel
theorem dX12_lawTells_67 : decode cX12_lawTells 67 = .ok (.iaload, 1) := by decide +kernel
theorem dX12_lawTells_68 : decode cX12_lawTells 68 = .ok (.aload_n 0, 1) := by decide +kernel
theorem dX12_lawTells_69 : decode cX12_lawTells 69 = .ok (.getfield 86, 3) := by decide +kernel
theorem dX12_lawTells_72 : decode cX12_lawTells 72 = .ok (.iload 4, 2) := by decide +kernel
theorem dX12_lawTells_74 : decode cX12_lawTells 74 = .ok (.iaload, 1) := by decide +kernel
theorem dX12_lawTells_75 : decode cX12_lawTells 75 = .ok (.invokevirtual 321, 3) := by decide +kernel
theorem dX12_lawTells_78 : decode cX12_lawTells 78 = .ok (.istore 5, 2) := by decide +kernel
theorem dX12_lawTells_80 : decode cX12_lawTells 80 = .ok (.aload_n 0, 1) := by decide +kernel
theorem dX12_lawTells_81 : decode cX12_lawTells 81 = .ok (.aload_n 0, 1) := by decide +kernel
theorem dX12_lawTells_82 : decode cX12_lawTells 82 = .ok (.getfield 86, 3) := by decide +kernel
theorem dX12_lawTells_85 : decode cX12_lawTells 85 = .ok (.iload 4, 2) := by decide +kernel
theorem dX12_lawTells_87 : decode cX12_lawTells 87 = .ok (.iaload, 1) := by decide +kernel
theorem dX12_lawTells_88 : decode cX12_lawTells 88 = .ok (.aload_n 0, 1) := by decide +kernel
theorem dX12_lawTells_89 : decode cX12_lawTells 89 = .ok (.getfield 89, 3) := by decide +kernel
theorem dX12_lawTells_92 : decode cX12_lawTells 92 = .ok (.iload 4, 2) := by decide +kernel
theorem dX12_lawTells_94 : decode cX12_lawTells 94 = .ok (.iaload, 1) := by decide +kernel
theorem dX12_lawTells_95 : decode cX12_lawTells 95 = .ok (.invokevirtual 321, 3) := by decide +kernel
theorem dX12_lawTells_98 : decode cX12_lawTells 98 = .ok (.istore 6, 2) := by decide +kernel
theorem dX12_lawTells_100 : decode cX12_lawTells 100 = .ok (.aload_n 0, 1) := by decide +kernel
theorem dX12_lawTells_101 : decode cX12_lawTells 101 = .ok (.getfield 302, 3) := by decide +kernel
theorem dX12_lawTells_104 : decode cX12_lawTells 104 = .ok (.ifCond .eq 5, 3) := by decide +kernel
theorem dX12_lawTells_107 : decode cX12_lawTells 107 = .ok (.iconst 0, 1) := by decide +kernel
theorem dX12_lawTells_108 : decode cX12_lawTells 108 = .ok (.ireturn, 1) := by decide +kernel
theorem dX12_lawTells_109 : decode cX12_lawTells 109 = .ok (.iload 5, 2) := by decide +kernel
theorem dX12_lawTells_111 : decode cX12_lawTells 111 = .ok (.iload 6, 2) := by decide +kernel
theorem dX12_lawTells_113 : decode cX12_lawTells 113 = .ok (.if_icmp .lt 6, 3) := by decide +kernel
theorem dX12_lawTells_116 : decode cX12_lawTells 116 = .ok (.goto 37, 3) := by decide +kernel
theorem dX12_lawTells_119 : decode cX12_lawTells 119 = .ok (.aload_n 0, 1) := by decide +kernel
theorem dX12_lawTells_120 : decode cX12_lawTells 120 = .ok (.aload_n 0, 1) := by decide +kernel
theorem dX12_lawTells_121 : decode cX12_lawTells 121 = .ok (.getfield 89, 3) := by decide +kernel
theorem dX12_lawTells_124 : decode cX12_lawTells 124 = .ok (.iload 4, 2) := by decide +kernel
theorem dX12_lawTells_126 : decode cX12_lawTells 126 = .ok (.iaload, 1) := by decide +kernel
theorem dX12_lawTells_127 : decode cX12_lawTells 127 = .ok (.aload_n 0, 1) := by decide +kernel
theorem dX12_lawTells_128 : decode cX12_lawTells 128 = .ok (.getfield 92, 3) := by decide +kernel
theorem dX12_lawTells_131 : decode cX12_lawTells 131 = .ok (.iload 4, 2) := by decide +kernel
theorem dX12_lawTells_133 : decode cX12_lawTells 133 = .ok (.iaload, 1) := by decide +kernel
theorem dX12_lawTells_134 : decode cX12_lawTells 134 = .ok (.invokevirtual 321, 3) := by decide +kernel
theorem dX12_lawTells_137 : decode cX12_lawTells 137 = .ok (.istore 5, 2) := by decide +kernel
theorem dX12_lawTells_139 : decode cX12_lawTells 139 = .ok (.aload_n 0, 1) := by decide +kernel
theorem dX12_lawTells_140 : decode cX12_lawTells 140 = .ok (.getfield 302, 3) := by decide +kernel
theorem dX12_lawTells_143 : decode cX12_lawTells 143 = .ok (.ifCond .eq 7, 3) := by decide +kernel
theorem dX12_lawTells_146 : decode cX12_lawTells 146 = .ok (.iconst 0, 1) := by decide +kernel
theorem dX12_lawTells_147 : decode cX12_lawTells 147 = .ok (.goto 5, 3) := by decide +kernel
theorem dX12_lawTells_150 : decode cX12_lawTells 150 = .ok (.iload 5, 2) := by decide +kernel
theorem dX12_lawTells_152 : decode cX12_lawTells 152 = .ok (.ireturn, 1) := by decide +kernel
theorem dX12_lawTells_153 : decode cX12_lawTells 153 = .ok (.iinc 4 1, 3) := by decide +kernel
theorem dX12_lawTells_156 : decode cX12_lawTells 156 = .ok (.goto (-117), 3) := by decide +kernel
theorem dX12_lawTells_159 : decode cX12_lawTells 159 = .ok (.iconst 0, 1) := by decide +kernel
theorem dX12_lawTells_160 : decode cX12_lawTells 160 = .ok (.ireturn, 1) := by decide +kernel
theorem dX12_looks_0 : decode cX12_looks 0 = .ok (.iconst 0, 1) := by decide +kernel
theorem dX12_looks_1 : decode cX12_looks 1 = .ok (.istore_n 1, 1) := by decide +kernel
theorem dX12_looks_2 : decode cX12_looks 2 = .ok (.iload_n 1, 1) := by decide +kernel
theorem dX12_looks_3 : decode cX12_looks 3 = .ok (.bipush 9, 2) := by decide +kernel
theorem dX12_looks_5 : decode cX12_looks 5 = .ok (.if_icmp .ge 16, 3) := by decide +kernel
theorem dX12_looks_8 : decode cX12_looks 8 = .ok (.aload_n 0, 1) := by decide +kernel
theorem dX12_looks_9 : decode cX12_looks 9 = .ok (.getfield 104, 3) := by decide +kernel
theorem dX12_looks_12 : decode cX12_looks 12 = .ok (.iload_n 1, 1) := by decide +kernel
theorem dX12_looks_13 : decode cX12_looks 13 = .ok (.iconst 0, 1) := by decide +kernel
theorem dX12_looks_14 : decode cX12_looks 14 = .ok (.iastore, 1) := by decide +kernel
theorem dX12_looks_15 : decode cX12_looks 15 = .ok (.iinc 1 1, 3) := by decide +kernel
theorem dX12_looks_18 : decode cX12_looks 18 = .ok (.goto (-16), 3) := by decide +kernel
theorem dX12_looks_21 : decode cX12_looks 21 = .ok (.aload_n 0, 1) := by decide +kernel
theorem dX12_looks_22 : decode cX12_looks 22 = .ok (.getfield 104, 3) := by decide +kernel
theorem dX12_looks_25 : decode cX12_looks 25 = .ok (.iconst 2, 1) := by decide +kernel
theorem dX12_looks_26 : decode cX12_looks 26 = .ok (.aload_n 0, 1) := by decide +kernel
theorem dX12_looks_27 : decode cX12_looks 27 = .ok (.getfield 113, 3) := by decide +kernel
theorem dX12_looks_30 : decode cX12_looks 30 = .ok (.bipush 18, 2) := by decide +kernel
theorem dX12_looks_32 : decode cX12_looks 32 = .ok (.iaload, 1) := by decide +kernel
theorem dX12_looks_33 : decode cX12_looks 33 = .ok (.iastore, 1) := by decide +kernel
theorem dX12_looks_34 : decode cX12_looks 34 = .ok (.aload_n 0, 1) := by decide +kernel
theorem dX12_looks_35 : decode cX12_looks 35 = .ok (.getfield 104, 3) := by decide +kernel
theorem dX12_looks_38 : decode cX12_looks 38 = .ok (.iconst 3, 1) := by decide +kernel
theorem dX12_looks_39 : decode cX12_looks 39 = .ok (.aload_n 0, 1) := by decide +kernel
theorem dX12_looks_40 : decode cX12_looks 40 = .ok (.getfield 113, 3) := by decide +kernel
theorem dX12_looks_43 : decode cX12_looks 43 = .ok (.bipush 19, 2) := by decide +kernel
theorem dX12_looks_45 : decode cX12_looks 45 = .ok (.iaload, 1) := by decide +kernel
theorem dX12_looks_46 : decode cX12_looks 46 = .ok (.iastore, 1) := by decide +kernel
theorem dX12_looks_47 : decode cX12_looks 47 = .ok (.aload_n 0, 1) := by decide +kernel
theorem dX12_looks_48 : decode cX12_looks 48 = .ok (.getfield 104, 3) := by decide +kernel
theorem dX12_looks_51 : decode cX12_looks 51 = .ok (.bipush 6, 2) := by decide +kernel
theorem dX12_looks_53 : decode cX12_looks 53 = .ok (.aload_n 0, 1) := by decide +kernel
theorem dX12_looks_54 : decode cX12_looks 54 = .ok (.getfield 113, 3) := by decide +kernel
theorem dX12_looks_57 : decode cX12_looks 57 = .ok (.bipush 20, 2) := by decide +kernel
theorem dX12_looks_59 : decode cX12_looks 59 = .ok (.iaload, 1) := by decide +kernel
theorem dX12_looks_60 : decode cX12_looks 60 = .ok (.iastore, 1) := by decide +kernel
theorem dX12_looks_61 : decode cX12_looks 61 = .ok (.return_, 1) := by decide +kernel
theorem dX12_within_0 : decode cX12_within 0 = .ok (.iload_n 0, 1) := by decide +kernel
theorem dX12_within_1 : decode cX12_within 1 = .ok (.iload_n 1, 1) := by decide +kernel
theorem dX12_within_2 : decode cX12_within 2 = .ok (.if_icmp .ge 7, 3) := by decide +kernel
theorem dX12_within_5 : decode cX12_within 5 = .ok (.iload_n 1, 1) := by decide +kernel
theorem dX12_within_6 : decode cX12_within 6 = .ok (.goto 13, 3) := by decide +kernel
theorem dX12_within_9 : decode cX12_within 9 = .ok (.iload_n 0, 1) := by decide +kernel
theorem dX12_within_10 : decode cX12_within 10 = .ok (.iload_n 2, 1) := by decide +kernel
theorem dX12_within_11 : decode cX12_within 11 = .ok (.if_icmp .le 7, 3) := by decide +kernel
theorem dX12_within_14 : decode cX12_within 14 = .ok (.iload_n 2, 1) := by decide +kernel
theorem dX12_within_15 : decode cX12_within 15 = .ok (.goto 4, 3) := by decide +kernel
theorem dX12_within_18 : decode cX12_within 18 = .ok (.iload_n 0, 1) := by decide +kernel
theorem dX12_within_19 : decode cX12_within 19 = .ok (.ireturn, 1) := by decide +kernel
theorem dX12_coughsOf_0 : decode cX12_coughsOf 0 = .ok (.aload_n 0, 1) := by decide +kernel
theorem dX12_coughsOf_1 : decode cX12_coughsOf 1 = .ok (.invokevirtual 324, 3) := by decide +kernel
theorem dX12_coughsOf_4 : decode cX12_coughsOf 4 = .ok (.aload_n 0, 1) := by decide +kernel
theorem dX12_coughsOf_5 : decode cX12_coughsOf 5 = .ok (.getfield 104, 3) := by decide +kernel
theorem dX12_coughsOf_8 : decode cX12_coughsOf 8 = .ok (.iconst 0, 1) := by decide +kernel
theorem dX12_coughsOf_9 : decode cX12_coughsOf 9 = .ok (.iload_n 1, 1) := by decide +kernel
theorem dX12_coughsOf_10 : decode cX12_coughsOf 10 = .ok (.iastore, 1) := by decide +kernel
theorem dX12_coughsOf_11 : decode cX12_coughsOf 11 = .ok (.aload_n 0, 1) := by decide +kernel
theorem dX12_coughsOf_12 : decode cX12_coughsOf 12 = .ok (.getfield 104, 3) := by decide +kernel
theorem dX12_coughsOf_15 : decode cX12_coughsOf 15 = .ok (.iconst 1, 1) := by decide +kernel
theorem dX12_coughsOf_16 : decode cX12_coughsOf 16 = .ok (.aload_n 0, 1) := by decide +kernel
theorem dX12_coughsOf_17 : decode cX12_coughsOf 17 = .ok (.getfield 113, 3) := by decide +kernel
theorem dX12_coughsOf_20 : decode cX12_coughsOf 20 = .ok (.iload_n 1, 1) := by decide +kernel
theorem dX12_coughsOf_21 : decode cX12_coughsOf 21 = .ok (.iaload, 1) := by decide +kernel
theorem dX12_coughsOf_22 : decode cX12_coughsOf 22 = .ok (.iastore, 1) := by decide +kernel
theorem dX12_coughsOf_23 : decode cX12_coughsOf 23 = .ok (.aload_n 0, 1) := by decide +kernel
theorem dX12_coughsOf_24 : decode cX12_coughsOf 24 = .ok (.iconst 0, 1) := by decide +kernel
theorem dX12_coughsOf_25 : decode cX12_coughsOf 25 = .ok (.iconst 1, 1) := by decide +kernel
theorem dX12_coughsOf_26 : decode cX12_coughsOf 26 = .ok (.invokevirtual 327, 3) := by decide +kernel
theorem dX12_coughsOf_29 : decode cX12_coughsOf 29 = .ok (.iconst 0, 1) := by decide +kernel
theorem dX12_coughsOf_30 : decode cX12_coughsOf 30 = .ok (.iconst 4, 1) := by decide +kernel
theorem dX12_coughsOf_31 : decode cX12_coughsOf 31 = .ok (.invokestatic 330, 3) := by decide +kernel
theorem dX12_coughsOf_34 : decode cX12_coughsOf 34 = .ok (.ireturn, 1) := by decide +kernel
theorem dX12_looksAt_0 : decode cX12_looksAt 0 = .ok (.aload_n 0, 1) := by decide +kernel
theorem dX12_looksAt_1 : decode cX12_looksAt 1 = .ok (.invokevirtual 324, 3) := by decide +kernel
theorem dX12_looksAt_4 : decode cX12_looksAt 4 = .ok (.aload_n 0, 1) := by decide +kernel
theorem dX12_looksAt_5 : decode cX12_looksAt 5 = .ok (.getfield 104, 3) := by decide +kernel
theorem dX12_looksAt_8 : decode cX12_looksAt 8 = .ok (.iconst 4, 1) := by decide +kernel
theorem dX12_looksAt_9 : decode cX12_looksAt 9 = .ok (.aload_n 0, 1) := by decide +kernel
theorem dX12_looksAt_10 : decode cX12_looksAt 10 = .ok (.getfield 52, 3) := by decide +kernel
theorem dX12_looksAt_13 : decode cX12_looksAt 13 = .ok (.iconst 5, 1) := by decide +kernel
theorem dX12_looksAt_14 : decode cX12_looksAt 14 = .ok (.aload_n 0, 1) := by decide +kernel
theorem dX12_looksAt_15 : decode cX12_looksAt 15 = .ok (.getfield 233, 3) := by decide +kernel
theorem dX12_looksAt_18 : decode cX12_looksAt 18 = .ok (.imul, 1) := by decide +kernel
theorem dX12_looksAt_19 : decode cX12_looksAt 19 = .ok (.iload_n 1, 1) := by decide +kernel
theorem dX12_looksAt_20 : decode cX12_looksAt 20 = .ok (.iadd, 1) := by decide +kernel
theorem dX12_looksAt_21 : decode cX12_looksAt 21 = .ok (.iaload, 1) := by decide +kernel
theorem dX12_looksAt_22 : decode cX12_looksAt 22 = .ok (.iastore, 1) := by decide +kernel
theorem dX12_looksAt_23 : decode cX12_looksAt 23 = .ok (.aload_n 0, 1) := by decide +kernel
theorem dX12_looksAt_24 : decode cX12_looksAt 24 = .ok (.getfield 104, 3) := by decide +kernel
theorem dX12_looksAt_27 : decode cX12_looksAt 27 = .ok (.iconst 5, 1) := by decide +kernel
theorem dX12_looksAt_28 : decode cX12_looksAt 28 = .ok (.aload_n 0, 1) := by decide +kernel
theorem dX12_looksAt_29 : decode cX12_looksAt 29 = .ok (.getfield 55, 3) := by decide +kernel
theorem dX12_looksAt_32 : decode cX12_looksAt 32 = .ok (.iconst 5, 1) := by decide +kernel
theorem dX12_looksAt_33 : decode cX12_looksAt 33 = .ok (.aload_n 0, 1) := by decide +kernel
theorem dX12_looksAt_34 : decode cX12_looksAt 34 = .ok (.getfield 233, 3) := by decide +kernel
theorem dX12_looksAt_37 : decode cX12_looksAt 37 = .ok (.imul, 1) := by decide +kernel
theorem dX12_looksAt_38 : decode cX12_looksAt 38 = .ok (.iload_n 1, 1) := by decide +kernel
theorem dX12_looksAt_39 : decode cX12_looksAt 39 = .ok (.iadd, 1) := by decide +kernel
theorem dX12_looksAt_40 : decode cX12_looksAt 40 = .ok (.iaload, 1) := by decide +kernel
theorem dX12_looksAt_41 : decode cX12_looksAt 41 = .ok (.iastore, 1) := by decide +kernel
theorem dX12_looksAt_42 : decode cX12_looksAt 42 = .ok (.aload_n 0, 1) := by decide +kernel
theorem dX12_looksAt_43 : decode cX12_looksAt 43 = .ok (.getfield 104, 3) := by decide +kernel
theorem dX12_looksAt_46 : decode cX12_looksAt 46 = .ok (.bipush 7, 2) := by decide +kernel
theorem dX12_looksAt_48 : decode cX12_looksAt 48 = .ok (.iload_n 2, 1) := by decide +kernel
theorem dX12_looksAt_49 : decode cX12_looksAt 49 = .ok (.iastore, 1) := by decide +kernel
theorem dX12_looksAt_50 : decode cX12_looksAt 50 = .ok (.aload_n 0, 1) := by decide +kernel
theorem dX12_looksAt_51 : decode cX12_looksAt 51 = .ok (.getfield 104, 3) := by decide +kernel
theorem dX12_looksAt_54 : decode cX12_looksAt 54 = .ok (.bipush 8, 2) := by decide +kernel
theorem dX12_looksAt_56 : decode cX12_looksAt 56 = .ok (.iload_n 1, 1) := by decide +kernel
theorem dX12_looksAt_57 : decode cX12_looksAt 57 = .ok (.iastore, 1) := by decide +kernel
theorem dX12_looksAt_58 : decode cX12_looksAt 58 = .ok (.return_, 1) := by decide +kernel
theorem dX12_worthOf_0 : decode cX12_worthOf 0 = .ok (.aload_n 0, 1) := by decide +kernel
theorem dX12_worthOf_1 : decode cX12_worthOf 1 = .ok (.iload_n 1, 1) := by decide +kernel
theorem dX12_worthOf_2 : decode cX12_worthOf 2 = .ok (.iload_n 3, 1) := by decide +kernel
theorem dX12_worthOf_3 : decode cX12_worthOf 3 = .ok (.invokevirtual 333, 3) := by decide +kernel
theorem dX12_worthOf_6 : decode cX12_worthOf 6 = .ok (.aload_n 0, 1) := by decide +kernel
theorem dX12_worthOf_7 : decode cX12_worthOf 7 = .ok (.getfield 104, 3) := by decide +kernel
theorem dX12_worthOf_10 : decode cX12_worthOf 10 = .ok (.iconst 0, 1) := by decide +kernel
theorem dX12_worthOf_11 : decode cX12_worthOf 11 = .ok (.iload_n 2, 1) := by decide +kernel
theorem dX12_worthOf_12 : decode cX12_worthOf 12 = .ok (.iastore, 1) := by decide +kernel
theorem dX12_worthOf_13 : decode cX12_worthOf 13 = .ok (.aload_n 0, 1) := by decide +kernel
theorem dX12_worthOf_14 : decode cX12_worthOf 14 = .ok (.getfield 104, 3) := by decide +kernel
theorem dX12_worthOf_17 : decode cX12_worthOf 17 = .ok (.iconst 1, 1) := by decide +kernel
theorem dX12_worthOf_18 : decode cX12_worthOf 18 = .ok (.aload_n 0, 1) := by decide +kernel
theorem dX12_worthOf_19 : decode cX12_worthOf 19 = .ok (.getfield 113, 3) := by decide +kernel
theorem dX12_worthOf_22 : decode cX12_worthOf 22 = .ok (.iload_n 2, 1) := by decide +kernel
theorem dX12_worthOf_23 : decode cX12_worthOf 23 = .ok (.iaload, 1) := by decide +kernel
theorem dX12_worthOf_24 : decode cX12_worthOf 24 = .ok (.iastore, 1) := by decide +kernel
theorem dX12_worthOf_25 : decode cX12_worthOf 25 = .ok (.aload_n 0, 1) := by decide +kernel
theorem dX12_worthOf_26 : decode cX12_worthOf 26 = .ok (.iconst 1, 1) := by decide +kernel
theorem dX12_worthOf_27 : decode cX12_worthOf 27 = .ok (.iconst 1, 1) := by decide +kernel
theorem dX12_worthOf_28 : decode cX12_worthOf 28 = .ok (.invokevirtual 327, 3) := by decide +kernel
theorem dX12_worthOf_31 : decode cX12_worthOf 31 = .ok (.iconst 0, 1) := by decide +kernel
theorem dX12_worthOf_32 : decode cX12_worthOf 32 = .ok (.bipush 9, 2) := by decide +kernel
theorem dX12_worthOf_34 : decode cX12_worthOf 34 = .ok (.invokestatic 330, 3) := by decide +kernel
theorem dX12_worthOf_37 : decode cX12_worthOf 37 = .ok (.ireturn, 1) := by decide +kernel
theorem dX12_partBits_0 : decode cX12_partBits 0 = .ok (.iconst 0, 1) := by decide +kernel
theorem dX12_partBits_1 : decode cX12_partBits 1 = .ok (.istore_n 2, 1) := by decide +kernel
theorem dX12_partBits_2 : decode cX12_partBits 2 = .ok (.iconst 0, 1) := by decide +kernel
theorem dX12_partBits_3 : decode cX12_partBits 3 = .ok (.istore_n 3, 1) := by decide +kernel
theorem dX12_partBits_4 : decode cX12_partBits 4 = .ok (.iload_n 3, 1) := by decide +kernel
theorem dX12_partBits_5 : decode cX12_partBits 5 = .ok (.bipush 8, 2) := by decide +kernel
theorem dX12_partBits_7 : decode cX12_partBits 7 = .ok (.if_icmp .ge 28, 3) := by decide +kernel
theorem dX12_partBits_10 : decode cX12_partBits 10 = .ok (.aload_n 0, 1) := by decide +kernel
theorem dX12_partBits_11 : decode cX12_partBits 11 = .ok (.getfield 113, 3) := by decide +kernel
theorem dX12_partBits_14 : decode cX12_partBits 14 = .ok (.bipush 10, 2) := by decide +kernel
theorem dX12_partBits_16 : decode cX12_partBits 16 = .ok (.iload_n 3, 1) := by decide +kernel
theorem dX12_partBits_17 : decode cX12_partBits 17 = .ok (.iadd, 1) := by decide +kernel
theorem dX12_partBits_18 : decode cX12_partBits 18 = .ok (.iaload, 1) := by decide +kernel
theorem dX12_partBits_19 : decode cX12_partBits 19 = .ok (.iload_n 1, 1) := by decide +kernel
theorem dX12_partBits_20 : decode cX12_partBits 20 = .ok (.if_icmp .ne 9, 3) := by decide +kernel
theorem dX12_partBits_23 : decode cX12_partBits 23 = .ok (.iload_n 2, 1) := by decide +kernel
theorem dX12_partBits_24 : decode cX12_partBits 24 = .ok (.iconst 1, 1) := by decide +kernel
theorem dX12_partBits_25 : decode cX12_partBits 25 = .ok (.iload_n 3, 1) := by decide +kernel
theorem dX12_partBits_26 : decode cX12_partBits 26 = .ok (.ishl, 1) := by decide +kernel
theorem dX12_partBits_27 : decode cX12_partBits 27 = .ok (.ior, 1) := by decide +kernel
theorem dX12_partBits_28 : decode cX12_partBits 28 = .ok (.istore_n 2, 1) := by decide +kernel
theorem dX12_partBits_29 : decode cX12_partBits 29 = .ok (.iinc 3 1, 3) := by decide +kernel
theorem dX12_partBits_32 : decode cX12_partBits 32 = .ok (.goto (-28), 3) := by decide +kernel
theorem dX12_partBits_35 : decode cX12_partBits 35 = .ok (.iload_n 2, 1) := by decide +kernel
theorem dX12_partBits_36 : decode cX12_partBits 36 = .ok (.ireturn, 1) := by decide +kernel
theorem dX12_bits_0 : decode cX12_bits 0 = .ok (.iconst 0, 1) := by decide +kernel
theorem dX12_bits_1 : decode cX12_bits 1 = .ok (.istore_n 1, 1) := by decide +kernel
theorem dX12_bits_2 : decode cX12_bits 2 = .ok (.iconst 0, 1) := by decide +kernel
theorem dX12_bits_3 : decode cX12_bits 3 = .ok (.istore_n 2, 1) := by decide +kernel
theorem dX12_bits_4 : decode cX12_bits 4 = .ok (.iload_n 2, 1) := by decide +kernel
theorem dX12_bits_5 : decode cX12_bits 5 = .ok (.bipush 10, 2) := by decide +kernel
theorem dX12_bits_7 : decode cX12_bits 7 = .ok (.if_icmp .ge 17, 3) := by decide +kernel
theorem dX12_bits_10 : decode cX12_bits 10 = .ok (.iload_n 1, 1) := by decide +kernel
theorem dX12_bits_11 : decode cX12_bits 11 = .ok (.iload_n 0, 1) := by decide +kernel
theorem dX12_bits_12 : decode cX12_bits 12 = .ok (.iload_n 2, 1) := by decide +kernel
theorem dX12_bits_13 : decode cX12_bits 13 = .ok (.ishr, 1) := by decide +kernel
theorem dX12_bits_14 : decode cX12_bits 14 = .ok (.iconst 1, 1) := by decide +kernel
theorem dX12_bits_15 : decode cX12_bits 15 = .ok (.iand, 1) := by decide +kernel
theorem dX12_bits_16 : decode cX12_bits 16 = .ok (.iadd, 1) := by decide +kernel
theorem dX12_bits_17 : decode cX12_bits 17 = .ok (.istore_n 1, 1) := by decide +kernel
theorem dX12_bits_18 : decode cX12_bits 18 = .ok (.iinc 2 1, 3) := by decide +kernel
theorem dX12_bits_21 : decode cX12_bits 21 = .ok (.goto (-17), 3) := by decide +kernel
theorem dX12_bits_24 : decode cX12_bits 24 = .ok (.iload_n 1, 1) := by decide +kernel
theorem dX12_bits_25 : decode cX12_bits 25 = .ok (.ireturn, 1) := by decide +kernel
theorem dX12_rentsOf_0 : decode cX12_rentsOf 0 = .ok (.aload_n 0, 1) := by decide +kernel
theorem dX12_rentsOf_1 : decode cX12_rentsOf 1 = .ok (.iload_n 1, 1) := by decide +kernel
theorem dX12_rentsOf_2 : decode cX12_rentsOf 2 = .ok (.aload_n 0, 1) := by decide +kernel
theorem dX12_rentsOf_3 : decode cX12_rentsOf 3 = .ok (.iload_n 1, 1) := by decide +kernel
theorem dX12_rentsOf_4 : decode cX12_rentsOf 4 = .ok (.invokevirtual 336, 3) := by decide +kernel
theorem dX12_rentsOf_7 : decode cX12_rentsOf 7 = .ok (.invokestatic 339, 3) := by decide +kernel
theorem dX12_rentsOf_10 : decode cX12_rentsOf 10 = .ok (.invokevirtual 333, 3) := by decide +kernel
theorem dX12_rentsOf_13 : decode cX12_rentsOf 13 = .ok (.aload_n 0, 1) := by decide +kernel
theorem dX12_rentsOf_14 : decode cX12_rentsOf 14 = .ok (.iconst 2, 1) := by decide +kernel
theorem dX12_rentsOf_15 : decode cX12_rentsOf 15 = .ok (.aload_n 0, 1) := by decide +kernel
theorem dX12_rentsOf_16 : decode cX12_rentsOf 16 = .ok (.getfield 104, 3) := by decide +kernel
theorem dX12_rentsOf_19 : decode cX12_rentsOf 19 = .ok (.iconst 4, 1) := by decide +kernel
theorem dX12_rentsOf_20 : decode cX12_rentsOf 20 = .ok (.iaload, 1) := by decide +kernel
theorem dX12_rentsOf_21 : decode cX12_rentsOf 21 = .ok (.invokevirtual 327, 3) := by decide +kernel
theorem dX12_rentsOf_24 : decode cX12_rentsOf 24 = .ok (.iconst 0, 1) := by decide +kernel
theorem dX12_rentsOf_25 : decode cX12_rentsOf 25 = .ok (.bipush 99, 2) := by decide +kernel
theorem dX12_rentsOf_27 : decode cX12_rentsOf 27 = .ok (.invokestatic 330, 3) := by decide +kernel
theorem dX12_rentsOf_30 : decode cX12_rentsOf 30 = .ok (.ireturn, 1) := by decide +kernel
theorem dX12_curesOf_0 : decode cX12_curesOf 0 = .ok (.aload_n 0, 1) := by decide +kernel
theorem dX12_curesOf_1 : decode cX12_curesOf 1 = .ok (.iload_n 1, 1) := by decide +kernel
theorem dX12_curesOf_2 : decode cX12_curesOf 2 = .ok (.aload_n 0, 1) := by decide +kernel
theorem dX12_curesOf_3 : decode cX12_curesOf 3 = .ok (.iload_n 1, 1) := by decide +kernel
theorem dX12_curesOf_4 : decode cX12_curesOf 4 = .ok (.invokevirtual 336, 3) := by decide +kernel
theorem dX12_curesOf_7 : decode cX12_curesOf 7 = .ok (.invokestatic 339, 3) := by decide +kernel
theorem dX12_curesOf_10 : decode cX12_curesOf 10 = .ok (.invokevirtual 333, 3) := by decide +kernel
theorem dX12_curesOf_13 : decode cX12_curesOf 13 = .ok (.aload_n 0, 1) := by decide +kernel
theorem dX12_curesOf_14 : decode cX12_curesOf 14 = .ok (.iconst 3, 1) := by decide +kernel
theorem dX12_curesOf_15 : decode cX12_curesOf 15 = .ok (.iconst 0, 1) := by decide +kernel
theorem dX12_curesOf_16 : decode cX12_curesOf 16 = .ok (.invokevirtual 327, 3) := by decide +kernel
theorem dX12_curesOf_19 : decode cX12_curesOf 19 = .ok (.iconst 0, 1) := by decide +kernel
theorem dX12_curesOf_20 : decode cX12_curesOf 20 = .ok (.bipush 99, 2) := by decide +kernel
theorem dX12_curesOf_22 : decode cX12_curesOf 22 = .ok (.invokestatic 330, 3) := by decide +kernel
theorem dX12_curesOf_25 : decode cX12_curesOf 25 = .ok (.ireturn, 1) := by decide +kernel
theorem dX12_mixed_0 : decode cX12_mixed 0 = .ok (.iload_n 0, 1) := by decide +kernel
theorem dX12_mixed_1 : decode cX12_mixed 1 = .ok (.iload_n 1, 1) := by decide +kernel
theorem dX12_mixed_2 : decode cX12_mixed 2 = .ok (.ixor, 1) := by decide +kernel
theorem dX12_mixed_3 : decode cX12_mixed 3 = .ok (.ldc_w 317, 3) := by decide +kernel
theorem dX12_mixed_6 : decode cX12_mixed 6 = .ok (.imul, 1) := by decide +kernel
theorem dX12_mixed_7 : decode cX12_mixed 7 = .ok (.sipush 12345, 3) := by decide +kernel
theorem dX12_mixed_10 : decode cX12_mixed 10 = .ok (.iadd, 1) := by decide +kernel
theorem dX12_mixed_11 : decode cX12_mixed 11 = .ok (.istore_n 2, 1) := by decide +kernel
theorem dX12_mixed_12 : decode cX12_mixed 12 = .ok (.iload_n 2, 1) := by decide +kernel
theorem dX12_mixed_13 : decode cX12_mixed 13 = .ok (.iload_n 2, 1) := by decide +kernel
theorem dX12_mixed_14 : decode cX12_mixed 14 = .ok (.bipush 15, 2) := by decide +kernel
theorem dX12_mixed_16 : decode cX12_mixed 16 = .ok (.iushr, 1) := by decide +kernel
theorem dX12_mixed_17 : decode cX12_mixed 17 = .ok (.ixor, 1) := by decide +kernel
theorem dX12_mixed_18 : decode cX12_mixed 18 = .ok (.ireturn, 1) := by decide +kernel
theorem dX12_lotOf_0 : decode cX12_lotOf 0 = .ok (.aload_n 0, 1) := by decide +kernel
theorem dX12_lotOf_1 : decode cX12_lotOf 1 = .ok (.getfield 314, 3) := by decide +kernel
theorem dX12_lotOf_4 : decode cX12_lotOf 4 = .ok (.sipush 167, 3) := by decide +kernel
theorem dX12_lotOf_7 : decode cX12_lotOf 7 = .ok (.invokestatic 318, 3) := by decide +kernel
theorem dX12_lotOf_10 : decode cX12_lotOf 10 = .ok (.iload_n 1, 1) := by decide +kernel
theorem dX12_lotOf_11 : decode cX12_lotOf 11 = .ok (.invokestatic 318, 3) := by decide +kernel
theorem dX12_lotOf_14 : decode cX12_lotOf 14 = .ok (.iconst 1, 1) := by decide +kernel
theorem dX12_lotOf_15 : decode cX12_lotOf 15 = .ok (.iushr, 1) := by decide +kernel
theorem dX12_lotOf_16 : decode cX12_lotOf 16 = .ok (.iconst 4, 1) := by decide +kernel
theorem dX12_lotOf_17 : decode cX12_lotOf 17 = .ok (.irem, 1) := by decide +kernel
theorem dX12_lotOf_18 : decode cX12_lotOf 18 = .ok (.ireturn, 1) := by decide +kernel
theorem dX12_coughsNow_0 : decode cX12_coughsNow 0 = .ok (.iconst 0, 1) := by decide +kernel
theorem dX12_coughsNow_1 : decode cX12_coughsNow 1 = .ok (.istore_n 1, 1) := by decide +kernel
theorem dX12_coughsNow_2 : decode cX12_coughsNow 2 = .ok (.iconst 0, 1) := by decide +kernel
theorem dX12_coughsNow_3 : decode cX12_coughsNow 3 = .ok (.istore_n 2, 1) := by decide +kernel
theorem dX12_coughsNow_4 : decode cX12_coughsNow 4 = .ok (.iload_n 2, 1) := by decide +kernel
theorem dX12_coughsNow_5 : decode cX12_coughsNow 5 = .ok (.aload_n 0, 1) := by decide +kernel
theorem dX12_coughsNow_6 : decode cX12_coughsNow 6 = .ok (.invokevirtual 306, 3) := by decide +kernel
theorem dX12_coughsNow_9 : decode cX12_coughsNow 9 = .ok (.if_icmp .ge 39, 3) := by decide +kernel
theorem dX12_coughsNow_12 : decode cX12_coughsNow 12 = .ok (.aload_n 0, 1) := by decide +kernel
theorem dX12_coughsNow_13 : decode cX12_coughsNow 13 = .ok (.bipush 16, 2) := by decide +kernel
theorem dX12_coughsNow_15 : decode cX12_coughsNow 15 = .ok (.aload_n 0, 1) := by decide +kernel
theorem dX12_coughsNow_16 : decode cX12_coughsNow 16 = .ok (.getfield 113, 3) := by decide +kernel
theorem dX12_coughsNow_19 : decode cX12_coughsNow 19 = .ok (.bipush 20, 2) := by decide +kernel
theorem dX12_coughsNow_21 : decode cX12_coughsNow 21 = .ok (.iaload, 1) := by decide +kernel
theorem dX12_coughsNow_22 : decode cX12_coughsNow 22 = .ok (.imul, 1) := by decide +kernel
theorem dX12_coughsNow_23 : decode cX12_coughsNow 23 = .ok (.iload_n 2, 1) := by decide +kernel
theorem dX12_coughsNow_24 : decode cX12_coughsNow 24 = .ok (.iadd, 1) := by decide +kernel
theorem dX12_coughsNow_25 : decode cX12_coughsNow 25 = .ok (.invokevirtual 345, 3) := by decide +kernel
theorem dX12_coughsNow_28 : decode cX12_coughsNow 28 = .ok (.aload_n 0, 1) := by decide +kernel
theorem dX12_coughsNow_29 : decode cX12_coughsNow 29 = .ok (.iload_n 2, 1) := by decide +kernel
theorem dX12_coughsNow_30 : decode cX12_coughsNow 30 = .ok (.invokevirtual 348, 3) := by decide +kernel
theorem dX12_coughsNow_33 : decode cX12_coughsNow 33 = .ok (.if_icmp .ge 9, 3) := by decide +kernel
theorem dX12_coughsNow_36 : decode cX12_coughsNow 36 = .ok (.iload_n 1, 1) := by decide +kernel
theorem dX12_coughsNow_37 : decode cX12_coughsNow 37 = .ok (.iconst 1, 1) := by decide +kernel
theorem dX12_coughsNow_38 : decode cX12_coughsNow 38 = .ok (.iload_n 2, 1) := by decide +kernel
theorem dX12_coughsNow_39 : decode cX12_coughsNow 39 = .ok (.ishl, 1) := by decide +kernel
theorem dX12_coughsNow_40 : decode cX12_coughsNow 40 = .ok (.ior, 1) := by decide +kernel
theorem dX12_coughsNow_41 : decode cX12_coughsNow 41 = .ok (.istore_n 1, 1) := by decide +kernel
theorem dX12_coughsNow_42 : decode cX12_coughsNow 42 = .ok (.iinc 2 1, 3) := by decide +kernel
theorem dX12_coughsNow_45 : decode cX12_coughsNow 45 = .ok (.goto (-41), 3) := by decide +kernel
theorem dX12_coughsNow_48 : decode cX12_coughsNow 48 = .ok (.iload_n 1, 1) := by decide +kernel
theorem dX12_coughsNow_49 : decode cX12_coughsNow 49 = .ok (.ireturn, 1) := by decide +kernel
theorem dX12_partBy_0 : decode cX12_partBy 0 = .ok (.iconst 0, 1) := by decide +kernel
theorem dX12_partBy_1 : decode cX12_partBy 1 = .ok (.istore_n 2, 1) := by decide +kernel
theorem dX12_partBy_2 : decode cX12_partBy 2 = .ok (.iconst 0, 1) := by decide +kernel
theorem dX12_partBy_3 : decode cX12_partBy 3 = .ok (.istore_n 3, 1) := by decide +kernel
theorem dX12_partBy_4 : decode cX12_partBy 4 = .ok (.iload_n 3, 1) := by decide +kernel
theorem dX12_partBy_5 : decode cX12_partBy 5 = .ok (.iload_n 1, 1) := by decide +kernel
theorem dX12_partBy_6 : decode cX12_partBy 6 = .ok (.if_icmp .ge 17, 3) := by decide +kernel
theorem dX12_partBy_9 : decode cX12_partBy 9 = .ok (.iload_n 2, 1) := by decide +kernel
theorem dX12_partBy_10 : decode cX12_partBy 10 = .ok (.iload_n 0, 1) := by decide +kernel
theorem dX12_partBy_11 : decode cX12_partBy 11 = .ok (.iload_n 3, 1) := by decide +kernel
theorem dX12_partBy_12 : decode cX12_partBy 12 = .ok (.ishr, 1) := by decide +kernel
theorem dX12_partBy_13 : decode cX12_partBy 13 = .ok (.iconst 1, 1) := by decide +kernel
theorem dX12_partBy_14 : decode cX12_partBy 14 = .ok (.iand, 1) := by decide +kernel
theorem dX12_partBy_15 : decode cX12_partBy 15 = .ok (.iadd, 1) := by decide +kernel
theorem dX12_partBy_16 : decode cX12_partBy 16 = .ok (.istore_n 2, 1) := by decide +kernel
theorem dX12_partBy_17 : decode cX12_partBy 17 = .ok (.iinc 3 1, 3) := by decide +kernel
theorem dX12_partBy_20 : decode cX12_partBy 20 = .ok (.goto (-16), 3) := by decide +kernel
theorem dX12_partBy_23 : decode cX12_partBy 23 = .ok (.iload_n 2, 1) := by decide +kernel
theorem dX12_partBy_24 : decode cX12_partBy 24 = .ok (.bipush 7, 2) := by decide +kernel
theorem dX12_partBy_26 : decode cX12_partBy 26 = .ok (.if_icmp .le 8, 3) := by decide +kernel
theorem dX12_partBy_29 : decode cX12_partBy 29 = .ok (.bipush 7, 2) := by decide +kernel
theorem dX12_partBy_31 : decode cX12_partBy 31 = .ok (.goto 4, 3) := by decide +kernel
theorem dX12_partBy_34 : decode cX12_partBy 34 = .ok (.iload_n 2, 1) := by decide +kernel
theorem dX12_partBy_35 : decode cX12_partBy 35 = .ok (.ireturn, 1) := by decide +kernel
theorem dX12_partsBy_0 : decode cX12_partsBy 0 = .ok (.aload_n 0, 1) := by decide +kernel
theorem dX12_partsBy_1 : decode cX12_partsBy 1 = .ok (.invokevirtual 306, 3) := by decide +kernel
theorem dX12_partsBy_4 : decode cX12_partsBy 4 = .ok (.ifCond .ne 7, 3) := by decide +kernel
theorem dX12_partsBy_7 : decode cX12_partsBy 7 = .ok (.iconst 0, 1) := by decide +kernel
theorem dX12_partsBy_8 : decode cX12_partsBy 8 = .ok (.goto 15, 3) := by decide +kernel
theorem dX12_partsBy_11 : decode cX12_partsBy 11 = .ok (.iload_n 1, 1) := by decide +kernel
theorem dX12_partsBy_12 : decode cX12_partsBy 12 = .ok (.aload_n 0, 1) := by decide +kernel
theorem dX12_partsBy_13 : decode cX12_partsBy 13 = .ok (.invokevirtual 306, 3) := by decide +kernel
theorem dX12_partsBy_16 : decode cX12_partsBy 16 = .ok (.iconst 1, 1) := by decide +kernel
theorem dX12_partsBy_17 : decode cX12_partsBy 17 = .ok (.isub, 1) := by decide +kernel
theorem dX12_partsBy_18 : decode cX12_partsBy 18 = .ok (.invokestatic 342, 3) := by decide +kernel
theorem dX12_partsBy_21 : decode cX12_partsBy 21 = .ok (.iconst 1, 1) := by decide +kernel
theorem dX12_partsBy_22 : decode cX12_partsBy 22 = .ok (.iadd, 1) := by decide +kernel
theorem dX12_partsBy_23 : decode cX12_partsBy 23 = .ok (.ireturn, 1) := by decide +kernel
theorem dX12_weekGoes_0 : decode cX12_weekGoes 0 = .ok (.aload_n 0, 1) := by decide +kernel
theorem dX12_weekGoes_1 : decode cX12_weekGoes 1 = .ok (.invokevirtual 351, 3) := by decide +kernel
theorem dX12_weekGoes_4 : decode cX12_weekGoes 4 = .ok (.istore_n 1, 1) := by decide +kernel
theorem dX12_weekGoes_5 : decode cX12_weekGoes 5 = .ok (.iconst 0, 1) := by decide +kernel
theorem dX12_weekGoes_6 : decode cX12_weekGoes 6 = .ok (.istore_n 2, 1) := by decide +kernel
theorem dX12_weekGoes_7 : decode cX12_weekGoes 7 = .ok (.iload_n 2, 1) := by decide +kernel
theorem dX12_weekGoes_8 : decode cX12_weekGoes 8 = .ok (.aload_n 0, 1) := by decide +kernel
theorem dX12_weekGoes_9 : decode cX12_weekGoes 9 = .ok (.getfield 49, 3) := by decide +kernel
theorem dX12_weekGoes_12 : decode cX12_weekGoes 12 = .ok (.aload_n 0, 1) := by decide +kernel
theorem dX12_weekGoes_13 : decode cX12_weekGoes 13 = .ok (.getfield 233, 3) := by decide +kernel
theorem dX12_weekGoes_16 : decode cX12_weekGoes 16 = .ok (.iaload, 1) := by decide +kernel
theorem dX12_weekGoes_17 : decode cX12_weekGoes 17 = .ok (.if_icmp .ge 83, 3) := by decide +kernel
theorem dX12_weekGoes_20 : decode cX12_weekGoes 20 = .ok (.iconst 0, 1) := by decide +kernel
theorem dX12_weekGoes_21 : decode cX12_weekGoes 21 = .ok (.istore_n 3, 1) := by decide +kernel
theorem dX12_weekGoes_22 : decode cX12_weekGoes 22 = .ok (.iload_n 3, 1) := by decide +kernel
theorem dX12_weekGoes_23 : decode cX12_weekGoes 23 = .ok (.aload_n 0, 1) := by decide +kernel
theorem dX12_weekGoes_24 : decode cX12_weekGoes 24 = .ok (.invokevirtual 306, 3) := by decide +kernel
theorem dX12_weekGoes_27 : decode cX12_weekGoes 27 = .ok (.if_icmp .ge 50, 3) := by decide +kernel
theorem dX12_weekGoes_30 : decode cX12_weekGoes 30 = .ok (.iload_n 1, 1) := by decide +kernel
theorem dX12_weekGoes_31 : decode cX12_weekGoes 31 = .ok (.iload_n 3, 1) := by decide +kernel
theorem dX12_weekGoes_32 : decode cX12_weekGoes 32 = .ok (.invokestatic 342, 3) := by decide +kernel
theorem dX12_weekGoes_35 : decode cX12_weekGoes 35 = .ok (.istore 4, 2) := by decide +kernel
theorem dX12_weekGoes_37 : decode cX12_weekGoes 37 = .ok (.aload_n 0, 1) := by decide +kernel
theorem dX12_weekGoes_38 : decode cX12_weekGoes 38 = .ok (.getfield 113, 3) := by decide +kernel
theorem dX12_weekGoes_41 : decode cX12_weekGoes 41 = .ok (.bipush 10, 2) := by decide +kernel
theorem dX12_weekGoes_43 : decode cX12_weekGoes 43 = .ok (.iload 4, 2) := by decide +kernel
theorem dX12_weekGoes_45 : decode cX12_weekGoes 45 = .ok (.iadd, 1) := by decide +kernel
theorem dX12_weekGoes_46 : decode cX12_weekGoes 46 = .ok (.iaload, 1) := by decide +kernel
theorem dX12_weekGoes_47 : decode cX12_weekGoes 47 = .ok (.iload_n 2, 1) := by decide +kernel
theorem dX12_weekGoes_48 : decode cX12_weekGoes 48 = .ok (.if_icmp .ne 23, 3) := by decide +kernel
theorem dX12_weekGoes_51 : decode cX12_weekGoes 51 = .ok (.aload_n 0, 1) := by decide +kernel
theorem dX12_weekGoes_52 : decode cX12_weekGoes 52 = .ok (.getfield 113, 3) := by decide +kernel
theorem dX12_weekGoes_55 : decode cX12_weekGoes 55 = .ok (.bipush 23, 2) := by decide +kernel
theorem dX12_weekGoes_57 : decode cX12_weekGoes 57 = .ok (.iload_n 2, 1) := by decide +kernel
theorem dX12_weekGoes_58 : decode cX12_weekGoes 58 = .ok (.iadd, 1) := by decide +kernel
theorem dX12_weekGoes_59 : decode cX12_weekGoes 59 = .ok (.dup2, 1) := by decide +kernel
theorem dX12_weekGoes_60 : decode cX12_weekGoes 60 = .ok (.iaload, 1) := by decide +kernel
theorem dX12_weekGoes_61 : decode cX12_weekGoes 61 = .ok (.aload_n 0, 1) := by decide +kernel
theorem dX12_weekGoes_62 : decode cX12_weekGoes 62 = .ok (.iload_n 2, 1) := by decide +kernel
theorem dX12_weekGoes_63 : decode cX12_weekGoes 63 = .ok (.iload_n 3, 1) := by decide +kernel
theorem dX12_weekGoes_64 : decode cX12_weekGoes 64 = .ok (.iload 4, 2) := by decide +kernel
theorem dX12_weekGoes_66 : decode cX12_weekGoes 66 = .ok (.invokevirtual 354, 3) := by decide +kernel
theorem dX12_weekGoes_69 : decode cX12_weekGoes 69 = .ok (.iadd, 1) := by decide +kernel
theorem dX12_weekGoes_70 : decode cX12_weekGoes 70 = .ok (.iastore, 1) := by decide +kernel
theorem dX12_weekGoes_71 : decode cX12_weekGoes 71 = .ok (.iinc 3 1, 3) := by decide +kernel
theorem dX12_weekGoes_74 : decode cX12_weekGoes 74 = .ok (.goto (-52), 3) := by decide +kernel
theorem dX12_weekGoes_77 : decode cX12_weekGoes 77 = .ok (.aload_n 0, 1) := by decide +kernel
theorem dX12_weekGoes_78 : decode cX12_weekGoes 78 = .ok (.getfield 113, 3) := by decide +kernel
theorem dX12_weekGoes_81 : decode cX12_weekGoes 81 = .ok (.bipush 28, 2) := by decide +kernel
theorem dX12_weekGoes_83 : decode cX12_weekGoes 83 = .ok (.iload_n 2, 1) := by decide +kernel
theorem dX12_weekGoes_84 : decode cX12_weekGoes 84 = .ok (.iadd, 1) := by decide +kernel
theorem dX12_weekGoes_85 : decode cX12_weekGoes 85 = .ok (.dup2, 1) := by decide +kernel
theorem dX12_weekGoes_86 : decode cX12_weekGoes 86 = .ok (.iaload, 1) := by decide +kernel
theorem dX12_weekGoes_87 : decode cX12_weekGoes 87 = .ok (.aload_n 0, 1) := by decide +kernel
theorem dX12_weekGoes_88 : decode cX12_weekGoes 88 = .ok (.iload_n 2, 1) := by decide +kernel
theorem dX12_weekGoes_89 : decode cX12_weekGoes 89 = .ok (.invokevirtual 357, 3) := by decide +kernel
theorem dX12_weekGoes_92 : decode cX12_weekGoes 92 = .ok (.iadd, 1) := by decide +kernel
theorem dX12_weekGoes_93 : decode cX12_weekGoes 93 = .ok (.iastore, 1) := by decide +kernel
theorem dX12_weekGoes_94 : decode cX12_weekGoes 94 = .ok (.iinc 2 1, 3) := by decide +kernel
theorem dX12_weekGoes_97 : decode cX12_weekGoes 97 = .ok (.goto (-90), 3) := by decide +kernel
theorem dX12_weekGoes_100 : decode cX12_weekGoes 100 = .ok (.aload_n 0, 1) := by decide +kernel
theorem dX12_weekGoes_101 : decode cX12_weekGoes 101 = .ok (.getfield 113, 3) := by decide +kernel
theorem dX12_weekGoes_104 : decode cX12_weekGoes 104 = .ok (.bipush 21, 2) := by decide +kernel
theorem dX12_weekGoes_106 : decode cX12_weekGoes 106 = .ok (.iload_n 1, 1) := by decide +kernel
theorem dX12_weekGoes_107 : decode cX12_weekGoes 107 = .ok (.iastore, 1) := by decide +kernel
theorem dX12_weekGoes_108 : decode cX12_weekGoes 108 = .ok (.aload_n 0, 1) := by decide +kernel
theorem dX12_weekGoes_109 : decode cX12_weekGoes 109 = .ok (.getfield 113, 3) := by decide +kernel
theorem dX12_weekGoes_112 : decode cX12_weekGoes 112 = .ok (.bipush 22, 2) := by decide +kernel
theorem dX12_weekGoes_114 : decode cX12_weekGoes 114 = .ok (.aload_n 0, 1) := by decide +kernel
theorem dX12_weekGoes_115 : decode cX12_weekGoes 115 = .ok (.iload_n 1, 1) := by decide +kernel
theorem dX12_weekGoes_116 : decode cX12_weekGoes 116 = .ok (.invokevirtual 360, 3) := by decide +kernel
theorem dX12_weekGoes_119 : decode cX12_weekGoes 119 = .ok (.iastore, 1) := by decide +kernel
theorem dX12_weekGoes_120 : decode cX12_weekGoes 120 = .ok (.aload_n 0, 1) := by decide +kernel
theorem dX12_weekGoes_121 : decode cX12_weekGoes 121 = .ok (.getfield 113, 3) := by decide +kernel
theorem dX12_weekGoes_124 : decode cX12_weekGoes 124 = .ok (.bipush 20, 2) := by decide +kernel
theorem dX12_weekGoes_126 : decode cX12_weekGoes 126 = .ok (.dup2, 1) := by decide +kernel
theorem dX12_weekGoes_127 : decode cX12_weekGoes 127 = .ok (.iaload, 1) := by decide +kernel
theorem dX12_weekGoes_128 : decode cX12_weekGoes 128 = .ok (.iconst 1, 1) := by decide +kernel
theorem dX12_weekGoes_129 : decode cX12_weekGoes 129 = .ok (.iadd, 1) := by decide +kernel
theorem dX12_weekGoes_130 : decode cX12_weekGoes 130 = .ok (.iastore, 1) := by decide +kernel
theorem dX12_weekGoes_131 : decode cX12_weekGoes 131 = .ok (.return_, 1) := by decide +kernel
theorem dX12_goes_0 : decode cX12_goes 0 = .ok (.iconst 0, 1) := by decide +kernel
theorem dX12_goes_1 : decode cX12_goes 1 = .ok (.istore_n 2, 1) := by decide +kernel
theorem dX12_goes_2 : decode cX12_goes 2 = .ok (.iload_n 2, 1) := by decide +kernel
theorem dX12_goes_3 : decode cX12_goes 3 = .ok (.iload_n 1, 1) := by decide +kernel
theorem dX12_goes_4 : decode cX12_goes 4 = .ok (.if_icmp .ge 13, 3) := by decide +kernel
theorem dX12_goes_7 : decode cX12_goes 7 = .ok (.aload_n 0, 1) := by decide +kernel
theorem dX12_goes_8 : decode cX12_goes 8 = .ok (.invokevirtual 363, 3) := by decide +kernel
theorem dX12_goes_11 : decode cX12_goes 11 = .ok (.iinc 2 1, 3) := by decide +kernel
theorem dX12_goes_14 : decode cX12_goes 14 = .ok (.goto (-12), 3) := by decide +kernel
theorem dX12_goes_17 : decode cX12_goes 17 = .ok (.return_, 1) := by decide +kernel
theorem dX12_copies_0 : decode cX12_copies 0 = .ok (.iconst 0, 1) := by decide +kernel
theorem dX12_copies_1 : decode cX12_copies 1 = .ok (.istore_n 1, 1) := by decide +kernel
theorem dX12_copies_2 : decode cX12_copies 2 = .ok (.iload_n 1, 1) := by decide +kernel
theorem dX12_copies_3 : decode cX12_copies 3 = .ok (.bipush 33, 2) := by decide +kernel
theorem dX12_copies_5 : decode cX12_copies 5 = .ok (.if_icmp .ge 21, 3) := by decide +kernel
theorem dX12_copies_8 : decode cX12_copies 8 = .ok (.aload_n 0, 1) := by decide +kernel
theorem dX12_copies_9 : decode cX12_copies 9 = .ok (.getfield 113, 3) := by decide +kernel
theorem dX12_copies_12 : decode cX12_copies 12 = .ok (.iload_n 1, 1) := by decide +kernel
theorem dX12_copies_13 : decode cX12_copies 13 = .ok (.aload_n 0, 1) := by decide +kernel
theorem dX12_copies_14 : decode cX12_copies 14 = .ok (.getfield 110, 3) := by decide +kernel
theorem dX12_copies_17 : decode cX12_copies 17 = .ok (.iload_n 1, 1) := by decide +kernel
theorem dX12_copies_18 : decode cX12_copies 18 = .ok (.iaload, 1) := by decide +kernel
theorem dX12_copies_19 : decode cX12_copies 19 = .ok (.iastore, 1) := by decide +kernel
theorem dX12_copies_20 : decode cX12_copies 20 = .ok (.iinc 1 1, 3) := by decide +kernel
theorem dX12_copies_23 : decode cX12_copies 23 = .ok (.goto (-21), 3) := by decide +kernel
theorem dX12_copies_26 : decode cX12_copies 26 = .ok (.aload_n 0, 1) := by decide +kernel
theorem dX12_copies_27 : decode cX12_copies 27 = .ok (.aload_n 0, 1) := by decide +kernel
theorem dX12_copies_28 : decode cX12_copies 28 = .ok (.getfield 70, 3) := by decide +kernel
theorem dX12_copies_31 : decode cX12_copies 31 = .ok (.aload_n 0, 1) := by decide +kernel
theorem dX12_copies_32 : decode cX12_copies 32 = .ok (.getfield 233, 3) := by decide +kernel
theorem dX12_copies_35 : decode cX12_copies 35 = .ok (.iaload, 1) := by decide +kernel
theorem dX12_copies_36 : decode cX12_copies 36 = .ok (.putfield 314, 3) := by decide +kernel
theorem dX12_copies_39 : decode cX12_copies 39 = .ok (.return_, 1) := by decide +kernel
theorem fl_X12_104 : fl RX12 104 12 44 := ⟨RX12, TX12, 64, rfl, iw_X12, by decide, lg_at 1238 (by decide +kernel) (by decide +kernel), rfl⟩
theorem fl_X12_107 : fl RX12 107 12 45 := ⟨RX12, TX12, 64, rfl, iw_X12, by decide, lg_at 1239 (by decide +kernel) (by decide +kernel), rfl⟩
theorem fl_X12_302 : fl RX12 302 12 46 := ⟨RX12, TX12, 64, rfl, iw_X12, by decide, lg_at 1240 (by decide +kernel) (by decide +kernel), rfl⟩
theorem fl_X12_314 : fl RX12 314 12 49 := ⟨RX12, TX12, 64, rfl, iw_X12, by decide, lg_at 1243 (by decide +kernel) (by decide +kernel), rfl⟩
theorem fp_X12_302 : fp RX12 302 12 46 .boolean := ⟨RX12, TX12, 64, tyX12, rfl, iw_X12, by decide, lg_at 1240 (by decide +kernel) (by decide +kernel), rfl, tyX12_ok, nmX12, rfl, by decide +kernel⟩
theorem cV_X12_321 : cV RX12 321 yX12_termOf cX12_termOf 8 (some .int) 2 := ⟨⟨lg_at 1528 (by decide +kernel) (by decide +kernel), lg_at 1530 (by decide +kernel) (by decide +kernel), lg_sel 79 (by decide +kernel) (by decide +kernel), lg_at 15 (by decide +kernel) (by decide +kernel), lg_at 1531 (by decide +kernel) (by decide +kernel)⟩, by decide +kernel, by decide +kernel, by decide +kernel⟩
theorem cV_X12_324 : cV RX12 324 yX12_looks cX12_looks 2 none 0 := ⟨⟨lg_at 1520 (by decide +kernel) (by decide +kernel), lg_at 1522 (by decide +kernel) (by decide +kernel), lg_sel 77 (by decide +kernel) (by decide +kernel), lg_at 15 (by decide +kernel) (by decide +kernel), lg_at 1523 (by decide +kernel) (by decide +kernel)⟩, by decide +kernel, by decide +kernel, by decide +kernel⟩
theorem cV_X12_327 : cV RX12 327 yX12_lawTells cX12_lawTells 7 (some .int) 2 := ⟨⟨lg_at 1524 (by decide +kernel) (by decide +kernel), lg_at 1526 (by decide +kernel) (by decide +kernel), lg_sel 78 (by decide +kernel) (by decide +kernel), lg_at 15 (by decide +kernel) (by decide +kernel), lg_at 1527 (by decide +kernel) (by decide +kernel)⟩, by decide +kernel, by decide +kernel, by decide +kernel⟩
theorem cV_X12_333 : cV RX12 333 yX12_looksAt cX12_looksAt 3 none 2 := ⟨⟨lg_at 1566 (by decide +kernel) (by decide +kernel), lg_at 1568 (by decide +kernel) (by decide +kernel), lg_sel 85 (by decide +kernel) (by decide +kernel), lg_at 15 (by decide +kernel) (by decide +kernel), lg_at 1569 (by decide +kernel) (by decide +kernel)⟩, by decide +kernel, by decide +kernel, by decide +kernel⟩
theorem cV_X12_336 : cV RX12 336 yX12_partBits cX12_partBits 4 (some .int) 1 := ⟨⟨lg_at 1555 (by decide +kernel) (by decide +kernel), lg_at 1557 (by decide +kernel) (by decide +kernel), lg_sel 83 (by decide +kernel) (by decide +kernel), lg_at 15 (by decide +kernel) (by decide +kernel), lg_at 1558 (by decide +kernel) (by decide +kernel)⟩, by decide +kernel, by decide +kernel, by decide +kernel⟩
theorem cV_X12_345 : cV RX12 345 yX12_lotOf cX12_lotOf 2 (some .int) 1 := ⟨⟨lg_at 1539 (by decide +kernel) (by decide +kernel), lg_at 1541 (by decide +kernel) (by decide +kernel), lg_sel 81 (by decide +kernel) (by decide +kernel), lg_at 15 (by decide +kernel) (by decide +kernel), lg_at 1542 (by decide +kernel) (by decide +kernel)⟩, by decide +kernel, by decide +kernel, by decide +kernel⟩
theorem cV_X12_348 : cV RX12 348 yX12_coughsOf cX12_coughsOf 2 (some .int) 1 := ⟨⟨lg_at 1516 (by decide +kernel) (by decide +kernel), lg_at 1518 (by decide +kernel) (by decide +kernel), lg_sel 76 (by decide +kernel) (by decide +kernel), lg_at 15 (by decide +kernel) (by decide +kernel), lg_at 1519 (by decide +kernel) (by decide +kernel)⟩, by decide +kernel, by decide +kernel, by decide +kernel⟩
theorem cV_X12_351 : cV RX12 351 yX12_coughsNow cX12_coughsNow 3 (some .int) 0 := ⟨⟨lg_at 1535 (by decide +kernel) (by decide +kernel), lg_at 1537 (by decide +kernel) (by decide +kernel), lg_sel 80 (by decide +kernel) (by decide +kernel), lg_at 15 (by decide +kernel) (by decide +kernel), lg_at 1538 (by decide +kernel) (by decide +kernel)⟩, by decide +kernel, by decide +kernel, by decide +kernel⟩
theorem cV_X12_354 : cV RX12 354 yX12_worthOf cX12_worthOf 4 (some .int) 3 := ⟨⟨lg_at 1585 (by decide +kernel) (by decide +kernel), lg_at 1587 (by decide +kernel) (by decide +kernel), lg_sel 87 (by decide +kernel) (by decide +kernel), lg_at 15 (by decide +kernel) (by decide +kernel), lg_at 1588 (by decide +kernel) (by decide +kernel)⟩, by decide +kernel, by decide +kernel, by decide +kernel⟩
theorem cV_X12_357 : cV RX12 357 yX12_rentsOf cX12_rentsOf 2 (some .int) 1 := ⟨⟨lg_at 1559 (by decide +kernel) (by decide +kernel), lg_at 1561 (by decide +kernel) (by decide +kernel), lg_sel 84 (by decide +kernel) (by decide +kernel), lg_at 15 (by decide +kernel) (by decide +kernel), lg_at 1562 (by decide +kernel) (by decide +kernel)⟩, by decide +kernel, by decide +kernel, by decide +kernel⟩
theorem cV_X12_360 : cV RX12 360 yX12_partsBy cX12_partsBy 2 (some .int) 1 := ⟨⟨lg_at 1639 (by decide +kernel) (by decide +kernel), lg_at 1641 (by decide +kernel) (by decide +kernel), lg_sel 94 (by decide +kernel) (by decide +kernel), lg_at 15 (by decide +kernel) (by decide +kernel), lg_at 1642 (by decide +kernel) (by decide +kernel)⟩, by decide +kernel, by decide +kernel, by decide +kernel⟩
theorem cV_X12_363 : cV RX12 363 yX12_weekGoes cX12_weekGoes 5 none 0 := ⟨⟨lg_at 1632 (by decide +kernel) (by decide +kernel), lg_at 1634 (by decide +kernel) (by decide +kernel), lg_sel 93 (by decide +kernel) (by decide +kernel), lg_at 15 (by decide +kernel) (by decide +kernel), lg_at 1635 (by decide +kernel) (by decide +kernel)⟩, by decide +kernel, by decide +kernel, by decide +kernel⟩
theorem cS_X12_318 : cS RX12 318 yX12_mixed cX12_mixed 3 (some .int) 2 := ⟨⟨lg_at 1543 (by decide +kernel) (by decide +kernel), lg_at 1544 (by decide +kernel) (by decide +kernel), lg_at 15 (by decide +kernel) (by decide +kernel), lg_at 1545 (by decide +kernel) (by decide +kernel)⟩, by decide +kernel, by decide +kernel, by decide +kernel⟩
theorem cS_X12_330 : cS RX12 330 yX12_within cX12_within 3 (some .int) 3 := ⟨⟨lg_at 1532 (by decide +kernel) (by decide +kernel), lg_at 1533 (by decide +kernel) (by decide +kernel), lg_at 15 (by decide +kernel) (by decide +kernel), lg_at 1534 (by decide +kernel) (by decide +kernel)⟩, by decide +kernel, by decide +kernel, by decide +kernel⟩
theorem cS_X12_339 : cS RX12 339 yX12_bits cX12_bits 3 (some .int) 1 := ⟨⟨lg_at 1563 (by decide +kernel) (by decide +kernel), lg_at 1564 (by decide +kernel) (by decide +kernel), lg_at 15 (by decide +kernel) (by decide +kernel), lg_at 1565 (by decide +kernel) (by decide +kernel)⟩, by decide +kernel, by decide +kernel, by decide +kernel⟩
theorem cS_X12_342 : cS RX12 342 yX12_partBy cX12_partBy 4 (some .int) 2 := ⟨⟨lg_at 1636 (by decide +kernel) (by decide +kernel), lg_at 1637 (by decide +kernel) (by decide +kernel), lg_at 15 (by decide +kernel) (by decide +kernel), lg_at 1638 (by decide +kernel) (by decide +kernel)⟩, by decide +kernel, by decide +kernel, by decide +kernel⟩
theorem kc_X12_317 : Cond.constant RX12 317 (1103515245) ∈ lg_tbl := lg_at 1546 (by decide +kernel) (by decide +kernel)
section
variable {p : Program} {l : Launch} {e : Env} {s : State} {m : MethodId} {args : Array Value} {below : List Frame} {meth : Method} {c : Code} {D : va_G} {ad : Nat → Nat} {κ : KC}
-- X12_termOf
def FX12_termOf_104 (k5 : Int32 → Int32 → Int32 → Int32 → HS → Option (Int32 × HS)) (x1 : Int32) (x2 : Int32) (x3 : Int32) (x4 : Int32) (x5 : Int32) (x6 : Int32) (x7 : Int32) (σ : HS) : Option (Int32 × HS) :=
  if x5 = (2 : Int32) then gd (ix (x3 - (1 : Int32)) 400) (hl_ (pI σ 30 ((x3 - (1 : Int32)).toNatClampNeg) (x6 + x7)) fun σ_12 => k5 x1 x2 x3 (x4 + 1) σ_12) else if x5 = (3 : Int32) then gd (ix (x3 - (1 : Int32)) 400) (hl_ (pI σ 30 ((x3 - (1 : Int32)).toNatClampNeg) (x6 - x7)) fun σ_10 => k5 x1 x2 x3 (x4 + 1) σ_10) else if x5 = (4 : Int32) then gd (ix (x3 - (1 : Int32)) 400) (hl_ (pI σ 30 ((x3 - (1 : Int32)).toNatClampNeg) (x6 * x7)) fun σ_8 => k5 x1 x2 x3 (x4 + 1) σ_8) else gd (nz x7) (gd (ix (x3 - (1 : Int32)) 400) (hl_ (pI σ 30 ((x3 - (1 : Int32)).toNatClampNeg) (x6 / x7)) fun σ_6 => k5 x1 x2 x3 (x4 + 1) σ_6))
def FX12_termOf_5  : Nat → Int32 → Int32 → Int32 → Int32 → HS → Option (Int32 × HS)
  | 0, _, _, _, _, _ => none
  | f + 1, x1, x2, x3, x4, σ => if x2 ≤ x4 then some ((σ.1 30 0), σ) else gd (ix x4 840) (hl_ (σ.1 26 (x4.toNatClampNeg)) fun x5_15 => if (2 : Int32) ≤ x5_15 then gd (ix ((x3 + (-1)) - (1 : Int32)) 400) (hl_ (σ.1 30 (((x3 + (-1)) - (1 : Int32)).toNatClampNeg)) fun x6_18 => gd (ix (x3 + (-1)) 400) (hl_ (σ.1 30 ((x3 + (-1)).toNatClampNeg)) fun x7_20 => if x5_15 = (5 : Int32) then if x7_20 = 0 then hl_ (pI σ 0 46 (1 : Int32)) fun σ_23 => some ((0 : Int32), σ_23) else FX12_termOf_104 (FX12_termOf_5  f) x1 x2 (x3 + (-1)) x4 x5_15 x6_18 x7_20 σ else FX12_termOf_104 (FX12_termOf_5  f) x1 x2 (x3 + (-1)) x4 x5_15 x6_18 x7_20 σ)) else if x5_15 = 0 then gd (ix x4 840) (gd (ix x3 400) (hl_ (pI σ 30 (x3.toNatClampNeg) (σ.1 27 (x4.toNatClampNeg))) fun σ_31 => FX12_termOf_5  f x1 x2 (x3 + 1) (x4 + 1) σ_31)) else gd (ix x4 840) (gd (ix (σ.1 27 (x4.toNatClampNeg)) 9) (gd (ix x3 400) (hl_ (pI σ 30 (x3.toNatClampNeg) (σ.1 29 ((σ.1 27 (x4.toNatClampNeg)).toNatClampNeg))) fun σ_28 => FX12_termOf_5  f x1 x2 (x3 + 1) (x4 + 1) σ_28))))
def FX12_termOf (x1 : Int32) (x2 : Int32) (σ : HS) : Option (Int32 × HS) :=
  FX12_termOf_5 fu x1 x2 (0 : Int32) x1 σ
set_option maxHeartbeats 4000000 in
set_option maxRecDepth 100000 in
theorem wX12_termOf_104 (C : Cx 45 D ad κ p s m args meth c cX12_termOf RX12 8 (some .int)) {R : (Int32 × HS)} {k5 : Int32 → Int32 → Int32 → Int32 → HS → Option (Int32 × HS)} (K5 : ∀ (x1 : Int32) (x2 : Int32) (x3 : Int32) (x4 : Int32) (σ : HS) (H : Heap) (locs : List Loc) (ls : Array Slot), k5 x1 x2 x3 x4 σ = some R → Hd 45 ceM D ad κ s σ H locs → lv_has ls 8 [(0, .ref (ad 0)), (1, .int x1), (2, .int x2), (3, .int x3), (4, .int x4)] → W p l e ({ frames := 0, cells := 0, slots := 0, locals := 0 } : Room) s m args below meth c H locs 0 0 (MQ below (QI 45 ceM D ad κ R) args s 0 0 (AX 45 ad)) (F0 m 5 ls [])) : ∀ (x1 : Int32) (x2 : Int32) (x3 : Int32) (x4 : Int32) (x5 : Int32) (x6 : Int32) (x7 : Int32) (σ : HS) (H : Heap) (locs : List Loc) (ls : Array Slot), FX12_termOf_104 k5 x1 x2 x3 x4 x5 x6 x7 σ = some R → Hd 45 ceM D ad κ s σ H locs → lv_has ls 8 [(0, .ref (ad 0)), (1, .int x1), (2, .int x2), (3, .int x3), (4, .int x4), (5, .int x5), (6, .int x6), (7, .int x7)] → W p l e ({ frames := 0, cells := 0, slots := 0, locals := 0 } : Room) s m args below meth c H locs 0 0 (MQ below (QI 45 ceM D ad κ R) args s 0 0 (AX 45 ad)) (F0 m 104 ls []) := by
  have hx := C.1
  have hb := C.2.1
  have hown := C.2.2.2.1
  have hts := C.2.2.2.2.1
  intro x1 x2 x3 x4 x5 x6 x7 σ H locs ls h hH hl
  rw [FX12_termOf_104] at h
  refine lv_aload_n hx hb dX12_termOf_104 rfl (lv_at hl 0 rfl) ?_
  refine g_get C hH 0 (Nat.le_of_ble_eq_true rfl) rfl fl_X12_107 (v := .ref (ad 30)) rfl dX12_termOf_105 ?_
  refine lv_iload_n hx hb dX12_termOf_108 rfl (lv_at hl 3 rfl) ?_
  refine lv_iconst (v := 1) hx hb dX12_termOf_109 (by decide) ?_
  refine lv_isub hx hb dX12_termOf_110 ?_
  refine lv_iload hx hb dX12_termOf_111 (lv_at hl 5 rfl) ?_
  refine lv_iconst (v := 2) hx hb dX12_termOf_113 (by decide) ?_
  refine lv_icmp_ne (tgt := 125) hx hb dX12_termOf_114 (by decide) (fun hq_1 => ?_) (fun hq_1 => ?_)
  · rw [if_neg hq_1] at h
    refine lv_iload hx hb dX12_termOf_125 (lv_at hl 5 rfl) ?_
    refine lv_iconst (v := 3) hx hb dX12_termOf_127 (by decide) ?_
    refine lv_icmp_ne (tgt := 139) hx hb dX12_termOf_128 (by decide) (fun hq_2 => ?_) (fun hq_2 => ?_)
    · rw [if_neg hq_2] at h
      refine lv_iload hx hb dX12_termOf_139 (lv_at hl 5 rfl) ?_
      refine lv_iconst (v := 4) hx hb dX12_termOf_141 (by decide) ?_
      refine lv_icmp_ne (tgt := 153) hx hb dX12_termOf_142 (by decide) (fun hq_3 => ?_) (fun hq_3 => ?_)
      · rw [if_neg hq_3] at h
        refine lv_iload hx hb dX12_termOf_153 (lv_at hl 6 rfl) ?_
        refine lv_iload hx hb dX12_termOf_155 (lv_at hl 7 rfl) ?_
        obtain ⟨hz_4, h⟩ := gd_ex h
        refine lv_idiv hx hb dX12_termOf_157 (nz_ne hz_4) ?_
        obtain ⟨hi_5, h⟩ := gd_ex h
        obtain ⟨σ_6, eσ_6, h⟩ := hl_ex h
        refine g_iast C hH 30 (Nat.le_of_ble_eq_true rfl) (fun _ _ => rfl) (k := ((x3 - (1 : Int32)).toNatClampNeg)) rfl (ix_in hi_5) dX12_termOf_158 (fun H locs hH => ?_)
        rw [← eσ_6] at hH
        refine lv_iinc (v := (x4 + 1)) (lv' := [(4, .int (x4 + 1)), (0, .ref (ad 0)), (1, .int x1), (2, .int x2), (3, .int x3), (5, .int x5), (6, .int x6), (7, .int x7)]) hx hb dX12_termOf_159 hl (k := 4) rfl rfl (by decide) rfl (fun ls hl => ?_)
        refine lv_goto (tgt := 5) hx hb dX12_termOf_162 (by decide) ?_
        exact K5 _ _ _ _ _ _ _ _ h hH (lv_sub hl [1, 2, 3, 4, 0] rfl)
      · rw [if_pos hq_3] at h
        refine lv_iload hx hb dX12_termOf_145 (lv_at hl 6 rfl) ?_
        refine lv_iload hx hb dX12_termOf_147 (lv_at hl 7 rfl) ?_
        refine lv_imul hx hb dX12_termOf_149 ?_
        refine lv_goto (tgt := 158) hx hb dX12_termOf_150 (by decide) ?_
        obtain ⟨hi_7, h⟩ := gd_ex h
        obtain ⟨σ_8, eσ_8, h⟩ := hl_ex h
        refine g_iast C hH 30 (Nat.le_of_ble_eq_true rfl) (fun _ _ => rfl) (k := ((x3 - (1 : Int32)).toNatClampNeg)) rfl (ix_in hi_7) dX12_termOf_158 (fun H locs hH => ?_)
        rw [← eσ_8] at hH
        refine lv_iinc (v := (x4 + 1)) (lv' := [(4, .int (x4 + 1)), (0, .ref (ad 0)), (1, .int x1), (2, .int x2), (3, .int x3), (5, .int x5), (6, .int x6), (7, .int x7)]) hx hb dX12_termOf_159 hl (k := 4) rfl rfl (by decide) rfl (fun ls hl => ?_)
        refine lv_goto (tgt := 5) hx hb dX12_termOf_162 (by decide) ?_
        exact K5 _ _ _ _ _ _ _ _ h hH (lv_sub hl [1, 2, 3, 4, 0] rfl)
    · rw [if_pos hq_2] at h
      refine lv_iload hx hb dX12_termOf_131 (lv_at hl 6 rfl) ?_
      refine lv_iload hx hb dX12_termOf_133 (lv_at hl 7 rfl) ?_
      refine lv_isub hx hb dX12_termOf_135 ?_
      refine lv_goto (tgt := 158) hx hb dX12_termOf_136 (by decide) ?_
      obtain ⟨hi_9, h⟩ := gd_ex h
      obtain ⟨σ_10, eσ_10, h⟩ := hl_ex h
      refine g_iast C hH 30 (Nat.le_of_ble_eq_true rfl) (fun _ _ => rfl) (k := ((x3 - (1 : Int32)).toNatClampNeg)) rfl (ix_in hi_9) dX12_termOf_158 (fun H locs hH => ?_)
      rw [← eσ_10] at hH
      refine lv_iinc (v := (x4 + 1)) (lv' := [(4, .int (x4 + 1)), (0, .ref (ad 0)), (1, .int x1), (2, .int x2), (3, .int x3), (5, .int x5), (6, .int x6), (7, .int x7)]) hx hb dX12_termOf_159 hl (k := 4) rfl rfl (by decide) rfl (fun ls hl => ?_)
      refine lv_goto (tgt := 5) hx hb dX12_termOf_162 (by decide) ?_
      exact K5 _ _ _ _ _ _ _ _ h hH (lv_sub hl [1, 2, 3, 4, 0] rfl)
  · rw [if_pos hq_1] at h
    refine lv_iload hx hb dX12_termOf_117 (lv_at hl 6 rfl) ?_
    refine lv_iload hx hb dX12_termOf_119 (lv_at hl 7 rfl) ?_
    refine lv_iadd hx hb dX12_termOf_121 ?_
    refine lv_goto (tgt := 158) hx hb dX12_termOf_122 (by decide) ?_
    obtain ⟨hi_11, h⟩ := gd_ex h
    obtain ⟨σ_12, eσ_12, h⟩ := hl_ex h
    refine g_iast C hH 30 (Nat.le_of_ble_eq_true rfl) (fun _ _ => rfl) (k := ((x3 - (1 : Int32)).toNatClampNeg)) rfl (ix_in hi_11) dX12_termOf_158 (fun H locs hH => ?_)
    rw [← eσ_12] at hH
    refine lv_iinc (v := (x4 + 1)) (lv' := [(4, .int (x4 + 1)), (0, .ref (ad 0)), (1, .int x1), (2, .int x2), (3, .int x3), (5, .int x5), (6, .int x6), (7, .int x7)]) hx hb dX12_termOf_159 hl (k := 4) rfl rfl (by decide) rfl (fun ls hl => ?_)
    refine lv_goto (tgt := 5) hx hb dX12_termOf_162 (by decide) ?_
    exact K5 _ _ _ _ _ _ _ _ h hH (lv_sub hl [1, 2, 3, 4, 0] rfl)
set_option maxHeartbeats 4000000 in
set_option maxRecDepth 100000 in
theorem wX12_termOf_5 (C : Cx 45 D ad κ p s m args meth c cX12_termOf RX12 8 (some .int)) {R : (Int32 × HS)} : ∀ (f : Nat) (x1 : Int32) (x2 : Int32) (x3 : Int32) (x4 : Int32) (σ : HS) (H : Heap) (locs : List Loc) (ls : Array Slot), FX12_termOf_5  f x1 x2 x3 x4 σ = some R → Hd 45 ceM D ad κ s σ H locs → lv_has ls 8 [(0, .ref (ad 0)), (1, .int x1), (2, .int x2), (3, .int x3), (4, .int x4)] → W p l e ({ frames := 0, cells := 0, slots := 0, locals := 0 } : Room) s m args below meth c H locs 0 0 (MQ below (QI 45 ceM D ad κ R) args s 0 0 (AX 45 ad)) (F0 m 5 ls []) := by
  have hx := C.1
  have hb := C.2.1
  have hown := C.2.2.2.1
  have hts := C.2.2.2.2.1
  intro f
  induction f with
  | zero =>
    intro x1 x2 x3 x4 σ H locs ls h hH hl
    cases h
  | succ f ih =>
    intro x1 x2 x3 x4 σ H locs ls h hH hl
    rw [FX12_termOf_5] at h
    refine lv_iload hx hb dX12_termOf_5 (lv_at hl 4 rfl) ?_
    refine lv_iload_n hx hb dX12_termOf_7 rfl (lv_at hl 2 rfl) ?_
    refine lv_icmp_ge (tgt := 165) hx hb dX12_termOf_8 (by decide) (fun hq_13 => ?_) (fun hq_13 => ?_)
    · rw [if_pos hq_13] at h
      refine lv_aload_n hx hb dX12_termOf_165 rfl (lv_at hl 0 rfl) ?_
      refine g_get C hH 0 (Nat.le_of_ble_eq_true rfl) rfl fl_X12_107 (v := .ref (ad 30)) rfl dX12_termOf_166 ?_
      refine lv_iconst (v := 0) hx hb dX12_termOf_169 (by decide) ?_
      refine g_iald C hH 30 (Nat.le_of_ble_eq_true rfl) rfl (k := 0) (by decide) (ix_in rfl) dX12_termOf_170 ?_
      exact g_ret C hH h dX12_termOf_171
    · rw [if_neg hq_13] at h
      refine lv_aload_n hx hb dX12_termOf_11 rfl (lv_at hl 0 rfl) ?_
      refine g_get C hH 0 (Nat.le_of_ble_eq_true rfl) rfl fl_X12_95 (v := .ref (ad 26)) rfl dX12_termOf_12 ?_
      refine lv_iload hx hb dX12_termOf_15 (lv_at hl 4 rfl) ?_
      obtain ⟨hi_14, h⟩ := gd_ex h
      refine g_iald C hH 26 (Nat.le_of_ble_eq_true rfl) rfl (k := (x4.toNatClampNeg)) rfl (ix_in hi_14) dX12_termOf_17 ?_
      obtain ⟨x5_15, ex5_15, h⟩ := hl_ex h
      refine lv_eqi ex5_15 ?_
      refine lv_istore (lv' := [(5, .int x5_15), (0, .ref (ad 0)), (1, .int x1), (2, .int x2), (3, .int x3), (4, .int x4)]) hx hb dX12_termOf_18 hl (by decide) rfl (fun ls hl => ?_)
      refine lv_iload hx hb dX12_termOf_20 (lv_at hl 0 rfl) ?_
      refine lv_iconst (v := 2) hx hb dX12_termOf_22 (by decide) ?_
      refine lv_icmp_ge (tgt := 65) hx hb dX12_termOf_23 (by decide) (fun hq_16 => ?_) (fun hq_16 => ?_)
      · rw [if_pos hq_16] at h
        refine lv_iinc (v := (x3 + (-1))) (lv' := [(3, .int (x3 + (-1))), (5, .int x5_15), (0, .ref (ad 0)), (1, .int x1), (2, .int x2), (4, .int x4)]) hx hb dX12_termOf_65 hl (k := 4) rfl rfl (by decide) rfl (fun ls hl => ?_)
        refine lv_aload_n hx hb dX12_termOf_68 rfl (lv_at hl 2 rfl) ?_
        refine g_get C hH 0 (Nat.le_of_ble_eq_true rfl) rfl fl_X12_107 (v := .ref (ad 30)) rfl dX12_termOf_69 ?_
        refine lv_iload_n hx hb dX12_termOf_72 rfl (lv_at hl 0 rfl) ?_
        refine lv_iconst (v := 1) hx hb dX12_termOf_73 (by decide) ?_
        refine lv_isub hx hb dX12_termOf_74 ?_
        obtain ⟨hi_17, h⟩ := gd_ex h
        refine g_iald C hH 30 (Nat.le_of_ble_eq_true rfl) rfl (k := (((x3 + (-1)) - (1 : Int32)).toNatClampNeg)) rfl (ix_in hi_17) dX12_termOf_75 ?_
        obtain ⟨x6_18, ex6_18, h⟩ := hl_ex h
        refine lv_eqi ex6_18 ?_
        refine lv_istore (lv' := [(6, .int x6_18), (3, .int (x3 + (-1))), (5, .int x5_15), (0, .ref (ad 0)), (1, .int x1), (2, .int x2), (4, .int x4)]) hx hb dX12_termOf_76 hl (by decide) rfl (fun ls hl => ?_)
        refine lv_aload_n hx hb dX12_termOf_78 rfl (lv_at hl 3 rfl) ?_
        refine g_get C hH 0 (Nat.le_of_ble_eq_true rfl) rfl fl_X12_107 (v := .ref (ad 30)) rfl dX12_termOf_79 ?_
        refine lv_iload_n hx hb dX12_termOf_82 rfl (lv_at hl 1 rfl) ?_
        obtain ⟨hi_19, h⟩ := gd_ex h
        refine g_iald C hH 30 (Nat.le_of_ble_eq_true rfl) rfl (k := ((x3 + (-1)).toNatClampNeg)) rfl (ix_in hi_19) dX12_termOf_83 ?_
        obtain ⟨x7_20, ex7_20, h⟩ := hl_ex h
        refine lv_eqi ex7_20 ?_
        refine lv_istore (lv' := [(7, .int x7_20), (6, .int x6_18), (3, .int (x3 + (-1))), (5, .int x5_15), (0, .ref (ad 0)), (1, .int x1), (2, .int x2), (4, .int x4)]) hx hb dX12_termOf_84 hl (by decide) rfl (fun ls hl => ?_)
        refine lv_iload hx hb dX12_termOf_86 (lv_at hl 3 rfl) ?_
        refine lv_iconst (v := 5) hx hb dX12_termOf_88 (by decide) ?_
        refine lv_icmp_ne (tgt := 104) hx hb dX12_termOf_89 (by decide) (fun hq_21 => ?_) (fun hq_21 => ?_)
        · rw [if_neg hq_21] at h
          exact wX12_termOf_104 C ih  _ _ _ _ _ _ _ _ _ _ _ h hH (lv_sub hl [4, 5, 6, 2, 7, 3, 1, 0] rfl)
        · rw [if_pos hq_21] at h
          refine lv_iload hx hb dX12_termOf_92 (lv_at hl 0 rfl) ?_
          refine lv_if_ne (tgt := 104) hx hb dX12_termOf_94 (by decide) (fun hq_22 => ?_) (fun hq_22 => ?_)
          · rw [if_neg hq_22] at h
            exact wX12_termOf_104 C ih  _ _ _ _ _ _ _ _ _ _ _ h hH (lv_sub hl [4, 5, 6, 2, 7, 3, 1, 0] rfl)
          · rw [if_pos hq_22] at h
            refine lv_aload_n hx hb dX12_termOf_97 rfl (lv_at hl 4 rfl) ?_
            refine lv_iconst (v := 1) hx hb dX12_termOf_98 (by decide) ?_
            obtain ⟨σ_23, eσ_23, h⟩ := hl_ex h
            refine g_putI C hH 0 (Nat.le_of_ble_eq_true rfl) rfl fp_X12_302 rfl rfl (Nat.le_of_ble_eq_true rfl) rfl dX12_termOf_99 (fun H locs hH => ?_)
            rw [← eσ_23] at hH
            refine lv_iconst (v := 0) hx hb dX12_termOf_102 (by decide) ?_
            exact g_ret C hH h dX12_termOf_103
      · rw [if_neg hq_16] at h
        refine lv_aload_n hx hb dX12_termOf_26 rfl (lv_at hl 1 rfl) ?_
        refine g_get C hH 0 (Nat.le_of_ble_eq_true rfl) rfl fl_X12_107 (v := .ref (ad 30)) rfl dX12_termOf_27 ?_
        refine lv_iload_n hx hb dX12_termOf_30 rfl (lv_at hl 4 rfl) ?_
        refine lv_iload hx hb dX12_termOf_31 (lv_at hl 0 rfl) ?_
        refine lv_if_ne (tgt := 46) hx hb dX12_termOf_33 (by decide) (fun hq_24 => ?_) (fun hq_24 => ?_)
        · rw [if_neg hq_24] at h
          refine lv_aload_n hx hb dX12_termOf_46 rfl (lv_at hl 1 rfl) ?_
          refine g_get C hH 0 (Nat.le_of_ble_eq_true rfl) rfl fl_X12_104 (v := .ref (ad 29)) rfl dX12_termOf_47 ?_
          refine lv_aload_n hx hb dX12_termOf_50 rfl (lv_at hl 1 rfl) ?_
          refine g_get C hH 0 (Nat.le_of_ble_eq_true rfl) rfl fl_X12_98 (v := .ref (ad 27)) rfl dX12_termOf_51 ?_
          refine lv_iload hx hb dX12_termOf_54 (lv_at hl 5 rfl) ?_
          obtain ⟨hi_25, h⟩ := gd_ex h
          refine g_iald C hH 27 (Nat.le_of_ble_eq_true rfl) rfl (k := (x4.toNatClampNeg)) rfl (ix_in hi_25) dX12_termOf_56 ?_
          obtain ⟨hi_26, h⟩ := gd_ex h
          refine g_iald C hH 29 (Nat.le_of_ble_eq_true rfl) rfl (k := ((σ.1 27 (x4.toNatClampNeg)).toNatClampNeg)) rfl (ix_in hi_26) dX12_termOf_57 ?_
          obtain ⟨hi_27, h⟩ := gd_ex h
          obtain ⟨σ_28, eσ_28, h⟩ := hl_ex h
          refine g_iast C hH 30 (Nat.le_of_ble_eq_true rfl) (fun _ _ => rfl) (k := (x3.toNatClampNeg)) rfl (ix_in hi_27) dX12_termOf_58 (fun H locs hH => ?_)
          rw [← eσ_28] at hH
          refine lv_iinc (v := (x3 + 1)) (lv' := [(3, .int (x3 + 1)), (5, .int x5_15), (0, .ref (ad 0)), (1, .int x1), (2, .int x2), (4, .int x4)]) hx hb dX12_termOf_59 hl (k := 4) rfl rfl (by decide) rfl (fun ls hl => ?_)
          refine lv_goto (tgt := 159) hx hb dX12_termOf_62 (by decide) ?_
          refine lv_iinc (v := (x4 + 1)) (lv' := [(4, .int (x4 + 1)), (3, .int (x3 + 1)), (5, .int x5_15), (0, .ref (ad 0)), (1, .int x1), (2, .int x2)]) hx hb dX12_termOf_159 hl (k := 5) rfl rfl (by decide) rfl (fun ls hl => ?_)
          refine lv_goto (tgt := 5) hx hb dX12_termOf_162 (by decide) ?_
          exact ih _ _ _ _ _ _ _ _ h hH (lv_sub hl [3, 4, 5, 1, 0] rfl)
        · rw [if_pos hq_24] at h
          refine lv_aload_n hx hb dX12_termOf_36 rfl (lv_at hl 1 rfl) ?_
          refine g_get C hH 0 (Nat.le_of_ble_eq_true rfl) rfl fl_X12_98 (v := .ref (ad 27)) rfl dX12_termOf_37 ?_
          refine lv_iload hx hb dX12_termOf_40 (lv_at hl 5 rfl) ?_
          obtain ⟨hi_29, h⟩ := gd_ex h
          refine g_iald C hH 27 (Nat.le_of_ble_eq_true rfl) rfl (k := (x4.toNatClampNeg)) rfl (ix_in hi_29) dX12_termOf_42 ?_
          refine lv_goto (tgt := 58) hx hb dX12_termOf_43 (by decide) ?_
          obtain ⟨hi_30, h⟩ := gd_ex h
          obtain ⟨σ_31, eσ_31, h⟩ := hl_ex h
          refine g_iast C hH 30 (Nat.le_of_ble_eq_true rfl) (fun _ _ => rfl) (k := (x3.toNatClampNeg)) rfl (ix_in hi_30) dX12_termOf_58 (fun H locs hH => ?_)
          rw [← eσ_31] at hH
          refine lv_iinc (v := (x3 + 1)) (lv' := [(3, .int (x3 + 1)), (5, .int x5_15), (0, .ref (ad 0)), (1, .int x1), (2, .int x2), (4, .int x4)]) hx hb dX12_termOf_59 hl (k := 4) rfl rfl (by decide) rfl (fun ls hl => ?_)
          refine lv_goto (tgt := 159) hx hb dX12_termOf_62 (by decide) ?_
          refine lv_iinc (v := (x4 + 1)) (lv' := [(4, .int (x4 + 1)), (3, .int (x3 + 1)), (5, .int x5_15), (0, .ref (ad 0)), (1, .int x1), (2, .int x2)]) hx hb dX12_termOf_159 hl (k := 5) rfl rfl (by decide) rfl (fun ls hl => ?_)
          refine lv_goto (tgt := 5) hx hb dX12_termOf_162 (by decide) ?_
          exact ih _ _ _ _ _ _ _ _ h hH (lv_sub hl [3, 4, 5, 1, 0] rfl)
set_option maxHeartbeats 4000000 in
set_option maxRecDepth 100000 in
theorem kX12_termOf (l : Launch) (D : va_G) (ad : Nat → Nat) (κ : KC) {x1 : Int32} {x2 : Int32} {σ : HS} {R : (Int32 × HS)} (h : FX12_termOf x1 x2 σ = some R) : MtI l 45 ceM D ad κ yX12_termOf cX12_termOf 8 (some .int) ({ frames := 0, cells := 0, slots := 0, locals := 0 } : Room) [.ref (ad 0), .int x1, .int x2] σ R := by
  refine open_ (by decide) (Nat.le_of_ble_eq_true rfl) (la := [(0, .ref (ad 0)), (1, .int x1), (2, .int x2)]) rfl ?_
  intro p e s m below meth c ls C hH hl
  replace C : Cx 45 D ad κ p s m _ meth c cX12_termOf RX12 8 (some .int) := C
  have hx := C.1
  have hb := C.2.1
  have hown := C.2.2.2.1
  have hts := C.2.2.2.2.1
  rw [FX12_termOf] at h
  refine lv_iconst (v := 0) hx hb dX12_termOf_0 (by decide) ?_
  refine lv_istore_n (lv' := [(3, .int (0 : Int32)), (0, .ref (ad 0)), (1, .int x1), (2, .int x2)]) hx hb dX12_termOf_1 rfl hl (by decide) rfl (fun ls hl => ?_)
  refine lv_iload_n hx hb dX12_termOf_2 rfl (lv_at hl 2 rfl) ?_
  refine lv_istore (lv' := [(4, .int x1), (3, .int (0 : Int32)), (0, .ref (ad 0)), (1, .int x1), (2, .int x2)]) hx hb dX12_termOf_3 hl (by decide) rfl (fun ls hl => ?_)
  exact wX12_termOf_5 C _ _ _ _ _ _ _ _ _ h hH (lv_sub hl [2, 3, 4, 1, 0] rfl)
-- X12_lawTells
def FX12_lawTells_119  (x1 : Int32) (x2 : Int32) (x3 : Int32) (x4 : Int32) (σ : HS) : Option (Int32 × HS) :=
  gd (ix x4 260) (gd (ix x4 260) (bdI (FX12_termOf (σ.1 24 (x4.toNatClampNeg)) (σ.1 25 (x4.toNatClampNeg)) σ) fun r_3 σ_4 => if (σ_4.1 0 46) = 0 then some (r_3, σ_4) else some ((0 : Int32), σ_4)))
def FX12_lawTells_39  : Nat → Int32 → Int32 → Int32 → Int32 → HS → Option (Int32 × HS)
  | 0, _, _, _, _, _ => none
  | f + 1, x1, x2, x3, x4, σ => gd (ix x3 8) (if (σ.1 20 (x3.toNatClampNeg)) ≤ x4 then some ((0 : Int32), σ) else gd (ix x4 260) (if (σ.1 21 (x4.toNatClampNeg)) = 0 then FX12_lawTells_119 x1 x2 x3 x4 σ else gd (ix x4 260) (gd (ix x4 260) (bdI (FX12_termOf (σ.1 22 (x4.toNatClampNeg)) (σ.1 23 (x4.toNatClampNeg)) σ) fun r_13 σ_14 => gd (ix x4 260) (gd (ix x4 260) (bdI (FX12_termOf (σ_14.1 23 (x4.toNatClampNeg)) (σ_14.1 24 (x4.toNatClampNeg)) σ_14) fun r_18 σ_19 => if (σ_19.1 0 46) = 0 then if r_13 < r_18 then FX12_lawTells_119 x1 x2 x3 x4 σ_19 else FX12_lawTells_39  f x1 x2 x3 (x4 + 1) σ_19 else some ((0 : Int32), σ_19)))))))
def FX12_lawTells (x1 : Int32) (x2 : Int32) (σ : HS) : Option (Int32 × HS) :=
  hl_ (((4 : Int32) * (σ.1 0 18)) + x1) fun x3_23 => gd (ix x3_23 8) (gd (ix x3_23 8) (if (σ.1 19 (x3_23.toNatClampNeg)) = (σ.1 20 (x3_23.toNatClampNeg)) then some (x2, σ) else hl_ (pI σ 0 46 (0 : Int32)) fun σ_27 => gd (ix x3_23 8) (hl_ (σ_27.1 19 (x3_23.toNatClampNeg)) fun x4_29 => FX12_lawTells_39 fu x1 x2 x3_23 x4_29 σ_27)))
set_option maxHeartbeats 4000000 in
set_option maxRecDepth 100000 in
theorem wX12_lawTells_119 (C : Cx 45 D ad κ p s m args meth c cX12_lawTells RX12 7 (some .int)) {R : (Int32 × HS)} : ∀ (x1 : Int32) (x2 : Int32) (x3 : Int32) (x4 : Int32) (σ : HS) (H : Heap) (locs : List Loc) (ls : Array Slot), FX12_lawTells_119  x1 x2 x3 x4 σ = some R → Hd 45 ceM D ad κ s σ H locs → lv_has ls 7 [(0, .ref (ad 0)), (1, .int x1), (2, .int x2), (3, .int x3), (4, .int x4)] → W p l e ({ frames := 1, cells := 0, slots := 0, locals := 27 } : Room) s m args below meth c H locs 0 0 (MQ below (QI 45 ceM D ad κ R) args s 0 0 (AX 45 ad)) (F0 m 119 ls []) := by
  have hx := C.1
  have hb := C.2.1
  have hown := C.2.2.2.1
  have hts := C.2.2.2.2.1
  intro x1 x2 x3 x4 σ H locs ls h hH hl
  rw [FX12_lawTells_119] at h
  refine lv_aload_n hx hb dX12_lawTells_119 rfl (lv_at hl 0 rfl) ?_
  refine lv_aload_n hx hb dX12_lawTells_120 rfl (lv_at hl 0 rfl) ?_
  refine g_get C hH 0 (Nat.le_of_ble_eq_true rfl) rfl fl_X12_89 (v := .ref (ad 24)) rfl dX12_lawTells_121 ?_
  refine lv_iload hx hb dX12_lawTells_124 (lv_at hl 4 rfl) ?_
  obtain ⟨hi_1, h⟩ := gd_ex h
  refine g_iald C hH 24 (Nat.le_of_ble_eq_true rfl) rfl (k := (x4.toNatClampNeg)) rfl (ix_in hi_1) dX12_lawTells_126 ?_
  refine lv_aload_n hx hb dX12_lawTells_127 rfl (lv_at hl 0 rfl) ?_
  refine g_get C hH 0 (Nat.le_of_ble_eq_true rfl) rfl fl_X12_92 (v := .ref (ad 25)) rfl dX12_lawTells_128 ?_
  refine lv_iload hx hb dX12_lawTells_131 (lv_at hl 4 rfl) ?_
  obtain ⟨hi_2, h⟩ := gd_ex h
  refine g_iald C hH 25 (Nat.le_of_ble_eq_true rfl) rfl (k := (x4.toNatClampNeg)) rfl (ix_in hi_2) dX12_lawTells_133 ?_
  obtain ⟨r_3, σ_4, hc_5, h⟩ := bdI_ex h
  refine g_ci (g_runV (rest := []) C hH hl.1 cV_X12_321 0 (Nat.le_of_ble_eq_true rfl) rfl rfl (kX12_termOf l D ad κ hc_5) ⟨rfl, rfl⟩ ⟨(Nat.le_of_ble_eq_true rfl), (Nat.le_of_ble_eq_true rfl)⟩ rfl rfl (Nat.le_of_ble_eq_true rfl) dX12_lawTells_134 z00) hH (fun H locs hH => ?_)
  refine lv_istore (lv' := [(5, .int r_3), (0, .ref (ad 0)), (1, .int x1), (2, .int x2), (3, .int x3), (4, .int x4)]) hx hb dX12_lawTells_137 hl (by decide) rfl (fun ls hl => ?_)
  refine lv_aload_n hx hb dX12_lawTells_139 rfl (lv_at hl 1 rfl) ?_
  refine g_get C hH 0 (Nat.le_of_ble_eq_true rfl) rfl fl_X12_302 (v := .int (σ_4.1 0 46)) rfl dX12_lawTells_140 ?_
  refine lv_if_eq (tgt := 150) hx hb dX12_lawTells_143 (by decide) (fun hq_6 => ?_) (fun hq_6 => ?_)
  · rw [if_pos hq_6] at h
    refine lv_iload hx hb dX12_lawTells_150 (lv_at hl 0 rfl) ?_
    exact g_ret C hH h dX12_lawTells_152
  · rw [if_neg hq_6] at h
    refine lv_iconst (v := 0) hx hb dX12_lawTells_146 (by decide) ?_
    refine lv_goto (tgt := 152) hx hb dX12_lawTells_147 (by decide) ?_
    exact g_ret C hH h dX12_lawTells_152
set_option maxHeartbeats 4000000 in
set_option maxRecDepth 100000 in
theorem wX12_lawTells_39 (C : Cx 45 D ad κ p s m args meth c cX12_lawTells RX12 7 (some .int)) {R : (Int32 × HS)} : ∀ (f : Nat) (x1 : Int32) (x2 : Int32) (x3 : Int32) (x4 : Int32) (σ : HS) (H : Heap) (locs : List Loc) (ls : Array Slot), FX12_lawTells_39  f x1 x2 x3 x4 σ = some R → Hd 45 ceM D ad κ s σ H locs → lv_has ls 7 [(0, .ref (ad 0)), (1, .int x1), (2, .int x2), (3, .int x3), (4, .int x4)] → W p l e ({ frames := 1, cells := 0, slots := 0, locals := 27 } : Room) s m args below meth c H locs 0 0 (MQ below (QI 45 ceM D ad κ R) args s 0 0 (AX 45 ad)) (F0 m 39 ls []) := by
  have hx := C.1
  have hb := C.2.1
  have hown := C.2.2.2.1
  have hts := C.2.2.2.2.1
  intro f
  induction f with
  | zero =>
    intro x1 x2 x3 x4 σ H locs ls h hH hl
    cases h
  | succ f ih =>
    intro x1 x2 x3 x4 σ H locs ls h hH hl
    rw [FX12_lawTells_39] at h
    refine lv_iload hx hb dX12_lawTells_39 (lv_at hl 4 rfl) ?_
    refine lv_aload_n hx hb dX12_lawTells_41 rfl (lv_at hl 0 rfl) ?_
    refine g_get C hH 0 (Nat.le_of_ble_eq_true rfl) rfl fl_X12_76 (v := .ref (ad 20)) rfl dX12_lawTells_42 ?_
    refine lv_iload_n hx hb dX12_lawTells_45 rfl (lv_at hl 3 rfl) ?_
    obtain ⟨hi_7, h⟩ := gd_ex h
    refine g_iald C hH 20 (Nat.le_of_ble_eq_true rfl) rfl (k := (x3.toNatClampNeg)) rfl (ix_in hi_7) dX12_lawTells_46 ?_
    refine lv_icmp_ge (tgt := 159) hx hb dX12_lawTells_47 (by decide) (fun hq_8 => ?_) (fun hq_8 => ?_)
    · rw [if_pos hq_8] at h
      refine lv_iconst (v := 0) hx hb dX12_lawTells_159 (by decide) ?_
      exact g_ret C hH h dX12_lawTells_160
    · rw [if_neg hq_8] at h
      refine lv_aload_n hx hb dX12_lawTells_50 rfl (lv_at hl 0 rfl) ?_
      refine g_get C hH 0 (Nat.le_of_ble_eq_true rfl) rfl fl_X12_79 (v := .ref (ad 21)) rfl dX12_lawTells_51 ?_
      refine lv_iload hx hb dX12_lawTells_54 (lv_at hl 4 rfl) ?_
      obtain ⟨hi_9, h⟩ := gd_ex h
      refine g_zald C hH 21 (Nat.le_of_ble_eq_true rfl) rfl (k := (x4.toNatClampNeg)) rfl (ix_in hi_9) dX12_lawTells_56 ?_
      refine lv_if_eq (tgt := 119) hx hb dX12_lawTells_57 (by decide) (fun hq_10 => ?_) (fun hq_10 => ?_)
      · rw [if_pos hq_10] at h
        exact wX12_lawTells_119 C  _ _ _ _ _ _ _ _ h hH (lv_sub hl [0, 1, 2, 3, 4] rfl)
      · rw [if_neg hq_10] at h
        refine lv_aload_n hx hb dX12_lawTells_60 rfl (lv_at hl 0 rfl) ?_
        refine lv_aload_n hx hb dX12_lawTells_61 rfl (lv_at hl 0 rfl) ?_
        refine g_get C hH 0 (Nat.le_of_ble_eq_true rfl) rfl fl_X12_83 (v := .ref (ad 22)) rfl dX12_lawTells_62 ?_
        refine lv_iload hx hb dX12_lawTells_65 (lv_at hl 4 rfl) ?_
        obtain ⟨hi_11, h⟩ := gd_ex h
        refine g_iald C hH 22 (Nat.le_of_ble_eq_true rfl) rfl (k := (x4.toNatClampNeg)) rfl (ix_in hi_11) dX12_lawTells_67 ?_
        refine lv_aload_n hx hb dX12_lawTells_68 rfl (lv_at hl 0 rfl) ?_
        refine g_get C hH 0 (Nat.le_of_ble_eq_true rfl) rfl fl_X12_86 (v := .ref (ad 23)) rfl dX12_lawTells_69 ?_
        refine lv_iload hx hb dX12_lawTells_72 (lv_at hl 4 rfl) ?_
        obtain ⟨hi_12, h⟩ := gd_ex h
        refine g_iald C hH 23 (Nat.le_of_ble_eq_true rfl) rfl (k := (x4.toNatClampNeg)) rfl (ix_in hi_12) dX12_lawTells_74 ?_
        obtain ⟨r_13, σ_14, hc_15, h⟩ := bdI_ex h
        refine g_ci (g_runV (rest := []) C hH hl.1 cV_X12_321 0 (Nat.le_of_ble_eq_true rfl) rfl rfl (kX12_termOf l D ad κ hc_15) ⟨rfl, rfl⟩ ⟨(Nat.le_of_ble_eq_true rfl), (Nat.le_of_ble_eq_true rfl)⟩ rfl rfl (Nat.le_of_ble_eq_true rfl) dX12_lawTells_75 z00) hH (fun H locs hH => ?_)
        refine lv_istore (lv' := [(5, .int r_13), (0, .ref (ad 0)), (1, .int x1), (2, .int x2), (3, .int x3), (4, .int x4)]) hx hb dX12_lawTells_78 hl (by decide) rfl (fun ls hl => ?_)
        refine lv_aload_n hx hb dX12_lawTells_80 rfl (lv_at hl 1 rfl) ?_
        refine lv_aload_n hx hb dX12_lawTells_81 rfl (lv_at hl 1 rfl) ?_
        refine g_get C hH 0 (Nat.le_of_ble_eq_true rfl) rfl fl_X12_86 (v := .ref (ad 23)) rfl dX12_lawTells_82 ?_
        refine lv_iload hx hb dX12_lawTells_85 (lv_at hl 5 rfl) ?_
        obtain ⟨hi_16, h⟩ := gd_ex h
        refine g_iald C hH 23 (Nat.le_of_ble_eq_true rfl) rfl (k := (x4.toNatClampNeg)) rfl (ix_in hi_16) dX12_lawTells_87 ?_
        refine lv_aload_n hx hb dX12_lawTells_88 rfl (lv_at hl 1 rfl) ?_
        refine g_get C hH 0 (Nat.le_of_ble_eq_true rfl) rfl fl_X12_89 (v := .ref (ad 24)) rfl dX12_lawTells_89 ?_
        refine lv_iload hx hb dX12_lawTells_92 (lv_at hl 5 rfl) ?_
        obtain ⟨hi_17, h⟩ := gd_ex h
        refine g_iald C hH 24 (Nat.le_of_ble_eq_true rfl) rfl (k := (x4.toNatClampNeg)) rfl (ix_in hi_17) dX12_lawTells_94 ?_
        obtain ⟨r_18, σ_19, hc_20, h⟩ := bdI_ex h
        refine g_ci (g_runV (rest := []) C hH hl.1 cV_X12_321 0 (Nat.le_of_ble_eq_true rfl) rfl rfl (kX12_termOf l D ad κ hc_20) ⟨rfl, rfl⟩ ⟨(Nat.le_of_ble_eq_true rfl), (Nat.le_of_ble_eq_true rfl)⟩ rfl rfl (Nat.le_of_ble_eq_true rfl) dX12_lawTells_95 z00) hH (fun H locs hH => ?_)
        refine lv_istore (lv' := [(6, .int r_18), (5, .int r_13), (0, .ref (ad 0)), (1, .int x1), (2, .int x2), (3, .int x3), (4, .int x4)]) hx hb dX12_lawTells_98 hl (by decide) rfl (fun ls hl => ?_)
        refine lv_aload_n hx hb dX12_lawTells_100 rfl (lv_at hl 2 rfl) ?_
        refine g_get C hH 0 (Nat.le_of_ble_eq_true rfl) rfl fl_X12_302 (v := .int (σ_19.1 0 46)) rfl dX12_lawTells_101 ?_
        refine lv_if_eq (tgt := 109) hx hb dX12_lawTells_104 (by decide) (fun hq_21 => ?_) (fun hq_21 => ?_)
        · rw [if_pos hq_21] at h
          refine lv_iload hx hb dX12_lawTells_109 (lv_at hl 1 rfl) ?_
          refine lv_iload hx hb dX12_lawTells_111 (lv_at hl 0 rfl) ?_
          refine lv_icmp_lt (tgt := 119) hx hb dX12_lawTells_113 (by decide) (fun hq_22 => ?_) (fun hq_22 => ?_)
          · rw [if_pos hq_22] at h
            exact wX12_lawTells_119 C  _ _ _ _ _ _ _ _ h hH (lv_sub hl [2, 3, 4, 5, 6] rfl)
          · rw [if_neg hq_22] at h
            refine lv_goto (tgt := 153) hx hb dX12_lawTells_116 (by decide) ?_
            refine lv_iinc (v := (x4 + 1)) (lv' := [(4, .int (x4 + 1)), (6, .int r_18), (5, .int r_13), (0, .ref (ad 0)), (1, .int x1), (2, .int x2), (3, .int x3)]) hx hb dX12_lawTells_153 hl (k := 6) rfl rfl (by decide) rfl (fun ls hl => ?_)
            refine lv_goto (tgt := 39) hx hb dX12_lawTells_156 (by decide) ?_
            exact ih _ _ _ _ _ _ _ _ h hH (lv_sub hl [3, 4, 5, 6, 0] rfl)
        · rw [if_neg hq_21] at h
          refine lv_iconst (v := 0) hx hb dX12_lawTells_107 (by decide) ?_
          exact g_ret C hH h dX12_lawTells_108
set_option maxHeartbeats 4000000 in
set_option maxRecDepth 100000 in
theorem kX12_lawTells (l : Launch) (D : va_G) (ad : Nat → Nat) (κ : KC) {x1 : Int32} {x2 : Int32} {σ : HS} {R : (Int32 × HS)} (h : FX12_lawTells x1 x2 σ = some R) : MtI l 45 ceM D ad κ yX12_lawTells cX12_lawTells 7 (some .int) ({ frames := 1, cells := 0, slots := 0, locals := 27 } : Room) [.ref (ad 0), .int x1, .int x2] σ R := by
  refine open_ (by decide) (Nat.le_of_ble_eq_true rfl) (la := [(0, .ref (ad 0)), (1, .int x1), (2, .int x2)]) rfl ?_
  intro p e s m below meth c ls C hH hl
  replace C : Cx 45 D ad κ p s m _ meth c cX12_lawTells RX12 7 (some .int) := C
  have hx := C.1
  have hb := C.2.1
  have hown := C.2.2.2.1
  have hts := C.2.2.2.2.1
  rw [FX12_lawTells] at h
  refine lv_iconst (v := 4) hx hb dX12_lawTells_0 (by decide) ?_
  refine lv_aload_n hx hb dX12_lawTells_1 rfl (lv_at hl 0 rfl) ?_
  refine g_get C hH 0 (Nat.le_of_ble_eq_true rfl) rfl fl_X12_233 (v := .int (σ.1 0 18)) rfl dX12_lawTells_2 ?_
  refine lv_imul hx hb dX12_lawTells_5 ?_
  refine lv_iload_n hx hb dX12_lawTells_6 rfl (lv_at hl 1 rfl) ?_
  refine lv_iadd hx hb dX12_lawTells_7 ?_
  obtain ⟨x3_23, ex3_23, h⟩ := hl_ex h
  refine lv_eqi ex3_23 ?_
  refine lv_istore_n (lv' := [(3, .int x3_23), (0, .ref (ad 0)), (1, .int x1), (2, .int x2)]) hx hb dX12_lawTells_8 rfl hl (by decide) rfl (fun ls hl => ?_)
  refine lv_aload_n hx hb dX12_lawTells_9 rfl (lv_at hl 1 rfl) ?_
  refine g_get C hH 0 (Nat.le_of_ble_eq_true rfl) rfl fl_X12_73 (v := .ref (ad 19)) rfl dX12_lawTells_10 ?_
  refine lv_iload_n hx hb dX12_lawTells_13 rfl (lv_at hl 0 rfl) ?_
  obtain ⟨hi_24, h⟩ := gd_ex h
  refine g_iald C hH 19 (Nat.le_of_ble_eq_true rfl) rfl (k := (x3_23.toNatClampNeg)) rfl (ix_in hi_24) dX12_lawTells_14 ?_
  refine lv_aload_n hx hb dX12_lawTells_15 rfl (lv_at hl 1 rfl) ?_
  refine g_get C hH 0 (Nat.le_of_ble_eq_true rfl) rfl fl_X12_76 (v := .ref (ad 20)) rfl dX12_lawTells_16 ?_
  refine lv_iload_n hx hb dX12_lawTells_19 rfl (lv_at hl 0 rfl) ?_
  obtain ⟨hi_25, h⟩ := gd_ex h
  refine g_iald C hH 20 (Nat.le_of_ble_eq_true rfl) rfl (k := (x3_23.toNatClampNeg)) rfl (ix_in hi_25) dX12_lawTells_20 ?_
  refine lv_icmp_ne (tgt := 26) hx hb dX12_lawTells_21 (by decide) (fun hq_26 => ?_) (fun hq_26 => ?_)
  · rw [if_neg hq_26] at h
    refine lv_aload_n hx hb dX12_lawTells_26 rfl (lv_at hl 1 rfl) ?_
    refine lv_iconst (v := 0) hx hb dX12_lawTells_27 (by decide) ?_
    obtain ⟨σ_27, eσ_27, h⟩ := hl_ex h
    refine g_putI C hH 0 (Nat.le_of_ble_eq_true rfl) rfl fp_X12_302 rfl rfl (Nat.le_of_ble_eq_true rfl) rfl dX12_lawTells_28 (fun H locs hH => ?_)
    rw [← eσ_27] at hH
    refine lv_aload_n hx hb dX12_lawTells_31 rfl (lv_at hl 1 rfl) ?_
    refine g_get C hH 0 (Nat.le_of_ble_eq_true rfl) rfl fl_X12_73 (v := .ref (ad 19)) rfl dX12_lawTells_32 ?_
    refine lv_iload_n hx hb dX12_lawTells_35 rfl (lv_at hl 0 rfl) ?_
    obtain ⟨hi_28, h⟩ := gd_ex h
    refine g_iald C hH 19 (Nat.le_of_ble_eq_true rfl) rfl (k := (x3_23.toNatClampNeg)) rfl (ix_in hi_28) dX12_lawTells_36 ?_
    obtain ⟨x4_29, ex4_29, h⟩ := hl_ex h
    refine lv_eqi ex4_29 ?_
    refine lv_istore (lv' := [(4, .int x4_29), (3, .int x3_23), (0, .ref (ad 0)), (1, .int x1), (2, .int x2)]) hx hb dX12_lawTells_37 hl (by decide) rfl (fun ls hl => ?_)
    exact wX12_lawTells_39 C _ _ _ _ _ _ _ _ _ h hH (lv_sub hl [2, 3, 4, 1, 0] rfl)
  · rw [if_pos hq_26] at h
    refine lv_iload_n hx hb dX12_lawTells_24 rfl (lv_at hl 3 rfl) ?_
    exact g_ret C hH h dX12_lawTells_25
-- X12_looks
def FX12_looks_2  : Nat → Int32 → HS → Option HS
  | 0, _, _ => none
  | f + 1, x1, σ => if (9 : Int32) ≤ x1 then hl_ (pI σ 29 2 (σ.1 32 18)) fun σ_2 => hl_ (pI σ_2 29 3 (σ_2.1 32 19)) fun σ_3 => hl_ (pI σ_3 29 6 (σ_3.1 32 20)) fun σ_4 => some σ_4 else gd (ix x1 9) (hl_ (pI σ 29 (x1.toNatClampNeg) (0 : Int32)) fun σ_6 => FX12_looks_2  f (x1 + 1) σ_6)
def FX12_looks (σ : HS) : Option HS :=
  FX12_looks_2 fu (0 : Int32) σ
set_option maxHeartbeats 4000000 in
set_option maxRecDepth 100000 in
theorem wX12_looks_2 (C : Cx 45 D ad κ p s m args meth c cX12_looks RX12 2 none) {R : HS} : ∀ (f : Nat) (x1 : Int32) (σ : HS) (H : Heap) (locs : List Loc) (ls : Array Slot), FX12_looks_2  f x1 σ = some R → Hd 45 ceM D ad κ s σ H locs → lv_has ls 2 [(0, .ref (ad 0)), (1, .int x1)] → W p l e ({ frames := 0, cells := 0, slots := 0, locals := 0 } : Room) s m args below meth c H locs 0 0 (MQ below (QV 45 ceM D ad κ R) args s 0 0 (AX 45 ad)) (F0 m 2 ls []) := by
  have hx := C.1
  have hb := C.2.1
  have hown := C.2.2.2.1
  have hts := C.2.2.2.2.1
  intro f
  induction f with
  | zero =>
    intro x1 σ H locs ls h hH hl
    cases h
  | succ f ih =>
    intro x1 σ H locs ls h hH hl
    rw [FX12_looks_2] at h
    refine lv_iload_n hx hb dX12_looks_2 rfl (lv_at hl 1 rfl) ?_
    refine lv_bipush (v := 9) hx hb dX12_looks_3 (by decide) ?_
    refine lv_icmp_ge (tgt := 21) hx hb dX12_looks_5 (by decide) (fun hq_1 => ?_) (fun hq_1 => ?_)
    · rw [if_pos hq_1] at h
      refine lv_aload_n hx hb dX12_looks_21 rfl (lv_at hl 0 rfl) ?_
      refine g_get C hH 0 (Nat.le_of_ble_eq_true rfl) rfl fl_X12_104 (v := .ref (ad 29)) rfl dX12_looks_22 ?_
      refine lv_iconst (v := 2) hx hb dX12_looks_25 (by decide) ?_
      refine lv_aload_n hx hb dX12_looks_26 rfl (lv_at hl 0 rfl) ?_
      refine g_get C hH 0 (Nat.le_of_ble_eq_true rfl) rfl fl_X12_113 (v := .ref (ad 32)) rfl dX12_looks_27 ?_
      refine lv_bipush (v := 18) hx hb dX12_looks_30 (by decide) ?_
      refine g_iald C hH 32 (Nat.le_of_ble_eq_true rfl) rfl (k := 18) (by decide) (ix_in rfl) dX12_looks_32 ?_
      obtain ⟨σ_2, eσ_2, h⟩ := hl_ex h
      refine g_iast C hH 29 (Nat.le_of_ble_eq_true rfl) (fun _ _ => rfl) (k := 2) (by decide) (ix_in rfl) dX12_looks_33 (fun H locs hH => ?_)
      rw [← eσ_2] at hH
      refine lv_aload_n hx hb dX12_looks_34 rfl (lv_at hl 0 rfl) ?_
      refine g_get C hH 0 (Nat.le_of_ble_eq_true rfl) rfl fl_X12_104 (v := .ref (ad 29)) rfl dX12_looks_35 ?_
      refine lv_iconst (v := 3) hx hb dX12_looks_38 (by decide) ?_
      refine lv_aload_n hx hb dX12_looks_39 rfl (lv_at hl 0 rfl) ?_
      refine g_get C hH 0 (Nat.le_of_ble_eq_true rfl) rfl fl_X12_113 (v := .ref (ad 32)) rfl dX12_looks_40 ?_
      refine lv_bipush (v := 19) hx hb dX12_looks_43 (by decide) ?_
      refine g_iald C hH 32 (Nat.le_of_ble_eq_true rfl) rfl (k := 19) (by decide) (ix_in rfl) dX12_looks_45 ?_
      obtain ⟨σ_3, eσ_3, h⟩ := hl_ex h
      refine g_iast C hH 29 (Nat.le_of_ble_eq_true rfl) (fun _ _ => rfl) (k := 3) (by decide) (ix_in rfl) dX12_looks_46 (fun H locs hH => ?_)
      rw [← eσ_3] at hH
      refine lv_aload_n hx hb dX12_looks_47 rfl (lv_at hl 0 rfl) ?_
      refine g_get C hH 0 (Nat.le_of_ble_eq_true rfl) rfl fl_X12_104 (v := .ref (ad 29)) rfl dX12_looks_48 ?_
      refine lv_bipush (v := 6) hx hb dX12_looks_51 (by decide) ?_
      refine lv_aload_n hx hb dX12_looks_53 rfl (lv_at hl 0 rfl) ?_
      refine g_get C hH 0 (Nat.le_of_ble_eq_true rfl) rfl fl_X12_113 (v := .ref (ad 32)) rfl dX12_looks_54 ?_
      refine lv_bipush (v := 20) hx hb dX12_looks_57 (by decide) ?_
      refine g_iald C hH 32 (Nat.le_of_ble_eq_true rfl) rfl (k := 20) (by decide) (ix_in rfl) dX12_looks_59 ?_
      obtain ⟨σ_4, eσ_4, h⟩ := hl_ex h
      refine g_iast C hH 29 (Nat.le_of_ble_eq_true rfl) (fun _ _ => rfl) (k := 6) (by decide) (ix_in rfl) dX12_looks_60 (fun H locs hH => ?_)
      rw [← eσ_4] at hH
      exact g_retV C hH h dX12_looks_61
    · rw [if_neg hq_1] at h
      refine lv_aload_n hx hb dX12_looks_8 rfl (lv_at hl 0 rfl) ?_
      refine g_get C hH 0 (Nat.le_of_ble_eq_true rfl) rfl fl_X12_104 (v := .ref (ad 29)) rfl dX12_looks_9 ?_
      refine lv_iload_n hx hb dX12_looks_12 rfl (lv_at hl 1 rfl) ?_
      refine lv_iconst (v := 0) hx hb dX12_looks_13 (by decide) ?_
      obtain ⟨hi_5, h⟩ := gd_ex h
      obtain ⟨σ_6, eσ_6, h⟩ := hl_ex h
      refine g_iast C hH 29 (Nat.le_of_ble_eq_true rfl) (fun _ _ => rfl) (k := (x1.toNatClampNeg)) rfl (ix_in hi_5) dX12_looks_14 (fun H locs hH => ?_)
      rw [← eσ_6] at hH
      refine lv_iinc (v := (x1 + 1)) (lv' := [(1, .int (x1 + 1)), (0, .ref (ad 0))]) hx hb dX12_looks_15 hl (k := 1) rfl rfl (by decide) rfl (fun ls hl => ?_)
      refine lv_goto (tgt := 2) hx hb dX12_looks_18 (by decide) ?_
      exact ih _ _ _ _ _ h hH (lv_sub hl [1, 0] rfl)
set_option maxHeartbeats 4000000 in
set_option maxRecDepth 100000 in
theorem kX12_looks (l : Launch) (D : va_G) (ad : Nat → Nat) (κ : KC) {σ : HS} {R : HS} (h : FX12_looks σ = some R) : MtV l 45 ceM D ad κ yX12_looks cX12_looks 2 none ({ frames := 0, cells := 0, slots := 0, locals := 0 } : Room) [.ref (ad 0)] σ R := by
  refine open_ (by decide) (Nat.le_of_ble_eq_true rfl) (la := [(0, .ref (ad 0))]) rfl ?_
  intro p e s m below meth c ls C hH hl
  replace C : Cx 45 D ad κ p s m _ meth c cX12_looks RX12 2 none := C
  have hx := C.1
  have hb := C.2.1
  have hown := C.2.2.2.1
  have hts := C.2.2.2.2.1
  rw [FX12_looks] at h
  refine lv_iconst (v := 0) hx hb dX12_looks_0 (by decide) ?_
  refine lv_istore_n (lv' := [(1, .int (0 : Int32)), (0, .ref (ad 0))]) hx hb dX12_looks_1 rfl hl (by decide) rfl (fun ls hl => ?_)
  exact wX12_looks_2 C _ _ _ _ _ _ h hH (lv_sub hl [1, 0] rfl)
-- X12_within
def FX12_within (x0 : Int32) (x1 : Int32) (x2 : Int32) (σ : HS) : Option (Int32 × HS) :=
  if x1 ≤ x0 then if x0 ≤ x2 then some (x0, σ) else some (x2, σ) else some (x1, σ)
set_option maxHeartbeats 4000000 in
set_option maxRecDepth 100000 in
theorem kX12_within (l : Launch) (D : va_G) (ad : Nat → Nat) (κ : KC) {x0 : Int32} {x1 : Int32} {x2 : Int32} {σ : HS} {R : (Int32 × HS)} (h : FX12_within x0 x1 x2 σ = some R) : MtI l 45 ceM D ad κ yX12_within cX12_within 3 (some .int) ({ frames := 0, cells := 0, slots := 0, locals := 0 } : Room) [.int x0, .int x1, .int x2] σ R := by
  refine open_ (by decide) (Nat.le_of_ble_eq_true rfl) (la := [(0, .int x0), (1, .int x1), (2, .int x2)]) rfl ?_
  intro p e s m below meth c ls C hH hl
  replace C : Cx 45 D ad κ p s m _ meth c cX12_within RX12 3 (some .int) := C
  have hx := C.1
  have hb := C.2.1
  have hown := C.2.2.2.1
  have hts := C.2.2.2.2.1
  rw [FX12_within] at h
  refine lv_iload_n hx hb dX12_within_0 rfl (lv_at hl 0 rfl) ?_
  refine lv_iload_n hx hb dX12_within_1 rfl (lv_at hl 1 rfl) ?_
  refine lv_icmp_ge (tgt := 9) hx hb dX12_within_2 (by decide) (fun hq_1 => ?_) (fun hq_1 => ?_)
  · rw [if_pos hq_1] at h
    refine lv_iload_n hx hb dX12_within_9 rfl (lv_at hl 0 rfl) ?_
    refine lv_iload_n hx hb dX12_within_10 rfl (lv_at hl 2 rfl) ?_
    refine lv_icmp_le (tgt := 18) hx hb dX12_within_11 (by decide) (fun hq_2 => ?_) (fun hq_2 => ?_)
    · rw [if_pos hq_2] at h
      refine lv_iload_n hx hb dX12_within_18 rfl (lv_at hl 0 rfl) ?_
      exact g_ret C hH h dX12_within_19
    · rw [if_neg hq_2] at h
      refine lv_iload_n hx hb dX12_within_14 rfl (lv_at hl 2 rfl) ?_
      refine lv_goto (tgt := 19) hx hb dX12_within_15 (by decide) ?_
      exact g_ret C hH h dX12_within_19
  · rw [if_neg hq_1] at h
    refine lv_iload_n hx hb dX12_within_5 rfl (lv_at hl 1 rfl) ?_
    refine lv_goto (tgt := 19) hx hb dX12_within_6 (by decide) ?_
    exact g_ret C hH h dX12_within_19
-- X12_coughsOf
def FX12_coughsOf (x1 : Int32) (σ : HS) : Option (Int32 × HS) :=
  bdV (FX12_looks σ) fun σ_1 => hl_ (pI σ_1 29 0 x1) fun σ_3 => gd (ix x1 33) (hl_ (pI σ_3 29 1 (σ_3.1 32 (x1.toNatClampNeg))) fun σ_5 => bdI (FX12_lawTells (0 : Int32) (1 : Int32) σ_5) fun r_6 σ_7 => bdI (FX12_within r_6 (0 : Int32) (4 : Int32) σ_7) fun r_9 σ_10 => some (r_9, σ_10))
set_option maxHeartbeats 4000000 in
set_option maxRecDepth 100000 in
theorem kX12_coughsOf (l : Launch) (D : va_G) (ad : Nat → Nat) (κ : KC) {x1 : Int32} {σ : HS} {R : (Int32 × HS)} (h : FX12_coughsOf x1 σ = some R) : MtI l 45 ceM D ad κ yX12_coughsOf cX12_coughsOf 2 (some .int) ({ frames := 2, cells := 0, slots := 0, locals := 53 } : Room) [.ref (ad 0), .int x1] σ R := by
  refine open_ (by decide) (Nat.le_of_ble_eq_true rfl) (la := [(0, .ref (ad 0)), (1, .int x1)]) rfl ?_
  intro p e s m below meth c ls C hH hl
  replace C : Cx 45 D ad κ p s m _ meth c cX12_coughsOf RX12 2 (some .int) := C
  have hx := C.1
  have hb := C.2.1
  have hown := C.2.2.2.1
  have hts := C.2.2.2.2.1
  rw [FX12_coughsOf] at h
  refine lv_aload_n hx hb dX12_coughsOf_0 rfl (lv_at hl 0 rfl) ?_
  obtain ⟨σ_1, hc_2, h⟩ := bdV_ex h
  refine g_cv (g_runV (rest := []) C hH hl.1 cV_X12_324 0 (Nat.le_of_ble_eq_true rfl) rfl rfl (kX12_looks l D ad κ hc_2) ⟨rfl, rfl⟩ ⟨(Nat.le_of_ble_eq_true rfl), (Nat.le_of_ble_eq_true rfl)⟩ rfl rfl (Nat.le_of_ble_eq_true rfl) dX12_coughsOf_1 z00) hH (fun H locs hH => ?_)
  refine lv_aload_n hx hb dX12_coughsOf_4 rfl (lv_at hl 0 rfl) ?_
  refine g_get C hH 0 (Nat.le_of_ble_eq_true rfl) rfl fl_X12_104 (v := .ref (ad 29)) rfl dX12_coughsOf_5 ?_
  refine lv_iconst (v := 0) hx hb dX12_coughsOf_8 (by decide) ?_
  refine lv_iload_n hx hb dX12_coughsOf_9 rfl (lv_at hl 1 rfl) ?_
  obtain ⟨σ_3, eσ_3, h⟩ := hl_ex h
  refine g_iast C hH 29 (Nat.le_of_ble_eq_true rfl) (fun _ _ => rfl) (k := 0) (by decide) (ix_in rfl) dX12_coughsOf_10 (fun H locs hH => ?_)
  rw [← eσ_3] at hH
  refine lv_aload_n hx hb dX12_coughsOf_11 rfl (lv_at hl 0 rfl) ?_
  refine g_get C hH 0 (Nat.le_of_ble_eq_true rfl) rfl fl_X12_104 (v := .ref (ad 29)) rfl dX12_coughsOf_12 ?_
  refine lv_iconst (v := 1) hx hb dX12_coughsOf_15 (by decide) ?_
  refine lv_aload_n hx hb dX12_coughsOf_16 rfl (lv_at hl 0 rfl) ?_
  refine g_get C hH 0 (Nat.le_of_ble_eq_true rfl) rfl fl_X12_113 (v := .ref (ad 32)) rfl dX12_coughsOf_17 ?_
  refine lv_iload_n hx hb dX12_coughsOf_20 rfl (lv_at hl 1 rfl) ?_
  obtain ⟨hi_4, h⟩ := gd_ex h
  refine g_iald C hH 32 (Nat.le_of_ble_eq_true rfl) rfl (k := (x1.toNatClampNeg)) rfl (ix_in hi_4) dX12_coughsOf_21 ?_
  obtain ⟨σ_5, eσ_5, h⟩ := hl_ex h
  refine g_iast C hH 29 (Nat.le_of_ble_eq_true rfl) (fun _ _ => rfl) (k := 1) (by decide) (ix_in rfl) dX12_coughsOf_22 (fun H locs hH => ?_)
  rw [← eσ_5] at hH
  refine lv_aload_n hx hb dX12_coughsOf_23 rfl (lv_at hl 0 rfl) ?_
  refine lv_iconst (v := 0) hx hb dX12_coughsOf_24 (by decide) ?_
  refine lv_iconst (v := 1) hx hb dX12_coughsOf_25 (by decide) ?_
  obtain ⟨r_6, σ_7, hc_8, h⟩ := bdI_ex h
  refine g_ci (g_runV (rest := []) C hH hl.1 cV_X12_327 0 (Nat.le_of_ble_eq_true rfl) rfl rfl (kX12_lawTells l D ad κ hc_8) ⟨rfl, rfl⟩ ⟨(Nat.le_of_ble_eq_true rfl), (Nat.le_of_ble_eq_true rfl)⟩ rfl rfl (Nat.le_of_ble_eq_true rfl) dX12_coughsOf_26 z00) hH (fun H locs hH => ?_)
  refine lv_iconst (v := 0) hx hb dX12_coughsOf_29 (by decide) ?_
  refine lv_iconst (v := 4) hx hb dX12_coughsOf_30 (by decide) ?_
  obtain ⟨r_9, σ_10, hc_11, h⟩ := bdI_ex h
  refine g_ci (g_runS (rest := []) C hH hl.1 cS_X12_330 (kX12_within l D ad κ hc_11) ⟨rfl, rfl⟩ ⟨(Nat.le_of_ble_eq_true rfl), (Nat.le_of_ble_eq_true rfl)⟩ rfl rfl (Nat.le_of_ble_eq_true rfl) dX12_coughsOf_31 z00) hH (fun H locs hH => ?_)
  exact g_ret C hH h dX12_coughsOf_34
-- X12_looksAt
def FX12_looksAt (x1 : Int32) (x2 : Int32) (σ : HS) : Option HS :=
  bdV (FX12_looks σ) fun σ_1 => gd (ix (((5 : Int32) * (σ_1.1 0 18)) + x1) 10) (hl_ (pI σ_1 29 4 (σ_1.1 12 ((((5 : Int32) * (σ_1.1 0 18)) + x1).toNatClampNeg))) fun σ_4 => gd (ix (((5 : Int32) * (σ_4.1 0 18)) + x1) 10) (hl_ (pI σ_4 29 5 (σ_4.1 13 ((((5 : Int32) * (σ_4.1 0 18)) + x1).toNatClampNeg))) fun σ_6 => hl_ (pI σ_6 29 7 x2) fun σ_7 => hl_ (pI σ_7 29 8 x1) fun σ_8 => some σ_8))
set_option maxHeartbeats 4000000 in
set_option maxRecDepth 100000 in
theorem kX12_looksAt (l : Launch) (D : va_G) (ad : Nat → Nat) (κ : KC) {x1 : Int32} {x2 : Int32} {σ : HS} {R : HS} (h : FX12_looksAt x1 x2 σ = some R) : MtV l 45 ceM D ad κ yX12_looksAt cX12_looksAt 3 none ({ frames := 1, cells := 0, slots := 0, locals := 21 } : Room) [.ref (ad 0), .int x1, .int x2] σ R := by
  refine open_ (by decide) (Nat.le_of_ble_eq_true rfl) (la := [(0, .ref (ad 0)), (1, .int x1), (2, .int x2)]) rfl ?_
  intro p e s m below meth c ls C hH hl
  replace C : Cx 45 D ad κ p s m _ meth c cX12_looksAt RX12 3 none := C
  have hx := C.1
  have hb := C.2.1
  have hown := C.2.2.2.1
  have hts := C.2.2.2.2.1
  rw [FX12_looksAt] at h
  refine lv_aload_n hx hb dX12_looksAt_0 rfl (lv_at hl 0 rfl) ?_
  obtain ⟨σ_1, hc_2, h⟩ := bdV_ex h
  refine g_cv (g_runV (rest := []) C hH hl.1 cV_X12_324 0 (Nat.le_of_ble_eq_true rfl) rfl rfl (kX12_looks l D ad κ hc_2) ⟨rfl, rfl⟩ ⟨(Nat.le_of_ble_eq_true rfl), (Nat.le_of_ble_eq_true rfl)⟩ rfl rfl (Nat.le_of_ble_eq_true rfl) dX12_looksAt_1 z00) hH (fun H locs hH => ?_)
  refine lv_aload_n hx hb dX12_looksAt_4 rfl (lv_at hl 0 rfl) ?_
  refine g_get C hH 0 (Nat.le_of_ble_eq_true rfl) rfl fl_X12_104 (v := .ref (ad 29)) rfl dX12_looksAt_5 ?_
  refine lv_iconst (v := 4) hx hb dX12_looksAt_8 (by decide) ?_
  refine lv_aload_n hx hb dX12_looksAt_9 rfl (lv_at hl 0 rfl) ?_
  refine g_get C hH 0 (Nat.le_of_ble_eq_true rfl) rfl fl_X12_52 (v := .ref (ad 12)) rfl dX12_looksAt_10 ?_
  refine lv_iconst (v := 5) hx hb dX12_looksAt_13 (by decide) ?_
  refine lv_aload_n hx hb dX12_looksAt_14 rfl (lv_at hl 0 rfl) ?_
  refine g_get C hH 0 (Nat.le_of_ble_eq_true rfl) rfl fl_X12_233 (v := .int (σ_1.1 0 18)) rfl dX12_looksAt_15 ?_
  refine lv_imul hx hb dX12_looksAt_18 ?_
  refine lv_iload_n hx hb dX12_looksAt_19 rfl (lv_at hl 1 rfl) ?_
  refine lv_iadd hx hb dX12_looksAt_20 ?_
  obtain ⟨hi_3, h⟩ := gd_ex h
  refine g_iald C hH 12 (Nat.le_of_ble_eq_true rfl) rfl (k := ((((5 : Int32) * (σ_1.1 0 18)) + x1).toNatClampNeg)) rfl (ix_in hi_3) dX12_looksAt_21 ?_
  obtain ⟨σ_4, eσ_4, h⟩ := hl_ex h
  refine g_iast C hH 29 (Nat.le_of_ble_eq_true rfl) (fun _ _ => rfl) (k := 4) (by decide) (ix_in rfl) dX12_looksAt_22 (fun H locs hH => ?_)
  rw [← eσ_4] at hH
  refine lv_aload_n hx hb dX12_looksAt_23 rfl (lv_at hl 0 rfl) ?_
  refine g_get C hH 0 (Nat.le_of_ble_eq_true rfl) rfl fl_X12_104 (v := .ref (ad 29)) rfl dX12_looksAt_24 ?_
  refine lv_iconst (v := 5) hx hb dX12_looksAt_27 (by decide) ?_
  refine lv_aload_n hx hb dX12_looksAt_28 rfl (lv_at hl 0 rfl) ?_
  refine g_get C hH 0 (Nat.le_of_ble_eq_true rfl) rfl fl_X12_55 (v := .ref (ad 13)) rfl dX12_looksAt_29 ?_
  refine lv_iconst (v := 5) hx hb dX12_looksAt_32 (by decide) ?_
  refine lv_aload_n hx hb dX12_looksAt_33 rfl (lv_at hl 0 rfl) ?_
  refine g_get C hH 0 (Nat.le_of_ble_eq_true rfl) rfl fl_X12_233 (v := .int (σ_4.1 0 18)) rfl dX12_looksAt_34 ?_
  refine lv_imul hx hb dX12_looksAt_37 ?_
  refine lv_iload_n hx hb dX12_looksAt_38 rfl (lv_at hl 1 rfl) ?_
  refine lv_iadd hx hb dX12_looksAt_39 ?_
  obtain ⟨hi_5, h⟩ := gd_ex h
  refine g_iald C hH 13 (Nat.le_of_ble_eq_true rfl) rfl (k := ((((5 : Int32) * (σ_4.1 0 18)) + x1).toNatClampNeg)) rfl (ix_in hi_5) dX12_looksAt_40 ?_
  obtain ⟨σ_6, eσ_6, h⟩ := hl_ex h
  refine g_iast C hH 29 (Nat.le_of_ble_eq_true rfl) (fun _ _ => rfl) (k := 5) (by decide) (ix_in rfl) dX12_looksAt_41 (fun H locs hH => ?_)
  rw [← eσ_6] at hH
  refine lv_aload_n hx hb dX12_looksAt_42 rfl (lv_at hl 0 rfl) ?_
  refine g_get C hH 0 (Nat.le_of_ble_eq_true rfl) rfl fl_X12_104 (v := .ref (ad 29)) rfl dX12_looksAt_43 ?_
  refine lv_bipush (v := 7) hx hb dX12_looksAt_46 (by decide) ?_
  refine lv_iload_n hx hb dX12_looksAt_48 rfl (lv_at hl 2 rfl) ?_
  obtain ⟨σ_7, eσ_7, h⟩ := hl_ex h
  refine g_iast C hH 29 (Nat.le_of_ble_eq_true rfl) (fun _ _ => rfl) (k := 7) (by decide) (ix_in rfl) dX12_looksAt_49 (fun H locs hH => ?_)
  rw [← eσ_7] at hH
  refine lv_aload_n hx hb dX12_looksAt_50 rfl (lv_at hl 0 rfl) ?_
  refine g_get C hH 0 (Nat.le_of_ble_eq_true rfl) rfl fl_X12_104 (v := .ref (ad 29)) rfl dX12_looksAt_51 ?_
  refine lv_bipush (v := 8) hx hb dX12_looksAt_54 (by decide) ?_
  refine lv_iload_n hx hb dX12_looksAt_56 rfl (lv_at hl 1 rfl) ?_
  obtain ⟨σ_8, eσ_8, h⟩ := hl_ex h
  refine g_iast C hH 29 (Nat.le_of_ble_eq_true rfl) (fun _ _ => rfl) (k := 8) (by decide) (ix_in rfl) dX12_looksAt_57 (fun H locs hH => ?_)
  rw [← eσ_8] at hH
  exact g_retV C hH h dX12_looksAt_58
-- X12_worthOf
def FX12_worthOf (x1 : Int32) (x2 : Int32) (x3 : Int32) (σ : HS) : Option (Int32 × HS) :=
  bdV (FX12_looksAt x1 x3 σ) fun σ_1 => hl_ (pI σ_1 29 0 x2) fun σ_3 => gd (ix x2 33) (hl_ (pI σ_3 29 1 (σ_3.1 32 (x2.toNatClampNeg))) fun σ_5 => bdI (FX12_lawTells (1 : Int32) (1 : Int32) σ_5) fun r_6 σ_7 => bdI (FX12_within r_6 (0 : Int32) (9 : Int32) σ_7) fun r_9 σ_10 => some (r_9, σ_10))
set_option maxHeartbeats 4000000 in
set_option maxRecDepth 100000 in
theorem kX12_worthOf (l : Launch) (D : va_G) (ad : Nat → Nat) (κ : KC) {x1 : Int32} {x2 : Int32} {x3 : Int32} {σ : HS} {R : (Int32 × HS)} (h : FX12_worthOf x1 x2 x3 σ = some R) : MtI l 45 ceM D ad κ yX12_worthOf cX12_worthOf 4 (some .int) ({ frames := 2, cells := 0, slots := 0, locals := 53 } : Room) [.ref (ad 0), .int x1, .int x2, .int x3] σ R := by
  refine open_ (by decide) (Nat.le_of_ble_eq_true rfl) (la := [(0, .ref (ad 0)), (1, .int x1), (2, .int x2), (3, .int x3)]) rfl ?_
  intro p e s m below meth c ls C hH hl
  replace C : Cx 45 D ad κ p s m _ meth c cX12_worthOf RX12 4 (some .int) := C
  have hx := C.1
  have hb := C.2.1
  have hown := C.2.2.2.1
  have hts := C.2.2.2.2.1
  rw [FX12_worthOf] at h
  refine lv_aload_n hx hb dX12_worthOf_0 rfl (lv_at hl 0 rfl) ?_
  refine lv_iload_n hx hb dX12_worthOf_1 rfl (lv_at hl 1 rfl) ?_
  refine lv_iload_n hx hb dX12_worthOf_2 rfl (lv_at hl 3 rfl) ?_
  obtain ⟨σ_1, hc_2, h⟩ := bdV_ex h
  refine g_cv (g_runV (rest := []) C hH hl.1 cV_X12_333 0 (Nat.le_of_ble_eq_true rfl) rfl rfl (kX12_looksAt l D ad κ hc_2) ⟨rfl, rfl⟩ ⟨(Nat.le_of_ble_eq_true rfl), (Nat.le_of_ble_eq_true rfl)⟩ rfl rfl (Nat.le_of_ble_eq_true rfl) dX12_worthOf_3 z00) hH (fun H locs hH => ?_)
  refine lv_aload_n hx hb dX12_worthOf_6 rfl (lv_at hl 0 rfl) ?_
  refine g_get C hH 0 (Nat.le_of_ble_eq_true rfl) rfl fl_X12_104 (v := .ref (ad 29)) rfl dX12_worthOf_7 ?_
  refine lv_iconst (v := 0) hx hb dX12_worthOf_10 (by decide) ?_
  refine lv_iload_n hx hb dX12_worthOf_11 rfl (lv_at hl 2 rfl) ?_
  obtain ⟨σ_3, eσ_3, h⟩ := hl_ex h
  refine g_iast C hH 29 (Nat.le_of_ble_eq_true rfl) (fun _ _ => rfl) (k := 0) (by decide) (ix_in rfl) dX12_worthOf_12 (fun H locs hH => ?_)
  rw [← eσ_3] at hH
  refine lv_aload_n hx hb dX12_worthOf_13 rfl (lv_at hl 0 rfl) ?_
  refine g_get C hH 0 (Nat.le_of_ble_eq_true rfl) rfl fl_X12_104 (v := .ref (ad 29)) rfl dX12_worthOf_14 ?_
  refine lv_iconst (v := 1) hx hb dX12_worthOf_17 (by decide) ?_
  refine lv_aload_n hx hb dX12_worthOf_18 rfl (lv_at hl 0 rfl) ?_
  refine g_get C hH 0 (Nat.le_of_ble_eq_true rfl) rfl fl_X12_113 (v := .ref (ad 32)) rfl dX12_worthOf_19 ?_
  refine lv_iload_n hx hb dX12_worthOf_22 rfl (lv_at hl 2 rfl) ?_
  obtain ⟨hi_4, h⟩ := gd_ex h
  refine g_iald C hH 32 (Nat.le_of_ble_eq_true rfl) rfl (k := (x2.toNatClampNeg)) rfl (ix_in hi_4) dX12_worthOf_23 ?_
  obtain ⟨σ_5, eσ_5, h⟩ := hl_ex h
  refine g_iast C hH 29 (Nat.le_of_ble_eq_true rfl) (fun _ _ => rfl) (k := 1) (by decide) (ix_in rfl) dX12_worthOf_24 (fun H locs hH => ?_)
  rw [← eσ_5] at hH
  refine lv_aload_n hx hb dX12_worthOf_25 rfl (lv_at hl 0 rfl) ?_
  refine lv_iconst (v := 1) hx hb dX12_worthOf_26 (by decide) ?_
  refine lv_iconst (v := 1) hx hb dX12_worthOf_27 (by decide) ?_
  obtain ⟨r_6, σ_7, hc_8, h⟩ := bdI_ex h
  refine g_ci (g_runV (rest := []) C hH hl.1 cV_X12_327 0 (Nat.le_of_ble_eq_true rfl) rfl rfl (kX12_lawTells l D ad κ hc_8) ⟨rfl, rfl⟩ ⟨(Nat.le_of_ble_eq_true rfl), (Nat.le_of_ble_eq_true rfl)⟩ rfl rfl (Nat.le_of_ble_eq_true rfl) dX12_worthOf_28 z00) hH (fun H locs hH => ?_)
  refine lv_iconst (v := 0) hx hb dX12_worthOf_31 (by decide) ?_
  refine lv_bipush (v := 9) hx hb dX12_worthOf_32 (by decide) ?_
  obtain ⟨r_9, σ_10, hc_11, h⟩ := bdI_ex h
  refine g_ci (g_runS (rest := []) C hH hl.1 cS_X12_330 (kX12_within l D ad κ hc_11) ⟨rfl, rfl⟩ ⟨(Nat.le_of_ble_eq_true rfl), (Nat.le_of_ble_eq_true rfl)⟩ rfl rfl (Nat.le_of_ble_eq_true rfl) dX12_worthOf_34 z00) hH (fun H locs hH => ?_)
  exact g_ret C hH h dX12_worthOf_37
-- X12_partBits
def FX12_partBits_4  : Nat → Int32 → Int32 → Int32 → HS → Option (Int32 × HS)
  | 0, _, _, _, _ => none
  | f + 1, x1, x2, x3, σ => if (8 : Int32) ≤ x3 then some (x2, σ) else gd (ix ((10 : Int32) + x3) 33) (if (σ.1 32 (((10 : Int32) + x3).toNatClampNeg)) = x1 then hl_ (x2 ||| ((1 : Int32) <<< (x3 &&& 31))) fun x2_4 => FX12_partBits_4  f x1 x2_4 (x3 + 1) σ else FX12_partBits_4  f x1 x2 (x3 + 1) σ)
def FX12_partBits (x1 : Int32) (σ : HS) : Option (Int32 × HS) :=
  FX12_partBits_4 fu x1 (0 : Int32) (0 : Int32) σ
set_option maxHeartbeats 4000000 in
set_option maxRecDepth 100000 in
theorem wX12_partBits_4 (C : Cx 45 D ad κ p s m args meth c cX12_partBits RX12 4 (some .int)) {R : (Int32 × HS)} : ∀ (f : Nat) (x1 : Int32) (x2 : Int32) (x3 : Int32) (σ : HS) (H : Heap) (locs : List Loc) (ls : Array Slot), FX12_partBits_4  f x1 x2 x3 σ = some R → Hd 45 ceM D ad κ s σ H locs → lv_has ls 4 [(0, .ref (ad 0)), (1, .int x1), (2, .int x2), (3, .int x3)] → W p l e ({ frames := 0, cells := 0, slots := 0, locals := 0 } : Room) s m args below meth c H locs 0 0 (MQ below (QI 45 ceM D ad κ R) args s 0 0 (AX 45 ad)) (F0 m 4 ls []) := by
  have hx := C.1
  have hb := C.2.1
  have hown := C.2.2.2.1
  have hts := C.2.2.2.2.1
  intro f
  induction f with
  | zero =>
    intro x1 x2 x3 σ H locs ls h hH hl
    cases h
  | succ f ih =>
    intro x1 x2 x3 σ H locs ls h hH hl
    rw [FX12_partBits_4] at h
    refine lv_iload_n hx hb dX12_partBits_4 rfl (lv_at hl 3 rfl) ?_
    refine lv_bipush (v := 8) hx hb dX12_partBits_5 (by decide) ?_
    refine lv_icmp_ge (tgt := 35) hx hb dX12_partBits_7 (by decide) (fun hq_1 => ?_) (fun hq_1 => ?_)
    · rw [if_pos hq_1] at h
      refine lv_iload_n hx hb dX12_partBits_35 rfl (lv_at hl 2 rfl) ?_
      exact g_ret C hH h dX12_partBits_36
    · rw [if_neg hq_1] at h
      refine lv_aload_n hx hb dX12_partBits_10 rfl (lv_at hl 0 rfl) ?_
      refine g_get C hH 0 (Nat.le_of_ble_eq_true rfl) rfl fl_X12_113 (v := .ref (ad 32)) rfl dX12_partBits_11 ?_
      refine lv_bipush (v := 10) hx hb dX12_partBits_14 (by decide) ?_
      refine lv_iload_n hx hb dX12_partBits_16 rfl (lv_at hl 3 rfl) ?_
      refine lv_iadd hx hb dX12_partBits_17 ?_
      obtain ⟨hi_2, h⟩ := gd_ex h
      refine g_iald C hH 32 (Nat.le_of_ble_eq_true rfl) rfl (k := (((10 : Int32) + x3).toNatClampNeg)) rfl (ix_in hi_2) dX12_partBits_18 ?_
      refine lv_iload_n hx hb dX12_partBits_19 rfl (lv_at hl 1 rfl) ?_
      refine lv_icmp_ne (tgt := 29) hx hb dX12_partBits_20 (by decide) (fun hq_3 => ?_) (fun hq_3 => ?_)
      · rw [if_neg hq_3] at h
        refine lv_iinc (v := (x3 + 1)) (lv' := [(3, .int (x3 + 1)), (0, .ref (ad 0)), (1, .int x1), (2, .int x2)]) hx hb dX12_partBits_29 hl (k := 3) rfl rfl (by decide) rfl (fun ls hl => ?_)
        refine lv_goto (tgt := 4) hx hb dX12_partBits_32 (by decide) ?_
        exact ih _ _ _ _ _ _ _ h hH (lv_sub hl [1, 2, 3, 0] rfl)
      · rw [if_pos hq_3] at h
        refine lv_iload_n hx hb dX12_partBits_23 rfl (lv_at hl 2 rfl) ?_
        refine lv_iconst (v := 1) hx hb dX12_partBits_24 (by decide) ?_
        refine lv_iload_n hx hb dX12_partBits_25 rfl (lv_at hl 3 rfl) ?_
        refine lv_ishl hx hb dX12_partBits_26 ?_
        refine lv_ior hx hb dX12_partBits_27 ?_
        obtain ⟨x2_4, ex2_4, h⟩ := hl_ex h
        refine lv_eqi ex2_4 ?_
        refine lv_istore_n (lv' := [(2, .int x2_4), (0, .ref (ad 0)), (1, .int x1), (3, .int x3)]) hx hb dX12_partBits_28 rfl hl (by decide) rfl (fun ls hl => ?_)
        refine lv_iinc (v := (x3 + 1)) (lv' := [(3, .int (x3 + 1)), (2, .int x2_4), (0, .ref (ad 0)), (1, .int x1)]) hx hb dX12_partBits_29 hl (k := 3) rfl rfl (by decide) rfl (fun ls hl => ?_)
        refine lv_goto (tgt := 4) hx hb dX12_partBits_32 (by decide) ?_
        exact ih _ _ _ _ _ _ _ h hH (lv_sub hl [2, 3, 1, 0] rfl)
set_option maxHeartbeats 4000000 in
set_option maxRecDepth 100000 in
theorem kX12_partBits (l : Launch) (D : va_G) (ad : Nat → Nat) (κ : KC) {x1 : Int32} {σ : HS} {R : (Int32 × HS)} (h : FX12_partBits x1 σ = some R) : MtI l 45 ceM D ad κ yX12_partBits cX12_partBits 4 (some .int) ({ frames := 0, cells := 0, slots := 0, locals := 0 } : Room) [.ref (ad 0), .int x1] σ R := by
  refine open_ (by decide) (Nat.le_of_ble_eq_true rfl) (la := [(0, .ref (ad 0)), (1, .int x1)]) rfl ?_
  intro p e s m below meth c ls C hH hl
  replace C : Cx 45 D ad κ p s m _ meth c cX12_partBits RX12 4 (some .int) := C
  have hx := C.1
  have hb := C.2.1
  have hown := C.2.2.2.1
  have hts := C.2.2.2.2.1
  rw [FX12_partBits] at h
  refine lv_iconst (v := 0) hx hb dX12_partBits_0 (by decide) ?_
  refine lv_istore_n (lv' := [(2, .int (0 : Int32)), (0, .ref (ad 0)), (1, .int x1)]) hx hb dX12_partBits_1 rfl hl (by decide) rfl (fun ls hl => ?_)
  refine lv_iconst (v := 0) hx hb dX12_partBits_2 (by decide) ?_
  refine lv_istore_n (lv' := [(3, .int (0 : Int32)), (2, .int (0 : Int32)), (0, .ref (ad 0)), (1, .int x1)]) hx hb dX12_partBits_3 rfl hl (by decide) rfl (fun ls hl => ?_)
  exact wX12_partBits_4 C _ _ _ _ _ _ _ _ h hH (lv_sub hl [2, 3, 1, 0] rfl)
-- X12_bits
def FX12_bits_4  : Nat → Int32 → Int32 → Int32 → HS → Option (Int32 × HS)
  | 0, _, _, _, _ => none
  | f + 1, x0, x1, x2, σ => if (10 : Int32) ≤ x2 then some (x1, σ) else hl_ (x1 + ((x0 >>> (x2 &&& 31)) &&& (1 : Int32))) fun x1_2 => FX12_bits_4  f x0 x1_2 (x2 + 1) σ
def FX12_bits (x0 : Int32) (σ : HS) : Option (Int32 × HS) :=
  FX12_bits_4 fu x0 (0 : Int32) (0 : Int32) σ
set_option maxHeartbeats 4000000 in
set_option maxRecDepth 100000 in
theorem wX12_bits_4 (C : Cx 45 D ad κ p s m args meth c cX12_bits RX12 3 (some .int)) {R : (Int32 × HS)} : ∀ (f : Nat) (x0 : Int32) (x1 : Int32) (x2 : Int32) (σ : HS) (H : Heap) (locs : List Loc) (ls : Array Slot), FX12_bits_4  f x0 x1 x2 σ = some R → Hd 45 ceM D ad κ s σ H locs → lv_has ls 3 [(0, .int x0), (1, .int x1), (2, .int x2)] → W p l e ({ frames := 0, cells := 0, slots := 0, locals := 0 } : Room) s m args below meth c H locs 0 0 (MQ below (QI 45 ceM D ad κ R) args s 0 0 (AX 45 ad)) (F0 m 4 ls []) := by
  have hx := C.1
  have hb := C.2.1
  have hown := C.2.2.2.1
  have hts := C.2.2.2.2.1
  intro f
  induction f with
  | zero =>
    intro x0 x1 x2 σ H locs ls h hH hl
    cases h
  | succ f ih =>
    intro x0 x1 x2 σ H locs ls h hH hl
    rw [FX12_bits_4] at h
    refine lv_iload_n hx hb dX12_bits_4 rfl (lv_at hl 2 rfl) ?_
    refine lv_bipush (v := 10) hx hb dX12_bits_5 (by decide) ?_
    refine lv_icmp_ge (tgt := 24) hx hb dX12_bits_7 (by decide) (fun hq_1 => ?_) (fun hq_1 => ?_)
    · rw [if_pos hq_1] at h
      refine lv_iload_n hx hb dX12_bits_24 rfl (lv_at hl 1 rfl) ?_
      exact g_ret C hH h dX12_bits_25
    · rw [if_neg hq_1] at h
      refine lv_iload_n hx hb dX12_bits_10 rfl (lv_at hl 1 rfl) ?_
      refine lv_iload_n hx hb dX12_bits_11 rfl (lv_at hl 0 rfl) ?_
      refine lv_iload_n hx hb dX12_bits_12 rfl (lv_at hl 2 rfl) ?_
      refine lv_ishr hx hb dX12_bits_13 ?_
      refine lv_iconst (v := 1) hx hb dX12_bits_14 (by decide) ?_
      refine lv_iand hx hb dX12_bits_15 ?_
      refine lv_iadd hx hb dX12_bits_16 ?_
      obtain ⟨x1_2, ex1_2, h⟩ := hl_ex h
      refine lv_eqi ex1_2 ?_
      refine lv_istore_n (lv' := [(1, .int x1_2), (0, .int x0), (2, .int x2)]) hx hb dX12_bits_17 rfl hl (by decide) rfl (fun ls hl => ?_)
      refine lv_iinc (v := (x2 + 1)) (lv' := [(2, .int (x2 + 1)), (1, .int x1_2), (0, .int x0)]) hx hb dX12_bits_18 hl (k := 2) rfl rfl (by decide) rfl (fun ls hl => ?_)
      refine lv_goto (tgt := 4) hx hb dX12_bits_21 (by decide) ?_
      exact ih _ _ _ _ _ _ _ h hH (lv_sub hl [2, 1, 0] rfl)
set_option maxHeartbeats 4000000 in
set_option maxRecDepth 100000 in
theorem kX12_bits (l : Launch) (D : va_G) (ad : Nat → Nat) (κ : KC) {x0 : Int32} {σ : HS} {R : (Int32 × HS)} (h : FX12_bits x0 σ = some R) : MtI l 45 ceM D ad κ yX12_bits cX12_bits 3 (some .int) ({ frames := 0, cells := 0, slots := 0, locals := 0 } : Room) [.int x0] σ R := by
  refine open_ (by decide) (Nat.le_of_ble_eq_true rfl) (la := [(0, .int x0)]) rfl ?_
  intro p e s m below meth c ls C hH hl
  replace C : Cx 45 D ad κ p s m _ meth c cX12_bits RX12 3 (some .int) := C
  have hx := C.1
  have hb := C.2.1
  have hown := C.2.2.2.1
  have hts := C.2.2.2.2.1
  rw [FX12_bits] at h
  refine lv_iconst (v := 0) hx hb dX12_bits_0 (by decide) ?_
  refine lv_istore_n (lv' := [(1, .int (0 : Int32)), (0, .int x0)]) hx hb dX12_bits_1 rfl hl (by decide) rfl (fun ls hl => ?_)
  refine lv_iconst (v := 0) hx hb dX12_bits_2 (by decide) ?_
  refine lv_istore_n (lv' := [(2, .int (0 : Int32)), (1, .int (0 : Int32)), (0, .int x0)]) hx hb dX12_bits_3 rfl hl (by decide) rfl (fun ls hl => ?_)
  exact wX12_bits_4 C _ _ _ _ _ _ _ _ h hH (lv_sub hl [2, 1, 0] rfl)
-- X12_rentsOf
def FX12_rentsOf (x1 : Int32) (σ : HS) : Option (Int32 × HS) :=
  bdI (FX12_partBits x1 σ) fun r_1 σ_2 => bdI (FX12_bits r_1 σ_2) fun r_4 σ_5 => bdV (FX12_looksAt x1 r_4 σ_5) fun σ_7 => bdI (FX12_lawTells (2 : Int32) (σ_7.1 29 4) σ_7) fun r_9 σ_10 => bdI (FX12_within r_9 (0 : Int32) (99 : Int32) σ_10) fun r_12 σ_13 => some (r_12, σ_13)
set_option maxHeartbeats 4000000 in
set_option maxRecDepth 100000 in
theorem kX12_rentsOf (l : Launch) (D : va_G) (ad : Nat → Nat) (κ : KC) {x1 : Int32} {σ : HS} {R : (Int32 × HS)} (h : FX12_rentsOf x1 σ = some R) : MtI l 45 ceM D ad κ yX12_rentsOf cX12_rentsOf 2 (some .int) ({ frames := 2, cells := 0, slots := 0, locals := 53 } : Room) [.ref (ad 0), .int x1] σ R := by
  refine open_ (by decide) (Nat.le_of_ble_eq_true rfl) (la := [(0, .ref (ad 0)), (1, .int x1)]) rfl ?_
  intro p e s m below meth c ls C hH hl
  replace C : Cx 45 D ad κ p s m _ meth c cX12_rentsOf RX12 2 (some .int) := C
  have hx := C.1
  have hb := C.2.1
  have hown := C.2.2.2.1
  have hts := C.2.2.2.2.1
  rw [FX12_rentsOf] at h
  refine lv_aload_n hx hb dX12_rentsOf_0 rfl (lv_at hl 0 rfl) ?_
  refine lv_iload_n hx hb dX12_rentsOf_1 rfl (lv_at hl 1 rfl) ?_
  refine lv_aload_n hx hb dX12_rentsOf_2 rfl (lv_at hl 0 rfl) ?_
  refine lv_iload_n hx hb dX12_rentsOf_3 rfl (lv_at hl 1 rfl) ?_
  obtain ⟨r_1, σ_2, hc_3, h⟩ := bdI_ex h
  refine g_ci (g_runV (rest := [.int x1, .ref (ad 0)]) C hH hl.1 cV_X12_336 0 (Nat.le_of_ble_eq_true rfl) rfl rfl (kX12_partBits l D ad κ hc_3) ⟨rfl, rfl⟩ ⟨(Nat.le_of_ble_eq_true rfl), (Nat.le_of_ble_eq_true rfl)⟩ rfl rfl (Nat.le_of_ble_eq_true rfl) dX12_rentsOf_4 z00) hH (fun H locs hH => ?_)
  obtain ⟨r_4, σ_5, hc_6, h⟩ := bdI_ex h
  refine g_ci (g_runS (rest := [.int x1, .ref (ad 0)]) C hH hl.1 cS_X12_339 (kX12_bits l D ad κ hc_6) ⟨rfl, rfl⟩ ⟨(Nat.le_of_ble_eq_true rfl), (Nat.le_of_ble_eq_true rfl)⟩ rfl rfl (Nat.le_of_ble_eq_true rfl) dX12_rentsOf_7 z00) hH (fun H locs hH => ?_)
  obtain ⟨σ_7, hc_8, h⟩ := bdV_ex h
  refine g_cv (g_runV (rest := []) C hH hl.1 cV_X12_333 0 (Nat.le_of_ble_eq_true rfl) rfl rfl (kX12_looksAt l D ad κ hc_8) ⟨rfl, rfl⟩ ⟨(Nat.le_of_ble_eq_true rfl), (Nat.le_of_ble_eq_true rfl)⟩ rfl rfl (Nat.le_of_ble_eq_true rfl) dX12_rentsOf_10 z00) hH (fun H locs hH => ?_)
  refine lv_aload_n hx hb dX12_rentsOf_13 rfl (lv_at hl 0 rfl) ?_
  refine lv_iconst (v := 2) hx hb dX12_rentsOf_14 (by decide) ?_
  refine lv_aload_n hx hb dX12_rentsOf_15 rfl (lv_at hl 0 rfl) ?_
  refine g_get C hH 0 (Nat.le_of_ble_eq_true rfl) rfl fl_X12_104 (v := .ref (ad 29)) rfl dX12_rentsOf_16 ?_
  refine lv_iconst (v := 4) hx hb dX12_rentsOf_19 (by decide) ?_
  refine g_iald C hH 29 (Nat.le_of_ble_eq_true rfl) rfl (k := 4) (by decide) (ix_in rfl) dX12_rentsOf_20 ?_
  obtain ⟨r_9, σ_10, hc_11, h⟩ := bdI_ex h
  refine g_ci (g_runV (rest := []) C hH hl.1 cV_X12_327 0 (Nat.le_of_ble_eq_true rfl) rfl rfl (kX12_lawTells l D ad κ hc_11) ⟨rfl, rfl⟩ ⟨(Nat.le_of_ble_eq_true rfl), (Nat.le_of_ble_eq_true rfl)⟩ rfl rfl (Nat.le_of_ble_eq_true rfl) dX12_rentsOf_21 z00) hH (fun H locs hH => ?_)
  refine lv_iconst (v := 0) hx hb dX12_rentsOf_24 (by decide) ?_
  refine lv_bipush (v := 99) hx hb dX12_rentsOf_25 (by decide) ?_
  obtain ⟨r_12, σ_13, hc_14, h⟩ := bdI_ex h
  refine g_ci (g_runS (rest := []) C hH hl.1 cS_X12_330 (kX12_within l D ad κ hc_14) ⟨rfl, rfl⟩ ⟨(Nat.le_of_ble_eq_true rfl), (Nat.le_of_ble_eq_true rfl)⟩ rfl rfl (Nat.le_of_ble_eq_true rfl) dX12_rentsOf_27 z00) hH (fun H locs hH => ?_)
  exact g_ret C hH h dX12_rentsOf_30
-- X12_curesOf
def FX12_curesOf (x1 : Int32) (σ : HS) : Option (Int32 × HS) :=
  bdI (FX12_partBits x1 σ) fun r_1 σ_2 => bdI (FX12_bits r_1 σ_2) fun r_4 σ_5 => bdV (FX12_looksAt x1 r_4 σ_5) fun σ_7 => bdI (FX12_lawTells (3 : Int32) (0 : Int32) σ_7) fun r_9 σ_10 => bdI (FX12_within r_9 (0 : Int32) (99 : Int32) σ_10) fun r_12 σ_13 => some (r_12, σ_13)
set_option maxHeartbeats 4000000 in
set_option maxRecDepth 100000 in
theorem kX12_curesOf (l : Launch) (D : va_G) (ad : Nat → Nat) (κ : KC) {x1 : Int32} {σ : HS} {R : (Int32 × HS)} (h : FX12_curesOf x1 σ = some R) : MtI l 45 ceM D ad κ yX12_curesOf cX12_curesOf 2 (some .int) ({ frames := 2, cells := 0, slots := 0, locals := 53 } : Room) [.ref (ad 0), .int x1] σ R := by
  refine open_ (by decide) (Nat.le_of_ble_eq_true rfl) (la := [(0, .ref (ad 0)), (1, .int x1)]) rfl ?_
  intro p e s m below meth c ls C hH hl
  replace C : Cx 45 D ad κ p s m _ meth c cX12_curesOf RX12 2 (some .int) := C
  have hx := C.1
  have hb := C.2.1
  have hown := C.2.2.2.1
  have hts := C.2.2.2.2.1
  rw [FX12_curesOf] at h
  refine lv_aload_n hx hb dX12_curesOf_0 rfl (lv_at hl 0 rfl) ?_
  refine lv_iload_n hx hb dX12_curesOf_1 rfl (lv_at hl 1 rfl) ?_
  refine lv_aload_n hx hb dX12_curesOf_2 rfl (lv_at hl 0 rfl) ?_
  refine lv_iload_n hx hb dX12_curesOf_3 rfl (lv_at hl 1 rfl) ?_
  obtain ⟨r_1, σ_2, hc_3, h⟩ := bdI_ex h
  refine g_ci (g_runV (rest := [.int x1, .ref (ad 0)]) C hH hl.1 cV_X12_336 0 (Nat.le_of_ble_eq_true rfl) rfl rfl (kX12_partBits l D ad κ hc_3) ⟨rfl, rfl⟩ ⟨(Nat.le_of_ble_eq_true rfl), (Nat.le_of_ble_eq_true rfl)⟩ rfl rfl (Nat.le_of_ble_eq_true rfl) dX12_curesOf_4 z00) hH (fun H locs hH => ?_)
  obtain ⟨r_4, σ_5, hc_6, h⟩ := bdI_ex h
  refine g_ci (g_runS (rest := [.int x1, .ref (ad 0)]) C hH hl.1 cS_X12_339 (kX12_bits l D ad κ hc_6) ⟨rfl, rfl⟩ ⟨(Nat.le_of_ble_eq_true rfl), (Nat.le_of_ble_eq_true rfl)⟩ rfl rfl (Nat.le_of_ble_eq_true rfl) dX12_curesOf_7 z00) hH (fun H locs hH => ?_)
  obtain ⟨σ_7, hc_8, h⟩ := bdV_ex h
  refine g_cv (g_runV (rest := []) C hH hl.1 cV_X12_333 0 (Nat.le_of_ble_eq_true rfl) rfl rfl (kX12_looksAt l D ad κ hc_8) ⟨rfl, rfl⟩ ⟨(Nat.le_of_ble_eq_true rfl), (Nat.le_of_ble_eq_true rfl)⟩ rfl rfl (Nat.le_of_ble_eq_true rfl) dX12_curesOf_10 z00) hH (fun H locs hH => ?_)
  refine lv_aload_n hx hb dX12_curesOf_13 rfl (lv_at hl 0 rfl) ?_
  refine lv_iconst (v := 3) hx hb dX12_curesOf_14 (by decide) ?_
  refine lv_iconst (v := 0) hx hb dX12_curesOf_15 (by decide) ?_
  obtain ⟨r_9, σ_10, hc_11, h⟩ := bdI_ex h
  refine g_ci (g_runV (rest := []) C hH hl.1 cV_X12_327 0 (Nat.le_of_ble_eq_true rfl) rfl rfl (kX12_lawTells l D ad κ hc_11) ⟨rfl, rfl⟩ ⟨(Nat.le_of_ble_eq_true rfl), (Nat.le_of_ble_eq_true rfl)⟩ rfl rfl (Nat.le_of_ble_eq_true rfl) dX12_curesOf_16 z00) hH (fun H locs hH => ?_)
  refine lv_iconst (v := 0) hx hb dX12_curesOf_19 (by decide) ?_
  refine lv_bipush (v := 99) hx hb dX12_curesOf_20 (by decide) ?_
  obtain ⟨r_12, σ_13, hc_14, h⟩ := bdI_ex h
  refine g_ci (g_runS (rest := []) C hH hl.1 cS_X12_330 (kX12_within l D ad κ hc_14) ⟨rfl, rfl⟩ ⟨(Nat.le_of_ble_eq_true rfl), (Nat.le_of_ble_eq_true rfl)⟩ rfl rfl (Nat.le_of_ble_eq_true rfl) dX12_curesOf_22 z00) hH (fun H locs hH => ?_)
  exact g_ret C hH h dX12_curesOf_25
-- X12_mixed
def FX12_mixed (x0 : Int32) (x1 : Int32) (σ : HS) : Option (Int32 × HS) :=
  hl_ (((x0 ^^^ x1) * (1103515245 : Int32)) + (12345 : Int32)) fun x2_1 => some ((x2_1 ^^^ (ushr x2_1 (15 : Int32))), σ)
set_option maxHeartbeats 4000000 in
set_option maxRecDepth 100000 in
theorem kX12_mixed (l : Launch) (D : va_G) (ad : Nat → Nat) (κ : KC) {x0 : Int32} {x1 : Int32} {σ : HS} {R : (Int32 × HS)} (h : FX12_mixed x0 x1 σ = some R) : MtI l 45 ceM D ad κ yX12_mixed cX12_mixed 3 (some .int) ({ frames := 0, cells := 0, slots := 0, locals := 0 } : Room) [.int x0, .int x1] σ R := by
  refine open_ (by decide) (Nat.le_of_ble_eq_true rfl) (la := [(0, .int x0), (1, .int x1)]) rfl ?_
  intro p e s m below meth c ls C hH hl
  replace C : Cx 45 D ad κ p s m _ meth c cX12_mixed RX12 3 (some .int) := C
  have hx := C.1
  have hb := C.2.1
  have hown := C.2.2.2.1
  have hts := C.2.2.2.2.1
  rw [FX12_mixed] at h
  refine lv_iload_n hx hb dX12_mixed_0 rfl (lv_at hl 0 rfl) ?_
  refine lv_iload_n hx hb dX12_mixed_1 rfl (lv_at hl 1 rfl) ?_
  refine lv_ixor hx hb dX12_mixed_2 ?_
  refine lv_ldcw (v := 1103515245) hx hb hown (hts _ kc_X12_317) dX12_mixed_3 ?_
  refine lv_imul hx hb dX12_mixed_6 ?_
  refine lv_sipush (v := 12345) hx hb dX12_mixed_7 (by decide) ?_
  refine lv_iadd hx hb dX12_mixed_10 ?_
  obtain ⟨x2_1, ex2_1, h⟩ := hl_ex h
  refine lv_eqi ex2_1 ?_
  refine lv_istore_n (lv' := [(2, .int x2_1), (0, .int x0), (1, .int x1)]) hx hb dX12_mixed_11 rfl hl (by decide) rfl (fun ls hl => ?_)
  refine lv_iload_n hx hb dX12_mixed_12 rfl (lv_at hl 0 rfl) ?_
  refine lv_iload_n hx hb dX12_mixed_13 rfl (lv_at hl 0 rfl) ?_
  refine lv_bipush (v := 15) hx hb dX12_mixed_14 (by decide) ?_
  refine lv_iushr (v := ushr x2_1 (15 : Int32)) hx hb dX12_mixed_16 rfl ?_
  refine lv_ixor hx hb dX12_mixed_17 ?_
  exact g_ret C hH h dX12_mixed_18
-- X12_lotOf
def FX12_lotOf (x1 : Int32) (σ : HS) : Option (Int32 × HS) :=
  bdI (FX12_mixed (σ.1 0 49) (167 : Int32) σ) fun r_1 σ_2 => bdI (FX12_mixed r_1 x1 σ_2) fun r_4 σ_5 => some (((ushr r_4 (1 : Int32)) - ((ushr r_4 (1 : Int32)) / (4 : Int32)) * (4 : Int32)), σ_5)
set_option maxHeartbeats 4000000 in
set_option maxRecDepth 100000 in
theorem kX12_lotOf (l : Launch) (D : va_G) (ad : Nat → Nat) (κ : KC) {x1 : Int32} {σ : HS} {R : (Int32 × HS)} (h : FX12_lotOf x1 σ = some R) : MtI l 45 ceM D ad κ yX12_lotOf cX12_lotOf 2 (some .int) ({ frames := 1, cells := 0, slots := 0, locals := 22 } : Room) [.ref (ad 0), .int x1] σ R := by
  refine open_ (by decide) (Nat.le_of_ble_eq_true rfl) (la := [(0, .ref (ad 0)), (1, .int x1)]) rfl ?_
  intro p e s m below meth c ls C hH hl
  replace C : Cx 45 D ad κ p s m _ meth c cX12_lotOf RX12 2 (some .int) := C
  have hx := C.1
  have hb := C.2.1
  have hown := C.2.2.2.1
  have hts := C.2.2.2.2.1
  rw [FX12_lotOf] at h
  refine lv_aload_n hx hb dX12_lotOf_0 rfl (lv_at hl 0 rfl) ?_
  refine g_get C hH 0 (Nat.le_of_ble_eq_true rfl) rfl fl_X12_314 (v := .int (σ.1 0 49)) rfl dX12_lotOf_1 ?_
  refine lv_sipush (v := 167) hx hb dX12_lotOf_4 (by decide) ?_
  obtain ⟨r_1, σ_2, hc_3, h⟩ := bdI_ex h
  refine g_ci (g_runS (rest := []) C hH hl.1 cS_X12_318 (kX12_mixed l D ad κ hc_3) ⟨rfl, rfl⟩ ⟨(Nat.le_of_ble_eq_true rfl), (Nat.le_of_ble_eq_true rfl)⟩ rfl rfl (Nat.le_of_ble_eq_true rfl) dX12_lotOf_7 z00) hH (fun H locs hH => ?_)
  refine lv_iload_n hx hb dX12_lotOf_10 rfl (lv_at hl 1 rfl) ?_
  obtain ⟨r_4, σ_5, hc_6, h⟩ := bdI_ex h
  refine g_ci (g_runS (rest := []) C hH hl.1 cS_X12_318 (kX12_mixed l D ad κ hc_6) ⟨rfl, rfl⟩ ⟨(Nat.le_of_ble_eq_true rfl), (Nat.le_of_ble_eq_true rfl)⟩ rfl rfl (Nat.le_of_ble_eq_true rfl) dX12_lotOf_11 z00) hH (fun H locs hH => ?_)
  refine lv_iconst (v := 1) hx hb dX12_lotOf_14 (by decide) ?_
  refine lv_iushr (v := ushr r_4 (1 : Int32)) hx hb dX12_lotOf_15 rfl ?_
  refine lv_iconst (v := 4) hx hb dX12_lotOf_16 (by decide) ?_
  refine lv_irem hx hb dX12_lotOf_17 (by decide) ?_
  exact g_ret C hH h dX12_lotOf_18
-- X12_coughsNow
def FX12_coughsNow_4  : Nat → Int32 → Int32 → HS → Option (Int32 × HS)
  | 0, _, _, _ => none
  | f + 1, x1, x2, σ => bdI (FX12_many σ) fun r_1 σ_2 => if r_1 ≤ x2 then some (x1, σ_2) else bdI (FX12_lotOf (((16 : Int32) * (σ_2.1 32 20)) + x2) σ_2) fun r_5 σ_6 => bdI (FX12_coughsOf x2 σ_6) fun r_8 σ_9 => if r_8 ≤ r_5 then FX12_coughsNow_4  f x1 (x2 + 1) σ_9 else hl_ (x1 ||| ((1 : Int32) <<< (x2 &&& 31))) fun x1_12 => FX12_coughsNow_4  f x1_12 (x2 + 1) σ_9
def FX12_coughsNow (σ : HS) : Option (Int32 × HS) :=
  FX12_coughsNow_4 fu (0 : Int32) (0 : Int32) σ
set_option maxHeartbeats 4000000 in
set_option maxRecDepth 100000 in
theorem wX12_coughsNow_4 (C : Cx 45 D ad κ p s m args meth c cX12_coughsNow RX12 3 (some .int)) {R : (Int32 × HS)} : ∀ (f : Nat) (x1 : Int32) (x2 : Int32) (σ : HS) (H : Heap) (locs : List Loc) (ls : Array Slot), FX12_coughsNow_4  f x1 x2 σ = some R → Hd 45 ceM D ad κ s σ H locs → lv_has ls 3 [(0, .ref (ad 0)), (1, .int x1), (2, .int x2)] → W p l e ({ frames := 3, cells := 0, slots := 0, locals := 74 } : Room) s m args below meth c H locs 0 0 (MQ below (QI 45 ceM D ad κ R) args s 0 0 (AX 45 ad)) (F0 m 4 ls []) := by
  have hx := C.1
  have hb := C.2.1
  have hown := C.2.2.2.1
  have hts := C.2.2.2.2.1
  intro f
  induction f with
  | zero =>
    intro x1 x2 σ H locs ls h hH hl
    cases h
  | succ f ih =>
    intro x1 x2 σ H locs ls h hH hl
    rw [FX12_coughsNow_4] at h
    refine lv_iload_n hx hb dX12_coughsNow_4 rfl (lv_at hl 2 rfl) ?_
    refine lv_aload_n hx hb dX12_coughsNow_5 rfl (lv_at hl 0 rfl) ?_
    obtain ⟨r_1, σ_2, hc_3, h⟩ := bdI_ex h
    refine g_ci (g_runV (rest := [.int x2]) C hH hl.1 cV_X12_306 0 (Nat.le_of_ble_eq_true rfl) rfl rfl (kX12_many l D ad κ hc_3) ⟨rfl, rfl⟩ ⟨(Nat.le_of_ble_eq_true rfl), (Nat.le_of_ble_eq_true rfl)⟩ rfl rfl (Nat.le_of_ble_eq_true rfl) dX12_coughsNow_6 z00) hH (fun H locs hH => ?_)
    refine lv_icmp_ge (tgt := 48) hx hb dX12_coughsNow_9 (by decide) (fun hq_4 => ?_) (fun hq_4 => ?_)
    · rw [if_pos hq_4] at h
      refine lv_iload_n hx hb dX12_coughsNow_48 rfl (lv_at hl 1 rfl) ?_
      exact g_ret C hH h dX12_coughsNow_49
    · rw [if_neg hq_4] at h
      refine lv_aload_n hx hb dX12_coughsNow_12 rfl (lv_at hl 0 rfl) ?_
      refine lv_bipush (v := 16) hx hb dX12_coughsNow_13 (by decide) ?_
      refine lv_aload_n hx hb dX12_coughsNow_15 rfl (lv_at hl 0 rfl) ?_
      refine g_get C hH 0 (Nat.le_of_ble_eq_true rfl) rfl fl_X12_113 (v := .ref (ad 32)) rfl dX12_coughsNow_16 ?_
      refine lv_bipush (v := 20) hx hb dX12_coughsNow_19 (by decide) ?_
      refine g_iald C hH 32 (Nat.le_of_ble_eq_true rfl) rfl (k := 20) (by decide) (ix_in rfl) dX12_coughsNow_21 ?_
      refine lv_imul hx hb dX12_coughsNow_22 ?_
      refine lv_iload_n hx hb dX12_coughsNow_23 rfl (lv_at hl 2 rfl) ?_
      refine lv_iadd hx hb dX12_coughsNow_24 ?_
      obtain ⟨r_5, σ_6, hc_7, h⟩ := bdI_ex h
      refine g_ci (g_runV (rest := []) C hH hl.1 cV_X12_345 0 (Nat.le_of_ble_eq_true rfl) rfl rfl (kX12_lotOf l D ad κ hc_7) ⟨rfl, rfl⟩ ⟨(Nat.le_of_ble_eq_true rfl), (Nat.le_of_ble_eq_true rfl)⟩ rfl rfl (Nat.le_of_ble_eq_true rfl) dX12_coughsNow_25 z00) hH (fun H locs hH => ?_)
      refine lv_aload_n hx hb dX12_coughsNow_28 rfl (lv_at hl 0 rfl) ?_
      refine lv_iload_n hx hb dX12_coughsNow_29 rfl (lv_at hl 2 rfl) ?_
      obtain ⟨r_8, σ_9, hc_10, h⟩ := bdI_ex h
      refine g_ci (g_runV (rest := [.int r_5]) C hH hl.1 cV_X12_348 0 (Nat.le_of_ble_eq_true rfl) rfl rfl (kX12_coughsOf l D ad κ hc_10) ⟨rfl, rfl⟩ ⟨(Nat.le_of_ble_eq_true rfl), (Nat.le_of_ble_eq_true rfl)⟩ rfl rfl (Nat.le_of_ble_eq_true rfl) dX12_coughsNow_30 z00) hH (fun H locs hH => ?_)
      refine lv_icmp_ge (tgt := 42) hx hb dX12_coughsNow_33 (by decide) (fun hq_11 => ?_) (fun hq_11 => ?_)
      · rw [if_pos hq_11] at h
        refine lv_iinc (v := (x2 + 1)) (lv' := [(2, .int (x2 + 1)), (0, .ref (ad 0)), (1, .int x1)]) hx hb dX12_coughsNow_42 hl (k := 2) rfl rfl (by decide) rfl (fun ls hl => ?_)
        refine lv_goto (tgt := 4) hx hb dX12_coughsNow_45 (by decide) ?_
        exact ih _ _ _ _ _ _ h hH (lv_sub hl [1, 2, 0] rfl)
      · rw [if_neg hq_11] at h
        refine lv_iload_n hx hb dX12_coughsNow_36 rfl (lv_at hl 1 rfl) ?_
        refine lv_iconst (v := 1) hx hb dX12_coughsNow_37 (by decide) ?_
        refine lv_iload_n hx hb dX12_coughsNow_38 rfl (lv_at hl 2 rfl) ?_
        refine lv_ishl hx hb dX12_coughsNow_39 ?_
        refine lv_ior hx hb dX12_coughsNow_40 ?_
        obtain ⟨x1_12, ex1_12, h⟩ := hl_ex h
        refine lv_eqi ex1_12 ?_
        refine lv_istore_n (lv' := [(1, .int x1_12), (0, .ref (ad 0)), (2, .int x2)]) hx hb dX12_coughsNow_41 rfl hl (by decide) rfl (fun ls hl => ?_)
        refine lv_iinc (v := (x2 + 1)) (lv' := [(2, .int (x2 + 1)), (1, .int x1_12), (0, .ref (ad 0))]) hx hb dX12_coughsNow_42 hl (k := 2) rfl rfl (by decide) rfl (fun ls hl => ?_)
        refine lv_goto (tgt := 4) hx hb dX12_coughsNow_45 (by decide) ?_
        exact ih _ _ _ _ _ _ h hH (lv_sub hl [2, 1, 0] rfl)
set_option maxHeartbeats 4000000 in
set_option maxRecDepth 100000 in
theorem kX12_coughsNow (l : Launch) (D : va_G) (ad : Nat → Nat) (κ : KC) {σ : HS} {R : (Int32 × HS)} (h : FX12_coughsNow σ = some R) : MtI l 45 ceM D ad κ yX12_coughsNow cX12_coughsNow 3 (some .int) ({ frames := 3, cells := 0, slots := 0, locals := 74 } : Room) [.ref (ad 0)] σ R := by
  refine open_ (by decide) (Nat.le_of_ble_eq_true rfl) (la := [(0, .ref (ad 0))]) rfl ?_
  intro p e s m below meth c ls C hH hl
  replace C : Cx 45 D ad κ p s m _ meth c cX12_coughsNow RX12 3 (some .int) := C
  have hx := C.1
  have hb := C.2.1
  have hown := C.2.2.2.1
  have hts := C.2.2.2.2.1
  rw [FX12_coughsNow] at h
  refine lv_iconst (v := 0) hx hb dX12_coughsNow_0 (by decide) ?_
  refine lv_istore_n (lv' := [(1, .int (0 : Int32)), (0, .ref (ad 0))]) hx hb dX12_coughsNow_1 rfl hl (by decide) rfl (fun ls hl => ?_)
  refine lv_iconst (v := 0) hx hb dX12_coughsNow_2 (by decide) ?_
  refine lv_istore_n (lv' := [(2, .int (0 : Int32)), (1, .int (0 : Int32)), (0, .ref (ad 0))]) hx hb dX12_coughsNow_3 rfl hl (by decide) rfl (fun ls hl => ?_)
  exact wX12_coughsNow_4 C _ _ _ _ _ _ _ h hH (lv_sub hl [2, 1, 0] rfl)
-- X12_partBy
def FX12_partBy_4  : Nat → Int32 → Int32 → Int32 → Int32 → HS → Option (Int32 × HS)
  | 0, _, _, _, _, _ => none
  | f + 1, x0, x1, x2, x3, σ => if x1 ≤ x3 then if x2 ≤ (7 : Int32) then some (x2, σ) else some ((7 : Int32), σ) else hl_ (x2 + ((x0 >>> (x3 &&& 31)) &&& (1 : Int32))) fun x2_3 => FX12_partBy_4  f x0 x1 x2_3 (x3 + 1) σ
def FX12_partBy (x0 : Int32) (x1 : Int32) (σ : HS) : Option (Int32 × HS) :=
  FX12_partBy_4 fu x0 x1 (0 : Int32) (0 : Int32) σ
set_option maxHeartbeats 4000000 in
set_option maxRecDepth 100000 in
theorem wX12_partBy_4 (C : Cx 45 D ad κ p s m args meth c cX12_partBy RX12 4 (some .int)) {R : (Int32 × HS)} : ∀ (f : Nat) (x0 : Int32) (x1 : Int32) (x2 : Int32) (x3 : Int32) (σ : HS) (H : Heap) (locs : List Loc) (ls : Array Slot), FX12_partBy_4  f x0 x1 x2 x3 σ = some R → Hd 45 ceM D ad κ s σ H locs → lv_has ls 4 [(0, .int x0), (1, .int x1), (2, .int x2), (3, .int x3)] → W p l e ({ frames := 0, cells := 0, slots := 0, locals := 0 } : Room) s m args below meth c H locs 0 0 (MQ below (QI 45 ceM D ad κ R) args s 0 0 (AX 45 ad)) (F0 m 4 ls []) := by
  have hx := C.1
  have hb := C.2.1
  have hown := C.2.2.2.1
  have hts := C.2.2.2.2.1
  intro f
  induction f with
  | zero =>
    intro x0 x1 x2 x3 σ H locs ls h hH hl
    cases h
  | succ f ih =>
    intro x0 x1 x2 x3 σ H locs ls h hH hl
    rw [FX12_partBy_4] at h
    refine lv_iload_n hx hb dX12_partBy_4 rfl (lv_at hl 3 rfl) ?_
    refine lv_iload_n hx hb dX12_partBy_5 rfl (lv_at hl 1 rfl) ?_
    refine lv_icmp_ge (tgt := 23) hx hb dX12_partBy_6 (by decide) (fun hq_1 => ?_) (fun hq_1 => ?_)
    · rw [if_pos hq_1] at h
      refine lv_iload_n hx hb dX12_partBy_23 rfl (lv_at hl 2 rfl) ?_
      refine lv_bipush (v := 7) hx hb dX12_partBy_24 (by decide) ?_
      refine lv_icmp_le (tgt := 34) hx hb dX12_partBy_26 (by decide) (fun hq_2 => ?_) (fun hq_2 => ?_)
      · rw [if_pos hq_2] at h
        refine lv_iload_n hx hb dX12_partBy_34 rfl (lv_at hl 2 rfl) ?_
        exact g_ret C hH h dX12_partBy_35
      · rw [if_neg hq_2] at h
        refine lv_bipush (v := 7) hx hb dX12_partBy_29 (by decide) ?_
        refine lv_goto (tgt := 35) hx hb dX12_partBy_31 (by decide) ?_
        exact g_ret C hH h dX12_partBy_35
    · rw [if_neg hq_1] at h
      refine lv_iload_n hx hb dX12_partBy_9 rfl (lv_at hl 2 rfl) ?_
      refine lv_iload_n hx hb dX12_partBy_10 rfl (lv_at hl 0 rfl) ?_
      refine lv_iload_n hx hb dX12_partBy_11 rfl (lv_at hl 3 rfl) ?_
      refine lv_ishr hx hb dX12_partBy_12 ?_
      refine lv_iconst (v := 1) hx hb dX12_partBy_13 (by decide) ?_
      refine lv_iand hx hb dX12_partBy_14 ?_
      refine lv_iadd hx hb dX12_partBy_15 ?_
      obtain ⟨x2_3, ex2_3, h⟩ := hl_ex h
      refine lv_eqi ex2_3 ?_
      refine lv_istore_n (lv' := [(2, .int x2_3), (0, .int x0), (1, .int x1), (3, .int x3)]) hx hb dX12_partBy_16 rfl hl (by decide) rfl (fun ls hl => ?_)
      refine lv_iinc (v := (x3 + 1)) (lv' := [(3, .int (x3 + 1)), (2, .int x2_3), (0, .int x0), (1, .int x1)]) hx hb dX12_partBy_17 hl (k := 3) rfl rfl (by decide) rfl (fun ls hl => ?_)
      refine lv_goto (tgt := 4) hx hb dX12_partBy_20 (by decide) ?_
      exact ih _ _ _ _ _ _ _ _ h hH (lv_sub hl [2, 3, 1, 0] rfl)
set_option maxHeartbeats 4000000 in
set_option maxRecDepth 100000 in
theorem kX12_partBy (l : Launch) (D : va_G) (ad : Nat → Nat) (κ : KC) {x0 : Int32} {x1 : Int32} {σ : HS} {R : (Int32 × HS)} (h : FX12_partBy x0 x1 σ = some R) : MtI l 45 ceM D ad κ yX12_partBy cX12_partBy 4 (some .int) ({ frames := 0, cells := 0, slots := 0, locals := 0 } : Room) [.int x0, .int x1] σ R := by
  refine open_ (by decide) (Nat.le_of_ble_eq_true rfl) (la := [(0, .int x0), (1, .int x1)]) rfl ?_
  intro p e s m below meth c ls C hH hl
  replace C : Cx 45 D ad κ p s m _ meth c cX12_partBy RX12 4 (some .int) := C
  have hx := C.1
  have hb := C.2.1
  have hown := C.2.2.2.1
  have hts := C.2.2.2.2.1
  rw [FX12_partBy] at h
  refine lv_iconst (v := 0) hx hb dX12_partBy_0 (by decide) ?_
  refine lv_istore_n (lv' := [(2, .int (0 : Int32)), (0, .int x0), (1, .int x1)]) hx hb dX12_partBy_1 rfl hl (by decide) rfl (fun ls hl => ?_)
  refine lv_iconst (v := 0) hx hb dX12_partBy_2 (by decide) ?_
  refine lv_istore_n (lv' := [(3, .int (0 : Int32)), (2, .int (0 : Int32)), (0, .int x0), (1, .int x1)]) hx hb dX12_partBy_3 rfl hl (by decide) rfl (fun ls hl => ?_)
  exact wX12_partBy_4 C _ _ _ _ _ _ _ _ _ h hH (lv_sub hl [2, 3, 1, 0] rfl)
-- X12_partsBy
def FX12_partsBy (x1 : Int32) (σ : HS) : Option (Int32 × HS) :=
  bdI (FX12_many σ) fun r_1 σ_2 => if r_1 = 0 then some ((0 : Int32), σ_2) else bdI (FX12_many σ_2) fun r_5 σ_6 => bdI (FX12_partBy x1 (r_5 - (1 : Int32)) σ_6) fun r_8 σ_9 => some ((r_8 + (1 : Int32)), σ_9)
set_option maxHeartbeats 4000000 in
set_option maxRecDepth 100000 in
theorem kX12_partsBy (l : Launch) (D : va_G) (ad : Nat → Nat) (κ : KC) {x1 : Int32} {σ : HS} {R : (Int32 × HS)} (h : FX12_partsBy x1 σ = some R) : MtI l 45 ceM D ad κ yX12_partsBy cX12_partsBy 2 (some .int) ({ frames := 1, cells := 0, slots := 0, locals := 23 } : Room) [.ref (ad 0), .int x1] σ R := by
  refine open_ (by decide) (Nat.le_of_ble_eq_true rfl) (la := [(0, .ref (ad 0)), (1, .int x1)]) rfl ?_
  intro p e s m below meth c ls C hH hl
  replace C : Cx 45 D ad κ p s m _ meth c cX12_partsBy RX12 2 (some .int) := C
  have hx := C.1
  have hb := C.2.1
  have hown := C.2.2.2.1
  have hts := C.2.2.2.2.1
  rw [FX12_partsBy] at h
  refine lv_aload_n hx hb dX12_partsBy_0 rfl (lv_at hl 0 rfl) ?_
  obtain ⟨r_1, σ_2, hc_3, h⟩ := bdI_ex h
  refine g_ci (g_runV (rest := []) C hH hl.1 cV_X12_306 0 (Nat.le_of_ble_eq_true rfl) rfl rfl (kX12_many l D ad κ hc_3) ⟨rfl, rfl⟩ ⟨(Nat.le_of_ble_eq_true rfl), (Nat.le_of_ble_eq_true rfl)⟩ rfl rfl (Nat.le_of_ble_eq_true rfl) dX12_partsBy_1 z00) hH (fun H locs hH => ?_)
  refine lv_if_ne (tgt := 11) hx hb dX12_partsBy_4 (by decide) (fun hq_4 => ?_) (fun hq_4 => ?_)
  · rw [if_neg hq_4] at h
    refine lv_iload_n hx hb dX12_partsBy_11 rfl (lv_at hl 1 rfl) ?_
    refine lv_aload_n hx hb dX12_partsBy_12 rfl (lv_at hl 0 rfl) ?_
    obtain ⟨r_5, σ_6, hc_7, h⟩ := bdI_ex h
    refine g_ci (g_runV (rest := [.int x1]) C hH hl.1 cV_X12_306 0 (Nat.le_of_ble_eq_true rfl) rfl rfl (kX12_many l D ad κ hc_7) ⟨rfl, rfl⟩ ⟨(Nat.le_of_ble_eq_true rfl), (Nat.le_of_ble_eq_true rfl)⟩ rfl rfl (Nat.le_of_ble_eq_true rfl) dX12_partsBy_13 z00) hH (fun H locs hH => ?_)
    refine lv_iconst (v := 1) hx hb dX12_partsBy_16 (by decide) ?_
    refine lv_isub hx hb dX12_partsBy_17 ?_
    obtain ⟨r_8, σ_9, hc_10, h⟩ := bdI_ex h
    refine g_ci (g_runS (rest := []) C hH hl.1 cS_X12_342 (kX12_partBy l D ad κ hc_10) ⟨rfl, rfl⟩ ⟨(Nat.le_of_ble_eq_true rfl), (Nat.le_of_ble_eq_true rfl)⟩ rfl rfl (Nat.le_of_ble_eq_true rfl) dX12_partsBy_18 z00) hH (fun H locs hH => ?_)
    refine lv_iconst (v := 1) hx hb dX12_partsBy_21 (by decide) ?_
    refine lv_iadd hx hb dX12_partsBy_22 ?_
    exact g_ret C hH h dX12_partsBy_23
  · rw [if_pos hq_4] at h
    refine lv_iconst (v := 0) hx hb dX12_partsBy_7 (by decide) ?_
    refine lv_goto (tgt := 23) hx hb dX12_partsBy_8 (by decide) ?_
    exact g_ret C hH h dX12_partsBy_23
-- X12_weekGoes
def FX12_weekGoes_22 (k7 : Int32 → Int32 → HS → Option HS) : Nat → Int32 → Int32 → Int32 → HS → Option HS
  | 0, _, _, _, _ => none
  | f + 1, x1, x2, x3, σ => bdI (FX12_many σ) fun r_1 σ_2 => if r_1 ≤ x3 then gd (ix ((28 : Int32) + x2) 33) (bdI (FX12_rentsOf x2 σ_2) fun r_6 σ_7 => gd (ix ((28 : Int32) + x2) 33) (hl_ (pI σ_7 32 (((28 : Int32) + x2).toNatClampNeg) ((σ_2.1 32 (((28 : Int32) + x2).toNatClampNeg)) + r_6)) fun σ_10 => k7 x1 (x2 + 1) σ_10)) else bdI (FX12_partBy x1 x3 σ_2) fun r_11 σ_12 => gd (ix ((10 : Int32) + r_11) 33) (if (σ_12.1 32 (((10 : Int32) + r_11).toNatClampNeg)) = x2 then gd (ix ((23 : Int32) + x2) 33) (bdI (FX12_worthOf x2 x3 r_11 σ_12) fun r_17 σ_18 => gd (ix ((23 : Int32) + x2) 33) (hl_ (pI σ_18 32 (((23 : Int32) + x2).toNatClampNeg) ((σ_12.1 32 (((23 : Int32) + x2).toNatClampNeg)) + r_17)) fun σ_21 => FX12_weekGoes_22 k7 f x1 x2 (x3 + 1) σ_21)) else FX12_weekGoes_22 k7 f x1 x2 (x3 + 1) σ_12)
def FX12_weekGoes_7  : Nat → Int32 → Int32 → HS → Option HS
  | 0, _, _, _ => none
  | f + 1, x1, x2, σ => gd (ix (σ.1 0 18) 2) (if (σ.1 11 ((σ.1 0 18).toNatClampNeg)) ≤ x2 then hl_ (pI σ 32 21 x1) fun σ_24 => bdI (FX12_partsBy x1 σ_24) fun r_25 σ_26 => hl_ (pI σ_26 32 22 r_25) fun σ_28 => hl_ (pI σ_28 32 20 ((σ_28.1 32 20) + (1 : Int32))) fun σ_29 => some σ_29 else FX12_weekGoes_22 (FX12_weekGoes_7  f) fu x1 x2 (0 : Int32) σ)
def FX12_weekGoes (σ : HS) : Option HS :=
  bdI (FX12_coughsNow σ) fun r_30 σ_31 => FX12_weekGoes_7 fu r_30 (0 : Int32) σ_31
set_option maxHeartbeats 4000000 in
set_option maxRecDepth 100000 in
theorem wX12_weekGoes_22 (C : Cx 45 D ad κ p s m args meth c cX12_weekGoes RX12 5 none) {R : HS} {k7 : Int32 → Int32 → HS → Option HS} (K7 : ∀ (x1 : Int32) (x2 : Int32) (σ : HS) (H : Heap) (locs : List Loc) (ls : Array Slot), k7 x1 x2 σ = some R → Hd 45 ceM D ad κ s σ H locs → lv_has ls 5 [(0, .ref (ad 0)), (1, .int x1), (2, .int x2)] → W p l e ({ frames := 4, cells := 0, slots := 0, locals := 96 } : Room) s m args below meth c H locs 0 0 (MQ below (QV 45 ceM D ad κ R) args s 0 0 (AX 45 ad)) (F0 m 7 ls [])) : ∀ (f : Nat) (x1 : Int32) (x2 : Int32) (x3 : Int32) (σ : HS) (H : Heap) (locs : List Loc) (ls : Array Slot), FX12_weekGoes_22 k7 f x1 x2 x3 σ = some R → Hd 45 ceM D ad κ s σ H locs → lv_has ls 5 [(0, .ref (ad 0)), (1, .int x1), (2, .int x2), (3, .int x3)] → W p l e ({ frames := 4, cells := 0, slots := 0, locals := 96 } : Room) s m args below meth c H locs 0 0 (MQ below (QV 45 ceM D ad κ R) args s 0 0 (AX 45 ad)) (F0 m 22 ls []) := by
  have hx := C.1
  have hb := C.2.1
  have hown := C.2.2.2.1
  have hts := C.2.2.2.2.1
  intro f
  induction f with
  | zero =>
    intro x1 x2 x3 σ H locs ls h hH hl
    cases h
  | succ f ih =>
    intro x1 x2 x3 σ H locs ls h hH hl
    rw [FX12_weekGoes_22] at h
    refine lv_iload_n hx hb dX12_weekGoes_22 rfl (lv_at hl 3 rfl) ?_
    refine lv_aload_n hx hb dX12_weekGoes_23 rfl (lv_at hl 0 rfl) ?_
    obtain ⟨r_1, σ_2, hc_3, h⟩ := bdI_ex h
    refine g_ci (g_runV (rest := [.int x3]) C hH hl.1 cV_X12_306 0 (Nat.le_of_ble_eq_true rfl) rfl rfl (kX12_many l D ad κ hc_3) ⟨rfl, rfl⟩ ⟨(Nat.le_of_ble_eq_true rfl), (Nat.le_of_ble_eq_true rfl)⟩ rfl rfl (Nat.le_of_ble_eq_true rfl) dX12_weekGoes_24 z00) hH (fun H locs hH => ?_)
    refine lv_icmp_ge (tgt := 77) hx hb dX12_weekGoes_27 (by decide) (fun hq_4 => ?_) (fun hq_4 => ?_)
    · rw [if_pos hq_4] at h
      refine lv_aload_n hx hb dX12_weekGoes_77 rfl (lv_at hl 0 rfl) ?_
      refine g_get C hH 0 (Nat.le_of_ble_eq_true rfl) rfl fl_X12_113 (v := .ref (ad 32)) rfl dX12_weekGoes_78 ?_
      refine lv_bipush (v := 28) hx hb dX12_weekGoes_81 (by decide) ?_
      refine lv_iload_n hx hb dX12_weekGoes_83 rfl (lv_at hl 2 rfl) ?_
      refine lv_iadd hx hb dX12_weekGoes_84 ?_
      refine lv_dup2_11 hx hb dX12_weekGoes_85 rfl rfl ?_
      obtain ⟨hi_5, h⟩ := gd_ex h
      refine g_iald C hH 32 (Nat.le_of_ble_eq_true rfl) rfl (k := (((28 : Int32) + x2).toNatClampNeg)) rfl (ix_in hi_5) dX12_weekGoes_86 ?_
      refine lv_aload_n hx hb dX12_weekGoes_87 rfl (lv_at hl 0 rfl) ?_
      refine lv_iload_n hx hb dX12_weekGoes_88 rfl (lv_at hl 2 rfl) ?_
      obtain ⟨r_6, σ_7, hc_8, h⟩ := bdI_ex h
      refine g_ci (g_runV (rest := [.int (σ_2.1 32 (((28 : Int32) + x2).toNatClampNeg)), .int ((28 : Int32) + x2), .ref (ad 32)]) C hH hl.1 cV_X12_357 0 (Nat.le_of_ble_eq_true rfl) rfl rfl (kX12_rentsOf l D ad κ hc_8) ⟨rfl, rfl⟩ ⟨(Nat.le_of_ble_eq_true rfl), (Nat.le_of_ble_eq_true rfl)⟩ rfl rfl (Nat.le_of_ble_eq_true rfl) dX12_weekGoes_89 z00) hH (fun H locs hH => ?_)
      refine lv_iadd hx hb dX12_weekGoes_92 ?_
      obtain ⟨hi_9, h⟩ := gd_ex h
      obtain ⟨σ_10, eσ_10, h⟩ := hl_ex h
      refine g_iast C hH 32 (Nat.le_of_ble_eq_true rfl) (fun _ _ => rfl) (k := (((28 : Int32) + x2).toNatClampNeg)) rfl (ix_in hi_9) dX12_weekGoes_93 (fun H locs hH => ?_)
      rw [← eσ_10] at hH
      refine lv_iinc (v := (x2 + 1)) (lv' := [(2, .int (x2 + 1)), (0, .ref (ad 0)), (1, .int x1), (3, .int x3)]) hx hb dX12_weekGoes_94 hl (k := 2) rfl rfl (by decide) rfl (fun ls hl => ?_)
      refine lv_goto (tgt := 7) hx hb dX12_weekGoes_97 (by decide) ?_
      exact K7 _ _ _ _ _ _ h hH (lv_sub hl [1, 2, 0] rfl)
    · rw [if_neg hq_4] at h
      refine lv_iload_n hx hb dX12_weekGoes_30 rfl (lv_at hl 1 rfl) ?_
      refine lv_iload_n hx hb dX12_weekGoes_31 rfl (lv_at hl 3 rfl) ?_
      obtain ⟨r_11, σ_12, hc_13, h⟩ := bdI_ex h
      refine g_ci (g_runS (rest := []) C hH hl.1 cS_X12_342 (kX12_partBy l D ad κ hc_13) ⟨rfl, rfl⟩ ⟨(Nat.le_of_ble_eq_true rfl), (Nat.le_of_ble_eq_true rfl)⟩ rfl rfl (Nat.le_of_ble_eq_true rfl) dX12_weekGoes_32 z00) hH (fun H locs hH => ?_)
      refine lv_istore (lv' := [(4, .int r_11), (0, .ref (ad 0)), (1, .int x1), (2, .int x2), (3, .int x3)]) hx hb dX12_weekGoes_35 hl (by decide) rfl (fun ls hl => ?_)
      refine lv_aload_n hx hb dX12_weekGoes_37 rfl (lv_at hl 1 rfl) ?_
      refine g_get C hH 0 (Nat.le_of_ble_eq_true rfl) rfl fl_X12_113 (v := .ref (ad 32)) rfl dX12_weekGoes_38 ?_
      refine lv_bipush (v := 10) hx hb dX12_weekGoes_41 (by decide) ?_
      refine lv_iload hx hb dX12_weekGoes_43 (lv_at hl 0 rfl) ?_
      refine lv_iadd hx hb dX12_weekGoes_45 ?_
      obtain ⟨hi_14, h⟩ := gd_ex h
      refine g_iald C hH 32 (Nat.le_of_ble_eq_true rfl) rfl (k := (((10 : Int32) + r_11).toNatClampNeg)) rfl (ix_in hi_14) dX12_weekGoes_46 ?_
      refine lv_iload_n hx hb dX12_weekGoes_47 rfl (lv_at hl 3 rfl) ?_
      refine lv_icmp_ne (tgt := 71) hx hb dX12_weekGoes_48 (by decide) (fun hq_15 => ?_) (fun hq_15 => ?_)
      · rw [if_neg hq_15] at h
        refine lv_iinc (v := (x3 + 1)) (lv' := [(3, .int (x3 + 1)), (4, .int r_11), (0, .ref (ad 0)), (1, .int x1), (2, .int x2)]) hx hb dX12_weekGoes_71 hl (k := 4) rfl rfl (by decide) rfl (fun ls hl => ?_)
        refine lv_goto (tgt := 22) hx hb dX12_weekGoes_74 (by decide) ?_
        exact ih _ _ _ _ _ _ _ h hH (lv_sub hl [2, 3, 4, 0] rfl)
      · rw [if_pos hq_15] at h
        refine lv_aload_n hx hb dX12_weekGoes_51 rfl (lv_at hl 1 rfl) ?_
        refine g_get C hH 0 (Nat.le_of_ble_eq_true rfl) rfl fl_X12_113 (v := .ref (ad 32)) rfl dX12_weekGoes_52 ?_
        refine lv_bipush (v := 23) hx hb dX12_weekGoes_55 (by decide) ?_
        refine lv_iload_n hx hb dX12_weekGoes_57 rfl (lv_at hl 3 rfl) ?_
        refine lv_iadd hx hb dX12_weekGoes_58 ?_
        refine lv_dup2_11 hx hb dX12_weekGoes_59 rfl rfl ?_
        obtain ⟨hi_16, h⟩ := gd_ex h
        refine g_iald C hH 32 (Nat.le_of_ble_eq_true rfl) rfl (k := (((23 : Int32) + x2).toNatClampNeg)) rfl (ix_in hi_16) dX12_weekGoes_60 ?_
        refine lv_aload_n hx hb dX12_weekGoes_61 rfl (lv_at hl 1 rfl) ?_
        refine lv_iload_n hx hb dX12_weekGoes_62 rfl (lv_at hl 3 rfl) ?_
        refine lv_iload_n hx hb dX12_weekGoes_63 rfl (lv_at hl 4 rfl) ?_
        refine lv_iload hx hb dX12_weekGoes_64 (lv_at hl 0 rfl) ?_
        obtain ⟨r_17, σ_18, hc_19, h⟩ := bdI_ex h
        refine g_ci (g_runV (rest := [.int (σ_12.1 32 (((23 : Int32) + x2).toNatClampNeg)), .int ((23 : Int32) + x2), .ref (ad 32)]) C hH hl.1 cV_X12_354 0 (Nat.le_of_ble_eq_true rfl) rfl rfl (kX12_worthOf l D ad κ hc_19) ⟨rfl, rfl⟩ ⟨(Nat.le_of_ble_eq_true rfl), (Nat.le_of_ble_eq_true rfl)⟩ rfl rfl (Nat.le_of_ble_eq_true rfl) dX12_weekGoes_66 z00) hH (fun H locs hH => ?_)
        refine lv_iadd hx hb dX12_weekGoes_69 ?_
        obtain ⟨hi_20, h⟩ := gd_ex h
        obtain ⟨σ_21, eσ_21, h⟩ := hl_ex h
        refine g_iast C hH 32 (Nat.le_of_ble_eq_true rfl) (fun _ _ => rfl) (k := (((23 : Int32) + x2).toNatClampNeg)) rfl (ix_in hi_20) dX12_weekGoes_70 (fun H locs hH => ?_)
        rw [← eσ_21] at hH
        refine lv_iinc (v := (x3 + 1)) (lv' := [(3, .int (x3 + 1)), (4, .int r_11), (0, .ref (ad 0)), (1, .int x1), (2, .int x2)]) hx hb dX12_weekGoes_71 hl (k := 4) rfl rfl (by decide) rfl (fun ls hl => ?_)
        refine lv_goto (tgt := 22) hx hb dX12_weekGoes_74 (by decide) ?_
        exact ih _ _ _ _ _ _ _ h hH (lv_sub hl [2, 3, 4, 0] rfl)
set_option maxHeartbeats 4000000 in
set_option maxRecDepth 100000 in
theorem wX12_weekGoes_7 (C : Cx 45 D ad κ p s m args meth c cX12_weekGoes RX12 5 none) {R : HS} : ∀ (f : Nat) (x1 : Int32) (x2 : Int32) (σ : HS) (H : Heap) (locs : List Loc) (ls : Array Slot), FX12_weekGoes_7  f x1 x2 σ = some R → Hd 45 ceM D ad κ s σ H locs → lv_has ls 5 [(0, .ref (ad 0)), (1, .int x1), (2, .int x2)] → W p l e ({ frames := 4, cells := 0, slots := 0, locals := 96 } : Room) s m args below meth c H locs 0 0 (MQ below (QV 45 ceM D ad κ R) args s 0 0 (AX 45 ad)) (F0 m 7 ls []) := by
  have hx := C.1
  have hb := C.2.1
  have hown := C.2.2.2.1
  have hts := C.2.2.2.2.1
  intro f
  induction f with
  | zero =>
    intro x1 x2 σ H locs ls h hH hl
    cases h
  | succ f ih =>
    intro x1 x2 σ H locs ls h hH hl
    rw [FX12_weekGoes_7] at h
    refine lv_iload_n hx hb dX12_weekGoes_7 rfl (lv_at hl 2 rfl) ?_
    refine lv_aload_n hx hb dX12_weekGoes_8 rfl (lv_at hl 0 rfl) ?_
    refine g_get C hH 0 (Nat.le_of_ble_eq_true rfl) rfl fl_X12_49 (v := .ref (ad 11)) rfl dX12_weekGoes_9 ?_
    refine lv_aload_n hx hb dX12_weekGoes_12 rfl (lv_at hl 0 rfl) ?_
    refine g_get C hH 0 (Nat.le_of_ble_eq_true rfl) rfl fl_X12_233 (v := .int (σ.1 0 18)) rfl dX12_weekGoes_13 ?_
    obtain ⟨hi_22, h⟩ := gd_ex h
    refine g_iald C hH 11 (Nat.le_of_ble_eq_true rfl) rfl (k := ((σ.1 0 18).toNatClampNeg)) rfl (ix_in hi_22) dX12_weekGoes_16 ?_
    refine lv_icmp_ge (tgt := 100) hx hb dX12_weekGoes_17 (by decide) (fun hq_23 => ?_) (fun hq_23 => ?_)
    · rw [if_pos hq_23] at h
      refine lv_aload_n hx hb dX12_weekGoes_100 rfl (lv_at hl 0 rfl) ?_
      refine g_get C hH 0 (Nat.le_of_ble_eq_true rfl) rfl fl_X12_113 (v := .ref (ad 32)) rfl dX12_weekGoes_101 ?_
      refine lv_bipush (v := 21) hx hb dX12_weekGoes_104 (by decide) ?_
      refine lv_iload_n hx hb dX12_weekGoes_106 rfl (lv_at hl 1 rfl) ?_
      obtain ⟨σ_24, eσ_24, h⟩ := hl_ex h
      refine g_iast C hH 32 (Nat.le_of_ble_eq_true rfl) (fun _ _ => rfl) (k := 21) (by decide) (ix_in rfl) dX12_weekGoes_107 (fun H locs hH => ?_)
      rw [← eσ_24] at hH
      refine lv_aload_n hx hb dX12_weekGoes_108 rfl (lv_at hl 0 rfl) ?_
      refine g_get C hH 0 (Nat.le_of_ble_eq_true rfl) rfl fl_X12_113 (v := .ref (ad 32)) rfl dX12_weekGoes_109 ?_
      refine lv_bipush (v := 22) hx hb dX12_weekGoes_112 (by decide) ?_
      refine lv_aload_n hx hb dX12_weekGoes_114 rfl (lv_at hl 0 rfl) ?_
      refine lv_iload_n hx hb dX12_weekGoes_115 rfl (lv_at hl 1 rfl) ?_
      obtain ⟨r_25, σ_26, hc_27, h⟩ := bdI_ex h
      refine g_ci (g_runV (rest := [.int (22 : Int32), .ref (ad 32)]) C hH hl.1 cV_X12_360 0 (Nat.le_of_ble_eq_true rfl) rfl rfl (kX12_partsBy l D ad κ hc_27) ⟨rfl, rfl⟩ ⟨(Nat.le_of_ble_eq_true rfl), (Nat.le_of_ble_eq_true rfl)⟩ rfl rfl (Nat.le_of_ble_eq_true rfl) dX12_weekGoes_116 z00) hH (fun H locs hH => ?_)
      obtain ⟨σ_28, eσ_28, h⟩ := hl_ex h
      refine g_iast C hH 32 (Nat.le_of_ble_eq_true rfl) (fun _ _ => rfl) (k := 22) (by decide) (ix_in rfl) dX12_weekGoes_119 (fun H locs hH => ?_)
      rw [← eσ_28] at hH
      refine lv_aload_n hx hb dX12_weekGoes_120 rfl (lv_at hl 0 rfl) ?_
      refine g_get C hH 0 (Nat.le_of_ble_eq_true rfl) rfl fl_X12_113 (v := .ref (ad 32)) rfl dX12_weekGoes_121 ?_
      refine lv_bipush (v := 20) hx hb dX12_weekGoes_124 (by decide) ?_
      refine lv_dup2_11 hx hb dX12_weekGoes_126 rfl rfl ?_
      refine g_iald C hH 32 (Nat.le_of_ble_eq_true rfl) rfl (k := 20) (by decide) (ix_in rfl) dX12_weekGoes_127 ?_
      refine lv_iconst (v := 1) hx hb dX12_weekGoes_128 (by decide) ?_
      refine lv_iadd hx hb dX12_weekGoes_129 ?_
      obtain ⟨σ_29, eσ_29, h⟩ := hl_ex h
      refine g_iast C hH 32 (Nat.le_of_ble_eq_true rfl) (fun _ _ => rfl) (k := 20) (by decide) (ix_in rfl) dX12_weekGoes_130 (fun H locs hH => ?_)
      rw [← eσ_29] at hH
      exact g_retV C hH h dX12_weekGoes_131
    · rw [if_neg hq_23] at h
      refine lv_iconst (v := 0) hx hb dX12_weekGoes_20 (by decide) ?_
      refine lv_istore_n (lv' := [(3, .int (0 : Int32)), (0, .ref (ad 0)), (1, .int x1), (2, .int x2)]) hx hb dX12_weekGoes_21 rfl hl (by decide) rfl (fun ls hl => ?_)
      exact wX12_weekGoes_22 C ih _ _ _ _ _ _ _ _ h hH (lv_sub hl [1, 2, 3, 0] rfl)
set_option maxHeartbeats 4000000 in
set_option maxRecDepth 100000 in
theorem kX12_weekGoes (l : Launch) (D : va_G) (ad : Nat → Nat) (κ : KC) {σ : HS} {R : HS} (h : FX12_weekGoes σ = some R) : MtV l 45 ceM D ad κ yX12_weekGoes cX12_weekGoes 5 none ({ frames := 4, cells := 0, slots := 0, locals := 96 } : Room) [.ref (ad 0)] σ R := by
  refine open_ (by decide) (Nat.le_of_ble_eq_true rfl) (la := [(0, .ref (ad 0))]) rfl ?_
  intro p e s m below meth c ls C hH hl
  replace C : Cx 45 D ad κ p s m _ meth c cX12_weekGoes RX12 5 none := C
  have hx := C.1
  have hb := C.2.1
  have hown := C.2.2.2.1
  have hts := C.2.2.2.2.1
  rw [FX12_weekGoes] at h
  refine lv_aload_n hx hb dX12_weekGoes_0 rfl (lv_at hl 0 rfl) ?_
  obtain ⟨r_30, σ_31, hc_32, h⟩ := bdI_ex h
  refine g_ci (g_runV (rest := []) C hH hl.1 cV_X12_351 0 (Nat.le_of_ble_eq_true rfl) rfl rfl (kX12_coughsNow l D ad κ hc_32) ⟨rfl, rfl⟩ ⟨(Nat.le_of_ble_eq_true rfl), (Nat.le_of_ble_eq_true rfl)⟩ rfl rfl (Nat.le_of_ble_eq_true rfl) dX12_weekGoes_1 z00) hH (fun H locs hH => ?_)
  refine lv_istore_n (lv' := [(1, .int r_30), (0, .ref (ad 0))]) hx hb dX12_weekGoes_4 rfl hl (by decide) rfl (fun ls hl => ?_)
  refine lv_iconst (v := 0) hx hb dX12_weekGoes_5 (by decide) ?_
  refine lv_istore_n (lv' := [(2, .int (0 : Int32)), (1, .int r_30), (0, .ref (ad 0))]) hx hb dX12_weekGoes_6 rfl hl (by decide) rfl (fun ls hl => ?_)
  exact wX12_weekGoes_7 C _ _ _ _ _ _ _ h hH (lv_sub hl [2, 1, 0] rfl)
-- X12_goes
def FX12_goes_2  : Nat → Int32 → Int32 → HS → Option HS
  | 0, _, _, _ => none
  | f + 1, x1, x2, σ => if x1 ≤ x2 then some σ else bdV (FX12_weekGoes σ) fun σ_2 => FX12_goes_2  f x1 (x2 + 1) σ_2
def FX12_goes (x1 : Int32) (σ : HS) : Option HS :=
  FX12_goes_2 fu x1 (0 : Int32) σ
set_option maxHeartbeats 4000000 in
set_option maxRecDepth 100000 in
theorem wX12_goes_2 (C : Cx 45 D ad κ p s m args meth c cX12_goes RX12 3 none) {R : HS} : ∀ (f : Nat) (x1 : Int32) (x2 : Int32) (σ : HS) (H : Heap) (locs : List Loc) (ls : Array Slot), FX12_goes_2  f x1 x2 σ = some R → Hd 45 ceM D ad κ s σ H locs → lv_has ls 3 [(0, .ref (ad 0)), (1, .int x1), (2, .int x2)] → W p l e ({ frames := 5, cells := 0, slots := 0, locals := 120 } : Room) s m args below meth c H locs 0 0 (MQ below (QV 45 ceM D ad κ R) args s 0 0 (AX 45 ad)) (F0 m 2 ls []) := by
  have hx := C.1
  have hb := C.2.1
  have hown := C.2.2.2.1
  have hts := C.2.2.2.2.1
  intro f
  induction f with
  | zero =>
    intro x1 x2 σ H locs ls h hH hl
    cases h
  | succ f ih =>
    intro x1 x2 σ H locs ls h hH hl
    rw [FX12_goes_2] at h
    refine lv_iload_n hx hb dX12_goes_2 rfl (lv_at hl 2 rfl) ?_
    refine lv_iload_n hx hb dX12_goes_3 rfl (lv_at hl 1 rfl) ?_
    refine lv_icmp_ge (tgt := 17) hx hb dX12_goes_4 (by decide) (fun hq_1 => ?_) (fun hq_1 => ?_)
    · rw [if_pos hq_1] at h
      exact g_retV C hH h dX12_goes_17
    · rw [if_neg hq_1] at h
      refine lv_aload_n hx hb dX12_goes_7 rfl (lv_at hl 0 rfl) ?_
      obtain ⟨σ_2, hc_3, h⟩ := bdV_ex h
      refine g_cv (g_runV (rest := []) C hH hl.1 cV_X12_363 0 (Nat.le_of_ble_eq_true rfl) rfl rfl (kX12_weekGoes l D ad κ hc_3) ⟨rfl, rfl⟩ ⟨(Nat.le_of_ble_eq_true rfl), (Nat.le_of_ble_eq_true rfl)⟩ rfl rfl (Nat.le_of_ble_eq_true rfl) dX12_goes_8 z00) hH (fun H locs hH => ?_)
      refine lv_iinc (v := (x2 + 1)) (lv' := [(2, .int (x2 + 1)), (0, .ref (ad 0)), (1, .int x1)]) hx hb dX12_goes_11 hl (k := 2) rfl rfl (by decide) rfl (fun ls hl => ?_)
      refine lv_goto (tgt := 2) hx hb dX12_goes_14 (by decide) ?_
      exact ih _ _ _ _ _ _ h hH (lv_sub hl [1, 2, 0] rfl)
set_option maxHeartbeats 4000000 in
set_option maxRecDepth 100000 in
theorem kX12_goes (l : Launch) (D : va_G) (ad : Nat → Nat) (κ : KC) {x1 : Int32} {σ : HS} {R : HS} (h : FX12_goes x1 σ = some R) : MtV l 45 ceM D ad κ yX12_goes cX12_goes 3 none ({ frames := 5, cells := 0, slots := 0, locals := 120 } : Room) [.ref (ad 0), .int x1] σ R := by
  refine open_ (by decide) (Nat.le_of_ble_eq_true rfl) (la := [(0, .ref (ad 0)), (1, .int x1)]) rfl ?_
  intro p e s m below meth c ls C hH hl
  replace C : Cx 45 D ad κ p s m _ meth c cX12_goes RX12 3 none := C
  have hx := C.1
  have hb := C.2.1
  have hown := C.2.2.2.1
  have hts := C.2.2.2.2.1
  rw [FX12_goes] at h
  refine lv_iconst (v := 0) hx hb dX12_goes_0 (by decide) ?_
  refine lv_istore_n (lv' := [(2, .int (0 : Int32)), (0, .ref (ad 0)), (1, .int x1)]) hx hb dX12_goes_1 rfl hl (by decide) rfl (fun ls hl => ?_)
  exact wX12_goes_2 C _ _ _ _ _ _ _ h hH (lv_sub hl [1, 2, 0] rfl)
-- X12_copies
def FX12_copies_2  : Nat → Int32 → HS → Option HS
  | 0, _, _ => none
  | f + 1, x1, σ => if (33 : Int32) ≤ x1 then gd (ix (σ.1 0 18) 2) (hl_ (pI σ 0 49 (σ.1 18 ((σ.1 0 18).toNatClampNeg))) fun σ_3 => some σ_3) else gd (ix x1 33) (gd (ix x1 33) (hl_ (pI σ 32 (x1.toNatClampNeg) (σ.1 31 (x1.toNatClampNeg))) fun σ_6 => FX12_copies_2  f (x1 + 1) σ_6))
def FX12_copies (σ : HS) : Option HS :=
  FX12_copies_2 fu (0 : Int32) σ
set_option maxHeartbeats 4000000 in
set_option maxRecDepth 100000 in
theorem wX12_copies_2 (C : Cx 45 D ad κ p s m args meth c cX12_copies RX12 2 none) {R : HS} : ∀ (f : Nat) (x1 : Int32) (σ : HS) (H : Heap) (locs : List Loc) (ls : Array Slot), FX12_copies_2  f x1 σ = some R → Hd 45 ceM D ad κ s σ H locs → lv_has ls 2 [(0, .ref (ad 0)), (1, .int x1)] → W p l e ({ frames := 0, cells := 0, slots := 0, locals := 0 } : Room) s m args below meth c H locs 0 0 (MQ below (QV 45 ceM D ad κ R) args s 0 0 (AX 45 ad)) (F0 m 2 ls []) := by
  have hx := C.1
  have hb := C.2.1
  have hown := C.2.2.2.1
  have hts := C.2.2.2.2.1
  intro f
  induction f with
  | zero =>
    intro x1 σ H locs ls h hH hl
    cases h
  | succ f ih =>
    intro x1 σ H locs ls h hH hl
    rw [FX12_copies_2] at h
    refine lv_iload_n hx hb dX12_copies_2 rfl (lv_at hl 1 rfl) ?_
    refine lv_bipush (v := 33) hx hb dX12_copies_3 (by decide) ?_
    refine lv_icmp_ge (tgt := 26) hx hb dX12_copies_5 (by decide) (fun hq_1 => ?_) (fun hq_1 => ?_)
    · rw [if_pos hq_1] at h
      refine lv_aload_n hx hb dX12_copies_26 rfl (lv_at hl 0 rfl) ?_
      refine lv_aload_n hx hb dX12_copies_27 rfl (lv_at hl 0 rfl) ?_
      refine g_get C hH 0 (Nat.le_of_ble_eq_true rfl) rfl fl_X12_70 (v := .ref (ad 18)) rfl dX12_copies_28 ?_
      refine lv_aload_n hx hb dX12_copies_31 rfl (lv_at hl 0 rfl) ?_
      refine g_get C hH 0 (Nat.le_of_ble_eq_true rfl) rfl fl_X12_233 (v := .int (σ.1 0 18)) rfl dX12_copies_32 ?_
      obtain ⟨hi_2, h⟩ := gd_ex h
      refine g_iald C hH 18 (Nat.le_of_ble_eq_true rfl) rfl (k := ((σ.1 0 18).toNatClampNeg)) rfl (ix_in hi_2) dX12_copies_35 ?_
      obtain ⟨σ_3, eσ_3, h⟩ := hl_ex h
      refine g_putI C hH 0 (Nat.le_of_ble_eq_true rfl) rfl fp_X12_314 rfl rfl (Nat.le_of_ble_eq_true rfl) rfl dX12_copies_36 (fun H locs hH => ?_)
      rw [← eσ_3] at hH
      exact g_retV C hH h dX12_copies_39
    · rw [if_neg hq_1] at h
      refine lv_aload_n hx hb dX12_copies_8 rfl (lv_at hl 0 rfl) ?_
      refine g_get C hH 0 (Nat.le_of_ble_eq_true rfl) rfl fl_X12_113 (v := .ref (ad 32)) rfl dX12_copies_9 ?_
      refine lv_iload_n hx hb dX12_copies_12 rfl (lv_at hl 1 rfl) ?_
      refine lv_aload_n hx hb dX12_copies_13 rfl (lv_at hl 0 rfl) ?_
      refine g_get C hH 0 (Nat.le_of_ble_eq_true rfl) rfl fl_X12_110 (v := .ref (ad 31)) rfl dX12_copies_14 ?_
      refine lv_iload_n hx hb dX12_copies_17 rfl (lv_at hl 1 rfl) ?_
      obtain ⟨hi_4, h⟩ := gd_ex h
      refine g_iald C hH 31 (Nat.le_of_ble_eq_true rfl) rfl (k := (x1.toNatClampNeg)) rfl (ix_in hi_4) dX12_copies_18 ?_
      obtain ⟨hi_5, h⟩ := gd_ex h
      obtain ⟨σ_6, eσ_6, h⟩ := hl_ex h
      refine g_iast C hH 32 (Nat.le_of_ble_eq_true rfl) (fun _ _ => rfl) (k := (x1.toNatClampNeg)) rfl (ix_in hi_5) dX12_copies_19 (fun H locs hH => ?_)
      rw [← eσ_6] at hH
      refine lv_iinc (v := (x1 + 1)) (lv' := [(1, .int (x1 + 1)), (0, .ref (ad 0))]) hx hb dX12_copies_20 hl (k := 1) rfl rfl (by decide) rfl (fun ls hl => ?_)
      refine lv_goto (tgt := 2) hx hb dX12_copies_23 (by decide) ?_
      exact ih _ _ _ _ _ h hH (lv_sub hl [1, 0] rfl)
set_option maxHeartbeats 4000000 in
set_option maxRecDepth 100000 in
theorem kX12_copies (l : Launch) (D : va_G) (ad : Nat → Nat) (κ : KC) {σ : HS} {R : HS} (h : FX12_copies σ = some R) : MtV l 45 ceM D ad κ yX12_copies cX12_copies 2 none ({ frames := 0, cells := 0, slots := 0, locals := 0 } : Room) [.ref (ad 0)] σ R := by
  refine open_ (by decide) (Nat.le_of_ble_eq_true rfl) (la := [(0, .ref (ad 0))]) rfl ?_
  intro p e s m below meth c ls C hH hl
  replace C : Cx 45 D ad κ p s m _ meth c cX12_copies RX12 2 none := C
  have hx := C.1
  have hb := C.2.1
  have hown := C.2.2.2.1
  have hts := C.2.2.2.2.1
  rw [FX12_copies] at h
  refine lv_iconst (v := 0) hx hb dX12_copies_0 (by decide) ?_
  refine lv_istore_n (lv' := [(1, .int (0 : Int32)), (0, .ref (ad 0))]) hx hb dX12_copies_1 rfl hl (by decide) rfl (fun ls hl => ?_)
  exact wX12_copies_2 C _ _ _ _ _ _ h hH (lv_sub hl [1, 0] rfl)
end
