theorem dX10_laysCost_105 : decode cX10_laysCost 105 = .ok (.iload_n 1, 1) := by decide +kernel
theorem dX10_laysCost_106 : decode cX10_laysCost 106 = .ok (.iaload, 1) := by decide +kernel
theorem dX10_laysCost_107 : decode cX10_laysCost 107 = .ok (.if_icmp .ne 7, 3) := by decide +kernel
theorem dX10_laysCost_110 : decode cX10_laysCost 110 = .ok (.iconst 0, 1) := by decide +kernel
theorem dX10_laysCost_111 : decode cX10_laysCost 111 = .ok (.goto 10, 3) := by decide +kernel
theorem dX10_laysCost_114 : decode cX10_laysCost 114 = .ok (.aload_n 0, 1) := by decide +kernel
theorem dX10_laysCost_115 : decode cX10_laysCost 115 = .ok (.getfield 35, 3) := by decide +kernel
theorem dX10_laysCost_118 : decode cX10_laysCost 118 = .ok (.bipush 13, 2) := by decide +kernel
theorem dX10_laysCost_120 : decode cX10_laysCost 120 = .ok (.iaload, 1) := by decide +kernel
theorem dX10_laysCost_121 : decode cX10_laysCost 121 = .ok (.aload_n 0, 1) := by decide +kernel
theorem dX10_laysCost_122 : decode cX10_laysCost 122 = .ok (.getfield 65, 3) := by decide +kernel
theorem dX10_laysCost_125 : decode cX10_laysCost 125 = .ok (.sipush 241, 3) := by decide +kernel
theorem dX10_laysCost_128 : decode cX10_laysCost 128 = .ok (.iload_n 1, 1) := by decide +kernel
theorem dX10_laysCost_129 : decode cX10_laysCost 129 = .ok (.imul, 1) := by decide +kernel
theorem dX10_laysCost_130 : decode cX10_laysCost 130 = .ok (.sipush 241, 3) := by decide +kernel
theorem dX10_laysCost_133 : decode cX10_laysCost 133 = .ok (.iadd, 1) := by decide +kernel
theorem dX10_laysCost_134 : decode cX10_laysCost 134 = .ok (.iload 5, 2) := by decide +kernel
theorem dX10_laysCost_136 : decode cX10_laysCost 136 = .ok (.iadd, 1) := by decide +kernel
theorem dX10_laysCost_137 : decode cX10_laysCost 137 = .ok (.iaload, 1) := by decide +kernel
theorem dX10_laysCost_138 : decode cX10_laysCost 138 = .ok (.iadd, 1) := by decide +kernel
theorem dX10_laysCost_139 : decode cX10_laysCost 139 = .ok (.aload_n 0, 1) := by decide +kernel
theorem dX10_laysCost_140 : decode cX10_laysCost 140 = .ok (.getfield 65, 3) := by decide +kernel
theorem dX10_laysCost_143 : decode cX10_laysCost 143 = .ok (.sipush 241, 3) := by decide +kernel
theorem dX10_laysCost_146 : decode cX10_laysCost 146 = .ok (.iload 5, 2) := by decide +kernel
theorem dX10_laysCost_148 : decode cX10_laysCost 148 = .ok (.imul, 1) := by decide +kernel
theorem dX10_laysCost_149 : decode cX10_laysCost 149 = .ok (.sipush 241, 3) := by decide +kernel
theorem dX10_laysCost_152 : decode cX10_laysCost 152 = .ok (.iadd, 1) := by decide +kernel
theorem dX10_laysCost_153 : decode cX10_laysCost 153 = .ok (.iload_n 2, 1) := by decide +kernel
theorem dX10_laysCost_154 : decode cX10_laysCost 154 = .ok (.iadd, 1) := by decide +kernel
theorem dX10_laysCost_155 : decode cX10_laysCost 155 = .ok (.iaload, 1) := by decide +kernel
theorem dX10_laysCost_156 : decode cX10_laysCost 156 = .ok (.iadd, 1) := by decide +kernel
theorem dX10_laysCost_157 : decode cX10_laysCost 157 = .ok (.istore 6, 2) := by decide +kernel
theorem dX10_laysCost_159 : decode cX10_laysCost 159 = .ok (.iload 6, 2) := by decide +kernel
theorem dX10_laysCost_161 : decode cX10_laysCost 161 = .ok (.iload_n 3, 1) := by decide +kernel
theorem dX10_laysCost_162 : decode cX10_laysCost 162 = .ok (.if_icmp .ge 10, 3) := by decide +kernel
theorem dX10_laysCost_165 : decode cX10_laysCost 165 = .ok (.iload 6, 2) := by decide +kernel
theorem dX10_laysCost_167 : decode cX10_laysCost 167 = .ok (.istore_n 3, 1) := by decide +kernel
theorem dX10_laysCost_168 : decode cX10_laysCost 168 = .ok (.iload 5, 2) := by decide +kernel
theorem dX10_laysCost_170 : decode cX10_laysCost 170 = .ok (.istore 4, 2) := by decide +kernel
theorem dX10_laysCost_172 : decode cX10_laysCost 172 = .ok (.iinc 5 1, 3) := by decide +kernel
theorem dX10_laysCost_175 : decode cX10_laysCost 175 = .ok (.goto (-109), 3) := by decide +kernel
theorem dX10_laysCost_178 : decode cX10_laysCost 178 = .ok (.aload_n 0, 1) := by decide +kernel
theorem dX10_laysCost_179 : decode cX10_laysCost 179 = .ok (.getfield 65, 3) := by decide +kernel
theorem dX10_laysCost_182 : decode cX10_laysCost 182 = .ok (.sipush 241, 3) := by decide +kernel
theorem dX10_laysCost_185 : decode cX10_laysCost 185 = .ok (.iload_n 1, 1) := by decide +kernel
theorem dX10_laysCost_186 : decode cX10_laysCost 186 = .ok (.imul, 1) := by decide +kernel
theorem dX10_laysCost_187 : decode cX10_laysCost 187 = .ok (.iload_n 2, 1) := by decide +kernel
theorem dX10_laysCost_188 : decode cX10_laysCost 188 = .ok (.iadd, 1) := by decide +kernel
theorem dX10_laysCost_189 : decode cX10_laysCost 189 = .ok (.iload_n 3, 1) := by decide +kernel
theorem dX10_laysCost_190 : decode cX10_laysCost 190 = .ok (.iastore, 1) := by decide +kernel
theorem dX10_laysCost_191 : decode cX10_laysCost 191 = .ok (.aload_n 0, 1) := by decide +kernel
theorem dX10_laysCost_192 : decode cX10_laysCost 192 = .ok (.getfield 68, 3) := by decide +kernel
theorem dX10_laysCost_195 : decode cX10_laysCost 195 = .ok (.sipush 241, 3) := by decide +kernel
theorem dX10_laysCost_198 : decode cX10_laysCost 198 = .ok (.iload_n 1, 1) := by decide +kernel
theorem dX10_laysCost_199 : decode cX10_laysCost 199 = .ok (.imul, 1) := by decide +kernel
theorem dX10_laysCost_200 : decode cX10_laysCost 200 = .ok (.iload_n 2, 1) := by decide +kernel
theorem dX10_laysCost_201 : decode cX10_laysCost 201 = .ok (.iadd, 1) := by decide +kernel
theorem dX10_laysCost_202 : decode cX10_laysCost 202 = .ok (.iload 4, 2) := by decide +kernel
theorem dX10_laysCost_204 : decode cX10_laysCost 204 = .ok (.iastore, 1) := by decide +kernel
theorem dX10_laysCost_205 : decode cX10_laysCost 205 = .ok (.return_, 1) := by decide +kernel
theorem dX10_costOf_0 : decode cX10_costOf 0 = .ok (.aload_n 0, 1) := by decide +kernel
theorem dX10_costOf_1 : decode cX10_costOf 1 = .ok (.iload_n 1, 1) := by decide +kernel
theorem dX10_costOf_2 : decode cX10_costOf 2 = .ok (.invokevirtual 261, 3) := by decide +kernel
theorem dX10_costOf_5 : decode cX10_costOf 5 = .ok (.aload_n 0, 1) := by decide +kernel
theorem dX10_costOf_6 : decode cX10_costOf 6 = .ok (.invokevirtual 340, 3) := by decide +kernel
theorem dX10_costOf_9 : decode cX10_costOf 9 = .ok (.aload_n 0, 1) := by decide +kernel
theorem dX10_costOf_10 : decode cX10_costOf 10 = .ok (.iconst 0, 1) := by decide +kernel
theorem dX10_costOf_11 : decode cX10_costOf 11 = .ok (.aload_n 0, 1) := by decide +kernel
theorem dX10_costOf_12 : decode cX10_costOf 12 = .ok (.getfield 264, 3) := by decide +kernel
theorem dX10_costOf_15 : decode cX10_costOf 15 = .ok (.invokevirtual 337, 3) := by decide +kernel
theorem dX10_costOf_18 : decode cX10_costOf 18 = .ok (.ireturn, 1) := by decide +kernel
theorem dX10_laysRepair_0 : decode cX10_laysRepair 0 = .ok (.aload_n 0, 1) := by decide +kernel
theorem dX10_laysRepair_1 : decode cX10_laysRepair 1 = .ok (.iconst (-1), 1) := by decide +kernel
theorem dX10_laysRepair_2 : decode cX10_laysRepair 2 = .ok (.invokevirtual 343, 3) := by decide +kernel
theorem dX10_laysRepair_5 : decode cX10_laysRepair 5 = .ok (.istore_n 1, 1) := by decide +kernel
theorem dX10_laysRepair_6 : decode cX10_laysRepair 6 = .ok (.iconst 1, 1) := by decide +kernel
theorem dX10_laysRepair_7 : decode cX10_laysRepair 7 = .ok (.istore_n 2, 1) := by decide +kernel
theorem dX10_laysRepair_8 : decode cX10_laysRepair 8 = .ok (.aload_n 0, 1) := by decide +kernel
theorem dX10_laysRepair_9 : decode cX10_laysRepair 9 = .ok (.getfield 77, 3) := by decide +kernel
theorem dX10_laysRepair_12 : decode cX10_laysRepair 12 = .ok (.iconst 0, 1) := by decide +kernel
theorem dX10_laysRepair_13 : decode cX10_laysRepair 13 = .ok (.iconst 0, 1) := by decide +kernel
theorem dX10_laysRepair_14 : decode cX10_laysRepair 14 = .ok (.iastore, 1) := by decide +kernel
theorem dX10_laysRepair_15 : decode cX10_laysRepair 15 = .ok (.aload_n 0, 1) := by decide +kernel
theorem dX10_laysRepair_16 : decode cX10_laysRepair 16 = .ok (.getfield 80, 3) := by decide +kernel
theorem dX10_laysRepair_19 : decode cX10_laysRepair 19 = .ok (.iconst 0, 1) := by decide +kernel
theorem dX10_laysRepair_20 : decode cX10_laysRepair 20 = .ok (.aload_n 0, 1) := by decide +kernel
theorem dX10_laysRepair_21 : decode cX10_laysRepair 21 = .ok (.getfield 264, 3) := by decide +kernel
theorem dX10_laysRepair_24 : decode cX10_laysRepair 24 = .ok (.iastore, 1) := by decide +kernel
theorem dX10_laysRepair_25 : decode cX10_laysRepair 25 = .ok (.iload_n 2, 1) := by decide +kernel
theorem dX10_laysRepair_26 : decode cX10_laysRepair 26 = .ok (.ifCond .le 186, 3) := by decide +kernel
theorem dX10_laysRepair_29 : decode cX10_laysRepair 29 = .ok (.iinc 2 (-1), 3) := by decide +kernel
theorem dX10_laysRepair_32 : decode cX10_laysRepair 32 = .ok (.aload_n 0, 1) := by decide +kernel
theorem dX10_laysRepair_33 : decode cX10_laysRepair 33 = .ok (.getfield 77, 3) := by decide +kernel
theorem dX10_laysRepair_36 : decode cX10_laysRepair 36 = .ok (.iload_n 2, 1) := by decide +kernel
theorem dX10_laysRepair_37 : decode cX10_laysRepair 37 = .ok (.iaload, 1) := by decide +kernel
theorem dX10_laysRepair_38 : decode cX10_laysRepair 38 = .ok (.istore_n 3, 1) := by decide +kernel
theorem dX10_laysRepair_39 : decode cX10_laysRepair 39 = .ok (.aload_n 0, 1) := by decide +kernel
theorem dX10_laysRepair_40 : decode cX10_laysRepair 40 = .ok (.getfield 80, 3) := by decide +kernel
theorem dX10_laysRepair_43 : decode cX10_laysRepair 43 = .ok (.iload_n 2, 1) := by decide +kernel
theorem dX10_laysRepair_44 : decode cX10_laysRepair 44 = .ok (.iaload, 1) := by decide +kernel
theorem dX10_laysRepair_45 : decode cX10_laysRepair 45 = .ok (.istore 4, 2) := by decide +kernel
theorem dX10_laysRepair_47 : decode cX10_laysRepair 47 = .ok (.iload_n 3, 1) := by decide +kernel
theorem dX10_laysRepair_48 : decode cX10_laysRepair 48 = .ok (.iload 4, 2) := by decide +kernel
theorem dX10_laysRepair_50 : decode cX10_laysRepair 50 = .ok (.if_icmp .ne 6, 3) := by decide +kernel
theorem dX10_laysRepair_53 : decode cX10_laysRepair 53 = .ok (.goto (-28), 3) := by decide +kernel
theorem dX10_laysRepair_56 : decode cX10_laysRepair 56 = .ok (.aload_n 0, 1) := by decide +kernel
theorem dX10_laysRepair_57 : decode cX10_laysRepair 57 = .ok (.getfield 68, 3) := by decide +kernel
theorem dX10_laysRepair_60 : decode cX10_laysRepair 60 = .ok (.sipush 241, 3) := by decide +kernel
theorem dX10_laysRepair_63 : decode cX10_laysRepair 63 = .ok (.iload_n 3, 1) := by decide +kernel
theorem dX10_laysRepair_64 : decode cX10_laysRepair 64 = .ok (.imul, 1) := by decide +kernel
theorem dX10_laysRepair_65 : decode cX10_laysRepair 65 = .ok (.iload 4, 2) := by decide +kernel
theorem dX10_laysRepair_67 : decode cX10_laysRepair 67 = .ok (.iadd, 1) := by decide +kernel
theorem dX10_laysRepair_68 : decode cX10_laysRepair 68 = .ok (.iaload, 1) := by decide +kernel
theorem dX10_laysRepair_69 : decode cX10_laysRepair 69 = .ok (.istore 5, 2) := by decide +kernel
theorem dX10_laysRepair_71 : decode cX10_laysRepair 71 = .ok (.aload_n 0, 1) := by decide +kernel
theorem dX10_laysRepair_72 : decode cX10_laysRepair 72 = .ok (.getfield 71, 3) := by decide +kernel
theorem dX10_laysRepair_75 : decode cX10_laysRepair 75 = .ok (.iload_n 3, 1) := by decide +kernel
theorem dX10_laysRepair_76 : decode cX10_laysRepair 76 = .ok (.iload 5, 2) := by decide +kernel
theorem dX10_laysRepair_78 : decode cX10_laysRepair 78 = .ok (.bipush (-2), 2) := by decide +kernel
theorem dX10_laysRepair_80 : decode cX10_laysRepair 80 = .ok (.if_icmp .ne 7, 3) := by decide +kernel
theorem dX10_laysRepair_83 : decode cX10_laysRepair 83 = .ok (.iconst 0, 1) := by decide +kernel
theorem dX10_laysRepair_84 : decode cX10_laysRepair 84 = .ok (.goto 14, 3) := by decide +kernel
theorem dX10_laysRepair_87 : decode cX10_laysRepair 87 = .ok (.iload 5, 2) := by decide +kernel
theorem dX10_laysRepair_89 : decode cX10_laysRepair 89 = .ok (.iconst (-1), 1) := by decide +kernel
theorem dX10_laysRepair_90 : decode cX10_laysRepair 90 = .ok (.if_icmp .ne 7, 3) := by decide +kernel
theorem dX10_laysRepair_93 : decode cX10_laysRepair 93 = .ok (.iconst 1, 1) := by decide +kernel
theorem dX10_laysRepair_94 : decode cX10_laysRepair 94 = .ok (.goto 4, 3) := by decide +kernel
theorem dX10_laysRepair_97 : decode cX10_laysRepair 97 = .ok (.iconst (-1), 1) := by decide +kernel
theorem dX10_laysRepair_98 : decode cX10_laysRepair 98 = .ok (.iastore, 1) := by decide +kernel
theorem dX10_laysRepair_99 : decode cX10_laysRepair 99 = .ok (.aload_n 0, 1) := by decide +kernel
theorem dX10_laysRepair_100 : decode cX10_laysRepair 100 = .ok (.getfield 74, 3) := by decide +kernel
theorem dX10_laysRepair_103 : decode cX10_laysRepair 103 = .ok (.iload_n 3, 1) := by decide +kernel
theorem dX10_laysRepair_104 : decode cX10_laysRepair 104 = .ok (.aload_n 0, 1) := by decide +kernel
theorem dX10_laysRepair_105 : decode cX10_laysRepair 105 = .ok (.getfield 51, 3) := by decide +kernel
theorem dX10_laysRepair_108 : decode cX10_laysRepair 108 = .ok (.iload_n 3, 1) := by decide +kernel
theorem dX10_laysRepair_109 : decode cX10_laysRepair 109 = .ok (.iaload, 1) := by decide +kernel
theorem dX10_laysRepair_110 : decode cX10_laysRepair 110 = .ok (.iastore, 1) := by decide +kernel
theorem dX10_laysRepair_111 : decode cX10_laysRepair 111 = .ok (.aload_n 0, 1) := by decide +kernel
theorem dX10_laysRepair_112 : decode cX10_laysRepair 112 = .ok (.getfield 77, 3) := by decide +kernel
theorem dX10_laysRepair_115 : decode cX10_laysRepair 115 = .ok (.iload_n 2, 1) := by decide +kernel
theorem dX10_laysRepair_116 : decode cX10_laysRepair 116 = .ok (.iload 5, 2) := by decide +kernel
theorem dX10_laysRepair_118 : decode cX10_laysRepair 118 = .ok (.ifCond .ge 9, 3) := by decide +kernel
theorem dX10_laysRepair_121 : decode cX10_laysRepair 121 = .ok (.iload_n 3, 1) := by decide +kernel
theorem dX10_laysRepair_122 : decode cX10_laysRepair 122 = .ok (.iconst 1, 1) := by decide +kernel
theorem dX10_laysRepair_123 : decode cX10_laysRepair 123 = .ok (.iadd, 1) := by decide +kernel
theorem dX10_laysRepair_124 : decode cX10_laysRepair 124 = .ok (.goto 7, 3) := by decide +kernel
theorem dX10_laysRepair_127 : decode cX10_laysRepair 127 = .ok (.iload 5, 2) := by decide +kernel
theorem dX10_laysRepair_129 : decode cX10_laysRepair 129 = .ok (.iconst 1, 1) := by decide +kernel
theorem dX10_laysRepair_130 : decode cX10_laysRepair 130 = .ok (.iadd, 1) := by decide +kernel
theorem dX10_laysRepair_131 : decode cX10_laysRepair 131 = .ok (.iastore, 1) := by decide +kernel
theorem dX10_laysRepair_132 : decode cX10_laysRepair 132 = .ok (.aload_n 0, 1) := by decide +kernel
theorem dX10_laysRepair_133 : decode cX10_laysRepair 133 = .ok (.getfield 80, 3) := by decide +kernel
theorem dX10_laysRepair_136 : decode cX10_laysRepair 136 = .ok (.iload_n 2, 1) := by decide +kernel
theorem dX10_laysRepair_137 : decode cX10_laysRepair 137 = .ok (.iload 4, 2) := by decide +kernel
theorem dX10_laysRepair_139 : decode cX10_laysRepair 139 = .ok (.iastore, 1) := by decide +kernel
theorem dX10_laysRepair_140 : decode cX10_laysRepair 140 = .ok (.iinc 2 1, 3) := by decide +kernel
theorem dX10_laysRepair_143 : decode cX10_laysRepair 143 = .ok (.iload 5, 2) := by decide +kernel
theorem dX10_laysRepair_145 : decode cX10_laysRepair 145 = .ok (.ifCond .lt 64, 3) := by decide +kernel
theorem dX10_laysRepair_148 : decode cX10_laysRepair 148 = .ok (.aload_n 0, 1) := by decide +kernel
theorem dX10_laysRepair_149 : decode cX10_laysRepair 149 = .ok (.getfield 71, 3) := by decide +kernel
theorem dX10_laysRepair_152 : decode cX10_laysRepair 152 = .ok (.iload 5, 2) := by decide +kernel
theorem dX10_laysRepair_154 : decode cX10_laysRepair 154 = .ok (.aload_n 0, 1) := by decide +kernel
theorem dX10_laysRepair_155 : decode cX10_laysRepair 155 = .ok (.getfield 51, 3) := by decide +kernel
theorem dX10_laysRepair_158 : decode cX10_laysRepair 158 = .ok (.iload 5, 2) := by decide +kernel
theorem dX10_laysRepair_160 : decode cX10_laysRepair 160 = .ok (.iaload, 1) := by decide +kernel
theorem dX10_laysRepair_161 : decode cX10_laysRepair 161 = .ok (.aload_n 0, 1) := by decide +kernel
theorem dX10_laysRepair_162 : decode cX10_laysRepair 162 = .ok (.getfield 51, 3) := by decide +kernel
theorem dX10_laysRepair_165 : decode cX10_laysRepair 165 = .ok (.iload_n 3, 1) := by decide +kernel
theorem dX10_laysRepair_166 : decode cX10_laysRepair 166 = .ok (.iaload, 1) := by decide +kernel
theorem dX10_laysRepair_167 : decode cX10_laysRepair 167 = .ok (.if_icmp .ne 7, 3) := by decide +kernel
theorem dX10_laysRepair_170 : decode cX10_laysRepair 170 = .ok (.iconst (-1), 1) := by decide +kernel
theorem dX10_laysRepair_171 : decode cX10_laysRepair 171 = .ok (.goto 4, 3) := by decide +kernel
theorem dX10_laysRepair_174 : decode cX10_laysRepair 174 = .ok (.iconst 2, 1) := by decide +kernel
theorem dX10_laysRepair_175 : decode cX10_laysRepair 175 = .ok (.iastore, 1) := by decide +kernel
theorem dX10_laysRepair_176 : decode cX10_laysRepair 176 = .ok (.aload_n 0, 1) := by decide +kernel
theorem dX10_laysRepair_177 : decode cX10_laysRepair 177 = .ok (.getfield 74, 3) := by decide +kernel
theorem dX10_laysRepair_180 : decode cX10_laysRepair 180 = .ok (.iload 5, 2) := by decide +kernel
theorem dX10_laysRepair_182 : decode cX10_laysRepair 182 = .ok (.aload_n 0, 1) := by decide +kernel
theorem dX10_laysRepair_183 : decode cX10_laysRepair 183 = .ok (.getfield 51, 3) := by decide +kernel
theorem dX10_laysRepair_186 : decode cX10_laysRepair 186 = .ok (.iload_n 3, 1) := by decide +kernel
theorem dX10_laysRepair_187 : decode cX10_laysRepair 187 = .ok (.iaload, 1) := by decide +kernel
theorem dX10_laysRepair_188 : decode cX10_laysRepair 188 = .ok (.iastore, 1) := by decide +kernel
theorem dX10_laysRepair_189 : decode cX10_laysRepair 189 = .ok (.aload_n 0, 1) := by decide +kernel
theorem dX10_laysRepair_190 : decode cX10_laysRepair 190 = .ok (.getfield 77, 3) := by decide +kernel
theorem dX10_laysRepair_193 : decode cX10_laysRepair 193 = .ok (.iload_n 2, 1) := by decide +kernel
theorem dX10_laysRepair_194 : decode cX10_laysRepair 194 = .ok (.iload_n 3, 1) := by decide +kernel
theorem dX10_laysRepair_195 : decode cX10_laysRepair 195 = .ok (.iconst 1, 1) := by decide +kernel
theorem dX10_laysRepair_196 : decode cX10_laysRepair 196 = .ok (.iadd, 1) := by decide +kernel
theorem dX10_laysRepair_197 : decode cX10_laysRepair 197 = .ok (.iastore, 1) := by decide +kernel
theorem dX10_laysRepair_198 : decode cX10_laysRepair 198 = .ok (.aload_n 0, 1) := by decide +kernel
theorem dX10_laysRepair_199 : decode cX10_laysRepair 199 = .ok (.getfield 80, 3) := by decide +kernel
theorem dX10_laysRepair_202 : decode cX10_laysRepair 202 = .ok (.iload_n 2, 1) := by decide +kernel
theorem dX10_laysRepair_203 : decode cX10_laysRepair 203 = .ok (.iload 5, 2) := by decide +kernel
theorem dX10_laysRepair_205 : decode cX10_laysRepair 205 = .ok (.iastore, 1) := by decide +kernel
theorem dX10_laysRepair_206 : decode cX10_laysRepair 206 = .ok (.iinc 2 1, 3) := by decide +kernel
theorem dX10_laysRepair_209 : decode cX10_laysRepair 209 = .ok (.goto (-184), 3) := by decide +kernel
theorem dX10_laysRepair_212 : decode cX10_laysRepair 212 = .ok (.iload_n 1, 1) := by decide +kernel
theorem dX10_laysRepair_213 : decode cX10_laysRepair 213 = .ok (.ireturn, 1) := by decide +kernel
theorem dX10_steps_0 : decode cX10_steps 0 = .ok (.iconst 0, 1) := by decide +kernel
theorem dX10_steps_1 : decode cX10_steps 1 = .ok (.istore_n 1, 1) := by decide +kernel
theorem dX10_steps_2 : decode cX10_steps 2 = .ok (.iconst 0, 1) := by decide +kernel
theorem dX10_steps_3 : decode cX10_steps 3 = .ok (.istore_n 2, 1) := by decide +kernel
theorem dX10_steps_4 : decode cX10_steps 4 = .ok (.iload_n 2, 1) := by decide +kernel
theorem dX10_steps_5 : decode cX10_steps 5 = .ok (.aload_n 0, 1) := by decide +kernel
theorem dX10_steps_6 : decode cX10_steps 6 = .ok (.getfield 264, 3) := by decide +kernel
theorem dX10_steps_9 : decode cX10_steps 9 = .ok (.if_icmp .ge 27, 3) := by decide +kernel
theorem dX10_steps_12 : decode cX10_steps 12 = .ok (.iload_n 1, 1) := by decide +kernel
theorem dX10_steps_13 : decode cX10_steps 13 = .ok (.aload_n 0, 1) := by decide +kernel
theorem dX10_steps_14 : decode cX10_steps 14 = .ok (.getfield 71, 3) := by decide +kernel
theorem dX10_steps_17 : decode cX10_steps 17 = .ok (.iload_n 2, 1) := by decide +kernel
theorem dX10_steps_18 : decode cX10_steps 18 = .ok (.iaload, 1) := by decide +kernel
theorem dX10_steps_19 : decode cX10_steps 19 = .ok (.iconst (-1), 1) := by decide +kernel
theorem dX10_steps_20 : decode cX10_steps 20 = .ok (.if_icmp .eq 7, 3) := by decide +kernel
theorem dX10_steps_23 : decode cX10_steps 23 = .ok (.iconst 1, 1) := by decide +kernel
theorem dX10_steps_24 : decode cX10_steps 24 = .ok (.goto 4, 3) := by decide +kernel
theorem dX10_steps_27 : decode cX10_steps 27 = .ok (.iconst 0, 1) := by decide +kernel
theorem dX10_steps_28 : decode cX10_steps 28 = .ok (.iadd, 1) := by decide +kernel
theorem dX10_steps_29 : decode cX10_steps 29 = .ok (.istore_n 1, 1) := by decide +kernel
theorem dX10_steps_30 : decode cX10_steps 30 = .ok (.iinc 2 1, 3) := by decide +kernel
theorem dX10_steps_33 : decode cX10_steps 33 = .ok (.goto (-29), 3) := by decide +kernel
theorem dX10_steps_36 : decode cX10_steps 36 = .ok (.iload_n 1, 1) := by decide +kernel
theorem dX10_steps_37 : decode cX10_steps 37 = .ok (.ireturn, 1) := by decide +kernel
theorem dX10_repairCost_0 : decode cX10_repairCost 0 = .ok (.aload_n 0, 1) := by decide +kernel
theorem dX10_repairCost_1 : decode cX10_repairCost 1 = .ok (.iconst 0, 1) := by decide +kernel
theorem dX10_repairCost_2 : decode cX10_repairCost 2 = .ok (.putfield 117, 3) := by decide +kernel
theorem dX10_repairCost_5 : decode cX10_repairCost 5 = .ok (.aload_n 0, 1) := by decide +kernel
theorem dX10_repairCost_6 : decode cX10_repairCost 6 = .ok (.iconst (-1), 1) := by decide +kernel
theorem dX10_repairCost_7 : decode cX10_repairCost 7 = .ok (.invokevirtual 343, 3) := by decide +kernel
theorem dX10_repairCost_10 : decode cX10_repairCost 10 = .ok (.ireturn, 1) := by decide +kernel
theorem dX10_repairSteps_0 : decode cX10_repairSteps 0 = .ok (.aload_n 0, 1) := by decide +kernel
theorem dX10_repairSteps_1 : decode cX10_repairSteps 1 = .ok (.iconst 0, 1) := by decide +kernel
theorem dX10_repairSteps_2 : decode cX10_repairSteps 2 = .ok (.putfield 117, 3) := by decide +kernel
theorem dX10_repairSteps_5 : decode cX10_repairSteps 5 = .ok (.aload_n 0, 1) := by decide +kernel
theorem dX10_repairSteps_6 : decode cX10_repairSteps 6 = .ok (.invokevirtual 346, 3) := by decide +kernel
theorem dX10_repairSteps_9 : decode cX10_repairSteps 9 = .ok (.istore_n 1, 1) := by decide +kernel
theorem dX10_repairSteps_10 : decode cX10_repairSteps 10 = .ok (.aload_n 0, 1) := by decide +kernel
theorem dX10_repairSteps_11 : decode cX10_repairSteps 11 = .ok (.invokevirtual 349, 3) := by decide +kernel
theorem dX10_repairSteps_14 : decode cX10_repairSteps 14 = .ok (.ireturn, 1) := by decide +kernel
theorem dX10_repairStep_0 : decode cX10_repairStep 0 = .ok (.aload_n 0, 1) := by decide +kernel
theorem dX10_repairStep_1 : decode cX10_repairStep 1 = .ok (.iconst 0, 1) := by decide +kernel
theorem dX10_repairStep_2 : decode cX10_repairStep 2 = .ok (.putfield 117, 3) := by decide +kernel
theorem dX10_repairStep_5 : decode cX10_repairStep 5 = .ok (.aload_n 0, 1) := by decide +kernel
theorem dX10_repairStep_6 : decode cX10_repairStep 6 = .ok (.invokevirtual 346, 3) := by decide +kernel
theorem dX10_repairStep_9 : decode cX10_repairStep 9 = .ok (.istore_n 3, 1) := by decide +kernel
theorem dX10_repairStep_10 : decode cX10_repairStep 10 = .ok (.aload_n 0, 1) := by decide +kernel
theorem dX10_repairStep_11 : decode cX10_repairStep 11 = .ok (.iload_n 1, 1) := by decide +kernel
theorem dX10_repairStep_12 : decode cX10_repairStep 12 = .ok (.iconst 0, 1) := by decide +kernel
theorem dX10_repairStep_13 : decode cX10_repairStep 13 = .ok (.aload_n 0, 1) := by decide +kernel
theorem dX10_repairStep_14 : decode cX10_repairStep 14 = .ok (.invokevirtual 349, 3) := by decide +kernel
theorem dX10_repairStep_17 : decode cX10_repairStep 17 = .ok (.iconst 1, 1) := by decide +kernel
theorem dX10_repairStep_18 : decode cX10_repairStep 18 = .ok (.isub, 1) := by decide +kernel
theorem dX10_repairStep_19 : decode cX10_repairStep 19 = .ok (.invokestatic 130, 3) := by decide +kernel
theorem dX10_repairStep_22 : decode cX10_repairStep 22 = .ok (.ifCond .ne 7, 3) := by decide +kernel
theorem dX10_repairStep_25 : decode cX10_repairStep 25 = .ok (.iconst 1, 1) := by decide +kernel
theorem dX10_repairStep_26 : decode cX10_repairStep 26 = .ok (.goto 4, 3) := by decide +kernel
theorem dX10_repairStep_29 : decode cX10_repairStep 29 = .ok (.iconst 0, 1) := by decide +kernel
theorem dX10_repairStep_30 : decode cX10_repairStep 30 = .ok (.iconst 1, 1) := by decide +kernel
theorem dX10_repairStep_31 : decode cX10_repairStep 31 = .ok (.invokevirtual 227, 3) := by decide +kernel
theorem dX10_repairStep_34 : decode cX10_repairStep 34 = .ok (.ifCond .ne 25, 3) := by decide +kernel
theorem dX10_repairStep_37 : decode cX10_repairStep 37 = .ok (.aload_n 0, 1) := by decide +kernel
theorem dX10_repairStep_38 : decode cX10_repairStep 38 = .ok (.iload_n 2, 1) := by decide +kernel
theorem dX10_repairStep_39 : decode cX10_repairStep 39 = .ok (.iconst 0, 1) := by decide +kernel
theorem dX10_repairStep_40 : decode cX10_repairStep 40 = .ok (.iconst 2, 1) := by decide +kernel
theorem dX10_repairStep_41 : decode cX10_repairStep 41 = .ok (.invokestatic 130, 3) := by decide +kernel
theorem dX10_repairStep_44 : decode cX10_repairStep 44 = .ok (.ifCond .ne 7, 3) := by decide +kernel
theorem dX10_repairStep_47 : decode cX10_repairStep 47 = .ok (.iconst 1, 1) := by decide +kernel
theorem dX10_repairStep_48 : decode cX10_repairStep 48 = .ok (.goto 4, 3) := by decide +kernel
theorem dX10_repairStep_51 : decode cX10_repairStep 51 = .ok (.iconst 0, 1) := by decide +kernel
theorem dX10_repairStep_52 : decode cX10_repairStep 52 = .ok (.iconst 2, 1) := by decide +kernel
theorem dX10_repairStep_53 : decode cX10_repairStep 53 = .ok (.invokevirtual 227, 3) := by decide +kernel
theorem dX10_repairStep_56 : decode cX10_repairStep 56 = .ok (.ifCond .eq 5, 3) := by decide +kernel
theorem dX10_repairStep_59 : decode cX10_repairStep 59 = .ok (.iconst 0, 1) := by decide +kernel
theorem dX10_repairStep_60 : decode cX10_repairStep 60 = .ok (.ireturn, 1) := by decide +kernel
theorem dX10_repairStep_61 : decode cX10_repairStep 61 = .ok (.iconst 0, 1) := by decide +kernel
theorem dX10_repairStep_62 : decode cX10_repairStep 62 = .ok (.istore 4, 2) := by decide +kernel
theorem dX10_repairStep_64 : decode cX10_repairStep 64 = .ok (.iload_n 1, 1) := by decide +kernel
theorem dX10_repairStep_65 : decode cX10_repairStep 65 = .ok (.istore 5, 2) := by decide +kernel
theorem dX10_repairStep_67 : decode cX10_repairStep 67 = .ok (.aload_n 0, 1) := by decide +kernel
theorem dX10_repairStep_68 : decode cX10_repairStep 68 = .ok (.getfield 71, 3) := by decide +kernel
theorem dX10_repairStep_71 : decode cX10_repairStep 71 = .ok (.iload 4, 2) := by decide +kernel
theorem dX10_repairStep_73 : decode cX10_repairStep 73 = .ok (.iaload, 1) := by decide +kernel
theorem dX10_repairStep_74 : decode cX10_repairStep 74 = .ok (.iconst (-1), 1) := by decide +kernel
theorem dX10_repairStep_75 : decode cX10_repairStep 75 = .ok (.if_icmp .eq 8, 3) := by decide +kernel
theorem dX10_repairStep_78 : decode cX10_repairStep 78 = .ok (.iload 5, 2) := by decide +kernel
theorem dX10_repairStep_80 : decode cX10_repairStep 80 = .ok (.ifCond .le 30, 3) := by decide +kernel
theorem dX10_repairStep_83 : decode cX10_repairStep 83 = .ok (.iload 5, 2) := by decide +kernel
theorem dX10_repairStep_85 : decode cX10_repairStep 85 = .ok (.aload_n 0, 1) := by decide +kernel
theorem dX10_repairStep_86 : decode cX10_repairStep 86 = .ok (.getfield 71, 3) := by decide +kernel
theorem dX10_repairStep_89 : decode cX10_repairStep 89 = .ok (.iload 4, 2) := by decide +kernel
theorem dX10_repairStep_91 : decode cX10_repairStep 91 = .ok (.iaload, 1) := by decide +kernel
theorem dX10_repairStep_92 : decode cX10_repairStep 92 = .ok (.iconst (-1), 1) := by decide +kernel
theorem dX10_repairStep_93 : decode cX10_repairStep 93 = .ok (.if_icmp .ne 7, 3) := by decide +kernel
theorem dX10_repairStep_96 : decode cX10_repairStep 96 = .ok (.iconst 0, 1) := by decide +kernel
theorem dX10_repairStep_97 : decode cX10_repairStep 97 = .ok (.goto 4, 3) := by decide +kernel
theorem dX10_repairStep_100 : decode cX10_repairStep 100 = .ok (.iconst 1, 1) := by decide +kernel
theorem dX10_repairStep_101 : decode cX10_repairStep 101 = .ok (.isub, 1) := by decide +kernel
theorem dX10_repairStep_102 : decode cX10_repairStep 102 = .ok (.istore 5, 2) := by decide +kernel
theorem dX10_repairStep_104 : decode cX10_repairStep 104 = .ok (.iinc 4 1, 3) := by decide +kernel
theorem dX10_repairStep_107 : decode cX10_repairStep 107 = .ok (.goto (-40), 3) := by decide +kernel
theorem dX10_repairStep_110 : decode cX10_repairStep 110 = .ok (.iload_n 2, 1) := by decide +kernel
theorem dX10_repairStep_111 : decode cX10_repairStep 111 = .ok (.ifCond .ne 13, 3) := by decide +kernel
theorem dX10_repairStep_114 : decode cX10_repairStep 114 = .ok (.aload_n 0, 1) := by decide +kernel
theorem dX10_repairStep_115 : decode cX10_repairStep 115 = .ok (.getfield 71, 3) := by decide +kernel
theorem dX10_repairStep_118 : decode cX10_repairStep 118 = .ok (.iload 4, 2) := by decide +kernel
theorem dX10_repairStep_120 : decode cX10_repairStep 120 = .ok (.iaload, 1) := by decide +kernel
theorem dX10_repairStep_121 : decode cX10_repairStep 121 = .ok (.goto 25, 3) := by decide +kernel
theorem dX10_repairStep_124 : decode cX10_repairStep 124 = .ok (.iload_n 2, 1) := by decide +kernel
theorem dX10_repairStep_125 : decode cX10_repairStep 125 = .ok (.iconst 1, 1) := by decide +kernel
theorem dX10_repairStep_126 : decode cX10_repairStep 126 = .ok (.if_icmp .ne 13, 3) := by decide +kernel
theorem dX10_repairStep_129 : decode cX10_repairStep 129 = .ok (.aload_n 0, 1) := by decide +kernel
theorem dX10_repairStep_130 : decode cX10_repairStep 130 = .ok (.getfield 48, 3) := by decide +kernel
theorem dX10_repairStep_133 : decode cX10_repairStep 133 = .ok (.iload 4, 2) := by decide +kernel
theorem dX10_repairStep_135 : decode cX10_repairStep 135 = .ok (.iaload, 1) := by decide +kernel
theorem dX10_repairStep_136 : decode cX10_repairStep 136 = .ok (.goto 10, 3) := by decide +kernel
theorem dX10_repairStep_139 : decode cX10_repairStep 139 = .ok (.aload_n 0, 1) := by decide +kernel
theorem dX10_repairStep_140 : decode cX10_repairStep 140 = .ok (.getfield 74, 3) := by decide +kernel
theorem dX10_repairStep_143 : decode cX10_repairStep 143 = .ok (.iload 4, 2) := by decide +kernel
theorem dX10_repairStep_145 : decode cX10_repairStep 145 = .ok (.iaload, 1) := by decide +kernel
theorem dX10_repairStep_146 : decode cX10_repairStep 146 = .ok (.ireturn, 1) := by decide +kernel
theorem dX10_costWithout_0 : decode cX10_costWithout 0 = .ok (.aload_n 0, 1) := by decide +kernel
theorem dX10_costWithout_1 : decode cX10_costWithout 1 = .ok (.iload_n 1, 1) := by decide +kernel
theorem dX10_costWithout_2 : decode cX10_costWithout 2 = .ok (.invokevirtual 310, 3) := by decide +kernel
theorem dX10_costWithout_5 : decode cX10_costWithout 5 = .ok (.ifCond .eq 7, 3) := by decide +kernel
theorem dX10_costWithout_8 : decode cX10_costWithout 8 = .ok (.iconst 0, 1) := by decide +kernel
theorem dX10_costWithout_9 : decode cX10_costWithout 9 = .ok (.goto 8, 3) := by decide +kernel
theorem dX10_costWithout_12 : decode cX10_costWithout 12 = .ok (.aload_n 0, 1) := by decide +kernel
theorem dX10_costWithout_13 : decode cX10_costWithout 13 = .ok (.iload_n 1, 1) := by decide +kernel
theorem dX10_costWithout_14 : decode cX10_costWithout 14 = .ok (.invokevirtual 343, 3) := by decide +kernel
theorem dX10_costWithout_17 : decode cX10_costWithout 17 = .ok (.ireturn, 1) := by decide +kernel
theorem dX10_culprit_0 : decode cX10_culprit 0 = .ok (.aload_n 0, 1) := by decide +kernel
theorem dX10_culprit_1 : decode cX10_culprit 1 = .ok (.iconst 0, 1) := by decide +kernel
theorem dX10_culprit_2 : decode cX10_culprit 2 = .ok (.putfield 117, 3) := by decide +kernel
theorem dX10_culprit_5 : decode cX10_culprit 5 = .ok (.aload_n 0, 1) := by decide +kernel
theorem dX10_culprit_6 : decode cX10_culprit 6 = .ok (.iconst (-1), 1) := by decide +kernel
theorem dX10_culprit_7 : decode cX10_culprit 7 = .ok (.invokevirtual 343, 3) := by decide +kernel
theorem dX10_culprit_10 : decode cX10_culprit 10 = .ok (.istore_n 1, 1) := by decide +kernel
theorem dX10_culprit_11 : decode cX10_culprit 11 = .ok (.iconst (-1), 1) := by decide +kernel
theorem dX10_culprit_12 : decode cX10_culprit 12 = .ok (.istore_n 2, 1) := by decide +kernel
theorem dX10_culprit_13 : decode cX10_culprit 13 = .ok (.iconst 0, 1) := by decide +kernel
theorem dX10_culprit_14 : decode cX10_culprit 14 = .ok (.istore_n 3, 1) := by decide +kernel
theorem dX10_culprit_15 : decode cX10_culprit 15 = .ok (.iload_n 3, 1) := by decide +kernel
theorem dX10_culprit_16 : decode cX10_culprit 16 = .ok (.aload_n 0, 1) := by decide +kernel
theorem dX10_culprit_17 : decode cX10_culprit 17 = .ok (.getfield 35, 3) := by decide +kernel
theorem dX10_culprit_20 : decode cX10_culprit 20 = .ok (.iconst 0, 1) := by decide +kernel
theorem dX10_culprit_21 : decode cX10_culprit 21 = .ok (.iaload, 1) := by decide +kernel
theorem dX10_culprit_22 : decode cX10_culprit 22 = .ok (.if_icmp .ge 31, 3) := by decide +kernel
theorem dX10_culprit_25 : decode cX10_culprit 25 = .ok (.iload_n 1, 1) := by decide +kernel
theorem dX10_culprit_26 : decode cX10_culprit 26 = .ok (.ifCond .le 27, 3) := by decide +kernel
theorem dX10_culprit_29 : decode cX10_culprit 29 = .ok (.aload_n 0, 1) := by decide +kernel
theorem dX10_culprit_30 : decode cX10_culprit 30 = .ok (.iload_n 3, 1) := by decide +kernel
theorem dX10_culprit_31 : decode cX10_culprit 31 = .ok (.invokevirtual 343, 3) := by decide +kernel
theorem dX10_culprit_34 : decode cX10_culprit 34 = .ok (.istore 4, 2) := by decide +kernel
theorem dX10_culprit_36 : decode cX10_culprit 36 = .ok (.iload 4, 2) := by decide +kernel
theorem dX10_culprit_38 : decode cX10_culprit 38 = .ok (.iload_n 1, 1) := by decide +kernel
theorem dX10_culprit_39 : decode cX10_culprit 39 = .ok (.if_icmp .ge 8, 3) := by decide +kernel
theorem dX10_culprit_42 : decode cX10_culprit 42 = .ok (.iload 4, 2) := by decide +kernel
theorem dX10_culprit_44 : decode cX10_culprit 44 = .ok (.istore_n 1, 1) := by decide +kernel
theorem dX10_culprit_45 : decode cX10_culprit 45 = .ok (.iload_n 3, 1) := by decide +kernel
theorem dX10_culprit_46 : decode cX10_culprit 46 = .ok (.istore_n 2, 1) := by decide +kernel
theorem dX10_culprit_47 : decode cX10_culprit 47 = .ok (.iinc 3 1, 3) := by decide +kernel
theorem dX10_culprit_50 : decode cX10_culprit 50 = .ok (.goto (-35), 3) := by decide +kernel
theorem dX10_culprit_53 : decode cX10_culprit 53 = .ok (.iload_n 2, 1) := by decide +kernel
theorem dX10_culprit_54 : decode cX10_culprit 54 = .ok (.ireturn, 1) := by decide +kernel
theorem dX10_markAt_0 : decode cX10_markAt 0 = .ok (.aload_n 0, 1) := by decide +kernel
theorem dX10_markAt_1 : decode cX10_markAt 1 = .ok (.iconst 0, 1) := by decide +kernel
theorem dX10_markAt_2 : decode cX10_markAt 2 = .ok (.putfield 117, 3) := by decide +kernel
theorem dX10_markAt_5 : decode cX10_markAt 5 = .ok (.aload_n 0, 1) := by decide +kernel
theorem dX10_markAt_6 : decode cX10_markAt 6 = .ok (.iload_n 1, 1) := by decide +kernel
theorem dX10_markAt_7 : decode cX10_markAt 7 = .ok (.iconst 0, 1) := by decide +kernel
theorem dX10_markAt_8 : decode cX10_markAt 8 = .ok (.aload_n 0, 1) := by decide +kernel
theorem dX10_markAt_9 : decode cX10_markAt 9 = .ok (.getfield 35, 3) := by decide +kernel
theorem dX10_markAt_12 : decode cX10_markAt 12 = .ok (.iconst 1, 1) := by decide +kernel
theorem dX10_markAt_13 : decode cX10_markAt 13 = .ok (.iaload, 1) := by decide +kernel
theorem dX10_markAt_14 : decode cX10_markAt 14 = .ok (.iconst 1, 1) := by decide +kernel
theorem dX10_markAt_15 : decode cX10_markAt 15 = .ok (.isub, 1) := by decide +kernel
theorem dX10_markAt_16 : decode cX10_markAt 16 = .ok (.invokestatic 130, 3) := by decide +kernel
theorem dX10_markAt_19 : decode cX10_markAt 19 = .ok (.ifCond .ne 7, 3) := by decide +kernel
theorem dX10_markAt_22 : decode cX10_markAt 22 = .ok (.iconst 1, 1) := by decide +kernel
theorem dX10_markAt_23 : decode cX10_markAt 23 = .ok (.goto 4, 3) := by decide +kernel
theorem dX10_markAt_26 : decode cX10_markAt 26 = .ok (.iconst 0, 1) := by decide +kernel
theorem dX10_markAt_27 : decode cX10_markAt 27 = .ok (.iconst 1, 1) := by decide +kernel
theorem dX10_markAt_28 : decode cX10_markAt 28 = .ok (.invokevirtual 227, 3) := by decide +kernel
theorem dX10_markAt_31 : decode cX10_markAt 31 = .ok (.ifCond .eq 7, 3) := by decide +kernel
theorem dX10_markAt_34 : decode cX10_markAt 34 = .ok (.iconst 0, 1) := by decide +kernel
theorem dX10_markAt_35 : decode cX10_markAt 35 = .ok (.goto 11, 3) := by decide +kernel
theorem dX10_markAt_38 : decode cX10_markAt 38 = .ok (.aload_n 0, 1) := by decide +kernel
theorem dX10_markAt_39 : decode cX10_markAt 39 = .ok (.getfield 35, 3) := by decide +kernel
theorem dX10_markAt_42 : decode cX10_markAt 42 = .ok (.iconst 2, 1) := by decide +kernel
theorem dX10_markAt_43 : decode cX10_markAt 43 = .ok (.iload_n 1, 1) := by decide +kernel
theorem dX10_markAt_44 : decode cX10_markAt 44 = .ok (.iadd, 1) := by decide +kernel
theorem dX10_markAt_45 : decode cX10_markAt 45 = .ok (.iaload, 1) := by decide +kernel
theorem dX10_markAt_46 : decode cX10_markAt 46 = .ok (.ireturn, 1) := by decide +kernel
theorem dX10_told_0 : decode cX10_told 0 = .ok (.aload_n 0, 1) := by decide +kernel
theorem dX10_told_1 : decode cX10_told 1 = .ok (.getfield 35, 3) := by decide +kernel
theorem dX10_told_4 : decode cX10_told 4 = .ok (.bipush 14, 2) := by decide +kernel
theorem dX10_told_6 : decode cX10_told 6 = .ok (.iload_n 1, 1) := by decide +kernel
theorem dX10_told_7 : decode cX10_told 7 = .ok (.iadd, 1) := by decide +kernel
theorem dX10_told_8 : decode cX10_told 8 = .ok (.iaload, 1) := by decide +kernel
theorem dX10_told_9 : decode cX10_told 9 = .ok (.bipush 10, 2) := by decide +kernel
theorem dX10_told_11 : decode cX10_told 11 = .ok (.if_icmp .ne 6, 3) := by decide +kernel
theorem dX10_told_14 : decode cX10_told 14 = .ok (.bipush 10, 2) := by decide +kernel
theorem dX10_told_16 : decode cX10_told 16 = .ok (.ireturn, 1) := by decide +kernel
theorem dX10_told_17 : decode cX10_told 17 = .ok (.aload_n 0, 1) := by decide +kernel
theorem dX10_told_18 : decode cX10_told 18 = .ok (.iload_n 1, 1) := by decide +kernel
theorem dX10_told_19 : decode cX10_told 19 = .ok (.invokevirtual 313, 3) := by decide +kernel
theorem dX10_told_22 : decode cX10_told 22 = .ok (.istore_n 2, 1) := by decide +kernel
theorem dX10_told_23 : decode cX10_told 23 = .ok (.aload_n 0, 1) := by decide +kernel
theorem dX10_told_24 : decode cX10_told 24 = .ok (.getfield 45, 3) := by decide +kernel
theorem dX10_told_27 : decode cX10_told 27 = .ok (.iload_n 1, 1) := by decide +kernel
theorem dX10_told_28 : decode cX10_told 28 = .ok (.iaload, 1) := by decide +kernel
theorem dX10_told_29 : decode cX10_told 29 = .ok (.ifCond .le 8, 3) := by decide +kernel
theorem dX10_told_32 : decode cX10_told 32 = .ok (.bipush 35, 2) := by decide +kernel
theorem dX10_told_34 : decode cX10_told 34 = .ok (.goto 44, 3) := by decide +kernel
theorem dX10_told_37 : decode cX10_told 37 = .ok (.iload_n 2, 1) := by decide +kernel
theorem dX10_told_38 : decode cX10_told 38 = .ok (.iconst (-1), 1) := by decide +kernel
theorem dX10_told_39 : decode cX10_told 39 = .ok (.if_icmp .ne 8, 3) := by decide +kernel
theorem dX10_told_42 : decode cX10_told 42 = .ok (.bipush 46, 2) := by decide +kernel
theorem dX10_told_44 : decode cX10_told 44 = .ok (.goto 34, 3) := by decide +kernel
theorem dX10_told_47 : decode cX10_told 47 = .ok (.aload_n 0, 1) := by decide +kernel
theorem dX10_told_48 : decode cX10_told 48 = .ok (.getfield 58, 3) := by decide +kernel
theorem dX10_told_51 : decode cX10_told 51 = .ok (.iload_n 2, 1) := by decide +kernel
theorem dX10_told_52 : decode cX10_told 52 = .ok (.iaload, 1) := by decide +kernel
theorem dX10_told_53 : decode cX10_told 53 = .ok (.iconst (-1), 1) := by decide +kernel
theorem dX10_told_54 : decode cX10_told 54 = .ok (.if_icmp .ne 8, 3) := by decide +kernel
theorem dX10_told_57 : decode cX10_told 57 = .ok (.bipush 33, 2) := by decide +kernel
theorem dX10_told_59 : decode cX10_told 59 = .ok (.goto 19, 3) := by decide +kernel
theorem dX10_told_62 : decode cX10_told 62 = .ok (.bipush 48, 2) := by decide +kernel
theorem dX10_told_64 : decode cX10_told 64 = .ok (.aload_n 0, 1) := by decide +kernel
theorem dX10_told_65 : decode cX10_told 65 = .ok (.iload_n 1, 1) := by decide +kernel
theorem dX10_told_66 : decode cX10_told 66 = .ok (.invokevirtual 284, 3) := by decide +kernel
theorem dX10_told_69 : decode cX10_told 69 = .ok (.aload_n 0, 1) := by decide +kernel
theorem dX10_told_70 : decode cX10_told 70 = .ok (.getfield 35, 3) := by decide +kernel
theorem dX10_told_73 : decode cX10_told 73 = .ok (.bipush 10, 2) := by decide +kernel
theorem dX10_told_75 : decode cX10_told 75 = .ok (.iaload, 1) := by decide +kernel
theorem dX10_told_76 : decode cX10_told 76 = .ok (.irem, 1) := by decide +kernel
theorem dX10_told_77 : decode cX10_told 77 = .ok (.iadd, 1) := by decide +kernel
theorem dX10_told_78 : decode cX10_told 78 = .ok (.ireturn, 1) := by decide +kernel
theorem dX10_report_0 : decode cX10_report 0 = .ok (.aload_n 0, 1) := by decide +kernel
theorem dX10_report_1 : decode cX10_report 1 = .ok (.iconst 0, 1) := by decide +kernel
theorem dX10_report_2 : decode cX10_report 2 = .ok (.putfield 117, 3) := by decide +kernel
theorem dX10_report_5 : decode cX10_report 5 = .ok (.aload_n 0, 1) := by decide +kernel
theorem dX10_report_6 : decode cX10_report 6 = .ok (.invokevirtual 292, 3) := by decide +kernel
theorem dX10_report_9 : decode cX10_report 9 = .ok (.aload_n 0, 1) := by decide +kernel
theorem dX10_report_10 : decode cX10_report 10 = .ok (.aload_n 0, 1) := by decide +kernel
theorem dX10_report_11 : decode cX10_report 11 = .ok (.getfield 35, 3) := by decide +kernel
theorem dX10_report_14 : decode cX10_report 14 = .ok (.iconst 0, 1) := by decide +kernel
theorem dX10_report_15 : decode cX10_report 15 = .ok (.iaload, 1) := by decide +kernel
theorem dX10_report_16 : decode cX10_report 16 = .ok (.putfield 352, 3) := by decide +kernel
theorem dX10_report_19 : decode cX10_report 19 = .ok (.iconst 0, 1) := by decide +kernel
theorem dX10_report_20 : decode cX10_report 20 = .ok (.istore_n 1, 1) := by decide +kernel
theorem dX10_report_21 : decode cX10_report 21 = .ok (.iload_n 1, 1) := by decide +kernel
theorem dX10_report_22 : decode cX10_report 22 = .ok (.aload_n 0, 1) := by decide +kernel
theorem dX10_report_23 : decode cX10_report 23 = .ok (.getfield 352, 3) := by decide +kernel
theorem dX10_report_26 : decode cX10_report 26 = .ok (.if_icmp .ge 20, 3) := by decide +kernel
theorem dX10_report_29 : decode cX10_report 29 = .ok (.aload_n 0, 1) := by decide +kernel
theorem dX10_report_30 : decode cX10_report 30 = .ok (.getfield 83, 3) := by decide +kernel
theorem dX10_report_33 : decode cX10_report 33 = .ok (.iload_n 1, 1) := by decide +kernel
theorem dX10_report_34 : decode cX10_report 34 = .ok (.aload_n 0, 1) := by decide +kernel
theorem dX10_report_35 : decode cX10_report 35 = .ok (.iload_n 1, 1) := by decide +kernel
theorem dX10_report_36 : decode cX10_report 36 = .ok (.invokevirtual 355, 3) := by decide +kernel
theorem dX10_report_39 : decode cX10_report 39 = .ok (.iastore, 1) := by decide +kernel
theorem dX10_report_40 : decode cX10_report 40 = .ok (.iinc 1 1, 3) := by decide +kernel
theorem dX10_report_43 : decode cX10_report 43 = .ok (.goto (-22), 3) := by decide +kernel
theorem dX10_report_46 : decode cX10_report 46 = .ok (.aload_n 0, 1) := by decide +kernel
theorem dX10_report_47 : decode cX10_report 47 = .ok (.getfield 352, 3) := by decide +kernel
theorem dX10_report_50 : decode cX10_report 50 = .ok (.ireturn, 1) := by decide +kernel
theorem dX10_reportByte_0 : decode cX10_reportByte 0 = .ok (.aload_n 0, 1) := by decide +kernel
theorem dX10_reportByte_1 : decode cX10_reportByte 1 = .ok (.iconst 0, 1) := by decide +kernel
theorem dX10_reportByte_2 : decode cX10_reportByte 2 = .ok (.putfield 117, 3) := by decide +kernel
theorem dX10_reportByte_5 : decode cX10_reportByte 5 = .ok (.iload_n 1, 1) := by decide +kernel
theorem dX10_reportByte_6 : decode cX10_reportByte 6 = .ok (.iconst 0, 1) := by decide +kernel
theorem dX10_reportByte_7 : decode cX10_reportByte 7 = .ok (.aload_n 0, 1) := by decide +kernel
theorem dX10_reportByte_8 : decode cX10_reportByte 8 = .ok (.getfield 352, 3) := by decide +kernel
theorem dX10_reportByte_11 : decode cX10_reportByte 11 = .ok (.iconst 1, 1) := by decide +kernel
theorem dX10_reportByte_12 : decode cX10_reportByte 12 = .ok (.isub, 1) := by decide +kernel
theorem dX10_reportByte_13 : decode cX10_reportByte 13 = .ok (.invokestatic 130, 3) := by decide +kernel
theorem dX10_reportByte_16 : decode cX10_reportByte 16 = .ok (.ifCond .eq 12, 3) := by decide +kernel
theorem dX10_reportByte_19 : decode cX10_reportByte 19 = .ok (.aload_n 0, 1) := by decide +kernel
theorem dX10_reportByte_20 : decode cX10_reportByte 20 = .ok (.getfield 83, 3) := by decide +kernel
theorem dX10_reportByte_23 : decode cX10_reportByte 23 = .ok (.iload_n 1, 1) := by decide +kernel
theorem dX10_reportByte_24 : decode cX10_reportByte 24 = .ok (.iaload, 1) := by decide +kernel
theorem dX10_reportByte_25 : decode cX10_reportByte 25 = .ok (.goto 4, 3) := by decide +kernel
theorem dX10_reportByte_28 : decode cX10_reportByte 28 = .ok (.iconst (-1), 1) := by decide +kernel
theorem dX10_reportByte_29 : decode cX10_reportByte 29 = .ok (.ireturn, 1) := by decide +kernel
theorem dX10_puts_0 : decode cX10_puts 0 = .ok (.aload_n 0, 1) := by decide +kernel
theorem dX10_puts_1 : decode cX10_puts 1 = .ok (.getfield 35, 3) := by decide +kernel
theorem dX10_puts_4 : decode cX10_puts 4 = .ok (.iconst 0, 1) := by decide +kernel
theorem dX10_puts_5 : decode cX10_puts 5 = .ok (.iaload, 1) := by decide +kernel
theorem dX10_puts_6 : decode cX10_puts 6 = .ok (.istore_n 3, 1) := by decide +kernel
theorem dX10_puts_7 : decode cX10_puts 7 = .ok (.iload_n 3, 1) := by decide +kernel
theorem dX10_puts_8 : decode cX10_puts 8 = .ok (.iload_n 1, 1) := by decide +kernel
theorem dX10_puts_9 : decode cX10_puts 9 = .ok (.if_icmp .le 29, 3) := by decide +kernel
theorem dX10_puts_12 : decode cX10_puts 12 = .ok (.aload_n 0, 1) := by decide +kernel
theorem dX10_puts_13 : decode cX10_puts 13 = .ok (.getfield 35, 3) := by decide +kernel
theorem dX10_puts_16 : decode cX10_puts 16 = .ok (.bipush 14, 2) := by decide +kernel
theorem dX10_puts_18 : decode cX10_puts 18 = .ok (.iload_n 3, 1) := by decide +kernel
theorem dX10_puts_19 : decode cX10_puts 19 = .ok (.iadd, 1) := by decide +kernel
theorem dX10_puts_20 : decode cX10_puts 20 = .ok (.aload_n 0, 1) := by decide +kernel
theorem dX10_puts_21 : decode cX10_puts 21 = .ok (.getfield 35, 3) := by decide +kernel
theorem dX10_puts_24 : decode cX10_puts 24 = .ok (.bipush 14, 2) := by decide +kernel
theorem dX10_puts_26 : decode cX10_puts 26 = .ok (.iload_n 3, 1) := by decide +kernel
theorem dX10_puts_27 : decode cX10_puts 27 = .ok (.iadd, 1) := by decide +kernel
theorem dX10_puts_28 : decode cX10_puts 28 = .ok (.iconst 1, 1) := by decide +kernel
theorem dX10_puts_29 : decode cX10_puts 29 = .ok (.isub, 1) := by decide +kernel
theorem dX10_puts_30 : decode cX10_puts 30 = .ok (.iaload, 1) := by decide +kernel
theorem dX10_puts_31 : decode cX10_puts 31 = .ok (.iastore, 1) := by decide +kernel
theorem dX10_puts_32 : decode cX10_puts 32 = .ok (.iinc 3 (-1), 3) := by decide +kernel
theorem dX10_puts_35 : decode cX10_puts 35 = .ok (.goto (-28), 3) := by decide +kernel
theorem dX10_puts_38 : decode cX10_puts 38 = .ok (.aload_n 0, 1) := by decide +kernel
theorem dX10_puts_39 : decode cX10_puts 39 = .ok (.getfield 35, 3) := by decide +kernel
theorem dX10_puts_42 : decode cX10_puts 42 = .ok (.bipush 14, 2) := by decide +kernel
theorem dX10_puts_44 : decode cX10_puts 44 = .ok (.iload_n 1, 1) := by decide +kernel
theorem dX10_puts_45 : decode cX10_puts 45 = .ok (.iadd, 1) := by decide +kernel
theorem dX10_puts_46 : decode cX10_puts 46 = .ok (.iload_n 2, 1) := by decide +kernel
theorem dX10_puts_47 : decode cX10_puts 47 = .ok (.iastore, 1) := by decide +kernel
theorem dX10_puts_48 : decode cX10_puts 48 = .ok (.aload_n 0, 1) := by decide +kernel
theorem dX10_puts_49 : decode cX10_puts 49 = .ok (.getfield 35, 3) := by decide +kernel
theorem dX10_puts_52 : decode cX10_puts 52 = .ok (.iconst 0, 1) := by decide +kernel
theorem dX10_puts_53 : decode cX10_puts 53 = .ok (.dup2, 1) := by decide +kernel
theorem dX10_puts_54 : decode cX10_puts 54 = .ok (.iaload, 1) := by decide +kernel
theorem dX10_puts_55 : decode cX10_puts 55 = .ok (.iconst 1, 1) := by decide +kernel
theorem dX10_puts_56 : decode cX10_puts 56 = .ok (.iadd, 1) := by decide +kernel
theorem dX10_puts_57 : decode cX10_puts 57 = .ok (.iastore, 1) := by decide +kernel
theorem dX10_puts_58 : decode cX10_puts 58 = .ok (.iconst 0, 1) := by decide +kernel
theorem dX10_puts_59 : decode cX10_puts 59 = .ok (.istore_n 3, 1) := by decide +kernel
theorem dX10_puts_60 : decode cX10_puts 60 = .ok (.iload_n 3, 1) := by decide +kernel
theorem dX10_puts_61 : decode cX10_puts 61 = .ok (.aload_n 0, 1) := by decide +kernel
theorem dX10_puts_62 : decode cX10_puts 62 = .ok (.getfield 35, 3) := by decide +kernel
theorem dX10_puts_65 : decode cX10_puts 65 = .ok (.iconst 1, 1) := by decide +kernel
theorem dX10_puts_66 : decode cX10_puts 66 = .ok (.iaload, 1) := by decide +kernel
theorem dX10_puts_67 : decode cX10_puts 67 = .ok (.if_icmp .ge 37, 3) := by decide +kernel
theorem dX10_puts_70 : decode cX10_puts 70 = .ok (.aload_n 0, 1) := by decide +kernel
theorem dX10_puts_71 : decode cX10_puts 71 = .ok (.getfield 35, 3) := by decide +kernel
theorem dX10_puts_74 : decode cX10_puts 74 = .ok (.iconst 2, 1) := by decide +kernel
theorem dX10_puts_75 : decode cX10_puts 75 = .ok (.iload_n 3, 1) := by decide +kernel
theorem dX10_puts_76 : decode cX10_puts 76 = .ok (.iadd, 1) := by decide +kernel
theorem dX10_puts_77 : decode cX10_puts 77 = .ok (.dup2, 1) := by decide +kernel
theorem dX10_puts_78 : decode cX10_puts 78 = .ok (.iaload, 1) := by decide +kernel
theorem dX10_puts_79 : decode cX10_puts 79 = .ok (.aload_n 0, 1) := by decide +kernel
theorem dX10_puts_80 : decode cX10_puts 80 = .ok (.getfield 35, 3) := by decide +kernel
theorem dX10_puts_83 : decode cX10_puts 83 = .ok (.iconst 2, 1) := by decide +kernel
theorem dX10_puts_84 : decode cX10_puts 84 = .ok (.iload_n 3, 1) := by decide +kernel
theorem dX10_puts_85 : decode cX10_puts 85 = .ok (.iadd, 1) := by decide +kernel
theorem dX10_puts_86 : decode cX10_puts 86 = .ok (.iaload, 1) := by decide +kernel
theorem dX10_puts_87 : decode cX10_puts 87 = .ok (.iload_n 1, 1) := by decide +kernel
theorem dX10_puts_88 : decode cX10_puts 88 = .ok (.if_icmp .lt 7, 3) := by decide +kernel
theorem dX10_puts_91 : decode cX10_puts 91 = .ok (.iconst 1, 1) := by decide +kernel
theorem dX10_puts_92 : decode cX10_puts 92 = .ok (.goto 4, 3) := by decide +kernel
theorem dX10_puts_95 : decode cX10_puts 95 = .ok (.iconst 0, 1) := by decide +kernel
theorem dX10_puts_96 : decode cX10_puts 96 = .ok (.iadd, 1) := by decide +kernel
theorem dX10_puts_97 : decode cX10_puts 97 = .ok (.iastore, 1) := by decide +kernel
theorem dX10_puts_98 : decode cX10_puts 98 = .ok (.iinc 3 1, 3) := by decide +kernel
theorem dX10_puts_101 : decode cX10_puts 101 = .ok (.goto (-41), 3) := by decide +kernel
theorem dX10_puts_104 : decode cX10_puts 104 = .ok (.return_, 1) := by decide +kernel
theorem dX10_takesOut_0 : decode cX10_takesOut 0 = .ok (.iload_n 2, 1) := by decide +kernel
theorem dX10_takesOut_1 : decode cX10_takesOut 1 = .ok (.istore_n 3, 1) := by decide +kernel
theorem dX10_takesOut_2 : decode cX10_takesOut 2 = .ok (.iload_n 3, 1) := by decide +kernel
theorem dX10_takesOut_3 : decode cX10_takesOut 3 = .ok (.aload_n 0, 1) := by decide +kernel
theorem dX10_takesOut_4 : decode cX10_takesOut 4 = .ok (.getfield 35, 3) := by decide +kernel
theorem dX10_takesOut_7 : decode cX10_takesOut 7 = .ok (.iconst 0, 1) := by decide +kernel
theorem dX10_takesOut_8 : decode cX10_takesOut 8 = .ok (.iaload, 1) := by decide +kernel
theorem dX10_takesOut_9 : decode cX10_takesOut 9 = .ok (.if_icmp .ge 31, 3) := by decide +kernel
theorem dX10_takesOut_12 : decode cX10_takesOut 12 = .ok (.aload_n 0, 1) := by decide +kernel
theorem dX10_takesOut_13 : decode cX10_takesOut 13 = .ok (.getfield 35, 3) := by decide +kernel
theorem dX10_takesOut_16 : decode cX10_takesOut 16 = .ok (.bipush 14, 2) := by decide +kernel
theorem dX10_takesOut_18 : decode cX10_takesOut 18 = .ok (.iload_n 1, 1) := by decide +kernel
theorem dX10_takesOut_19 : decode cX10_takesOut 19 = .ok (.iadd, 1) := by decide +kernel
theorem dX10_takesOut_20 : decode cX10_takesOut 20 = .ok (.iload_n 3, 1) := by decide +kernel
theorem dX10_takesOut_21 : decode cX10_takesOut 21 = .ok (.iadd, 1) := by decide +kernel
theorem dX10_takesOut_22 : decode cX10_takesOut 22 = .ok (.iload_n 2, 1) := by decide +kernel
theorem dX10_takesOut_23 : decode cX10_takesOut 23 = .ok (.isub, 1) := by decide +kernel
theorem dX10_takesOut_24 : decode cX10_takesOut 24 = .ok (.aload_n 0, 1) := by decide +kernel
theorem dX10_takesOut_25 : decode cX10_takesOut 25 = .ok (.getfield 35, 3) := by decide +kernel
theorem dX10_takesOut_28 : decode cX10_takesOut 28 = .ok (.bipush 14, 2) := by decide +kernel
theorem dX10_takesOut_30 : decode cX10_takesOut 30 = .ok (.iload_n 3, 1) := by decide +kernel
theorem dX10_takesOut_31 : decode cX10_takesOut 31 = .ok (.iadd, 1) := by decide +kernel
theorem dX10_takesOut_32 : decode cX10_takesOut 32 = .ok (.iaload, 1) := by decide +kernel
theorem dX10_takesOut_33 : decode cX10_takesOut 33 = .ok (.iastore, 1) := by decide +kernel
theorem dX10_takesOut_34 : decode cX10_takesOut 34 = .ok (.iinc 3 1, 3) := by decide +kernel
theorem dX10_takesOut_37 : decode cX10_takesOut 37 = .ok (.goto (-35), 3) := by decide +kernel
theorem dX10_takesOut_40 : decode cX10_takesOut 40 = .ok (.aload_n 0, 1) := by decide +kernel
theorem dX10_takesOut_41 : decode cX10_takesOut 41 = .ok (.getfield 35, 3) := by decide +kernel
theorem dX10_takesOut_44 : decode cX10_takesOut 44 = .ok (.iconst 0, 1) := by decide +kernel
theorem dX10_takesOut_45 : decode cX10_takesOut 45 = .ok (.dup2, 1) := by decide +kernel
theorem dX10_takesOut_46 : decode cX10_takesOut 46 = .ok (.iaload, 1) := by decide +kernel
theorem dX10_takesOut_47 : decode cX10_takesOut 47 = .ok (.iload_n 2, 1) := by decide +kernel
theorem dX10_takesOut_48 : decode cX10_takesOut 48 = .ok (.iload_n 1, 1) := by decide +kernel
theorem dX10_takesOut_49 : decode cX10_takesOut 49 = .ok (.isub, 1) := by decide +kernel
theorem dX10_takesOut_50 : decode cX10_takesOut 50 = .ok (.isub, 1) := by decide +kernel
theorem dX10_takesOut_51 : decode cX10_takesOut 51 = .ok (.iastore, 1) := by decide +kernel
theorem dX10_takesOut_52 : decode cX10_takesOut 52 = .ok (.iconst 0, 1) := by decide +kernel
theorem dX10_takesOut_53 : decode cX10_takesOut 53 = .ok (.istore_n 3, 1) := by decide +kernel
theorem dX10_takesOut_54 : decode cX10_takesOut 54 = .ok (.iload_n 3, 1) := by decide +kernel
theorem dX10_takesOut_55 : decode cX10_takesOut 55 = .ok (.aload_n 0, 1) := by decide +kernel
theorem dX10_takesOut_56 : decode cX10_takesOut 56 = .ok (.getfield 35, 3) := by decide +kernel
theorem dX10_takesOut_59 : decode cX10_takesOut 59 = .ok (.iconst 1, 1) := by decide +kernel
theorem dX10_takesOut_60 : decode cX10_takesOut 60 = .ok (.iaload, 1) := by decide +kernel
theorem dX10_takesOut_61 : decode cX10_takesOut 61 = .ok (.if_icmp .ge 54, 3) := by decide +kernel
theorem dX10_takesOut_64 : decode cX10_takesOut 64 = .ok (.aload_n 0, 1) := by decide +kernel
theorem dX10_takesOut_65 : decode cX10_takesOut 65 = .ok (.getfield 35, 3) := by decide +kernel
theorem dX10_takesOut_68 : decode cX10_takesOut 68 = .ok (.iconst 2, 1) := by decide +kernel
theorem dX10_takesOut_69 : decode cX10_takesOut 69 = .ok (.iload_n 3, 1) := by decide +kernel
theorem dX10_takesOut_70 : decode cX10_takesOut 70 = .ok (.iadd, 1) := by decide +kernel
theorem dX10_takesOut_71 : decode cX10_takesOut 71 = .ok (.iaload, 1) := by decide +kernel
theorem dX10_takesOut_72 : decode cX10_takesOut 72 = .ok (.istore 4, 2) := by decide +kernel
theorem dX10_takesOut_74 : decode cX10_takesOut 74 = .ok (.aload_n 0, 1) := by decide +kernel
theorem dX10_takesOut_75 : decode cX10_takesOut 75 = .ok (.getfield 35, 3) := by decide +kernel
theorem dX10_takesOut_78 : decode cX10_takesOut 78 = .ok (.iconst 2, 1) := by decide +kernel
theorem dX10_takesOut_79 : decode cX10_takesOut 79 = .ok (.iload_n 3, 1) := by decide +kernel
theorem dX10_takesOut_80 : decode cX10_takesOut 80 = .ok (.iadd, 1) := by decide +kernel
theorem dX10_takesOut_81 : decode cX10_takesOut 81 = .ok (.iload 4, 2) := by decide +kernel
theorem dX10_takesOut_83 : decode cX10_takesOut 83 = .ok (.iload_n 2, 1) := by decide +kernel
theorem dX10_takesOut_84 : decode cX10_takesOut 84 = .ok (.if_icmp .le 12, 3) := by decide +kernel
theorem dX10_takesOut_87 : decode cX10_takesOut 87 = .ok (.iload 4, 2) := by decide +kernel
theorem dX10_takesOut_89 : decode cX10_takesOut 89 = .ok (.iload_n 2, 1) := by decide +kernel
theorem dX10_takesOut_90 : decode cX10_takesOut 90 = .ok (.iload_n 1, 1) := by decide +kernel
theorem dX10_takesOut_91 : decode cX10_takesOut 91 = .ok (.isub, 1) := by decide +kernel
theorem dX10_takesOut_92 : decode cX10_takesOut 92 = .ok (.isub, 1) := by decide +kernel
theorem dX10_takesOut_93 : decode cX10_takesOut 93 = .ok (.goto 15, 3) := by decide +kernel
theorem dX10_takesOut_96 : decode cX10_takesOut 96 = .ok (.iload 4, 2) := by decide +kernel
theorem dX10_takesOut_98 : decode cX10_takesOut 98 = .ok (.iload_n 1, 1) := by decide +kernel
theorem dX10_takesOut_99 : decode cX10_takesOut 99 = .ok (.if_icmp .lt 7, 3) := by decide +kernel
theorem dX10_takesOut_102 : decode cX10_takesOut 102 = .ok (.iload_n 1, 1) := by decide +kernel
theorem dX10_takesOut_103 : decode cX10_takesOut 103 = .ok (.goto 5, 3) := by decide +kernel
theorem dX10_takesOut_106 : decode cX10_takesOut 106 = .ok (.iload 4, 2) := by decide +kernel
theorem dX10_takesOut_108 : decode cX10_takesOut 108 = .ok (.iastore, 1) := by decide +kernel
theorem dX10_takesOut_109 : decode cX10_takesOut 109 = .ok (.iinc 3 1, 3) := by decide +kernel
theorem dX10_takesOut_112 : decode cX10_takesOut 112 = .ok (.goto (-58), 3) := by decide +kernel
theorem dX10_takesOut_115 : decode cX10_takesOut 115 = .ok (.return_, 1) := by decide +kernel
theorem dX10_wraps_0 : decode cX10_wraps 0 = .ok (.aload_n 0, 1) := by decide +kernel
theorem dX10_wraps_1 : decode cX10_wraps 1 = .ok (.iload_n 2, 1) := by decide +kernel
theorem dX10_wraps_2 : decode cX10_wraps 2 = .ok (.aload_n 0, 1) := by decide +kernel
theorem dX10_wraps_3 : decode cX10_wraps 3 = .ok (.getfield 13, 3) := by decide +kernel
theorem dX10_wraps_6 : decode cX10_wraps 6 = .ok (.iload_n 3, 1) := by decide +kernel
theorem dX10_wraps_7 : decode cX10_wraps 7 = .ok (.iaload, 1) := by decide +kernel
theorem dX10_wraps_8 : decode cX10_wraps 8 = .ok (.invokevirtual 358, 3) := by decide +kernel
theorem dX10_wraps_11 : decode cX10_wraps 11 = .ok (.aload_n 0, 1) := by decide +kernel
theorem dX10_wraps_12 : decode cX10_wraps 12 = .ok (.iload_n 1, 1) := by decide +kernel
theorem dX10_wraps_13 : decode cX10_wraps 13 = .ok (.aload_n 0, 1) := by decide +kernel
theorem dX10_wraps_14 : decode cX10_wraps 14 = .ok (.getfield 7, 3) := by decide +kernel
theorem dX10_wraps_17 : decode cX10_wraps 17 = .ok (.iload_n 3, 1) := by decide +kernel
theorem dX10_wraps_18 : decode cX10_wraps 18 = .ok (.iaload, 1) := by decide +kernel
theorem dX10_wraps_19 : decode cX10_wraps 19 = .ok (.invokevirtual 358, 3) := by decide +kernel
theorem dX10_wraps_22 : decode cX10_wraps 22 = .ok (.return_, 1) := by decide +kernel
theorem dX10_longBehind_0 : decode cX10_longBehind 0 = .ok (.aload_n 0, 1) := by decide +kernel
theorem dX10_longBehind_1 : decode cX10_longBehind 1 = .ok (.getfield 35, 3) := by decide +kernel
theorem dX10_longBehind_4 : decode cX10_longBehind 4 = .ok (.iconst 0, 1) := by decide +kernel
theorem dX10_longBehind_5 : decode cX10_longBehind 5 = .ok (.iaload, 1) := by decide +kernel
theorem dX10_longBehind_6 : decode cX10_longBehind 6 = .ok (.istore_n 1, 1) := by decide +kernel
theorem dX10_longBehind_7 : decode cX10_longBehind 7 = .ok (.iconst 0, 1) := by decide +kernel
theorem dX10_longBehind_8 : decode cX10_longBehind 8 = .ok (.istore_n 2, 1) := by decide +kernel
theorem dX10_longBehind_9 : decode cX10_longBehind 9 = .ok (.iload_n 2, 1) := by decide +kernel
theorem dX10_longBehind_10 : decode cX10_longBehind 10 = .ok (.aload_n 0, 1) := by decide +kernel
theorem dX10_longBehind_11 : decode cX10_longBehind 11 = .ok (.getfield 264, 3) := by decide +kernel
theorem dX10_longBehind_14 : decode cX10_longBehind 14 = .ok (.if_icmp .ge 40, 3) := by decide +kernel
theorem dX10_longBehind_17 : decode cX10_longBehind 17 = .ok (.iload_n 1, 1) := by decide +kernel
theorem dX10_longBehind_18 : decode cX10_longBehind 18 = .ok (.aload_n 0, 1) := by decide +kernel
theorem dX10_longBehind_19 : decode cX10_longBehind 19 = .ok (.getfield 71, 3) := by decide +kernel
theorem dX10_longBehind_22 : decode cX10_longBehind 22 = .ok (.iload_n 2, 1) := by decide +kernel
theorem dX10_longBehind_23 : decode cX10_longBehind 23 = .ok (.iaload, 1) := by decide +kernel
theorem dX10_longBehind_24 : decode cX10_longBehind 24 = .ok (.ifCond .ne 7, 3) := by decide +kernel
theorem dX10_longBehind_27 : decode cX10_longBehind 27 = .ok (.iconst (-1), 1) := by decide +kernel
theorem dX10_longBehind_28 : decode cX10_longBehind 28 = .ok (.goto 18, 3) := by decide +kernel
theorem dX10_longBehind_31 : decode cX10_longBehind 31 = .ok (.aload_n 0, 1) := by decide +kernel
theorem dX10_longBehind_32 : decode cX10_longBehind 32 = .ok (.getfield 71, 3) := by decide +kernel
theorem dX10_longBehind_35 : decode cX10_longBehind 35 = .ok (.iload_n 2, 1) := by decide +kernel
theorem dX10_longBehind_36 : decode cX10_longBehind 36 = .ok (.iaload, 1) := by decide +kernel
theorem dX10_longBehind_37 : decode cX10_longBehind 37 = .ok (.iconst 1, 1) := by decide +kernel
theorem dX10_longBehind_38 : decode cX10_longBehind 38 = .ok (.if_icmp .ne 7, 3) := by decide +kernel
theorem dX10_longBehind_41 : decode cX10_longBehind 41 = .ok (.iconst 1, 1) := by decide +kernel
theorem dX10_longBehind_42 : decode cX10_longBehind 42 = .ok (.goto 4, 3) := by decide +kernel
theorem dX10_longBehind_45 : decode cX10_longBehind 45 = .ok (.iconst 0, 1) := by decide +kernel
theorem dX10_longBehind_46 : decode cX10_longBehind 46 = .ok (.iadd, 1) := by decide +kernel
theorem dX10_longBehind_47 : decode cX10_longBehind 47 = .ok (.istore_n 1, 1) := by decide +kernel
theorem dX10_longBehind_48 : decode cX10_longBehind 48 = .ok (.iinc 2 1, 3) := by decide +kernel
theorem dX10_longBehind_51 : decode cX10_longBehind 51 = .ok (.goto (-42), 3) := by decide +kernel
theorem dX10_longBehind_54 : decode cX10_longBehind 54 = .ok (.iload_n 1, 1) := by decide +kernel
theorem dX10_longBehind_55 : decode cX10_longBehind 55 = .ok (.ireturn, 1) := by decide +kernel
theorem dX10_repairs_0 : decode cX10_repairs 0 = .ok (.aload_n 0, 1) := by decide +kernel
theorem dX10_repairs_1 : decode cX10_repairs 1 = .ok (.getfield 264, 3) := by decide +kernel
theorem dX10_repairs_4 : decode cX10_repairs 4 = .ok (.iconst 1, 1) := by decide +kernel
theorem dX10_repairs_5 : decode cX10_repairs 5 = .ok (.isub, 1) := by decide +kernel
theorem dX10_repairs_6 : decode cX10_repairs 6 = .ok (.istore_n 1, 1) := by decide +kernel
theorem dX10_repairs_7 : decode cX10_repairs 7 = .ok (.iload_n 1, 1) := by decide +kernel
theorem dX10_repairs_8 : decode cX10_repairs 8 = .ok (.ifCond .lt 151, 3) := by decide +kernel
theorem dX10_repairs_11 : decode cX10_repairs 11 = .ok (.aload_n 0, 1) := by decide +kernel
theorem dX10_repairs_12 : decode cX10_repairs 12 = .ok (.getfield 71, 3) := by decide +kernel
theorem dX10_repairs_15 : decode cX10_repairs 15 = .ok (.iload_n 1, 1) := by decide +kernel
theorem dX10_repairs_16 : decode cX10_repairs 16 = .ok (.iaload, 1) := by decide +kernel
theorem dX10_repairs_17 : decode cX10_repairs 17 = .ok (.ifCond .ne 24, 3) := by decide +kernel
theorem dX10_repairs_20 : decode cX10_repairs 20 = .ok (.aload_n 0, 1) := by decide +kernel
theorem dX10_repairs_21 : decode cX10_repairs 21 = .ok (.aload_n 0, 1) := by decide +kernel
theorem dX10_repairs_22 : decode cX10_repairs 22 = .ok (.getfield 48, 3) := by decide +kernel
theorem dX10_repairs_25 : decode cX10_repairs 25 = .ok (.iload_n 1, 1) := by decide +kernel
theorem dX10_repairs_26 : decode cX10_repairs 26 = .ok (.iaload, 1) := by decide +kernel
theorem dX10_repairs_27 : decode cX10_repairs 27 = .ok (.aload_n 0, 1) := by decide +kernel
theorem dX10_repairs_28 : decode cX10_repairs 28 = .ok (.getfield 48, 3) := by decide +kernel
theorem dX10_repairs_31 : decode cX10_repairs 31 = .ok (.iload_n 1, 1) := by decide +kernel
theorem dX10_repairs_32 : decode cX10_repairs 32 = .ok (.iaload, 1) := by decide +kernel
theorem dX10_repairs_33 : decode cX10_repairs 33 = .ok (.iconst 1, 1) := by decide +kernel
theorem dX10_repairs_34 : decode cX10_repairs 34 = .ok (.iadd, 1) := by decide +kernel
theorem dX10_repairs_35 : decode cX10_repairs 35 = .ok (.invokevirtual 361, 3) := by decide +kernel
theorem dX10_repairs_38 : decode cX10_repairs 38 = .ok (.goto 115, 3) := by decide +kernel
theorem dX10_repairs_41 : decode cX10_repairs 41 = .ok (.aload_n 0, 1) := by decide +kernel
theorem dX10_repairs_42 : decode cX10_repairs 42 = .ok (.getfield 71, 3) := by decide +kernel
theorem dX10_repairs_45 : decode cX10_repairs 45 = .ok (.iload_n 1, 1) := by decide +kernel
theorem dX10_repairs_46 : decode cX10_repairs 46 = .ok (.iaload, 1) := by decide +kernel
theorem dX10_repairs_47 : decode cX10_repairs 47 = .ok (.iconst 1, 1) := by decide +kernel
theorem dX10_repairs_48 : decode cX10_repairs 48 = .ok (.if_icmp .ne 70, 3) := by decide +kernel
theorem dX10_repairs_51 : decode cX10_repairs 51 = .ok (.aload_n 0, 1) := by decide +kernel
theorem dX10_repairs_52 : decode cX10_repairs 52 = .ok (.aload_n 0, 1) := by decide +kernel
theorem dX10_repairs_53 : decode cX10_repairs 53 = .ok (.getfield 54, 3) := by decide +kernel
theorem dX10_repairs_56 : decode cX10_repairs 56 = .ok (.iload_n 1, 1) := by decide +kernel
theorem dX10_repairs_57 : decode cX10_repairs 57 = .ok (.baload, 1) := by decide +kernel
theorem dX10_repairs_58 : decode cX10_repairs 58 = .ok (.ifCond .eq 14, 3) := by decide +kernel
theorem dX10_repairs_61 : decode cX10_repairs 61 = .ok (.aload_n 0, 1) := by decide +kernel
theorem dX10_repairs_62 : decode cX10_repairs 62 = .ok (.getfield 48, 3) := by decide +kernel
theorem dX10_repairs_65 : decode cX10_repairs 65 = .ok (.iload_n 1, 1) := by decide +kernel
theorem dX10_repairs_66 : decode cX10_repairs 66 = .ok (.iaload, 1) := by decide +kernel
theorem dX10_repairs_67 : decode cX10_repairs 67 = .ok (.iconst 1, 1) := by decide +kernel
theorem dX10_repairs_68 : decode cX10_repairs 68 = .ok (.iadd, 1) := by decide +kernel
theorem dX10_repairs_69 : decode cX10_repairs 69 = .ok (.goto 9, 3) := by decide +kernel
theorem dX10_repairs_72 : decode cX10_repairs 72 = .ok (.aload_n 0, 1) := by decide +kernel
theorem dX10_repairs_73 : decode cX10_repairs 73 = .ok (.getfield 48, 3) := by decide +kernel
theorem dX10_repairs_76 : decode cX10_repairs 76 = .ok (.iload_n 1, 1) := by decide +kernel
theorem dX10_repairs_77 : decode cX10_repairs 77 = .ok (.iaload, 1) := by decide +kernel
theorem dX10_repairs_78 : decode cX10_repairs 78 = .ok (.aload_n 0, 1) := by decide +kernel
theorem dX10_repairs_79 : decode cX10_repairs 79 = .ok (.getfield 54, 3) := by decide +kernel
theorem dX10_repairs_82 : decode cX10_repairs 82 = .ok (.iload_n 1, 1) := by decide +kernel
theorem dX10_repairs_83 : decode cX10_repairs 83 = .ok (.baload, 1) := by decide +kernel
theorem dX10_repairs_84 : decode cX10_repairs 84 = .ok (.ifCond .eq 17, 3) := by decide +kernel
theorem dX10_repairs_87 : decode cX10_repairs 87 = .ok (.aload_n 0, 1) := by decide +kernel
theorem dX10_repairs_88 : decode cX10_repairs 88 = .ok (.getfield 13, 3) := by decide +kernel
theorem dX10_repairs_91 : decode cX10_repairs 91 = .ok (.aload_n 0, 1) := by decide +kernel
theorem dX10_repairs_92 : decode cX10_repairs 92 = .ok (.getfield 51, 3) := by decide +kernel
theorem dX10_repairs_95 : decode cX10_repairs 95 = .ok (.iload_n 1, 1) := by decide +kernel
theorem dX10_repairs_96 : decode cX10_repairs 96 = .ok (.iaload, 1) := by decide +kernel
theorem dX10_repairs_97 : decode cX10_repairs 97 = .ok (.iaload, 1) := by decide +kernel
theorem dX10_repairs_98 : decode cX10_repairs 98 = .ok (.goto 14, 3) := by decide +kernel
theorem dX10_repairs_101 : decode cX10_repairs 101 = .ok (.aload_n 0, 1) := by decide +kernel
theorem dX10_repairs_102 : decode cX10_repairs 102 = .ok (.getfield 7, 3) := by decide +kernel
theorem dX10_repairs_105 : decode cX10_repairs 105 = .ok (.aload_n 0, 1) := by decide +kernel
theorem dX10_repairs_106 : decode cX10_repairs 106 = .ok (.getfield 51, 3) := by decide +kernel
theorem dX10_repairs_109 : decode cX10_repairs 109 = .ok (.iload_n 1, 1) := by decide +kernel
theorem dX10_repairs_110 : decode cX10_repairs 110 = .ok (.iaload, 1) := by decide +kernel
theorem dX10_repairs_111 : decode cX10_repairs 111 = .ok (.iaload, 1) := by decide +kernel
theorem dX10_repairs_112 : decode cX10_repairs 112 = .ok (.invokevirtual 358, 3) := by decide +kernel
theorem dX10_repairs_115 : decode cX10_repairs 115 = .ok (.goto 38, 3) := by decide +kernel
theorem dX10_repairs_118 : decode cX10_repairs 118 = .ok (.aload_n 0, 1) := by decide +kernel
theorem dX10_repairs_119 : decode cX10_repairs 119 = .ok (.getfield 71, 3) := by decide +kernel
theorem dX10_repairs_122 : decode cX10_repairs 122 = .ok (.iload_n 1, 1) := by decide +kernel
theorem dX10_repairs_123 : decode cX10_repairs 123 = .ok (.iaload, 1) := by decide +kernel
theorem dX10_repairs_124 : decode cX10_repairs 124 = .ok (.iconst 2, 1) := by decide +kernel
theorem dX10_repairs_125 : decode cX10_repairs 125 = .ok (.if_icmp .ne 28, 3) := by decide +kernel
theorem dX10_repairs_128 : decode cX10_repairs 128 = .ok (.aload_n 0, 1) := by decide +kernel
theorem dX10_repairs_129 : decode cX10_repairs 129 = .ok (.getfield 35, 3) := by decide +kernel
theorem dX10_repairs_132 : decode cX10_repairs 132 = .ok (.bipush 14, 2) := by decide +kernel
theorem dX10_repairs_134 : decode cX10_repairs 134 = .ok (.aload_n 0, 1) := by decide +kernel
theorem dX10_repairs_135 : decode cX10_repairs 135 = .ok (.getfield 48, 3) := by decide +kernel
theorem dX10_repairs_138 : decode cX10_repairs 138 = .ok (.iload_n 1, 1) := by decide +kernel
theorem dX10_repairs_139 : decode cX10_repairs 139 = .ok (.iaload, 1) := by decide +kernel
theorem dX10_repairs_140 : decode cX10_repairs 140 = .ok (.iadd, 1) := by decide +kernel
theorem dX10_repairs_141 : decode cX10_repairs 141 = .ok (.aload_n 0, 1) := by decide +kernel
theorem dX10_repairs_142 : decode cX10_repairs 142 = .ok (.getfield 13, 3) := by decide +kernel
theorem dX10_repairs_145 : decode cX10_repairs 145 = .ok (.aload_n 0, 1) := by decide +kernel
theorem dX10_repairs_146 : decode cX10_repairs 146 = .ok (.getfield 74, 3) := by decide +kernel
theorem dX10_repairs_149 : decode cX10_repairs 149 = .ok (.iload_n 1, 1) := by decide +kernel
theorem dX10_repairs_150 : decode cX10_repairs 150 = .ok (.iaload, 1) := by decide +kernel
theorem dX10_repairs_151 : decode cX10_repairs 151 = .ok (.iaload, 1) := by decide +kernel
theorem dX10_repairs_152 : decode cX10_repairs 152 = .ok (.iastore, 1) := by decide +kernel
theorem dX10_repairs_153 : decode cX10_repairs 153 = .ok (.iinc 1 (-1), 3) := by decide +kernel
theorem dX10_repairs_156 : decode cX10_repairs 156 = .ok (.goto (-149), 3) := by decide +kernel
theorem dX10_repairs_159 : decode cX10_repairs 159 = .ok (.return_, 1) := by decide +kernel
theorem dX10_noRange_0 : decode cX10_noRange 0 = .ok (.aload_n 0, 1) := by decide +kernel
theorem dX10_noRange_1 : decode cX10_noRange 1 = .ok (.iload_n 1, 1) := by decide +kernel
theorem dX10_noRange_2 : decode cX10_noRange 2 = .ok (.ifCond .lt 18, 3) := by decide +kernel
theorem dX10_noRange_5 : decode cX10_noRange 5 = .ok (.iload_n 2, 1) := by decide +kernel
theorem dX10_noRange_6 : decode cX10_noRange 6 = .ok (.iload_n 1, 1) := by decide +kernel
theorem dX10_noRange_7 : decode cX10_noRange 7 = .ok (.if_icmp .lt 13, 3) := by decide +kernel
theorem dX10_noRange_10 : decode cX10_noRange 10 = .ok (.iload_n 2, 1) := by decide +kernel
theorem dX10_noRange_11 : decode cX10_noRange 11 = .ok (.aload_n 0, 1) := by decide +kernel
theorem dX10_noRange_12 : decode cX10_noRange 12 = .ok (.getfield 35, 3) := by decide +kernel
theorem dX10_noRange_15 : decode cX10_noRange 15 = .ok (.iconst 0, 1) := by decide +kernel
theorem dX10_noRange_16 : decode cX10_noRange 16 = .ok (.iaload, 1) := by decide +kernel
theorem dX10_noRange_17 : decode cX10_noRange 17 = .ok (.if_icmp .le 7, 3) := by decide +kernel
theorem dX10_noRange_20 : decode cX10_noRange 20 = .ok (.iconst 1, 1) := by decide +kernel
theorem dX10_noRange_21 : decode cX10_noRange 21 = .ok (.goto 4, 3) := by decide +kernel
theorem dX10_noRange_24 : decode cX10_noRange 24 = .ok (.iconst 0, 1) := by decide +kernel
theorem dX10_noRange_25 : decode cX10_noRange 25 = .ok (.iconst 1, 1) := by decide +kernel
theorem dX10_noRange_26 : decode cX10_noRange 26 = .ok (.invokevirtual 227, 3) := by decide +kernel
theorem dX10_noRange_29 : decode cX10_noRange 29 = .ok (.ireturn, 1) := by decide +kernel
theorem dX10_insert_0 : decode cX10_insert 0 = .ok (.aload_n 0, 1) := by decide +kernel
theorem dX10_insert_1 : decode cX10_insert 1 = .ok (.iconst 0, 1) := by decide +kernel
theorem dX10_insert_2 : decode cX10_insert 2 = .ok (.putfield 117, 3) := by decide +kernel
theorem dX10_insert_5 : decode cX10_insert 5 = .ok (.aload_n 0, 1) := by decide +kernel
theorem dX10_insert_6 : decode cX10_insert 6 = .ok (.iload_n 1, 1) := by decide +kernel
theorem dX10_insert_7 : decode cX10_insert 7 = .ok (.iconst 0, 1) := by decide +kernel
theorem dX10_insert_8 : decode cX10_insert 8 = .ok (.aload_n 0, 1) := by decide +kernel
theorem dX10_insert_9 : decode cX10_insert 9 = .ok (.getfield 35, 3) := by decide +kernel
theorem dX10_insert_12 : decode cX10_insert 12 = .ok (.iconst 0, 1) := by decide +kernel
theorem dX10_insert_13 : decode cX10_insert 13 = .ok (.iaload, 1) := by decide +kernel
theorem dX10_insert_14 : decode cX10_insert 14 = .ok (.invokestatic 130, 3) := by decide +kernel
theorem dX10_insert_17 : decode cX10_insert 17 = .ok (.ifCond .ne 7, 3) := by decide +kernel
theorem dX10_insert_20 : decode cX10_insert 20 = .ok (.iconst 1, 1) := by decide +kernel
theorem dX10_insert_21 : decode cX10_insert 21 = .ok (.goto 4, 3) := by decide +kernel
theorem dX10_insert_24 : decode cX10_insert 24 = .ok (.iconst 0, 1) := by decide +kernel
theorem dX10_insert_25 : decode cX10_insert 25 = .ok (.iconst 1, 1) := by decide +kernel
theorem dX10_insert_26 : decode cX10_insert 26 = .ok (.invokevirtual 227, 3) := by decide +kernel
theorem dX10_insert_29 : decode cX10_insert 29 = .ok (.ifCond .ne 28, 3) := by decide +kernel
theorem dX10_insert_32 : decode cX10_insert 32 = .ok (.aload_n 0, 1) := by decide +kernel
theorem dX10_insert_33 : decode cX10_insert 33 = .ok (.iload_n 2, 1) := by decide +kernel
theorem dX10_insert_34 : decode cX10_insert 34 = .ok (.iconst 0, 1) := by decide +kernel
theorem dX10_insert_35 : decode cX10_insert 35 = .ok (.aload_n 0, 1) := by decide +kernel
theorem dX10_insert_36 : decode cX10_insert 36 = .ok (.getfield 120, 3) := by decide +kernel
theorem dX10_insert_39 : decode cX10_insert 39 = .ok (.invokestatic 130, 3) := by decide +kernel
theorem dX10_insert_42 : decode cX10_insert 42 = .ok (.ifCond .ne 7, 3) := by decide +kernel
theorem dX10_insert_45 : decode cX10_insert 45 = .ok (.iconst 1, 1) := by decide +kernel
theorem dX10_insert_46 : decode cX10_insert 46 = .ok (.goto 4, 3) := by decide +kernel
theorem dX10_insert_49 : decode cX10_insert 49 = .ok (.iconst 0, 1) := by decide +kernel
theorem dX10_insert_50 : decode cX10_insert 50 = .ok (.iconst 2, 1) := by decide +kernel
theorem dX10_insert_51 : decode cX10_insert 51 = .ok (.invokevirtual 227, 3) := by decide +kernel
theorem dX10_insert_54 : decode cX10_insert 54 = .ok (.ifCond .eq 5, 3) := by decide +kernel
theorem dX10_insert_57 : decode cX10_insert 57 = .ok (.iconst 0, 1) := by decide +kernel
theorem dX10_insert_58 : decode cX10_insert 58 = .ok (.ireturn, 1) := by decide +kernel
theorem dX10_insert_59 : decode cX10_insert 59 = .ok (.aload_n 0, 1) := by decide +kernel
theorem dX10_insert_60 : decode cX10_insert 60 = .ok (.iconst 0, 1) := by decide +kernel
theorem dX10_insert_61 : decode cX10_insert 61 = .ok (.putfield 120, 3) := by decide +kernel
theorem dX10_insert_64 : decode cX10_insert 64 = .ok (.aload_n 0, 1) := by decide +kernel
theorem dX10_insert_65 : decode cX10_insert 65 = .ok (.aload_n 0, 1) := by decide +kernel
theorem dX10_insert_66 : decode cX10_insert 66 = .ok (.getfield 35, 3) := by decide +kernel
theorem dX10_insert_69 : decode cX10_insert 69 = .ok (.iconst 0, 1) := by decide +kernel
theorem dX10_insert_70 : decode cX10_insert 70 = .ok (.iaload, 1) := by decide +kernel
theorem dX10_insert_71 : decode cX10_insert 71 = .ok (.iload_n 2, 1) := by decide +kernel
theorem dX10_insert_72 : decode cX10_insert 72 = .ok (.invokevirtual 257, 3) := by decide +kernel
theorem dX10_insert_75 : decode cX10_insert 75 = .ok (.istore_n 3, 1) := by decide +kernel
theorem dX10_insert_76 : decode cX10_insert 76 = .ok (.iload_n 3, 1) := by decide +kernel
theorem dX10_insert_77 : decode cX10_insert 77 = .ok (.ifCond .eq 5, 3) := by decide +kernel
theorem dX10_insert_80 : decode cX10_insert 80 = .ok (.iload_n 3, 1) := by decide +kernel
theorem dX10_insert_81 : decode cX10_insert 81 = .ok (.ireturn, 1) := by decide +kernel
theorem dX10_insert_82 : decode cX10_insert 82 = .ok (.aload_n 0, 1) := by decide +kernel
theorem dX10_insert_83 : decode cX10_insert 83 = .ok (.invokevirtual 364, 3) := by decide +kernel
theorem dX10_insert_86 : decode cX10_insert 86 = .ok (.iload_n 2, 1) := by decide +kernel
theorem dX10_insert_87 : decode cX10_insert 87 = .ok (.iconst 1, 1) := by decide +kernel
theorem dX10_insert_88 : decode cX10_insert 88 = .ok (.isub, 1) := by decide +kernel
theorem dX10_insert_89 : decode cX10_insert 89 = .ok (.istore 4, 2) := by decide +kernel
theorem dX10_insert_91 : decode cX10_insert 91 = .ok (.iload 4, 2) := by decide +kernel
theorem dX10_insert_93 : decode cX10_insert 93 = .ok (.ifCond .lt 21, 3) := by decide +kernel
theorem dX10_insert_96 : decode cX10_insert 96 = .ok (.aload_n 0, 1) := by decide +kernel
theorem dX10_insert_97 : decode cX10_insert 97 = .ok (.iload_n 1, 1) := by decide +kernel
theorem dX10_insert_98 : decode cX10_insert 98 = .ok (.aload_n 0, 1) := by decide +kernel
theorem dX10_insert_99 : decode cX10_insert 99 = .ok (.getfield 38, 3) := by decide +kernel
theorem dX10_insert_102 : decode cX10_insert 102 = .ok (.iload 4, 2) := by decide +kernel
theorem dX10_insert_104 : decode cX10_insert 104 = .ok (.baload, 1) := by decide +kernel
theorem dX10_insert_105 : decode cX10_insert 105 = .ok (.invokevirtual 358, 3) := by decide +kernel
theorem dX10_insert_108 : decode cX10_insert 108 = .ok (.iinc 4 (-1), 3) := by decide +kernel
theorem dX10_insert_111 : decode cX10_insert 111 = .ok (.goto (-20), 3) := by decide +kernel
theorem dX10_insert_114 : decode cX10_insert 114 = .ok (.aload_n 0, 1) := by decide +kernel
theorem dX10_insert_115 : decode cX10_insert 115 = .ok (.getfield 35, 3) := by decide +kernel
theorem dX10_insert_118 : decode cX10_insert 118 = .ok (.iconst 0, 1) := by decide +kernel
theorem dX10_insert_119 : decode cX10_insert 119 = .ok (.iaload, 1) := by decide +kernel
theorem dX10_insert_120 : decode cX10_insert 120 = .ok (.ireturn, 1) := by decide +kernel
theorem dX10_erase_0 : decode cX10_erase 0 = .ok (.aload_n 0, 1) := by decide +kernel
theorem dX10_erase_1 : decode cX10_erase 1 = .ok (.iconst 0, 1) := by decide +kernel
theorem dX10_erase_2 : decode cX10_erase 2 = .ok (.putfield 117, 3) := by decide +kernel
theorem dX10_erase_5 : decode cX10_erase 5 = .ok (.aload_n 0, 1) := by decide +kernel
theorem dX10_erase_6 : decode cX10_erase 6 = .ok (.iload_n 1, 1) := by decide +kernel
theorem dX10_erase_7 : decode cX10_erase 7 = .ok (.iload_n 2, 1) := by decide +kernel
theorem dX10_erase_8 : decode cX10_erase 8 = .ok (.invokevirtual 367, 3) := by decide +kernel
theorem dX10_erase_11 : decode cX10_erase 11 = .ok (.ifCond .eq 5, 3) := by decide +kernel
theorem dX10_erase_14 : decode cX10_erase 14 = .ok (.iconst 0, 1) := by decide +kernel
theorem dX10_erase_15 : decode cX10_erase 15 = .ok (.ireturn, 1) := by decide +kernel
theorem dX10_erase_16 : decode cX10_erase 16 = .ok (.aload_n 0, 1) := by decide +kernel
theorem dX10_erase_17 : decode cX10_erase 17 = .ok (.invokevirtual 364, 3) := by decide +kernel
theorem dX10_erase_20 : decode cX10_erase 20 = .ok (.aload_n 0, 1) := by decide +kernel
theorem dX10_erase_21 : decode cX10_erase 21 = .ok (.iload_n 1, 1) := by decide +kernel
theorem dX10_erase_22 : decode cX10_erase 22 = .ok (.iload_n 2, 1) := by decide +kernel
theorem dX10_erase_23 : decode cX10_erase 23 = .ok (.invokevirtual 361, 3) := by decide +kernel
theorem dX10_erase_26 : decode cX10_erase 26 = .ok (.aload_n 0, 1) := by decide +kernel
theorem dX10_erase_27 : decode cX10_erase 27 = .ok (.getfield 35, 3) := by decide +kernel
theorem dX10_erase_30 : decode cX10_erase 30 = .ok (.iconst 0, 1) := by decide +kernel
theorem dX10_erase_31 : decode cX10_erase 31 = .ok (.iaload, 1) := by decide +kernel
theorem dX10_erase_32 : decode cX10_erase 32 = .ok (.ireturn, 1) := by decide +kernel
theorem dX10_wrap_0 : decode cX10_wrap 0 = .ok (.aload_n 0, 1) := by decide +kernel
theorem dX10_wrap_1 : decode cX10_wrap 1 = .ok (.iconst 0, 1) := by decide +kernel
theorem dX10_wrap_2 : decode cX10_wrap 2 = .ok (.putfield 117, 3) := by decide +kernel
theorem dX10_wrap_5 : decode cX10_wrap 5 = .ok (.aload_n 0, 1) := by decide +kernel
theorem dX10_wrap_6 : decode cX10_wrap 6 = .ok (.iload_n 1, 1) := by decide +kernel
theorem dX10_wrap_7 : decode cX10_wrap 7 = .ok (.iload_n 2, 1) := by decide +kernel
theorem dX10_wrap_8 : decode cX10_wrap 8 = .ok (.invokevirtual 367, 3) := by decide +kernel
theorem dX10_wrap_11 : decode cX10_wrap 11 = .ok (.ifCond .ne 11, 3) := by decide +kernel
theorem dX10_wrap_14 : decode cX10_wrap 14 = .ok (.aload_n 0, 1) := by decide +kernel
theorem dX10_wrap_15 : decode cX10_wrap 15 = .ok (.iload_n 3, 1) := by decide +kernel
theorem dX10_wrap_16 : decode cX10_wrap 16 = .ok (.invokevirtual 331, 3) := by decide +kernel
theorem dX10_wrap_19 : decode cX10_wrap 19 = .ok (.ifCond .eq 5, 3) := by decide +kernel
theorem dX10_wrap_22 : decode cX10_wrap 22 = .ok (.iconst 0, 1) := by decide +kernel
theorem dX10_wrap_23 : decode cX10_wrap 23 = .ok (.ireturn, 1) := by decide +kernel
theorem dX10_wrap_24 : decode cX10_wrap 24 = .ok (.aload_n 0, 1) := by decide +kernel
theorem dX10_wrap_25 : decode cX10_wrap 25 = .ok (.getfield 35, 3) := by decide +kernel
theorem dX10_wrap_28 : decode cX10_wrap 28 = .ok (.iconst 0, 1) := by decide +kernel
theorem dX10_wrap_29 : decode cX10_wrap 29 = .ok (.iaload, 1) := by decide +kernel
theorem dX10_wrap_30 : decode cX10_wrap 30 = .ok (.iconst 2, 1) := by decide +kernel
theorem dX10_wrap_31 : decode cX10_wrap 31 = .ok (.iadd, 1) := by decide +kernel
theorem dX10_wrap_32 : decode cX10_wrap 32 = .ok (.sipush 240, 3) := by decide +kernel
theorem dX10_wrap_35 : decode cX10_wrap 35 = .ok (.if_icmp .le 6, 3) := by decide +kernel
theorem dX10_wrap_38 : decode cX10_wrap 38 = .ok (.bipush (-2), 2) := by decide +kernel
theorem dX10_wrap_40 : decode cX10_wrap 40 = .ok (.ireturn, 1) := by decide +kernel
theorem dX10_wrap_41 : decode cX10_wrap 41 = .ok (.aload_n 0, 1) := by decide +kernel
theorem dX10_wrap_42 : decode cX10_wrap 42 = .ok (.invokevirtual 364, 3) := by decide +kernel
theorem dX10_wrap_45 : decode cX10_wrap 45 = .ok (.aload_n 0, 1) := by decide +kernel
theorem dX10_wrap_46 : decode cX10_wrap 46 = .ok (.iload_n 1, 1) := by decide +kernel
theorem dX10_wrap_47 : decode cX10_wrap 47 = .ok (.iload_n 2, 1) := by decide +kernel
theorem dX10_wrap_48 : decode cX10_wrap 48 = .ok (.iload_n 3, 1) := by decide +kernel
theorem dX10_wrap_49 : decode cX10_wrap 49 = .ok (.invokevirtual 370, 3) := by decide +kernel
theorem dX10_wrap_52 : decode cX10_wrap 52 = .ok (.aload_n 0, 1) := by decide +kernel
theorem dX10_wrap_53 : decode cX10_wrap 53 = .ok (.getfield 35, 3) := by decide +kernel
theorem dX10_wrap_56 : decode cX10_wrap 56 = .ok (.iconst 0, 1) := by decide +kernel
theorem dX10_wrap_57 : decode cX10_wrap 57 = .ok (.iaload, 1) := by decide +kernel
theorem dX10_wrap_58 : decode cX10_wrap 58 = .ok (.ireturn, 1) := by decide +kernel
theorem dX10_unwrap_0 : decode cX10_unwrap 0 = .ok (.aload_n 0, 1) := by decide +kernel
theorem dX10_unwrap_1 : decode cX10_unwrap 1 = .ok (.iload_n 1, 1) := by decide +kernel
theorem dX10_unwrap_2 : decode cX10_unwrap 2 = .ok (.invokevirtual 322, 3) := by decide +kernel
theorem dX10_unwrap_5 : decode cX10_unwrap 5 = .ok (.ifCond .eq 5, 3) := by decide +kernel
theorem dX10_unwrap_8 : decode cX10_unwrap 8 = .ok (.iconst 0, 1) := by decide +kernel
theorem dX10_unwrap_9 : decode cX10_unwrap 9 = .ok (.ireturn, 1) := by decide +kernel
theorem dX10_unwrap_10 : decode cX10_unwrap 10 = .ok (.aload_n 0, 1) := by decide +kernel
theorem dX10_unwrap_11 : decode cX10_unwrap 11 = .ok (.iload_n 1, 1) := by decide +kernel
theorem dX10_unwrap_12 : decode cX10_unwrap 12 = .ok (.invokevirtual 325, 3) := by decide +kernel
theorem dX10_unwrap_15 : decode cX10_unwrap 15 = .ok (.istore_n 2, 1) := by decide +kernel
theorem dX10_unwrap_16 : decode cX10_unwrap 16 = .ok (.aload_n 0, 1) := by decide +kernel
theorem dX10_unwrap_17 : decode cX10_unwrap 17 = .ok (.getfield 48, 3) := by decide +kernel
theorem dX10_unwrap_20 : decode cX10_unwrap 20 = .ok (.iload_n 2, 1) := by decide +kernel
theorem dX10_unwrap_21 : decode cX10_unwrap 21 = .ok (.iaload, 1) := by decide +kernel
theorem dX10_unwrap_22 : decode cX10_unwrap 22 = .ok (.istore_n 3, 1) := by decide +kernel
theorem dX10_unwrap_23 : decode cX10_unwrap 23 = .ok (.aload_n 0, 1) := by decide +kernel
theorem dX10_unwrap_24 : decode cX10_unwrap 24 = .ok (.iload_n 2, 1) := by decide +kernel
theorem dX10_unwrap_25 : decode cX10_unwrap 25 = .ok (.invokevirtual 278, 3) := by decide +kernel
theorem dX10_unwrap_28 : decode cX10_unwrap 28 = .ok (.istore 4, 2) := by decide +kernel
theorem dX10_unwrap_30 : decode cX10_unwrap 30 = .ok (.aload_n 0, 1) := by decide +kernel
theorem dX10_unwrap_31 : decode cX10_unwrap 31 = .ok (.invokevirtual 364, 3) := by decide +kernel
theorem dX10_unwrap_34 : decode cX10_unwrap 34 = .ok (.aload_n 0, 1) := by decide +kernel
theorem dX10_unwrap_35 : decode cX10_unwrap 35 = .ok (.iload 4, 2) := by decide +kernel
theorem dX10_unwrap_37 : decode cX10_unwrap 37 = .ok (.iload 4, 2) := by decide +kernel
theorem dX10_unwrap_39 : decode cX10_unwrap 39 = .ok (.iconst 1, 1) := by decide +kernel
theorem dX10_unwrap_40 : decode cX10_unwrap 40 = .ok (.iadd, 1) := by decide +kernel
theorem dX10_unwrap_41 : decode cX10_unwrap 41 = .ok (.invokevirtual 361, 3) := by decide +kernel
theorem dX10_unwrap_44 : decode cX10_unwrap 44 = .ok (.aload_n 0, 1) := by decide +kernel
theorem dX10_unwrap_45 : decode cX10_unwrap 45 = .ok (.iload_n 3, 1) := by decide +kernel
theorem dX10_unwrap_46 : decode cX10_unwrap 46 = .ok (.iload_n 3, 1) := by decide +kernel
theorem dX10_unwrap_47 : decode cX10_unwrap 47 = .ok (.iconst 1, 1) := by decide +kernel
theorem dX10_unwrap_48 : decode cX10_unwrap 48 = .ok (.iadd, 1) := by decide +kernel
theorem dX10_unwrap_49 : decode cX10_unwrap 49 = .ok (.invokevirtual 361, 3) := by decide +kernel
theorem dX10_unwrap_52 : decode cX10_unwrap 52 = .ok (.aload_n 0, 1) := by decide +kernel
theorem dX10_unwrap_53 : decode cX10_unwrap 53 = .ok (.getfield 35, 3) := by decide +kernel
theorem dX10_unwrap_56 : decode cX10_unwrap 56 = .ok (.iconst 0, 1) := by decide +kernel
theorem dX10_unwrap_57 : decode cX10_unwrap 57 = .ok (.iaload, 1) := by decide +kernel
theorem dX10_unwrap_58 : decode cX10_unwrap 58 = .ok (.ireturn, 1) := by decide +kernel
theorem dX10_repair_0 : decode cX10_repair 0 = .ok (.aload_n 0, 1) := by decide +kernel
theorem dX10_repair_1 : decode cX10_repair 1 = .ok (.iconst 0, 1) := by decide +kernel
theorem dX10_repair_2 : decode cX10_repair 2 = .ok (.putfield 117, 3) := by decide +kernel
theorem dX10_repair_5 : decode cX10_repair 5 = .ok (.aload_n 0, 1) := by decide +kernel
theorem dX10_repair_6 : decode cX10_repair 6 = .ok (.invokevirtual 346, 3) := by decide +kernel
theorem dX10_repair_9 : decode cX10_repair 9 = .ok (.istore_n 1, 1) := by decide +kernel
theorem dX10_repair_10 : decode cX10_repair 10 = .ok (.aload_n 0, 1) := by decide +kernel
theorem dX10_repair_11 : decode cX10_repair 11 = .ok (.invokevirtual 374, 3) := by decide +kernel
theorem dX10_repair_14 : decode cX10_repair 14 = .ok (.sipush 240, 3) := by decide +kernel
theorem dX10_repair_17 : decode cX10_repair 17 = .ok (.if_icmp .le 6, 3) := by decide +kernel
theorem dX10_repair_20 : decode cX10_repair 20 = .ok (.bipush (-2), 2) := by decide +kernel
theorem dX10_repair_22 : decode cX10_repair 22 = .ok (.ireturn, 1) := by decide +kernel
theorem dX10_repair_23 : decode cX10_repair 23 = .ok (.aload_n 0, 1) := by decide +kernel
theorem dX10_repair_24 : decode cX10_repair 24 = .ok (.invokevirtual 364, 3) := by decide +kernel
theorem dX10_repair_27 : decode cX10_repair 27 = .ok (.aload_n 0, 1) := by decide +kernel
theorem dX10_repair_28 : decode cX10_repair 28 = .ok (.invokevirtual 377, 3) := by decide +kernel
theorem dX10_repair_31 : decode cX10_repair 31 = .ok (.iload_n 1, 1) := by decide +kernel
theorem dX10_repair_32 : decode cX10_repair 32 = .ok (.ireturn, 1) := by decide +kernel
theorem dX10_mark_0 : decode cX10_mark 0 = .ok (.aload_n 0, 1) := by decide +kernel
theorem dX10_mark_1 : decode cX10_mark 1 = .ok (.iconst 0, 1) := by decide +kernel
theorem dX10_mark_2 : decode cX10_mark 2 = .ok (.putfield 117, 3) := by decide +kernel
theorem dX10_mark_5 : decode cX10_mark 5 = .ok (.aload_n 0, 1) := by decide +kernel
theorem dX10_mark_6 : decode cX10_mark 6 = .ok (.iload_n 1, 1) := by decide +kernel
theorem dX10_mark_7 : decode cX10_mark 7 = .ok (.iconst 0, 1) := by decide +kernel
theorem dX10_mark_8 : decode cX10_mark 8 = .ok (.aload_n 0, 1) := by decide +kernel
theorem dX10_mark_9 : decode cX10_mark 9 = .ok (.getfield 35, 3) := by decide +kernel
theorem dX10_mark_12 : decode cX10_mark 12 = .ok (.iconst 0, 1) := by decide +kernel
theorem dX10_mark_13 : decode cX10_mark 13 = .ok (.iaload, 1) := by decide +kernel
theorem dX10_mark_14 : decode cX10_mark 14 = .ok (.invokestatic 130, 3) := by decide +kernel
theorem dX10_mark_17 : decode cX10_mark 17 = .ok (.ifCond .ne 7, 3) := by decide +kernel
theorem dX10_mark_20 : decode cX10_mark 20 = .ok (.iconst 1, 1) := by decide +kernel
theorem dX10_mark_21 : decode cX10_mark 21 = .ok (.goto 4, 3) := by decide +kernel
theorem dX10_mark_24 : decode cX10_mark 24 = .ok (.iconst 0, 1) := by decide +kernel
theorem dX10_mark_25 : decode cX10_mark 25 = .ok (.iconst 1, 1) := by decide +kernel
theorem dX10_mark_26 : decode cX10_mark 26 = .ok (.invokevirtual 227, 3) := by decide +kernel
theorem dX10_mark_29 : decode cX10_mark 29 = .ok (.ifCond .eq 5, 3) := by decide +kernel
theorem dX10_mark_32 : decode cX10_mark 32 = .ok (.iconst 0, 1) := by decide +kernel
theorem dX10_mark_33 : decode cX10_mark 33 = .ok (.ireturn, 1) := by decide +kernel
theorem dX10_mark_34 : decode cX10_mark 34 = .ok (.aload_n 0, 1) := by decide +kernel
theorem dX10_mark_35 : decode cX10_mark 35 = .ok (.getfield 35, 3) := by decide +kernel
theorem dX10_mark_38 : decode cX10_mark 38 = .ok (.iconst 1, 1) := by decide +kernel
theorem dX10_mark_39 : decode cX10_mark 39 = .ok (.iaload, 1) := by decide +kernel
theorem dX10_mark_40 : decode cX10_mark 40 = .ok (.bipush 8, 2) := by decide +kernel
theorem dX10_mark_42 : decode cX10_mark 42 = .ok (.if_icmp .ne 6, 3) := by decide +kernel
theorem dX10_mark_45 : decode cX10_mark 45 = .ok (.bipush (-2), 2) := by decide +kernel
theorem dX10_mark_47 : decode cX10_mark 47 = .ok (.ireturn, 1) := by decide +kernel
theorem dX10_mark_48 : decode cX10_mark 48 = .ok (.aload_n 0, 1) := by decide +kernel
theorem dX10_mark_49 : decode cX10_mark 49 = .ok (.invokevirtual 364, 3) := by decide +kernel
theorem dX10_mark_52 : decode cX10_mark 52 = .ok (.aload_n 0, 1) := by decide +kernel
theorem dX10_mark_53 : decode cX10_mark 53 = .ok (.getfield 35, 3) := by decide +kernel
theorem dX10_mark_56 : decode cX10_mark 56 = .ok (.iconst 2, 1) := by decide +kernel
theorem dX10_mark_57 : decode cX10_mark 57 = .ok (.aload_n 0, 1) := by decide +kernel
theorem dX10_mark_58 : decode cX10_mark 58 = .ok (.getfield 35, 3) := by decide +kernel
theorem dX10_mark_61 : decode cX10_mark 61 = .ok (.iconst 1, 1) := by decide +kernel
theorem dX10_mark_62 : decode cX10_mark 62 = .ok (.iaload, 1) := by decide +kernel
theorem dX10_mark_63 : decode cX10_mark 63 = .ok (.iadd, 1) := by decide +kernel
theorem dX10_mark_64 : decode cX10_mark 64 = .ok (.iload_n 1, 1) := by decide +kernel
theorem dX10_mark_65 : decode cX10_mark 65 = .ok (.iastore, 1) := by decide +kernel
theorem dX10_mark_66 : decode cX10_mark 66 = .ok (.aload_n 0, 1) := by decide +kernel
theorem dX10_mark_67 : decode cX10_mark 67 = .ok (.getfield 35, 3) := by decide +kernel
theorem dX10_mark_70 : decode cX10_mark 70 = .ok (.iconst 1, 1) := by decide +kernel
theorem dX10_mark_71 : decode cX10_mark 71 = .ok (.dup2, 1) := by decide +kernel
theorem dX10_mark_72 : decode cX10_mark 72 = .ok (.iaload, 1) := by decide +kernel
theorem dX10_mark_73 : decode cX10_mark 73 = .ok (.iconst 1, 1) := by decide +kernel
theorem dX10_mark_74 : decode cX10_mark 74 = .ok (.iadd, 1) := by decide +kernel
theorem dX10_mark_75 : decode cX10_mark 75 = .ok (.iastore, 1) := by decide +kernel
theorem dX10_mark_76 : decode cX10_mark 76 = .ok (.aload_n 0, 1) := by decide +kernel
theorem dX10_mark_77 : decode cX10_mark 77 = .ok (.getfield 35, 3) := by decide +kernel
theorem dX10_mark_80 : decode cX10_mark 80 = .ok (.iconst 1, 1) := by decide +kernel
theorem dX10_mark_81 : decode cX10_mark 81 = .ok (.iaload, 1) := by decide +kernel
theorem dX10_mark_82 : decode cX10_mark 82 = .ok (.iconst 1, 1) := by decide +kernel
theorem dX10_mark_83 : decode cX10_mark 83 = .ok (.isub, 1) := by decide +kernel
theorem dX10_mark_84 : decode cX10_mark 84 = .ok (.ireturn, 1) := by decide +kernel
theorem dX10_unmark_0 : decode cX10_unmark 0 = .ok (.aload_n 0, 1) := by decide +kernel
theorem dX10_unmark_1 : decode cX10_unmark 1 = .ok (.iconst 0, 1) := by decide +kernel
theorem dX10_unmark_2 : decode cX10_unmark 2 = .ok (.putfield 117, 3) := by decide +kernel
theorem dX10_unmark_5 : decode cX10_unmark 5 = .ok (.aload_n 0, 1) := by decide +kernel
theorem dX10_unmark_6 : decode cX10_unmark 6 = .ok (.iload_n 1, 1) := by decide +kernel
theorem dX10_unmark_7 : decode cX10_unmark 7 = .ok (.iconst 0, 1) := by decide +kernel
theorem dX10_unmark_8 : decode cX10_unmark 8 = .ok (.aload_n 0, 1) := by decide +kernel
theorem dX10_unmark_9 : decode cX10_unmark 9 = .ok (.getfield 35, 3) := by decide +kernel
theorem dX10_unmark_12 : decode cX10_unmark 12 = .ok (.iconst 1, 1) := by decide +kernel
theorem dX10_unmark_13 : decode cX10_unmark 13 = .ok (.iaload, 1) := by decide +kernel
theorem dX10_unmark_14 : decode cX10_unmark 14 = .ok (.iconst 1, 1) := by decide +kernel
theorem dX10_unmark_15 : decode cX10_unmark 15 = .ok (.isub, 1) := by decide +kernel
theorem dX10_unmark_16 : decode cX10_unmark 16 = .ok (.invokestatic 130, 3) := by decide +kernel
theorem dX10_unmark_19 : decode cX10_unmark 19 = .ok (.ifCond .ne 7, 3) := by decide +kernel
theorem dX10_unmark_22 : decode cX10_unmark 22 = .ok (.iconst 1, 1) := by decide +kernel
theorem dX10_unmark_23 : decode cX10_unmark 23 = .ok (.goto 4, 3) := by decide +kernel
theorem dX10_unmark_26 : decode cX10_unmark 26 = .ok (.iconst 0, 1) := by decide +kernel
theorem dX10_unmark_27 : decode cX10_unmark 27 = .ok (.iconst 1, 1) := by decide +kernel
theorem dX10_unmark_28 : decode cX10_unmark 28 = .ok (.invokevirtual 227, 3) := by decide +kernel
theorem dX10_unmark_31 : decode cX10_unmark 31 = .ok (.ifCond .eq 5, 3) := by decide +kernel
theorem dX10_unmark_34 : decode cX10_unmark 34 = .ok (.iconst 0, 1) := by decide +kernel
theorem dX10_unmark_35 : decode cX10_unmark 35 = .ok (.ireturn, 1) := by decide +kernel
theorem dX10_unmark_36 : decode cX10_unmark 36 = .ok (.aload_n 0, 1) := by decide +kernel
theorem dX10_unmark_37 : decode cX10_unmark 37 = .ok (.invokevirtual 364, 3) := by decide +kernel
theorem dX10_unmark_40 : decode cX10_unmark 40 = .ok (.aload_n 0, 1) := by decide +kernel
theorem dX10_unmark_41 : decode cX10_unmark 41 = .ok (.getfield 35, 3) := by decide +kernel
theorem dX10_unmark_44 : decode cX10_unmark 44 = .ok (.iconst 2, 1) := by decide +kernel
theorem dX10_unmark_45 : decode cX10_unmark 45 = .ok (.iload_n 1, 1) := by decide +kernel
theorem dX10_unmark_46 : decode cX10_unmark 46 = .ok (.iadd, 1) := by decide +kernel
theorem dX10_unmark_47 : decode cX10_unmark 47 = .ok (.iaload, 1) := by decide +kernel
theorem dX10_unmark_48 : decode cX10_unmark 48 = .ok (.istore_n 2, 1) := by decide +kernel
theorem dX10_unmark_49 : decode cX10_unmark 49 = .ok (.aload_n 0, 1) := by decide +kernel
theorem dX10_unmark_50 : decode cX10_unmark 50 = .ok (.getfield 35, 3) := by decide +kernel
theorem dX10_unmark_53 : decode cX10_unmark 53 = .ok (.iconst 1, 1) := by decide +kernel
theorem dX10_unmark_54 : decode cX10_unmark 54 = .ok (.dup2, 1) := by decide +kernel
theorem dX10_unmark_55 : decode cX10_unmark 55 = .ok (.iaload, 1) := by decide +kernel
theorem dX10_unmark_56 : decode cX10_unmark 56 = .ok (.iconst 1, 1) := by decide +kernel
theorem dX10_unmark_57 : decode cX10_unmark 57 = .ok (.isub, 1) := by decide +kernel
theorem dX10_unmark_58 : decode cX10_unmark 58 = .ok (.iastore, 1) := by decide +kernel
theorem dX10_unmark_59 : decode cX10_unmark 59 = .ok (.iload_n 1, 1) := by decide +kernel
theorem dX10_unmark_60 : decode cX10_unmark 60 = .ok (.istore_n 3, 1) := by decide +kernel
theorem dX10_unmark_61 : decode cX10_unmark 61 = .ok (.iload_n 3, 1) := by decide +kernel
theorem dX10_unmark_62 : decode cX10_unmark 62 = .ok (.aload_n 0, 1) := by decide +kernel
theorem dX10_unmark_63 : decode cX10_unmark 63 = .ok (.getfield 35, 3) := by decide +kernel
theorem dX10_unmark_66 : decode cX10_unmark 66 = .ok (.iconst 1, 1) := by decide +kernel
theorem dX10_unmark_67 : decode cX10_unmark 67 = .ok (.iaload, 1) := by decide +kernel
theorem dX10_unmark_68 : decode cX10_unmark 68 = .ok (.if_icmp .ge 27, 3) := by decide +kernel
theorem dX10_unmark_71 : decode cX10_unmark 71 = .ok (.aload_n 0, 1) := by decide +kernel
theorem dX10_unmark_72 : decode cX10_unmark 72 = .ok (.getfield 35, 3) := by decide +kernel
theorem dX10_unmark_75 : decode cX10_unmark 75 = .ok (.iconst 2, 1) := by decide +kernel
theorem dX10_unmark_76 : decode cX10_unmark 76 = .ok (.iload_n 3, 1) := by decide +kernel
theorem dX10_unmark_77 : decode cX10_unmark 77 = .ok (.iadd, 1) := by decide +kernel
theorem dX10_unmark_78 : decode cX10_unmark 78 = .ok (.aload_n 0, 1) := by decide +kernel
theorem dX10_unmark_79 : decode cX10_unmark 79 = .ok (.getfield 35, 3) := by decide +kernel
theorem dX10_unmark_82 : decode cX10_unmark 82 = .ok (.iconst 2, 1) := by decide +kernel
theorem dX10_unmark_83 : decode cX10_unmark 83 = .ok (.iload_n 3, 1) := by decide +kernel
theorem dX10_unmark_84 : decode cX10_unmark 84 = .ok (.iadd, 1) := by decide +kernel
theorem dX10_unmark_85 : decode cX10_unmark 85 = .ok (.iconst 1, 1) := by decide +kernel
theorem dX10_unmark_86 : decode cX10_unmark 86 = .ok (.iadd, 1) := by decide +kernel
theorem dX10_unmark_87 : decode cX10_unmark 87 = .ok (.iaload, 1) := by decide +kernel
theorem dX10_unmark_88 : decode cX10_unmark 88 = .ok (.iastore, 1) := by decide +kernel
theorem dX10_unmark_89 : decode cX10_unmark 89 = .ok (.iinc 3 1, 3) := by decide +kernel
theorem dX10_unmark_92 : decode cX10_unmark 92 = .ok (.goto (-31), 3) := by decide +kernel
theorem dX10_unmark_95 : decode cX10_unmark 95 = .ok (.iload_n 2, 1) := by decide +kernel
theorem dX10_unmark_96 : decode cX10_unmark 96 = .ok (.ireturn, 1) := by decide +kernel
theorem dX10_setColours_0 : decode cX10_setColours 0 = .ok (.aload_n 0, 1) := by decide +kernel
theorem dX10_setColours_1 : decode cX10_setColours 1 = .ok (.iconst 0, 1) := by decide +kernel
theorem dX10_setColours_2 : decode cX10_setColours 2 = .ok (.putfield 117, 3) := by decide +kernel
theorem dX10_setColours_5 : decode cX10_setColours 5 = .ok (.aload_n 0, 1) := by decide +kernel
theorem dX10_setColours_6 : decode cX10_setColours 6 = .ok (.iload_n 1, 1) := by decide +kernel
theorem dX10_setColours_7 : decode cX10_setColours 7 = .ok (.iconst 1, 1) := by decide +kernel
theorem dX10_setColours_8 : decode cX10_setColours 8 = .ok (.bipush 9, 2) := by decide +kernel
theorem dX10_setColours_10 : decode cX10_setColours 10 = .ok (.invokestatic 130, 3) := by decide +kernel
theorem dX10_setColours_13 : decode cX10_setColours 13 = .ok (.ifCond .ne 7, 3) := by decide +kernel
theorem dX10_setColours_16 : decode cX10_setColours 16 = .ok (.iconst 1, 1) := by decide +kernel
theorem dX10_setColours_17 : decode cX10_setColours 17 = .ok (.goto 4, 3) := by decide +kernel
theorem dX10_setColours_20 : decode cX10_setColours 20 = .ok (.iconst 0, 1) := by decide +kernel
theorem dX10_setColours_21 : decode cX10_setColours 21 = .ok (.iconst 1, 1) := by decide +kernel
theorem dX10_setColours_22 : decode cX10_setColours 22 = .ok (.invokevirtual 227, 3) := by decide +kernel
theorem dX10_setColours_25 : decode cX10_setColours 25 = .ok (.ifCond .eq 5, 3) := by decide +kernel
theorem dX10_setColours_28 : decode cX10_setColours 28 = .ok (.iconst 0, 1) := by decide +kernel
theorem dX10_setColours_29 : decode cX10_setColours 29 = .ok (.ireturn, 1) := by decide +kernel
theorem dX10_setColours_30 : decode cX10_setColours 30 = .ok (.aload_n 0, 1) := by decide +kernel
theorem dX10_setColours_31 : decode cX10_setColours 31 = .ok (.invokevirtual 364, 3) := by decide +kernel
theorem dX10_setColours_34 : decode cX10_setColours 34 = .ok (.aload_n 0, 1) := by decide +kernel
theorem dX10_setColours_35 : decode cX10_setColours 35 = .ok (.getfield 35, 3) := by decide +kernel
theorem dX10_setColours_38 : decode cX10_setColours 38 = .ok (.bipush 10, 2) := by decide +kernel
theorem dX10_setColours_40 : decode cX10_setColours 40 = .ok (.iaload, 1) := by decide +kernel
theorem dX10_setColours_41 : decode cX10_setColours 41 = .ok (.istore_n 2, 1) := by decide +kernel
theorem dX10_setColours_42 : decode cX10_setColours 42 = .ok (.aload_n 0, 1) := by decide +kernel
theorem dX10_setColours_43 : decode cX10_setColours 43 = .ok (.getfield 35, 3) := by decide +kernel
theorem dX10_setColours_46 : decode cX10_setColours 46 = .ok (.bipush 10, 2) := by decide +kernel
theorem dX10_setColours_48 : decode cX10_setColours 48 = .ok (.iload_n 1, 1) := by decide +kernel
theorem dX10_setColours_49 : decode cX10_setColours 49 = .ok (.iastore, 1) := by decide +kernel
theorem dX10_setColours_50 : decode cX10_setColours 50 = .ok (.iload_n 2, 1) := by decide +kernel
theorem dX10_setColours_51 : decode cX10_setColours 51 = .ok (.ireturn, 1) := by decide +kernel
theorem dX10_setCosts_0 : decode cX10_setCosts 0 = .ok (.aload_n 0, 1) := by decide +kernel
theorem dX10_setCosts_1 : decode cX10_setCosts 1 = .ok (.iconst 0, 1) := by decide +kernel
theorem dX10_setCosts_2 : decode cX10_setCosts 2 = .ok (.putfield 117, 3) := by decide +kernel
theorem dX10_setCosts_5 : decode cX10_setCosts 5 = .ok (.aload_n 0, 1) := by decide +kernel
theorem dX10_setCosts_6 : decode cX10_setCosts 6 = .ok (.iload_n 1, 1) := by decide +kernel
theorem dX10_setCosts_7 : decode cX10_setCosts 7 = .ok (.iconst 1, 1) := by decide +kernel
theorem dX10_setCosts_8 : decode cX10_setCosts 8 = .ok (.bipush 99, 2) := by decide +kernel
theorem dX10_setCosts_10 : decode cX10_setCosts 10 = .ok (.invokestatic 130, 3) := by decide +kernel
theorem dX10_setCosts_13 : decode cX10_setCosts 13 = .ok (.ifCond .eq 23, 3) := by decide +kernel
theorem dX10_setCosts_16 : decode cX10_setCosts 16 = .ok (.iload_n 2, 1) := by decide +kernel
theorem dX10_setCosts_17 : decode cX10_setCosts 17 = .ok (.iconst 1, 1) := by decide +kernel
theorem dX10_setCosts_18 : decode cX10_setCosts 18 = .ok (.bipush 99, 2) := by decide +kernel
theorem dX10_setCosts_20 : decode cX10_setCosts 20 = .ok (.invokestatic 130, 3) := by decide +kernel
theorem dX10_setCosts_23 : decode cX10_setCosts 23 = .ok (.ifCond .eq 13, 3) := by decide +kernel
theorem dX10_setCosts_26 : decode cX10_setCosts 26 = .ok (.iload_n 3, 1) := by decide +kernel
theorem dX10_setCosts_27 : decode cX10_setCosts 27 = .ok (.iconst 1, 1) := by decide +kernel
theorem dX10_setCosts_28 : decode cX10_setCosts 28 = .ok (.bipush 99, 2) := by decide +kernel
theorem dX10_setCosts_30 : decode cX10_setCosts 30 = .ok (.invokestatic 130, 3) := by decide +kernel
theorem dX10_setCosts_33 : decode cX10_setCosts 33 = .ok (.ifCond .ne 7, 3) := by decide +kernel
theorem dX10_setCosts_36 : decode cX10_setCosts 36 = .ok (.iconst 1, 1) := by decide +kernel
theorem dX10_setCosts_37 : decode cX10_setCosts 37 = .ok (.goto 4, 3) := by decide +kernel
theorem dX10_setCosts_40 : decode cX10_setCosts 40 = .ok (.iconst 0, 1) := by decide +kernel
theorem dX10_setCosts_41 : decode cX10_setCosts 41 = .ok (.iconst 1, 1) := by decide +kernel
theorem dX10_setCosts_42 : decode cX10_setCosts 42 = .ok (.invokevirtual 227, 3) := by decide +kernel
theorem dX10_setCosts_45 : decode cX10_setCosts 45 = .ok (.ifCond .eq 5, 3) := by decide +kernel
theorem dX10_setCosts_48 : decode cX10_setCosts 48 = .ok (.iconst 0, 1) := by decide +kernel
theorem dX10_setCosts_49 : decode cX10_setCosts 49 = .ok (.ireturn, 1) := by decide +kernel
theorem dX10_setCosts_50 : decode cX10_setCosts 50 = .ok (.aload_n 0, 1) := by decide +kernel
theorem dX10_setCosts_51 : decode cX10_setCosts 51 = .ok (.invokevirtual 364, 3) := by decide +kernel
theorem dX10_setCosts_54 : decode cX10_setCosts 54 = .ok (.aload_n 0, 1) := by decide +kernel
theorem dX10_setCosts_55 : decode cX10_setCosts 55 = .ok (.getfield 35, 3) := by decide +kernel
theorem dX10_setCosts_58 : decode cX10_setCosts 58 = .ok (.bipush 11, 2) := by decide +kernel
theorem dX10_setCosts_60 : decode cX10_setCosts 60 = .ok (.iload_n 1, 1) := by decide +kernel
theorem dX10_setCosts_61 : decode cX10_setCosts 61 = .ok (.iastore, 1) := by decide +kernel
theorem dX10_setCosts_62 : decode cX10_setCosts 62 = .ok (.aload_n 0, 1) := by decide +kernel
theorem dX10_setCosts_63 : decode cX10_setCosts 63 = .ok (.getfield 35, 3) := by decide +kernel
theorem dX10_setCosts_66 : decode cX10_setCosts 66 = .ok (.bipush 12, 2) := by decide +kernel
theorem dX10_setCosts_68 : decode cX10_setCosts 68 = .ok (.iload_n 2, 1) := by decide +kernel
theorem dX10_setCosts_69 : decode cX10_setCosts 69 = .ok (.iastore, 1) := by decide +kernel
theorem dX10_setCosts_70 : decode cX10_setCosts 70 = .ok (.aload_n 0, 1) := by decide +kernel
theorem dX10_setCosts_71 : decode cX10_setCosts 71 = .ok (.getfield 35, 3) := by decide +kernel
theorem dX10_setCosts_74 : decode cX10_setCosts 74 = .ok (.bipush 13, 2) := by decide +kernel
theorem dX10_setCosts_76 : decode cX10_setCosts 76 = .ok (.iload_n 3, 1) := by decide +kernel
theorem dX10_setCosts_77 : decode cX10_setCosts 77 = .ok (.iastore, 1) := by decide +kernel
theorem dX10_setCosts_78 : decode cX10_setCosts 78 = .ok (.aload_n 0, 1) := by decide +kernel
theorem dX10_setCosts_79 : decode cX10_setCosts 79 = .ok (.iconst (-1), 1) := by decide +kernel
theorem dX10_setCosts_80 : decode cX10_setCosts 80 = .ok (.invokevirtual 343, 3) := by decide +kernel
theorem dX10_setCosts_83 : decode cX10_setCosts 83 = .ok (.ireturn, 1) := by decide +kernel
theorem dX10_readCommand_0 : decode cX10_readCommand 0 = .ok (.aload_n 0, 1) := by decide +kernel
theorem dX10_readCommand_1 : decode cX10_readCommand 1 = .ok (.getfield 380, 3) := by decide +kernel
theorem dX10_readCommand_4 : decode cX10_readCommand 4 = .ok (.istore_n 1, 1) := by decide +kernel
theorem dX10_readCommand_5 : decode cX10_readCommand 5 = .ok (.aload_n 0, 1) := by decide +kernel
theorem dX10_readCommand_6 : decode cX10_readCommand 6 = .ok (.ldc_w 383, 3) := by decide +kernel
theorem dX10_readCommand_9 : decode cX10_readCommand 9 = .ok (.invokevirtual 205, 3) := by decide +kernel
theorem dX10_readCommand_12 : decode cX10_readCommand 12 = .ok (.ifCond .eq 7, 3) := by decide +kernel
theorem dX10_readCommand_15 : decode cX10_readCommand 15 = .ok (.iconst 0, 1) := by decide +kernel
theorem dX10_readCommand_16 : decode cX10_readCommand 16 = .ok (.goto 74, 3) := by decide +kernel
theorem dX10_readCommand_19 : decode cX10_readCommand 19 = .ok (.aload_n 0, 1) := by decide +kernel
theorem dX10_readCommand_20 : decode cX10_readCommand 20 = .ok (.ldc_w 385, 3) := by decide +kernel
theorem dX10_readCommand_23 : decode cX10_readCommand 23 = .ok (.invokevirtual 205, 3) := by decide +kernel
theorem dX10_readCommand_26 : decode cX10_readCommand 26 = .ok (.ifCond .eq 7, 3) := by decide +kernel
theorem dX10_readCommand_29 : decode cX10_readCommand 29 = .ok (.iconst 1, 1) := by decide +kernel
theorem dX10_readCommand_30 : decode cX10_readCommand 30 = .ok (.goto 60, 3) := by decide +kernel
theorem dX10_readCommand_33 : decode cX10_readCommand 33 = .ok (.aload_n 0, 1) := by decide +kernel
theorem dX10_readCommand_34 : decode cX10_readCommand 34 = .ok (.ldc_w 387, 3) := by decide +kernel
theorem dX10_readCommand_37 : decode cX10_readCommand 37 = .ok (.invokevirtual 205, 3) := by decide +kernel
theorem dX10_readCommand_40 : decode cX10_readCommand 40 = .ok (.ifCond .eq 7, 3) := by decide +kernel
theorem dX10_readCommand_43 : decode cX10_readCommand 43 = .ok (.iconst 2, 1) := by decide +kernel
theorem dX10_readCommand_44 : decode cX10_readCommand 44 = .ok (.goto 46, 3) := by decide +kernel
theorem dX10_readCommand_47 : decode cX10_readCommand 47 = .ok (.aload_n 0, 1) := by decide +kernel
theorem dX10_readCommand_48 : decode cX10_readCommand 48 = .ok (.ldc_w 389, 3) := by decide +kernel
theorem dX10_readCommand_51 : decode cX10_readCommand 51 = .ok (.invokevirtual 205, 3) := by decide +kernel
theorem dX10_readCommand_54 : decode cX10_readCommand 54 = .ok (.ifCond .eq 7, 3) := by decide +kernel
theorem dX10_readCommand_57 : decode cX10_readCommand 57 = .ok (.iconst 3, 1) := by decide +kernel
theorem dX10_readCommand_58 : decode cX10_readCommand 58 = .ok (.goto 32, 3) := by decide +kernel
theorem dX10_readCommand_61 : decode cX10_readCommand 61 = .ok (.aload_n 0, 1) := by decide +kernel
theorem dX10_readCommand_62 : decode cX10_readCommand 62 = .ok (.ldc_w 391, 3) := by decide +kernel
theorem dX10_readCommand_65 : decode cX10_readCommand 65 = .ok (.invokevirtual 205, 3) := by decide +kernel
theorem dX10_readCommand_68 : decode cX10_readCommand 68 = .ok (.ifCond .eq 7, 3) := by decide +kernel
theorem dX10_readCommand_71 : decode cX10_readCommand 71 = .ok (.iconst 4, 1) := by decide +kernel
theorem dX10_readCommand_72 : decode cX10_readCommand 72 = .ok (.goto 18, 3) := by decide +kernel
theorem dX10_readCommand_75 : decode cX10_readCommand 75 = .ok (.aload_n 0, 1) := by decide +kernel
theorem dX10_readCommand_76 : decode cX10_readCommand 76 = .ok (.ldc_w 393, 3) := by decide +kernel
theorem dX10_readCommand_79 : decode cX10_readCommand 79 = .ok (.invokevirtual 205, 3) := by decide +kernel
theorem dX10_readCommand_82 : decode cX10_readCommand 82 = .ok (.ifCond .eq 7, 3) := by decide +kernel
theorem dX10_readCommand_85 : decode cX10_readCommand 85 = .ok (.iconst 5, 1) := by decide +kernel
theorem dX10_readCommand_86 : decode cX10_readCommand 86 = .ok (.goto 4, 3) := by decide +kernel
theorem dX10_readCommand_89 : decode cX10_readCommand 89 = .ok (.iconst (-1), 1) := by decide +kernel
theorem dX10_readCommand_90 : decode cX10_readCommand 90 = .ok (.istore_n 2, 1) := by decide +kernel
theorem dX10_readCommand_91 : decode cX10_readCommand 91 = .ok (.aload_n 0, 1) := by decide +kernel
theorem dX10_readCommand_92 : decode cX10_readCommand 92 = .ok (.iconst 1, 1) := by decide +kernel
theorem dX10_readCommand_93 : decode cX10_readCommand 93 = .ok (.iload_n 2, 1) := by decide +kernel
theorem dX10_readCommand_94 : decode cX10_readCommand 94 = .ok (.iconst (-1), 1) := by decide +kernel
theorem dX10_readCommand_95 : decode cX10_readCommand 95 = .ok (.if_icmp .eq 7, 3) := by decide +kernel
theorem dX10_readCommand_98 : decode cX10_readCommand 98 = .ok (.iconst 1, 1) := by decide +kernel
theorem dX10_readCommand_99 : decode cX10_readCommand 99 = .ok (.goto 4, 3) := by decide +kernel
theorem dX10_readCommand_102 : decode cX10_readCommand 102 = .ok (.iconst 0, 1) := by decide +kernel
theorem dX10_readCommand_103 : decode cX10_readCommand 103 = .ok (.invokevirtual 181, 3) := by decide +kernel
theorem dX10_readCommand_106 : decode cX10_readCommand 106 = .ok (.ifCond .ne 5, 3) := by decide +kernel
theorem dX10_readCommand_109 : decode cX10_readCommand 109 = .ok (.iconst 0, 1) := by decide +kernel
theorem dX10_readCommand_110 : decode cX10_readCommand 110 = .ok (.ireturn, 1) := by decide +kernel
theorem dX10_readCommand_111 : decode cX10_readCommand 111 = .ok (.aload_n 0, 1) := by decide +kernel
theorem dX10_readCommand_112 : decode cX10_readCommand 112 = .ok (.getfield 86, 3) := by decide +kernel
theorem dX10_readCommand_115 : decode cX10_readCommand 115 = .ok (.iload_n 1, 1) := by decide +kernel
theorem dX10_readCommand_116 : decode cX10_readCommand 116 = .ok (.iload_n 2, 1) := by decide +kernel
theorem dX10_readCommand_117 : decode cX10_readCommand 117 = .ok (.iastore, 1) := by decide +kernel
theorem dX10_readCommand_118 : decode cX10_readCommand 118 = .ok (.iload_n 2, 1) := by decide +kernel
theorem dX10_readCommand_119 : decode cX10_readCommand 119 = .ok (.iconst 4, 1) := by decide +kernel
theorem dX10_readCommand_120 : decode cX10_readCommand 120 = .ok (.if_icmp .ne 7, 3) := by decide +kernel
theorem dX10_readCommand_123 : decode cX10_readCommand 123 = .ok (.iconst 0, 1) := by decide +kernel
theorem dX10_readCommand_124 : decode cX10_readCommand 124 = .ok (.goto 22, 3) := by decide +kernel
theorem dX10_readCommand_127 : decode cX10_readCommand 127 = .ok (.iload_n 2, 1) := by decide +kernel
theorem dX10_readCommand_128 : decode cX10_readCommand 128 = .ok (.iconst 5, 1) := by decide +kernel
theorem dX10_readCommand_129 : decode cX10_readCommand 129 = .ok (.if_icmp .ne 7, 3) := by decide +kernel
theorem dX10_readCommand_132 : decode cX10_readCommand 132 = .ok (.iconst 1, 1) := by decide +kernel
theorem dX10_readCommand_133 : decode cX10_readCommand 133 = .ok (.goto 13, 3) := by decide +kernel
theorem dX10_readCommand_136 : decode cX10_readCommand 136 = .ok (.iload_n 2, 1) := by decide +kernel
theorem dX10_readCommand_137 : decode cX10_readCommand 137 = .ok (.iconst 3, 1) := by decide +kernel
theorem dX10_readCommand_138 : decode cX10_readCommand 138 = .ok (.if_icmp .ne 7, 3) := by decide +kernel
theorem dX10_readCommand_141 : decode cX10_readCommand 141 = .ok (.iconst 3, 1) := by decide +kernel
theorem dX10_readCommand_142 : decode cX10_readCommand 142 = .ok (.goto 4, 3) := by decide +kernel
theorem dX10_readCommand_145 : decode cX10_readCommand 145 = .ok (.iconst 2, 1) := by decide +kernel
theorem dX10_readCommand_146 : decode cX10_readCommand 146 = .ok (.istore_n 3, 1) := by decide +kernel
theorem dX10_readCommand_147 : decode cX10_readCommand 147 = .ok (.iconst 0, 1) := by decide +kernel
theorem dX10_readCommand_148 : decode cX10_readCommand 148 = .ok (.istore 4, 2) := by decide +kernel
theorem dX10_readCommand_150 : decode cX10_readCommand 150 = .ok (.iload 4, 2) := by decide +kernel
theorem dX10_readCommand_152 : decode cX10_readCommand 152 = .ok (.iload_n 3, 1) := by decide +kernel
theorem dX10_readCommand_153 : decode cX10_readCommand 153 = .ok (.if_icmp .ge 96, 3) := by decide +kernel
theorem dX10_readCommand_156 : decode cX10_readCommand 156 = .ok (.aload_n 0, 1) := by decide +kernel
theorem dX10_readCommand_157 : decode cX10_readCommand 157 = .ok (.iconst 0, 1) := by decide +kernel
theorem dX10_readCommand_158 : decode cX10_readCommand 158 = .ok (.sipush 999, 3) := by decide +kernel
theorem dX10_readCommand_161 : decode cX10_readCommand 161 = .ok (.invokevirtual 209, 3) := by decide +kernel
theorem dX10_readCommand_164 : decode cX10_readCommand 164 = .ok (.ifCond .ne 5, 3) := by decide +kernel
theorem dX10_readCommand_167 : decode cX10_readCommand 167 = .ok (.iconst 0, 1) := by decide +kernel
theorem dX10_readCommand_168 : decode cX10_readCommand 168 = .ok (.ireturn, 1) := by decide +kernel
theorem dX10_readCommand_169 : decode cX10_readCommand 169 = .ok (.aload_n 0, 1) := by decide +kernel
theorem dX10_readCommand_170 : decode cX10_readCommand 170 = .ok (.getfield 89, 3) := by decide +kernel
theorem dX10_readCommand_173 : decode cX10_readCommand 173 = .ok (.iload_n 1, 1) := by decide +kernel
theorem dX10_readCommand_174 : decode cX10_readCommand 174 = .ok (.iload 4, 2) := by decide +kernel
theorem dX10_readCommand_176 : decode cX10_readCommand 176 = .ok (.ifCond .ne 10, 3) := by decide +kernel
theorem dX10_readCommand_179 : decode cX10_readCommand 179 = .ok (.aload_n 0, 1) := by decide +kernel
theorem dX10_readCommand_180 : decode cX10_readCommand 180 = .ok (.getfield 178, 3) := by decide +kernel
theorem dX10_readCommand_183 : decode cX10_readCommand 183 = .ok (.goto 9, 3) := by decide +kernel
theorem dX10_readCommand_186 : decode cX10_readCommand 186 = .ok (.aload_n 0, 1) := by decide +kernel
theorem dX10_readCommand_187 : decode cX10_readCommand 187 = .ok (.getfield 89, 3) := by decide +kernel
theorem dX10_readCommand_190 : decode cX10_readCommand 190 = .ok (.iload_n 1, 1) := by decide +kernel
theorem dX10_readCommand_191 : decode cX10_readCommand 191 = .ok (.iaload, 1) := by decide +kernel
theorem dX10_readCommand_192 : decode cX10_readCommand 192 = .ok (.iastore, 1) := by decide +kernel
theorem dX10_readCommand_193 : decode cX10_readCommand 193 = .ok (.aload_n 0, 1) := by decide +kernel
theorem dX10_readCommand_194 : decode cX10_readCommand 194 = .ok (.getfield 92, 3) := by decide +kernel
theorem dX10_readCommand_197 : decode cX10_readCommand 197 = .ok (.iload_n 1, 1) := by decide +kernel
theorem dX10_readCommand_198 : decode cX10_readCommand 198 = .ok (.iload 4, 2) := by decide +kernel
theorem dX10_readCommand_200 : decode cX10_readCommand 200 = .ok (.iconst 1, 1) := by decide +kernel
theorem dX10_readCommand_201 : decode cX10_readCommand 201 = .ok (.if_icmp .ne 10, 3) := by decide +kernel
theorem dX10_readCommand_204 : decode cX10_readCommand 204 = .ok (.aload_n 0, 1) := by decide +kernel
theorem dX10_readCommand_205 : decode cX10_readCommand 205 = .ok (.getfield 178, 3) := by decide +kernel
theorem dX10_readCommand_208 : decode cX10_readCommand 208 = .ok (.goto 9, 3) := by decide +kernel
theorem dX10_readCommand_211 : decode cX10_readCommand 211 = .ok (.aload_n 0, 1) := by decide +kernel
theorem dX10_readCommand_212 : decode cX10_readCommand 212 = .ok (.getfield 92, 3) := by decide +kernel
theorem dX10_readCommand_215 : decode cX10_readCommand 215 = .ok (.iload_n 1, 1) := by decide +kernel
theorem dX10_readCommand_216 : decode cX10_readCommand 216 = .ok (.iaload, 1) := by decide +kernel
theorem dX10_readCommand_217 : decode cX10_readCommand 217 = .ok (.iastore, 1) := by decide +kernel
theorem dX10_readCommand_218 : decode cX10_readCommand 218 = .ok (.aload_n 0, 1) := by decide +kernel
theorem dX10_readCommand_219 : decode cX10_readCommand 219 = .ok (.getfield 95, 3) := by decide +kernel
theorem dX10_readCommand_222 : decode cX10_readCommand 222 = .ok (.iload_n 1, 1) := by decide +kernel
theorem dX10_readCommand_223 : decode cX10_readCommand 223 = .ok (.iload 4, 2) := by decide +kernel
theorem dX10_readCommand_225 : decode cX10_readCommand 225 = .ok (.iconst 2, 1) := by decide +kernel
theorem dX10_readCommand_226 : decode cX10_readCommand 226 = .ok (.if_icmp .ne 10, 3) := by decide +kernel
theorem dX10_readCommand_229 : decode cX10_readCommand 229 = .ok (.aload_n 0, 1) := by decide +kernel
theorem dX10_readCommand_230 : decode cX10_readCommand 230 = .ok (.getfield 178, 3) := by decide +kernel
theorem dX10_readCommand_233 : decode cX10_readCommand 233 = .ok (.goto 9, 3) := by decide +kernel
theorem dX10_readCommand_236 : decode cX10_readCommand 236 = .ok (.aload_n 0, 1) := by decide +kernel
theorem dX10_readCommand_237 : decode cX10_readCommand 237 = .ok (.getfield 95, 3) := by decide +kernel
theorem dX10_readCommand_240 : decode cX10_readCommand 240 = .ok (.iload_n 1, 1) := by decide +kernel
theorem dX10_readCommand_241 : decode cX10_readCommand 241 = .ok (.iaload, 1) := by decide +kernel
theorem dX10_readCommand_242 : decode cX10_readCommand 242 = .ok (.iastore, 1) := by decide +kernel
theorem dX10_readCommand_243 : decode cX10_readCommand 243 = .ok (.iinc 4 1, 3) := by decide +kernel
theorem dX10_readCommand_246 : decode cX10_readCommand 246 = .ok (.goto (-96), 3) := by decide +kernel
theorem dX10_readCommand_249 : decode cX10_readCommand 249 = .ok (.aload_n 0, 1) := by decide +kernel
theorem dX10_readCommand_250 : decode cX10_readCommand 250 = .ok (.dup, 1) := by decide +kernel
theorem dX10_readCommand_251 : decode cX10_readCommand 251 = .ok (.getfield 380, 3) := by decide +kernel
theorem dX10_readCommand_254 : decode cX10_readCommand 254 = .ok (.iconst 1, 1) := by decide +kernel
theorem dX10_readCommand_255 : decode cX10_readCommand 255 = .ok (.iadd, 1) := by decide +kernel
theorem dX10_readCommand_256 : decode cX10_readCommand 256 = .ok (.putfield 380, 3) := by decide +kernel
theorem dX10_readCommand_259 : decode cX10_readCommand 259 = .ok (.aload_n 0, 1) := by decide +kernel
theorem dX10_readCommand_260 : decode cX10_readCommand 260 = .ok (.invokevirtual 238, 3) := by decide +kernel
theorem dX10_readCommand_263 : decode cX10_readCommand 263 = .ok (.ireturn, 1) := by decide +kernel
theorem dX10_isRange_0 : decode cX10_isRange 0 = .ok (.iload_n 1, 1) := by decide +kernel
theorem dX10_isRange_1 : decode cX10_isRange 1 = .ok (.iload_n 2, 1) := by decide +kernel
theorem dX10_isRange_2 : decode cX10_isRange 2 = .ok (.if_icmp .gt 17, 3) := by decide +kernel
theorem dX10_isRange_5 : decode cX10_isRange 5 = .ok (.iload_n 2, 1) := by decide +kernel
theorem dX10_isRange_6 : decode cX10_isRange 6 = .ok (.aload_n 0, 1) := by decide +kernel
theorem dX10_isRange_7 : decode cX10_isRange 7 = .ok (.getfield 35, 3) := by decide +kernel
theorem dX10_isRange_10 : decode cX10_isRange 10 = .ok (.iconst 0, 1) := by decide +kernel
theorem dX10_isRange_11 : decode cX10_isRange 11 = .ok (.iaload, 1) := by decide +kernel
theorem dX10_isRange_12 : decode cX10_isRange 12 = .ok (.if_icmp .gt 7, 3) := by decide +kernel
theorem dX10_isRange_15 : decode cX10_isRange 15 = .ok (.iconst 1, 1) := by decide +kernel
theorem dX10_isRange_16 : decode cX10_isRange 16 = .ok (.goto 4, 3) := by decide +kernel
theorem dX10_isRange_19 : decode cX10_isRange 19 = .ok (.iconst 0, 1) := by decide +kernel
theorem dX10_isRange_20 : decode cX10_isRange 20 = .ok (.ireturn, 1) := by decide +kernel
theorem dX10_doesOne_0 : decode cX10_doesOne 0 = .ok (.aload_n 0, 1) := by decide +kernel
theorem dX10_doesOne_1 : decode cX10_doesOne 1 = .ok (.getfield 89, 3) := by decide +kernel
theorem dX10_doesOne_4 : decode cX10_doesOne 4 = .ok (.iload_n 1, 1) := by decide +kernel
theorem dX10_doesOne_5 : decode cX10_doesOne 5 = .ok (.iaload, 1) := by decide +kernel
theorem dX10_doesOne_6 : decode cX10_doesOne 6 = .ok (.istore_n 2, 1) := by decide +kernel
theorem dX10_doesOne_7 : decode cX10_doesOne 7 = .ok (.aload_n 0, 1) := by decide +kernel
theorem dX10_doesOne_8 : decode cX10_doesOne 8 = .ok (.getfield 92, 3) := by decide +kernel
theorem dX10_doesOne_11 : decode cX10_doesOne 11 = .ok (.iload_n 1, 1) := by decide +kernel
theorem dX10_doesOne_12 : decode cX10_doesOne 12 = .ok (.iaload, 1) := by decide +kernel
theorem dX10_doesOne_13 : decode cX10_doesOne 13 = .ok (.istore_n 3, 1) := by decide +kernel
theorem dX10_doesOne_14 : decode cX10_doesOne 14 = .ok (.aload_n 0, 1) := by decide +kernel
theorem dX10_doesOne_15 : decode cX10_doesOne 15 = .ok (.getfield 86, 3) := by decide +kernel
theorem dX10_doesOne_18 : decode cX10_doesOne 18 = .ok (.iload_n 1, 1) := by decide +kernel
theorem dX10_doesOne_19 : decode cX10_doesOne 19 = .ok (.iaload, 1) := by decide +kernel
theorem dX10_doesOne_20 : decode cX10_doesOne 20 = .ok (.tableswitch 158 0 4 #[36, 55, 94, 101, 153], 36) := by decide +kernel
theorem dX10_doesOne_56 : decode cX10_doesOne 56 = .ok (.aload_n 0, 1) := by decide +kernel
theorem dX10_doesOne_57 : decode cX10_doesOne 57 = .ok (.iload_n 2, 1) := by decide +kernel
theorem dX10_doesOne_58 : decode cX10_doesOne 58 = .ok (.iload_n 3, 1) := by decide +kernel
theorem dX10_doesOne_59 : decode cX10_doesOne 59 = .ok (.invokevirtual 395, 3) := by decide +kernel
theorem dX10_doesOne_62 : decode cX10_doesOne 62 = .ok (.ifCond .eq 11, 3) := by decide +kernel
theorem dX10_doesOne_65 : decode cX10_doesOne 65 = .ok (.aload_n 0, 1) := by decide +kernel
theorem dX10_doesOne_66 : decode cX10_doesOne 66 = .ok (.iload_n 2, 1) := by decide +kernel
theorem dX10_doesOne_67 : decode cX10_doesOne 67 = .ok (.iload_n 3, 1) := by decide +kernel
theorem dX10_doesOne_68 : decode cX10_doesOne 68 = .ok (.invokevirtual 361, 3) := by decide +kernel
theorem dX10_doesOne_71 : decode cX10_doesOne 71 = .ok (.iconst 1, 1) := by decide +kernel
theorem dX10_doesOne_72 : decode cX10_doesOne 72 = .ok (.ireturn, 1) := by decide +kernel
theorem dX10_doesOne_73 : decode cX10_doesOne 73 = .ok (.iconst 0, 1) := by decide +kernel
theorem dX10_doesOne_74 : decode cX10_doesOne 74 = .ok (.ireturn, 1) := by decide +kernel
theorem dX10_doesOne_75 : decode cX10_doesOne 75 = .ok (.iload_n 2, 1) := by decide +kernel
theorem dX10_doesOne_76 : decode cX10_doesOne 76 = .ok (.aload_n 0, 1) := by decide +kernel
theorem dX10_doesOne_77 : decode cX10_doesOne 77 = .ok (.getfield 35, 3) := by decide +kernel
theorem dX10_doesOne_80 : decode cX10_doesOne 80 = .ok (.iconst 0, 1) := by decide +kernel
theorem dX10_doesOne_81 : decode cX10_doesOne 81 = .ok (.iaload, 1) := by decide +kernel
theorem dX10_doesOne_82 : decode cX10_doesOne 82 = .ok (.if_icmp .gt 30, 3) := by decide +kernel
theorem dX10_doesOne_85 : decode cX10_doesOne 85 = .ok (.iload_n 3, 1) := by decide +kernel
theorem dX10_doesOne_86 : decode cX10_doesOne 86 = .ok (.invokestatic 254, 3) := by decide +kernel
theorem dX10_doesOne_89 : decode cX10_doesOne 89 = .ok (.ifCond .eq 23, 3) := by decide +kernel
theorem dX10_doesOne_92 : decode cX10_doesOne 92 = .ok (.aload_n 0, 1) := by decide +kernel
theorem dX10_doesOne_93 : decode cX10_doesOne 93 = .ok (.getfield 35, 3) := by decide +kernel
theorem dX10_doesOne_96 : decode cX10_doesOne 96 = .ok (.iconst 0, 1) := by decide +kernel
theorem dX10_doesOne_97 : decode cX10_doesOne 97 = .ok (.iaload, 1) := by decide +kernel
theorem dX10_doesOne_98 : decode cX10_doesOne 98 = .ok (.sipush 240, 3) := by decide +kernel
theorem dX10_doesOne_101 : decode cX10_doesOne 101 = .ok (.if_icmp .ge 11, 3) := by decide +kernel
theorem dX10_doesOne_104 : decode cX10_doesOne 104 = .ok (.aload_n 0, 1) := by decide +kernel
theorem dX10_doesOne_105 : decode cX10_doesOne 105 = .ok (.iload_n 2, 1) := by decide +kernel
theorem dX10_doesOne_106 : decode cX10_doesOne 106 = .ok (.iload_n 3, 1) := by decide +kernel
theorem dX10_doesOne_107 : decode cX10_doesOne 107 = .ok (.invokevirtual 358, 3) := by decide +kernel
theorem dX10_doesOne_110 : decode cX10_doesOne 110 = .ok (.iconst 1, 1) := by decide +kernel
theorem dX10_doesOne_111 : decode cX10_doesOne 111 = .ok (.ireturn, 1) := by decide +kernel
theorem dX10_doesOne_112 : decode cX10_doesOne 112 = .ok (.iconst 0, 1) := by decide +kernel
theorem dX10_doesOne_113 : decode cX10_doesOne 113 = .ok (.ireturn, 1) := by decide +kernel
theorem dX10_doesOne_114 : decode cX10_doesOne 114 = .ok (.aload_n 0, 1) := by decide +kernel
theorem dX10_doesOne_115 : decode cX10_doesOne 115 = .ok (.iload_n 2, 1) := by decide +kernel
theorem dX10_doesOne_116 : decode cX10_doesOne 116 = .ok (.iload_n 3, 1) := by decide +kernel
theorem dX10_doesOne_117 : decode cX10_doesOne 117 = .ok (.invokevirtual 398, 3) := by decide +kernel
theorem dX10_doesOne_120 : decode cX10_doesOne 120 = .ok (.ireturn, 1) := by decide +kernel
theorem dX10_doesOne_121 : decode cX10_doesOne 121 = .ok (.aload_n 0, 1) := by decide +kernel
theorem dX10_doesOne_122 : decode cX10_doesOne 122 = .ok (.iload_n 2, 1) := by decide +kernel
theorem dX10_doesOne_123 : decode cX10_doesOne 123 = .ok (.iload_n 3, 1) := by decide +kernel
theorem dX10_doesOne_124 : decode cX10_doesOne 124 = .ok (.invokevirtual 395, 3) := by decide +kernel
theorem dX10_doesOne_127 : decode cX10_doesOne 127 = .ok (.ifCond .eq 44, 3) := by decide +kernel
theorem dX10_doesOne_130 : decode cX10_doesOne 130 = .ok (.aload_n 0, 1) := by decide +kernel
theorem dX10_doesOne_131 : decode cX10_doesOne 131 = .ok (.getfield 95, 3) := by decide +kernel
theorem dX10_doesOne_134 : decode cX10_doesOne 134 = .ok (.iload_n 1, 1) := by decide +kernel
theorem dX10_doesOne_135 : decode cX10_doesOne 135 = .ok (.iaload, 1) := by decide +kernel
theorem dX10_doesOne_136 : decode cX10_doesOne 136 = .ok (.aload_n 0, 1) := by decide +kernel
theorem dX10_doesOne_137 : decode cX10_doesOne 137 = .ok (.getfield 110, 3) := by decide +kernel
theorem dX10_doesOne_140 : decode cX10_doesOne 140 = .ok (.if_icmp .ge 31, 3) := by decide +kernel
theorem dX10_doesOne_143 : decode cX10_doesOne 143 = .ok (.aload_n 0, 1) := by decide +kernel
theorem dX10_doesOne_144 : decode cX10_doesOne 144 = .ok (.getfield 35, 3) := by decide +kernel
theorem dX10_doesOne_147 : decode cX10_doesOne 147 = .ok (.iconst 0, 1) := by decide +kernel
theorem dX10_doesOne_148 : decode cX10_doesOne 148 = .ok (.iaload, 1) := by decide +kernel
theorem dX10_doesOne_149 : decode cX10_doesOne 149 = .ok (.iconst 2, 1) := by decide +kernel
theorem dX10_doesOne_150 : decode cX10_doesOne 150 = .ok (.iadd, 1) := by decide +kernel
theorem dX10_doesOne_151 : decode cX10_doesOne 151 = .ok (.sipush 240, 3) := by decide +kernel
theorem dX10_doesOne_154 : decode cX10_doesOne 154 = .ok (.if_icmp .gt 17, 3) := by decide +kernel
theorem dX10_doesOne_157 : decode cX10_doesOne 157 = .ok (.aload_n 0, 1) := by decide +kernel
theorem dX10_doesOne_158 : decode cX10_doesOne 158 = .ok (.iload_n 2, 1) := by decide +kernel
theorem dX10_doesOne_159 : decode cX10_doesOne 159 = .ok (.iload_n 3, 1) := by decide +kernel
theorem dX10_doesOne_160 : decode cX10_doesOne 160 = .ok (.aload_n 0, 1) := by decide +kernel
theorem dX10_doesOne_161 : decode cX10_doesOne 161 = .ok (.getfield 95, 3) := by decide +kernel
theorem dX10_doesOne_164 : decode cX10_doesOne 164 = .ok (.iload_n 1, 1) := by decide +kernel
theorem dX10_doesOne_165 : decode cX10_doesOne 165 = .ok (.iaload, 1) := by decide +kernel
theorem dX10_doesOne_166 : decode cX10_doesOne 166 = .ok (.invokevirtual 370, 3) := by decide +kernel
theorem dX10_doesOne_169 : decode cX10_doesOne 169 = .ok (.iconst 1, 1) := by decide +kernel
theorem dX10_doesOne_170 : decode cX10_doesOne 170 = .ok (.ireturn, 1) := by decide +kernel
theorem dX10_doesOne_171 : decode cX10_doesOne 171 = .ok (.iconst 0, 1) := by decide +kernel
theorem dX10_doesOne_172 : decode cX10_doesOne 172 = .ok (.ireturn, 1) := by decide +kernel
theorem dX10_doesOne_173 : decode cX10_doesOne 173 = .ok (.aload_n 0, 1) := by decide +kernel
theorem dX10_doesOne_174 : decode cX10_doesOne 174 = .ok (.invokevirtual 401, 3) := by decide +kernel
theorem dX10_doesOne_177 : decode cX10_doesOne 177 = .ok (.ireturn, 1) := by decide +kernel
theorem dX10_doesOne_178 : decode cX10_doesOne 178 = .ok (.aload_n 0, 1) := by decide +kernel
theorem dX10_doesOne_179 : decode cX10_doesOne 179 = .ok (.invokevirtual 292, 3) := by decide +kernel
theorem dX10_doesOne_182 : decode cX10_doesOne 182 = .ok (.aload_n 0, 1) := by decide +kernel
theorem dX10_doesOne_183 : decode cX10_doesOne 183 = .ok (.invokevirtual 298, 3) := by decide +kernel
theorem dX10_doesOne_186 : decode cX10_doesOne 186 = .ok (.iload_n 2, 1) := by decide +kernel
theorem dX10_doesOne_187 : decode cX10_doesOne 187 = .ok (.if_icmp .ne 7, 3) := by decide +kernel
theorem dX10_doesOne_190 : decode cX10_doesOne 190 = .ok (.iconst 1, 1) := by decide +kernel
theorem dX10_doesOne_191 : decode cX10_doesOne 191 = .ok (.goto 4, 3) := by decide +kernel
theorem dX10_doesOne_194 : decode cX10_doesOne 194 = .ok (.iconst 0, 1) := by decide +kernel
theorem dX10_doesOne_195 : decode cX10_doesOne 195 = .ok (.ireturn, 1) := by decide +kernel
theorem dX10_swaps_0 : decode cX10_swaps 0 = .ok (.iload_n 1, 1) := by decide +kernel
theorem dX10_swaps_1 : decode cX10_swaps 1 = .ok (.aload_n 0, 1) := by decide +kernel
theorem dX10_swaps_2 : decode cX10_swaps 2 = .ok (.getfield 35, 3) := by decide +kernel
theorem dX10_swaps_5 : decode cX10_swaps 5 = .ok (.iconst 0, 1) := by decide +kernel
theorem dX10_swaps_6 : decode cX10_swaps 6 = .ok (.iaload, 1) := by decide +kernel
theorem dX10_swaps_7 : decode cX10_swaps 7 = .ok (.if_icmp .ge 13, 3) := by decide +kernel
theorem dX10_swaps_10 : decode cX10_swaps 10 = .ok (.iload_n 2, 1) := by decide +kernel
theorem dX10_swaps_11 : decode cX10_swaps 11 = .ok (.aload_n 0, 1) := by decide +kernel
theorem dX10_swaps_12 : decode cX10_swaps 12 = .ok (.getfield 35, 3) := by decide +kernel
theorem dX10_swaps_15 : decode cX10_swaps 15 = .ok (.iconst 0, 1) := by decide +kernel
theorem dX10_swaps_16 : decode cX10_swaps 16 = .ok (.iaload, 1) := by decide +kernel
theorem dX10_swaps_17 : decode cX10_swaps 17 = .ok (.if_icmp .lt 5, 3) := by decide +kernel
theorem dX10_swaps_20 : decode cX10_swaps 20 = .ok (.iconst 0, 1) := by decide +kernel
theorem dX10_swaps_21 : decode cX10_swaps 21 = .ok (.ireturn, 1) := by decide +kernel
theorem dX10_swaps_22 : decode cX10_swaps 22 = .ok (.aload_n 0, 1) := by decide +kernel
theorem dX10_swaps_23 : decode cX10_swaps 23 = .ok (.getfield 35, 3) := by decide +kernel
theorem dX10_swaps_26 : decode cX10_swaps 26 = .ok (.bipush 14, 2) := by decide +kernel
theorem dX10_swaps_28 : decode cX10_swaps 28 = .ok (.iload_n 1, 1) := by decide +kernel
theorem dX10_swaps_29 : decode cX10_swaps 29 = .ok (.iadd, 1) := by decide +kernel
theorem dX10_swaps_30 : decode cX10_swaps 30 = .ok (.iaload, 1) := by decide +kernel
theorem dX10_swaps_31 : decode cX10_swaps 31 = .ok (.istore_n 3, 1) := by decide +kernel
theorem dX10_swaps_32 : decode cX10_swaps 32 = .ok (.aload_n 0, 1) := by decide +kernel
theorem dX10_swaps_33 : decode cX10_swaps 33 = .ok (.getfield 35, 3) := by decide +kernel
theorem dX10_swaps_36 : decode cX10_swaps 36 = .ok (.bipush 14, 2) := by decide +kernel
theorem dX10_swaps_38 : decode cX10_swaps 38 = .ok (.iload_n 1, 1) := by decide +kernel
theorem dX10_swaps_39 : decode cX10_swaps 39 = .ok (.iadd, 1) := by decide +kernel
theorem dX10_swaps_40 : decode cX10_swaps 40 = .ok (.aload_n 0, 1) := by decide +kernel
theorem dX10_swaps_41 : decode cX10_swaps 41 = .ok (.getfield 35, 3) := by decide +kernel
theorem dX10_swaps_44 : decode cX10_swaps 44 = .ok (.bipush 14, 2) := by decide +kernel
theorem dX10_swaps_46 : decode cX10_swaps 46 = .ok (.iload_n 2, 1) := by decide +kernel
theorem dX10_swaps_47 : decode cX10_swaps 47 = .ok (.iadd, 1) := by decide +kernel
theorem dX10_swaps_48 : decode cX10_swaps 48 = .ok (.iaload, 1) := by decide +kernel
theorem dX10_swaps_49 : decode cX10_swaps 49 = .ok (.iastore, 1) := by decide +kernel
theorem dX10_swaps_50 : decode cX10_swaps 50 = .ok (.aload_n 0, 1) := by decide +kernel
theorem dX10_swaps_51 : decode cX10_swaps 51 = .ok (.getfield 35, 3) := by decide +kernel
theorem dX10_swaps_54 : decode cX10_swaps 54 = .ok (.bipush 14, 2) := by decide +kernel
theorem dX10_swaps_56 : decode cX10_swaps 56 = .ok (.iload_n 2, 1) := by decide +kernel
theorem dX10_swaps_57 : decode cX10_swaps 57 = .ok (.iadd, 1) := by decide +kernel
theorem dX10_swaps_58 : decode cX10_swaps 58 = .ok (.iload_n 3, 1) := by decide +kernel
theorem dX10_swaps_59 : decode cX10_swaps 59 = .ok (.iastore, 1) := by decide +kernel
theorem dX10_swaps_60 : decode cX10_swaps 60 = .ok (.iconst 1, 1) := by decide +kernel
theorem dX10_swaps_61 : decode cX10_swaps 61 = .ok (.ireturn, 1) := by decide +kernel
theorem dX10_canRepair_0 : decode cX10_canRepair 0 = .ok (.aload_n 0, 1) := by decide +kernel
theorem dX10_canRepair_1 : decode cX10_canRepair 1 = .ok (.invokevirtual 346, 3) := by decide +kernel
theorem dX10_canRepair_4 : decode cX10_canRepair 4 = .ok (.istore_n 1, 1) := by decide +kernel
theorem dX10_canRepair_5 : decode cX10_canRepair 5 = .ok (.aload_n 0, 1) := by decide +kernel
theorem dX10_canRepair_6 : decode cX10_canRepair 6 = .ok (.invokevirtual 374, 3) := by decide +kernel
theorem dX10_canRepair_9 : decode cX10_canRepair 9 = .ok (.sipush 240, 3) := by decide +kernel
theorem dX10_canRepair_12 : decode cX10_canRepair 12 = .ok (.if_icmp .le 5, 3) := by decide +kernel
theorem dX10_canRepair_15 : decode cX10_canRepair 15 = .ok (.iconst 0, 1) := by decide +kernel
theorem dX10_canRepair_16 : decode cX10_canRepair 16 = .ok (.ireturn, 1) := by decide +kernel
theorem dX10_canRepair_17 : decode cX10_canRepair 17 = .ok (.aload_n 0, 1) := by decide +kernel
theorem dX10_canRepair_18 : decode cX10_canRepair 18 = .ok (.invokevirtual 377, 3) := by decide +kernel
theorem dX10_canRepair_21 : decode cX10_canRepair 21 = .ok (.iconst 1, 1) := by decide +kernel
theorem dX10_canRepair_22 : decode cX10_canRepair 22 = .ok (.ireturn, 1) := by decide +kernel
theorem dX10_script_0 : decode cX10_script 0 = .ok (.aload_n 0, 1) := by decide +kernel
theorem dX10_script_1 : decode cX10_script 1 = .ok (.iconst 0, 1) := by decide +kernel
theorem dX10_script_2 : decode cX10_script 2 = .ok (.putfield 117, 3) := by decide +kernel
theorem dX10_script_5 : decode cX10_script 5 = .ok (.aload_n 0, 1) := by decide +kernel
theorem dX10_script_6 : decode cX10_script 6 = .ok (.iload_n 1, 1) := by decide +kernel
theorem dX10_script_7 : decode cX10_script 7 = .ok (.iconst 0, 1) := by decide +kernel
theorem dX10_script_8 : decode cX10_script 8 = .ok (.aload_n 0, 1) := by decide +kernel
theorem dX10_script_9 : decode cX10_script 9 = .ok (.getfield 120, 3) := by decide +kernel
theorem dX10_script_12 : decode cX10_script 12 = .ok (.invokestatic 130, 3) := by decide +kernel
theorem dX10_script_15 : decode cX10_script 15 = .ok (.ifCond .ne 7, 3) := by decide +kernel
theorem dX10_script_18 : decode cX10_script 18 = .ok (.iconst 1, 1) := by decide +kernel
theorem dX10_script_19 : decode cX10_script 19 = .ok (.goto 4, 3) := by decide +kernel
theorem dX10_script_22 : decode cX10_script 22 = .ok (.iconst 0, 1) := by decide +kernel
theorem dX10_script_23 : decode cX10_script 23 = .ok (.iconst 1, 1) := by decide +kernel
theorem dX10_script_24 : decode cX10_script 24 = .ok (.invokevirtual 227, 3) := by decide +kernel
theorem dX10_script_27 : decode cX10_script 27 = .ok (.ifCond .eq 5, 3) := by decide +kernel
theorem dX10_script_30 : decode cX10_script 30 = .ok (.iconst 0, 1) := by decide +kernel
theorem dX10_script_31 : decode cX10_script 31 = .ok (.ireturn, 1) := by decide +kernel
theorem dX10_script_32 : decode cX10_script 32 = .ok (.aload_n 0, 1) := by decide +kernel
theorem dX10_script_33 : decode cX10_script 33 = .ok (.iload_n 1, 1) := by decide +kernel
theorem dX10_script_34 : decode cX10_script 34 = .ok (.invokevirtual 231, 3) := by decide +kernel
theorem dX10_script_37 : decode cX10_script 37 = .ok (.aload_n 0, 1) := by decide +kernel
theorem dX10_script_38 : decode cX10_script 38 = .ok (.iconst 0, 1) := by decide +kernel
theorem dX10_script_39 : decode cX10_script 39 = .ok (.putfield 380, 3) := by decide +kernel
theorem dX10_script_42 : decode cX10_script 42 = .ok (.iconst 1, 1) := by decide +kernel
theorem dX10_script_43 : decode cX10_script 43 = .ok (.istore_n 2, 1) := by decide +kernel
theorem dX10_script_44 : decode cX10_script 44 = .ok (.iload_n 2, 1) := by decide +kernel
theorem dX10_script_45 : decode cX10_script 45 = .ok (.ifCond .eq 18, 3) := by decide +kernel
theorem dX10_script_48 : decode cX10_script 48 = .ok (.aload_n 0, 1) := by decide +kernel
theorem dX10_script_49 : decode cX10_script 49 = .ok (.getfield 154, 3) := by decide +kernel
theorem dX10_script_52 : decode cX10_script 52 = .ok (.ifCond .eq 11, 3) := by decide +kernel
theorem dX10_script_55 : decode cX10_script 55 = .ok (.aload_n 0, 1) := by decide +kernel
theorem dX10_script_56 : decode cX10_script 56 = .ok (.invokevirtual 404, 3) := by decide +kernel
theorem dX10_script_59 : decode cX10_script 59 = .ok (.istore_n 2, 1) := by decide +kernel
theorem dX10_script_60 : decode cX10_script 60 = .ok (.goto (-16), 3) := by decide +kernel
theorem dX10_script_63 : decode cX10_script 63 = .ok (.iload_n 2, 1) := by decide +kernel
theorem dX10_script_64 : decode cX10_script 64 = .ok (.ifCond .ne 11, 3) := by decide +kernel
theorem dX10_script_67 : decode cX10_script 67 = .ok (.bipush (-10), 2) := by decide +kernel
theorem dX10_script_69 : decode cX10_script 69 = .ok (.aload_n 0, 1) := by decide +kernel
theorem dX10_script_70 : decode cX10_script 70 = .ok (.getfield 169, 3) := by decide +kernel
theorem dX10_script_73 : decode cX10_script 73 = .ok (.isub, 1) := by decide +kernel
theorem dX10_script_74 : decode cX10_script 74 = .ok (.ireturn, 1) := by decide +kernel
theorem dX10_script_75 : decode cX10_script 75 = .ok (.aload_n 0, 1) := by decide +kernel
theorem dX10_script_76 : decode cX10_script 76 = .ok (.getfield 35, 3) := by decide +kernel
theorem dX10_script_79 : decode cX10_script 79 = .ok (.iconst 0, 1) := by decide +kernel
theorem dX10_script_80 : decode cX10_script 80 = .ok (.aload_n 0, 1) := by decide +kernel
theorem dX10_script_81 : decode cX10_script 81 = .ok (.getfield 98, 3) := by decide +kernel
theorem dX10_script_84 : decode cX10_script 84 = .ok (.iconst 0, 1) := by decide +kernel
theorem dX10_script_85 : decode cX10_script 85 = .ok (.invokestatic 244, 3) := by decide +kernel
theorem dX10_script_88 : decode cX10_script 88 = .ok (.iconst 0, 1) := by decide +kernel
theorem dX10_script_89 : decode cX10_script 89 = .ok (.istore_n 3, 1) := by decide +kernel
theorem dX10_script_90 : decode cX10_script 90 = .ok (.iload_n 3, 1) := by decide +kernel
theorem dX10_script_91 : decode cX10_script 91 = .ok (.aload_n 0, 1) := by decide +kernel
theorem dX10_script_92 : decode cX10_script 92 = .ok (.getfield 380, 3) := by decide +kernel
theorem dX10_script_95 : decode cX10_script 95 = .ok (.if_icmp .ge 35, 3) := by decide +kernel
theorem dX10_script_98 : decode cX10_script 98 = .ok (.aload_n 0, 1) := by decide +kernel
theorem dX10_script_99 : decode cX10_script 99 = .ok (.iload_n 3, 1) := by decide +kernel
theorem dX10_script_100 : decode cX10_script 100 = .ok (.invokevirtual 407, 3) := by decide +kernel
theorem dX10_script_103 : decode cX10_script 103 = .ok (.ifCond .ne 21, 3) := by decide +kernel
theorem dX10_script_106 : decode cX10_script 106 = .ok (.aload_n 0, 1) := by decide +kernel
theorem dX10_script_107 : decode cX10_script 107 = .ok (.getfield 98, 3) := by decide +kernel
theorem dX10_script_110 : decode cX10_script 110 = .ok (.iconst 0, 1) := by decide +kernel
theorem dX10_script_111 : decode cX10_script 111 = .ok (.aload_n 0, 1) := by decide +kernel
theorem dX10_script_112 : decode cX10_script 112 = .ok (.getfield 35, 3) := by decide +kernel
theorem dX10_script_115 : decode cX10_script 115 = .ok (.iconst 0, 1) := by decide +kernel
theorem dX10_script_116 : decode cX10_script 116 = .ok (.invokestatic 244, 3) := by decide +kernel
theorem dX10_script_119 : decode cX10_script 119 = .ok (.bipush (-20), 2) := by decide +kernel
theorem dX10_script_121 : decode cX10_script 121 = .ok (.iload_n 3, 1) := by decide +kernel
theorem dX10_script_122 : decode cX10_script 122 = .ok (.isub, 1) := by decide +kernel
theorem dX10_script_123 : decode cX10_script 123 = .ok (.ireturn, 1) := by decide +kernel
theorem dX10_script_124 : decode cX10_script 124 = .ok (.iinc 3 1, 3) := by decide +kernel
theorem dX10_script_127 : decode cX10_script 127 = .ok (.goto (-37), 3) := by decide +kernel
theorem dX10_script_130 : decode cX10_script 130 = .ok (.aload_n 0, 1) := by decide +kernel
theorem dX10_script_131 : decode cX10_script 131 = .ok (.aload_n 0, 1) := by decide +kernel
theorem dX10_script_132 : decode cX10_script 132 = .ok (.getfield 98, 3) := by decide +kernel
theorem dX10_script_135 : decode cX10_script 135 = .ok (.invokevirtual 410, 3) := by decide +kernel
theorem dX10_script_138 : decode cX10_script 138 = .ok (.aload_n 0, 1) := by decide +kernel
theorem dX10_script_139 : decode cX10_script 139 = .ok (.getfield 380, 3) := by decide +kernel
theorem dX10_script_142 : decode cX10_script 142 = .ok (.ireturn, 1) := by decide +kernel
theorem dX10_copies_0 : decode cX10_copies 0 = .ok (.iconst 0, 1) := by decide +kernel
theorem dX10_copies_1 : decode cX10_copies 1 = .ok (.istore 4, 2) := by decide +kernel
theorem dX10_copies_3 : decode cX10_copies 3 = .ok (.iload 4, 2) := by decide +kernel
theorem dX10_copies_5 : decode cX10_copies 5 = .ok (.sipush 254, 3) := by decide +kernel
theorem dX10_copies_8 : decode cX10_copies 8 = .ok (.if_icmp .ge 21, 3) := by decide +kernel
theorem dX10_copies_11 : decode cX10_copies 11 = .ok (.aload_n 2, 1) := by decide +kernel
theorem dX10_copies_12 : decode cX10_copies 12 = .ok (.iload_n 3, 1) := by decide +kernel
theorem dX10_copies_13 : decode cX10_copies 13 = .ok (.iload 4, 2) := by decide +kernel
theorem dX10_copies_15 : decode cX10_copies 15 = .ok (.iadd, 1) := by decide +kernel
theorem dX10_copies_16 : decode cX10_copies 16 = .ok (.aload_n 0, 1) := by decide +kernel
theorem dX10_copies_17 : decode cX10_copies 17 = .ok (.iload_n 1, 1) := by decide +kernel
theorem dX10_copies_18 : decode cX10_copies 18 = .ok (.iload 4, 2) := by decide +kernel
theorem dX10_copies_20 : decode cX10_copies 20 = .ok (.iadd, 1) := by decide +kernel
theorem dX10_copies_21 : decode cX10_copies 21 = .ok (.iaload, 1) := by decide +kernel
theorem dX10_copies_22 : decode cX10_copies 22 = .ok (.iastore, 1) := by decide +kernel
theorem dX10_copies_23 : decode cX10_copies 23 = .ok (.iinc 4 1, 3) := by decide +kernel
theorem dX10_copies_26 : decode cX10_copies 26 = .ok (.goto (-23), 3) := by decide +kernel
theorem dX10_copies_29 : decode cX10_copies 29 = .ok (.return_, 1) := by decide +kernel
theorem dX10_keepsRow_0 : decode cX10_keepsRow 0 = .ok (.aload_n 0, 1) := by decide +kernel
theorem dX10_keepsRow_1 : decode cX10_keepsRow 1 = .ok (.getfield 251, 3) := by decide +kernel
theorem dX10_keepsRow_4 : decode cX10_keepsRow 4 = .ok (.bipush 10, 2) := by decide +kernel
theorem dX10_keepsRow_6 : decode cX10_keepsRow 6 = .ok (.if_icmp .ne 52, 3) := by decide +kernel
theorem dX10_keepsRow_9 : decode cX10_keepsRow 9 = .ok (.aload_n 0, 1) := by decide +kernel
theorem dX10_keepsRow_10 : decode cX10_keepsRow 10 = .ok (.dup, 1) := by decide +kernel
theorem dX10_keepsRow_11 : decode cX10_keepsRow 11 = .ok (.getfield 251, 3) := by decide +kernel
theorem dX10_keepsRow_14 : decode cX10_keepsRow 14 = .ok (.iconst 1, 1) := by decide +kernel
theorem dX10_keepsRow_15 : decode cX10_keepsRow 15 = .ok (.isub, 1) := by decide +kernel
theorem dX10_keepsRow_16 : decode cX10_keepsRow 16 = .ok (.putfield 251, 3) := by decide +kernel
theorem dX10_keepsRow_19 : decode cX10_keepsRow 19 = .ok (.iconst 0, 1) := by decide +kernel
theorem dX10_keepsRow_20 : decode cX10_keepsRow 20 = .ok (.istore_n 2, 1) := by decide +kernel
theorem dX10_keepsRow_21 : decode cX10_keepsRow 21 = .ok (.iload_n 2, 1) := by decide +kernel
theorem dX10_keepsRow_22 : decode cX10_keepsRow 22 = .ok (.aload_n 0, 1) := by decide +kernel
theorem dX10_keepsRow_23 : decode cX10_keepsRow 23 = .ok (.getfield 251, 3) := by decide +kernel
theorem dX10_keepsRow_26 : decode cX10_keepsRow 26 = .ok (.if_icmp .ge 32, 3) := by decide +kernel
theorem dX10_keepsRow_29 : decode cX10_keepsRow 29 = .ok (.aload_n 0, 1) := by decide +kernel
theorem dX10_keepsRow_30 : decode cX10_keepsRow 30 = .ok (.getfield 101, 3) := by decide +kernel
theorem dX10_keepsRow_33 : decode cX10_keepsRow 33 = .ok (.sipush 254, 3) := by decide +kernel
theorem dX10_keepsRow_36 : decode cX10_keepsRow 36 = .ok (.iload_n 2, 1) := by decide +kernel
theorem dX10_keepsRow_37 : decode cX10_keepsRow 37 = .ok (.iconst 1, 1) := by decide +kernel
theorem dX10_keepsRow_38 : decode cX10_keepsRow 38 = .ok (.iadd, 1) := by decide +kernel
theorem dX10_keepsRow_39 : decode cX10_keepsRow 39 = .ok (.imul, 1) := by decide +kernel
theorem dX10_keepsRow_40 : decode cX10_keepsRow 40 = .ok (.aload_n 0, 1) := by decide +kernel
theorem dX10_keepsRow_41 : decode cX10_keepsRow 41 = .ok (.getfield 101, 3) := by decide +kernel
theorem dX10_keepsRow_44 : decode cX10_keepsRow 44 = .ok (.sipush 254, 3) := by decide +kernel
theorem dX10_keepsRow_47 : decode cX10_keepsRow 47 = .ok (.iload_n 2, 1) := by decide +kernel
theorem dX10_keepsRow_48 : decode cX10_keepsRow 48 = .ok (.imul, 1) := by decide +kernel
theorem dX10_keepsRow_49 : decode cX10_keepsRow 49 = .ok (.invokestatic 244, 3) := by decide +kernel
theorem dX10_keepsRow_52 : decode cX10_keepsRow 52 = .ok (.iinc 2 1, 3) := by decide +kernel
theorem dX10_keepsRow_55 : decode cX10_keepsRow 55 = .ok (.goto (-34), 3) := by decide +kernel
theorem dX10_keepsRow_58 : decode cX10_keepsRow 58 = .ok (.aload_n 1, 1) := by decide +kernel
theorem dX10_keepsRow_59 : decode cX10_keepsRow 59 = .ok (.iconst 0, 1) := by decide +kernel
theorem dX10_keepsRow_60 : decode cX10_keepsRow 60 = .ok (.aload_n 0, 1) := by decide +kernel
theorem dX10_keepsRow_61 : decode cX10_keepsRow 61 = .ok (.getfield 101, 3) := by decide +kernel
theorem dX10_keepsRow_64 : decode cX10_keepsRow 64 = .ok (.sipush 254, 3) := by decide +kernel
theorem dX10_keepsRow_67 : decode cX10_keepsRow 67 = .ok (.aload_n 0, 1) := by decide +kernel
theorem dX10_keepsRow_68 : decode cX10_keepsRow 68 = .ok (.getfield 251, 3) := by decide +kernel
theorem dX10_keepsRow_71 : decode cX10_keepsRow 71 = .ok (.imul, 1) := by decide +kernel
theorem dX10_keepsRow_72 : decode cX10_keepsRow 72 = .ok (.invokestatic 244, 3) := by decide +kernel
theorem dX10_keepsRow_75 : decode cX10_keepsRow 75 = .ok (.aload_n 0, 1) := by decide +kernel
theorem dX10_keepsRow_76 : decode cX10_keepsRow 76 = .ok (.dup, 1) := by decide +kernel
theorem dX10_keepsRow_77 : decode cX10_keepsRow 77 = .ok (.getfield 251, 3) := by decide +kernel
theorem dX10_keepsRow_80 : decode cX10_keepsRow 80 = .ok (.iconst 1, 1) := by decide +kernel
theorem dX10_keepsRow_81 : decode cX10_keepsRow 81 = .ok (.iadd, 1) := by decide +kernel
theorem dX10_keepsRow_82 : decode cX10_keepsRow 82 = .ok (.putfield 251, 3) := by decide +kernel
theorem dX10_keepsRow_85 : decode cX10_keepsRow 85 = .ok (.return_, 1) := by decide +kernel
theorem dX10_keeps_0 : decode cX10_keeps 0 = .ok (.aload_n 0, 1) := by decide +kernel
theorem dX10_keeps_1 : decode cX10_keeps 1 = .ok (.aload_n 0, 1) := by decide +kernel
theorem dX10_keeps_2 : decode cX10_keeps 2 = .ok (.getfield 35, 3) := by decide +kernel
theorem dX10_keeps_5 : decode cX10_keeps 5 = .ok (.invokevirtual 410, 3) := by decide +kernel
theorem dX10_keeps_8 : decode cX10_keeps 8 = .ok (.return_, 1) := by decide +kernel
theorem dX10_undo_0 : decode cX10_undo 0 = .ok (.aload_n 0, 1) := by decide +kernel
theorem dX10_undo_1 : decode cX10_undo 1 = .ok (.iconst 0, 1) := by decide +kernel
theorem dX10_undo_2 : decode cX10_undo 2 = .ok (.putfield 117, 3) := by decide +kernel
theorem dX10_undo_5 : decode cX10_undo 5 = .ok (.aload_n 0, 1) := by decide +kernel
theorem dX10_undo_6 : decode cX10_undo 6 = .ok (.getfield 251, 3) := by decide +kernel
theorem dX10_undo_9 : decode cX10_undo 9 = .ok (.ifCond .ne 5, 3) := by decide +kernel
theorem dX10_undo_12 : decode cX10_undo 12 = .ok (.iconst (-1), 1) := by decide +kernel
theorem dX10_undo_13 : decode cX10_undo 13 = .ok (.ireturn, 1) := by decide +kernel
theorem dX10_undo_14 : decode cX10_undo 14 = .ok (.aload_n 0, 1) := by decide +kernel
theorem dX10_undo_15 : decode cX10_undo 15 = .ok (.dup, 1) := by decide +kernel
theorem dX10_undo_16 : decode cX10_undo 16 = .ok (.getfield 251, 3) := by decide +kernel
theorem dX10_undo_19 : decode cX10_undo 19 = .ok (.iconst 1, 1) := by decide +kernel
theorem dX10_undo_20 : decode cX10_undo 20 = .ok (.isub, 1) := by decide +kernel
theorem dX10_undo_21 : decode cX10_undo 21 = .ok (.putfield 251, 3) := by decide +kernel
theorem dX10_undo_24 : decode cX10_undo 24 = .ok (.aload_n 0, 1) := by decide +kernel
theorem dX10_undo_25 : decode cX10_undo 25 = .ok (.getfield 101, 3) := by decide +kernel
theorem dX10_undo_28 : decode cX10_undo 28 = .ok (.sipush 254, 3) := by decide +kernel
theorem dX10_undo_31 : decode cX10_undo 31 = .ok (.aload_n 0, 1) := by decide +kernel
theorem dX10_undo_32 : decode cX10_undo 32 = .ok (.getfield 251, 3) := by decide +kernel
theorem dX10_undo_35 : decode cX10_undo 35 = .ok (.imul, 1) := by decide +kernel
theorem dX10_undo_36 : decode cX10_undo 36 = .ok (.aload_n 0, 1) := by decide +kernel
theorem dX10_undo_37 : decode cX10_undo 37 = .ok (.getfield 35, 3) := by decide +kernel
theorem dX10_undo_40 : decode cX10_undo 40 = .ok (.iconst 0, 1) := by decide +kernel
theorem dX10_undo_41 : decode cX10_undo 41 = .ok (.invokestatic 244, 3) := by decide +kernel
theorem dX10_undo_44 : decode cX10_undo 44 = .ok (.aload_n 0, 1) := by decide +kernel
theorem dX10_undo_45 : decode cX10_undo 45 = .ok (.getfield 251, 3) := by decide +kernel
theorem dX10_undo_48 : decode cX10_undo 48 = .ok (.ireturn, 1) := by decide +kernel
theorem dX10_noSlot_0 : decode cX10_noSlot 0 = .ok (.aload_n 0, 1) := by decide +kernel
theorem dX10_noSlot_1 : decode cX10_noSlot 1 = .ok (.iconst 0, 1) := by decide +kernel
theorem dX10_noSlot_2 : decode cX10_noSlot 2 = .ok (.putfield 117, 3) := by decide +kernel
theorem dX10_noSlot_5 : decode cX10_noSlot 5 = .ok (.aload_n 0, 1) := by decide +kernel
theorem dX10_noSlot_6 : decode cX10_noSlot 6 = .ok (.iload_n 1, 1) := by decide +kernel
theorem dX10_noSlot_7 : decode cX10_noSlot 7 = .ok (.iconst 0, 1) := by decide +kernel
theorem dX10_noSlot_8 : decode cX10_noSlot 8 = .ok (.iconst 1, 1) := by decide +kernel
theorem dX10_noSlot_9 : decode cX10_noSlot 9 = .ok (.invokestatic 130, 3) := by decide +kernel
theorem dX10_noSlot_12 : decode cX10_noSlot 12 = .ok (.ifCond .ne 7, 3) := by decide +kernel
theorem dX10_noSlot_15 : decode cX10_noSlot 15 = .ok (.iconst 1, 1) := by decide +kernel
theorem dX10_noSlot_16 : decode cX10_noSlot 16 = .ok (.goto 4, 3) := by decide +kernel
theorem dX10_noSlot_19 : decode cX10_noSlot 19 = .ok (.iconst 0, 1) := by decide +kernel
theorem dX10_noSlot_20 : decode cX10_noSlot 20 = .ok (.iconst 1, 1) := by decide +kernel
theorem dX10_noSlot_21 : decode cX10_noSlot 21 = .ok (.invokevirtual 227, 3) := by decide +kernel
theorem dX10_noSlot_24 : decode cX10_noSlot 24 = .ok (.ireturn, 1) := by decide +kernel
theorem dX10_saveSnapshot_0 : decode cX10_saveSnapshot 0 = .ok (.aload_n 0, 1) := by decide +kernel
theorem dX10_saveSnapshot_1 : decode cX10_saveSnapshot 1 = .ok (.iload_n 1, 1) := by decide +kernel
theorem dX10_saveSnapshot_2 : decode cX10_saveSnapshot 2 = .ok (.invokevirtual 413, 3) := by decide +kernel
theorem dX10_saveSnapshot_5 : decode cX10_saveSnapshot 5 = .ok (.ifCond .eq 5, 3) := by decide +kernel
theorem dX10_saveSnapshot_8 : decode cX10_saveSnapshot 8 = .ok (.iconst 0, 1) := by decide +kernel
theorem dX10_saveSnapshot_9 : decode cX10_saveSnapshot 9 = .ok (.ireturn, 1) := by decide +kernel
theorem dX10_saveSnapshot_10 : decode cX10_saveSnapshot 10 = .ok (.aload_n 0, 1) := by decide +kernel
theorem dX10_saveSnapshot_11 : decode cX10_saveSnapshot 11 = .ok (.getfield 107, 3) := by decide +kernel
theorem dX10_saveSnapshot_14 : decode cX10_saveSnapshot 14 = .ok (.iload_n 1, 1) := by decide +kernel
theorem dX10_saveSnapshot_15 : decode cX10_saveSnapshot 15 = .ok (.baload, 1) := by decide +kernel
theorem dX10_saveSnapshot_16 : decode cX10_saveSnapshot 16 = .ok (.istore_n 2, 1) := by decide +kernel
theorem dX10_saveSnapshot_17 : decode cX10_saveSnapshot 17 = .ok (.aload_n 0, 1) := by decide +kernel
theorem dX10_saveSnapshot_18 : decode cX10_saveSnapshot 18 = .ok (.getfield 35, 3) := by decide +kernel
theorem dX10_saveSnapshot_21 : decode cX10_saveSnapshot 21 = .ok (.iconst 0, 1) := by decide +kernel
theorem dX10_saveSnapshot_22 : decode cX10_saveSnapshot 22 = .ok (.aload_n 0, 1) := by decide +kernel
theorem dX10_saveSnapshot_23 : decode cX10_saveSnapshot 23 = .ok (.getfield 104, 3) := by decide +kernel
theorem dX10_saveSnapshot_26 : decode cX10_saveSnapshot 26 = .ok (.sipush 254, 3) := by decide +kernel
theorem dX10_saveSnapshot_29 : decode cX10_saveSnapshot 29 = .ok (.iload_n 1, 1) := by decide +kernel
theorem dX10_saveSnapshot_30 : decode cX10_saveSnapshot 30 = .ok (.imul, 1) := by decide +kernel
theorem dX10_saveSnapshot_31 : decode cX10_saveSnapshot 31 = .ok (.invokestatic 244, 3) := by decide +kernel
theorem dX10_saveSnapshot_34 : decode cX10_saveSnapshot 34 = .ok (.aload_n 0, 1) := by decide +kernel
theorem dX10_saveSnapshot_35 : decode cX10_saveSnapshot 35 = .ok (.getfield 107, 3) := by decide +kernel
theorem dX10_saveSnapshot_38 : decode cX10_saveSnapshot 38 = .ok (.iload_n 1, 1) := by decide +kernel
theorem dX10_saveSnapshot_39 : decode cX10_saveSnapshot 39 = .ok (.iconst 1, 1) := by decide +kernel
theorem dX10_saveSnapshot_40 : decode cX10_saveSnapshot 40 = .ok (.bastore, 1) := by decide +kernel
theorem dX10_saveSnapshot_41 : decode cX10_saveSnapshot 41 = .ok (.iload_n 2, 1) := by decide +kernel
theorem dX10_saveSnapshot_42 : decode cX10_saveSnapshot 42 = .ok (.ireturn, 1) := by decide +kernel
theorem dX10_restoreSnapshot_0 : decode cX10_restoreSnapshot 0 = .ok (.aload_n 0, 1) := by decide +kernel
