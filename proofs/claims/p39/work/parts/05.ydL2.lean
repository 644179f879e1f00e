theorem dL_cost_93 : decode cL_cost 93 = .ok (.iconst (-1), 1) := by decide +kernel
theorem dL_cost_94 : decode cL_cost 94 = .ok (.ireturn, 1) := by decide +kernel
theorem dL_cost_95 : decode cL_cost 95 = .ok (.aload_n 3, 1) := by decide +kernel
theorem dL_cost_96 : decode cL_cost 96 = .ok (.iconst 1, 1) := by decide +kernel
theorem dL_cost_97 : decode cL_cost 97 = .ok (.iaload, 1) := by decide +kernel
theorem dL_cost_98 : decode cL_cost 98 = .ok (.iload 11, 2) := by decide +kernel
theorem dL_cost_100 : decode cL_cost 100 = .ok (.isub, 1) := by decide +kernel
theorem dL_cost_101 : decode cL_cost 101 = .ok (.istore 16, 2) := by decide +kernel
theorem dL_cost_103 : decode cL_cost 103 = .ok (.iload 9, 2) := by decide +kernel
theorem dL_cost_105 : decode cL_cost 105 = .ok (.iload 16, 2) := by decide +kernel
theorem dL_cost_107 : decode cL_cost 107 = .ok (.ifCond .ge 13, 3) := by decide +kernel
theorem dL_cost_110 : decode cL_cost 110 = .ok (.iconst 4, 1) := by decide +kernel
theorem dL_cost_111 : decode cL_cost 111 = .ok (.iload 16, 2) := by decide +kernel
theorem dL_cost_113 : decode cL_cost 113 = .ok (.imul, 1) := by decide +kernel
theorem dL_cost_114 : decode cL_cost 114 = .ok (.iload 16, 2) := by decide +kernel
theorem dL_cost_116 : decode cL_cost 116 = .ok (.imul, 1) := by decide +kernel
theorem dL_cost_117 : decode cL_cost 117 = .ok (.goto 21, 3) := by decide +kernel
theorem dL_cost_120 : decode cL_cost 120 = .ok (.iload 15, 2) := by decide +kernel
theorem dL_cost_122 : decode cL_cost 122 = .ok (.iload 6, 2) := by decide +kernel
theorem dL_cost_124 : decode cL_cost 124 = .ok (.iconst 1, 1) := by decide +kernel
theorem dL_cost_125 : decode cL_cost 125 = .ok (.isub, 1) := by decide +kernel
theorem dL_cost_126 : decode cL_cost 126 = .ok (.if_icmp .ne 7, 3) := by decide +kernel
theorem dL_cost_129 : decode cL_cost 129 = .ok (.iconst 0, 1) := by decide +kernel
theorem dL_cost_130 : decode cL_cost 130 = .ok (.goto 8, 3) := by decide +kernel
theorem dL_cost_133 : decode cL_cost 133 = .ok (.iload 16, 2) := by decide +kernel
theorem dL_cost_135 : decode cL_cost 135 = .ok (.iload 16, 2) := by decide +kernel
theorem dL_cost_137 : decode cL_cost 137 = .ok (.imul, 1) := by decide +kernel
theorem dL_cost_138 : decode cL_cost 138 = .ok (.iadd, 1) := by decide +kernel
theorem dL_cost_139 : decode cL_cost 139 = .ok (.istore 9, 2) := by decide +kernel
theorem dL_cost_141 : decode cL_cost 141 = .ok (.iinc 14 1, 3) := by decide +kernel
theorem dL_cost_144 : decode cL_cost 144 = .ok (.iload 10, 2) := by decide +kernel
theorem dL_cost_146 : decode cL_cost 146 = .ok (.iload 14, 2) := by decide +kernel
theorem dL_cost_148 : decode cL_cost 148 = .ok (.aload_n 3, 1) := by decide +kernel
theorem dL_cost_149 : decode cL_cost 149 = .ok (.iconst 2, 1) := by decide +kernel
theorem dL_cost_150 : decode cL_cost 150 = .ok (.iaload, 1) := by decide +kernel
theorem dL_cost_151 : decode cL_cost 151 = .ok (.irem, 1) := by decide +kernel
theorem dL_cost_152 : decode cL_cost 152 = .ok (.ifCond .ne 33, 3) := by decide +kernel
theorem dL_cost_155 : decode cL_cost 155 = .ok (.iload 15, 2) := by decide +kernel
theorem dL_cost_157 : decode cL_cost 157 = .ok (.iload 6, 2) := by decide +kernel
theorem dL_cost_159 : decode cL_cost 159 = .ok (.iconst 1, 1) := by decide +kernel
theorem dL_cost_160 : decode cL_cost 160 = .ok (.isub, 1) := by decide +kernel
theorem dL_cost_161 : decode cL_cost 161 = .ok (.if_icmp .ge 24, 3) := by decide +kernel
theorem dL_cost_164 : decode cL_cost 164 = .ok (.aload_n 0, 1) := by decide +kernel
theorem dL_cost_165 : decode cL_cost 165 = .ok (.aload_n 1, 1) := by decide +kernel
theorem dL_cost_166 : decode cL_cost 166 = .ok (.aload_n 2, 1) := by decide +kernel
theorem dL_cost_167 : decode cL_cost 167 = .ok (.aload_n 3, 1) := by decide +kernel
theorem dL_cost_168 : decode cL_cost 168 = .ok (.iload 4, 2) := by decide +kernel
theorem dL_cost_170 : decode cL_cost 170 = .ok (.aload 5, 2) := by decide +kernel
theorem dL_cost_172 : decode cL_cost 172 = .ok (.iconst 5, 1) := by decide +kernel
theorem dL_cost_173 : decode cL_cost 173 = .ok (.iload 15, 2) := by decide +kernel
theorem dL_cost_175 : decode cL_cost 175 = .ok (.imul, 1) := by decide +kernel
theorem dL_cost_176 : decode cL_cost 176 = .ok (.iconst 1, 1) := by decide +kernel
theorem dL_cost_177 : decode cL_cost 177 = .ok (.iadd, 1) := by decide +kernel
theorem dL_cost_178 : decode cL_cost 178 = .ok (.iaload, 1) := by decide +kernel
theorem dL_cost_179 : decode cL_cost 179 = .ok (.invokestatic 48, 3) := by decide +kernel
theorem dL_cost_182 : decode cL_cost 182 = .ok (.goto 4, 3) := by decide +kernel
theorem dL_cost_185 : decode cL_cost 185 = .ok (.iconst 0, 1) := by decide +kernel
theorem dL_cost_186 : decode cL_cost 186 = .ok (.iadd, 1) := by decide +kernel
theorem dL_cost_187 : decode cL_cost 187 = .ok (.istore 10, 2) := by decide +kernel
theorem dL_cost_189 : decode cL_cost 189 = .ok (.iconst 0, 1) := by decide +kernel
theorem dL_cost_190 : decode cL_cost 190 = .ok (.istore 11, 2) := by decide +kernel
theorem dL_cost_192 : decode cL_cost 192 = .ok (.iconst 0, 1) := by decide +kernel
theorem dL_cost_193 : decode cL_cost 193 = .ok (.istore 12, 2) := by decide +kernel
theorem dL_cost_195 : decode cL_cost 195 = .ok (.iconst 0, 1) := by decide +kernel
theorem dL_cost_196 : decode cL_cost 196 = .ok (.istore 13, 2) := by decide +kernel
theorem dL_cost_198 : decode cL_cost 198 = .ok (.iinc 15 1, 3) := by decide +kernel
theorem dL_cost_201 : decode cL_cost 201 = .ok (.goto (-180), 3) := by decide +kernel
theorem dL_cost_204 : decode cL_cost 204 = .ok (.iload 8, 2) := by decide +kernel
theorem dL_cost_206 : decode cL_cost 206 = .ok (.ifCond .eq 8, 3) := by decide +kernel
theorem dL_cost_209 : decode cL_cost 209 = .ok (.iload 10, 2) := by decide +kernel
theorem dL_cost_211 : decode cL_cost 211 = .ok (.goto 8, 3) := by decide +kernel
theorem dL_cost_214 : decode cL_cost 214 = .ok (.iload 9, 2) := by decide +kernel
theorem dL_cost_216 : decode cL_cost 216 = .ok (.iload 10, 2) := by decide +kernel
theorem dL_cost_218 : decode cL_cost 218 = .ok (.iadd, 1) := by decide +kernel
theorem dL_cost_219 : decode cL_cost 219 = .ok (.ireturn, 1) := by decide +kernel
theorem dL_lines_0 : decode cL_lines 0 = .ok (.iload_n 0, 1) := by decide +kernel
theorem dL_lines_1 : decode cL_lines 1 = .ok (.ifCond .ne 7, 3) := by decide +kernel
theorem dL_lines_4 : decode cL_lines 4 = .ok (.iconst 0, 1) := by decide +kernel
theorem dL_lines_5 : decode cL_lines 5 = .ok (.goto 4, 3) := by decide +kernel
theorem dL_lines_8 : decode cL_lines 8 = .ok (.iconst 1, 1) := by decide +kernel
theorem dL_lines_9 : decode cL_lines 9 = .ok (.istore_n 2, 1) := by decide +kernel
theorem dL_lines_10 : decode cL_lines 10 = .ok (.iconst 0, 1) := by decide +kernel
theorem dL_lines_11 : decode cL_lines 11 = .ok (.istore_n 3, 1) := by decide +kernel
theorem dL_lines_12 : decode cL_lines 12 = .ok (.iload_n 3, 1) := by decide +kernel
theorem dL_lines_13 : decode cL_lines 13 = .ok (.iconst 1, 1) := by decide +kernel
theorem dL_lines_14 : decode cL_lines 14 = .ok (.iadd, 1) := by decide +kernel
theorem dL_lines_15 : decode cL_lines 15 = .ok (.iload_n 0, 1) := by decide +kernel
theorem dL_lines_16 : decode cL_lines 16 = .ok (.if_icmp .ge 17, 3) := by decide +kernel
theorem dL_lines_19 : decode cL_lines 19 = .ok (.iload_n 2, 1) := by decide +kernel
theorem dL_lines_20 : decode cL_lines 20 = .ok (.iload_n 1, 1) := by decide +kernel
theorem dL_lines_21 : decode cL_lines 21 = .ok (.iload_n 3, 1) := by decide +kernel
theorem dL_lines_22 : decode cL_lines 22 = .ok (.ishr, 1) := by decide +kernel
theorem dL_lines_23 : decode cL_lines 23 = .ok (.iconst 1, 1) := by decide +kernel
theorem dL_lines_24 : decode cL_lines 24 = .ok (.iand, 1) := by decide +kernel
theorem dL_lines_25 : decode cL_lines 25 = .ok (.iadd, 1) := by decide +kernel
theorem dL_lines_26 : decode cL_lines 26 = .ok (.istore_n 2, 1) := by decide +kernel
theorem dL_lines_27 : decode cL_lines 27 = .ok (.iinc 3 1, 3) := by decide +kernel
theorem dL_lines_30 : decode cL_lines 30 = .ok (.goto (-18), 3) := by decide +kernel
theorem dL_lines_33 : decode cL_lines 33 = .ok (.iload_n 2, 1) := by decide +kernel
theorem dL_lines_34 : decode cL_lines 34 = .ok (.ireturn, 1) := by decide +kernel
theorem dL_best_0 : decode cL_best 0 = .ok (.iconst (-1), 1) := by decide +kernel
theorem dL_best_1 : decode cL_best 1 = .ok (.istore 7, 2) := by decide +kernel
theorem dL_best_3 : decode cL_best 3 = .ok (.iconst 0, 1) := by decide +kernel
theorem dL_best_4 : decode cL_best 4 = .ok (.istore 8, 2) := by decide +kernel
theorem dL_best_6 : decode cL_best 6 = .ok (.iconst 0, 1) := by decide +kernel
theorem dL_best_7 : decode cL_best 7 = .ok (.istore 9, 2) := by decide +kernel
theorem dL_best_9 : decode cL_best 9 = .ok (.iload 9, 2) := by decide +kernel
theorem dL_best_11 : decode cL_best 11 = .ok (.iconst 1, 1) := by decide +kernel
theorem dL_best_12 : decode cL_best 12 = .ok (.iload 6, 2) := by decide +kernel
theorem dL_best_14 : decode cL_best 14 = .ok (.ifCond .le 10, 3) := by decide +kernel
theorem dL_best_17 : decode cL_best 17 = .ok (.iload 6, 2) := by decide +kernel
theorem dL_best_19 : decode cL_best 19 = .ok (.iconst 1, 1) := by decide +kernel
theorem dL_best_20 : decode cL_best 20 = .ok (.isub, 1) := by decide +kernel
theorem dL_best_21 : decode cL_best 21 = .ok (.goto 4, 3) := by decide +kernel
theorem dL_best_24 : decode cL_best 24 = .ok (.iconst 0, 1) := by decide +kernel
theorem dL_best_25 : decode cL_best 25 = .ok (.ishl, 1) := by decide +kernel
theorem dL_best_26 : decode cL_best 26 = .ok (.if_icmp .ge 127, 3) := by decide +kernel
theorem dL_best_29 : decode cL_best 29 = .ok (.aload_n 0, 1) := by decide +kernel
theorem dL_best_30 : decode cL_best 30 = .ok (.aload_n 1, 1) := by decide +kernel
theorem dL_best_31 : decode cL_best 31 = .ok (.aload_n 2, 1) := by decide +kernel
theorem dL_best_32 : decode cL_best 32 = .ok (.aload_n 3, 1) := by decide +kernel
theorem dL_best_33 : decode cL_best 33 = .ok (.iload 4, 2) := by decide +kernel
theorem dL_best_35 : decode cL_best 35 = .ok (.aload 5, 2) := by decide +kernel
theorem dL_best_37 : decode cL_best 37 = .ok (.iload 6, 2) := by decide +kernel
theorem dL_best_39 : decode cL_best 39 = .ok (.iload 9, 2) := by decide +kernel
theorem dL_best_41 : decode cL_best 41 = .ok (.iconst 0, 1) := by decide +kernel
theorem dL_best_42 : decode cL_best 42 = .ok (.invokestatic 52, 3) := by decide +kernel
theorem dL_best_45 : decode cL_best 45 = .ok (.istore 10, 2) := by decide +kernel
theorem dL_best_47 : decode cL_best 47 = .ok (.iload 7, 2) := by decide +kernel
theorem dL_best_49 : decode cL_best 49 = .ok (.ifCond .lt 58, 3) := by decide +kernel
theorem dL_best_52 : decode cL_best 52 = .ok (.iload 6, 2) := by decide +kernel
theorem dL_best_54 : decode cL_best 54 = .ok (.iload 9, 2) := by decide +kernel
theorem dL_best_56 : decode cL_best 56 = .ok (.invokestatic 56, 3) := by decide +kernel
theorem dL_best_59 : decode cL_best 59 = .ok (.iload 6, 2) := by decide +kernel
theorem dL_best_61 : decode cL_best 61 = .ok (.iload 7, 2) := by decide +kernel
theorem dL_best_63 : decode cL_best 63 = .ok (.invokestatic 56, 3) := by decide +kernel
theorem dL_best_66 : decode cL_best 66 = .ok (.if_icmp .lt 37, 3) := by decide +kernel
theorem dL_best_69 : decode cL_best 69 = .ok (.iload 6, 2) := by decide +kernel
theorem dL_best_71 : decode cL_best 71 = .ok (.iload 9, 2) := by decide +kernel
theorem dL_best_73 : decode cL_best 73 = .ok (.invokestatic 56, 3) := by decide +kernel
theorem dL_best_76 : decode cL_best 76 = .ok (.iload 6, 2) := by decide +kernel
theorem dL_best_78 : decode cL_best 78 = .ok (.iload 7, 2) := by decide +kernel
theorem dL_best_80 : decode cL_best 80 = .ok (.invokestatic 56, 3) := by decide +kernel
theorem dL_best_83 : decode cL_best 83 = .ok (.if_icmp .ne 24, 3) := by decide +kernel
theorem dL_best_86 : decode cL_best 86 = .ok (.iload 6, 2) := by decide +kernel
theorem dL_best_88 : decode cL_best 88 = .ok (.iload 9, 2) := by decide +kernel
theorem dL_best_90 : decode cL_best 90 = .ok (.invokestatic 60, 3) := by decide +kernel
theorem dL_best_93 : decode cL_best 93 = .ok (.iload 6, 2) := by decide +kernel
theorem dL_best_95 : decode cL_best 95 = .ok (.iload 7, 2) := by decide +kernel
theorem dL_best_97 : decode cL_best 97 = .ok (.invokestatic 60, 3) := by decide +kernel
theorem dL_best_100 : decode cL_best 100 = .ok (.if_icmp .ge 7, 3) := by decide +kernel
theorem dL_best_103 : decode cL_best 103 = .ok (.iconst 1, 1) := by decide +kernel
theorem dL_best_104 : decode cL_best 104 = .ok (.goto 4, 3) := by decide +kernel
theorem dL_best_107 : decode cL_best 107 = .ok (.iconst 0, 1) := by decide +kernel
theorem dL_best_108 : decode cL_best 108 = .ok (.istore 11, 2) := by decide +kernel
theorem dL_best_110 : decode cL_best 110 = .ok (.iload 10, 2) := by decide +kernel
theorem dL_best_112 : decode cL_best 112 = .ok (.ifCond .lt 35, 3) := by decide +kernel
theorem dL_best_115 : decode cL_best 115 = .ok (.iload 7, 2) := by decide +kernel
theorem dL_best_117 : decode cL_best 117 = .ok (.ifCond .lt 22, 3) := by decide +kernel
theorem dL_best_120 : decode cL_best 120 = .ok (.iload 10, 2) := by decide +kernel
theorem dL_best_122 : decode cL_best 122 = .ok (.iload 8, 2) := by decide +kernel
theorem dL_best_124 : decode cL_best 124 = .ok (.if_icmp .lt 15, 3) := by decide +kernel
theorem dL_best_127 : decode cL_best 127 = .ok (.iload 10, 2) := by decide +kernel
theorem dL_best_129 : decode cL_best 129 = .ok (.iload 8, 2) := by decide +kernel
theorem dL_best_131 : decode cL_best 131 = .ok (.if_icmp .ne 16, 3) := by decide +kernel
theorem dL_best_134 : decode cL_best 134 = .ok (.iload 11, 2) := by decide +kernel
theorem dL_best_136 : decode cL_best 136 = .ok (.ifCond .eq 11, 3) := by decide +kernel
theorem dL_best_139 : decode cL_best 139 = .ok (.iload 9, 2) := by decide +kernel
theorem dL_best_141 : decode cL_best 141 = .ok (.istore 7, 2) := by decide +kernel
theorem dL_best_143 : decode cL_best 143 = .ok (.iload 10, 2) := by decide +kernel
theorem dL_best_145 : decode cL_best 145 = .ok (.istore 8, 2) := by decide +kernel
theorem dL_best_147 : decode cL_best 147 = .ok (.iinc 9 1, 3) := by decide +kernel
theorem dL_best_150 : decode cL_best 150 = .ok (.goto (-141), 3) := by decide +kernel
theorem dL_best_153 : decode cL_best 153 = .ok (.iload 7, 2) := by decide +kernel
theorem dL_best_155 : decode cL_best 155 = .ok (.ireturn, 1) := by decide +kernel
theorem dL_row_0 : decode cL_row 0 = .ok (.iconst 0, 1) := by decide +kernel
theorem dL_row_1 : decode cL_row 1 = .ok (.istore_n 2, 1) := by decide +kernel
theorem dL_row_2 : decode cL_row 2 = .ok (.iconst 0, 1) := by decide +kernel
theorem dL_row_3 : decode cL_row 3 = .ok (.istore_n 3, 1) := by decide +kernel
theorem dL_row_4 : decode cL_row 4 = .ok (.iconst 0, 1) := by decide +kernel
theorem dL_row_5 : decode cL_row 5 = .ok (.istore 4, 2) := by decide +kernel
theorem dL_row_7 : decode cL_row 7 = .ok (.iload 4, 2) := by decide +kernel
theorem dL_row_9 : decode cL_row 9 = .ok (.iload_n 0, 1) := by decide +kernel
theorem dL_row_10 : decode cL_row 10 = .ok (.if_icmp .ge 39, 3) := by decide +kernel
theorem dL_row_13 : decode cL_row 13 = .ok (.iinc 3 1, 3) := by decide +kernel
theorem dL_row_16 : decode cL_row 16 = .ok (.iload 4, 2) := by decide +kernel
theorem dL_row_18 : decode cL_row 18 = .ok (.iload_n 0, 1) := by decide +kernel
theorem dL_row_19 : decode cL_row 19 = .ok (.iconst 1, 1) := by decide +kernel
theorem dL_row_20 : decode cL_row 20 = .ok (.isub, 1) := by decide +kernel
theorem dL_row_21 : decode cL_row 21 = .ok (.if_icmp .eq 13, 3) := by decide +kernel
theorem dL_row_24 : decode cL_row 24 = .ok (.iload_n 1, 1) := by decide +kernel
theorem dL_row_25 : decode cL_row 25 = .ok (.iload 4, 2) := by decide +kernel
theorem dL_row_27 : decode cL_row 27 = .ok (.ishr, 1) := by decide +kernel
theorem dL_row_28 : decode cL_row 28 = .ok (.iconst 1, 1) := by decide +kernel
theorem dL_row_29 : decode cL_row 29 = .ok (.iand, 1) := by decide +kernel
theorem dL_row_30 : decode cL_row 30 = .ok (.iconst 1, 1) := by decide +kernel
theorem dL_row_31 : decode cL_row 31 = .ok (.if_icmp .ne 12, 3) := by decide +kernel
theorem dL_row_34 : decode cL_row 34 = .ok (.bipush 7, 2) := by decide +kernel
theorem dL_row_36 : decode cL_row 36 = .ok (.iload_n 2, 1) := by decide +kernel
theorem dL_row_37 : decode cL_row 37 = .ok (.imul, 1) := by decide +kernel
theorem dL_row_38 : decode cL_row 38 = .ok (.iload_n 3, 1) := by decide +kernel
theorem dL_row_39 : decode cL_row 39 = .ok (.iadd, 1) := by decide +kernel
theorem dL_row_40 : decode cL_row 40 = .ok (.istore_n 2, 1) := by decide +kernel
theorem dL_row_41 : decode cL_row 41 = .ok (.iconst 0, 1) := by decide +kernel
theorem dL_row_42 : decode cL_row 42 = .ok (.istore_n 3, 1) := by decide +kernel
theorem dL_row_43 : decode cL_row 43 = .ok (.iinc 4 1, 3) := by decide +kernel
theorem dL_row_46 : decode cL_row 46 = .ok (.goto (-39), 3) := by decide +kernel
theorem dL_row_49 : decode cL_row 49 = .ok (.iload_n 2, 1) := by decide +kernel
theorem dL_row_50 : decode cL_row 50 = .ok (.ireturn, 1) := by decide +kernel
theorem dL_place_0 : decode cL_place 0 = .ok (.aload_n 0, 1) := by decide +kernel
theorem dL_place_1 : decode cL_place 1 = .ok (.iload_n 1, 1) := by decide +kernel
theorem dL_place_2 : decode cL_place 2 = .ok (.iload_n 2, 1) := by decide +kernel
theorem dL_place_3 : decode cL_place 3 = .ok (.iload_n 3, 1) := by decide +kernel
theorem dL_place_4 : decode cL_place 4 = .ok (.invokevirtual 63, 3) := by decide +kernel
theorem dL_place_7 : decode cL_place 7 = .ok (.ireturn, 1) := by decide +kernel
theorem dL_place_8 : decode cL_place 8 = .ok (.astore 4, 2) := by decide +kernel
theorem dL_place_10 : decode cL_place 10 = .ok (.bipush (-9), 2) := by decide +kernel
theorem dL_place_12 : decode cL_place 12 = .ok (.ireturn, 1) := by decide +kernel
theorem dL_isLine_0 : decode cL_isLine 0 = .ok (.iload 9, 2) := by decide +kernel
theorem dL_isLine_2 : decode cL_isLine 2 = .ok (.istore 10, 2) := by decide +kernel
theorem dL_isLine_4 : decode cL_isLine 4 = .ok (.iload 9, 2) := by decide +kernel
theorem dL_isLine_6 : decode cL_isLine 6 = .ok (.istore 11, 2) := by decide +kernel
theorem dL_isLine_8 : decode cL_isLine 8 = .ok (.iconst 0, 1) := by decide +kernel
theorem dL_isLine_9 : decode cL_isLine 9 = .ok (.istore 12, 2) := by decide +kernel
theorem dL_isLine_11 : decode cL_isLine 11 = .ok (.iconst 0, 1) := by decide +kernel
theorem dL_isLine_12 : decode cL_isLine 12 = .ok (.istore 13, 2) := by decide +kernel
theorem dL_isLine_14 : decode cL_isLine 14 = .ok (.iload 10, 2) := by decide +kernel
theorem dL_isLine_16 : decode cL_isLine 16 = .ok (.ifCond .le 21, 3) := by decide +kernel
theorem dL_isLine_19 : decode cL_isLine 19 = .ok (.iload 8, 2) := by decide +kernel
theorem dL_isLine_21 : decode cL_isLine 21 = .ok (.iload 10, 2) := by decide +kernel
theorem dL_isLine_23 : decode cL_isLine 23 = .ok (.iconst 1, 1) := by decide +kernel
theorem dL_isLine_24 : decode cL_isLine 24 = .ok (.isub, 1) := by decide +kernel
theorem dL_isLine_25 : decode cL_isLine 25 = .ok (.ishr, 1) := by decide +kernel
theorem dL_isLine_26 : decode cL_isLine 26 = .ok (.iconst 1, 1) := by decide +kernel
theorem dL_isLine_27 : decode cL_isLine 27 = .ok (.iand, 1) := by decide +kernel
theorem dL_isLine_28 : decode cL_isLine 28 = .ok (.ifCond .ne 9, 3) := by decide +kernel
theorem dL_isLine_31 : decode cL_isLine 31 = .ok (.iinc 10 (-1), 3) := by decide +kernel
theorem dL_isLine_34 : decode cL_isLine 34 = .ok (.goto (-20), 3) := by decide +kernel
theorem dL_isLine_37 : decode cL_isLine 37 = .ok (.iload 11, 2) := by decide +kernel
theorem dL_isLine_39 : decode cL_isLine 39 = .ok (.iload 7, 2) := by decide +kernel
theorem dL_isLine_41 : decode cL_isLine 41 = .ok (.iconst 1, 1) := by decide +kernel
theorem dL_isLine_42 : decode cL_isLine 42 = .ok (.isub, 1) := by decide +kernel
theorem dL_isLine_43 : decode cL_isLine 43 = .ok (.if_icmp .ge 19, 3) := by decide +kernel
theorem dL_isLine_46 : decode cL_isLine 46 = .ok (.iload 8, 2) := by decide +kernel
theorem dL_isLine_48 : decode cL_isLine 48 = .ok (.iload 11, 2) := by decide +kernel
theorem dL_isLine_50 : decode cL_isLine 50 = .ok (.ishr, 1) := by decide +kernel
theorem dL_isLine_51 : decode cL_isLine 51 = .ok (.iconst 1, 1) := by decide +kernel
theorem dL_isLine_52 : decode cL_isLine 52 = .ok (.iand, 1) := by decide +kernel
theorem dL_isLine_53 : decode cL_isLine 53 = .ok (.ifCond .ne 9, 3) := by decide +kernel
theorem dL_isLine_56 : decode cL_isLine 56 = .ok (.iinc 11 1, 3) := by decide +kernel
theorem dL_isLine_59 : decode cL_isLine 59 = .ok (.goto (-22), 3) := by decide +kernel
theorem dL_isLine_62 : decode cL_isLine 62 = .ok (.iload 10, 2) := by decide +kernel
theorem dL_isLine_64 : decode cL_isLine 64 = .ok (.istore 14, 2) := by decide +kernel
theorem dL_isLine_66 : decode cL_isLine 66 = .ok (.iload 14, 2) := by decide +kernel
theorem dL_isLine_68 : decode cL_isLine 68 = .ok (.iload 11, 2) := by decide +kernel
theorem dL_isLine_70 : decode cL_isLine 70 = .ok (.if_icmp .gt 43, 3) := by decide +kernel
theorem dL_isLine_73 : decode cL_isLine 73 = .ok (.iload 12, 2) := by decide +kernel
theorem dL_isLine_75 : decode cL_isLine 75 = .ok (.aload 6, 2) := by decide +kernel
theorem dL_isLine_77 : decode cL_isLine 77 = .ok (.iconst 5, 1) := by decide +kernel
theorem dL_isLine_78 : decode cL_isLine 78 = .ok (.iload 14, 2) := by decide +kernel
theorem dL_isLine_80 : decode cL_isLine 80 = .ok (.imul, 1) := by decide +kernel
theorem dL_isLine_81 : decode cL_isLine 81 = .ok (.iconst 3, 1) := by decide +kernel
theorem dL_isLine_82 : decode cL_isLine 82 = .ok (.iadd, 1) := by decide +kernel
theorem dL_isLine_83 : decode cL_isLine 83 = .ok (.iaload, 1) := by decide +kernel
theorem dL_isLine_84 : decode cL_isLine 84 = .ok (.bipush 8, 2) := by decide +kernel
theorem dL_isLine_86 : decode cL_isLine 86 = .ok (.isub, 1) := by decide +kernel
theorem dL_isLine_87 : decode cL_isLine 87 = .ok (.iadd, 1) := by decide +kernel
theorem dL_isLine_88 : decode cL_isLine 88 = .ok (.istore 12, 2) := by decide +kernel
theorem dL_isLine_90 : decode cL_isLine 90 = .ok (.iload 13, 2) := by decide +kernel
theorem dL_isLine_92 : decode cL_isLine 92 = .ok (.aload 6, 2) := by decide +kernel
theorem dL_isLine_94 : decode cL_isLine 94 = .ok (.iconst 5, 1) := by decide +kernel
theorem dL_isLine_95 : decode cL_isLine 95 = .ok (.iload 14, 2) := by decide +kernel
theorem dL_isLine_97 : decode cL_isLine 97 = .ok (.imul, 1) := by decide +kernel
theorem dL_isLine_98 : decode cL_isLine 98 = .ok (.iconst 4, 1) := by decide +kernel
theorem dL_isLine_99 : decode cL_isLine 99 = .ok (.iadd, 1) := by decide +kernel
theorem dL_isLine_100 : decode cL_isLine 100 = .ok (.iaload, 1) := by decide +kernel
theorem dL_isLine_101 : decode cL_isLine 101 = .ok (.bipush 8, 2) := by decide +kernel
theorem dL_isLine_103 : decode cL_isLine 103 = .ok (.isub, 1) := by decide +kernel
theorem dL_isLine_104 : decode cL_isLine 104 = .ok (.iadd, 1) := by decide +kernel
theorem dL_isLine_105 : decode cL_isLine 105 = .ok (.istore 13, 2) := by decide +kernel
theorem dL_isLine_107 : decode cL_isLine 107 = .ok (.iinc 14 1, 3) := by decide +kernel
theorem dL_isLine_110 : decode cL_isLine 110 = .ok (.goto (-44), 3) := by decide +kernel
theorem dL_isLine_113 : decode cL_isLine 113 = .ok (.aload 4, 2) := by decide +kernel
theorem dL_isLine_115 : decode cL_isLine 115 = .ok (.iconst 1, 1) := by decide +kernel
theorem dL_isLine_116 : decode cL_isLine 116 = .ok (.iaload, 1) := by decide +kernel
theorem dL_isLine_117 : decode cL_isLine 117 = .ok (.iload 12, 2) := by decide +kernel
theorem dL_isLine_119 : decode cL_isLine 119 = .ok (.isub, 1) := by decide +kernel
theorem dL_isLine_120 : decode cL_isLine 120 = .ok (.bipush 8, 2) := by decide +kernel
theorem dL_isLine_122 : decode cL_isLine 122 = .ok (.iload 11, 2) := by decide +kernel
theorem dL_isLine_124 : decode cL_isLine 124 = .ok (.iload 10, 2) := by decide +kernel
theorem dL_isLine_126 : decode cL_isLine 126 = .ok (.isub, 1) := by decide +kernel
theorem dL_isLine_127 : decode cL_isLine 127 = .ok (.iconst 1, 1) := by decide +kernel
theorem dL_isLine_128 : decode cL_isLine 128 = .ok (.iadd, 1) := by decide +kernel
theorem dL_isLine_129 : decode cL_isLine 129 = .ok (.imul, 1) := by decide +kernel
theorem dL_isLine_130 : decode cL_isLine 130 = .ok (.isub, 1) := by decide +kernel
theorem dL_isLine_131 : decode cL_isLine 131 = .ok (.istore 14, 2) := by decide +kernel
theorem dL_isLine_133 : decode cL_isLine 133 = .ok (.iload 14, 2) := by decide +kernel
theorem dL_isLine_135 : decode cL_isLine 135 = .ok (.ifCond .ge 28, 3) := by decide +kernel
theorem dL_isLine_138 : decode cL_isLine 138 = .ok (.iload 14, 2) := by decide +kernel
theorem dL_isLine_140 : decode cL_isLine 140 = .ok (.ineg, 1) := by decide +kernel
theorem dL_isLine_141 : decode cL_isLine 141 = .ok (.iload 12, 2) := by decide +kernel
theorem dL_isLine_143 : decode cL_isLine 143 = .ok (.iload 13, 2) := by decide +kernel
theorem dL_isLine_145 : decode cL_isLine 145 = .ok (.isub, 1) := by decide +kernel
theorem dL_isLine_146 : decode cL_isLine 146 = .ok (.if_icmp .ge 9, 3) := by decide +kernel
theorem dL_isLine_149 : decode cL_isLine 149 = .ok (.iload 14, 2) := by decide +kernel
theorem dL_isLine_151 : decode cL_isLine 151 = .ok (.ineg, 1) := by decide +kernel
theorem dL_isLine_152 : decode cL_isLine 152 = .ok (.goto 12, 3) := by decide +kernel
theorem dL_isLine_155 : decode cL_isLine 155 = .ok (.iload 12, 2) := by decide +kernel
theorem dL_isLine_157 : decode cL_isLine 157 = .ok (.iload 13, 2) := by decide +kernel
theorem dL_isLine_159 : decode cL_isLine 159 = .ok (.isub, 1) := by decide +kernel
theorem dL_isLine_160 : decode cL_isLine 160 = .ok (.goto 4, 3) := by decide +kernel
theorem dL_isLine_163 : decode cL_isLine 163 = .ok (.iconst 0, 1) := by decide +kernel
theorem dL_isLine_164 : decode cL_isLine 164 = .ok (.istore 15, 2) := by decide +kernel
theorem dL_isLine_166 : decode cL_isLine 166 = .ok (.iconst 0, 1) := by decide +kernel
theorem dL_isLine_167 : decode cL_isLine 167 = .ok (.istore 16, 2) := by decide +kernel
theorem dL_isLine_169 : decode cL_isLine 169 = .ok (.iconst 0, 1) := by decide +kernel
theorem dL_isLine_170 : decode cL_isLine 170 = .ok (.istore 17, 2) := by decide +kernel
theorem dL_isLine_172 : decode cL_isLine 172 = .ok (.iconst 1, 1) := by decide +kernel
theorem dL_isLine_173 : decode cL_isLine 173 = .ok (.istore 18, 2) := by decide +kernel
theorem dL_isLine_175 : decode cL_isLine 175 = .ok (.iload 10, 2) := by decide +kernel
theorem dL_isLine_177 : decode cL_isLine 177 = .ok (.istore 19, 2) := by decide +kernel
theorem dL_isLine_179 : decode cL_isLine 179 = .ok (.iload 19, 2) := by decide +kernel
theorem dL_isLine_181 : decode cL_isLine 181 = .ok (.iload 11, 2) := by decide +kernel
theorem dL_isLine_183 : decode cL_isLine 183 = .ok (.if_icmp .gt 233, 3) := by decide +kernel
theorem dL_isLine_186 : decode cL_isLine 186 = .ok (.iload 18, 2) := by decide +kernel
theorem dL_isLine_188 : decode cL_isLine 188 = .ok (.ifCond .eq 228, 3) := by decide +kernel
theorem dL_isLine_191 : decode cL_isLine 191 = .ok (.aload 6, 2) := by decide +kernel
theorem dL_isLine_193 : decode cL_isLine 193 = .ok (.iconst 5, 1) := by decide +kernel
theorem dL_isLine_194 : decode cL_isLine 194 = .ok (.iload 19, 2) := by decide +kernel
theorem dL_isLine_196 : decode cL_isLine 196 = .ok (.imul, 1) := by decide +kernel
theorem dL_isLine_197 : decode cL_isLine 197 = .ok (.iconst 2, 1) := by decide +kernel
theorem dL_isLine_198 : decode cL_isLine 198 = .ok (.iadd, 1) := by decide +kernel
theorem dL_isLine_199 : decode cL_isLine 199 = .ok (.iaload, 1) := by decide +kernel
theorem dL_isLine_200 : decode cL_isLine 200 = .ok (.istore 20, 2) := by decide +kernel
theorem dL_isLine_202 : decode cL_isLine 202 = .ok (.aload 6, 2) := by decide +kernel
theorem dL_isLine_204 : decode cL_isLine 204 = .ok (.iconst 5, 1) := by decide +kernel
theorem dL_isLine_205 : decode cL_isLine 205 = .ok (.iload 19, 2) := by decide +kernel
theorem dL_isLine_207 : decode cL_isLine 207 = .ok (.imul, 1) := by decide +kernel
theorem dL_isLine_208 : decode cL_isLine 208 = .ok (.iaload, 1) := by decide +kernel
theorem dL_isLine_209 : decode cL_isLine 209 = .ok (.istore 21, 2) := by decide +kernel
theorem dL_isLine_211 : decode cL_isLine 211 = .ok (.iconst 0, 1) := by decide +kernel
theorem dL_isLine_212 : decode cL_isLine 212 = .ok (.istore 22, 2) := by decide +kernel
theorem dL_isLine_214 : decode cL_isLine 214 = .ok (.iload 22, 2) := by decide +kernel
theorem dL_isLine_216 : decode cL_isLine 216 = .ok (.aload_n 3, 1) := by decide +kernel
theorem dL_isLine_217 : decode cL_isLine 217 = .ok (.iload 21, 2) := by decide +kernel
theorem dL_isLine_219 : decode cL_isLine 219 = .ok (.iaload, 1) := by decide +kernel
theorem dL_isLine_220 : decode cL_isLine 220 = .ok (.if_icmp .ge 190, 3) := by decide +kernel
theorem dL_isLine_223 : decode cL_isLine 223 = .ok (.iload 18, 2) := by decide +kernel
theorem dL_isLine_225 : decode cL_isLine 225 = .ok (.ifCond .eq 185, 3) := by decide +kernel
theorem dL_isLine_228 : decode cL_isLine 228 = .ok (.aload_n 1, 1) := by decide +kernel
theorem dL_isLine_229 : decode cL_isLine 229 = .ok (.aload_n 2, 1) := by decide +kernel
theorem dL_isLine_230 : decode cL_isLine 230 = .ok (.aload_n 3, 1) := by decide +kernel
theorem dL_isLine_231 : decode cL_isLine 231 = .ok (.iload 20, 2) := by decide +kernel
theorem dL_isLine_233 : decode cL_isLine 233 = .ok (.iload 21, 2) := by decide +kernel
theorem dL_isLine_235 : decode cL_isLine 235 = .ok (.iload 22, 2) := by decide +kernel
theorem dL_isLine_237 : decode cL_isLine 237 = .ok (.invokestatic 37, 3) := by decide +kernel
theorem dL_isLine_240 : decode cL_isLine 240 = .ok (.ifCond .eq 136, 3) := by decide +kernel
theorem dL_isLine_243 : decode cL_isLine 243 = .ok (.aload_n 1, 1) := by decide +kernel
theorem dL_isLine_244 : decode cL_isLine 244 = .ok (.aload_n 2, 1) := by decide +kernel
theorem dL_isLine_245 : decode cL_isLine 245 = .ok (.aload_n 3, 1) := by decide +kernel
theorem dL_isLine_246 : decode cL_isLine 246 = .ok (.iload 20, 2) := by decide +kernel
theorem dL_isLine_248 : decode cL_isLine 248 = .ok (.iload 21, 2) := by decide +kernel
theorem dL_isLine_250 : decode cL_isLine 250 = .ok (.iload 22, 2) := by decide +kernel
theorem dL_isLine_252 : decode cL_isLine 252 = .ok (.invokestatic 41, 3) := by decide +kernel
theorem dL_isLine_255 : decode cL_isLine 255 = .ok (.istore 23, 2) := by decide +kernel
theorem dL_isLine_257 : decode cL_isLine 257 = .ok (.bipush 8, 2) := by decide +kernel
theorem dL_isLine_259 : decode cL_isLine 259 = .ok (.iload 19, 2) := by decide +kernel
theorem dL_isLine_261 : decode cL_isLine 261 = .ok (.iload 10, 2) := by decide +kernel
theorem dL_isLine_263 : decode cL_isLine 263 = .ok (.isub, 1) := by decide +kernel
theorem dL_isLine_264 : decode cL_isLine 264 = .ok (.imul, 1) := by decide +kernel
theorem dL_isLine_265 : decode cL_isLine 265 = .ok (.iconst 4, 1) := by decide +kernel
theorem dL_isLine_266 : decode cL_isLine 266 = .ok (.iadd, 1) := by decide +kernel
theorem dL_isLine_267 : decode cL_isLine 267 = .ok (.iload 16, 2) := by decide +kernel
theorem dL_isLine_269 : decode cL_isLine 269 = .ok (.iadd, 1) := by decide +kernel
theorem dL_isLine_270 : decode cL_isLine 270 = .ok (.istore 24, 2) := by decide +kernel
theorem dL_isLine_272 : decode cL_isLine 272 = .ok (.iload 24, 2) := by decide +kernel
theorem dL_isLine_274 : decode cL_isLine 274 = .ok (.iload 14, 2) := by decide +kernel
theorem dL_isLine_276 : decode cL_isLine 276 = .ok (.ifCond .le 23, 3) := by decide +kernel
theorem dL_isLine_279 : decode cL_isLine 279 = .ok (.iload 11, 2) := by decide +kernel
theorem dL_isLine_281 : decode cL_isLine 281 = .ok (.iload 7, 2) := by decide +kernel
theorem dL_isLine_283 : decode cL_isLine 283 = .ok (.iconst 1, 1) := by decide +kernel
theorem dL_isLine_284 : decode cL_isLine 284 = .ok (.isub, 1) := by decide +kernel
theorem dL_isLine_285 : decode cL_isLine 285 = .ok (.if_icmp .ge 14, 3) := by decide +kernel
theorem dL_isLine_288 : decode cL_isLine 288 = .ok (.iload 14, 2) := by decide +kernel
theorem dL_isLine_290 : decode cL_isLine 290 = .ok (.iload 16, 2) := by decide +kernel
theorem dL_isLine_292 : decode cL_isLine 292 = .ok (.imul, 1) := by decide +kernel
theorem dL_isLine_293 : decode cL_isLine 293 = .ok (.iload 12, 2) := by decide +kernel
theorem dL_isLine_295 : decode cL_isLine 295 = .ok (.idiv, 1) := by decide +kernel
theorem dL_isLine_296 : decode cL_isLine 296 = .ok (.goto 4, 3) := by decide +kernel
theorem dL_isLine_299 : decode cL_isLine 299 = .ok (.iconst 0, 1) := by decide +kernel
theorem dL_isLine_300 : decode cL_isLine 300 = .ok (.iadd, 1) := by decide +kernel
theorem dL_isLine_301 : decode cL_isLine 301 = .ok (.istore 24, 2) := by decide +kernel
theorem dL_isLine_303 : decode cL_isLine 303 = .ok (.iload 24, 2) := by decide +kernel
theorem dL_isLine_305 : decode cL_isLine 305 = .ok (.iload 15, 2) := by decide +kernel
theorem dL_isLine_307 : decode cL_isLine 307 = .ok (.ifCond .le 20, 3) := by decide +kernel
theorem dL_isLine_310 : decode cL_isLine 310 = .ok (.iload 15, 2) := by decide +kernel
theorem dL_isLine_312 : decode cL_isLine 312 = .ok (.iload 16, 2) := by decide +kernel
theorem dL_isLine_314 : decode cL_isLine 314 = .ok (.iload 17, 2) := by decide +kernel
theorem dL_isLine_316 : decode cL_isLine 316 = .ok (.isub, 1) := by decide +kernel
theorem dL_isLine_317 : decode cL_isLine 317 = .ok (.imul, 1) := by decide +kernel
theorem dL_isLine_318 : decode cL_isLine 318 = .ok (.iload 12, 2) := by decide +kernel
theorem dL_isLine_320 : decode cL_isLine 320 = .ok (.iload 13, 2) := by decide +kernel
theorem dL_isLine_322 : decode cL_isLine 322 = .ok (.isub, 1) := by decide +kernel
theorem dL_isLine_323 : decode cL_isLine 323 = .ok (.idiv, 1) := by decide +kernel
theorem dL_isLine_324 : decode cL_isLine 324 = .ok (.goto 4, 3) := by decide +kernel
theorem dL_isLine_327 : decode cL_isLine 327 = .ok (.iconst 0, 1) := by decide +kernel
theorem dL_isLine_328 : decode cL_isLine 328 = .ok (.isub, 1) := by decide +kernel
theorem dL_isLine_329 : decode cL_isLine 329 = .ok (.istore 24, 2) := by decide +kernel
theorem dL_isLine_331 : decode cL_isLine 331 = .ok (.aload_n 0, 1) := by decide +kernel
theorem dL_isLine_332 : decode cL_isLine 332 = .ok (.iload 5, 2) := by decide +kernel
theorem dL_isLine_334 : decode cL_isLine 334 = .ok (.iload 21, 2) := by decide +kernel
theorem dL_isLine_336 : decode cL_isLine 336 = .ok (.iload 22, 2) := by decide +kernel
theorem dL_isLine_338 : decode cL_isLine 338 = .ok (.invokestatic 71, 3) := by decide +kernel
theorem dL_isLine_341 : decode cL_isLine 341 = .ok (.iload 24, 2) := by decide +kernel
theorem dL_isLine_343 : decode cL_isLine 343 = .ok (.if_icmp .ne 7, 3) := by decide +kernel
theorem dL_isLine_346 : decode cL_isLine 346 = .ok (.iconst 1, 1) := by decide +kernel
theorem dL_isLine_347 : decode cL_isLine 347 = .ok (.goto 4, 3) := by decide +kernel
theorem dL_isLine_350 : decode cL_isLine 350 = .ok (.iconst 0, 1) := by decide +kernel
theorem dL_isLine_351 : decode cL_isLine 351 = .ok (.istore 18, 2) := by decide +kernel
theorem dL_isLine_353 : decode cL_isLine 353 = .ok (.iload 16, 2) := by decide +kernel
theorem dL_isLine_355 : decode cL_isLine 355 = .ok (.iload 23, 2) := by decide +kernel
theorem dL_isLine_357 : decode cL_isLine 357 = .ok (.bipush 100, 2) := by decide +kernel
theorem dL_isLine_359 : decode cL_isLine 359 = .ok (.idiv, 1) := by decide +kernel
theorem dL_isLine_360 : decode cL_isLine 360 = .ok (.iadd, 1) := by decide +kernel
theorem dL_isLine_361 : decode cL_isLine 361 = .ok (.istore 16, 2) := by decide +kernel
theorem dL_isLine_363 : decode cL_isLine 363 = .ok (.iload 17, 2) := by decide +kernel
theorem dL_isLine_365 : decode cL_isLine 365 = .ok (.iload 23, 2) := by decide +kernel
theorem dL_isLine_367 : decode cL_isLine 367 = .ok (.bipush 100, 2) := by decide +kernel
theorem dL_isLine_369 : decode cL_isLine 369 = .ok (.irem, 1) := by decide +kernel
theorem dL_isLine_370 : decode cL_isLine 370 = .ok (.iadd, 1) := by decide +kernel
theorem dL_isLine_371 : decode cL_isLine 371 = .ok (.istore 17, 2) := by decide +kernel
theorem dL_isLine_373 : decode cL_isLine 373 = .ok (.goto 31, 3) := by decide +kernel
theorem dL_isLine_376 : decode cL_isLine 376 = .ok (.iload 22, 2) := by decide +kernel
theorem dL_isLine_378 : decode cL_isLine 378 = .ok (.iconst 1, 1) := by decide +kernel
theorem dL_isLine_379 : decode cL_isLine 379 = .ok (.if_icmp .ne 25, 3) := by decide +kernel
theorem dL_isLine_382 : decode cL_isLine 382 = .ok (.aload_n 0, 1) := by decide +kernel
theorem dL_isLine_383 : decode cL_isLine 383 = .ok (.iload 5, 2) := by decide +kernel
theorem dL_isLine_385 : decode cL_isLine 385 = .ok (.iload 21, 2) := by decide +kernel
theorem dL_isLine_387 : decode cL_isLine 387 = .ok (.iload 22, 2) := by decide +kernel
theorem dL_isLine_389 : decode cL_isLine 389 = .ok (.invokestatic 71, 3) := by decide +kernel
theorem dL_isLine_392 : decode cL_isLine 392 = .ok (.bipush (-9), 2) := by decide +kernel
theorem dL_isLine_394 : decode cL_isLine 394 = .ok (.if_icmp .ne 7, 3) := by decide +kernel
theorem dL_isLine_397 : decode cL_isLine 397 = .ok (.iconst 1, 1) := by decide +kernel
theorem dL_isLine_398 : decode cL_isLine 398 = .ok (.goto 4, 3) := by decide +kernel
theorem dL_isLine_401 : decode cL_isLine 401 = .ok (.iconst 0, 1) := by decide +kernel
theorem dL_isLine_402 : decode cL_isLine 402 = .ok (.istore 18, 2) := by decide +kernel
theorem dL_isLine_404 : decode cL_isLine 404 = .ok (.iinc 22 1, 3) := by decide +kernel
theorem dL_isLine_407 : decode cL_isLine 407 = .ok (.goto (-193), 3) := by decide +kernel
theorem dL_isLine_410 : decode cL_isLine 410 = .ok (.iinc 19 1, 3) := by decide +kernel
theorem dL_isLine_413 : decode cL_isLine 413 = .ok (.goto (-234), 3) := by decide +kernel
theorem dL_isLine_416 : decode cL_isLine 416 = .ok (.iload 18, 2) := by decide +kernel
theorem dL_isLine_418 : decode cL_isLine 418 = .ok (.ireturn, 1) := by decide +kernel
theorem dL_isBook_0 : decode cL_isBook 0 = .ok (.bipush 30, 2) := by decide +kernel
theorem dL_isBook_2 : decode cL_isBook 2 = .ok (.newarray .int, 2) := by decide +kernel
theorem dL_isBook_4 : decode cL_isBook 4 = .ok (.astore 7, 2) := by decide +kernel
theorem dL_isBook_6 : decode cL_isBook 6 = .ok (.aload_n 1, 1) := by decide +kernel
theorem dL_isBook_7 : decode cL_isBook 7 = .ok (.aload_n 2, 1) := by decide +kernel
theorem dL_isBook_8 : decode cL_isBook 8 = .ok (.aload_n 3, 1) := by decide +kernel
theorem dL_isBook_9 : decode cL_isBook 9 = .ok (.aload 4, 2) := by decide +kernel
theorem dL_isBook_11 : decode cL_isBook 11 = .ok (.iload 5, 2) := by decide +kernel
theorem dL_isBook_13 : decode cL_isBook 13 = .ok (.aload 7, 2) := by decide +kernel
theorem dL_isBook_15 : decode cL_isBook 15 = .ok (.invokestatic 74, 3) := by decide +kernel
theorem dL_isBook_18 : decode cL_isBook 18 = .ok (.istore 8, 2) := by decide +kernel
theorem dL_isBook_20 : decode cL_isBook 20 = .ok (.aload_n 1, 1) := by decide +kernel
theorem dL_isBook_21 : decode cL_isBook 21 = .ok (.aload_n 2, 1) := by decide +kernel
theorem dL_isBook_22 : decode cL_isBook 22 = .ok (.aload_n 3, 1) := by decide +kernel
theorem dL_isBook_23 : decode cL_isBook 23 = .ok (.aload 4, 2) := by decide +kernel
theorem dL_isBook_25 : decode cL_isBook 25 = .ok (.iload 5, 2) := by decide +kernel
theorem dL_isBook_27 : decode cL_isBook 27 = .ok (.aload 7, 2) := by decide +kernel
theorem dL_isBook_29 : decode cL_isBook 29 = .ok (.iload 8, 2) := by decide +kernel
theorem dL_isBook_31 : decode cL_isBook 31 = .ok (.invokestatic 78, 3) := by decide +kernel
theorem dL_isBook_34 : decode cL_isBook 34 = .ok (.istore 9, 2) := by decide +kernel
theorem dL_isBook_36 : decode cL_isBook 36 = .ok (.aload_n 0, 1) := by decide +kernel
theorem dL_isBook_37 : decode cL_isBook 37 = .ok (.iload 5, 2) := by decide +kernel
theorem dL_isBook_39 : decode cL_isBook 39 = .ok (.invokevirtual 82, 3) := by decide +kernel
theorem dL_isBook_42 : decode cL_isBook 42 = .ok (.iload 8, 2) := by decide +kernel
theorem dL_isBook_44 : decode cL_isBook 44 = .ok (.if_icmp .ne 97, 3) := by decide +kernel
theorem dL_isBook_47 : decode cL_isBook 47 = .ok (.aload_n 0, 1) := by decide +kernel
theorem dL_isBook_48 : decode cL_isBook 48 = .ok (.iload 5, 2) := by decide +kernel
theorem dL_isBook_50 : decode cL_isBook 50 = .ok (.invokevirtual 85, 3) := by decide +kernel
theorem dL_isBook_53 : decode cL_isBook 53 = .ok (.iload 8, 2) := by decide +kernel
theorem dL_isBook_55 : decode cL_isBook 55 = .ok (.iload 9, 2) := by decide +kernel
theorem dL_isBook_57 : decode cL_isBook 57 = .ok (.invokestatic 56, 3) := by decide +kernel
theorem dL_isBook_60 : decode cL_isBook 60 = .ok (.if_icmp .ne 81, 3) := by decide +kernel
theorem dL_isBook_63 : decode cL_isBook 63 = .ok (.aload_n 0, 1) := by decide +kernel
theorem dL_isBook_64 : decode cL_isBook 64 = .ok (.iload 5, 2) := by decide +kernel
theorem dL_isBook_66 : decode cL_isBook 66 = .ok (.invokevirtual 87, 3) := by decide +kernel
theorem dL_isBook_69 : decode cL_isBook 69 = .ok (.aload_n 1, 1) := by decide +kernel
theorem dL_isBook_70 : decode cL_isBook 70 = .ok (.aload_n 2, 1) := by decide +kernel
theorem dL_isBook_71 : decode cL_isBook 71 = .ok (.aload_n 3, 1) := by decide +kernel
theorem dL_isBook_72 : decode cL_isBook 72 = .ok (.aload 4, 2) := by decide +kernel
theorem dL_isBook_74 : decode cL_isBook 74 = .ok (.iload 5, 2) := by decide +kernel
theorem dL_isBook_76 : decode cL_isBook 76 = .ok (.aload 7, 2) := by decide +kernel
theorem dL_isBook_78 : decode cL_isBook 78 = .ok (.iload 8, 2) := by decide +kernel
theorem dL_isBook_80 : decode cL_isBook 80 = .ok (.iload 9, 2) := by decide +kernel
theorem dL_isBook_82 : decode cL_isBook 82 = .ok (.iconst 0, 1) := by decide +kernel
theorem dL_isBook_83 : decode cL_isBook 83 = .ok (.invokestatic 52, 3) := by decide +kernel
theorem dL_isBook_86 : decode cL_isBook 86 = .ok (.if_icmp .ne 55, 3) := by decide +kernel
theorem dL_isBook_89 : decode cL_isBook 89 = .ok (.iload 6, 2) := by decide +kernel
theorem dL_isBook_91 : decode cL_isBook 91 = .ok (.iconst 4, 1) := by decide +kernel
theorem dL_isBook_92 : decode cL_isBook 92 = .ok (.irem, 1) := by decide +kernel
theorem dL_isBook_93 : decode cL_isBook 93 = .ok (.ifCond .gt 18, 3) := by decide +kernel
theorem dL_isBook_96 : decode cL_isBook 96 = .ok (.aload_n 0, 1) := by decide +kernel
theorem dL_isBook_97 : decode cL_isBook 97 = .ok (.iload 5, 2) := by decide +kernel
theorem dL_isBook_99 : decode cL_isBook 99 = .ok (.invokevirtual 89, 3) := by decide +kernel
theorem dL_isBook_102 : decode cL_isBook 102 = .ok (.aload_n 0, 1) := by decide +kernel
theorem dL_isBook_103 : decode cL_isBook 103 = .ok (.iload 5, 2) := by decide +kernel
theorem dL_isBook_105 : decode cL_isBook 105 = .ok (.invokevirtual 87, 3) := by decide +kernel
theorem dL_isBook_108 : decode cL_isBook 108 = .ok (.if_icmp .ne 33, 3) := by decide +kernel
theorem dL_isBook_111 : decode cL_isBook 111 = .ok (.aload_n 0, 1) := by decide +kernel
theorem dL_isBook_112 : decode cL_isBook 112 = .ok (.iload 5, 2) := by decide +kernel
theorem dL_isBook_114 : decode cL_isBook 114 = .ok (.invokevirtual 92, 3) := by decide +kernel
theorem dL_isBook_117 : decode cL_isBook 117 = .ok (.aload_n 1, 1) := by decide +kernel
theorem dL_isBook_118 : decode cL_isBook 118 = .ok (.aload_n 2, 1) := by decide +kernel
theorem dL_isBook_119 : decode cL_isBook 119 = .ok (.aload_n 3, 1) := by decide +kernel
theorem dL_isBook_120 : decode cL_isBook 120 = .ok (.aload 4, 2) := by decide +kernel
theorem dL_isBook_122 : decode cL_isBook 122 = .ok (.iload 5, 2) := by decide +kernel
theorem dL_isBook_124 : decode cL_isBook 124 = .ok (.aload 7, 2) := by decide +kernel
theorem dL_isBook_126 : decode cL_isBook 126 = .ok (.iload 8, 2) := by decide +kernel
theorem dL_isBook_128 : decode cL_isBook 128 = .ok (.iload 9, 2) := by decide +kernel
theorem dL_isBook_130 : decode cL_isBook 130 = .ok (.iconst 1, 1) := by decide +kernel
theorem dL_isBook_131 : decode cL_isBook 131 = .ok (.invokestatic 52, 3) := by decide +kernel
theorem dL_isBook_134 : decode cL_isBook 134 = .ok (.if_icmp .ne 7, 3) := by decide +kernel
theorem dL_isBook_137 : decode cL_isBook 137 = .ok (.iconst 1, 1) := by decide +kernel
theorem dL_isBook_138 : decode cL_isBook 138 = .ok (.goto 4, 3) := by decide +kernel
theorem dL_isBook_141 : decode cL_isBook 141 = .ok (.iconst 0, 1) := by decide +kernel
theorem dL_isBook_142 : decode cL_isBook 142 = .ok (.istore 10, 2) := by decide +kernel
theorem dL_isBook_144 : decode cL_isBook 144 = .ok (.iconst 0, 1) := by decide +kernel
theorem dL_isBook_145 : decode cL_isBook 145 = .ok (.istore 11, 2) := by decide +kernel
theorem dL_isBook_147 : decode cL_isBook 147 = .ok (.iconst 0, 1) := by decide +kernel
theorem dL_isBook_148 : decode cL_isBook 148 = .ok (.istore 12, 2) := by decide +kernel
theorem dL_isBook_150 : decode cL_isBook 150 = .ok (.iload 12, 2) := by decide +kernel
theorem dL_isBook_152 : decode cL_isBook 152 = .ok (.iload 8, 2) := by decide +kernel
theorem dL_isBook_154 : decode cL_isBook 154 = .ok (.if_icmp .ge 174, 3) := by decide +kernel
theorem dL_isBook_157 : decode cL_isBook 157 = .ok (.iload 10, 2) := by decide +kernel
theorem dL_isBook_159 : decode cL_isBook 159 = .ok (.ifCond .eq 169, 3) := by decide +kernel
theorem dL_isBook_162 : decode cL_isBook 162 = .ok (.aload_n 0, 1) := by decide +kernel
theorem dL_isBook_163 : decode cL_isBook 163 = .ok (.iload 5, 2) := by decide +kernel
theorem dL_isBook_165 : decode cL_isBook 165 = .ok (.iload 12, 2) := by decide +kernel
theorem dL_isBook_167 : decode cL_isBook 167 = .ok (.invokevirtual 95, 3) := by decide +kernel
theorem dL_isBook_170 : decode cL_isBook 170 = .ok (.aload 7, 2) := by decide +kernel
theorem dL_isBook_172 : decode cL_isBook 172 = .ok (.iconst 5, 1) := by decide +kernel
theorem dL_isBook_173 : decode cL_isBook 173 = .ok (.iload 12, 2) := by decide +kernel
theorem dL_isBook_175 : decode cL_isBook 175 = .ok (.imul, 1) := by decide +kernel
theorem dL_isBook_176 : decode cL_isBook 176 = .ok (.iconst 3, 1) := by decide +kernel
theorem dL_isBook_177 : decode cL_isBook 177 = .ok (.iadd, 1) := by decide +kernel
theorem dL_isBook_178 : decode cL_isBook 178 = .ok (.iaload, 1) := by decide +kernel
theorem dL_isBook_179 : decode cL_isBook 179 = .ok (.if_icmp .ne 7, 3) := by decide +kernel
theorem dL_isBook_182 : decode cL_isBook 182 = .ok (.iconst 1, 1) := by decide +kernel
theorem dL_isBook_183 : decode cL_isBook 183 = .ok (.goto 4, 3) := by decide +kernel
theorem dL_isBook_186 : decode cL_isBook 186 = .ok (.iconst 0, 1) := by decide +kernel
theorem dL_isBook_187 : decode cL_isBook 187 = .ok (.istore 10, 2) := by decide +kernel
theorem dL_isBook_189 : decode cL_isBook 189 = .ok (.aload 7, 2) := by decide +kernel
theorem dL_isBook_191 : decode cL_isBook 191 = .ok (.iconst 5, 1) := by decide +kernel
theorem dL_isBook_192 : decode cL_isBook 192 = .ok (.iload 12, 2) := by decide +kernel
theorem dL_isBook_194 : decode cL_isBook 194 = .ok (.imul, 1) := by decide +kernel
theorem dL_isBook_195 : decode cL_isBook 195 = .ok (.iaload, 1) := by decide +kernel
theorem dL_isBook_196 : decode cL_isBook 196 = .ok (.istore 13, 2) := by decide +kernel
theorem dL_isBook_198 : decode cL_isBook 198 = .ok (.iload 13, 2) := by decide +kernel
theorem dL_isBook_200 : decode cL_isBook 200 = .ok (.aload 7, 2) := by decide +kernel
theorem dL_isBook_202 : decode cL_isBook 202 = .ok (.iconst 5, 1) := by decide +kernel
theorem dL_isBook_203 : decode cL_isBook 203 = .ok (.iload 12, 2) := by decide +kernel
theorem dL_isBook_205 : decode cL_isBook 205 = .ok (.imul, 1) := by decide +kernel
theorem dL_isBook_206 : decode cL_isBook 206 = .ok (.iconst 1, 1) := by decide +kernel
theorem dL_isBook_207 : decode cL_isBook 207 = .ok (.iadd, 1) := by decide +kernel
theorem dL_isBook_208 : decode cL_isBook 208 = .ok (.iaload, 1) := by decide +kernel
theorem dL_isBook_209 : decode cL_isBook 209 = .ok (.if_icmp .gt 101, 3) := by decide +kernel
theorem dL_isBook_212 : decode cL_isBook 212 = .ok (.iload 10, 2) := by decide +kernel
theorem dL_isBook_214 : decode cL_isBook 214 = .ok (.ifCond .eq 96, 3) := by decide +kernel
theorem dL_isBook_217 : decode cL_isBook 217 = .ok (.iload 6, 2) := by decide +kernel
theorem dL_isBook_219 : decode cL_isBook 219 = .ok (.iload 12, 2) := by decide +kernel
theorem dL_isBook_221 : decode cL_isBook 221 = .ok (.iadd, 1) := by decide +kernel
theorem dL_isBook_222 : decode cL_isBook 222 = .ok (.iconst 3, 1) := by decide +kernel
theorem dL_isBook_223 : decode cL_isBook 223 = .ok (.irem, 1) := by decide +kernel
theorem dL_isBook_224 : decode cL_isBook 224 = .ok (.ifCond .ne 86, 3) := by decide +kernel
theorem dL_isBook_227 : decode cL_isBook 227 = .ok (.aload_n 0, 1) := by decide +kernel
theorem dL_isBook_228 : decode cL_isBook 228 = .ok (.iload 5, 2) := by decide +kernel
theorem dL_isBook_230 : decode cL_isBook 230 = .ok (.iload 13, 2) := by decide +kernel
theorem dL_isBook_232 : decode cL_isBook 232 = .ok (.invokevirtual 98, 3) := by decide +kernel
theorem dL_isBook_235 : decode cL_isBook 235 = .ok (.iload 12, 2) := by decide +kernel
theorem dL_isBook_237 : decode cL_isBook 237 = .ok (.if_icmp .ne 64, 3) := by decide +kernel
theorem dL_isBook_240 : decode cL_isBook 240 = .ok (.aload_n 0, 1) := by decide +kernel
theorem dL_isBook_241 : decode cL_isBook 241 = .ok (.iload 5, 2) := by decide +kernel
theorem dL_isBook_243 : decode cL_isBook 243 = .ok (.iload 13, 2) := by decide +kernel
theorem dL_isBook_245 : decode cL_isBook 245 = .ok (.invokevirtual 101, 3) := by decide +kernel
theorem dL_isBook_248 : decode cL_isBook 248 = .ok (.iload 11, 2) := by decide +kernel
theorem dL_isBook_250 : decode cL_isBook 250 = .ok (.if_icmp .ne 51, 3) := by decide +kernel
theorem dL_isBook_253 : decode cL_isBook 253 = .ok (.iload 5, 2) := by decide +kernel
theorem dL_isBook_255 : decode cL_isBook 255 = .ok (.iconst 5, 1) := by decide +kernel
theorem dL_isBook_256 : decode cL_isBook 256 = .ok (.if_icmp .eq 41, 3) := by decide +kernel
theorem dL_isBook_259 : decode cL_isBook 259 = .ok (.aload_n 0, 1) := by decide +kernel
theorem dL_isBook_260 : decode cL_isBook 260 = .ok (.iload 5, 2) := by decide +kernel
theorem dL_isBook_262 : decode cL_isBook 262 = .ok (.iload 13, 2) := by decide +kernel
theorem dL_isBook_264 : decode cL_isBook 264 = .ok (.invokevirtual 104, 3) := by decide +kernel
theorem dL_isBook_267 : decode cL_isBook 267 = .ok (.aload 7, 2) := by decide +kernel
theorem dL_isBook_269 : decode cL_isBook 269 = .ok (.iconst 5, 1) := by decide +kernel
theorem dL_isBook_270 : decode cL_isBook 270 = .ok (.iload 12, 2) := by decide +kernel
theorem dL_isBook_272 : decode cL_isBook 272 = .ok (.imul, 1) := by decide +kernel
theorem dL_isBook_273 : decode cL_isBook 273 = .ok (.iconst 2, 1) := by decide +kernel
theorem dL_isBook_274 : decode cL_isBook 274 = .ok (.iadd, 1) := by decide +kernel
theorem dL_isBook_275 : decode cL_isBook 275 = .ok (.iaload, 1) := by decide +kernel
theorem dL_isBook_276 : decode cL_isBook 276 = .ok (.iload 5, 2) := by decide +kernel
theorem dL_isBook_278 : decode cL_isBook 278 = .ok (.if_icmp .ne 7, 3) := by decide +kernel
theorem dL_isBook_281 : decode cL_isBook 281 = .ok (.iconst (-1), 1) := by decide +kernel
theorem dL_isBook_282 : decode cL_isBook 282 = .ok (.goto 12, 3) := by decide +kernel
theorem dL_isBook_285 : decode cL_isBook 285 = .ok (.aload 7, 2) := by decide +kernel
theorem dL_isBook_287 : decode cL_isBook 287 = .ok (.iconst 5, 1) := by decide +kernel
theorem dL_isBook_288 : decode cL_isBook 288 = .ok (.iload 12, 2) := by decide +kernel
theorem dL_isBook_290 : decode cL_isBook 290 = .ok (.imul, 1) := by decide +kernel
theorem dL_isBook_291 : decode cL_isBook 291 = .ok (.iconst 2, 1) := by decide +kernel
theorem dL_isBook_292 : decode cL_isBook 292 = .ok (.iadd, 1) := by decide +kernel
theorem dL_isBook_293 : decode cL_isBook 293 = .ok (.iaload, 1) := by decide +kernel
theorem dL_isBook_294 : decode cL_isBook 294 = .ok (.if_icmp .ne 7, 3) := by decide +kernel
theorem dL_isBook_297 : decode cL_isBook 297 = .ok (.iconst 1, 1) := by decide +kernel
theorem dL_isBook_298 : decode cL_isBook 298 = .ok (.goto 4, 3) := by decide +kernel
theorem dL_isBook_301 : decode cL_isBook 301 = .ok (.iconst 0, 1) := by decide +kernel
theorem dL_isBook_302 : decode cL_isBook 302 = .ok (.istore 10, 2) := by decide +kernel
theorem dL_isBook_304 : decode cL_isBook 304 = .ok (.iinc 13 1, 3) := by decide +kernel
theorem dL_isBook_307 : decode cL_isBook 307 = .ok (.goto (-109), 3) := by decide +kernel
theorem dL_isBook_310 : decode cL_isBook 310 = .ok (.iload 11, 2) := by decide +kernel
theorem dL_isBook_312 : decode cL_isBook 312 = .ok (.iload 9, 2) := by decide +kernel
theorem dL_isBook_314 : decode cL_isBook 314 = .ok (.iload 12, 2) := by decide +kernel
theorem dL_isBook_316 : decode cL_isBook 316 = .ok (.ishr, 1) := by decide +kernel
theorem dL_isBook_317 : decode cL_isBook 317 = .ok (.iconst 1, 1) := by decide +kernel
theorem dL_isBook_318 : decode cL_isBook 318 = .ok (.iand, 1) := by decide +kernel
theorem dL_isBook_319 : decode cL_isBook 319 = .ok (.iadd, 1) := by decide +kernel
theorem dL_isBook_320 : decode cL_isBook 320 = .ok (.istore 11, 2) := by decide +kernel
theorem dL_isBook_322 : decode cL_isBook 322 = .ok (.iinc 12 1, 3) := by decide +kernel
theorem dL_isBook_325 : decode cL_isBook 325 = .ok (.goto (-175), 3) := by decide +kernel
theorem dL_isBook_328 : decode cL_isBook 328 = .ok (.iload 10, 2) := by decide +kernel
theorem dL_isBook_330 : decode cL_isBook 330 = .ok (.ifCond .eq 37, 3) := by decide +kernel
theorem dL_isBook_333 : decode cL_isBook 333 = .ok (.iload 8, 2) := by decide +kernel
theorem dL_isBook_335 : decode cL_isBook 335 = .ok (.ifCond .eq 28, 3) := by decide +kernel
theorem dL_isBook_338 : decode cL_isBook 338 = .ok (.aload_n 0, 1) := by decide +kernel
theorem dL_isBook_339 : decode cL_isBook 339 = .ok (.aload_n 1, 1) := by decide +kernel
theorem dL_isBook_340 : decode cL_isBook 340 = .ok (.aload_n 2, 1) := by decide +kernel
theorem dL_isBook_341 : decode cL_isBook 341 = .ok (.aload_n 3, 1) := by decide +kernel
theorem dL_isBook_342 : decode cL_isBook 342 = .ok (.aload 4, 2) := by decide +kernel
theorem dL_isBook_344 : decode cL_isBook 344 = .ok (.iload 5, 2) := by decide +kernel
theorem dL_isBook_346 : decode cL_isBook 346 = .ok (.aload 7, 2) := by decide +kernel
theorem dL_isBook_348 : decode cL_isBook 348 = .ok (.iload 8, 2) := by decide +kernel
theorem dL_isBook_350 : decode cL_isBook 350 = .ok (.iload 9, 2) := by decide +kernel
theorem dL_isBook_352 : decode cL_isBook 352 = .ok (.iload 6, 2) := by decide +kernel
theorem dL_isBook_354 : decode cL_isBook 354 = .ok (.iload 8, 2) := by decide +kernel
theorem dL_isBook_356 : decode cL_isBook 356 = .ok (.irem, 1) := by decide +kernel
theorem dL_isBook_357 : decode cL_isBook 357 = .ok (.invokestatic 106, 3) := by decide +kernel
theorem dL_isBook_360 : decode cL_isBook 360 = .ok (.ifCond .eq 7, 3) := by decide +kernel
theorem dL_isBook_363 : decode cL_isBook 363 = .ok (.iconst 1, 1) := by decide +kernel
theorem dL_isBook_364 : decode cL_isBook 364 = .ok (.goto 4, 3) := by decide +kernel
theorem dL_isBook_367 : decode cL_isBook 367 = .ok (.iconst 0, 1) := by decide +kernel
theorem dL_isBook_368 : decode cL_isBook 368 = .ok (.ireturn, 1) := by decide +kernel
theorem dL_owes_0 : decode cL_owes 0 = .ok (.aload_n 1, 1) := by decide +kernel
theorem dL_owes_1 : decode cL_owes 1 = .ok (.bipush 8, 2) := by decide +kernel
theorem dL_owes_3 : decode cL_owes 3 = .ok (.iload_n 2, 1) := by decide +kernel
theorem dL_owes_4 : decode cL_owes 4 = .ok (.imul, 1) := by decide +kernel
theorem dL_owes_5 : decode cL_owes 5 = .ok (.iconst 1, 1) := by decide +kernel
theorem dL_owes_6 : decode cL_owes 6 = .ok (.iadd, 1) := by decide +kernel
theorem dL_owes_7 : decode cL_owes 7 = .ok (.iaload, 1) := by decide +kernel
theorem dL_owes_8 : decode cL_owes 8 = .ok (.ifCond .lt 33, 3) := by decide +kernel
theorem dL_owes_11 : decode cL_owes 11 = .ok (.aload_n 1, 1) := by decide +kernel
theorem dL_owes_12 : decode cL_owes 12 = .ok (.bipush 8, 2) := by decide +kernel
theorem dL_owes_14 : decode cL_owes 14 = .ok (.iload_n 2, 1) := by decide +kernel
theorem dL_owes_15 : decode cL_owes 15 = .ok (.imul, 1) := by decide +kernel
theorem dL_owes_16 : decode cL_owes 16 = .ok (.iconst 2, 1) := by decide +kernel
theorem dL_owes_17 : decode cL_owes 17 = .ok (.iadd, 1) := by decide +kernel
theorem dL_owes_18 : decode cL_owes 18 = .ok (.iload_n 3, 1) := by decide +kernel
theorem dL_owes_19 : decode cL_owes 19 = .ok (.iadd, 1) := by decide +kernel
theorem dL_owes_20 : decode cL_owes 20 = .ok (.iaload, 1) := by decide +kernel
theorem dL_owes_21 : decode cL_owes 21 = .ok (.aload_n 0, 1) := by decide +kernel
theorem dL_owes_22 : decode cL_owes 22 = .ok (.bipush 6, 2) := by decide +kernel
theorem dL_owes_24 : decode cL_owes 24 = .ok (.aload_n 1, 1) := by decide +kernel
theorem dL_owes_25 : decode cL_owes 25 = .ok (.bipush 8, 2) := by decide +kernel
theorem dL_owes_27 : decode cL_owes 27 = .ok (.iload_n 2, 1) := by decide +kernel
theorem dL_owes_28 : decode cL_owes 28 = .ok (.imul, 1) := by decide +kernel
theorem dL_owes_29 : decode cL_owes 29 = .ok (.iaload, 1) := by decide +kernel
theorem dL_owes_30 : decode cL_owes 30 = .ok (.imul, 1) := by decide +kernel
theorem dL_owes_31 : decode cL_owes 31 = .ok (.iload_n 3, 1) := by decide +kernel
theorem dL_owes_32 : decode cL_owes 32 = .ok (.iadd, 1) := by decide +kernel
theorem dL_owes_33 : decode cL_owes 33 = .ok (.iaload, 1) := by decide +kernel
theorem dL_owes_34 : decode cL_owes 34 = .ok (.if_icmp .eq 7, 3) := by decide +kernel
theorem dL_owes_37 : decode cL_owes 37 = .ok (.iconst 1, 1) := by decide +kernel
theorem dL_owes_38 : decode cL_owes 38 = .ok (.goto 4, 3) := by decide +kernel
theorem dL_owes_41 : decode cL_owes 41 = .ok (.iconst 0, 1) := by decide +kernel
theorem dL_owes_42 : decode cL_owes 42 = .ok (.ireturn, 1) := by decide +kernel
theorem dL_owed_0 : decode cL_owed 0 = .ok (.iconst 0, 1) := by decide +kernel
theorem dL_owed_1 : decode cL_owed 1 = .ok (.istore 4, 2) := by decide +kernel
theorem dL_owed_3 : decode cL_owed 3 = .ok (.iconst 0, 1) := by decide +kernel
theorem dL_owed_4 : decode cL_owed 4 = .ok (.istore 5, 2) := by decide +kernel
theorem dL_owed_6 : decode cL_owed 6 = .ok (.iload 5, 2) := by decide +kernel
theorem dL_owed_8 : decode cL_owed 8 = .ok (.aload_n 2, 1) := by decide +kernel
theorem dL_owed_9 : decode cL_owed 9 = .ok (.iconst 0, 1) := by decide +kernel
theorem dL_owed_10 : decode cL_owed 10 = .ok (.iaload, 1) := by decide +kernel
theorem dL_owed_11 : decode cL_owed 11 = .ok (.if_icmp .ge 30, 3) := by decide +kernel
theorem dL_owed_14 : decode cL_owed 14 = .ok (.iload 4, 2) := by decide +kernel
theorem dL_owed_16 : decode cL_owed 16 = .ok (.aload_n 0, 1) := by decide +kernel
theorem dL_owed_17 : decode cL_owed 17 = .ok (.aload_n 1, 1) := by decide +kernel
theorem dL_owed_18 : decode cL_owed 18 = .ok (.iload_n 3, 1) := by decide +kernel
theorem dL_owed_19 : decode cL_owed 19 = .ok (.iload 5, 2) := by decide +kernel
theorem dL_owed_21 : decode cL_owed 21 = .ok (.invokestatic 110, 3) := by decide +kernel
theorem dL_owed_24 : decode cL_owed 24 = .ok (.ifCond .eq 7, 3) := by decide +kernel
theorem dL_owed_27 : decode cL_owed 27 = .ok (.iconst 1, 1) := by decide +kernel
theorem dL_owed_28 : decode cL_owed 28 = .ok (.goto 4, 3) := by decide +kernel
theorem dL_owed_31 : decode cL_owed 31 = .ok (.iconst 0, 1) := by decide +kernel
theorem dL_owed_32 : decode cL_owed 32 = .ok (.iadd, 1) := by decide +kernel
theorem dL_owed_33 : decode cL_owed 33 = .ok (.istore 4, 2) := by decide +kernel
theorem dL_owed_35 : decode cL_owed 35 = .ok (.iinc 5 1, 3) := by decide +kernel
theorem dL_owed_38 : decode cL_owed 38 = .ok (.goto (-32), 3) := by decide +kernel
theorem dL_owed_41 : decode cL_owed 41 = .ok (.iload 4, 2) := by decide +kernel
theorem dL_owed_43 : decode cL_owed 43 = .ok (.ireturn, 1) := by decide +kernel
theorem dL_bowing_0 : decode cL_bowing 0 = .ok (.aload_n 1, 1) := by decide +kernel
theorem dL_bowing_1 : decode cL_bowing 1 = .ok (.bipush 12, 2) := by decide +kernel
theorem dL_bowing_3 : decode cL_bowing 3 = .ok (.iload_n 2, 1) := by decide +kernel
theorem dL_bowing_4 : decode cL_bowing 4 = .ok (.imul, 1) := by decide +kernel
theorem dL_bowing_5 : decode cL_bowing 5 = .ok (.iload_n 3, 1) := by decide +kernel
theorem dL_bowing_6 : decode cL_bowing 6 = .ok (.iadd, 1) := by decide +kernel
theorem dL_bowing_7 : decode cL_bowing 7 = .ok (.laload, 1) := by decide +kernel
theorem dL_bowing_8 : decode cL_bowing 8 = .ok (.bipush 8, 2) := by decide +kernel
theorem dL_bowing_10 : decode cL_bowing 10 = .ok (.iload 4, 2) := by decide +kernel
theorem dL_bowing_12 : decode cL_bowing 12 = .ok (.imul, 1) := by decide +kernel
theorem dL_bowing_13 : decode cL_bowing 13 = .ok (.lushr, 1) := by decide +kernel
theorem dL_bowing_14 : decode cL_bowing 14 = .ok (.ldc2_w 114, 3) := by decide +kernel
theorem dL_bowing_17 : decode cL_bowing 17 = .ok (.land, 1) := by decide +kernel
theorem dL_bowing_18 : decode cL_bowing 18 = .ok (.l2i, 1) := by decide +kernel
theorem dL_bowing_19 : decode cL_bowing 19 = .ok (.istore 5, 2) := by decide +kernel
theorem dL_bowing_21 : decode cL_bowing 21 = .ok (.iload 5, 2) := by decide +kernel
theorem dL_bowing_23 : decode cL_bowing 23 = .ok (.iconst 4, 1) := by decide +kernel
theorem dL_bowing_24 : decode cL_bowing 24 = .ok (.idiv, 1) := by decide +kernel
theorem dL_bowing_25 : decode cL_bowing 25 = .ok (.aload_n 0, 1) := by decide +kernel
theorem dL_bowing_26 : decode cL_bowing 26 = .ok (.iload_n 3, 1) := by decide +kernel
theorem dL_bowing_27 : decode cL_bowing 27 = .ok (.iaload, 1) := by decide +kernel
theorem dL_bowing_28 : decode cL_bowing 28 = .ok (.if_icmp .ne 10, 3) := by decide +kernel
theorem dL_bowing_31 : decode cL_bowing 31 = .ok (.iload 5, 2) := by decide +kernel
theorem dL_bowing_33 : decode cL_bowing 33 = .ok (.iconst 4, 1) := by decide +kernel
theorem dL_bowing_34 : decode cL_bowing 34 = .ok (.irem, 1) := by decide +kernel
theorem dL_bowing_35 : decode cL_bowing 35 = .ok (.goto 4, 3) := by decide +kernel
theorem dL_bowing_38 : decode cL_bowing 38 = .ok (.iconst 0, 1) := by decide +kernel
theorem dL_bowing_39 : decode cL_bowing 39 = .ok (.ireturn, 1) := by decide +kernel
theorem dL_areCopies_0 : decode cL_areCopies 0 = .ok (.aload_n 0, 1) := by decide +kernel
theorem dL_areCopies_1 : decode cL_areCopies 1 = .ok (.invokevirtual 116, 3) := by decide +kernel
theorem dL_areCopies_4 : decode cL_areCopies 4 = .ok (.aload 6, 2) := by decide +kernel
theorem dL_areCopies_6 : decode cL_areCopies 6 = .ok (.iconst 3, 1) := by decide +kernel
theorem dL_areCopies_7 : decode cL_areCopies 7 = .ok (.iaload, 1) := by decide +kernel
theorem dL_areCopies_8 : decode cL_areCopies 8 = .ok (.if_icmp .ne 18, 3) := by decide +kernel
theorem dL_areCopies_11 : decode cL_areCopies 11 = .ok (.aload_n 0, 1) := by decide +kernel
theorem dL_areCopies_12 : decode cL_areCopies 12 = .ok (.invokevirtual 120, 3) := by decide +kernel
theorem dL_areCopies_15 : decode cL_areCopies 15 = .ok (.aload 6, 2) := by decide +kernel
theorem dL_areCopies_17 : decode cL_areCopies 17 = .ok (.iconst 4, 1) := by decide +kernel
theorem dL_areCopies_18 : decode cL_areCopies 18 = .ok (.iaload, 1) := by decide +kernel
theorem dL_areCopies_19 : decode cL_areCopies 19 = .ok (.if_icmp .ne 7, 3) := by decide +kernel
theorem dL_areCopies_22 : decode cL_areCopies 22 = .ok (.iconst 1, 1) := by decide +kernel
