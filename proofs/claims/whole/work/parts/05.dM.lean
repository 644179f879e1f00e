theorem dX7_init_0 : decode cX7_init 0 = .ok (.aload_n 0, 1) := by decide +kernel
theorem dX7_init_1 : decode cX7_init 1 = .ok (.invokespecial 1, 3) := by decide +kernel
theorem dX7_init_4 : decode cX7_init 4 = .ok (.aload_n 0, 1) := by decide +kernel
theorem dX7_init_5 : decode cX7_init 5 = .ok (.bipush 12, 2) := by decide +kernel
theorem dX7_init_7 : decode cX7_init 7 = .ok (.newarray .int, 2) := by decide +kernel
theorem dX7_init_9 : decode cX7_init 9 = .ok (.putfield 7, 3) := by decide +kernel
theorem dX7_init_12 : decode cX7_init 12 = .ok (.aload_n 0, 1) := by decide +kernel
theorem dX7_init_13 : decode cX7_init 13 = .ok (.sipush 480, 3) := by decide +kernel
theorem dX7_init_16 : decode cX7_init 16 = .ok (.newarray .int, 2) := by decide +kernel
theorem dX7_init_18 : decode cX7_init 18 = .ok (.putfield 13, 3) := by decide +kernel
theorem dX7_init_21 : decode cX7_init 21 = .ok (.aload_n 0, 1) := by decide +kernel
theorem dX7_init_22 : decode cX7_init 22 = .ok (.sipush 480, 3) := by decide +kernel
theorem dX7_init_25 : decode cX7_init 25 = .ok (.newarray .int, 2) := by decide +kernel
theorem dX7_init_27 : decode cX7_init 27 = .ok (.putfield 16, 3) := by decide +kernel
theorem dX7_init_30 : decode cX7_init 30 = .ok (.aload_n 0, 1) := by decide +kernel
theorem dX7_init_31 : decode cX7_init 31 = .ok (.bipush 60, 2) := by decide +kernel
theorem dX7_init_33 : decode cX7_init 33 = .ok (.newarray .int, 2) := by decide +kernel
theorem dX7_init_35 : decode cX7_init 35 = .ok (.putfield 19, 3) := by decide +kernel
theorem dX7_init_38 : decode cX7_init 38 = .ok (.aload_n 0, 1) := by decide +kernel
theorem dX7_init_39 : decode cX7_init 39 = .ok (.bipush 60, 2) := by decide +kernel
theorem dX7_init_41 : decode cX7_init 41 = .ok (.newarray .int, 2) := by decide +kernel
theorem dX7_init_43 : decode cX7_init 43 = .ok (.putfield 22, 3) := by decide +kernel
theorem dX7_init_46 : decode cX7_init 46 = .ok (.aload_n 0, 1) := by decide +kernel
theorem dX7_init_47 : decode cX7_init 47 = .ok (.sipush 200, 3) := by decide +kernel
theorem dX7_init_50 : decode cX7_init 50 = .ok (.putfield 25, 3) := by decide +kernel
theorem dX7_init_53 : decode cX7_init 53 = .ok (.aload_n 0, 1) := by decide +kernel
theorem dX7_init_54 : decode cX7_init 54 = .ok (.iconst 3, 1) := by decide +kernel
theorem dX7_init_55 : decode cX7_init 55 = .ok (.putfield 29, 3) := by decide +kernel
theorem dX7_init_58 : decode cX7_init 58 = .ok (.aload_n 0, 1) := by decide +kernel
theorem dX7_init_59 : decode cX7_init 59 = .ok (.bipush 16, 2) := by decide +kernel
theorem dX7_init_61 : decode cX7_init 61 = .ok (.newarray .int, 2) := by decide +kernel
theorem dX7_init_63 : decode cX7_init 63 = .ok (.putfield 32, 3) := by decide +kernel
theorem dX7_init_66 : decode cX7_init 66 = .ok (.aload_n 0, 1) := by decide +kernel
theorem dX7_init_67 : decode cX7_init 67 = .ok (.bipush 16, 2) := by decide +kernel
theorem dX7_init_69 : decode cX7_init 69 = .ok (.newarray .int, 2) := by decide +kernel
theorem dX7_init_71 : decode cX7_init 71 = .ok (.putfield 35, 3) := by decide +kernel
theorem dX7_init_74 : decode cX7_init 74 = .ok (.aload_n 0, 1) := by decide +kernel
theorem dX7_init_75 : decode cX7_init 75 = .ok (.sipush 192, 3) := by decide +kernel
theorem dX7_init_78 : decode cX7_init 78 = .ok (.newarray .int, 2) := by decide +kernel
theorem dX7_init_80 : decode cX7_init 80 = .ok (.putfield 38, 3) := by decide +kernel
theorem dX7_init_83 : decode cX7_init 83 = .ok (.aload_n 0, 1) := by decide +kernel
theorem dX7_init_84 : decode cX7_init 84 = .ok (.sipush 360, 3) := by decide +kernel
theorem dX7_init_87 : decode cX7_init 87 = .ok (.newarray .int, 2) := by decide +kernel
theorem dX7_init_89 : decode cX7_init 89 = .ok (.putfield 41, 3) := by decide +kernel
theorem dX7_init_92 : decode cX7_init 92 = .ok (.aload_n 0, 1) := by decide +kernel
theorem dX7_init_93 : decode cX7_init 93 = .ok (.sipush 360, 3) := by decide +kernel
theorem dX7_init_96 : decode cX7_init 96 = .ok (.newarray .int, 2) := by decide +kernel
theorem dX7_init_98 : decode cX7_init 98 = .ok (.putfield 44, 3) := by decide +kernel
theorem dX7_init_101 : decode cX7_init 101 = .ok (.aload_n 0, 1) := by decide +kernel
theorem dX7_init_102 : decode cX7_init 102 = .ok (.sipush 2880, 3) := by decide +kernel
theorem dX7_init_105 : decode cX7_init 105 = .ok (.newarray .int, 2) := by decide +kernel
theorem dX7_init_107 : decode cX7_init 107 = .ok (.putfield 47, 3) := by decide +kernel
theorem dX7_init_110 : decode cX7_init 110 = .ok (.aload_n 0, 1) := by decide +kernel
theorem dX7_init_111 : decode cX7_init 111 = .ok (.sipush 2880, 3) := by decide +kernel
theorem dX7_init_114 : decode cX7_init 114 = .ok (.newarray .int, 2) := by decide +kernel
theorem dX7_init_116 : decode cX7_init 116 = .ok (.putfield 50, 3) := by decide +kernel
theorem dX7_init_119 : decode cX7_init 119 = .ok (.aload_n 0, 1) := by decide +kernel
theorem dX7_init_120 : decode cX7_init 120 = .ok (.bipush 12, 2) := by decide +kernel
theorem dX7_init_122 : decode cX7_init 122 = .ok (.newarray .int, 2) := by decide +kernel
theorem dX7_init_124 : decode cX7_init 124 = .ok (.putfield 53, 3) := by decide +kernel
theorem dX7_init_127 : decode cX7_init 127 = .ok (.aload_n 0, 1) := by decide +kernel
theorem dX7_init_128 : decode cX7_init 128 = .ok (.bipush 12, 2) := by decide +kernel
theorem dX7_init_130 : decode cX7_init 130 = .ok (.newarray .int, 2) := by decide +kernel
theorem dX7_init_132 : decode cX7_init 132 = .ok (.putfield 56, 3) := by decide +kernel
theorem dX7_init_135 : decode cX7_init 135 = .ok (.aload_n 0, 1) := by decide +kernel
theorem dX7_init_136 : decode cX7_init 136 = .ok (.bipush 12, 2) := by decide +kernel
theorem dX7_init_138 : decode cX7_init 138 = .ok (.newarray .int, 2) := by decide +kernel
theorem dX7_init_140 : decode cX7_init 140 = .ok (.putfield 59, 3) := by decide +kernel
theorem dX7_init_143 : decode cX7_init 143 = .ok (.aload_n 0, 1) := by decide +kernel
theorem dX7_init_144 : decode cX7_init 144 = .ok (.bipush 13, 2) := by decide +kernel
theorem dX7_init_146 : decode cX7_init 146 = .ok (.newarray .int, 2) := by decide +kernel
theorem dX7_init_148 : decode cX7_init 148 = .ok (.putfield 62, 3) := by decide +kernel
theorem dX7_init_151 : decode cX7_init 151 = .ok (.aload_n 0, 1) := by decide +kernel
theorem dX7_init_152 : decode cX7_init 152 = .ok (.sipush 400, 3) := by decide +kernel
theorem dX7_init_155 : decode cX7_init 155 = .ok (.newarray .int, 2) := by decide +kernel
theorem dX7_init_157 : decode cX7_init 157 = .ok (.putfield 65, 3) := by decide +kernel
theorem dX7_init_160 : decode cX7_init 160 = .ok (.aload_n 0, 1) := by decide +kernel
theorem dX7_init_161 : decode cX7_init 161 = .ok (.sipush 400, 3) := by decide +kernel
theorem dX7_init_164 : decode cX7_init 164 = .ok (.newarray .int, 2) := by decide +kernel
theorem dX7_init_166 : decode cX7_init 166 = .ok (.putfield 68, 3) := by decide +kernel
theorem dX7_init_169 : decode cX7_init 169 = .ok (.aload_n 0, 1) := by decide +kernel
theorem dX7_init_170 : decode cX7_init 170 = .ok (.sipush 400, 3) := by decide +kernel
theorem dX7_init_173 : decode cX7_init 173 = .ok (.newarray .int, 2) := by decide +kernel
theorem dX7_init_175 : decode cX7_init 175 = .ok (.putfield 71, 3) := by decide +kernel
theorem dX7_init_178 : decode cX7_init 178 = .ok (.aload_n 0, 1) := by decide +kernel
theorem dX7_init_179 : decode cX7_init 179 = .ok (.bipush 12, 2) := by decide +kernel
theorem dX7_init_181 : decode cX7_init 181 = .ok (.newarray .int, 2) := by decide +kernel
theorem dX7_init_183 : decode cX7_init 183 = .ok (.putfield 74, 3) := by decide +kernel
theorem dX7_init_186 : decode cX7_init 186 = .ok (.aload_n 0, 1) := by decide +kernel
theorem dX7_init_187 : decode cX7_init 187 = .ok (.bipush 12, 2) := by decide +kernel
theorem dX7_init_189 : decode cX7_init 189 = .ok (.newarray .int, 2) := by decide +kernel
theorem dX7_init_191 : decode cX7_init 191 = .ok (.putfield 77, 3) := by decide +kernel
theorem dX7_init_194 : decode cX7_init 194 = .ok (.aload_n 0, 1) := by decide +kernel
theorem dX7_init_195 : decode cX7_init 195 = .ok (.bipush 78, 2) := by decide +kernel
theorem dX7_init_197 : decode cX7_init 197 = .ok (.newarray .int, 2) := by decide +kernel
theorem dX7_init_199 : decode cX7_init 199 = .ok (.putfield 80, 3) := by decide +kernel
theorem dX7_init_202 : decode cX7_init 202 = .ok (.aload_n 0, 1) := by decide +kernel
theorem dX7_init_203 : decode cX7_init 203 = .ok (.bipush 78, 2) := by decide +kernel
theorem dX7_init_205 : decode cX7_init 205 = .ok (.newarray .int, 2) := by decide +kernel
theorem dX7_init_207 : decode cX7_init 207 = .ok (.putfield 83, 3) := by decide +kernel
theorem dX7_init_210 : decode cX7_init 210 = .ok (.aload_n 0, 1) := by decide +kernel
theorem dX7_init_211 : decode cX7_init 211 = .ok (.bipush 78, 2) := by decide +kernel
theorem dX7_init_213 : decode cX7_init 213 = .ok (.newarray .int, 2) := by decide +kernel
theorem dX7_init_215 : decode cX7_init 215 = .ok (.putfield 86, 3) := by decide +kernel
theorem dX7_init_218 : decode cX7_init 218 = .ok (.aload_n 0, 1) := by decide +kernel
theorem dX7_init_219 : decode cX7_init 219 = .ok (.bipush 12, 2) := by decide +kernel
theorem dX7_init_221 : decode cX7_init 221 = .ok (.newarray .int, 2) := by decide +kernel
theorem dX7_init_223 : decode cX7_init 223 = .ok (.putfield 89, 3) := by decide +kernel
theorem dX7_init_226 : decode cX7_init 226 = .ok (.return_, 1) := by decide +kernel
theorem dX7_thrown_0 : decode cX7_thrown 0 = .ok (.aload_n 0, 1) := by decide +kernel
theorem dX7_thrown_1 : decode cX7_thrown 1 = .ok (.getfield 92, 3) := by decide +kernel
theorem dX7_thrown_4 : decode cX7_thrown 4 = .ok (.ireturn, 1) := by decide +kernel
theorem dX7_in_0 : decode cX7_in 0 = .ok (.iload_n 0, 1) := by decide +kernel
theorem dX7_in_1 : decode cX7_in 1 = .ok (.iload_n 1, 1) := by decide +kernel
theorem dX7_in_2 : decode cX7_in 2 = .ok (.if_icmp .lt 12, 3) := by decide +kernel
theorem dX7_in_5 : decode cX7_in 5 = .ok (.iload_n 0, 1) := by decide +kernel
theorem dX7_in_6 : decode cX7_in 6 = .ok (.iload_n 2, 1) := by decide +kernel
theorem dX7_in_7 : decode cX7_in 7 = .ok (.if_icmp .gt 7, 3) := by decide +kernel
theorem dX7_in_10 : decode cX7_in 10 = .ok (.iconst 1, 1) := by decide +kernel
theorem dX7_in_11 : decode cX7_in 11 = .ok (.goto 4, 3) := by decide +kernel
theorem dX7_in_14 : decode cX7_in 14 = .ok (.iconst 0, 1) := by decide +kernel
theorem dX7_in_15 : decode cX7_in 15 = .ok (.ireturn, 1) := by decide +kernel
theorem dX7_goes_0 : decode cX7_goes 0 = .ok (.aload_n 0, 1) := by decide +kernel
theorem dX7_goes_1 : decode cX7_goes 1 = .ok (.iload_n 1, 1) := by decide +kernel
theorem dX7_goes_2 : decode cX7_goes 2 = .ok (.ifCond .ne 7, 3) := by decide +kernel
theorem dX7_goes_5 : decode cX7_goes 5 = .ok (.iconst 1, 1) := by decide +kernel
theorem dX7_goes_6 : decode cX7_goes 6 = .ok (.goto 20, 3) := by decide +kernel
theorem dX7_goes_9 : decode cX7_goes 9 = .ok (.iload_n 2, 1) := by decide +kernel
theorem dX7_goes_10 : decode cX7_goes 10 = .ok (.ifCond .ne 7, 3) := by decide +kernel
theorem dX7_goes_13 : decode cX7_goes 13 = .ok (.iconst 2, 1) := by decide +kernel
theorem dX7_goes_14 : decode cX7_goes 14 = .ok (.goto 12, 3) := by decide +kernel
theorem dX7_goes_17 : decode cX7_goes 17 = .ok (.iload_n 3, 1) := by decide +kernel
theorem dX7_goes_18 : decode cX7_goes 18 = .ok (.ifCond .eq 7, 3) := by decide +kernel
theorem dX7_goes_21 : decode cX7_goes 21 = .ok (.iconst 0, 1) := by decide +kernel
theorem dX7_goes_22 : decode cX7_goes 22 = .ok (.goto 4, 3) := by decide +kernel
theorem dX7_goes_25 : decode cX7_goes 25 = .ok (.iconst 3, 1) := by decide +kernel
theorem dX7_goes_26 : decode cX7_goes 26 = .ok (.putfield 92, 3) := by decide +kernel
theorem dX7_goes_29 : decode cX7_goes 29 = .ok (.aload_n 0, 1) := by decide +kernel
theorem dX7_goes_30 : decode cX7_goes 30 = .ok (.getfield 92, 3) := by decide +kernel
theorem dX7_goes_33 : decode cX7_goes 33 = .ok (.ifCond .ne 7, 3) := by decide +kernel
theorem dX7_goes_36 : decode cX7_goes 36 = .ok (.iconst 1, 1) := by decide +kernel
theorem dX7_goes_37 : decode cX7_goes 37 = .ok (.goto 4, 3) := by decide +kernel
theorem dX7_goes_40 : decode cX7_goes 40 = .ok (.iconst 0, 1) := by decide +kernel
theorem dX7_goes_41 : decode cX7_goes 41 = .ok (.ireturn, 1) := by decide +kernel
theorem dX7_isInstrument_0 : decode cX7_isInstrument 0 = .ok (.iload_n 0, 1) := by decide +kernel
theorem dX7_isInstrument_1 : decode cX7_isInstrument 1 = .ok (.iconst 0, 1) := by decide +kernel
theorem dX7_isInstrument_2 : decode cX7_isInstrument 2 = .ok (.iconst 4, 1) := by decide +kernel
theorem dX7_isInstrument_3 : decode cX7_isInstrument 3 = .ok (.invokestatic 95, 3) := by decide +kernel
theorem dX7_isInstrument_6 : decode cX7_isInstrument 6 = .ok (.ireturn, 1) := by decide +kernel
theorem dX7_isBar_0 : decode cX7_isBar 0 = .ok (.iload_n 1, 1) := by decide +kernel
theorem dX7_isBar_1 : decode cX7_isBar 1 = .ok (.iconst 0, 1) := by decide +kernel
theorem dX7_isBar_2 : decode cX7_isBar 2 = .ok (.aload_n 0, 1) := by decide +kernel
theorem dX7_isBar_3 : decode cX7_isBar 3 = .ok (.getfield 99, 3) := by decide +kernel
theorem dX7_isBar_6 : decode cX7_isBar 6 = .ok (.iconst 1, 1) := by decide +kernel
theorem dX7_isBar_7 : decode cX7_isBar 7 = .ok (.isub, 1) := by decide +kernel
theorem dX7_isBar_8 : decode cX7_isBar 8 = .ok (.invokestatic 95, 3) := by decide +kernel
theorem dX7_isBar_11 : decode cX7_isBar 11 = .ok (.ireturn, 1) := by decide +kernel
theorem dX7_isBook_0 : decode cX7_isBook 0 = .ok (.iload_n 0, 1) := by decide +kernel
theorem dX7_isBook_1 : decode cX7_isBook 1 = .ok (.iconst 0, 1) := by decide +kernel
theorem dX7_isBook_2 : decode cX7_isBook 2 = .ok (.iconst 5, 1) := by decide +kernel
theorem dX7_isBook_3 : decode cX7_isBook 3 = .ok (.invokestatic 95, 3) := by decide +kernel
theorem dX7_isBook_6 : decode cX7_isBook 6 = .ok (.ireturn, 1) := by decide +kernel
theorem dX7_isCopy_0 : decode cX7_isCopy 0 = .ok (.iload_n 1, 1) := by decide +kernel
theorem dX7_isCopy_1 : decode cX7_isCopy 1 = .ok (.iconst 0, 1) := by decide +kernel
theorem dX7_isCopy_2 : decode cX7_isCopy 2 = .ok (.aload_n 0, 1) := by decide +kernel
theorem dX7_isCopy_3 : decode cX7_isCopy 3 = .ok (.getfield 102, 3) := by decide +kernel
theorem dX7_isCopy_6 : decode cX7_isCopy 6 = .ok (.iconst 1, 1) := by decide +kernel
theorem dX7_isCopy_7 : decode cX7_isCopy 7 = .ok (.isub, 1) := by decide +kernel
theorem dX7_isCopy_8 : decode cX7_isCopy 8 = .ok (.invokestatic 95, 3) := by decide +kernel
theorem dX7_isCopy_11 : decode cX7_isCopy 11 = .ok (.ireturn, 1) := by decide +kernel
theorem dX7_cell_0 : decode cX7_cell 0 = .ok (.bipush 12, 2) := by decide +kernel
theorem dX7_cell_2 : decode cX7_cell 2 = .ok (.iload_n 0, 1) := by decide +kernel
theorem dX7_cell_3 : decode cX7_cell 3 = .ok (.imul, 1) := by decide +kernel
theorem dX7_cell_4 : decode cX7_cell 4 = .ok (.iload_n 1, 1) := by decide +kernel
theorem dX7_cell_5 : decode cX7_cell 5 = .ok (.iadd, 1) := by decide +kernel
theorem dX7_cell_6 : decode cX7_cell 6 = .ok (.ireturn, 1) := by decide +kernel
theorem dX7_bar_0 : decode cX7_bar 0 = .ok (.aload_n 0, 1) := by decide +kernel
theorem dX7_bar_1 : decode cX7_bar 1 = .ok (.iload_n 1, 1) := by decide +kernel
theorem dX7_bar_2 : decode cX7_bar 2 = .ok (.iconst 1, 1) := by decide +kernel
theorem dX7_bar_3 : decode cX7_bar 3 = .ok (.bipush 32, 2) := by decide +kernel
theorem dX7_bar_5 : decode cX7_bar 5 = .ok (.invokestatic 95, 3) := by decide +kernel
theorem dX7_bar_8 : decode cX7_bar 8 = .ok (.aload_n 0, 1) := by decide +kernel
theorem dX7_bar_9 : decode cX7_bar 9 = .ok (.getfield 99, 3) := by decide +kernel
theorem dX7_bar_12 : decode cX7_bar 12 = .ok (.bipush 12, 2) := by decide +kernel
theorem dX7_bar_14 : decode cX7_bar 14 = .ok (.if_icmp .ge 7, 3) := by decide +kernel
theorem dX7_bar_17 : decode cX7_bar 17 = .ok (.iconst 1, 1) := by decide +kernel
theorem dX7_bar_18 : decode cX7_bar 18 = .ok (.goto 4, 3) := by decide +kernel
theorem dX7_bar_21 : decode cX7_bar 21 = .ok (.iconst 0, 1) := by decide +kernel
theorem dX7_bar_22 : decode cX7_bar 22 = .ok (.iconst 1, 1) := by decide +kernel
theorem dX7_bar_23 : decode cX7_bar 23 = .ok (.invokevirtual 105, 3) := by decide +kernel
theorem dX7_bar_26 : decode cX7_bar 26 = .ok (.ifCond .ne 5, 3) := by decide +kernel
theorem dX7_bar_29 : decode cX7_bar 29 = .ok (.iconst 0, 1) := by decide +kernel
theorem dX7_bar_30 : decode cX7_bar 30 = .ok (.ireturn, 1) := by decide +kernel
theorem dX7_bar_31 : decode cX7_bar 31 = .ok (.aload_n 0, 1) := by decide +kernel
theorem dX7_bar_32 : decode cX7_bar 32 = .ok (.getfield 7, 3) := by decide +kernel
theorem dX7_bar_35 : decode cX7_bar 35 = .ok (.aload_n 0, 1) := by decide +kernel
theorem dX7_bar_36 : decode cX7_bar 36 = .ok (.getfield 99, 3) := by decide +kernel
theorem dX7_bar_39 : decode cX7_bar 39 = .ok (.iload_n 1, 1) := by decide +kernel
theorem dX7_bar_40 : decode cX7_bar 40 = .ok (.iastore, 1) := by decide +kernel
theorem dX7_bar_41 : decode cX7_bar 41 = .ok (.aload_n 0, 1) := by decide +kernel
theorem dX7_bar_42 : decode cX7_bar 42 = .ok (.dup, 1) := by decide +kernel
theorem dX7_bar_43 : decode cX7_bar 43 = .ok (.getfield 99, 3) := by decide +kernel
theorem dX7_bar_46 : decode cX7_bar 46 = .ok (.iconst 1, 1) := by decide +kernel
theorem dX7_bar_47 : decode cX7_bar 47 = .ok (.iadd, 1) := by decide +kernel
theorem dX7_bar_48 : decode cX7_bar 48 = .ok (.putfield 99, 3) := by decide +kernel
theorem dX7_bar_51 : decode cX7_bar 51 = .ok (.aload_n 0, 1) := by decide +kernel
theorem dX7_bar_52 : decode cX7_bar 52 = .ok (.getfield 99, 3) := by decide +kernel
theorem dX7_bar_55 : decode cX7_bar 55 = .ok (.iconst 1, 1) := by decide +kernel
theorem dX7_bar_56 : decode cX7_bar 56 = .ok (.isub, 1) := by decide +kernel
theorem dX7_bar_57 : decode cX7_bar 57 = .ok (.ireturn, 1) := by decide +kernel
theorem dX7_filled_0 : decode cX7_filled 0 = .ok (.iconst 0, 1) := by decide +kernel
theorem dX7_filled_1 : decode cX7_filled 1 = .ok (.istore_n 3, 1) := by decide +kernel
theorem dX7_filled_2 : decode cX7_filled 2 = .ok (.iconst 0, 1) := by decide +kernel
theorem dX7_filled_3 : decode cX7_filled 3 = .ok (.istore 4, 2) := by decide +kernel
theorem dX7_filled_5 : decode cX7_filled 5 = .ok (.iload 4, 2) := by decide +kernel
theorem dX7_filled_7 : decode cX7_filled 7 = .ok (.iload_n 2, 1) := by decide +kernel
theorem dX7_filled_8 : decode cX7_filled 8 = .ok (.if_icmp .ge 24, 3) := by decide +kernel
theorem dX7_filled_11 : decode cX7_filled 11 = .ok (.iload_n 3, 1) := by decide +kernel
theorem dX7_filled_12 : decode cX7_filled 12 = .ok (.aload_n 0, 1) := by decide +kernel
theorem dX7_filled_13 : decode cX7_filled 13 = .ok (.getfield 13, 3) := by decide +kernel
theorem dX7_filled_16 : decode cX7_filled 16 = .ok (.bipush 8, 2) := by decide +kernel
theorem dX7_filled_18 : decode cX7_filled 18 = .ok (.iload_n 1, 1) := by decide +kernel
theorem dX7_filled_19 : decode cX7_filled 19 = .ok (.imul, 1) := by decide +kernel
theorem dX7_filled_20 : decode cX7_filled 20 = .ok (.iload 4, 2) := by decide +kernel
theorem dX7_filled_22 : decode cX7_filled 22 = .ok (.iadd, 1) := by decide +kernel
theorem dX7_filled_23 : decode cX7_filled 23 = .ok (.iaload, 1) := by decide +kernel
theorem dX7_filled_24 : decode cX7_filled 24 = .ok (.iadd, 1) := by decide +kernel
theorem dX7_filled_25 : decode cX7_filled 25 = .ok (.istore_n 3, 1) := by decide +kernel
theorem dX7_filled_26 : decode cX7_filled 26 = .ok (.iinc 4 1, 3) := by decide +kernel
theorem dX7_filled_29 : decode cX7_filled 29 = .ok (.goto (-24), 3) := by decide +kernel
theorem dX7_filled_32 : decode cX7_filled 32 = .ok (.iload_n 3, 1) := by decide +kernel
theorem dX7_filled_33 : decode cX7_filled 33 = .ok (.ireturn, 1) := by decide +kernel
theorem dX7_note_0 : decode cX7_note 0 = .ok (.iload_n 1, 1) := by decide +kernel
theorem dX7_note_1 : decode cX7_note 1 = .ok (.invokestatic 109, 3) := by decide +kernel
theorem dX7_note_4 : decode cX7_note 4 = .ok (.ifCond .eq 15, 3) := by decide +kernel
theorem dX7_note_7 : decode cX7_note 7 = .ok (.aload_n 0, 1) := by decide +kernel
theorem dX7_note_8 : decode cX7_note 8 = .ok (.iload_n 2, 1) := by decide +kernel
theorem dX7_note_9 : decode cX7_note 9 = .ok (.invokevirtual 113, 3) := by decide +kernel
theorem dX7_note_12 : decode cX7_note 12 = .ok (.ifCond .eq 7, 3) := by decide +kernel
theorem dX7_note_15 : decode cX7_note 15 = .ok (.iconst 1, 1) := by decide +kernel
theorem dX7_note_16 : decode cX7_note 16 = .ok (.goto 4, 3) := by decide +kernel
theorem dX7_note_19 : decode cX7_note 19 = .ok (.iconst 0, 1) := by decide +kernel
theorem dX7_note_20 : decode cX7_note 20 = .ok (.istore 5, 2) := by decide +kernel
theorem dX7_note_22 : decode cX7_note 22 = .ok (.iload_n 3, 1) := by decide +kernel
theorem dX7_note_23 : decode cX7_note 23 = .ok (.iconst 1, 1) := by decide +kernel
theorem dX7_note_24 : decode cX7_note 24 = .ok (.bipush 32, 2) := by decide +kernel
theorem dX7_note_26 : decode cX7_note 26 = .ok (.invokestatic 95, 3) := by decide +kernel
theorem dX7_note_29 : decode cX7_note 29 = .ok (.ifCond .eq 18, 3) := by decide +kernel
theorem dX7_note_32 : decode cX7_note 32 = .ok (.iload 4, 2) := by decide +kernel
theorem dX7_note_34 : decode cX7_note 34 = .ok (.iconst 0, 1) := by decide +kernel
theorem dX7_note_35 : decode cX7_note 35 = .ok (.bipush 60, 2) := by decide +kernel
theorem dX7_note_37 : decode cX7_note 37 = .ok (.invokestatic 95, 3) := by decide +kernel
theorem dX7_note_40 : decode cX7_note 40 = .ok (.ifCond .eq 7, 3) := by decide +kernel
theorem dX7_note_43 : decode cX7_note 43 = .ok (.iconst 1, 1) := by decide +kernel
theorem dX7_note_44 : decode cX7_note 44 = .ok (.goto 4, 3) := by decide +kernel
theorem dX7_note_47 : decode cX7_note 47 = .ok (.iconst 0, 1) := by decide +kernel
theorem dX7_note_48 : decode cX7_note 48 = .ok (.istore 6, 2) := by decide +kernel
theorem dX7_note_50 : decode cX7_note 50 = .ok (.iload 5, 2) := by decide +kernel
theorem dX7_note_52 : decode cX7_note 52 = .ok (.ifCond .eq 11, 3) := by decide +kernel
theorem dX7_note_55 : decode cX7_note 55 = .ok (.iload_n 1, 1) := by decide +kernel
theorem dX7_note_56 : decode cX7_note 56 = .ok (.iload_n 2, 1) := by decide +kernel
theorem dX7_note_57 : decode cX7_note 57 = .ok (.invokestatic 116, 3) := by decide +kernel
theorem dX7_note_60 : decode cX7_note 60 = .ok (.goto 4, 3) := by decide +kernel
theorem dX7_note_63 : decode cX7_note 63 = .ok (.iconst 0, 1) := by decide +kernel
theorem dX7_note_64 : decode cX7_note 64 = .ok (.istore 7, 2) := by decide +kernel
theorem dX7_note_66 : decode cX7_note 66 = .ok (.iload 5, 2) := by decide +kernel
theorem dX7_note_68 : decode cX7_note 68 = .ok (.ifCond .eq 48, 3) := by decide +kernel
theorem dX7_note_71 : decode cX7_note 71 = .ok (.aload_n 0, 1) := by decide +kernel
theorem dX7_note_72 : decode cX7_note 72 = .ok (.getfield 19, 3) := by decide +kernel
theorem dX7_note_75 : decode cX7_note 75 = .ok (.iload 7, 2) := by decide +kernel
theorem dX7_note_77 : decode cX7_note 77 = .ok (.iaload, 1) := by decide +kernel
theorem dX7_note_78 : decode cX7_note 78 = .ok (.bipush 8, 2) := by decide +kernel
theorem dX7_note_80 : decode cX7_note 80 = .ok (.if_icmp .ge 36, 3) := by decide +kernel
theorem dX7_note_83 : decode cX7_note 83 = .ok (.iload 6, 2) := by decide +kernel
theorem dX7_note_85 : decode cX7_note 85 = .ok (.ifCond .eq 31, 3) := by decide +kernel
theorem dX7_note_88 : decode cX7_note 88 = .ok (.aload_n 0, 1) := by decide +kernel
theorem dX7_note_89 : decode cX7_note 89 = .ok (.iload 7, 2) := by decide +kernel
theorem dX7_note_91 : decode cX7_note 91 = .ok (.aload_n 0, 1) := by decide +kernel
theorem dX7_note_92 : decode cX7_note 92 = .ok (.getfield 19, 3) := by decide +kernel
theorem dX7_note_95 : decode cX7_note 95 = .ok (.iload 7, 2) := by decide +kernel
theorem dX7_note_97 : decode cX7_note 97 = .ok (.iaload, 1) := by decide +kernel
theorem dX7_note_98 : decode cX7_note 98 = .ok (.invokevirtual 120, 3) := by decide +kernel
theorem dX7_note_101 : decode cX7_note 101 = .ok (.iload_n 3, 1) := by decide +kernel
theorem dX7_note_102 : decode cX7_note 102 = .ok (.iadd, 1) := by decide +kernel
theorem dX7_note_103 : decode cX7_note 103 = .ok (.aload_n 0, 1) := by decide +kernel
theorem dX7_note_104 : decode cX7_note 104 = .ok (.getfield 7, 3) := by decide +kernel
theorem dX7_note_107 : decode cX7_note 107 = .ok (.iload_n 2, 1) := by decide +kernel
theorem dX7_note_108 : decode cX7_note 108 = .ok (.iaload, 1) := by decide +kernel
theorem dX7_note_109 : decode cX7_note 109 = .ok (.if_icmp .gt 7, 3) := by decide +kernel
theorem dX7_note_112 : decode cX7_note 112 = .ok (.iconst 1, 1) := by decide +kernel
theorem dX7_note_113 : decode cX7_note 113 = .ok (.goto 4, 3) := by decide +kernel
theorem dX7_note_116 : decode cX7_note 116 = .ok (.iconst 0, 1) := by decide +kernel
theorem dX7_note_117 : decode cX7_note 117 = .ok (.istore 8, 2) := by decide +kernel
theorem dX7_note_119 : decode cX7_note 119 = .ok (.aload_n 0, 1) := by decide +kernel
theorem dX7_note_120 : decode cX7_note 120 = .ok (.iload 5, 2) := by decide +kernel
theorem dX7_note_122 : decode cX7_note 122 = .ok (.iload 6, 2) := by decide +kernel
theorem dX7_note_124 : decode cX7_note 124 = .ok (.iload 8, 2) := by decide +kernel
theorem dX7_note_126 : decode cX7_note 126 = .ok (.invokevirtual 105, 3) := by decide +kernel
theorem dX7_note_129 : decode cX7_note 129 = .ok (.ifCond .ne 5, 3) := by decide +kernel
theorem dX7_note_132 : decode cX7_note 132 = .ok (.iconst 0, 1) := by decide +kernel
theorem dX7_note_133 : decode cX7_note 133 = .ok (.ireturn, 1) := by decide +kernel
theorem dX7_note_134 : decode cX7_note 134 = .ok (.aload_n 0, 1) := by decide +kernel
theorem dX7_note_135 : decode cX7_note 135 = .ok (.getfield 13, 3) := by decide +kernel
theorem dX7_note_138 : decode cX7_note 138 = .ok (.bipush 8, 2) := by decide +kernel
theorem dX7_note_140 : decode cX7_note 140 = .ok (.iload 7, 2) := by decide +kernel
theorem dX7_note_142 : decode cX7_note 142 = .ok (.imul, 1) := by decide +kernel
theorem dX7_note_143 : decode cX7_note 143 = .ok (.aload_n 0, 1) := by decide +kernel
theorem dX7_note_144 : decode cX7_note 144 = .ok (.getfield 19, 3) := by decide +kernel
theorem dX7_note_147 : decode cX7_note 147 = .ok (.iload 7, 2) := by decide +kernel
theorem dX7_note_149 : decode cX7_note 149 = .ok (.iaload, 1) := by decide +kernel
theorem dX7_note_150 : decode cX7_note 150 = .ok (.iadd, 1) := by decide +kernel
theorem dX7_note_151 : decode cX7_note 151 = .ok (.iload_n 3, 1) := by decide +kernel
theorem dX7_note_152 : decode cX7_note 152 = .ok (.iastore, 1) := by decide +kernel
theorem dX7_note_153 : decode cX7_note 153 = .ok (.aload_n 0, 1) := by decide +kernel
theorem dX7_note_154 : decode cX7_note 154 = .ok (.getfield 16, 3) := by decide +kernel
theorem dX7_note_157 : decode cX7_note 157 = .ok (.bipush 8, 2) := by decide +kernel
theorem dX7_note_159 : decode cX7_note 159 = .ok (.iload 7, 2) := by decide +kernel
theorem dX7_note_161 : decode cX7_note 161 = .ok (.imul, 1) := by decide +kernel
theorem dX7_note_162 : decode cX7_note 162 = .ok (.aload_n 0, 1) := by decide +kernel
theorem dX7_note_163 : decode cX7_note 163 = .ok (.getfield 19, 3) := by decide +kernel
theorem dX7_note_166 : decode cX7_note 166 = .ok (.iload 7, 2) := by decide +kernel
theorem dX7_note_168 : decode cX7_note 168 = .ok (.iaload, 1) := by decide +kernel
theorem dX7_note_169 : decode cX7_note 169 = .ok (.iadd, 1) := by decide +kernel
theorem dX7_note_170 : decode cX7_note 170 = .ok (.iload 4, 2) := by decide +kernel
theorem dX7_note_172 : decode cX7_note 172 = .ok (.iastore, 1) := by decide +kernel
theorem dX7_note_173 : decode cX7_note 173 = .ok (.aload_n 0, 1) := by decide +kernel
theorem dX7_note_174 : decode cX7_note 174 = .ok (.getfield 19, 3) := by decide +kernel
theorem dX7_note_177 : decode cX7_note 177 = .ok (.iload 7, 2) := by decide +kernel
theorem dX7_note_179 : decode cX7_note 179 = .ok (.dup2, 1) := by decide +kernel
theorem dX7_note_180 : decode cX7_note 180 = .ok (.iaload, 1) := by decide +kernel
theorem dX7_note_181 : decode cX7_note 181 = .ok (.iconst 1, 1) := by decide +kernel
theorem dX7_note_182 : decode cX7_note 182 = .ok (.iadd, 1) := by decide +kernel
theorem dX7_note_183 : decode cX7_note 183 = .ok (.iastore, 1) := by decide +kernel
theorem dX7_note_184 : decode cX7_note 184 = .ok (.aload_n 0, 1) := by decide +kernel
theorem dX7_note_185 : decode cX7_note 185 = .ok (.getfield 22, 3) := by decide +kernel
theorem dX7_note_188 : decode cX7_note 188 = .ok (.iload 7, 2) := by decide +kernel
theorem dX7_note_190 : decode cX7_note 190 = .ok (.dup2, 1) := by decide +kernel
theorem dX7_note_191 : decode cX7_note 191 = .ok (.iaload, 1) := by decide +kernel
theorem dX7_note_192 : decode cX7_note 192 = .ok (.iconst 1, 1) := by decide +kernel
theorem dX7_note_193 : decode cX7_note 193 = .ok (.iadd, 1) := by decide +kernel
theorem dX7_note_194 : decode cX7_note 194 = .ok (.iastore, 1) := by decide +kernel
theorem dX7_note_195 : decode cX7_note 195 = .ok (.aload_n 0, 1) := by decide +kernel
theorem dX7_note_196 : decode cX7_note 196 = .ok (.getfield 19, 3) := by decide +kernel
theorem dX7_note_199 : decode cX7_note 199 = .ok (.iload 7, 2) := by decide +kernel
theorem dX7_note_201 : decode cX7_note 201 = .ok (.iaload, 1) := by decide +kernel
theorem dX7_note_202 : decode cX7_note 202 = .ok (.ireturn, 1) := by decide +kernel
theorem dX7_isNote_0 : decode cX7_isNote 0 = .ok (.iload_n 1, 1) := by decide +kernel
theorem dX7_isNote_1 : decode cX7_isNote 1 = .ok (.invokestatic 109, 3) := by decide +kernel
theorem dX7_isNote_4 : decode cX7_isNote 4 = .ok (.ifCond .eq 35, 3) := by decide +kernel
theorem dX7_isNote_7 : decode cX7_isNote 7 = .ok (.aload_n 0, 1) := by decide +kernel
theorem dX7_isNote_8 : decode cX7_isNote 8 = .ok (.iload_n 2, 1) := by decide +kernel
theorem dX7_isNote_9 : decode cX7_isNote 9 = .ok (.invokevirtual 113, 3) := by decide +kernel
theorem dX7_isNote_12 : decode cX7_isNote 12 = .ok (.ifCond .eq 27, 3) := by decide +kernel
theorem dX7_isNote_15 : decode cX7_isNote 15 = .ok (.iload_n 3, 1) := by decide +kernel
theorem dX7_isNote_16 : decode cX7_isNote 16 = .ok (.iconst 0, 1) := by decide +kernel
theorem dX7_isNote_17 : decode cX7_isNote 17 = .ok (.aload_n 0, 1) := by decide +kernel
theorem dX7_isNote_18 : decode cX7_isNote 18 = .ok (.getfield 19, 3) := by decide +kernel
theorem dX7_isNote_21 : decode cX7_isNote 21 = .ok (.iload_n 1, 1) := by decide +kernel
theorem dX7_isNote_22 : decode cX7_isNote 22 = .ok (.iload_n 2, 1) := by decide +kernel
theorem dX7_isNote_23 : decode cX7_isNote 23 = .ok (.invokestatic 116, 3) := by decide +kernel
theorem dX7_isNote_26 : decode cX7_isNote 26 = .ok (.iaload, 1) := by decide +kernel
theorem dX7_isNote_27 : decode cX7_isNote 27 = .ok (.iconst 1, 1) := by decide +kernel
theorem dX7_isNote_28 : decode cX7_isNote 28 = .ok (.isub, 1) := by decide +kernel
theorem dX7_isNote_29 : decode cX7_isNote 29 = .ok (.invokestatic 95, 3) := by decide +kernel
theorem dX7_isNote_32 : decode cX7_isNote 32 = .ok (.ifCond .eq 7, 3) := by decide +kernel
theorem dX7_isNote_35 : decode cX7_isNote 35 = .ok (.iconst 1, 1) := by decide +kernel
theorem dX7_isNote_36 : decode cX7_isNote 36 = .ok (.goto 4, 3) := by decide +kernel
theorem dX7_isNote_39 : decode cX7_isNote 39 = .ok (.iconst 0, 1) := by decide +kernel
theorem dX7_isNote_40 : decode cX7_isNote 40 = .ok (.ireturn, 1) := by decide +kernel
theorem dX7_mend_0 : decode cX7_mend 0 = .ok (.aload_n 0, 1) := by decide +kernel
theorem dX7_mend_1 : decode cX7_mend 1 = .ok (.iload_n 1, 1) := by decide +kernel
theorem dX7_mend_2 : decode cX7_mend 2 = .ok (.iload_n 2, 1) := by decide +kernel
theorem dX7_mend_3 : decode cX7_mend 3 = .ok (.iload_n 3, 1) := by decide +kernel
theorem dX7_mend_4 : decode cX7_mend 4 = .ok (.invokevirtual 123, 3) := by decide +kernel
theorem dX7_mend_7 : decode cX7_mend 7 = .ok (.istore 5, 2) := by decide +kernel
theorem dX7_mend_9 : decode cX7_mend 9 = .ok (.aload_n 0, 1) := by decide +kernel
theorem dX7_mend_10 : decode cX7_mend 10 = .ok (.iload 5, 2) := by decide +kernel
theorem dX7_mend_12 : decode cX7_mend 12 = .ok (.iload 4, 2) := by decide +kernel
theorem dX7_mend_14 : decode cX7_mend 14 = .ok (.iconst 0, 1) := by decide +kernel
theorem dX7_mend_15 : decode cX7_mend 15 = .ok (.bipush 60, 2) := by decide +kernel
theorem dX7_mend_17 : decode cX7_mend 17 = .ok (.invokestatic 95, 3) := by decide +kernel
theorem dX7_mend_20 : decode cX7_mend 20 = .ok (.iconst 1, 1) := by decide +kernel
theorem dX7_mend_21 : decode cX7_mend 21 = .ok (.invokevirtual 105, 3) := by decide +kernel
theorem dX7_mend_24 : decode cX7_mend 24 = .ok (.ifCond .ne 5, 3) := by decide +kernel
theorem dX7_mend_27 : decode cX7_mend 27 = .ok (.iconst 0, 1) := by decide +kernel
theorem dX7_mend_28 : decode cX7_mend 28 = .ok (.ireturn, 1) := by decide +kernel
theorem dX7_mend_29 : decode cX7_mend 29 = .ok (.iload_n 1, 1) := by decide +kernel
theorem dX7_mend_30 : decode cX7_mend 30 = .ok (.iload_n 2, 1) := by decide +kernel
theorem dX7_mend_31 : decode cX7_mend 31 = .ok (.invokestatic 116, 3) := by decide +kernel
theorem dX7_mend_34 : decode cX7_mend 34 = .ok (.istore 6, 2) := by decide +kernel
theorem dX7_mend_36 : decode cX7_mend 36 = .ok (.aload_n 0, 1) := by decide +kernel
theorem dX7_mend_37 : decode cX7_mend 37 = .ok (.getfield 16, 3) := by decide +kernel
theorem dX7_mend_40 : decode cX7_mend 40 = .ok (.bipush 8, 2) := by decide +kernel
theorem dX7_mend_42 : decode cX7_mend 42 = .ok (.iload 6, 2) := by decide +kernel
theorem dX7_mend_44 : decode cX7_mend 44 = .ok (.imul, 1) := by decide +kernel
theorem dX7_mend_45 : decode cX7_mend 45 = .ok (.iload_n 3, 1) := by decide +kernel
theorem dX7_mend_46 : decode cX7_mend 46 = .ok (.iadd, 1) := by decide +kernel
theorem dX7_mend_47 : decode cX7_mend 47 = .ok (.iaload, 1) := by decide +kernel
theorem dX7_mend_48 : decode cX7_mend 48 = .ok (.istore 7, 2) := by decide +kernel
theorem dX7_mend_50 : decode cX7_mend 50 = .ok (.aload_n 0, 1) := by decide +kernel
theorem dX7_mend_51 : decode cX7_mend 51 = .ok (.getfield 16, 3) := by decide +kernel
theorem dX7_mend_54 : decode cX7_mend 54 = .ok (.bipush 8, 2) := by decide +kernel
theorem dX7_mend_56 : decode cX7_mend 56 = .ok (.iload 6, 2) := by decide +kernel
theorem dX7_mend_58 : decode cX7_mend 58 = .ok (.imul, 1) := by decide +kernel
theorem dX7_mend_59 : decode cX7_mend 59 = .ok (.iload_n 3, 1) := by decide +kernel
theorem dX7_mend_60 : decode cX7_mend 60 = .ok (.iadd, 1) := by decide +kernel
theorem dX7_mend_61 : decode cX7_mend 61 = .ok (.iload 4, 2) := by decide +kernel
theorem dX7_mend_63 : decode cX7_mend 63 = .ok (.iastore, 1) := by decide +kernel
theorem dX7_mend_64 : decode cX7_mend 64 = .ok (.aload_n 0, 1) := by decide +kernel
theorem dX7_mend_65 : decode cX7_mend 65 = .ok (.getfield 22, 3) := by decide +kernel
theorem dX7_mend_68 : decode cX7_mend 68 = .ok (.iload 6, 2) := by decide +kernel
theorem dX7_mend_70 : decode cX7_mend 70 = .ok (.dup2, 1) := by decide +kernel
theorem dX7_mend_71 : decode cX7_mend 71 = .ok (.iaload, 1) := by decide +kernel
theorem dX7_mend_72 : decode cX7_mend 72 = .ok (.iload 7, 2) := by decide +kernel
theorem dX7_mend_74 : decode cX7_mend 74 = .ok (.iload 4, 2) := by decide +kernel
theorem dX7_mend_76 : decode cX7_mend 76 = .ok (.if_icmp .ne 7, 3) := by decide +kernel
theorem dX7_mend_79 : decode cX7_mend 79 = .ok (.iconst 0, 1) := by decide +kernel
theorem dX7_mend_80 : decode cX7_mend 80 = .ok (.goto 4, 3) := by decide +kernel
theorem dX7_mend_83 : decode cX7_mend 83 = .ok (.iconst 1, 1) := by decide +kernel
theorem dX7_mend_84 : decode cX7_mend 84 = .ok (.iadd, 1) := by decide +kernel
theorem dX7_mend_85 : decode cX7_mend 85 = .ok (.iastore, 1) := by decide +kernel
theorem dX7_mend_86 : decode cX7_mend 86 = .ok (.iload 7, 2) := by decide +kernel
theorem dX7_mend_88 : decode cX7_mend 88 = .ok (.ireturn, 1) := by decide +kernel
theorem dX7_empty_0 : decode cX7_empty 0 = .ok (.aload_n 0, 1) := by decide +kernel
theorem dX7_empty_1 : decode cX7_empty 1 = .ok (.iload_n 1, 1) := by decide +kernel
theorem dX7_empty_2 : decode cX7_empty 2 = .ok (.invokestatic 109, 3) := by decide +kernel
theorem dX7_empty_5 : decode cX7_empty 5 = .ok (.ifCond .eq 15, 3) := by decide +kernel
theorem dX7_empty_8 : decode cX7_empty 8 = .ok (.aload_n 0, 1) := by decide +kernel
theorem dX7_empty_9 : decode cX7_empty 9 = .ok (.iload_n 2, 1) := by decide +kernel
theorem dX7_empty_10 : decode cX7_empty 10 = .ok (.invokevirtual 113, 3) := by decide +kernel
theorem dX7_empty_13 : decode cX7_empty 13 = .ok (.ifCond .eq 7, 3) := by decide +kernel
theorem dX7_empty_16 : decode cX7_empty 16 = .ok (.iconst 1, 1) := by decide +kernel
theorem dX7_empty_17 : decode cX7_empty 17 = .ok (.goto 4, 3) := by decide +kernel
theorem dX7_empty_20 : decode cX7_empty 20 = .ok (.iconst 0, 1) := by decide +kernel
theorem dX7_empty_21 : decode cX7_empty 21 = .ok (.iconst 1, 1) := by decide +kernel
theorem dX7_empty_22 : decode cX7_empty 22 = .ok (.iconst 1, 1) := by decide +kernel
theorem dX7_empty_23 : decode cX7_empty 23 = .ok (.invokevirtual 105, 3) := by decide +kernel
theorem dX7_empty_26 : decode cX7_empty 26 = .ok (.ifCond .ne 5, 3) := by decide +kernel
theorem dX7_empty_29 : decode cX7_empty 29 = .ok (.iconst 0, 1) := by decide +kernel
theorem dX7_empty_30 : decode cX7_empty 30 = .ok (.ireturn, 1) := by decide +kernel
theorem dX7_empty_31 : decode cX7_empty 31 = .ok (.iload_n 1, 1) := by decide +kernel
theorem dX7_empty_32 : decode cX7_empty 32 = .ok (.iload_n 2, 1) := by decide +kernel
theorem dX7_empty_33 : decode cX7_empty 33 = .ok (.invokestatic 116, 3) := by decide +kernel
theorem dX7_empty_36 : decode cX7_empty 36 = .ok (.istore_n 3, 1) := by decide +kernel
theorem dX7_empty_37 : decode cX7_empty 37 = .ok (.aload_n 0, 1) := by decide +kernel
theorem dX7_empty_38 : decode cX7_empty 38 = .ok (.getfield 19, 3) := by decide +kernel
theorem dX7_empty_41 : decode cX7_empty 41 = .ok (.iload_n 3, 1) := by decide +kernel
theorem dX7_empty_42 : decode cX7_empty 42 = .ok (.iaload, 1) := by decide +kernel
theorem dX7_empty_43 : decode cX7_empty 43 = .ok (.istore 4, 2) := by decide +kernel
theorem dX7_empty_45 : decode cX7_empty 45 = .ok (.aload_n 0, 1) := by decide +kernel
theorem dX7_empty_46 : decode cX7_empty 46 = .ok (.getfield 19, 3) := by decide +kernel
theorem dX7_empty_49 : decode cX7_empty 49 = .ok (.iload_n 3, 1) := by decide +kernel
theorem dX7_empty_50 : decode cX7_empty 50 = .ok (.iconst 0, 1) := by decide +kernel
theorem dX7_empty_51 : decode cX7_empty 51 = .ok (.iastore, 1) := by decide +kernel
theorem dX7_empty_52 : decode cX7_empty 52 = .ok (.aload_n 0, 1) := by decide +kernel
theorem dX7_empty_53 : decode cX7_empty 53 = .ok (.getfield 22, 3) := by decide +kernel
theorem dX7_empty_56 : decode cX7_empty 56 = .ok (.iload_n 3, 1) := by decide +kernel
theorem dX7_empty_57 : decode cX7_empty 57 = .ok (.dup2, 1) := by decide +kernel
theorem dX7_empty_58 : decode cX7_empty 58 = .ok (.iaload, 1) := by decide +kernel
theorem dX7_empty_59 : decode cX7_empty 59 = .ok (.iload 4, 2) := by decide +kernel
theorem dX7_empty_61 : decode cX7_empty 61 = .ok (.ifCond .ne 7, 3) := by decide +kernel
theorem dX7_empty_64 : decode cX7_empty 64 = .ok (.iconst 0, 1) := by decide +kernel
theorem dX7_empty_65 : decode cX7_empty 65 = .ok (.goto 4, 3) := by decide +kernel
theorem dX7_empty_68 : decode cX7_empty 68 = .ok (.iconst 1, 1) := by decide +kernel
theorem dX7_empty_69 : decode cX7_empty 69 = .ok (.iadd, 1) := by decide +kernel
theorem dX7_empty_70 : decode cX7_empty 70 = .ok (.iastore, 1) := by decide +kernel
theorem dX7_empty_71 : decode cX7_empty 71 = .ok (.iload 4, 2) := by decide +kernel
theorem dX7_empty_73 : decode cX7_empty 73 = .ok (.ireturn, 1) := by decide +kernel
theorem dX7_setPaper_0 : decode cX7_setPaper 0 = .ok (.aload_n 0, 1) := by decide +kernel
theorem dX7_setPaper_1 : decode cX7_setPaper 1 = .ok (.iload_n 1, 1) := by decide +kernel
theorem dX7_setPaper_2 : decode cX7_setPaper 2 = .ok (.bipush 80, 2) := by decide +kernel
theorem dX7_setPaper_4 : decode cX7_setPaper 4 = .ok (.sipush 500, 3) := by decide +kernel
theorem dX7_setPaper_7 : decode cX7_setPaper 7 = .ok (.invokestatic 95, 3) := by decide +kernel
theorem dX7_setPaper_10 : decode cX7_setPaper 10 = .ok (.ifCond .eq 17, 3) := by decide +kernel
theorem dX7_setPaper_13 : decode cX7_setPaper 13 = .ok (.iload_n 2, 1) := by decide +kernel
theorem dX7_setPaper_14 : decode cX7_setPaper 14 = .ok (.iconst 1, 1) := by decide +kernel
theorem dX7_setPaper_15 : decode cX7_setPaper 15 = .ok (.bipush 6, 2) := by decide +kernel
theorem dX7_setPaper_17 : decode cX7_setPaper 17 = .ok (.invokestatic 95, 3) := by decide +kernel
theorem dX7_setPaper_20 : decode cX7_setPaper 20 = .ok (.ifCond .eq 7, 3) := by decide +kernel
theorem dX7_setPaper_23 : decode cX7_setPaper 23 = .ok (.iconst 1, 1) := by decide +kernel
theorem dX7_setPaper_24 : decode cX7_setPaper 24 = .ok (.goto 4, 3) := by decide +kernel
theorem dX7_setPaper_27 : decode cX7_setPaper 27 = .ok (.iconst 0, 1) := by decide +kernel
theorem dX7_setPaper_28 : decode cX7_setPaper 28 = .ok (.iconst 1, 1) := by decide +kernel
theorem dX7_setPaper_29 : decode cX7_setPaper 29 = .ok (.iconst 1, 1) := by decide +kernel
theorem dX7_setPaper_30 : decode cX7_setPaper 30 = .ok (.invokevirtual 105, 3) := by decide +kernel
theorem dX7_setPaper_33 : decode cX7_setPaper 33 = .ok (.ifCond .ne 5, 3) := by decide +kernel
theorem dX7_setPaper_36 : decode cX7_setPaper 36 = .ok (.iconst 0, 1) := by decide +kernel
theorem dX7_setPaper_37 : decode cX7_setPaper 37 = .ok (.ireturn, 1) := by decide +kernel
theorem dX7_setPaper_38 : decode cX7_setPaper 38 = .ok (.aload_n 0, 1) := by decide +kernel
theorem dX7_setPaper_39 : decode cX7_setPaper 39 = .ok (.getfield 25, 3) := by decide +kernel
theorem dX7_setPaper_42 : decode cX7_setPaper 42 = .ok (.istore_n 3, 1) := by decide +kernel
theorem dX7_setPaper_43 : decode cX7_setPaper 43 = .ok (.aload_n 0, 1) := by decide +kernel
theorem dX7_setPaper_44 : decode cX7_setPaper 44 = .ok (.iload_n 1, 1) := by decide +kernel
theorem dX7_setPaper_45 : decode cX7_setPaper 45 = .ok (.putfield 25, 3) := by decide +kernel
theorem dX7_setPaper_48 : decode cX7_setPaper 48 = .ok (.aload_n 0, 1) := by decide +kernel
theorem dX7_setPaper_49 : decode cX7_setPaper 49 = .ok (.iload_n 2, 1) := by decide +kernel
theorem dX7_setPaper_50 : decode cX7_setPaper 50 = .ok (.putfield 29, 3) := by decide +kernel
theorem dX7_setPaper_53 : decode cX7_setPaper 53 = .ok (.iload_n 3, 1) := by decide +kernel
theorem dX7_setPaper_54 : decode cX7_setPaper 54 = .ok (.ireturn, 1) := by decide +kernel
theorem dX7_copy_0 : decode cX7_copy 0 = .ok (.aload_n 0, 1) := by decide +kernel
theorem dX7_copy_1 : decode cX7_copy 1 = .ok (.iload_n 1, 1) := by decide +kernel
theorem dX7_copy_2 : decode cX7_copy 2 = .ok (.invokestatic 109, 3) := by decide +kernel
theorem dX7_copy_5 : decode cX7_copy 5 = .ok (.aload_n 0, 1) := by decide +kernel
theorem dX7_copy_6 : decode cX7_copy 6 = .ok (.getfield 102, 3) := by decide +kernel
theorem dX7_copy_9 : decode cX7_copy 9 = .ok (.bipush 16, 2) := by decide +kernel
theorem dX7_copy_11 : decode cX7_copy 11 = .ok (.if_icmp .ge 7, 3) := by decide +kernel
theorem dX7_copy_14 : decode cX7_copy 14 = .ok (.iconst 1, 1) := by decide +kernel
theorem dX7_copy_15 : decode cX7_copy 15 = .ok (.goto 4, 3) := by decide +kernel
theorem dX7_copy_18 : decode cX7_copy 18 = .ok (.iconst 0, 1) := by decide +kernel
theorem dX7_copy_19 : decode cX7_copy 19 = .ok (.iconst 1, 1) := by decide +kernel
theorem dX7_copy_20 : decode cX7_copy 20 = .ok (.invokevirtual 105, 3) := by decide +kernel
theorem dX7_copy_23 : decode cX7_copy 23 = .ok (.ifCond .ne 5, 3) := by decide +kernel
theorem dX7_copy_26 : decode cX7_copy 26 = .ok (.iconst 0, 1) := by decide +kernel
theorem dX7_copy_27 : decode cX7_copy 27 = .ok (.ireturn, 1) := by decide +kernel
theorem dX7_copy_28 : decode cX7_copy 28 = .ok (.aload_n 0, 1) := by decide +kernel
theorem dX7_copy_29 : decode cX7_copy 29 = .ok (.getfield 32, 3) := by decide +kernel
theorem dX7_copy_32 : decode cX7_copy 32 = .ok (.aload_n 0, 1) := by decide +kernel
theorem dX7_copy_33 : decode cX7_copy 33 = .ok (.getfield 102, 3) := by decide +kernel
theorem dX7_copy_36 : decode cX7_copy 36 = .ok (.iload_n 1, 1) := by decide +kernel
theorem dX7_copy_37 : decode cX7_copy 37 = .ok (.iastore, 1) := by decide +kernel
theorem dX7_copy_38 : decode cX7_copy 38 = .ok (.aload_n 0, 1) := by decide +kernel
theorem dX7_copy_39 : decode cX7_copy 39 = .ok (.getfield 35, 3) := by decide +kernel
theorem dX7_copy_42 : decode cX7_copy 42 = .ok (.aload_n 0, 1) := by decide +kernel
theorem dX7_copy_43 : decode cX7_copy 43 = .ok (.getfield 102, 3) := by decide +kernel
theorem dX7_copy_46 : decode cX7_copy 46 = .ok (.iconst (-1), 1) := by decide +kernel
theorem dX7_copy_47 : decode cX7_copy 47 = .ok (.iastore, 1) := by decide +kernel
theorem dX7_copy_48 : decode cX7_copy 48 = .ok (.aload_n 0, 1) := by decide +kernel
theorem dX7_copy_49 : decode cX7_copy 49 = .ok (.dup, 1) := by decide +kernel
theorem dX7_copy_50 : decode cX7_copy 50 = .ok (.getfield 102, 3) := by decide +kernel
theorem dX7_copy_53 : decode cX7_copy 53 = .ok (.iconst 1, 1) := by decide +kernel
theorem dX7_copy_54 : decode cX7_copy 54 = .ok (.iadd, 1) := by decide +kernel
theorem dX7_copy_55 : decode cX7_copy 55 = .ok (.putfield 102, 3) := by decide +kernel
theorem dX7_copy_58 : decode cX7_copy 58 = .ok (.aload_n 0, 1) := by decide +kernel
theorem dX7_copy_59 : decode cX7_copy 59 = .ok (.getfield 102, 3) := by decide +kernel
theorem dX7_copy_62 : decode cX7_copy 62 = .ok (.iconst 1, 1) := by decide +kernel
theorem dX7_copy_63 : decode cX7_copy 63 = .ok (.isub, 1) := by decide +kernel
theorem dX7_copy_64 : decode cX7_copy 64 = .ok (.ireturn, 1) := by decide +kernel
theorem dX7_away_0 : decode cX7_away 0 = .ok (.iconst 0, 1) := by decide +kernel
theorem dX7_away_1 : decode cX7_away 1 = .ok (.istore_n 1, 1) := by decide +kernel
theorem dX7_away_2 : decode cX7_away 2 = .ok (.iconst 0, 1) := by decide +kernel
theorem dX7_away_3 : decode cX7_away 3 = .ok (.istore_n 2, 1) := by decide +kernel
theorem dX7_away_4 : decode cX7_away 4 = .ok (.iload_n 2, 1) := by decide +kernel
theorem dX7_away_5 : decode cX7_away 5 = .ok (.aload_n 0, 1) := by decide +kernel
theorem dX7_away_6 : decode cX7_away 6 = .ok (.getfield 102, 3) := by decide +kernel
theorem dX7_away_9 : decode cX7_away 9 = .ok (.if_icmp .ge 27, 3) := by decide +kernel
theorem dX7_away_12 : decode cX7_away 12 = .ok (.iload_n 1, 1) := by decide +kernel
theorem dX7_away_13 : decode cX7_away 13 = .ok (.aload_n 0, 1) := by decide +kernel
theorem dX7_away_14 : decode cX7_away 14 = .ok (.getfield 35, 3) := by decide +kernel
theorem dX7_away_17 : decode cX7_away 17 = .ok (.iload_n 2, 1) := by decide +kernel
theorem dX7_away_18 : decode cX7_away 18 = .ok (.iaload, 1) := by decide +kernel
theorem dX7_away_19 : decode cX7_away 19 = .ok (.iconst (-1), 1) := by decide +kernel
theorem dX7_away_20 : decode cX7_away 20 = .ok (.if_icmp .ne 7, 3) := by decide +kernel
theorem dX7_away_23 : decode cX7_away 23 = .ok (.iconst 0, 1) := by decide +kernel
theorem dX7_away_24 : decode cX7_away 24 = .ok (.goto 4, 3) := by decide +kernel
theorem dX7_away_27 : decode cX7_away 27 = .ok (.iconst 1, 1) := by decide +kernel
theorem dX7_away_28 : decode cX7_away 28 = .ok (.iadd, 1) := by decide +kernel
theorem dX7_away_29 : decode cX7_away 29 = .ok (.istore_n 1, 1) := by decide +kernel
theorem dX7_away_30 : decode cX7_away 30 = .ok (.iinc 2 1, 3) := by decide +kernel
theorem dX7_away_33 : decode cX7_away 33 = .ok (.goto (-29), 3) := by decide +kernel
theorem dX7_away_36 : decode cX7_away 36 = .ok (.iload_n 1, 1) := by decide +kernel
theorem dX7_away_37 : decode cX7_away 37 = .ok (.ireturn, 1) := by decide +kernel
theorem dX7_renews_0 : decode cX7_renews 0 = .ok (.iconst 0, 1) := by decide +kernel
theorem dX7_renews_1 : decode cX7_renews 1 = .ok (.istore_n 2, 1) := by decide +kernel
theorem dX7_renews_2 : decode cX7_renews 2 = .ok (.iload_n 2, 1) := by decide +kernel
theorem dX7_renews_3 : decode cX7_renews 3 = .ok (.bipush 12, 2) := by decide +kernel
theorem dX7_renews_5 : decode cX7_renews 5 = .ok (.if_icmp .ge 47, 3) := by decide +kernel
theorem dX7_renews_8 : decode cX7_renews 8 = .ok (.aload_n 0, 1) := by decide +kernel
theorem dX7_renews_9 : decode cX7_renews 9 = .ok (.getfield 38, 3) := by decide +kernel
theorem dX7_renews_12 : decode cX7_renews 12 = .ok (.bipush 12, 2) := by decide +kernel
theorem dX7_renews_14 : decode cX7_renews 14 = .ok (.iload_n 1, 1) := by decide +kernel
theorem dX7_renews_15 : decode cX7_renews 15 = .ok (.imul, 1) := by decide +kernel
theorem dX7_renews_16 : decode cX7_renews 16 = .ok (.iload_n 2, 1) := by decide +kernel
theorem dX7_renews_17 : decode cX7_renews 17 = .ok (.iadd, 1) := by decide +kernel
theorem dX7_renews_18 : decode cX7_renews 18 = .ok (.iload_n 2, 1) := by decide +kernel
theorem dX7_renews_19 : decode cX7_renews 19 = .ok (.aload_n 0, 1) := by decide +kernel
theorem dX7_renews_20 : decode cX7_renews 20 = .ok (.getfield 99, 3) := by decide +kernel
theorem dX7_renews_23 : decode cX7_renews 23 = .ok (.if_icmp .ge 21, 3) := by decide +kernel
theorem dX7_renews_26 : decode cX7_renews 26 = .ok (.aload_n 0, 1) := by decide +kernel
theorem dX7_renews_27 : decode cX7_renews 27 = .ok (.getfield 22, 3) := by decide +kernel
theorem dX7_renews_30 : decode cX7_renews 30 = .ok (.aload_n 0, 1) := by decide +kernel
theorem dX7_renews_31 : decode cX7_renews 31 = .ok (.getfield 32, 3) := by decide +kernel
theorem dX7_renews_34 : decode cX7_renews 34 = .ok (.iload_n 1, 1) := by decide +kernel
theorem dX7_renews_35 : decode cX7_renews 35 = .ok (.iaload, 1) := by decide +kernel
theorem dX7_renews_36 : decode cX7_renews 36 = .ok (.iload_n 2, 1) := by decide +kernel
theorem dX7_renews_37 : decode cX7_renews 37 = .ok (.invokestatic 116, 3) := by decide +kernel
theorem dX7_renews_40 : decode cX7_renews 40 = .ok (.iaload, 1) := by decide +kernel
theorem dX7_renews_41 : decode cX7_renews 41 = .ok (.goto 4, 3) := by decide +kernel
theorem dX7_renews_44 : decode cX7_renews 44 = .ok (.iconst (-1), 1) := by decide +kernel
theorem dX7_renews_45 : decode cX7_renews 45 = .ok (.iastore, 1) := by decide +kernel
theorem dX7_renews_46 : decode cX7_renews 46 = .ok (.iinc 2 1, 3) := by decide +kernel
theorem dX7_renews_49 : decode cX7_renews 49 = .ok (.goto (-47), 3) := by decide +kernel
theorem dX7_renews_52 : decode cX7_renews 52 = .ok (.return_, 1) := by decide +kernel
theorem dX7_lend_0 : decode cX7_lend 0 = .ok (.aload_n 0, 1) := by decide +kernel
theorem dX7_lend_1 : decode cX7_lend 1 = .ok (.iload_n 1, 1) := by decide +kernel
theorem dX7_lend_2 : decode cX7_lend 2 = .ok (.invokevirtual 126, 3) := by decide +kernel
theorem dX7_lend_5 : decode cX7_lend 5 = .ok (.ifCond .eq 16, 3) := by decide +kernel
theorem dX7_lend_8 : decode cX7_lend 8 = .ok (.iload_n 2, 1) := by decide +kernel
theorem dX7_lend_9 : decode cX7_lend 9 = .ok (.iconst 0, 1) := by decide +kernel
theorem dX7_lend_10 : decode cX7_lend 10 = .ok (.iconst 5, 1) := by decide +kernel
theorem dX7_lend_11 : decode cX7_lend 11 = .ok (.invokestatic 95, 3) := by decide +kernel
theorem dX7_lend_14 : decode cX7_lend 14 = .ok (.ifCond .eq 7, 3) := by decide +kernel
theorem dX7_lend_17 : decode cX7_lend 17 = .ok (.iconst 1, 1) := by decide +kernel
theorem dX7_lend_18 : decode cX7_lend 18 = .ok (.goto 4, 3) := by decide +kernel
theorem dX7_lend_21 : decode cX7_lend 21 = .ok (.iconst 0, 1) := by decide +kernel
theorem dX7_lend_22 : decode cX7_lend 22 = .ok (.istore_n 3, 1) := by decide +kernel
theorem dX7_lend_23 : decode cX7_lend 23 = .ok (.iload_n 3, 1) := by decide +kernel
theorem dX7_lend_24 : decode cX7_lend 24 = .ok (.ifCond .eq 17, 3) := by decide +kernel
theorem dX7_lend_27 : decode cX7_lend 27 = .ok (.aload_n 0, 1) := by decide +kernel
theorem dX7_lend_28 : decode cX7_lend 28 = .ok (.getfield 35, 3) := by decide +kernel
theorem dX7_lend_31 : decode cX7_lend 31 = .ok (.iload_n 1, 1) := by decide +kernel
theorem dX7_lend_32 : decode cX7_lend 32 = .ok (.iaload, 1) := by decide +kernel
theorem dX7_lend_33 : decode cX7_lend 33 = .ok (.iconst (-1), 1) := by decide +kernel
theorem dX7_lend_34 : decode cX7_lend 34 = .ok (.if_icmp .ne 7, 3) := by decide +kernel
theorem dX7_lend_37 : decode cX7_lend 37 = .ok (.iconst 1, 1) := by decide +kernel
theorem dX7_lend_38 : decode cX7_lend 38 = .ok (.goto 4, 3) := by decide +kernel
theorem dX7_lend_41 : decode cX7_lend 41 = .ok (.iconst 0, 1) := by decide +kernel
theorem dX7_lend_42 : decode cX7_lend 42 = .ok (.istore 4, 2) := by decide +kernel
theorem dX7_lend_44 : decode cX7_lend 44 = .ok (.iconst 0, 1) := by decide +kernel
theorem dX7_lend_45 : decode cX7_lend 45 = .ok (.istore 5, 2) := by decide +kernel
theorem dX7_lend_47 : decode cX7_lend 47 = .ok (.iload 5, 2) := by decide +kernel
theorem dX7_lend_49 : decode cX7_lend 49 = .ok (.aload_n 0, 1) := by decide +kernel
theorem dX7_lend_50 : decode cX7_lend 50 = .ok (.getfield 102, 3) := by decide +kernel
theorem dX7_lend_53 : decode cX7_lend 53 = .ok (.if_icmp .ge 52, 3) := by decide +kernel
theorem dX7_lend_56 : decode cX7_lend 56 = .ok (.iload_n 3, 1) := by decide +kernel
theorem dX7_lend_57 : decode cX7_lend 57 = .ok (.ifCond .eq 48, 3) := by decide +kernel
theorem dX7_lend_60 : decode cX7_lend 60 = .ok (.iload 4, 2) := by decide +kernel
theorem dX7_lend_62 : decode cX7_lend 62 = .ok (.ifCond .eq 34, 3) := by decide +kernel
theorem dX7_lend_65 : decode cX7_lend 65 = .ok (.aload_n 0, 1) := by decide +kernel
theorem dX7_lend_66 : decode cX7_lend 66 = .ok (.getfield 35, 3) := by decide +kernel
theorem dX7_lend_69 : decode cX7_lend 69 = .ok (.iload 5, 2) := by decide +kernel
theorem dX7_lend_71 : decode cX7_lend 71 = .ok (.iaload, 1) := by decide +kernel
theorem dX7_lend_72 : decode cX7_lend 72 = .ok (.iload_n 2, 1) := by decide +kernel
theorem dX7_lend_73 : decode cX7_lend 73 = .ok (.if_icmp .ne 19, 3) := by decide +kernel
theorem dX7_lend_76 : decode cX7_lend 76 = .ok (.aload_n 0, 1) := by decide +kernel
theorem dX7_lend_77 : decode cX7_lend 77 = .ok (.getfield 32, 3) := by decide +kernel
theorem dX7_lend_80 : decode cX7_lend 80 = .ok (.iload 5, 2) := by decide +kernel
theorem dX7_lend_82 : decode cX7_lend 82 = .ok (.iaload, 1) := by decide +kernel
theorem dX7_lend_83 : decode cX7_lend 83 = .ok (.aload_n 0, 1) := by decide +kernel
theorem dX7_lend_84 : decode cX7_lend 84 = .ok (.getfield 32, 3) := by decide +kernel
theorem dX7_lend_87 : decode cX7_lend 87 = .ok (.iload_n 1, 1) := by decide +kernel
theorem dX7_lend_88 : decode cX7_lend 88 = .ok (.iaload, 1) := by decide +kernel
theorem dX7_lend_89 : decode cX7_lend 89 = .ok (.if_icmp .eq 7, 3) := by decide +kernel
theorem dX7_lend_92 : decode cX7_lend 92 = .ok (.iconst 1, 1) := by decide +kernel
theorem dX7_lend_93 : decode cX7_lend 93 = .ok (.goto 4, 3) := by decide +kernel
theorem dX7_lend_96 : decode cX7_lend 96 = .ok (.iconst 0, 1) := by decide +kernel
theorem dX7_lend_97 : decode cX7_lend 97 = .ok (.istore 4, 2) := by decide +kernel
theorem dX7_lend_99 : decode cX7_lend 99 = .ok (.iinc 5 1, 3) := by decide +kernel
theorem dX7_lend_102 : decode cX7_lend 102 = .ok (.goto (-55), 3) := by decide +kernel
theorem dX7_lend_105 : decode cX7_lend 105 = .ok (.aload_n 0, 1) := by decide +kernel
theorem dX7_lend_106 : decode cX7_lend 106 = .ok (.iload_n 3, 1) := by decide +kernel
theorem dX7_lend_107 : decode cX7_lend 107 = .ok (.iload 4, 2) := by decide +kernel
theorem dX7_lend_109 : decode cX7_lend 109 = .ok (.iconst 1, 1) := by decide +kernel
theorem dX7_lend_110 : decode cX7_lend 110 = .ok (.invokevirtual 105, 3) := by decide +kernel
theorem dX7_lend_113 : decode cX7_lend 113 = .ok (.ifCond .ne 5, 3) := by decide +kernel
theorem dX7_lend_116 : decode cX7_lend 116 = .ok (.iconst 0, 1) := by decide +kernel
theorem dX7_lend_117 : decode cX7_lend 117 = .ok (.ireturn, 1) := by decide +kernel
theorem dX7_lend_118 : decode cX7_lend 118 = .ok (.aload_n 0, 1) := by decide +kernel
theorem dX7_lend_119 : decode cX7_lend 119 = .ok (.getfield 35, 3) := by decide +kernel
theorem dX7_lend_122 : decode cX7_lend 122 = .ok (.iload_n 1, 1) := by decide +kernel
theorem dX7_lend_123 : decode cX7_lend 123 = .ok (.iload_n 2, 1) := by decide +kernel
theorem dX7_lend_124 : decode cX7_lend 124 = .ok (.iastore, 1) := by decide +kernel
theorem dX7_lend_125 : decode cX7_lend 125 = .ok (.aload_n 0, 1) := by decide +kernel
theorem dX7_lend_126 : decode cX7_lend 126 = .ok (.iload_n 1, 1) := by decide +kernel
theorem dX7_lend_127 : decode cX7_lend 127 = .ok (.invokevirtual 129, 3) := by decide +kernel
theorem dX7_lend_130 : decode cX7_lend 130 = .ok (.aload_n 0, 1) := by decide +kernel
theorem dX7_lend_131 : decode cX7_lend 131 = .ok (.invokevirtual 133, 3) := by decide +kernel
theorem dX7_lend_134 : decode cX7_lend 134 = .ok (.ireturn, 1) := by decide +kernel
theorem dX7_owes_0 : decode cX7_owes 0 = .ok (.aload_n 0, 1) := by decide +kernel
theorem dX7_owes_1 : decode cX7_owes 1 = .ok (.getfield 35, 3) := by decide +kernel
theorem dX7_owes_4 : decode cX7_owes 4 = .ok (.iload_n 1, 1) := by decide +kernel
theorem dX7_owes_5 : decode cX7_owes 5 = .ok (.iaload, 1) := by decide +kernel
theorem dX7_owes_6 : decode cX7_owes 6 = .ok (.iconst (-1), 1) := by decide +kernel
theorem dX7_owes_7 : decode cX7_owes 7 = .ok (.if_icmp .eq 36, 3) := by decide +kernel
theorem dX7_owes_10 : decode cX7_owes 10 = .ok (.aload_n 0, 1) := by decide +kernel
theorem dX7_owes_11 : decode cX7_owes 11 = .ok (.getfield 38, 3) := by decide +kernel
theorem dX7_owes_14 : decode cX7_owes 14 = .ok (.bipush 12, 2) := by decide +kernel
theorem dX7_owes_16 : decode cX7_owes 16 = .ok (.iload_n 1, 1) := by decide +kernel
theorem dX7_owes_17 : decode cX7_owes 17 = .ok (.imul, 1) := by decide +kernel
theorem dX7_owes_18 : decode cX7_owes 18 = .ok (.iload_n 2, 1) := by decide +kernel
theorem dX7_owes_19 : decode cX7_owes 19 = .ok (.iadd, 1) := by decide +kernel
theorem dX7_owes_20 : decode cX7_owes 20 = .ok (.iaload, 1) := by decide +kernel
theorem dX7_owes_21 : decode cX7_owes 21 = .ok (.aload_n 0, 1) := by decide +kernel
theorem dX7_owes_22 : decode cX7_owes 22 = .ok (.getfield 22, 3) := by decide +kernel
theorem dX7_owes_25 : decode cX7_owes 25 = .ok (.aload_n 0, 1) := by decide +kernel
theorem dX7_owes_26 : decode cX7_owes 26 = .ok (.getfield 32, 3) := by decide +kernel
theorem dX7_owes_29 : decode cX7_owes 29 = .ok (.iload_n 1, 1) := by decide +kernel
theorem dX7_owes_30 : decode cX7_owes 30 = .ok (.iaload, 1) := by decide +kernel
theorem dX7_owes_31 : decode cX7_owes 31 = .ok (.iload_n 2, 1) := by decide +kernel
theorem dX7_owes_32 : decode cX7_owes 32 = .ok (.invokestatic 116, 3) := by decide +kernel
theorem dX7_owes_35 : decode cX7_owes 35 = .ok (.iaload, 1) := by decide +kernel
theorem dX7_owes_36 : decode cX7_owes 36 = .ok (.if_icmp .eq 7, 3) := by decide +kernel
theorem dX7_owes_39 : decode cX7_owes 39 = .ok (.iconst 1, 1) := by decide +kernel
theorem dX7_owes_40 : decode cX7_owes 40 = .ok (.goto 4, 3) := by decide +kernel
theorem dX7_owes_43 : decode cX7_owes 43 = .ok (.iconst 0, 1) := by decide +kernel
theorem dX7_owes_44 : decode cX7_owes 44 = .ok (.ireturn, 1) := by decide +kernel
theorem dX7_owedBy_0 : decode cX7_owedBy 0 = .ok (.iconst 0, 1) := by decide +kernel
theorem dX7_owedBy_1 : decode cX7_owedBy 1 = .ok (.istore_n 2, 1) := by decide +kernel
theorem dX7_owedBy_2 : decode cX7_owedBy 2 = .ok (.iconst 0, 1) := by decide +kernel
theorem dX7_owedBy_3 : decode cX7_owedBy 3 = .ok (.istore_n 3, 1) := by decide +kernel
theorem dX7_owedBy_4 : decode cX7_owedBy 4 = .ok (.iload_n 3, 1) := by decide +kernel
theorem dX7_owedBy_5 : decode cX7_owedBy 5 = .ok (.aload_n 0, 1) := by decide +kernel
theorem dX7_owedBy_6 : decode cX7_owedBy 6 = .ok (.getfield 99, 3) := by decide +kernel
theorem dX7_owedBy_9 : decode cX7_owedBy 9 = .ok (.if_icmp .ge 26, 3) := by decide +kernel
theorem dX7_owedBy_12 : decode cX7_owedBy 12 = .ok (.iload_n 2, 1) := by decide +kernel
theorem dX7_owedBy_13 : decode cX7_owedBy 13 = .ok (.aload_n 0, 1) := by decide +kernel
theorem dX7_owedBy_14 : decode cX7_owedBy 14 = .ok (.iload_n 1, 1) := by decide +kernel
theorem dX7_owedBy_15 : decode cX7_owedBy 15 = .ok (.iload_n 3, 1) := by decide +kernel
theorem dX7_owedBy_16 : decode cX7_owedBy 16 = .ok (.invokevirtual 137, 3) := by decide +kernel
theorem dX7_owedBy_19 : decode cX7_owedBy 19 = .ok (.ifCond .eq 7, 3) := by decide +kernel
theorem dX7_owedBy_22 : decode cX7_owedBy 22 = .ok (.iconst 1, 1) := by decide +kernel
theorem dX7_owedBy_23 : decode cX7_owedBy 23 = .ok (.goto 4, 3) := by decide +kernel
theorem dX7_owedBy_26 : decode cX7_owedBy 26 = .ok (.iconst 0, 1) := by decide +kernel
theorem dX7_owedBy_27 : decode cX7_owedBy 27 = .ok (.iadd, 1) := by decide +kernel
theorem dX7_owedBy_28 : decode cX7_owedBy 28 = .ok (.istore_n 2, 1) := by decide +kernel
theorem dX7_owedBy_29 : decode cX7_owedBy 29 = .ok (.iinc 3 1, 3) := by decide +kernel
theorem dX7_owedBy_32 : decode cX7_owedBy 32 = .ok (.goto (-28), 3) := by decide +kernel
theorem dX7_owedBy_35 : decode cX7_owedBy 35 = .ok (.iload_n 2, 1) := by decide +kernel
theorem dX7_owedBy_36 : decode cX7_owedBy 36 = .ok (.ireturn, 1) := by decide +kernel
theorem dX7_isAway_0 : decode cX7_isAway 0 = .ok (.aload_n 0, 1) := by decide +kernel
theorem dX7_isAway_1 : decode cX7_isAway 1 = .ok (.iload_n 1, 1) := by decide +kernel
theorem dX7_isAway_2 : decode cX7_isAway 2 = .ok (.invokevirtual 126, 3) := by decide +kernel
theorem dX7_isAway_5 : decode cX7_isAway 5 = .ok (.ifCond .eq 17, 3) := by decide +kernel
theorem dX7_isAway_8 : decode cX7_isAway 8 = .ok (.aload_n 0, 1) := by decide +kernel
theorem dX7_isAway_9 : decode cX7_isAway 9 = .ok (.getfield 35, 3) := by decide +kernel
theorem dX7_isAway_12 : decode cX7_isAway 12 = .ok (.iload_n 1, 1) := by decide +kernel
theorem dX7_isAway_13 : decode cX7_isAway 13 = .ok (.iaload, 1) := by decide +kernel
theorem dX7_isAway_14 : decode cX7_isAway 14 = .ok (.iconst (-1), 1) := by decide +kernel
theorem dX7_isAway_15 : decode cX7_isAway 15 = .ok (.if_icmp .eq 7, 3) := by decide +kernel
theorem dX7_isAway_18 : decode cX7_isAway 18 = .ok (.iconst 1, 1) := by decide +kernel
theorem dX7_isAway_19 : decode cX7_isAway 19 = .ok (.goto 4, 3) := by decide +kernel
theorem dX7_isAway_22 : decode cX7_isAway 22 = .ok (.iconst 0, 1) := by decide +kernel
theorem dX7_isAway_23 : decode cX7_isAway 23 = .ok (.ireturn, 1) := by decide +kernel
theorem dX7_giveBack_0 : decode cX7_giveBack 0 = .ok (.aload_n 0, 1) := by decide +kernel
theorem dX7_giveBack_1 : decode cX7_giveBack 1 = .ok (.aload_n 0, 1) := by decide +kernel
theorem dX7_giveBack_2 : decode cX7_giveBack 2 = .ok (.iload_n 1, 1) := by decide +kernel
theorem dX7_giveBack_3 : decode cX7_giveBack 3 = .ok (.invokevirtual 126, 3) := by decide +kernel
theorem dX7_giveBack_6 : decode cX7_giveBack 6 = .ok (.aload_n 0, 1) := by decide +kernel
theorem dX7_giveBack_7 : decode cX7_giveBack 7 = .ok (.iload_n 1, 1) := by decide +kernel
theorem dX7_giveBack_8 : decode cX7_giveBack 8 = .ok (.invokevirtual 141, 3) := by decide +kernel
theorem dX7_giveBack_11 : decode cX7_giveBack 11 = .ok (.iconst 1, 1) := by decide +kernel
theorem dX7_giveBack_12 : decode cX7_giveBack 12 = .ok (.invokevirtual 105, 3) := by decide +kernel
theorem dX7_giveBack_15 : decode cX7_giveBack 15 = .ok (.ifCond .ne 5, 3) := by decide +kernel
theorem dX7_giveBack_18 : decode cX7_giveBack 18 = .ok (.iconst 0, 1) := by decide +kernel
theorem dX7_giveBack_19 : decode cX7_giveBack 19 = .ok (.ireturn, 1) := by decide +kernel
theorem dX7_giveBack_20 : decode cX7_giveBack 20 = .ok (.aload_n 0, 1) := by decide +kernel
theorem dX7_giveBack_21 : decode cX7_giveBack 21 = .ok (.iload_n 1, 1) := by decide +kernel
theorem dX7_giveBack_22 : decode cX7_giveBack 22 = .ok (.invokevirtual 144, 3) := by decide +kernel
theorem dX7_giveBack_25 : decode cX7_giveBack 25 = .ok (.istore_n 2, 1) := by decide +kernel
theorem dX7_giveBack_26 : decode cX7_giveBack 26 = .ok (.aload_n 0, 1) := by decide +kernel
theorem dX7_giveBack_27 : decode cX7_giveBack 27 = .ok (.getfield 35, 3) := by decide +kernel
theorem dX7_giveBack_30 : decode cX7_giveBack 30 = .ok (.iload_n 1, 1) := by decide +kernel
theorem dX7_giveBack_31 : decode cX7_giveBack 31 = .ok (.iconst (-1), 1) := by decide +kernel
theorem dX7_giveBack_32 : decode cX7_giveBack 32 = .ok (.iastore, 1) := by decide +kernel
theorem dX7_giveBack_33 : decode cX7_giveBack 33 = .ok (.iload_n 2, 1) := by decide +kernel
theorem dX7_giveBack_34 : decode cX7_giveBack 34 = .ok (.ireturn, 1) := by decide +kernel
theorem dX7_paste_0 : decode cX7_paste 0 = .ok (.aload_n 0, 1) := by decide +kernel
theorem dX7_paste_1 : decode cX7_paste 1 = .ok (.aload_n 0, 1) := by decide +kernel
theorem dX7_paste_2 : decode cX7_paste 2 = .ok (.iload_n 1, 1) := by decide +kernel
theorem dX7_paste_3 : decode cX7_paste 3 = .ok (.invokevirtual 126, 3) := by decide +kernel
theorem dX7_paste_6 : decode cX7_paste 6 = .ok (.aload_n 0, 1) := by decide +kernel
theorem dX7_paste_7 : decode cX7_paste 7 = .ok (.iload_n 1, 1) := by decide +kernel
theorem dX7_paste_8 : decode cX7_paste 8 = .ok (.invokevirtual 141, 3) := by decide +kernel
theorem dX7_paste_11 : decode cX7_paste 11 = .ok (.iconst 1, 1) := by decide +kernel
theorem dX7_paste_12 : decode cX7_paste 12 = .ok (.invokevirtual 105, 3) := by decide +kernel
theorem dX7_paste_15 : decode cX7_paste 15 = .ok (.ifCond .ne 5, 3) := by decide +kernel
theorem dX7_paste_18 : decode cX7_paste 18 = .ok (.iconst 0, 1) := by decide +kernel
theorem dX7_paste_19 : decode cX7_paste 19 = .ok (.ireturn, 1) := by decide +kernel
theorem dX7_paste_20 : decode cX7_paste 20 = .ok (.aload_n 0, 1) := by decide +kernel
theorem dX7_paste_21 : decode cX7_paste 21 = .ok (.iload_n 1, 1) := by decide +kernel
theorem dX7_paste_22 : decode cX7_paste 22 = .ok (.invokevirtual 144, 3) := by decide +kernel
theorem dX7_paste_25 : decode cX7_paste 25 = .ok (.istore_n 2, 1) := by decide +kernel
theorem dX7_paste_26 : decode cX7_paste 26 = .ok (.aload_n 0, 1) := by decide +kernel
theorem dX7_paste_27 : decode cX7_paste 27 = .ok (.iload_n 1, 1) := by decide +kernel
theorem dX7_paste_28 : decode cX7_paste 28 = .ok (.invokevirtual 129, 3) := by decide +kernel
theorem dX7_paste_31 : decode cX7_paste 31 = .ok (.iload_n 2, 1) := by decide +kernel
theorem dX7_paste_32 : decode cX7_paste 32 = .ok (.ireturn, 1) := by decide +kernel
theorem dX7_mark_0 : decode cX7_mark 0 = .ok (.aload_n 0, 1) := by decide +kernel
theorem dX7_mark_1 : decode cX7_mark 1 = .ok (.iload_n 1, 1) := by decide +kernel
theorem dX7_mark_2 : decode cX7_mark 2 = .ok (.invokevirtual 126, 3) := by decide +kernel
theorem dX7_mark_5 : decode cX7_mark 5 = .ok (.ifCond .eq 15, 3) := by decide +kernel
theorem dX7_mark_8 : decode cX7_mark 8 = .ok (.aload_n 0, 1) := by decide +kernel
theorem dX7_mark_9 : decode cX7_mark 9 = .ok (.iload_n 2, 1) := by decide +kernel
theorem dX7_mark_10 : decode cX7_mark 10 = .ok (.invokevirtual 113, 3) := by decide +kernel
theorem dX7_mark_13 : decode cX7_mark 13 = .ok (.ifCond .eq 7, 3) := by decide +kernel
theorem dX7_mark_16 : decode cX7_mark 16 = .ok (.iconst 1, 1) := by decide +kernel
theorem dX7_mark_17 : decode cX7_mark 17 = .ok (.goto 4, 3) := by decide +kernel
theorem dX7_mark_20 : decode cX7_mark 20 = .ok (.iconst 0, 1) := by decide +kernel
theorem dX7_mark_21 : decode cX7_mark 21 = .ok (.istore 4, 2) := by decide +kernel
theorem dX7_mark_23 : decode cX7_mark 23 = .ok (.iload 4, 2) := by decide +kernel
theorem dX7_mark_25 : decode cX7_mark 25 = .ok (.ifCond .eq 32, 3) := by decide +kernel
theorem dX7_mark_28 : decode cX7_mark 28 = .ok (.aload_n 0, 1) := by decide +kernel
theorem dX7_mark_29 : decode cX7_mark 29 = .ok (.getfield 35, 3) := by decide +kernel
theorem dX7_mark_32 : decode cX7_mark 32 = .ok (.iload_n 1, 1) := by decide +kernel
theorem dX7_mark_33 : decode cX7_mark 33 = .ok (.iaload, 1) := by decide +kernel
theorem dX7_mark_34 : decode cX7_mark 34 = .ok (.iconst (-1), 1) := by decide +kernel
theorem dX7_mark_35 : decode cX7_mark 35 = .ok (.if_icmp .eq 22, 3) := by decide +kernel
theorem dX7_mark_38 : decode cX7_mark 38 = .ok (.aload_n 0, 1) := by decide +kernel
theorem dX7_mark_39 : decode cX7_mark 39 = .ok (.getfield 38, 3) := by decide +kernel
theorem dX7_mark_42 : decode cX7_mark 42 = .ok (.bipush 12, 2) := by decide +kernel
theorem dX7_mark_44 : decode cX7_mark 44 = .ok (.iload_n 1, 1) := by decide +kernel
theorem dX7_mark_45 : decode cX7_mark 45 = .ok (.imul, 1) := by decide +kernel
theorem dX7_mark_46 : decode cX7_mark 46 = .ok (.iload_n 2, 1) := by decide +kernel
theorem dX7_mark_47 : decode cX7_mark 47 = .ok (.iadd, 1) := by decide +kernel
theorem dX7_mark_48 : decode cX7_mark 48 = .ok (.iaload, 1) := by decide +kernel
theorem dX7_mark_49 : decode cX7_mark 49 = .ok (.iconst (-1), 1) := by decide +kernel
theorem dX7_mark_50 : decode cX7_mark 50 = .ok (.if_icmp .eq 7, 3) := by decide +kernel
theorem dX7_mark_53 : decode cX7_mark 53 = .ok (.iconst 1, 1) := by decide +kernel
theorem dX7_mark_54 : decode cX7_mark 54 = .ok (.goto 4, 3) := by decide +kernel
theorem dX7_mark_57 : decode cX7_mark 57 = .ok (.iconst 0, 1) := by decide +kernel
theorem dX7_mark_58 : decode cX7_mark 58 = .ok (.istore 5, 2) := by decide +kernel
theorem dX7_mark_60 : decode cX7_mark 60 = .ok (.aload_n 0, 1) := by decide +kernel
theorem dX7_mark_61 : decode cX7_mark 61 = .ok (.iload 4, 2) := by decide +kernel
theorem dX7_mark_63 : decode cX7_mark 63 = .ok (.iload_n 3, 1) := by decide +kernel
theorem dX7_mark_64 : decode cX7_mark 64 = .ok (.iconst 0, 1) := by decide +kernel
theorem dX7_mark_65 : decode cX7_mark 65 = .ok (.bipush 9, 2) := by decide +kernel
theorem dX7_mark_67 : decode cX7_mark 67 = .ok (.invokestatic 95, 3) := by decide +kernel
theorem dX7_mark_70 : decode cX7_mark 70 = .ok (.iload 5, 2) := by decide +kernel
theorem dX7_mark_72 : decode cX7_mark 72 = .ok (.invokevirtual 105, 3) := by decide +kernel
theorem dX7_mark_75 : decode cX7_mark 75 = .ok (.ifCond .ne 5, 3) := by decide +kernel
theorem dX7_mark_78 : decode cX7_mark 78 = .ok (.iconst 0, 1) := by decide +kernel
theorem dX7_mark_79 : decode cX7_mark 79 = .ok (.ireturn, 1) := by decide +kernel
theorem dX7_mark_80 : decode cX7_mark 80 = .ok (.bipush 60, 2) := by decide +kernel
theorem dX7_mark_82 : decode cX7_mark 82 = .ok (.aload_n 0, 1) := by decide +kernel
theorem dX7_mark_83 : decode cX7_mark 83 = .ok (.getfield 35, 3) := by decide +kernel
theorem dX7_mark_86 : decode cX7_mark 86 = .ok (.iload_n 1, 1) := by decide +kernel
theorem dX7_mark_87 : decode cX7_mark 87 = .ok (.iaload, 1) := by decide +kernel
theorem dX7_mark_88 : decode cX7_mark 88 = .ok (.imul, 1) := by decide +kernel
theorem dX7_mark_89 : decode cX7_mark 89 = .ok (.aload_n 0, 1) := by decide +kernel
theorem dX7_mark_90 : decode cX7_mark 90 = .ok (.getfield 32, 3) := by decide +kernel
theorem dX7_mark_93 : decode cX7_mark 93 = .ok (.iload_n 1, 1) := by decide +kernel
theorem dX7_mark_94 : decode cX7_mark 94 = .ok (.iaload, 1) := by decide +kernel
theorem dX7_mark_95 : decode cX7_mark 95 = .ok (.iload_n 2, 1) := by decide +kernel
theorem dX7_mark_96 : decode cX7_mark 96 = .ok (.invokestatic 116, 3) := by decide +kernel
theorem dX7_mark_99 : decode cX7_mark 99 = .ok (.iadd, 1) := by decide +kernel
theorem dX7_mark_100 : decode cX7_mark 100 = .ok (.istore 6, 2) := by decide +kernel
theorem dX7_mark_102 : decode cX7_mark 102 = .ok (.aload_n 0, 1) := by decide +kernel
theorem dX7_mark_103 : decode cX7_mark 103 = .ok (.getfield 41, 3) := by decide +kernel
theorem dX7_mark_106 : decode cX7_mark 106 = .ok (.iload 6, 2) := by decide +kernel
theorem dX7_mark_108 : decode cX7_mark 108 = .ok (.iaload, 1) := by decide +kernel
theorem dX7_mark_109 : decode cX7_mark 109 = .ok (.istore 7, 2) := by decide +kernel
theorem dX7_mark_111 : decode cX7_mark 111 = .ok (.aload_n 0, 1) := by decide +kernel
theorem dX7_mark_112 : decode cX7_mark 112 = .ok (.getfield 41, 3) := by decide +kernel
theorem dX7_mark_115 : decode cX7_mark 115 = .ok (.iload 6, 2) := by decide +kernel
theorem dX7_mark_117 : decode cX7_mark 117 = .ok (.iload_n 3, 1) := by decide +kernel
theorem dX7_mark_118 : decode cX7_mark 118 = .ok (.iastore, 1) := by decide +kernel
theorem dX7_mark_119 : decode cX7_mark 119 = .ok (.aload_n 0, 1) := by decide +kernel
theorem dX7_mark_120 : decode cX7_mark 120 = .ok (.getfield 44, 3) := by decide +kernel
theorem dX7_mark_123 : decode cX7_mark 123 = .ok (.iload 6, 2) := by decide +kernel
theorem dX7_mark_125 : decode cX7_mark 125 = .ok (.aload_n 0, 1) := by decide +kernel
theorem dX7_mark_126 : decode cX7_mark 126 = .ok (.getfield 38, 3) := by decide +kernel
theorem dX7_mark_129 : decode cX7_mark 129 = .ok (.bipush 12, 2) := by decide +kernel
theorem dX7_mark_131 : decode cX7_mark 131 = .ok (.iload_n 1, 1) := by decide +kernel
theorem dX7_mark_132 : decode cX7_mark 132 = .ok (.imul, 1) := by decide +kernel
theorem dX7_mark_133 : decode cX7_mark 133 = .ok (.iload_n 2, 1) := by decide +kernel
theorem dX7_mark_134 : decode cX7_mark 134 = .ok (.iadd, 1) := by decide +kernel
theorem dX7_mark_135 : decode cX7_mark 135 = .ok (.iaload, 1) := by decide +kernel
theorem dX7_mark_136 : decode cX7_mark 136 = .ok (.iastore, 1) := by decide +kernel
theorem dX7_mark_137 : decode cX7_mark 137 = .ok (.iload 7, 2) := by decide +kernel
theorem dX7_mark_139 : decode cX7_mark 139 = .ok (.ireturn, 1) := by decide +kernel
theorem dX7_bowing_0 : decode cX7_bowing 0 = .ok (.bipush 8, 2) := by decide +kernel
theorem dX7_bowing_2 : decode cX7_bowing 2 = .ok (.bipush 60, 2) := by decide +kernel
theorem dX7_bowing_4 : decode cX7_bowing 4 = .ok (.iload_n 1, 1) := by decide +kernel
theorem dX7_bowing_5 : decode cX7_bowing 5 = .ok (.imul, 1) := by decide +kernel
theorem dX7_bowing_6 : decode cX7_bowing 6 = .ok (.iload_n 2, 1) := by decide +kernel
theorem dX7_bowing_7 : decode cX7_bowing 7 = .ok (.iadd, 1) := by decide +kernel
theorem dX7_bowing_8 : decode cX7_bowing 8 = .ok (.imul, 1) := by decide +kernel
theorem dX7_bowing_9 : decode cX7_bowing 9 = .ok (.iload_n 3, 1) := by decide +kernel
theorem dX7_bowing_10 : decode cX7_bowing 10 = .ok (.iadd, 1) := by decide +kernel
theorem dX7_bowing_11 : decode cX7_bowing 11 = .ok (.istore 4, 2) := by decide +kernel
theorem dX7_bowing_13 : decode cX7_bowing 13 = .ok (.aload_n 0, 1) := by decide +kernel
theorem dX7_bowing_14 : decode cX7_bowing 14 = .ok (.getfield 50, 3) := by decide +kernel
theorem dX7_bowing_17 : decode cX7_bowing 17 = .ok (.iload 4, 2) := by decide +kernel
theorem dX7_bowing_19 : decode cX7_bowing 19 = .ok (.iaload, 1) := by decide +kernel
theorem dX7_bowing_20 : decode cX7_bowing 20 = .ok (.aload_n 0, 1) := by decide +kernel
theorem dX7_bowing_21 : decode cX7_bowing 21 = .ok (.getfield 22, 3) := by decide +kernel
theorem dX7_bowing_24 : decode cX7_bowing 24 = .ok (.iload_n 2, 1) := by decide +kernel
theorem dX7_bowing_25 : decode cX7_bowing 25 = .ok (.iaload, 1) := by decide +kernel
theorem dX7_bowing_26 : decode cX7_bowing 26 = .ok (.if_icmp .ne 13, 3) := by decide +kernel
theorem dX7_bowing_29 : decode cX7_bowing 29 = .ok (.aload_n 0, 1) := by decide +kernel
theorem dX7_bowing_30 : decode cX7_bowing 30 = .ok (.getfield 47, 3) := by decide +kernel
theorem dX7_bowing_33 : decode cX7_bowing 33 = .ok (.iload 4, 2) := by decide +kernel
theorem dX7_bowing_35 : decode cX7_bowing 35 = .ok (.iaload, 1) := by decide +kernel
theorem dX7_bowing_36 : decode cX7_bowing 36 = .ok (.goto 4, 3) := by decide +kernel
theorem dX7_bowing_39 : decode cX7_bowing 39 = .ok (.iconst 0, 1) := by decide +kernel
theorem dX7_bowing_40 : decode cX7_bowing 40 = .ok (.ireturn, 1) := by decide +kernel
theorem dX7_bow_0 : decode cX7_bow 0 = .ok (.aload_n 0, 1) := by decide +kernel
theorem dX7_bow_1 : decode cX7_bow 1 = .ok (.iload_n 1, 1) := by decide +kernel
theorem dX7_bow_2 : decode cX7_bow 2 = .ok (.invokevirtual 126, 3) := by decide +kernel
theorem dX7_bow_5 : decode cX7_bow 5 = .ok (.istore 5, 2) := by decide +kernel
theorem dX7_bow_7 : decode cX7_bow 7 = .ok (.iload 5, 2) := by decide +kernel
theorem dX7_bow_9 : decode cX7_bow 9 = .ok (.ifCond .eq 22, 3) := by decide +kernel
theorem dX7_bow_12 : decode cX7_bow 12 = .ok (.aload_n 0, 1) := by decide +kernel
theorem dX7_bow_13 : decode cX7_bow 13 = .ok (.aload_n 0, 1) := by decide +kernel
theorem dX7_bow_14 : decode cX7_bow 14 = .ok (.getfield 32, 3) := by decide +kernel
theorem dX7_bow_17 : decode cX7_bow 17 = .ok (.iload_n 1, 1) := by decide +kernel
theorem dX7_bow_18 : decode cX7_bow 18 = .ok (.iaload, 1) := by decide +kernel
theorem dX7_bow_19 : decode cX7_bow 19 = .ok (.iload_n 2, 1) := by decide +kernel
theorem dX7_bow_20 : decode cX7_bow 20 = .ok (.iload_n 3, 1) := by decide +kernel
theorem dX7_bow_21 : decode cX7_bow 21 = .ok (.invokevirtual 123, 3) := by decide +kernel
theorem dX7_bow_24 : decode cX7_bow 24 = .ok (.ifCond .eq 7, 3) := by decide +kernel
theorem dX7_bow_27 : decode cX7_bow 27 = .ok (.iconst 1, 1) := by decide +kernel
theorem dX7_bow_28 : decode cX7_bow 28 = .ok (.goto 4, 3) := by decide +kernel
theorem dX7_bow_31 : decode cX7_bow 31 = .ok (.iconst 0, 1) := by decide +kernel
theorem dX7_bow_32 : decode cX7_bow 32 = .ok (.istore 5, 2) := by decide +kernel
theorem dX7_bow_34 : decode cX7_bow 34 = .ok (.aload_n 0, 1) := by decide +kernel
theorem dX7_bow_35 : decode cX7_bow 35 = .ok (.iload 5, 2) := by decide +kernel
theorem dX7_bow_37 : decode cX7_bow 37 = .ok (.iload 4, 2) := by decide +kernel
theorem dX7_bow_39 : decode cX7_bow 39 = .ok (.iconst 0, 1) := by decide +kernel
theorem dX7_bow_40 : decode cX7_bow 40 = .ok (.iconst 2, 1) := by decide +kernel
theorem dX7_bow_41 : decode cX7_bow 41 = .ok (.invokestatic 95, 3) := by decide +kernel
theorem dX7_bow_44 : decode cX7_bow 44 = .ok (.iload 5, 2) := by decide +kernel
theorem dX7_bow_46 : decode cX7_bow 46 = .ok (.ifCond .eq 26, 3) := by decide +kernel
theorem dX7_bow_49 : decode cX7_bow 49 = .ok (.aload_n 0, 1) := by decide +kernel
theorem dX7_bow_50 : decode cX7_bow 50 = .ok (.getfield 35, 3) := by decide +kernel
theorem dX7_bow_53 : decode cX7_bow 53 = .ok (.iload_n 1, 1) := by decide +kernel
theorem dX7_bow_54 : decode cX7_bow 54 = .ok (.iaload, 1) := by decide +kernel
theorem dX7_bow_55 : decode cX7_bow 55 = .ok (.iconst (-1), 1) := by decide +kernel
theorem dX7_bow_56 : decode cX7_bow 56 = .ok (.if_icmp .eq 16, 3) := by decide +kernel
theorem dX7_bow_59 : decode cX7_bow 59 = .ok (.aload_n 0, 1) := by decide +kernel
theorem dX7_bow_60 : decode cX7_bow 60 = .ok (.iload_n 1, 1) := by decide +kernel
theorem dX7_bow_61 : decode cX7_bow 61 = .ok (.iload_n 2, 1) := by decide +kernel
theorem dX7_bow_62 : decode cX7_bow 62 = .ok (.invokevirtual 137, 3) := by decide +kernel
theorem dX7_bow_65 : decode cX7_bow 65 = .ok (.ifCond .ne 7, 3) := by decide +kernel
theorem dX7_bow_68 : decode cX7_bow 68 = .ok (.iconst 1, 1) := by decide +kernel
theorem dX7_bow_69 : decode cX7_bow 69 = .ok (.goto 4, 3) := by decide +kernel
theorem dX7_bow_72 : decode cX7_bow 72 = .ok (.iconst 0, 1) := by decide +kernel
theorem dX7_bow_73 : decode cX7_bow 73 = .ok (.invokevirtual 105, 3) := by decide +kernel
theorem dX7_bow_76 : decode cX7_bow 76 = .ok (.ifCond .ne 5, 3) := by decide +kernel
theorem dX7_bow_79 : decode cX7_bow 79 = .ok (.iconst 0, 1) := by decide +kernel
theorem dX7_bow_80 : decode cX7_bow 80 = .ok (.ireturn, 1) := by decide +kernel
theorem dX7_bow_81 : decode cX7_bow 81 = .ok (.aload_n 0, 1) := by decide +kernel
theorem dX7_bow_82 : decode cX7_bow 82 = .ok (.getfield 32, 3) := by decide +kernel
theorem dX7_bow_85 : decode cX7_bow 85 = .ok (.iload_n 1, 1) := by decide +kernel
theorem dX7_bow_86 : decode cX7_bow 86 = .ok (.iaload, 1) := by decide +kernel
theorem dX7_bow_87 : decode cX7_bow 87 = .ok (.iload_n 2, 1) := by decide +kernel
theorem dX7_bow_88 : decode cX7_bow 88 = .ok (.invokestatic 116, 3) := by decide +kernel
theorem dX7_bow_91 : decode cX7_bow 91 = .ok (.istore 6, 2) := by decide +kernel
theorem dX7_bow_93 : decode cX7_bow 93 = .ok (.bipush 8, 2) := by decide +kernel
theorem dX7_bow_95 : decode cX7_bow 95 = .ok (.bipush 60, 2) := by decide +kernel
theorem dX7_bow_97 : decode cX7_bow 97 = .ok (.aload_n 0, 1) := by decide +kernel
theorem dX7_bow_98 : decode cX7_bow 98 = .ok (.getfield 35, 3) := by decide +kernel
theorem dX7_bow_101 : decode cX7_bow 101 = .ok (.iload_n 1, 1) := by decide +kernel
theorem dX7_bow_102 : decode cX7_bow 102 = .ok (.iaload, 1) := by decide +kernel
theorem dX7_bow_103 : decode cX7_bow 103 = .ok (.imul, 1) := by decide +kernel
theorem dX7_bow_104 : decode cX7_bow 104 = .ok (.iload 6, 2) := by decide +kernel
theorem dX7_bow_106 : decode cX7_bow 106 = .ok (.iadd, 1) := by decide +kernel
theorem dX7_bow_107 : decode cX7_bow 107 = .ok (.imul, 1) := by decide +kernel
theorem dX7_bow_108 : decode cX7_bow 108 = .ok (.iload_n 3, 1) := by decide +kernel
theorem dX7_bow_109 : decode cX7_bow 109 = .ok (.iadd, 1) := by decide +kernel
theorem dX7_bow_110 : decode cX7_bow 110 = .ok (.istore 7, 2) := by decide +kernel
theorem dX7_bow_112 : decode cX7_bow 112 = .ok (.aload_n 0, 1) := by decide +kernel
theorem dX7_bow_113 : decode cX7_bow 113 = .ok (.aload_n 0, 1) := by decide +kernel
theorem dX7_bow_114 : decode cX7_bow 114 = .ok (.getfield 35, 3) := by decide +kernel
theorem dX7_bow_117 : decode cX7_bow 117 = .ok (.iload_n 1, 1) := by decide +kernel
theorem dX7_bow_118 : decode cX7_bow 118 = .ok (.iaload, 1) := by decide +kernel
theorem dX7_bow_119 : decode cX7_bow 119 = .ok (.iload 6, 2) := by decide +kernel
theorem dX7_bow_121 : decode cX7_bow 121 = .ok (.iload_n 3, 1) := by decide +kernel
theorem dX7_bow_122 : decode cX7_bow 122 = .ok (.invokevirtual 148, 3) := by decide +kernel
theorem dX7_bow_125 : decode cX7_bow 125 = .ok (.istore 8, 2) := by decide +kernel
theorem dX7_bow_127 : decode cX7_bow 127 = .ok (.aload_n 0, 1) := by decide +kernel
theorem dX7_bow_128 : decode cX7_bow 128 = .ok (.getfield 47, 3) := by decide +kernel
theorem dX7_bow_131 : decode cX7_bow 131 = .ok (.iload 7, 2) := by decide +kernel
theorem dX7_bow_133 : decode cX7_bow 133 = .ok (.iload 4, 2) := by decide +kernel
theorem dX7_bow_135 : decode cX7_bow 135 = .ok (.iastore, 1) := by decide +kernel
theorem dX7_bow_136 : decode cX7_bow 136 = .ok (.aload_n 0, 1) := by decide +kernel
theorem dX7_bow_137 : decode cX7_bow 137 = .ok (.getfield 50, 3) := by decide +kernel
theorem dX7_bow_140 : decode cX7_bow 140 = .ok (.iload 7, 2) := by decide +kernel
theorem dX7_bow_142 : decode cX7_bow 142 = .ok (.aload_n 0, 1) := by decide +kernel
theorem dX7_bow_143 : decode cX7_bow 143 = .ok (.getfield 22, 3) := by decide +kernel
theorem dX7_bow_146 : decode cX7_bow 146 = .ok (.iload 6, 2) := by decide +kernel
theorem dX7_bow_148 : decode cX7_bow 148 = .ok (.iaload, 1) := by decide +kernel
theorem dX7_bow_149 : decode cX7_bow 149 = .ok (.iastore, 1) := by decide +kernel
theorem dX7_bow_150 : decode cX7_bow 150 = .ok (.iload 8, 2) := by decide +kernel
theorem dX7_bow_152 : decode cX7_bow 152 = .ok (.ireturn, 1) := by decide +kernel
theorem dX7_play_0 : decode cX7_play 0 = .ok (.aload_n 0, 1) := by decide +kernel
theorem dX7_play_1 : decode cX7_play 1 = .ok (.invokevirtual 133, 3) := by decide +kernel
theorem dX7_play_4 : decode cX7_play 4 = .ok (.ifCond .le 7, 3) := by decide +kernel
theorem dX7_play_7 : decode cX7_play 7 = .ok (.iconst 1, 1) := by decide +kernel
theorem dX7_play_8 : decode cX7_play 8 = .ok (.goto 4, 3) := by decide +kernel
theorem dX7_play_11 : decode cX7_play 11 = .ok (.iconst 0, 1) := by decide +kernel
theorem dX7_play_12 : decode cX7_play 12 = .ok (.istore_n 1, 1) := by decide +kernel
theorem dX7_play_13 : decode cX7_play 13 = .ok (.iconst 0, 1) := by decide +kernel
theorem dX7_play_14 : decode cX7_play 14 = .ok (.istore_n 2, 1) := by decide +kernel
theorem dX7_play_15 : decode cX7_play 15 = .ok (.iload_n 2, 1) := by decide +kernel
theorem dX7_play_16 : decode cX7_play 16 = .ok (.aload_n 0, 1) := by decide +kernel
theorem dX7_play_17 : decode cX7_play 17 = .ok (.getfield 102, 3) := by decide +kernel
theorem dX7_play_20 : decode cX7_play 20 = .ok (.if_icmp .ge 27, 3) := by decide +kernel
theorem dX7_play_23 : decode cX7_play 23 = .ok (.iload_n 1, 1) := by decide +kernel
theorem dX7_play_24 : decode cX7_play 24 = .ok (.ifCond .eq 15, 3) := by decide +kernel
theorem dX7_play_27 : decode cX7_play 27 = .ok (.aload_n 0, 1) := by decide +kernel
theorem dX7_play_28 : decode cX7_play 28 = .ok (.iload_n 2, 1) := by decide +kernel
theorem dX7_play_29 : decode cX7_play 29 = .ok (.invokevirtual 144, 3) := by decide +kernel
theorem dX7_play_32 : decode cX7_play 32 = .ok (.ifCond .ne 7, 3) := by decide +kernel
theorem dX7_play_35 : decode cX7_play 35 = .ok (.iconst 1, 1) := by decide +kernel
theorem dX7_play_36 : decode cX7_play 36 = .ok (.goto 4, 3) := by decide +kernel
theorem dX7_play_39 : decode cX7_play 39 = .ok (.iconst 0, 1) := by decide +kernel
theorem dX7_play_40 : decode cX7_play 40 = .ok (.istore_n 1, 1) := by decide +kernel
theorem dX7_play_41 : decode cX7_play 41 = .ok (.iinc 2 1, 3) := by decide +kernel
theorem dX7_play_44 : decode cX7_play 44 = .ok (.goto (-29), 3) := by decide +kernel
theorem dX7_play_47 : decode cX7_play 47 = .ok (.aload_n 0, 1) := by decide +kernel
theorem dX7_play_48 : decode cX7_play 48 = .ok (.iload_n 1, 1) := by decide +kernel
theorem dX7_play_49 : decode cX7_play 49 = .ok (.iconst 1, 1) := by decide +kernel
theorem dX7_play_50 : decode cX7_play 50 = .ok (.iconst 1, 1) := by decide +kernel
theorem dX7_play_51 : decode cX7_play 51 = .ok (.invokevirtual 105, 3) := by decide +kernel
theorem dX7_play_54 : decode cX7_play 54 = .ok (.ifCond .ne 5, 3) := by decide +kernel
theorem dX7_play_57 : decode cX7_play 57 = .ok (.iconst 0, 1) := by decide +kernel
theorem dX7_play_58 : decode cX7_play 58 = .ok (.ireturn, 1) := by decide +kernel
theorem dX7_play_59 : decode cX7_play 59 = .ok (.aload_n 0, 1) := by decide +kernel
theorem dX7_play_60 : decode cX7_play 60 = .ok (.dup, 1) := by decide +kernel
theorem dX7_play_61 : decode cX7_play 61 = .ok (.getfield 152, 3) := by decide +kernel
theorem dX7_play_64 : decode cX7_play 64 = .ok (.iconst 1, 1) := by decide +kernel
theorem dX7_play_65 : decode cX7_play 65 = .ok (.iadd, 1) := by decide +kernel
theorem dX7_play_66 : decode cX7_play 66 = .ok (.putfield 152, 3) := by decide +kernel
theorem dX7_play_69 : decode cX7_play 69 = .ok (.aload_n 0, 1) := by decide +kernel
theorem dX7_play_70 : decode cX7_play 70 = .ok (.invokevirtual 133, 3) := by decide +kernel
theorem dX7_play_73 : decode cX7_play 73 = .ok (.ireturn, 1) := by decide +kernel
theorem dX7_bars_0 : decode cX7_bars 0 = .ok (.aload_n 0, 1) := by decide +kernel
theorem dX7_bars_1 : decode cX7_bars 1 = .ok (.iconst 0, 1) := by decide +kernel
theorem dX7_bars_2 : decode cX7_bars 2 = .ok (.putfield 92, 3) := by decide +kernel
theorem dX7_bars_5 : decode cX7_bars 5 = .ok (.aload_n 0, 1) := by decide +kernel
theorem dX7_bars_6 : decode cX7_bars 6 = .ok (.getfield 99, 3) := by decide +kernel
theorem dX7_bars_9 : decode cX7_bars 9 = .ok (.ireturn, 1) := by decide +kernel
theorem dX7_notes_0 : decode cX7_notes 0 = .ok (.aload_n 0, 1) := by decide +kernel
theorem dX7_notes_1 : decode cX7_notes 1 = .ok (.iload_n 1, 1) := by decide +kernel
theorem dX7_notes_2 : decode cX7_notes 2 = .ok (.invokestatic 109, 3) := by decide +kernel
theorem dX7_notes_5 : decode cX7_notes 5 = .ok (.ifCond .eq 15, 3) := by decide +kernel
theorem dX7_notes_8 : decode cX7_notes 8 = .ok (.aload_n 0, 1) := by decide +kernel
theorem dX7_notes_9 : decode cX7_notes 9 = .ok (.iload_n 2, 1) := by decide +kernel
theorem dX7_notes_10 : decode cX7_notes 10 = .ok (.invokevirtual 113, 3) := by decide +kernel
theorem dX7_notes_13 : decode cX7_notes 13 = .ok (.ifCond .eq 7, 3) := by decide +kernel
theorem dX7_notes_16 : decode cX7_notes 16 = .ok (.iconst 1, 1) := by decide +kernel
theorem dX7_notes_17 : decode cX7_notes 17 = .ok (.goto 4, 3) := by decide +kernel
theorem dX7_notes_20 : decode cX7_notes 20 = .ok (.iconst 0, 1) := by decide +kernel
theorem dX7_notes_21 : decode cX7_notes 21 = .ok (.iconst 1, 1) := by decide +kernel
theorem dX7_notes_22 : decode cX7_notes 22 = .ok (.iconst 1, 1) := by decide +kernel
theorem dX7_notes_23 : decode cX7_notes 23 = .ok (.invokevirtual 105, 3) := by decide +kernel
theorem dX7_notes_26 : decode cX7_notes 26 = .ok (.ifCond .eq 16, 3) := by decide +kernel
theorem dX7_notes_29 : decode cX7_notes 29 = .ok (.aload_n 0, 1) := by decide +kernel
theorem dX7_notes_30 : decode cX7_notes 30 = .ok (.getfield 19, 3) := by decide +kernel
theorem dX7_notes_33 : decode cX7_notes 33 = .ok (.iload_n 1, 1) := by decide +kernel
theorem dX7_notes_34 : decode cX7_notes 34 = .ok (.iload_n 2, 1) := by decide +kernel
theorem dX7_notes_35 : decode cX7_notes 35 = .ok (.invokestatic 116, 3) := by decide +kernel
theorem dX7_notes_38 : decode cX7_notes 38 = .ok (.iaload, 1) := by decide +kernel
theorem dX7_notes_39 : decode cX7_notes 39 = .ok (.goto 4, 3) := by decide +kernel
theorem dX7_notes_42 : decode cX7_notes 42 = .ok (.iconst 0, 1) := by decide +kernel
theorem dX7_notes_43 : decode cX7_notes 43 = .ok (.ireturn, 1) := by decide +kernel
theorem dX7_noteAt_0 : decode cX7_noteAt 0 = .ok (.aload_n 0, 1) := by decide +kernel
theorem dX7_noteAt_1 : decode cX7_noteAt 1 = .ok (.aload_n 0, 1) := by decide +kernel
theorem dX7_noteAt_2 : decode cX7_noteAt 2 = .ok (.iload_n 1, 1) := by decide +kernel
theorem dX7_noteAt_3 : decode cX7_noteAt 3 = .ok (.iload_n 2, 1) := by decide +kernel
theorem dX7_noteAt_4 : decode cX7_noteAt 4 = .ok (.iload_n 3, 1) := by decide +kernel
theorem dX7_noteAt_5 : decode cX7_noteAt 5 = .ok (.invokevirtual 123, 3) := by decide +kernel
theorem dX7_noteAt_8 : decode cX7_noteAt 8 = .ok (.iconst 1, 1) := by decide +kernel
theorem dX7_noteAt_9 : decode cX7_noteAt 9 = .ok (.iconst 1, 1) := by decide +kernel
theorem dX7_noteAt_10 : decode cX7_noteAt 10 = .ok (.invokevirtual 105, 3) := by decide +kernel
theorem dX7_noteAt_13 : decode cX7_noteAt 13 = .ok (.ifCond .ne 5, 3) := by decide +kernel
theorem dX7_noteAt_16 : decode cX7_noteAt 16 = .ok (.iconst 0, 1) := by decide +kernel
theorem dX7_noteAt_17 : decode cX7_noteAt 17 = .ok (.ireturn, 1) := by decide +kernel
theorem dX7_noteAt_18 : decode cX7_noteAt 18 = .ok (.bipush 8, 2) := by decide +kernel
theorem dX7_noteAt_20 : decode cX7_noteAt 20 = .ok (.iload_n 1, 1) := by decide +kernel
theorem dX7_noteAt_21 : decode cX7_noteAt 21 = .ok (.iload_n 2, 1) := by decide +kernel
theorem dX7_noteAt_22 : decode cX7_noteAt 22 = .ok (.invokestatic 116, 3) := by decide +kernel
theorem dX7_noteAt_25 : decode cX7_noteAt 25 = .ok (.imul, 1) := by decide +kernel
theorem dX7_noteAt_26 : decode cX7_noteAt 26 = .ok (.iload_n 3, 1) := by decide +kernel
theorem dX7_noteAt_27 : decode cX7_noteAt 27 = .ok (.iadd, 1) := by decide +kernel
theorem dX7_noteAt_28 : decode cX7_noteAt 28 = .ok (.istore 4, 2) := by decide +kernel
theorem dX7_noteAt_30 : decode cX7_noteAt 30 = .ok (.bipush 100, 2) := by decide +kernel
theorem dX7_noteAt_32 : decode cX7_noteAt 32 = .ok (.aload_n 0, 1) := by decide +kernel
theorem dX7_noteAt_33 : decode cX7_noteAt 33 = .ok (.getfield 13, 3) := by decide +kernel
theorem dX7_noteAt_36 : decode cX7_noteAt 36 = .ok (.iload 4, 2) := by decide +kernel
theorem dX7_noteAt_38 : decode cX7_noteAt 38 = .ok (.iaload, 1) := by decide +kernel
theorem dX7_noteAt_39 : decode cX7_noteAt 39 = .ok (.imul, 1) := by decide +kernel
theorem dX7_noteAt_40 : decode cX7_noteAt 40 = .ok (.aload_n 0, 1) := by decide +kernel
theorem dX7_noteAt_41 : decode cX7_noteAt 41 = .ok (.getfield 16, 3) := by decide +kernel
theorem dX7_noteAt_44 : decode cX7_noteAt 44 = .ok (.iload 4, 2) := by decide +kernel
theorem dX7_noteAt_46 : decode cX7_noteAt 46 = .ok (.iaload, 1) := by decide +kernel
theorem dX7_noteAt_47 : decode cX7_noteAt 47 = .ok (.iadd, 1) := by decide +kernel
theorem dX7_noteAt_48 : decode cX7_noteAt 48 = .ok (.ireturn, 1) := by decide +kernel
theorem dX7_version_0 : decode cX7_version 0 = .ok (.aload_n 0, 1) := by decide +kernel
theorem dX7_version_1 : decode cX7_version 1 = .ok (.iload_n 1, 1) := by decide +kernel
theorem dX7_version_2 : decode cX7_version 2 = .ok (.invokestatic 109, 3) := by decide +kernel
theorem dX7_version_5 : decode cX7_version 5 = .ok (.ifCond .eq 15, 3) := by decide +kernel
theorem dX7_version_8 : decode cX7_version 8 = .ok (.aload_n 0, 1) := by decide +kernel
theorem dX7_version_9 : decode cX7_version 9 = .ok (.iload_n 2, 1) := by decide +kernel
theorem dX7_version_10 : decode cX7_version 10 = .ok (.invokevirtual 113, 3) := by decide +kernel
theorem dX7_version_13 : decode cX7_version 13 = .ok (.ifCond .eq 7, 3) := by decide +kernel
theorem dX7_version_16 : decode cX7_version 16 = .ok (.iconst 1, 1) := by decide +kernel
theorem dX7_version_17 : decode cX7_version 17 = .ok (.goto 4, 3) := by decide +kernel
theorem dX7_version_20 : decode cX7_version 20 = .ok (.iconst 0, 1) := by decide +kernel
theorem dX7_version_21 : decode cX7_version 21 = .ok (.iconst 1, 1) := by decide +kernel
theorem dX7_version_22 : decode cX7_version 22 = .ok (.iconst 1, 1) := by decide +kernel
theorem dX7_version_23 : decode cX7_version 23 = .ok (.invokevirtual 105, 3) := by decide +kernel
theorem dX7_version_26 : decode cX7_version 26 = .ok (.ifCond .eq 16, 3) := by decide +kernel
theorem dX7_version_29 : decode cX7_version 29 = .ok (.aload_n 0, 1) := by decide +kernel
theorem dX7_version_30 : decode cX7_version 30 = .ok (.getfield 22, 3) := by decide +kernel
theorem dX7_version_33 : decode cX7_version 33 = .ok (.iload_n 1, 1) := by decide +kernel
theorem dX7_version_34 : decode cX7_version 34 = .ok (.iload_n 2, 1) := by decide +kernel
theorem dX7_version_35 : decode cX7_version 35 = .ok (.invokestatic 116, 3) := by decide +kernel
theorem dX7_version_38 : decode cX7_version 38 = .ok (.iaload, 1) := by decide +kernel
theorem dX7_version_39 : decode cX7_version 39 = .ok (.goto 4, 3) := by decide +kernel
theorem dX7_version_42 : decode cX7_version 42 = .ok (.iconst 0, 1) := by decide +kernel
theorem dX7_version_43 : decode cX7_version 43 = .ok (.ireturn, 1) := by decide +kernel
theorem dX7_time_0 : decode cX7_time 0 = .ok (.iconst 0, 1) := by decide +kernel
theorem dX7_time_1 : decode cX7_time 1 = .ok (.istore_n 2, 1) := by decide +kernel
theorem dX7_time_2 : decode cX7_time 2 = .ok (.aload_n 0, 1) := by decide +kernel
theorem dX7_time_3 : decode cX7_time 3 = .ok (.iload_n 1, 1) := by decide +kernel
theorem dX7_time_4 : decode cX7_time 4 = .ok (.iconst 0, 1) := by decide +kernel
theorem dX7_time_5 : decode cX7_time 5 = .ok (.aload_n 0, 1) := by decide +kernel
theorem dX7_time_6 : decode cX7_time 6 = .ok (.getfield 99, 3) := by decide +kernel
theorem dX7_time_9 : decode cX7_time 9 = .ok (.invokestatic 95, 3) := by decide +kernel
theorem dX7_time_12 : decode cX7_time 12 = .ok (.iconst 1, 1) := by decide +kernel
theorem dX7_time_13 : decode cX7_time 13 = .ok (.iconst 1, 1) := by decide +kernel
theorem dX7_time_14 : decode cX7_time 14 = .ok (.invokevirtual 105, 3) := by decide +kernel
theorem dX7_time_17 : decode cX7_time 17 = .ok (.istore_n 3, 1) := by decide +kernel
theorem dX7_time_18 : decode cX7_time 18 = .ok (.iconst 0, 1) := by decide +kernel
theorem dX7_time_19 : decode cX7_time 19 = .ok (.istore 4, 2) := by decide +kernel
theorem dX7_time_21 : decode cX7_time 21 = .ok (.iload_n 3, 1) := by decide +kernel
theorem dX7_time_22 : decode cX7_time 22 = .ok (.ifCond .eq 25, 3) := by decide +kernel
theorem dX7_time_25 : decode cX7_time 25 = .ok (.iload 4, 2) := by decide +kernel
theorem dX7_time_27 : decode cX7_time 27 = .ok (.iload_n 1, 1) := by decide +kernel
theorem dX7_time_28 : decode cX7_time 28 = .ok (.if_icmp .ge 19, 3) := by decide +kernel
theorem dX7_time_31 : decode cX7_time 31 = .ok (.iload_n 2, 1) := by decide +kernel
theorem dX7_time_32 : decode cX7_time 32 = .ok (.aload_n 0, 1) := by decide +kernel
theorem dX7_time_33 : decode cX7_time 33 = .ok (.getfield 7, 3) := by decide +kernel
theorem dX7_time_36 : decode cX7_time 36 = .ok (.iload 4, 2) := by decide +kernel
theorem dX7_time_38 : decode cX7_time 38 = .ok (.iaload, 1) := by decide +kernel
theorem dX7_time_39 : decode cX7_time 39 = .ok (.iadd, 1) := by decide +kernel
theorem dX7_time_40 : decode cX7_time 40 = .ok (.istore_n 2, 1) := by decide +kernel
theorem dX7_time_41 : decode cX7_time 41 = .ok (.iinc 4 1, 3) := by decide +kernel
theorem dX7_time_44 : decode cX7_time 44 = .ok (.goto (-23), 3) := by decide +kernel
theorem dX7_time_47 : decode cX7_time 47 = .ok (.iload_n 2, 1) := by decide +kernel
theorem dX7_time_48 : decode cX7_time 48 = .ok (.ireturn, 1) := by decide +kernel
theorem dX7_timeByBars_0 : decode cX7_timeByBars 0 = .ok (.aload_n 0, 1) := by decide +kernel
theorem dX7_timeByBars_1 : decode cX7_timeByBars 1 = .ok (.iload_n 1, 1) := by decide +kernel
theorem dX7_timeByBars_2 : decode cX7_timeByBars 2 = .ok (.invokevirtual 155, 3) := by decide +kernel
theorem dX7_timeByBars_5 : decode cX7_timeByBars 5 = .ok (.ireturn, 1) := by decide +kernel
theorem dX7_isSilent_0 : decode cX7_isSilent 0 = .ok (.iconst 1, 1) := by decide +kernel
theorem dX7_isSilent_1 : decode cX7_isSilent 1 = .ok (.istore_n 3, 1) := by decide +kernel
theorem dX7_isSilent_2 : decode cX7_isSilent 2 = .ok (.iload_n 1, 1) := by decide +kernel
theorem dX7_isSilent_3 : decode cX7_isSilent 3 = .ok (.iload_n 2, 1) := by decide +kernel
theorem dX7_isSilent_4 : decode cX7_isSilent 4 = .ok (.invokestatic 116, 3) := by decide +kernel
theorem dX7_isSilent_7 : decode cX7_isSilent 7 = .ok (.istore 4, 2) := by decide +kernel
theorem dX7_isSilent_9 : decode cX7_isSilent 9 = .ok (.iconst 0, 1) := by decide +kernel
theorem dX7_isSilent_10 : decode cX7_isSilent 10 = .ok (.istore 5, 2) := by decide +kernel
theorem dX7_isSilent_12 : decode cX7_isSilent 12 = .ok (.iload 5, 2) := by decide +kernel
theorem dX7_isSilent_14 : decode cX7_isSilent 14 = .ok (.aload_n 0, 1) := by decide +kernel
theorem dX7_isSilent_15 : decode cX7_isSilent 15 = .ok (.getfield 19, 3) := by decide +kernel
theorem dX7_isSilent_18 : decode cX7_isSilent 18 = .ok (.iload 4, 2) := by decide +kernel
theorem dX7_isSilent_20 : decode cX7_isSilent 20 = .ok (.iaload, 1) := by decide +kernel
theorem dX7_isSilent_21 : decode cX7_isSilent 21 = .ok (.if_icmp .ge 35, 3) := by decide +kernel
theorem dX7_isSilent_24 : decode cX7_isSilent 24 = .ok (.iload_n 3, 1) := by decide +kernel
theorem dX7_isSilent_25 : decode cX7_isSilent 25 = .ok (.ifCond .eq 23, 3) := by decide +kernel
theorem dX7_isSilent_28 : decode cX7_isSilent 28 = .ok (.aload_n 0, 1) := by decide +kernel
theorem dX7_isSilent_29 : decode cX7_isSilent 29 = .ok (.getfield 16, 3) := by decide +kernel
theorem dX7_isSilent_32 : decode cX7_isSilent 32 = .ok (.bipush 8, 2) := by decide +kernel
theorem dX7_isSilent_34 : decode cX7_isSilent 34 = .ok (.iload 4, 2) := by decide +kernel
theorem dX7_isSilent_36 : decode cX7_isSilent 36 = .ok (.imul, 1) := by decide +kernel
theorem dX7_isSilent_37 : decode cX7_isSilent 37 = .ok (.iload 5, 2) := by decide +kernel
theorem dX7_isSilent_39 : decode cX7_isSilent 39 = .ok (.iadd, 1) := by decide +kernel
theorem dX7_isSilent_40 : decode cX7_isSilent 40 = .ok (.iaload, 1) := by decide +kernel
theorem dX7_isSilent_41 : decode cX7_isSilent 41 = .ok (.ifCond .ne 7, 3) := by decide +kernel
theorem dX7_isSilent_44 : decode cX7_isSilent 44 = .ok (.iconst 1, 1) := by decide +kernel
theorem dX7_isSilent_45 : decode cX7_isSilent 45 = .ok (.goto 4, 3) := by decide +kernel
theorem dX7_isSilent_48 : decode cX7_isSilent 48 = .ok (.iconst 0, 1) := by decide +kernel
theorem dX7_isSilent_49 : decode cX7_isSilent 49 = .ok (.istore_n 3, 1) := by decide +kernel
theorem dX7_isSilent_50 : decode cX7_isSilent 50 = .ok (.iinc 5 1, 3) := by decide +kernel
theorem dX7_isSilent_53 : decode cX7_isSilent 53 = .ok (.goto (-41), 3) := by decide +kernel
theorem dX7_isSilent_56 : decode cX7_isSilent 56 = .ok (.iload_n 3, 1) := by decide +kernel
theorem dX7_isSilent_57 : decode cX7_isSilent 57 = .ok (.ireturn, 1) := by decide +kernel
theorem dX7_cueFor_0 : decode cX7_cueFor 0 = .ok (.iconst (-1), 1) := by decide +kernel
theorem dX7_cueFor_1 : decode cX7_cueFor 1 = .ok (.istore_n 3, 1) := by decide +kernel
theorem dX7_cueFor_2 : decode cX7_cueFor 2 = .ok (.iconst 0, 1) := by decide +kernel
theorem dX7_cueFor_3 : decode cX7_cueFor 3 = .ok (.istore 4, 2) := by decide +kernel
theorem dX7_cueFor_5 : decode cX7_cueFor 5 = .ok (.iload 4, 2) := by decide +kernel
theorem dX7_cueFor_7 : decode cX7_cueFor 7 = .ok (.iconst 5, 1) := by decide +kernel
theorem dX7_cueFor_8 : decode cX7_cueFor 8 = .ok (.if_icmp .ge 73, 3) := by decide +kernel
theorem dX7_cueFor_11 : decode cX7_cueFor 11 = .ok (.iload 4, 2) := by decide +kernel
theorem dX7_cueFor_13 : decode cX7_cueFor 13 = .ok (.iload_n 1, 1) := by decide +kernel
theorem dX7_cueFor_14 : decode cX7_cueFor 14 = .ok (.if_icmp .eq 17, 3) := by decide +kernel
theorem dX7_cueFor_17 : decode cX7_cueFor 17 = .ok (.aload_n 0, 1) := by decide +kernel
theorem dX7_cueFor_18 : decode cX7_cueFor 18 = .ok (.iload 4, 2) := by decide +kernel
theorem dX7_cueFor_20 : decode cX7_cueFor 20 = .ok (.iload_n 2, 1) := by decide +kernel
theorem dX7_cueFor_21 : decode cX7_cueFor 21 = .ok (.invokevirtual 158, 3) := by decide +kernel
theorem dX7_cueFor_24 : decode cX7_cueFor 24 = .ok (.ifCond .ne 7, 3) := by decide +kernel
theorem dX7_cueFor_27 : decode cX7_cueFor 27 = .ok (.iconst 1, 1) := by decide +kernel
theorem dX7_cueFor_28 : decode cX7_cueFor 28 = .ok (.goto 4, 3) := by decide +kernel
theorem dX7_cueFor_31 : decode cX7_cueFor 31 = .ok (.iconst 0, 1) := by decide +kernel
theorem dX7_cueFor_32 : decode cX7_cueFor 32 = .ok (.istore 5, 2) := by decide +kernel
theorem dX7_cueFor_34 : decode cX7_cueFor 34 = .ok (.iload 5, 2) := by decide +kernel
theorem dX7_cueFor_36 : decode cX7_cueFor 36 = .ok (.ifCond .eq 37, 3) := by decide +kernel
theorem dX7_cueFor_39 : decode cX7_cueFor 39 = .ok (.iload_n 3, 1) := by decide +kernel
theorem dX7_cueFor_40 : decode cX7_cueFor 40 = .ok (.iconst (-1), 1) := by decide +kernel
theorem dX7_cueFor_41 : decode cX7_cueFor 41 = .ok (.if_icmp .eq 27, 3) := by decide +kernel
theorem dX7_cueFor_44 : decode cX7_cueFor 44 = .ok (.aload_n 0, 1) := by decide +kernel
theorem dX7_cueFor_45 : decode cX7_cueFor 45 = .ok (.getfield 19, 3) := by decide +kernel
theorem dX7_cueFor_48 : decode cX7_cueFor 48 = .ok (.iload 4, 2) := by decide +kernel
theorem dX7_cueFor_50 : decode cX7_cueFor 50 = .ok (.iload_n 2, 1) := by decide +kernel
theorem dX7_cueFor_51 : decode cX7_cueFor 51 = .ok (.invokestatic 116, 3) := by decide +kernel
theorem dX7_cueFor_54 : decode cX7_cueFor 54 = .ok (.iaload, 1) := by decide +kernel
theorem dX7_cueFor_55 : decode cX7_cueFor 55 = .ok (.aload_n 0, 1) := by decide +kernel
theorem dX7_cueFor_56 : decode cX7_cueFor 56 = .ok (.getfield 19, 3) := by decide +kernel
theorem dX7_cueFor_59 : decode cX7_cueFor 59 = .ok (.iload_n 3, 1) := by decide +kernel
theorem dX7_cueFor_60 : decode cX7_cueFor 60 = .ok (.iload_n 2, 1) := by decide +kernel
theorem dX7_cueFor_61 : decode cX7_cueFor 61 = .ok (.invokestatic 116, 3) := by decide +kernel
theorem dX7_cueFor_64 : decode cX7_cueFor 64 = .ok (.iaload, 1) := by decide +kernel
theorem dX7_cueFor_65 : decode cX7_cueFor 65 = .ok (.if_icmp .le 8, 3) := by decide +kernel
theorem dX7_cueFor_68 : decode cX7_cueFor 68 = .ok (.iload 4, 2) := by decide +kernel
theorem dX7_cueFor_70 : decode cX7_cueFor 70 = .ok (.goto 4, 3) := by decide +kernel
theorem dX7_cueFor_73 : decode cX7_cueFor 73 = .ok (.iload_n 3, 1) := by decide +kernel
theorem dX7_cueFor_74 : decode cX7_cueFor 74 = .ok (.istore_n 3, 1) := by decide +kernel
theorem dX7_cueFor_75 : decode cX7_cueFor 75 = .ok (.iinc 4 1, 3) := by decide +kernel
theorem dX7_cueFor_78 : decode cX7_cueFor 78 = .ok (.goto (-73), 3) := by decide +kernel
theorem dX7_cueFor_81 : decode cX7_cueFor 81 = .ok (.iload_n 3, 1) := by decide +kernel
theorem dX7_cueFor_82 : decode cX7_cueFor 82 = .ok (.ireturn, 1) := by decide +kernel
theorem dX7_adds_0 : decode cX7_adds 0 = .ok (.aload_n 0, 1) := by decide +kernel
theorem dX7_adds_1 : decode cX7_adds 1 = .ok (.getfield 53, 3) := by decide +kernel
theorem dX7_adds_4 : decode cX7_adds 4 = .ok (.aload_n 0, 1) := by decide +kernel
theorem dX7_adds_5 : decode cX7_adds 5 = .ok (.getfield 161, 3) := by decide +kernel
theorem dX7_adds_8 : decode cX7_adds 8 = .ok (.iload_n 1, 1) := by decide +kernel
theorem dX7_adds_9 : decode cX7_adds 9 = .ok (.iastore, 1) := by decide +kernel
theorem dX7_adds_10 : decode cX7_adds 10 = .ok (.aload_n 0, 1) := by decide +kernel
theorem dX7_adds_11 : decode cX7_adds 11 = .ok (.getfield 56, 3) := by decide +kernel
theorem dX7_adds_14 : decode cX7_adds 14 = .ok (.aload_n 0, 1) := by decide +kernel
theorem dX7_adds_15 : decode cX7_adds 15 = .ok (.getfield 161, 3) := by decide +kernel
theorem dX7_adds_18 : decode cX7_adds 18 = .ok (.iload_n 2, 1) := by decide +kernel
theorem dX7_adds_19 : decode cX7_adds 19 = .ok (.iastore, 1) := by decide +kernel
theorem dX7_adds_20 : decode cX7_adds 20 = .ok (.aload_n 0, 1) := by decide +kernel
theorem dX7_adds_21 : decode cX7_adds 21 = .ok (.getfield 59, 3) := by decide +kernel
theorem dX7_adds_24 : decode cX7_adds 24 = .ok (.aload_n 0, 1) := by decide +kernel
theorem dX7_adds_25 : decode cX7_adds 25 = .ok (.getfield 161, 3) := by decide +kernel
theorem dX7_adds_28 : decode cX7_adds 28 = .ok (.iload_n 3, 1) := by decide +kernel
theorem dX7_adds_29 : decode cX7_adds 29 = .ok (.iastore, 1) := by decide +kernel
theorem dX7_adds_30 : decode cX7_adds 30 = .ok (.aload_n 0, 1) := by decide +kernel
theorem dX7_adds_31 : decode cX7_adds 31 = .ok (.dup, 1) := by decide +kernel
theorem dX7_adds_32 : decode cX7_adds 32 = .ok (.getfield 161, 3) := by decide +kernel
theorem dX7_adds_35 : decode cX7_adds 35 = .ok (.iconst 1, 1) := by decide +kernel
theorem dX7_adds_36 : decode cX7_adds 36 = .ok (.iadd, 1) := by decide +kernel
theorem dX7_adds_37 : decode cX7_adds 37 = .ok (.putfield 161, 3) := by decide +kernel
theorem dX7_adds_40 : decode cX7_adds 40 = .ok (.return_, 1) := by decide +kernel
theorem dX7_laysItems_0 : decode cX7_laysItems 0 = .ok (.aload_n 0, 1) := by decide +kernel
theorem dX7_laysItems_1 : decode cX7_laysItems 1 = .ok (.iconst 0, 1) := by decide +kernel
theorem dX7_laysItems_2 : decode cX7_laysItems 2 = .ok (.putfield 161, 3) := by decide +kernel
theorem dX7_laysItems_5 : decode cX7_laysItems 5 = .ok (.iconst 0, 1) := by decide +kernel
theorem dX7_laysItems_6 : decode cX7_laysItems 6 = .ok (.istore_n 2, 1) := by decide +kernel
theorem dX7_laysItems_7 : decode cX7_laysItems 7 = .ok (.iload_n 2, 1) := by decide +kernel
theorem dX7_laysItems_8 : decode cX7_laysItems 8 = .ok (.aload_n 0, 1) := by decide +kernel
theorem dX7_laysItems_9 : decode cX7_laysItems 9 = .ok (.getfield 99, 3) := by decide +kernel
theorem dX7_laysItems_12 : decode cX7_laysItems 12 = .ok (.if_icmp .ge 124, 3) := by decide +kernel
theorem dX7_laysItems_15 : decode cX7_laysItems 15 = .ok (.iload_n 2, 1) := by decide +kernel
theorem dX7_laysItems_16 : decode cX7_laysItems 16 = .ok (.istore_n 3, 1) := by decide +kernel
theorem dX7_laysItems_17 : decode cX7_laysItems 17 = .ok (.iload_n 1, 1) := by decide +kernel
theorem dX7_laysItems_18 : decode cX7_laysItems 18 = .ok (.iconst 5, 1) := by decide +kernel
theorem dX7_laysItems_19 : decode cX7_laysItems 19 = .ok (.if_icmp .eq 26, 3) := by decide +kernel
theorem dX7_laysItems_22 : decode cX7_laysItems 22 = .ok (.iload_n 3, 1) := by decide +kernel
theorem dX7_laysItems_23 : decode cX7_laysItems 23 = .ok (.aload_n 0, 1) := by decide +kernel
theorem dX7_laysItems_24 : decode cX7_laysItems 24 = .ok (.getfield 99, 3) := by decide +kernel
theorem dX7_laysItems_27 : decode cX7_laysItems 27 = .ok (.if_icmp .ge 18, 3) := by decide +kernel
theorem dX7_laysItems_30 : decode cX7_laysItems 30 = .ok (.aload_n 0, 1) := by decide +kernel
theorem dX7_laysItems_31 : decode cX7_laysItems 31 = .ok (.iload_n 1, 1) := by decide +kernel
theorem dX7_laysItems_32 : decode cX7_laysItems 32 = .ok (.iload_n 3, 1) := by decide +kernel
theorem dX7_laysItems_33 : decode cX7_laysItems 33 = .ok (.invokevirtual 158, 3) := by decide +kernel
theorem dX7_laysItems_36 : decode cX7_laysItems 36 = .ok (.ifCond .eq 9, 3) := by decide +kernel
theorem dX7_laysItems_39 : decode cX7_laysItems 39 = .ok (.iinc 3 1, 3) := by decide +kernel
theorem dX7_laysItems_42 : decode cX7_laysItems 42 = .ok (.goto (-25), 3) := by decide +kernel
theorem dX7_laysItems_45 : decode cX7_laysItems 45 = .ok (.iload_n 3, 1) := by decide +kernel
theorem dX7_laysItems_46 : decode cX7_laysItems 46 = .ok (.iload_n 2, 1) := by decide +kernel
theorem dX7_laysItems_47 : decode cX7_laysItems 47 = .ok (.if_icmp .ne 16, 3) := by decide +kernel
theorem dX7_laysItems_50 : decode cX7_laysItems 50 = .ok (.aload_n 0, 1) := by decide +kernel
theorem dX7_laysItems_51 : decode cX7_laysItems 51 = .ok (.iload_n 2, 1) := by decide +kernel
theorem dX7_laysItems_52 : decode cX7_laysItems 52 = .ok (.iload_n 2, 1) := by decide +kernel
theorem dX7_laysItems_53 : decode cX7_laysItems 53 = .ok (.iload_n 1, 1) := by decide +kernel
theorem dX7_laysItems_54 : decode cX7_laysItems 54 = .ok (.invokevirtual 164, 3) := by decide +kernel
theorem dX7_laysItems_57 : decode cX7_laysItems 57 = .ok (.iinc 3 1, 3) := by decide +kernel
theorem dX7_laysItems_60 : decode cX7_laysItems 60 = .ok (.goto 71, 3) := by decide +kernel
theorem dX7_laysItems_63 : decode cX7_laysItems 63 = .ok (.iload_n 3, 1) := by decide +kernel
theorem dX7_laysItems_64 : decode cX7_laysItems 64 = .ok (.iload_n 2, 1) := by decide +kernel
theorem dX7_laysItems_65 : decode cX7_laysItems 65 = .ok (.isub, 1) := by decide +kernel
theorem dX7_laysItems_66 : decode cX7_laysItems 66 = .ok (.iconst 3, 1) := by decide +kernel
theorem dX7_laysItems_67 : decode cX7_laysItems 67 = .ok (.if_icmp .lt 22, 3) := by decide +kernel
theorem dX7_laysItems_70 : decode cX7_laysItems 70 = .ok (.iload_n 3, 1) := by decide +kernel
theorem dX7_laysItems_71 : decode cX7_laysItems 71 = .ok (.aload_n 0, 1) := by decide +kernel
theorem dX7_laysItems_72 : decode cX7_laysItems 72 = .ok (.getfield 99, 3) := by decide +kernel
theorem dX7_laysItems_75 : decode cX7_laysItems 75 = .ok (.if_icmp .ge 14, 3) := by decide +kernel
theorem dX7_laysItems_78 : decode cX7_laysItems 78 = .ok (.aload_n 0, 1) := by decide +kernel
theorem dX7_laysItems_79 : decode cX7_laysItems 79 = .ok (.iload_n 1, 1) := by decide +kernel
theorem dX7_laysItems_80 : decode cX7_laysItems 80 = .ok (.iload_n 3, 1) := by decide +kernel
theorem dX7_laysItems_81 : decode cX7_laysItems 81 = .ok (.iconst 1, 1) := by decide +kernel
theorem dX7_laysItems_82 : decode cX7_laysItems 82 = .ok (.isub, 1) := by decide +kernel
theorem dX7_laysItems_83 : decode cX7_laysItems 83 = .ok (.invokevirtual 168, 3) := by decide +kernel
theorem dX7_laysItems_86 : decode cX7_laysItems 86 = .ok (.goto 4, 3) := by decide +kernel
theorem dX7_laysItems_89 : decode cX7_laysItems 89 = .ok (.iconst (-1), 1) := by decide +kernel
theorem dX7_laysItems_90 : decode cX7_laysItems 90 = .ok (.istore 4, 2) := by decide +kernel
theorem dX7_laysItems_92 : decode cX7_laysItems 92 = .ok (.aload_n 0, 1) := by decide +kernel
theorem dX7_laysItems_93 : decode cX7_laysItems 93 = .ok (.iload_n 2, 1) := by decide +kernel
theorem dX7_laysItems_94 : decode cX7_laysItems 94 = .ok (.iload 4, 2) := by decide +kernel
theorem dX7_laysItems_96 : decode cX7_laysItems 96 = .ok (.iconst (-1), 1) := by decide +kernel
theorem dX7_laysItems_97 : decode cX7_laysItems 97 = .ok (.if_icmp .ne 9, 3) := by decide +kernel
theorem dX7_laysItems_100 : decode cX7_laysItems 100 = .ok (.iload_n 3, 1) := by decide +kernel
theorem dX7_laysItems_101 : decode cX7_laysItems 101 = .ok (.iconst 1, 1) := by decide +kernel
theorem dX7_laysItems_102 : decode cX7_laysItems 102 = .ok (.isub, 1) := by decide +kernel
theorem dX7_laysItems_103 : decode cX7_laysItems 103 = .ok (.goto 6, 3) := by decide +kernel
theorem dX7_laysItems_106 : decode cX7_laysItems 106 = .ok (.iload_n 3, 1) := by decide +kernel
theorem dX7_laysItems_107 : decode cX7_laysItems 107 = .ok (.iconst 2, 1) := by decide +kernel
theorem dX7_laysItems_108 : decode cX7_laysItems 108 = .ok (.isub, 1) := by decide +kernel
theorem dX7_laysItems_109 : decode cX7_laysItems 109 = .ok (.iconst (-1), 1) := by decide +kernel
theorem dX7_laysItems_110 : decode cX7_laysItems 110 = .ok (.invokevirtual 164, 3) := by decide +kernel
theorem dX7_laysItems_113 : decode cX7_laysItems 113 = .ok (.iload 4, 2) := by decide +kernel
theorem dX7_laysItems_115 : decode cX7_laysItems 115 = .ok (.iconst (-1), 1) := by decide +kernel
theorem dX7_laysItems_116 : decode cX7_laysItems 116 = .ok (.if_icmp .eq 15, 3) := by decide +kernel
theorem dX7_laysItems_119 : decode cX7_laysItems 119 = .ok (.aload_n 0, 1) := by decide +kernel
theorem dX7_laysItems_120 : decode cX7_laysItems 120 = .ok (.iload_n 3, 1) := by decide +kernel
theorem dX7_laysItems_121 : decode cX7_laysItems 121 = .ok (.iconst 1, 1) := by decide +kernel
theorem dX7_laysItems_122 : decode cX7_laysItems 122 = .ok (.isub, 1) := by decide +kernel
theorem dX7_laysItems_123 : decode cX7_laysItems 123 = .ok (.iload_n 3, 1) := by decide +kernel
theorem dX7_laysItems_124 : decode cX7_laysItems 124 = .ok (.iconst 1, 1) := by decide +kernel
theorem dX7_laysItems_125 : decode cX7_laysItems 125 = .ok (.isub, 1) := by decide +kernel
theorem dX7_laysItems_126 : decode cX7_laysItems 126 = .ok (.iload 4, 2) := by decide +kernel
theorem dX7_laysItems_128 : decode cX7_laysItems 128 = .ok (.invokevirtual 164, 3) := by decide +kernel
theorem dX7_laysItems_131 : decode cX7_laysItems 131 = .ok (.iload_n 3, 1) := by decide +kernel
theorem dX7_laysItems_132 : decode cX7_laysItems 132 = .ok (.istore_n 2, 1) := by decide +kernel
theorem dX7_laysItems_133 : decode cX7_laysItems 133 = .ok (.goto (-126), 3) := by decide +kernel
theorem dX7_laysItems_136 : decode cX7_laysItems 136 = .ok (.return_, 1) := by decide +kernel
theorem dX7_begins_0 : decode cX7_begins 0 = .ok (.iload_n 1, 1) := by decide +kernel
theorem dX7_begins_1 : decode cX7_begins 1 = .ok (.iload_n 2, 1) := by decide +kernel
theorem dX7_begins_2 : decode cX7_begins 2 = .ok (.invokestatic 116, 3) := by decide +kernel
theorem dX7_begins_5 : decode cX7_begins 5 = .ok (.istore 4, 2) := by decide +kernel
theorem dX7_begins_7 : decode cX7_begins 7 = .ok (.iconst 0, 1) := by decide +kernel
theorem dX7_begins_8 : decode cX7_begins 8 = .ok (.istore 5, 2) := by decide +kernel
theorem dX7_begins_10 : decode cX7_begins 10 = .ok (.iconst 0, 1) := by decide +kernel
theorem dX7_begins_11 : decode cX7_begins 11 = .ok (.istore 6, 2) := by decide +kernel
theorem dX7_begins_13 : decode cX7_begins 13 = .ok (.iload 6, 2) := by decide +kernel
theorem dX7_begins_15 : decode cX7_begins 15 = .ok (.aload_n 0, 1) := by decide +kernel
theorem dX7_begins_16 : decode cX7_begins 16 = .ok (.getfield 19, 3) := by decide +kernel
theorem dX7_begins_19 : decode cX7_begins 19 = .ok (.iload 4, 2) := by decide +kernel
theorem dX7_begins_21 : decode cX7_begins 21 = .ok (.iaload, 1) := by decide +kernel
theorem dX7_begins_22 : decode cX7_begins 22 = .ok (.if_icmp .ge 55, 3) := by decide +kernel
theorem dX7_begins_25 : decode cX7_begins 25 = .ok (.iload 5, 2) := by decide +kernel
theorem dX7_begins_27 : decode cX7_begins 27 = .ok (.iload_n 3, 1) := by decide +kernel
theorem dX7_begins_28 : decode cX7_begins 28 = .ok (.if_icmp .ne 25, 3) := by decide +kernel
theorem dX7_begins_31 : decode cX7_begins 31 = .ok (.aload_n 0, 1) := by decide +kernel
theorem dX7_begins_32 : decode cX7_begins 32 = .ok (.getfield 16, 3) := by decide +kernel
theorem dX7_begins_35 : decode cX7_begins 35 = .ok (.bipush 8, 2) := by decide +kernel
theorem dX7_begins_37 : decode cX7_begins 37 = .ok (.iload 4, 2) := by decide +kernel
theorem dX7_begins_39 : decode cX7_begins 39 = .ok (.imul, 1) := by decide +kernel
theorem dX7_begins_40 : decode cX7_begins 40 = .ok (.iload 6, 2) := by decide +kernel
theorem dX7_begins_42 : decode cX7_begins 42 = .ok (.iadd, 1) := by decide +kernel
theorem dX7_begins_43 : decode cX7_begins 43 = .ok (.iaload, 1) := by decide +kernel
theorem dX7_begins_44 : decode cX7_begins 44 = .ok (.ifCond .le 7, 3) := by decide +kernel
theorem dX7_begins_47 : decode cX7_begins 47 = .ok (.iconst 2, 1) := by decide +kernel
theorem dX7_begins_48 : decode cX7_begins 48 = .ok (.goto 4, 3) := by decide +kernel
theorem dX7_begins_51 : decode cX7_begins 51 = .ok (.iconst 1, 1) := by decide +kernel
theorem dX7_begins_52 : decode cX7_begins 52 = .ok (.ireturn, 1) := by decide +kernel
theorem dX7_begins_53 : decode cX7_begins 53 = .ok (.iload 5, 2) := by decide +kernel
theorem dX7_begins_55 : decode cX7_begins 55 = .ok (.aload_n 0, 1) := by decide +kernel
theorem dX7_begins_56 : decode cX7_begins 56 = .ok (.getfield 13, 3) := by decide +kernel
theorem dX7_begins_59 : decode cX7_begins 59 = .ok (.bipush 8, 2) := by decide +kernel
theorem dX7_begins_61 : decode cX7_begins 61 = .ok (.iload 4, 2) := by decide +kernel
theorem dX7_begins_63 : decode cX7_begins 63 = .ok (.imul, 1) := by decide +kernel
theorem dX7_begins_64 : decode cX7_begins 64 = .ok (.iload 6, 2) := by decide +kernel
theorem dX7_begins_66 : decode cX7_begins 66 = .ok (.iadd, 1) := by decide +kernel
theorem dX7_begins_67 : decode cX7_begins 67 = .ok (.iaload, 1) := by decide +kernel
theorem dX7_begins_68 : decode cX7_begins 68 = .ok (.iadd, 1) := by decide +kernel
theorem dX7_begins_69 : decode cX7_begins 69 = .ok (.istore 5, 2) := by decide +kernel
theorem dX7_begins_71 : decode cX7_begins 71 = .ok (.iinc 6 1, 3) := by decide +kernel
theorem dX7_begins_74 : decode cX7_begins 74 = .ok (.goto (-61), 3) := by decide +kernel
theorem dX7_begins_77 : decode cX7_begins 77 = .ok (.iload 5, 2) := by decide +kernel
theorem dX7_begins_79 : decode cX7_begins 79 = .ok (.iload_n 3, 1) := by decide +kernel
theorem dX7_begins_80 : decode cX7_begins 80 = .ok (.if_icmp .ne 18, 3) := by decide +kernel
theorem dX7_begins_83 : decode cX7_begins 83 = .ok (.iload 5, 2) := by decide +kernel
theorem dX7_begins_85 : decode cX7_begins 85 = .ok (.aload_n 0, 1) := by decide +kernel
theorem dX7_begins_86 : decode cX7_begins 86 = .ok (.getfield 7, 3) := by decide +kernel
theorem dX7_begins_89 : decode cX7_begins 89 = .ok (.iload_n 2, 1) := by decide +kernel
theorem dX7_begins_90 : decode cX7_begins 90 = .ok (.iaload, 1) := by decide +kernel
theorem dX7_begins_91 : decode cX7_begins 91 = .ok (.if_icmp .ge 7, 3) := by decide +kernel
theorem dX7_begins_94 : decode cX7_begins 94 = .ok (.iconst 1, 1) := by decide +kernel
theorem dX7_begins_95 : decode cX7_begins 95 = .ok (.goto 4, 3) := by decide +kernel
theorem dX7_begins_98 : decode cX7_begins 98 = .ok (.iconst 0, 1) := by decide +kernel
theorem dX7_begins_99 : decode cX7_begins 99 = .ok (.ireturn, 1) := by decide +kernel
theorem dX7_halvings_0 : decode cX7_halvings 0 = .ok (.iconst 0, 1) := by decide +kernel
theorem dX7_halvings_1 : decode cX7_halvings 1 = .ok (.istore_n 1, 1) := by decide +kernel
theorem dX7_halvings_2 : decode cX7_halvings 2 = .ok (.iload_n 0, 1) := by decide +kernel
theorem dX7_halvings_3 : decode cX7_halvings 3 = .ok (.istore_n 2, 1) := by decide +kernel
theorem dX7_halvings_4 : decode cX7_halvings 4 = .ok (.iload_n 2, 1) := by decide +kernel
theorem dX7_halvings_5 : decode cX7_halvings 5 = .ok (.iconst 1, 1) := by decide +kernel
theorem dX7_halvings_6 : decode cX7_halvings 6 = .ok (.if_icmp .le 13, 3) := by decide +kernel
theorem dX7_halvings_9 : decode cX7_halvings 9 = .ok (.iload_n 2, 1) := by decide +kernel
theorem dX7_halvings_10 : decode cX7_halvings 10 = .ok (.iconst 2, 1) := by decide +kernel
theorem dX7_halvings_11 : decode cX7_halvings 11 = .ok (.idiv, 1) := by decide +kernel
theorem dX7_halvings_12 : decode cX7_halvings 12 = .ok (.istore_n 2, 1) := by decide +kernel
theorem dX7_halvings_13 : decode cX7_halvings 13 = .ok (.iinc 1 1, 3) := by decide +kernel
theorem dX7_halvings_16 : decode cX7_halvings 16 = .ok (.goto (-12), 3) := by decide +kernel
theorem dX7_halvings_19 : decode cX7_halvings 19 = .ok (.iload_n 1, 1) := by decide +kernel
theorem dX7_halvings_20 : decode cX7_halvings 20 = .ok (.ireturn, 1) := by decide +kernel
theorem dX7_laysSprings_0 : decode cX7_laysSprings 0 = .ok (.aload_n 0, 1) := by decide +kernel
theorem dX7_laysSprings_1 : decode cX7_laysSprings 1 = .ok (.getfield 62, 3) := by decide +kernel
theorem dX7_laysSprings_4 : decode cX7_laysSprings 4 = .ok (.iconst 0, 1) := by decide +kernel
theorem dX7_laysSprings_5 : decode cX7_laysSprings 5 = .ok (.iconst 0, 1) := by decide +kernel
theorem dX7_laysSprings_6 : decode cX7_laysSprings 6 = .ok (.iastore, 1) := by decide +kernel
theorem dX7_laysSprings_7 : decode cX7_laysSprings 7 = .ok (.iconst 0, 1) := by decide +kernel
theorem dX7_laysSprings_8 : decode cX7_laysSprings 8 = .ok (.istore_n 1, 1) := by decide +kernel
theorem dX7_laysSprings_9 : decode cX7_laysSprings 9 = .ok (.iload_n 1, 1) := by decide +kernel
theorem dX7_laysSprings_10 : decode cX7_laysSprings 10 = .ok (.aload_n 0, 1) := by decide +kernel
theorem dX7_laysSprings_11 : decode cX7_laysSprings 11 = .ok (.getfield 161, 3) := by decide +kernel
theorem dX7_laysSprings_14 : decode cX7_laysSprings 14 = .ok (.if_icmp .ge 405, 3) := by decide +kernel
theorem dX7_laysSprings_17 : decode cX7_laysSprings 17 = .ok (.aload_n 0, 1) := by decide +kernel
theorem dX7_laysSprings_18 : decode cX7_laysSprings 18 = .ok (.getfield 62, 3) := by decide +kernel
theorem dX7_laysSprings_21 : decode cX7_laysSprings 21 = .ok (.iload_n 1, 1) := by decide +kernel
theorem dX7_laysSprings_22 : decode cX7_laysSprings 22 = .ok (.iaload, 1) := by decide +kernel
theorem dX7_laysSprings_23 : decode cX7_laysSprings 23 = .ok (.istore_n 2, 1) := by decide +kernel
theorem dX7_laysSprings_24 : decode cX7_laysSprings 24 = .ok (.aload_n 0, 1) := by decide +kernel
theorem dX7_laysSprings_25 : decode cX7_laysSprings 25 = .ok (.getfield 53, 3) := by decide +kernel
theorem dX7_laysSprings_28 : decode cX7_laysSprings 28 = .ok (.iload_n 1, 1) := by decide +kernel
theorem dX7_laysSprings_29 : decode cX7_laysSprings 29 = .ok (.iaload, 1) := by decide +kernel
theorem dX7_laysSprings_30 : decode cX7_laysSprings 30 = .ok (.istore_n 3, 1) := by decide +kernel
theorem dX7_laysSprings_31 : decode cX7_laysSprings 31 = .ok (.aload_n 0, 1) := by decide +kernel
theorem dX7_laysSprings_32 : decode cX7_laysSprings 32 = .ok (.getfield 59, 3) := by decide +kernel
theorem dX7_laysSprings_35 : decode cX7_laysSprings 35 = .ok (.iload_n 1, 1) := by decide +kernel
theorem dX7_laysSprings_36 : decode cX7_laysSprings 36 = .ok (.iaload, 1) := by decide +kernel
theorem dX7_laysSprings_37 : decode cX7_laysSprings 37 = .ok (.iconst 5, 1) := by decide +kernel
theorem dX7_laysSprings_38 : decode cX7_laysSprings 38 = .ok (.if_icmp .ne 7, 3) := by decide +kernel
theorem dX7_laysSprings_41 : decode cX7_laysSprings 41 = .ok (.iconst 0, 1) := by decide +kernel
theorem dX7_laysSprings_42 : decode cX7_laysSprings 42 = .ok (.goto 9, 3) := by decide +kernel
theorem dX7_laysSprings_45 : decode cX7_laysSprings 45 = .ok (.aload_n 0, 1) := by decide +kernel
theorem dX7_laysSprings_46 : decode cX7_laysSprings 46 = .ok (.getfield 59, 3) := by decide +kernel
theorem dX7_laysSprings_49 : decode cX7_laysSprings 49 = .ok (.iload_n 1, 1) := by decide +kernel
theorem dX7_laysSprings_50 : decode cX7_laysSprings 50 = .ok (.iaload, 1) := by decide +kernel
theorem dX7_laysSprings_51 : decode cX7_laysSprings 51 = .ok (.istore 4, 2) := by decide +kernel
theorem dX7_laysSprings_53 : decode cX7_laysSprings 53 = .ok (.aload_n 0, 1) := by decide +kernel
theorem dX7_laysSprings_54 : decode cX7_laysSprings 54 = .ok (.getfield 59, 3) := by decide +kernel
theorem dX7_laysSprings_57 : decode cX7_laysSprings 57 = .ok (.iload_n 1, 1) := by decide +kernel
theorem dX7_laysSprings_58 : decode cX7_laysSprings 58 = .ok (.iaload, 1) := by decide +kernel
theorem dX7_laysSprings_59 : decode cX7_laysSprings 59 = .ok (.iconst 5, 1) := by decide +kernel
theorem dX7_laysSprings_60 : decode cX7_laysSprings 60 = .ok (.if_icmp .ne 7, 3) := by decide +kernel
theorem dX7_laysSprings_63 : decode cX7_laysSprings 63 = .ok (.iconst 4, 1) := by decide +kernel
theorem dX7_laysSprings_64 : decode cX7_laysSprings 64 = .ok (.goto 9, 3) := by decide +kernel
theorem dX7_laysSprings_67 : decode cX7_laysSprings 67 = .ok (.aload_n 0, 1) := by decide +kernel
theorem dX7_laysSprings_68 : decode cX7_laysSprings 68 = .ok (.getfield 59, 3) := by decide +kernel
theorem dX7_laysSprings_71 : decode cX7_laysSprings 71 = .ok (.iload_n 1, 1) := by decide +kernel
theorem dX7_laysSprings_72 : decode cX7_laysSprings 72 = .ok (.iaload, 1) := by decide +kernel
theorem dX7_laysSprings_73 : decode cX7_laysSprings 73 = .ok (.istore 5, 2) := by decide +kernel
theorem dX7_laysSprings_75 : decode cX7_laysSprings 75 = .ok (.iconst 0, 1) := by decide +kernel
theorem dX7_laysSprings_76 : decode cX7_laysSprings 76 = .ok (.istore 6, 2) := by decide +kernel
theorem dX7_laysSprings_78 : decode cX7_laysSprings 78 = .ok (.iload 6, 2) := by decide +kernel
theorem dX7_laysSprings_80 : decode cX7_laysSprings 80 = .ok (.aload_n 0, 1) := by decide +kernel
theorem dX7_laysSprings_81 : decode cX7_laysSprings 81 = .ok (.getfield 7, 3) := by decide +kernel
theorem dX7_laysSprings_84 : decode cX7_laysSprings 84 = .ok (.iload_n 3, 1) := by decide +kernel
theorem dX7_laysSprings_85 : decode cX7_laysSprings 85 = .ok (.iaload, 1) := by decide +kernel
theorem dX7_laysSprings_86 : decode cX7_laysSprings 86 = .ok (.if_icmp .ge 115, 3) := by decide +kernel
theorem dX7_laysSprings_89 : decode cX7_laysSprings 89 = .ok (.aload_n 0, 1) := by decide +kernel
theorem dX7_laysSprings_90 : decode cX7_laysSprings 90 = .ok (.getfield 59, 3) := by decide +kernel
theorem dX7_laysSprings_93 : decode cX7_laysSprings 93 = .ok (.iload_n 1, 1) := by decide +kernel
theorem dX7_laysSprings_94 : decode cX7_laysSprings 94 = .ok (.iaload, 1) := by decide +kernel
theorem dX7_laysSprings_95 : decode cX7_laysSprings 95 = .ok (.iconst (-1), 1) := by decide +kernel
theorem dX7_laysSprings_96 : decode cX7_laysSprings 96 = .ok (.if_icmp .eq 105, 3) := by decide +kernel
theorem dX7_laysSprings_99 : decode cX7_laysSprings 99 = .ok (.iconst 0, 1) := by decide +kernel
theorem dX7_laysSprings_100 : decode cX7_laysSprings 100 = .ok (.istore 7, 2) := by decide +kernel
theorem dX7_laysSprings_102 : decode cX7_laysSprings 102 = .ok (.iconst 0, 1) := by decide +kernel
theorem dX7_laysSprings_103 : decode cX7_laysSprings 103 = .ok (.istore 8, 2) := by decide +kernel
theorem dX7_laysSprings_105 : decode cX7_laysSprings 105 = .ok (.iload 4, 2) := by decide +kernel
theorem dX7_laysSprings_107 : decode cX7_laysSprings 107 = .ok (.istore 9, 2) := by decide +kernel
theorem dX7_laysSprings_109 : decode cX7_laysSprings 109 = .ok (.iload 9, 2) := by decide +kernel
theorem dX7_laysSprings_111 : decode cX7_laysSprings 111 = .ok (.iload 5, 2) := by decide +kernel
theorem dX7_laysSprings_113 : decode cX7_laysSprings 113 = .ok (.if_icmp .gt 51, 3) := by decide +kernel
theorem dX7_laysSprings_116 : decode cX7_laysSprings 116 = .ok (.aload_n 0, 1) := by decide +kernel
theorem dX7_laysSprings_117 : decode cX7_laysSprings 117 = .ok (.iload 9, 2) := by decide +kernel
theorem dX7_laysSprings_119 : decode cX7_laysSprings 119 = .ok (.iload_n 3, 1) := by decide +kernel
theorem dX7_laysSprings_120 : decode cX7_laysSprings 120 = .ok (.iload 6, 2) := by decide +kernel
theorem dX7_laysSprings_122 : decode cX7_laysSprings 122 = .ok (.invokevirtual 171, 3) := by decide +kernel
theorem dX7_laysSprings_125 : decode cX7_laysSprings 125 = .ok (.istore 10, 2) := by decide +kernel
theorem dX7_laysSprings_127 : decode cX7_laysSprings 127 = .ok (.iload 7, 2) := by decide +kernel
theorem dX7_laysSprings_129 : decode cX7_laysSprings 129 = .ok (.iload 10, 2) := by decide +kernel
theorem dX7_laysSprings_131 : decode cX7_laysSprings 131 = .ok (.ifCond .le 7, 3) := by decide +kernel
theorem dX7_laysSprings_134 : decode cX7_laysSprings 134 = .ok (.iconst 1, 1) := by decide +kernel
theorem dX7_laysSprings_135 : decode cX7_laysSprings 135 = .ok (.goto 4, 3) := by decide +kernel
theorem dX7_laysSprings_138 : decode cX7_laysSprings 138 = .ok (.iconst 0, 1) := by decide +kernel
theorem dX7_laysSprings_139 : decode cX7_laysSprings 139 = .ok (.iadd, 1) := by decide +kernel
theorem dX7_laysSprings_140 : decode cX7_laysSprings 140 = .ok (.istore 7, 2) := by decide +kernel
theorem dX7_laysSprings_142 : decode cX7_laysSprings 142 = .ok (.iload 8, 2) := by decide +kernel
theorem dX7_laysSprings_144 : decode cX7_laysSprings 144 = .ok (.iload 10, 2) := by decide +kernel
theorem dX7_laysSprings_146 : decode cX7_laysSprings 146 = .ok (.iconst 2, 1) := by decide +kernel
theorem dX7_laysSprings_147 : decode cX7_laysSprings 147 = .ok (.if_icmp .ne 7, 3) := by decide +kernel
theorem dX7_laysSprings_150 : decode cX7_laysSprings 150 = .ok (.iconst 1, 1) := by decide +kernel
theorem dX7_laysSprings_151 : decode cX7_laysSprings 151 = .ok (.goto 4, 3) := by decide +kernel
theorem dX7_laysSprings_154 : decode cX7_laysSprings 154 = .ok (.iconst 0, 1) := by decide +kernel
theorem dX7_laysSprings_155 : decode cX7_laysSprings 155 = .ok (.iadd, 1) := by decide +kernel
theorem dX7_laysSprings_156 : decode cX7_laysSprings 156 = .ok (.istore 8, 2) := by decide +kernel
theorem dX7_laysSprings_158 : decode cX7_laysSprings 158 = .ok (.iinc 9 1, 3) := by decide +kernel
theorem dX7_laysSprings_161 : decode cX7_laysSprings 161 = .ok (.goto (-52), 3) := by decide +kernel
theorem dX7_laysSprings_164 : decode cX7_laysSprings 164 = .ok (.iload 6, 2) := by decide +kernel
theorem dX7_laysSprings_166 : decode cX7_laysSprings 166 = .ok (.ifCond .eq 8, 3) := by decide +kernel
theorem dX7_laysSprings_169 : decode cX7_laysSprings 169 = .ok (.iload 7, 2) := by decide +kernel
theorem dX7_laysSprings_171 : decode cX7_laysSprings 171 = .ok (.ifCond .le 24, 3) := by decide +kernel
theorem dX7_laysSprings_174 : decode cX7_laysSprings 174 = .ok (.aload_n 0, 1) := by decide +kernel
theorem dX7_laysSprings_175 : decode cX7_laysSprings 175 = .ok (.getfield 65, 3) := by decide +kernel
theorem dX7_laysSprings_178 : decode cX7_laysSprings 178 = .ok (.iload_n 2, 1) := by decide +kernel
theorem dX7_laysSprings_179 : decode cX7_laysSprings 179 = .ok (.iload 6, 2) := by decide +kernel
theorem dX7_laysSprings_181 : decode cX7_laysSprings 181 = .ok (.iastore, 1) := by decide +kernel
theorem dX7_laysSprings_182 : decode cX7_laysSprings 182 = .ok (.aload_n 0, 1) := by decide +kernel
theorem dX7_laysSprings_183 : decode cX7_laysSprings 183 = .ok (.getfield 71, 3) := by decide +kernel
theorem dX7_laysSprings_186 : decode cX7_laysSprings 186 = .ok (.iload_n 2, 1) := by decide +kernel
theorem dX7_laysSprings_187 : decode cX7_laysSprings 187 = .ok (.iconst 4, 1) := by decide +kernel
theorem dX7_laysSprings_188 : decode cX7_laysSprings 188 = .ok (.iload 8, 2) := by decide +kernel
theorem dX7_laysSprings_190 : decode cX7_laysSprings 190 = .ok (.iadd, 1) := by decide +kernel
theorem dX7_laysSprings_191 : decode cX7_laysSprings 191 = .ok (.iastore, 1) := by decide +kernel
theorem dX7_laysSprings_192 : decode cX7_laysSprings 192 = .ok (.iinc 2 1, 3) := by decide +kernel
theorem dX7_laysSprings_195 : decode cX7_laysSprings 195 = .ok (.iinc 6 1, 3) := by decide +kernel
theorem dX7_laysSprings_198 : decode cX7_laysSprings 198 = .ok (.goto (-120), 3) := by decide +kernel
theorem dX7_laysSprings_201 : decode cX7_laysSprings 201 = .ok (.aload_n 0, 1) := by decide +kernel
theorem dX7_laysSprings_202 : decode cX7_laysSprings 202 = .ok (.getfield 62, 3) := by decide +kernel
theorem dX7_laysSprings_205 : decode cX7_laysSprings 205 = .ok (.iload_n 1, 1) := by decide +kernel
theorem dX7_laysSprings_206 : decode cX7_laysSprings 206 = .ok (.iaload, 1) := by decide +kernel
theorem dX7_laysSprings_207 : decode cX7_laysSprings 207 = .ok (.istore 6, 2) := by decide +kernel
theorem dX7_laysSprings_209 : decode cX7_laysSprings 209 = .ok (.iload 6, 2) := by decide +kernel
theorem dX7_laysSprings_211 : decode cX7_laysSprings 211 = .ok (.iload_n 2, 1) := by decide +kernel
theorem dX7_laysSprings_212 : decode cX7_laysSprings 212 = .ok (.if_icmp .ge 88, 3) := by decide +kernel
theorem dX7_laysSprings_215 : decode cX7_laysSprings 215 = .ok (.iload 6, 2) := by decide +kernel
theorem dX7_laysSprings_217 : decode cX7_laysSprings 217 = .ok (.iconst 1, 1) := by decide +kernel
theorem dX7_laysSprings_218 : decode cX7_laysSprings 218 = .ok (.iadd, 1) := by decide +kernel
theorem dX7_laysSprings_219 : decode cX7_laysSprings 219 = .ok (.iload_n 2, 1) := by decide +kernel
theorem dX7_laysSprings_220 : decode cX7_laysSprings 220 = .ok (.if_icmp .ge 15, 3) := by decide +kernel
theorem dX7_laysSprings_223 : decode cX7_laysSprings 223 = .ok (.aload_n 0, 1) := by decide +kernel
theorem dX7_laysSprings_224 : decode cX7_laysSprings 224 = .ok (.getfield 65, 3) := by decide +kernel
theorem dX7_laysSprings_227 : decode cX7_laysSprings 227 = .ok (.iload 6, 2) := by decide +kernel
theorem dX7_laysSprings_229 : decode cX7_laysSprings 229 = .ok (.iconst 1, 1) := by decide +kernel
theorem dX7_laysSprings_230 : decode cX7_laysSprings 230 = .ok (.iadd, 1) := by decide +kernel
theorem dX7_laysSprings_231 : decode cX7_laysSprings 231 = .ok (.iaload, 1) := by decide +kernel
theorem dX7_laysSprings_232 : decode cX7_laysSprings 232 = .ok (.goto 9, 3) := by decide +kernel
theorem dX7_laysSprings_235 : decode cX7_laysSprings 235 = .ok (.aload_n 0, 1) := by decide +kernel
theorem dX7_laysSprings_236 : decode cX7_laysSprings 236 = .ok (.getfield 7, 3) := by decide +kernel
theorem dX7_laysSprings_239 : decode cX7_laysSprings 239 = .ok (.iload_n 3, 1) := by decide +kernel
theorem dX7_laysSprings_240 : decode cX7_laysSprings 240 = .ok (.iaload, 1) := by decide +kernel
theorem dX7_laysSprings_241 : decode cX7_laysSprings 241 = .ok (.aload_n 0, 1) := by decide +kernel
theorem dX7_laysSprings_242 : decode cX7_laysSprings 242 = .ok (.getfield 65, 3) := by decide +kernel
theorem dX7_laysSprings_245 : decode cX7_laysSprings 245 = .ok (.iload 6, 2) := by decide +kernel
theorem dX7_laysSprings_247 : decode cX7_laysSprings 247 = .ok (.iaload, 1) := by decide +kernel
theorem dX7_laysSprings_248 : decode cX7_laysSprings 248 = .ok (.isub, 1) := by decide +kernel
theorem dX7_laysSprings_249 : decode cX7_laysSprings 249 = .ok (.istore 7, 2) := by decide +kernel
theorem dX7_laysSprings_251 : decode cX7_laysSprings 251 = .ok (.bipush 6, 2) := by decide +kernel
theorem dX7_laysSprings_253 : decode cX7_laysSprings 253 = .ok (.iconst 3, 1) := by decide +kernel
theorem dX7_laysSprings_254 : decode cX7_laysSprings 254 = .ok (.iload 7, 2) := by decide +kernel
theorem dX7_laysSprings_256 : decode cX7_laysSprings 256 = .ok (.invokestatic 174, 3) := by decide +kernel
theorem dX7_laysSprings_259 : decode cX7_laysSprings 259 = .ok (.imul, 1) := by decide +kernel
theorem dX7_laysSprings_260 : decode cX7_laysSprings 260 = .ok (.iadd, 1) := by decide +kernel
theorem dX7_laysSprings_261 : decode cX7_laysSprings 261 = .ok (.istore 8, 2) := by decide +kernel
theorem dX7_laysSprings_263 : decode cX7_laysSprings 263 = .ok (.aload_n 0, 1) := by decide +kernel
theorem dX7_laysSprings_264 : decode cX7_laysSprings 264 = .ok (.getfield 68, 3) := by decide +kernel
theorem dX7_laysSprings_267 : decode cX7_laysSprings 267 = .ok (.iload 6, 2) := by decide +kernel
theorem dX7_laysSprings_269 : decode cX7_laysSprings 269 = .ok (.iload 8, 2) := by decide +kernel
theorem dX7_laysSprings_271 : decode cX7_laysSprings 271 = .ok (.aload_n 0, 1) := by decide +kernel
theorem dX7_laysSprings_272 : decode cX7_laysSprings 272 = .ok (.getfield 71, 3) := by decide +kernel
theorem dX7_laysSprings_275 : decode cX7_laysSprings 275 = .ok (.iload 6, 2) := by decide +kernel
theorem dX7_laysSprings_277 : decode cX7_laysSprings 277 = .ok (.iaload, 1) := by decide +kernel
theorem dX7_laysSprings_278 : decode cX7_laysSprings 278 = .ok (.if_icmp .ge 13, 3) := by decide +kernel
theorem dX7_laysSprings_281 : decode cX7_laysSprings 281 = .ok (.aload_n 0, 1) := by decide +kernel
theorem dX7_laysSprings_282 : decode cX7_laysSprings 282 = .ok (.getfield 71, 3) := by decide +kernel
theorem dX7_laysSprings_285 : decode cX7_laysSprings 285 = .ok (.iload 6, 2) := by decide +kernel
theorem dX7_laysSprings_287 : decode cX7_laysSprings 287 = .ok (.iaload, 1) := by decide +kernel
theorem dX7_laysSprings_288 : decode cX7_laysSprings 288 = .ok (.goto 5, 3) := by decide +kernel
theorem dX7_laysSprings_291 : decode cX7_laysSprings 291 = .ok (.iload 8, 2) := by decide +kernel
theorem dX7_laysSprings_293 : decode cX7_laysSprings 293 = .ok (.iastore, 1) := by decide +kernel
theorem dX7_laysSprings_294 : decode cX7_laysSprings 294 = .ok (.iinc 6 1, 3) := by decide +kernel
theorem dX7_laysSprings_297 : decode cX7_laysSprings 297 = .ok (.goto (-88), 3) := by decide +kernel
theorem dX7_laysSprings_300 : decode cX7_laysSprings 300 = .ok (.aload_n 0, 1) := by decide +kernel
theorem dX7_laysSprings_301 : decode cX7_laysSprings 301 = .ok (.getfield 59, 3) := by decide +kernel
theorem dX7_laysSprings_304 : decode cX7_laysSprings 304 = .ok (.iload_n 1, 1) := by decide +kernel
theorem dX7_laysSprings_305 : decode cX7_laysSprings 305 = .ok (.iaload, 1) := by decide +kernel
theorem dX7_laysSprings_306 : decode cX7_laysSprings 306 = .ok (.iconst (-1), 1) := by decide +kernel
theorem dX7_laysSprings_307 : decode cX7_laysSprings 307 = .ok (.if_icmp .ne 29, 3) := by decide +kernel
theorem dX7_laysSprings_310 : decode cX7_laysSprings 310 = .ok (.aload_n 0, 1) := by decide +kernel
theorem dX7_laysSprings_311 : decode cX7_laysSprings 311 = .ok (.getfield 65, 3) := by decide +kernel
theorem dX7_laysSprings_314 : decode cX7_laysSprings 314 = .ok (.iload_n 2, 1) := by decide +kernel
theorem dX7_laysSprings_315 : decode cX7_laysSprings 315 = .ok (.iconst 0, 1) := by decide +kernel
theorem dX7_laysSprings_316 : decode cX7_laysSprings 316 = .ok (.iastore, 1) := by decide +kernel
theorem dX7_laysSprings_317 : decode cX7_laysSprings 317 = .ok (.aload_n 0, 1) := by decide +kernel
theorem dX7_laysSprings_318 : decode cX7_laysSprings 318 = .ok (.getfield 68, 3) := by decide +kernel
theorem dX7_laysSprings_321 : decode cX7_laysSprings 321 = .ok (.iload_n 2, 1) := by decide +kernel
theorem dX7_laysSprings_322 : decode cX7_laysSprings 322 = .ok (.bipush 24, 2) := by decide +kernel
theorem dX7_laysSprings_324 : decode cX7_laysSprings 324 = .ok (.iastore, 1) := by decide +kernel
theorem dX7_laysSprings_325 : decode cX7_laysSprings 325 = .ok (.aload_n 0, 1) := by decide +kernel
theorem dX7_laysSprings_326 : decode cX7_laysSprings 326 = .ok (.getfield 71, 3) := by decide +kernel
theorem dX7_laysSprings_329 : decode cX7_laysSprings 329 = .ok (.iload_n 2, 1) := by decide +kernel
theorem dX7_laysSprings_330 : decode cX7_laysSprings 330 = .ok (.bipush 16, 2) := by decide +kernel
theorem dX7_laysSprings_332 : decode cX7_laysSprings 332 = .ok (.iastore, 1) := by decide +kernel
theorem dX7_laysSprings_333 : decode cX7_laysSprings 333 = .ok (.iinc 2 1, 3) := by decide +kernel
theorem dX7_laysSprings_336 : decode cX7_laysSprings 336 = .ok (.aload_n 0, 1) := by decide +kernel
theorem dX7_laysSprings_337 : decode cX7_laysSprings 337 = .ok (.getfield 62, 3) := by decide +kernel
theorem dX7_laysSprings_340 : decode cX7_laysSprings 340 = .ok (.iload_n 1, 1) := by decide +kernel
theorem dX7_laysSprings_341 : decode cX7_laysSprings 341 = .ok (.iconst 1, 1) := by decide +kernel
theorem dX7_laysSprings_342 : decode cX7_laysSprings 342 = .ok (.iadd, 1) := by decide +kernel
theorem dX7_laysSprings_343 : decode cX7_laysSprings 343 = .ok (.iload_n 2, 1) := by decide +kernel
theorem dX7_laysSprings_344 : decode cX7_laysSprings 344 = .ok (.iastore, 1) := by decide +kernel
theorem dX7_laysSprings_345 : decode cX7_laysSprings 345 = .ok (.aload_n 0, 1) := by decide +kernel
theorem dX7_laysSprings_346 : decode cX7_laysSprings 346 = .ok (.getfield 74, 3) := by decide +kernel
theorem dX7_laysSprings_349 : decode cX7_laysSprings 349 = .ok (.iload_n 1, 1) := by decide +kernel
theorem dX7_laysSprings_350 : decode cX7_laysSprings 350 = .ok (.bipush 8, 2) := by decide +kernel
theorem dX7_laysSprings_352 : decode cX7_laysSprings 352 = .ok (.iastore, 1) := by decide +kernel
theorem dX7_laysSprings_353 : decode cX7_laysSprings 353 = .ok (.aload_n 0, 1) := by decide +kernel
theorem dX7_laysSprings_354 : decode cX7_laysSprings 354 = .ok (.getfield 77, 3) := by decide +kernel
theorem dX7_laysSprings_357 : decode cX7_laysSprings 357 = .ok (.iload_n 1, 1) := by decide +kernel
theorem dX7_laysSprings_358 : decode cX7_laysSprings 358 = .ok (.bipush 8, 2) := by decide +kernel
theorem dX7_laysSprings_360 : decode cX7_laysSprings 360 = .ok (.iastore, 1) := by decide +kernel
theorem dX7_laysSprings_361 : decode cX7_laysSprings 361 = .ok (.aload_n 0, 1) := by decide +kernel
theorem dX7_laysSprings_362 : decode cX7_laysSprings 362 = .ok (.getfield 62, 3) := by decide +kernel
theorem dX7_laysSprings_365 : decode cX7_laysSprings 365 = .ok (.iload_n 1, 1) := by decide +kernel
theorem dX7_laysSprings_366 : decode cX7_laysSprings 366 = .ok (.iaload, 1) := by decide +kernel
theorem dX7_laysSprings_367 : decode cX7_laysSprings 367 = .ok (.istore 6, 2) := by decide +kernel
theorem dX7_laysSprings_369 : decode cX7_laysSprings 369 = .ok (.iload 6, 2) := by decide +kernel
theorem dX7_laysSprings_371 : decode cX7_laysSprings 371 = .ok (.iload_n 2, 1) := by decide +kernel
theorem dX7_laysSprings_372 : decode cX7_laysSprings 372 = .ok (.if_icmp .ge 41, 3) := by decide +kernel
theorem dX7_laysSprings_375 : decode cX7_laysSprings 375 = .ok (.aload_n 0, 1) := by decide +kernel
theorem dX7_laysSprings_376 : decode cX7_laysSprings 376 = .ok (.getfield 74, 3) := by decide +kernel
theorem dX7_laysSprings_379 : decode cX7_laysSprings 379 = .ok (.iload_n 1, 1) := by decide +kernel
theorem dX7_laysSprings_380 : decode cX7_laysSprings 380 = .ok (.dup2, 1) := by decide +kernel
theorem dX7_laysSprings_381 : decode cX7_laysSprings 381 = .ok (.iaload, 1) := by decide +kernel
theorem dX7_laysSprings_382 : decode cX7_laysSprings 382 = .ok (.aload_n 0, 1) := by decide +kernel
theorem dX7_laysSprings_383 : decode cX7_laysSprings 383 = .ok (.getfield 68, 3) := by decide +kernel
theorem dX7_laysSprings_386 : decode cX7_laysSprings 386 = .ok (.iload 6, 2) := by decide +kernel
theorem dX7_laysSprings_388 : decode cX7_laysSprings 388 = .ok (.iaload, 1) := by decide +kernel
theorem dX7_laysSprings_389 : decode cX7_laysSprings 389 = .ok (.iadd, 1) := by decide +kernel
theorem dX7_laysSprings_390 : decode cX7_laysSprings 390 = .ok (.iastore, 1) := by decide +kernel
theorem dX7_laysSprings_391 : decode cX7_laysSprings 391 = .ok (.aload_n 0, 1) := by decide +kernel
theorem dX7_laysSprings_392 : decode cX7_laysSprings 392 = .ok (.getfield 77, 3) := by decide +kernel
theorem dX7_laysSprings_395 : decode cX7_laysSprings 395 = .ok (.iload_n 1, 1) := by decide +kernel
theorem dX7_laysSprings_396 : decode cX7_laysSprings 396 = .ok (.dup2, 1) := by decide +kernel
theorem dX7_laysSprings_397 : decode cX7_laysSprings 397 = .ok (.iaload, 1) := by decide +kernel
theorem dX7_laysSprings_398 : decode cX7_laysSprings 398 = .ok (.aload_n 0, 1) := by decide +kernel
theorem dX7_laysSprings_399 : decode cX7_laysSprings 399 = .ok (.getfield 71, 3) := by decide +kernel
theorem dX7_laysSprings_402 : decode cX7_laysSprings 402 = .ok (.iload 6, 2) := by decide +kernel
theorem dX7_laysSprings_404 : decode cX7_laysSprings 404 = .ok (.iaload, 1) := by decide +kernel
theorem dX7_laysSprings_405 : decode cX7_laysSprings 405 = .ok (.iadd, 1) := by decide +kernel
theorem dX7_laysSprings_406 : decode cX7_laysSprings 406 = .ok (.iastore, 1) := by decide +kernel
theorem dX7_laysSprings_407 : decode cX7_laysSprings 407 = .ok (.iinc 6 1, 3) := by decide +kernel
theorem dX7_laysSprings_410 : decode cX7_laysSprings 410 = .ok (.goto (-41), 3) := by decide +kernel
theorem dX7_laysSprings_413 : decode cX7_laysSprings 413 = .ok (.iinc 1 1, 3) := by decide +kernel
theorem dX7_laysSprings_416 : decode cX7_laysSprings 416 = .ok (.goto (-407), 3) := by decide +kernel
theorem dX7_laysSprings_419 : decode cX7_laysSprings 419 = .ok (.return_, 1) := by decide +kernel
theorem dX7_silentTo_0 : decode cX7_silentTo 0 = .ok (.iconst 0, 1) := by decide +kernel
theorem dX7_silentTo_1 : decode cX7_silentTo 1 = .ok (.istore_n 3, 1) := by decide +kernel
theorem dX7_silentTo_2 : decode cX7_silentTo 2 = .ok (.iload_n 2, 1) := by decide +kernel
theorem dX7_silentTo_3 : decode cX7_silentTo 3 = .ok (.istore 4, 2) := by decide +kernel
theorem dX7_silentTo_5 : decode cX7_silentTo 5 = .ok (.iload 4, 2) := by decide +kernel
theorem dX7_silentTo_7 : decode cX7_silentTo 7 = .ok (.ifCond .lt 94, 3) := by decide +kernel
theorem dX7_silentTo_10 : decode cX7_silentTo 10 = .ok (.iload_n 1, 1) := by decide +kernel
theorem dX7_silentTo_11 : decode cX7_silentTo 11 = .ok (.iload 4, 2) := by decide +kernel
theorem dX7_silentTo_13 : decode cX7_silentTo 13 = .ok (.invokestatic 116, 3) := by decide +kernel
theorem dX7_silentTo_16 : decode cX7_silentTo 16 = .ok (.istore 5, 2) := by decide +kernel
theorem dX7_silentTo_18 : decode cX7_silentTo 18 = .ok (.iconst 0, 1) := by decide +kernel
theorem dX7_silentTo_19 : decode cX7_silentTo 19 = .ok (.istore 6, 2) := by decide +kernel
theorem dX7_silentTo_21 : decode cX7_silentTo 21 = .ok (.iconst 0, 1) := by decide +kernel
theorem dX7_silentTo_22 : decode cX7_silentTo 22 = .ok (.istore 7, 2) := by decide +kernel
theorem dX7_silentTo_24 : decode cX7_silentTo 24 = .ok (.iload 7, 2) := by decide +kernel
theorem dX7_silentTo_26 : decode cX7_silentTo 26 = .ok (.aload_n 0, 1) := by decide +kernel
theorem dX7_silentTo_27 : decode cX7_silentTo 27 = .ok (.getfield 19, 3) := by decide +kernel
theorem dX7_silentTo_30 : decode cX7_silentTo 30 = .ok (.iload 5, 2) := by decide +kernel
theorem dX7_silentTo_32 : decode cX7_silentTo 32 = .ok (.iaload, 1) := by decide +kernel
theorem dX7_silentTo_33 : decode cX7_silentTo 33 = .ok (.if_icmp .ge 42, 3) := by decide +kernel
theorem dX7_silentTo_36 : decode cX7_silentTo 36 = .ok (.aload_n 0, 1) := by decide +kernel
theorem dX7_silentTo_37 : decode cX7_silentTo 37 = .ok (.getfield 16, 3) := by decide +kernel
theorem dX7_silentTo_40 : decode cX7_silentTo 40 = .ok (.bipush 8, 2) := by decide +kernel
theorem dX7_silentTo_42 : decode cX7_silentTo 42 = .ok (.iload 5, 2) := by decide +kernel
theorem dX7_silentTo_44 : decode cX7_silentTo 44 = .ok (.imul, 1) := by decide +kernel
theorem dX7_silentTo_45 : decode cX7_silentTo 45 = .ok (.iload 7, 2) := by decide +kernel
theorem dX7_silentTo_47 : decode cX7_silentTo 47 = .ok (.iadd, 1) := by decide +kernel
theorem dX7_silentTo_48 : decode cX7_silentTo 48 = .ok (.iaload, 1) := by decide +kernel
theorem dX7_silentTo_49 : decode cX7_silentTo 49 = .ok (.ifCond .le 16, 3) := by decide +kernel
theorem dX7_silentTo_52 : decode cX7_silentTo 52 = .ok (.aload_n 0, 1) := by decide +kernel
theorem dX7_silentTo_53 : decode cX7_silentTo 53 = .ok (.iload 5, 2) := by decide +kernel
theorem dX7_silentTo_55 : decode cX7_silentTo 55 = .ok (.iload 7, 2) := by decide +kernel
theorem dX7_silentTo_57 : decode cX7_silentTo 57 = .ok (.iconst 1, 1) := by decide +kernel
theorem dX7_silentTo_58 : decode cX7_silentTo 58 = .ok (.iadd, 1) := by decide +kernel
theorem dX7_silentTo_59 : decode cX7_silentTo 59 = .ok (.invokevirtual 120, 3) := by decide +kernel
theorem dX7_silentTo_62 : decode cX7_silentTo 62 = .ok (.goto 5, 3) := by decide +kernel
theorem dX7_silentTo_65 : decode cX7_silentTo 65 = .ok (.iload 6, 2) := by decide +kernel
theorem dX7_silentTo_67 : decode cX7_silentTo 67 = .ok (.istore 6, 2) := by decide +kernel
theorem dX7_silentTo_69 : decode cX7_silentTo 69 = .ok (.iinc 7 1, 3) := by decide +kernel
theorem dX7_silentTo_72 : decode cX7_silentTo 72 = .ok (.goto (-48), 3) := by decide +kernel
theorem dX7_silentTo_75 : decode cX7_silentTo 75 = .ok (.iload_n 3, 1) := by decide +kernel
theorem dX7_silentTo_76 : decode cX7_silentTo 76 = .ok (.aload_n 0, 1) := by decide +kernel
theorem dX7_silentTo_77 : decode cX7_silentTo 77 = .ok (.getfield 7, 3) := by decide +kernel
theorem dX7_silentTo_80 : decode cX7_silentTo 80 = .ok (.iload 4, 2) := by decide +kernel
theorem dX7_silentTo_82 : decode cX7_silentTo 82 = .ok (.iaload, 1) := by decide +kernel
theorem dX7_silentTo_83 : decode cX7_silentTo 83 = .ok (.iload 6, 2) := by decide +kernel
theorem dX7_silentTo_85 : decode cX7_silentTo 85 = .ok (.isub, 1) := by decide +kernel
theorem dX7_silentTo_86 : decode cX7_silentTo 86 = .ok (.iadd, 1) := by decide +kernel
theorem dX7_silentTo_87 : decode cX7_silentTo 87 = .ok (.istore_n 3, 1) := by decide +kernel
theorem dX7_silentTo_88 : decode cX7_silentTo 88 = .ok (.iload 6, 2) := by decide +kernel
theorem dX7_silentTo_90 : decode cX7_silentTo 90 = .ok (.ifCond .le 5, 3) := by decide +kernel
theorem dX7_silentTo_93 : decode cX7_silentTo 93 = .ok (.iload_n 3, 1) := by decide +kernel
theorem dX7_silentTo_94 : decode cX7_silentTo 94 = .ok (.ireturn, 1) := by decide +kernel
theorem dX7_silentTo_95 : decode cX7_silentTo 95 = .ok (.iinc 4 (-1), 3) := by decide +kernel
theorem dX7_silentTo_98 : decode cX7_silentTo 98 = .ok (.goto (-93), 3) := by decide +kernel
theorem dX7_silentTo_101 : decode cX7_silentTo 101 = .ok (.iload_n 3, 1) := by decide +kernel
theorem dX7_silentTo_102 : decode cX7_silentTo 102 = .ok (.ireturn, 1) := by decide +kernel
theorem dX7_silentFrom_0 : decode cX7_silentFrom 0 = .ok (.iconst 0, 1) := by decide +kernel
theorem dX7_silentFrom_1 : decode cX7_silentFrom 1 = .ok (.istore_n 3, 1) := by decide +kernel
theorem dX7_silentFrom_2 : decode cX7_silentFrom 2 = .ok (.iload_n 2, 1) := by decide +kernel
theorem dX7_silentFrom_3 : decode cX7_silentFrom 3 = .ok (.istore 4, 2) := by decide +kernel
theorem dX7_silentFrom_5 : decode cX7_silentFrom 5 = .ok (.iload 4, 2) := by decide +kernel
theorem dX7_silentFrom_7 : decode cX7_silentFrom 7 = .ok (.aload_n 0, 1) := by decide +kernel
theorem dX7_silentFrom_8 : decode cX7_silentFrom 8 = .ok (.getfield 99, 3) := by decide +kernel
theorem dX7_silentFrom_11 : decode cX7_silentFrom 11 = .ok (.if_icmp .ge 75, 3) := by decide +kernel
theorem dX7_silentFrom_14 : decode cX7_silentFrom 14 = .ok (.iload_n 1, 1) := by decide +kernel
theorem dX7_silentFrom_15 : decode cX7_silentFrom 15 = .ok (.iload 4, 2) := by decide +kernel
theorem dX7_silentFrom_17 : decode cX7_silentFrom 17 = .ok (.invokestatic 116, 3) := by decide +kernel
theorem dX7_silentFrom_20 : decode cX7_silentFrom 20 = .ok (.istore 5, 2) := by decide +kernel
theorem dX7_silentFrom_22 : decode cX7_silentFrom 22 = .ok (.iconst 0, 1) := by decide +kernel
theorem dX7_silentFrom_23 : decode cX7_silentFrom 23 = .ok (.istore 6, 2) := by decide +kernel
theorem dX7_silentFrom_25 : decode cX7_silentFrom 25 = .ok (.iload 6, 2) := by decide +kernel
theorem dX7_silentFrom_27 : decode cX7_silentFrom 27 = .ok (.aload_n 0, 1) := by decide +kernel
theorem dX7_silentFrom_28 : decode cX7_silentFrom 28 = .ok (.getfield 19, 3) := by decide +kernel
theorem dX7_silentFrom_31 : decode cX7_silentFrom 31 = .ok (.iload 5, 2) := by decide +kernel
theorem dX7_silentFrom_33 : decode cX7_silentFrom 33 = .ok (.iaload, 1) := by decide +kernel
theorem dX7_silentFrom_34 : decode cX7_silentFrom 34 = .ok (.if_icmp .ge 36, 3) := by decide +kernel
theorem dX7_silentFrom_37 : decode cX7_silentFrom 37 = .ok (.aload_n 0, 1) := by decide +kernel
theorem dX7_silentFrom_38 : decode cX7_silentFrom 38 = .ok (.getfield 16, 3) := by decide +kernel
theorem dX7_silentFrom_41 : decode cX7_silentFrom 41 = .ok (.bipush 8, 2) := by decide +kernel
theorem dX7_silentFrom_43 : decode cX7_silentFrom 43 = .ok (.iload 5, 2) := by decide +kernel
theorem dX7_silentFrom_45 : decode cX7_silentFrom 45 = .ok (.imul, 1) := by decide +kernel
theorem dX7_silentFrom_46 : decode cX7_silentFrom 46 = .ok (.iload 6, 2) := by decide +kernel
theorem dX7_silentFrom_48 : decode cX7_silentFrom 48 = .ok (.iadd, 1) := by decide +kernel
theorem dX7_silentFrom_49 : decode cX7_silentFrom 49 = .ok (.iaload, 1) := by decide +kernel
theorem dX7_silentFrom_50 : decode cX7_silentFrom 50 = .ok (.ifCond .le 14, 3) := by decide +kernel
theorem dX7_silentFrom_53 : decode cX7_silentFrom 53 = .ok (.iload_n 3, 1) := by decide +kernel
theorem dX7_silentFrom_54 : decode cX7_silentFrom 54 = .ok (.aload_n 0, 1) := by decide +kernel
theorem dX7_silentFrom_55 : decode cX7_silentFrom 55 = .ok (.iload 5, 2) := by decide +kernel
theorem dX7_silentFrom_57 : decode cX7_silentFrom 57 = .ok (.iload 6, 2) := by decide +kernel
theorem dX7_silentFrom_59 : decode cX7_silentFrom 59 = .ok (.invokevirtual 120, 3) := by decide +kernel
theorem dX7_silentFrom_62 : decode cX7_silentFrom 62 = .ok (.iadd, 1) := by decide +kernel
theorem dX7_silentFrom_63 : decode cX7_silentFrom 63 = .ok (.ireturn, 1) := by decide +kernel
theorem dX7_silentFrom_64 : decode cX7_silentFrom 64 = .ok (.iinc 6 1, 3) := by decide +kernel
theorem dX7_silentFrom_67 : decode cX7_silentFrom 67 = .ok (.goto (-42), 3) := by decide +kernel
theorem dX7_silentFrom_70 : decode cX7_silentFrom 70 = .ok (.iload_n 3, 1) := by decide +kernel
theorem dX7_silentFrom_71 : decode cX7_silentFrom 71 = .ok (.aload_n 0, 1) := by decide +kernel
theorem dX7_silentFrom_72 : decode cX7_silentFrom 72 = .ok (.getfield 7, 3) := by decide +kernel
theorem dX7_silentFrom_75 : decode cX7_silentFrom 75 = .ok (.iload 4, 2) := by decide +kernel
theorem dX7_silentFrom_77 : decode cX7_silentFrom 77 = .ok (.iaload, 1) := by decide +kernel
theorem dX7_silentFrom_78 : decode cX7_silentFrom 78 = .ok (.iadd, 1) := by decide +kernel
theorem dX7_silentFrom_79 : decode cX7_silentFrom 79 = .ok (.istore_n 3, 1) := by decide +kernel
theorem dX7_silentFrom_80 : decode cX7_silentFrom 80 = .ok (.iinc 4 1, 3) := by decide +kernel
theorem dX7_silentFrom_83 : decode cX7_silentFrom 83 = .ok (.goto (-78), 3) := by decide +kernel
theorem dX7_silentFrom_86 : decode cX7_silentFrom 86 = .ok (.iload_n 3, 1) := by decide +kernel
theorem dX7_silentFrom_87 : decode cX7_silentFrom 87 = .ok (.ireturn, 1) := by decide +kernel
theorem dX7_turnCost_0 : decode cX7_turnCost 0 = .ok (.iload_n 1, 1) := by decide +kernel
theorem dX7_turnCost_1 : decode cX7_turnCost 1 = .ok (.iconst 5, 1) := by decide +kernel
theorem dX7_turnCost_2 : decode cX7_turnCost 2 = .ok (.if_icmp .ne 7, 3) := by decide +kernel
theorem dX7_turnCost_5 : decode cX7_turnCost 5 = .ok (.iconst 0, 1) := by decide +kernel
theorem dX7_turnCost_6 : decode cX7_turnCost 6 = .ok (.goto 21, 3) := by decide +kernel
theorem dX7_turnCost_9 : decode cX7_turnCost 9 = .ok (.bipush 16, 2) := by decide +kernel
theorem dX7_turnCost_11 : decode cX7_turnCost 11 = .ok (.aload_n 0, 1) := by decide +kernel
theorem dX7_turnCost_12 : decode cX7_turnCost 12 = .ok (.iload_n 1, 1) := by decide +kernel
theorem dX7_turnCost_13 : decode cX7_turnCost 13 = .ok (.iload_n 2, 1) := by decide +kernel
theorem dX7_turnCost_14 : decode cX7_turnCost 14 = .ok (.invokevirtual 177, 3) := by decide +kernel
theorem dX7_turnCost_17 : decode cX7_turnCost 17 = .ok (.isub, 1) := by decide +kernel
theorem dX7_turnCost_18 : decode cX7_turnCost 18 = .ok (.aload_n 0, 1) := by decide +kernel
theorem dX7_turnCost_19 : decode cX7_turnCost 19 = .ok (.iload_n 1, 1) := by decide +kernel
theorem dX7_turnCost_20 : decode cX7_turnCost 20 = .ok (.iload_n 2, 1) := by decide +kernel
theorem dX7_turnCost_21 : decode cX7_turnCost 21 = .ok (.iconst 1, 1) := by decide +kernel
theorem dX7_turnCost_22 : decode cX7_turnCost 22 = .ok (.iadd, 1) := by decide +kernel
theorem dX7_turnCost_23 : decode cX7_turnCost 23 = .ok (.invokevirtual 180, 3) := by decide +kernel
theorem dX7_turnCost_26 : decode cX7_turnCost 26 = .ok (.isub, 1) := by decide +kernel
theorem dX7_turnCost_27 : decode cX7_turnCost 27 = .ok (.istore_n 3, 1) := by decide +kernel
theorem dX7_turnCost_28 : decode cX7_turnCost 28 = .ok (.iload_n 3, 1) := by decide +kernel
theorem dX7_turnCost_29 : decode cX7_turnCost 29 = .ok (.ifCond .le 10, 3) := by decide +kernel
theorem dX7_turnCost_32 : decode cX7_turnCost 32 = .ok (.bipush 100, 2) := by decide +kernel
theorem dX7_turnCost_34 : decode cX7_turnCost 34 = .ok (.iload_n 3, 1) := by decide +kernel
theorem dX7_turnCost_35 : decode cX7_turnCost 35 = .ok (.imul, 1) := by decide +kernel
theorem dX7_turnCost_36 : decode cX7_turnCost 36 = .ok (.goto 4, 3) := by decide +kernel
theorem dX7_turnCost_39 : decode cX7_turnCost 39 = .ok (.iconst 0, 1) := by decide +kernel
theorem dX7_turnCost_40 : decode cX7_turnCost 40 = .ok (.ireturn, 1) := by decide +kernel
theorem dX7_badness_0 : decode cX7_badness 0 = .ok (.aload_n 0, 1) := by decide +kernel
theorem dX7_badness_1 : decode cX7_badness 1 = .ok (.getfield 25, 3) := by decide +kernel
theorem dX7_badness_4 : decode cX7_badness 4 = .ok (.iload_n 1, 1) := by decide +kernel
theorem dX7_badness_5 : decode cX7_badness 5 = .ok (.isub, 1) := by decide +kernel
theorem dX7_badness_6 : decode cX7_badness 6 = .ok (.istore_n 3, 1) := by decide +kernel
theorem dX7_badness_7 : decode cX7_badness 7 = .ok (.iload_n 3, 1) := by decide +kernel
theorem dX7_badness_8 : decode cX7_badness 8 = .ok (.ifCond .ge 9, 3) := by decide +kernel
theorem dX7_badness_11 : decode cX7_badness 11 = .ok (.iconst 2, 1) := by decide +kernel
theorem dX7_badness_12 : decode cX7_badness 12 = .ok (.iload_n 3, 1) := by decide +kernel
theorem dX7_badness_13 : decode cX7_badness 13 = .ok (.imul, 1) := by decide +kernel
theorem dX7_badness_14 : decode cX7_badness 14 = .ok (.goto 4, 3) := by decide +kernel
theorem dX7_badness_17 : decode cX7_badness 17 = .ok (.iload_n 3, 1) := by decide +kernel
theorem dX7_badness_18 : decode cX7_badness 18 = .ok (.istore 4, 2) := by decide +kernel
theorem dX7_badness_20 : decode cX7_badness 20 = .ok (.iload_n 2, 1) := by decide +kernel
theorem dX7_badness_21 : decode cX7_badness 21 = .ok (.ifCond .eq 11, 3) := by decide +kernel
theorem dX7_badness_24 : decode cX7_badness 24 = .ok (.iload_n 3, 1) := by decide +kernel
theorem dX7_badness_25 : decode cX7_badness 25 = .ok (.ifCond .le 7, 3) := by decide +kernel
theorem dX7_badness_28 : decode cX7_badness 28 = .ok (.iconst 0, 1) := by decide +kernel
theorem dX7_badness_29 : decode cX7_badness 29 = .ok (.goto 8, 3) := by decide +kernel
theorem dX7_badness_32 : decode cX7_badness 32 = .ok (.iload 4, 2) := by decide +kernel
theorem dX7_badness_34 : decode cX7_badness 34 = .ok (.iload 4, 2) := by decide +kernel
theorem dX7_badness_36 : decode cX7_badness 36 = .ok (.imul, 1) := by decide +kernel
theorem dX7_badness_37 : decode cX7_badness 37 = .ok (.ireturn, 1) := by decide +kernel
theorem dX7_breaks_0 : decode cX7_breaks 0 = .ok (.iconst 0, 1) := by decide +kernel
theorem dX7_breaks_1 : decode cX7_breaks 1 = .ok (.istore_n 2, 1) := by decide +kernel
theorem dX7_breaks_2 : decode cX7_breaks 2 = .ok (.iload_n 2, 1) := by decide +kernel
theorem dX7_breaks_3 : decode cX7_breaks 3 = .ok (.aload_n 0, 1) := by decide +kernel
theorem dX7_breaks_4 : decode cX7_breaks 4 = .ok (.getfield 29, 3) := by decide +kernel
theorem dX7_breaks_7 : decode cX7_breaks 7 = .ok (.if_icmp .ge 39, 3) := by decide +kernel
theorem dX7_breaks_10 : decode cX7_breaks 10 = .ok (.aload_n 0, 1) := by decide +kernel
theorem dX7_breaks_11 : decode cX7_breaks 11 = .ok (.getfield 80, 3) := by decide +kernel
theorem dX7_breaks_14 : decode cX7_breaks 14 = .ok (.bipush 6, 2) := by decide +kernel
theorem dX7_breaks_16 : decode cX7_breaks 16 = .ok (.aload_n 0, 1) := by decide +kernel
theorem dX7_breaks_17 : decode cX7_breaks 17 = .ok (.getfield 161, 3) := by decide +kernel
theorem dX7_breaks_20 : decode cX7_breaks 20 = .ok (.imul, 1) := by decide +kernel
theorem dX7_breaks_21 : decode cX7_breaks 21 = .ok (.iload_n 2, 1) := by decide +kernel
theorem dX7_breaks_22 : decode cX7_breaks 22 = .ok (.iadd, 1) := by decide +kernel
theorem dX7_breaks_23 : decode cX7_breaks 23 = .ok (.iconst 0, 1) := by decide +kernel
theorem dX7_breaks_24 : decode cX7_breaks 24 = .ok (.iastore, 1) := by decide +kernel
theorem dX7_breaks_25 : decode cX7_breaks 25 = .ok (.aload_n 0, 1) := by decide +kernel
theorem dX7_breaks_26 : decode cX7_breaks 26 = .ok (.getfield 83, 3) := by decide +kernel
theorem dX7_breaks_29 : decode cX7_breaks 29 = .ok (.bipush 6, 2) := by decide +kernel
theorem dX7_breaks_31 : decode cX7_breaks 31 = .ok (.aload_n 0, 1) := by decide +kernel
theorem dX7_breaks_32 : decode cX7_breaks 32 = .ok (.getfield 161, 3) := by decide +kernel
theorem dX7_breaks_35 : decode cX7_breaks 35 = .ok (.imul, 1) := by decide +kernel
theorem dX7_breaks_36 : decode cX7_breaks 36 = .ok (.iload_n 2, 1) := by decide +kernel
theorem dX7_breaks_37 : decode cX7_breaks 37 = .ok (.iadd, 1) := by decide +kernel
theorem dX7_breaks_38 : decode cX7_breaks 38 = .ok (.iconst 0, 1) := by decide +kernel
theorem dX7_breaks_39 : decode cX7_breaks 39 = .ok (.iastore, 1) := by decide +kernel
theorem dX7_breaks_40 : decode cX7_breaks 40 = .ok (.iinc 2 1, 3) := by decide +kernel
theorem dX7_breaks_43 : decode cX7_breaks 43 = .ok (.goto (-41), 3) := by decide +kernel
theorem dX7_breaks_46 : decode cX7_breaks 46 = .ok (.aload_n 0, 1) := by decide +kernel
theorem dX7_breaks_47 : decode cX7_breaks 47 = .ok (.getfield 161, 3) := by decide +kernel
theorem dX7_breaks_50 : decode cX7_breaks 50 = .ok (.iconst 1, 1) := by decide +kernel
theorem dX7_breaks_51 : decode cX7_breaks 51 = .ok (.isub, 1) := by decide +kernel
theorem dX7_breaks_52 : decode cX7_breaks 52 = .ok (.istore_n 2, 1) := by decide +kernel
theorem dX7_breaks_53 : decode cX7_breaks 53 = .ok (.iload_n 2, 1) := by decide +kernel
theorem dX7_breaks_54 : decode cX7_breaks 54 = .ok (.ifCond .lt 307, 3) := by decide +kernel
theorem dX7_breaks_57 : decode cX7_breaks 57 = .ok (.iconst 0, 1) := by decide +kernel
theorem dX7_breaks_58 : decode cX7_breaks 58 = .ok (.istore_n 3, 1) := by decide +kernel
theorem dX7_breaks_59 : decode cX7_breaks 59 = .ok (.iload_n 3, 1) := by decide +kernel
theorem dX7_breaks_60 : decode cX7_breaks 60 = .ok (.aload_n 0, 1) := by decide +kernel
theorem dX7_breaks_61 : decode cX7_breaks 61 = .ok (.getfield 29, 3) := by decide +kernel
theorem dX7_breaks_64 : decode cX7_breaks 64 = .ok (.if_icmp .ge 291, 3) := by decide +kernel
theorem dX7_breaks_67 : decode cX7_breaks 67 = .ok (.bipush 6, 2) := by decide +kernel
theorem dX7_breaks_69 : decode cX7_breaks 69 = .ok (.iload_n 2, 1) := by decide +kernel
theorem dX7_breaks_70 : decode cX7_breaks 70 = .ok (.imul, 1) := by decide +kernel
theorem dX7_breaks_71 : decode cX7_breaks 71 = .ok (.iload_n 3, 1) := by decide +kernel
theorem dX7_breaks_72 : decode cX7_breaks 72 = .ok (.iadd, 1) := by decide +kernel
theorem dX7_breaks_73 : decode cX7_breaks 73 = .ok (.istore 4, 2) := by decide +kernel
theorem dX7_breaks_75 : decode cX7_breaks 75 = .ok (.iconst 0, 1) := by decide +kernel
theorem dX7_breaks_76 : decode cX7_breaks 76 = .ok (.istore 5, 2) := by decide +kernel
theorem dX7_breaks_78 : decode cX7_breaks 78 = .ok (.iconst 0, 1) := by decide +kernel
theorem dX7_breaks_79 : decode cX7_breaks 79 = .ok (.istore 6, 2) := by decide +kernel
theorem dX7_breaks_81 : decode cX7_breaks 81 = .ok (.aload_n 0, 1) := by decide +kernel
theorem dX7_breaks_82 : decode cX7_breaks 82 = .ok (.getfield 86, 3) := by decide +kernel
theorem dX7_breaks_85 : decode cX7_breaks 85 = .ok (.iload 4, 2) := by decide +kernel
theorem dX7_breaks_87 : decode cX7_breaks 87 = .ok (.iconst 0, 1) := by decide +kernel
theorem dX7_breaks_88 : decode cX7_breaks 88 = .ok (.iastore, 1) := by decide +kernel
theorem dX7_breaks_89 : decode cX7_breaks 89 = .ok (.iconst 1, 1) := by decide +kernel
theorem dX7_breaks_90 : decode cX7_breaks 90 = .ok (.istore 7, 2) := by decide +kernel
theorem dX7_breaks_92 : decode cX7_breaks 92 = .ok (.iload_n 2, 1) := by decide +kernel
theorem dX7_breaks_93 : decode cX7_breaks 93 = .ok (.iload 7, 2) := by decide +kernel
theorem dX7_breaks_95 : decode cX7_breaks 95 = .ok (.iadd, 1) := by decide +kernel
theorem dX7_breaks_96 : decode cX7_breaks 96 = .ok (.aload_n 0, 1) := by decide +kernel
theorem dX7_breaks_97 : decode cX7_breaks 97 = .ok (.getfield 161, 3) := by decide +kernel
theorem dX7_breaks_100 : decode cX7_breaks 100 = .ok (.if_icmp .gt 249, 3) := by decide +kernel
theorem dX7_breaks_103 : decode cX7_breaks 103 = .ok (.iload 5, 2) := by decide +kernel
theorem dX7_breaks_105 : decode cX7_breaks 105 = .ok (.aload_n 0, 1) := by decide +kernel
theorem dX7_breaks_106 : decode cX7_breaks 106 = .ok (.getfield 74, 3) := by decide +kernel
theorem dX7_breaks_109 : decode cX7_breaks 109 = .ok (.iload_n 2, 1) := by decide +kernel
theorem dX7_breaks_110 : decode cX7_breaks 110 = .ok (.iload 7, 2) := by decide +kernel
theorem dX7_breaks_112 : decode cX7_breaks 112 = .ok (.iadd, 1) := by decide +kernel
theorem dX7_breaks_113 : decode cX7_breaks 113 = .ok (.iconst 1, 1) := by decide +kernel
theorem dX7_breaks_114 : decode cX7_breaks 114 = .ok (.isub, 1) := by decide +kernel
theorem dX7_breaks_115 : decode cX7_breaks 115 = .ok (.iaload, 1) := by decide +kernel
theorem dX7_breaks_116 : decode cX7_breaks 116 = .ok (.iadd, 1) := by decide +kernel
theorem dX7_breaks_117 : decode cX7_breaks 117 = .ok (.istore 5, 2) := by decide +kernel
theorem dX7_breaks_119 : decode cX7_breaks 119 = .ok (.iload 6, 2) := by decide +kernel
theorem dX7_breaks_121 : decode cX7_breaks 121 = .ok (.aload_n 0, 1) := by decide +kernel
theorem dX7_breaks_122 : decode cX7_breaks 122 = .ok (.getfield 77, 3) := by decide +kernel
theorem dX7_breaks_125 : decode cX7_breaks 125 = .ok (.iload_n 2, 1) := by decide +kernel
theorem dX7_breaks_126 : decode cX7_breaks 126 = .ok (.iload 7, 2) := by decide +kernel
theorem dX7_breaks_128 : decode cX7_breaks 128 = .ok (.iadd, 1) := by decide +kernel
theorem dX7_breaks_129 : decode cX7_breaks 129 = .ok (.iconst 1, 1) := by decide +kernel
theorem dX7_breaks_130 : decode cX7_breaks 130 = .ok (.isub, 1) := by decide +kernel
theorem dX7_breaks_131 : decode cX7_breaks 131 = .ok (.iaload, 1) := by decide +kernel
theorem dX7_breaks_132 : decode cX7_breaks 132 = .ok (.iadd, 1) := by decide +kernel
theorem dX7_breaks_133 : decode cX7_breaks 133 = .ok (.istore 6, 2) := by decide +kernel
theorem dX7_breaks_135 : decode cX7_breaks 135 = .ok (.iload_n 2, 1) := by decide +kernel
theorem dX7_breaks_136 : decode cX7_breaks 136 = .ok (.iload 7, 2) := by decide +kernel
theorem dX7_breaks_138 : decode cX7_breaks 138 = .ok (.iadd, 1) := by decide +kernel
theorem dX7_breaks_139 : decode cX7_breaks 139 = .ok (.aload_n 0, 1) := by decide +kernel
theorem dX7_breaks_140 : decode cX7_breaks 140 = .ok (.getfield 161, 3) := by decide +kernel
theorem dX7_breaks_143 : decode cX7_breaks 143 = .ok (.if_icmp .ne 7, 3) := by decide +kernel
theorem dX7_breaks_146 : decode cX7_breaks 146 = .ok (.iconst 1, 1) := by decide +kernel
theorem dX7_breaks_147 : decode cX7_breaks 147 = .ok (.goto 4, 3) := by decide +kernel
theorem dX7_breaks_150 : decode cX7_breaks 150 = .ok (.iconst 0, 1) := by decide +kernel
theorem dX7_breaks_151 : decode cX7_breaks 151 = .ok (.istore 8, 2) := by decide +kernel
theorem dX7_breaks_153 : decode cX7_breaks 153 = .ok (.bipush 6, 2) := by decide +kernel
theorem dX7_breaks_155 : decode cX7_breaks 155 = .ok (.iload_n 2, 1) := by decide +kernel
theorem dX7_breaks_156 : decode cX7_breaks 156 = .ok (.iload 7, 2) := by decide +kernel
theorem dX7_breaks_158 : decode cX7_breaks 158 = .ok (.iadd, 1) := by decide +kernel
theorem dX7_breaks_159 : decode cX7_breaks 159 = .ok (.imul, 1) := by decide +kernel
theorem dX7_breaks_160 : decode cX7_breaks 160 = .ok (.iload_n 3, 1) := by decide +kernel
theorem dX7_breaks_161 : decode cX7_breaks 161 = .ok (.iconst 1, 1) := by decide +kernel
theorem dX7_breaks_162 : decode cX7_breaks 162 = .ok (.iadd, 1) := by decide +kernel
theorem dX7_breaks_163 : decode cX7_breaks 163 = .ok (.aload_n 0, 1) := by decide +kernel
theorem dX7_breaks_164 : decode cX7_breaks 164 = .ok (.getfield 29, 3) := by decide +kernel
theorem dX7_breaks_167 : decode cX7_breaks 167 = .ok (.irem, 1) := by decide +kernel
theorem dX7_breaks_168 : decode cX7_breaks 168 = .ok (.iadd, 1) := by decide +kernel
theorem dX7_breaks_169 : decode cX7_breaks 169 = .ok (.istore 9, 2) := by decide +kernel
theorem dX7_breaks_171 : decode cX7_breaks 171 = .ok (.aload_n 0, 1) := by decide +kernel
theorem dX7_breaks_172 : decode cX7_breaks 172 = .ok (.iload 5, 2) := by decide +kernel
theorem dX7_breaks_174 : decode cX7_breaks 174 = .ok (.iload 8, 2) := by decide +kernel
theorem dX7_breaks_176 : decode cX7_breaks 176 = .ok (.invokevirtual 183, 3) := by decide +kernel
theorem dX7_breaks_179 : decode cX7_breaks 179 = .ok (.aload_n 0, 1) := by decide +kernel
theorem dX7_breaks_180 : decode cX7_breaks 180 = .ok (.getfield 80, 3) := by decide +kernel
theorem dX7_breaks_183 : decode cX7_breaks 183 = .ok (.iload 9, 2) := by decide +kernel
theorem dX7_breaks_185 : decode cX7_breaks 185 = .ok (.iaload, 1) := by decide +kernel
theorem dX7_breaks_186 : decode cX7_breaks 186 = .ok (.iadd, 1) := by decide +kernel
theorem dX7_breaks_187 : decode cX7_breaks 187 = .ok (.istore 10, 2) := by decide +kernel
theorem dX7_breaks_189 : decode cX7_breaks 189 = .ok (.iload 10, 2) := by decide +kernel
theorem dX7_breaks_191 : decode cX7_breaks 191 = .ok (.iload_n 3, 1) := by decide +kernel
theorem dX7_breaks_192 : decode cX7_breaks 192 = .ok (.aload_n 0, 1) := by decide +kernel
theorem dX7_breaks_193 : decode cX7_breaks 193 = .ok (.getfield 29, 3) := by decide +kernel
theorem dX7_breaks_196 : decode cX7_breaks 196 = .ok (.iconst 1, 1) := by decide +kernel
theorem dX7_breaks_197 : decode cX7_breaks 197 = .ok (.isub, 1) := by decide +kernel
theorem dX7_breaks_198 : decode cX7_breaks 198 = .ok (.if_icmp .ne 27, 3) := by decide +kernel
theorem dX7_breaks_201 : decode cX7_breaks 201 = .ok (.iload 8, 2) := by decide +kernel
theorem dX7_breaks_203 : decode cX7_breaks 203 = .ok (.ifCond .ne 22, 3) := by decide +kernel
theorem dX7_breaks_206 : decode cX7_breaks 206 = .ok (.aload_n 0, 1) := by decide +kernel
theorem dX7_breaks_207 : decode cX7_breaks 207 = .ok (.iload_n 1, 1) := by decide +kernel
theorem dX7_breaks_208 : decode cX7_breaks 208 = .ok (.aload_n 0, 1) := by decide +kernel
theorem dX7_breaks_209 : decode cX7_breaks 209 = .ok (.getfield 56, 3) := by decide +kernel
theorem dX7_breaks_212 : decode cX7_breaks 212 = .ok (.iload_n 2, 1) := by decide +kernel
theorem dX7_breaks_213 : decode cX7_breaks 213 = .ok (.iload 7, 2) := by decide +kernel
theorem dX7_breaks_215 : decode cX7_breaks 215 = .ok (.iadd, 1) := by decide +kernel
theorem dX7_breaks_216 : decode cX7_breaks 216 = .ok (.iconst 1, 1) := by decide +kernel
theorem dX7_breaks_217 : decode cX7_breaks 217 = .ok (.isub, 1) := by decide +kernel
theorem dX7_breaks_218 : decode cX7_breaks 218 = .ok (.iaload, 1) := by decide +kernel
theorem dX7_breaks_219 : decode cX7_breaks 219 = .ok (.invokevirtual 187, 3) := by decide +kernel
theorem dX7_breaks_222 : decode cX7_breaks 222 = .ok (.goto 4, 3) := by decide +kernel
theorem dX7_breaks_225 : decode cX7_breaks 225 = .ok (.iconst 0, 1) := by decide +kernel
theorem dX7_breaks_226 : decode cX7_breaks 226 = .ok (.iadd, 1) := by decide +kernel
theorem dX7_breaks_227 : decode cX7_breaks 227 = .ok (.istore 10, 2) := by decide +kernel
theorem dX7_breaks_229 : decode cX7_breaks 229 = .ok (.aload_n 0, 1) := by decide +kernel
theorem dX7_breaks_230 : decode cX7_breaks 230 = .ok (.getfield 86, 3) := by decide +kernel
theorem dX7_breaks_233 : decode cX7_breaks 233 = .ok (.iload 4, 2) := by decide +kernel
theorem dX7_breaks_235 : decode cX7_breaks 235 = .ok (.iaload, 1) := by decide +kernel
theorem dX7_breaks_236 : decode cX7_breaks 236 = .ok (.ifCond .eq 46, 3) := by decide +kernel
theorem dX7_breaks_239 : decode cX7_breaks 239 = .ok (.iload 10, 2) := by decide +kernel
theorem dX7_breaks_241 : decode cX7_breaks 241 = .ok (.aload_n 0, 1) := by decide +kernel
theorem dX7_breaks_242 : decode cX7_breaks 242 = .ok (.getfield 80, 3) := by decide +kernel
theorem dX7_breaks_245 : decode cX7_breaks 245 = .ok (.iload 4, 2) := by decide +kernel
theorem dX7_breaks_247 : decode cX7_breaks 247 = .ok (.iaload, 1) := by decide +kernel
theorem dX7_breaks_248 : decode cX7_breaks 248 = .ok (.if_icmp .lt 34, 3) := by decide +kernel
theorem dX7_breaks_251 : decode cX7_breaks 251 = .ok (.iload 10, 2) := by decide +kernel
theorem dX7_breaks_253 : decode cX7_breaks 253 = .ok (.aload_n 0, 1) := by decide +kernel
theorem dX7_breaks_254 : decode cX7_breaks 254 = .ok (.getfield 80, 3) := by decide +kernel
theorem dX7_breaks_257 : decode cX7_breaks 257 = .ok (.iload 4, 2) := by decide +kernel
theorem dX7_breaks_259 : decode cX7_breaks 259 = .ok (.iaload, 1) := by decide +kernel
theorem dX7_breaks_260 : decode cX7_breaks 260 = .ok (.if_icmp .ne 26, 3) := by decide +kernel
theorem dX7_breaks_263 : decode cX7_breaks 263 = .ok (.aload_n 0, 1) := by decide +kernel
theorem dX7_breaks_264 : decode cX7_breaks 264 = .ok (.getfield 83, 3) := by decide +kernel
theorem dX7_breaks_267 : decode cX7_breaks 267 = .ok (.iload 9, 2) := by decide +kernel
theorem dX7_breaks_269 : decode cX7_breaks 269 = .ok (.iaload, 1) := by decide +kernel
theorem dX7_breaks_270 : decode cX7_breaks 270 = .ok (.iconst 1, 1) := by decide +kernel
theorem dX7_breaks_271 : decode cX7_breaks 271 = .ok (.iadd, 1) := by decide +kernel
theorem dX7_breaks_272 : decode cX7_breaks 272 = .ok (.aload_n 0, 1) := by decide +kernel
theorem dX7_breaks_273 : decode cX7_breaks 273 = .ok (.getfield 83, 3) := by decide +kernel
theorem dX7_breaks_276 : decode cX7_breaks 276 = .ok (.iload 4, 2) := by decide +kernel
theorem dX7_breaks_278 : decode cX7_breaks 278 = .ok (.iaload, 1) := by decide +kernel
theorem dX7_breaks_279 : decode cX7_breaks 279 = .ok (.if_icmp .ge 7, 3) := by decide +kernel
theorem dX7_breaks_282 : decode cX7_breaks 282 = .ok (.iconst 1, 1) := by decide +kernel
theorem dX7_breaks_283 : decode cX7_breaks 283 = .ok (.goto 4, 3) := by decide +kernel
theorem dX7_breaks_286 : decode cX7_breaks 286 = .ok (.iconst 0, 1) := by decide +kernel
theorem dX7_breaks_287 : decode cX7_breaks 287 = .ok (.istore 11, 2) := by decide +kernel
theorem dX7_breaks_289 : decode cX7_breaks 289 = .ok (.iload 7, 2) := by decide +kernel
theorem dX7_breaks_291 : decode cX7_breaks 291 = .ok (.iconst 1, 1) := by decide +kernel
theorem dX7_breaks_292 : decode cX7_breaks 292 = .ok (.if_icmp .eq 12, 3) := by decide +kernel
theorem dX7_breaks_295 : decode cX7_breaks 295 = .ok (.iload 6, 2) := by decide +kernel
theorem dX7_breaks_297 : decode cX7_breaks 297 = .ok (.aload_n 0, 1) := by decide +kernel
theorem dX7_breaks_298 : decode cX7_breaks 298 = .ok (.getfield 25, 3) := by decide +kernel
theorem dX7_breaks_301 : decode cX7_breaks 301 = .ok (.if_icmp .gt 42, 3) := by decide +kernel
theorem dX7_breaks_304 : decode cX7_breaks 304 = .ok (.iload 11, 2) := by decide +kernel
theorem dX7_breaks_306 : decode cX7_breaks 306 = .ok (.ifCond .eq 37, 3) := by decide +kernel
theorem dX7_breaks_309 : decode cX7_breaks 309 = .ok (.aload_n 0, 1) := by decide +kernel
theorem dX7_breaks_310 : decode cX7_breaks 310 = .ok (.getfield 86, 3) := by decide +kernel
theorem dX7_breaks_313 : decode cX7_breaks 313 = .ok (.iload 4, 2) := by decide +kernel
theorem dX7_breaks_315 : decode cX7_breaks 315 = .ok (.iload 7, 2) := by decide +kernel
theorem dX7_breaks_317 : decode cX7_breaks 317 = .ok (.iastore, 1) := by decide +kernel
theorem dX7_breaks_318 : decode cX7_breaks 318 = .ok (.aload_n 0, 1) := by decide +kernel
theorem dX7_breaks_319 : decode cX7_breaks 319 = .ok (.getfield 80, 3) := by decide +kernel
theorem dX7_breaks_322 : decode cX7_breaks 322 = .ok (.iload 4, 2) := by decide +kernel
theorem dX7_breaks_324 : decode cX7_breaks 324 = .ok (.iload 10, 2) := by decide +kernel
theorem dX7_breaks_326 : decode cX7_breaks 326 = .ok (.iastore, 1) := by decide +kernel
theorem dX7_breaks_327 : decode cX7_breaks 327 = .ok (.aload_n 0, 1) := by decide +kernel
theorem dX7_breaks_328 : decode cX7_breaks 328 = .ok (.getfield 83, 3) := by decide +kernel
theorem dX7_breaks_331 : decode cX7_breaks 331 = .ok (.iload 4, 2) := by decide +kernel
theorem dX7_breaks_333 : decode cX7_breaks 333 = .ok (.aload_n 0, 1) := by decide +kernel
theorem dX7_breaks_334 : decode cX7_breaks 334 = .ok (.getfield 83, 3) := by decide +kernel
theorem dX7_breaks_337 : decode cX7_breaks 337 = .ok (.iload 9, 2) := by decide +kernel
theorem dX7_breaks_339 : decode cX7_breaks 339 = .ok (.iaload, 1) := by decide +kernel
theorem dX7_breaks_340 : decode cX7_breaks 340 = .ok (.iconst 1, 1) := by decide +kernel
theorem dX7_breaks_341 : decode cX7_breaks 341 = .ok (.iadd, 1) := by decide +kernel
theorem dX7_breaks_342 : decode cX7_breaks 342 = .ok (.iastore, 1) := by decide +kernel
theorem dX7_breaks_343 : decode cX7_breaks 343 = .ok (.iinc 7 1, 3) := by decide +kernel
theorem dX7_breaks_346 : decode cX7_breaks 346 = .ok (.goto (-254), 3) := by decide +kernel
theorem dX7_breaks_349 : decode cX7_breaks 349 = .ok (.iinc 3 1, 3) := by decide +kernel
theorem dX7_breaks_352 : decode cX7_breaks 352 = .ok (.goto (-293), 3) := by decide +kernel
theorem dX7_breaks_355 : decode cX7_breaks 355 = .ok (.iinc 2 (-1), 3) := by decide +kernel
theorem dX7_breaks_358 : decode cX7_breaks 358 = .ok (.goto (-305), 3) := by decide +kernel
theorem dX7_breaks_361 : decode cX7_breaks 361 = .ok (.aload_n 0, 1) := by decide +kernel
theorem dX7_breaks_362 : decode cX7_breaks 362 = .ok (.iconst 0, 1) := by decide +kernel
theorem dX7_breaks_363 : decode cX7_breaks 363 = .ok (.putfield 190, 3) := by decide +kernel
theorem dX7_breaks_366 : decode cX7_breaks 366 = .ok (.aload_n 0, 1) := by decide +kernel
theorem dX7_breaks_367 : decode cX7_breaks 367 = .ok (.iconst 0, 1) := by decide +kernel
theorem dX7_breaks_368 : decode cX7_breaks 368 = .ok (.putfield 193, 3) := by decide +kernel
theorem dX7_breaks_371 : decode cX7_breaks 371 = .ok (.iconst 0, 1) := by decide +kernel
theorem dX7_breaks_372 : decode cX7_breaks 372 = .ok (.istore_n 2, 1) := by decide +kernel
theorem dX7_breaks_373 : decode cX7_breaks 373 = .ok (.iload_n 2, 1) := by decide +kernel
theorem dX7_breaks_374 : decode cX7_breaks 374 = .ok (.aload_n 0, 1) := by decide +kernel
theorem dX7_breaks_375 : decode cX7_breaks 375 = .ok (.getfield 161, 3) := by decide +kernel
theorem dX7_breaks_378 : decode cX7_breaks 378 = .ok (.if_icmp .ge 117, 3) := by decide +kernel
theorem dX7_breaks_381 : decode cX7_breaks 381 = .ok (.aload_n 0, 1) := by decide +kernel
theorem dX7_breaks_382 : decode cX7_breaks 382 = .ok (.getfield 190, 3) := by decide +kernel
theorem dX7_breaks_385 : decode cX7_breaks 385 = .ok (.aload_n 0, 1) := by decide +kernel
theorem dX7_breaks_386 : decode cX7_breaks 386 = .ok (.getfield 29, 3) := by decide +kernel
theorem dX7_breaks_389 : decode cX7_breaks 389 = .ok (.irem, 1) := by decide +kernel
theorem dX7_breaks_390 : decode cX7_breaks 390 = .ok (.istore_n 3, 1) := by decide +kernel
theorem dX7_breaks_391 : decode cX7_breaks 391 = .ok (.aload_n 0, 1) := by decide +kernel
theorem dX7_breaks_392 : decode cX7_breaks 392 = .ok (.getfield 86, 3) := by decide +kernel
theorem dX7_breaks_395 : decode cX7_breaks 395 = .ok (.bipush 6, 2) := by decide +kernel
theorem dX7_breaks_397 : decode cX7_breaks 397 = .ok (.iload_n 2, 1) := by decide +kernel
theorem dX7_breaks_398 : decode cX7_breaks 398 = .ok (.imul, 1) := by decide +kernel
theorem dX7_breaks_399 : decode cX7_breaks 399 = .ok (.iload_n 3, 1) := by decide +kernel
theorem dX7_breaks_400 : decode cX7_breaks 400 = .ok (.iadd, 1) := by decide +kernel
theorem dX7_breaks_401 : decode cX7_breaks 401 = .ok (.iaload, 1) := by decide +kernel
theorem dX7_breaks_402 : decode cX7_breaks 402 = .ok (.istore 4, 2) := by decide +kernel
theorem dX7_breaks_404 : decode cX7_breaks 404 = .ok (.iload_n 2, 1) := by decide +kernel
theorem dX7_breaks_405 : decode cX7_breaks 405 = .ok (.istore 5, 2) := by decide +kernel
theorem dX7_breaks_407 : decode cX7_breaks 407 = .ok (.iload 5, 2) := by decide +kernel
theorem dX7_breaks_409 : decode cX7_breaks 409 = .ok (.iload_n 2, 1) := by decide +kernel
theorem dX7_breaks_410 : decode cX7_breaks 410 = .ok (.iload 4, 2) := by decide +kernel
theorem dX7_breaks_412 : decode cX7_breaks 412 = .ok (.iadd, 1) := by decide +kernel
theorem dX7_breaks_413 : decode cX7_breaks 413 = .ok (.if_icmp .ge 20, 3) := by decide +kernel
theorem dX7_breaks_416 : decode cX7_breaks 416 = .ok (.aload_n 0, 1) := by decide +kernel
theorem dX7_breaks_417 : decode cX7_breaks 417 = .ok (.getfield 89, 3) := by decide +kernel
theorem dX7_breaks_420 : decode cX7_breaks 420 = .ok (.iload 5, 2) := by decide +kernel
theorem dX7_breaks_422 : decode cX7_breaks 422 = .ok (.aload_n 0, 1) := by decide +kernel
theorem dX7_breaks_423 : decode cX7_breaks 423 = .ok (.getfield 190, 3) := by decide +kernel
theorem dX7_breaks_426 : decode cX7_breaks 426 = .ok (.iastore, 1) := by decide +kernel
theorem dX7_breaks_427 : decode cX7_breaks 427 = .ok (.iinc 5 1, 3) := by decide +kernel
theorem dX7_breaks_430 : decode cX7_breaks 430 = .ok (.goto (-23), 3) := by decide +kernel
theorem dX7_breaks_433 : decode cX7_breaks 433 = .ok (.iload_n 2, 1) := by decide +kernel
theorem dX7_breaks_434 : decode cX7_breaks 434 = .ok (.iload 4, 2) := by decide +kernel
theorem dX7_breaks_436 : decode cX7_breaks 436 = .ok (.iadd, 1) := by decide +kernel
theorem dX7_breaks_437 : decode cX7_breaks 437 = .ok (.istore_n 2, 1) := by decide +kernel
theorem dX7_breaks_438 : decode cX7_breaks 438 = .ok (.aload_n 0, 1) := by decide +kernel
theorem dX7_breaks_439 : decode cX7_breaks 439 = .ok (.dup, 1) := by decide +kernel
theorem dX7_breaks_440 : decode cX7_breaks 440 = .ok (.getfield 190, 3) := by decide +kernel
theorem dX7_breaks_443 : decode cX7_breaks 443 = .ok (.iconst 1, 1) := by decide +kernel
theorem dX7_breaks_444 : decode cX7_breaks 444 = .ok (.iadd, 1) := by decide +kernel
theorem dX7_breaks_445 : decode cX7_breaks 445 = .ok (.putfield 190, 3) := by decide +kernel
theorem dX7_breaks_448 : decode cX7_breaks 448 = .ok (.aload_n 0, 1) := by decide +kernel
theorem dX7_breaks_449 : decode cX7_breaks 449 = .ok (.dup, 1) := by decide +kernel
theorem dX7_breaks_450 : decode cX7_breaks 450 = .ok (.getfield 193, 3) := by decide +kernel
theorem dX7_breaks_453 : decode cX7_breaks 453 = .ok (.iload_n 3, 1) := by decide +kernel
theorem dX7_breaks_454 : decode cX7_breaks 454 = .ok (.aload_n 0, 1) := by decide +kernel
theorem dX7_breaks_455 : decode cX7_breaks 455 = .ok (.getfield 29, 3) := by decide +kernel
theorem dX7_breaks_458 : decode cX7_breaks 458 = .ok (.iconst 1, 1) := by decide +kernel
theorem dX7_breaks_459 : decode cX7_breaks 459 = .ok (.isub, 1) := by decide +kernel
theorem dX7_breaks_460 : decode cX7_breaks 460 = .ok (.if_icmp .ne 27, 3) := by decide +kernel
theorem dX7_breaks_463 : decode cX7_breaks 463 = .ok (.iload_n 2, 1) := by decide +kernel
theorem dX7_breaks_464 : decode cX7_breaks 464 = .ok (.aload_n 0, 1) := by decide +kernel
theorem dX7_breaks_465 : decode cX7_breaks 465 = .ok (.getfield 161, 3) := by decide +kernel
theorem dX7_breaks_468 : decode cX7_breaks 468 = .ok (.if_icmp .ge 19, 3) := by decide +kernel
theorem dX7_breaks_471 : decode cX7_breaks 471 = .ok (.aload_n 0, 1) := by decide +kernel
theorem dX7_breaks_472 : decode cX7_breaks 472 = .ok (.iload_n 1, 1) := by decide +kernel
theorem dX7_breaks_473 : decode cX7_breaks 473 = .ok (.aload_n 0, 1) := by decide +kernel
theorem dX7_breaks_474 : decode cX7_breaks 474 = .ok (.getfield 56, 3) := by decide +kernel
theorem dX7_breaks_477 : decode cX7_breaks 477 = .ok (.iload_n 2, 1) := by decide +kernel
theorem dX7_breaks_478 : decode cX7_breaks 478 = .ok (.iconst 1, 1) := by decide +kernel
theorem dX7_breaks_479 : decode cX7_breaks 479 = .ok (.isub, 1) := by decide +kernel
theorem dX7_breaks_480 : decode cX7_breaks 480 = .ok (.iaload, 1) := by decide +kernel
theorem dX7_breaks_481 : decode cX7_breaks 481 = .ok (.invokevirtual 187, 3) := by decide +kernel
theorem dX7_breaks_484 : decode cX7_breaks 484 = .ok (.goto 4, 3) := by decide +kernel
theorem dX7_breaks_487 : decode cX7_breaks 487 = .ok (.iconst 0, 1) := by decide +kernel
theorem dX7_breaks_488 : decode cX7_breaks 488 = .ok (.iadd, 1) := by decide +kernel
theorem dX7_breaks_489 : decode cX7_breaks 489 = .ok (.putfield 193, 3) := by decide +kernel
theorem dX7_breaks_492 : decode cX7_breaks 492 = .ok (.goto (-119), 3) := by decide +kernel
theorem dX7_breaks_495 : decode cX7_breaks 495 = .ok (.return_, 1) := by decide +kernel
theorem dX7_lays_0 : decode cX7_lays 0 = .ok (.aload_n 0, 1) := by decide +kernel
theorem dX7_lays_1 : decode cX7_lays 1 = .ok (.iload_n 1, 1) := by decide +kernel
theorem dX7_lays_2 : decode cX7_lays 2 = .ok (.invokevirtual 196, 3) := by decide +kernel
theorem dX7_lays_5 : decode cX7_lays 5 = .ok (.aload_n 0, 1) := by decide +kernel
theorem dX7_lays_6 : decode cX7_lays 6 = .ok (.invokevirtual 199, 3) := by decide +kernel
theorem dX7_lays_9 : decode cX7_lays 9 = .ok (.aload_n 0, 1) := by decide +kernel
theorem dX7_lays_10 : decode cX7_lays 10 = .ok (.iload_n 1, 1) := by decide +kernel
theorem dX7_lays_11 : decode cX7_lays 11 = .ok (.invokevirtual 202, 3) := by decide +kernel
theorem dX7_lays_14 : decode cX7_lays 14 = .ok (.return_, 1) := by decide +kernel
theorem dX7_itemWith_0 : decode cX7_itemWith 0 = .ok (.iconst 0, 1) := by decide +kernel
theorem dX7_itemWith_1 : decode cX7_itemWith 1 = .ok (.istore_n 2, 1) := by decide +kernel
theorem dX7_itemWith_2 : decode cX7_itemWith 2 = .ok (.aload_n 0, 1) := by decide +kernel
theorem dX7_itemWith_3 : decode cX7_itemWith 3 = .ok (.getfield 56, 3) := by decide +kernel
theorem dX7_itemWith_6 : decode cX7_itemWith 6 = .ok (.iload_n 2, 1) := by decide +kernel
theorem dX7_itemWith_7 : decode cX7_itemWith 7 = .ok (.iaload, 1) := by decide +kernel
theorem dX7_itemWith_8 : decode cX7_itemWith 8 = .ok (.iload_n 1, 1) := by decide +kernel
theorem dX7_itemWith_9 : decode cX7_itemWith 9 = .ok (.if_icmp .ge 9, 3) := by decide +kernel
theorem dX7_itemWith_12 : decode cX7_itemWith 12 = .ok (.iinc 2 1, 3) := by decide +kernel
theorem dX7_itemWith_15 : decode cX7_itemWith 15 = .ok (.goto (-13), 3) := by decide +kernel
theorem dX7_itemWith_18 : decode cX7_itemWith 18 = .ok (.iload_n 2, 1) := by decide +kernel
theorem dX7_itemWith_19 : decode cX7_itemWith 19 = .ok (.ireturn, 1) := by decide +kernel
theorem dX7_items_0 : decode cX7_items 0 = .ok (.aload_n 0, 1) := by decide +kernel
theorem dX7_items_1 : decode cX7_items 1 = .ok (.iload_n 1, 1) := by decide +kernel
theorem dX7_items_2 : decode cX7_items 2 = .ok (.invokestatic 205, 3) := by decide +kernel
theorem dX7_items_5 : decode cX7_items 5 = .ok (.iconst 1, 1) := by decide +kernel
theorem dX7_items_6 : decode cX7_items 6 = .ok (.iconst 1, 1) := by decide +kernel
theorem dX7_items_7 : decode cX7_items 7 = .ok (.invokevirtual 105, 3) := by decide +kernel
theorem dX7_items_10 : decode cX7_items 10 = .ok (.ifCond .ne 5, 3) := by decide +kernel
theorem dX7_items_13 : decode cX7_items 13 = .ok (.iconst 0, 1) := by decide +kernel
theorem dX7_items_14 : decode cX7_items 14 = .ok (.ireturn, 1) := by decide +kernel
theorem dX7_items_15 : decode cX7_items 15 = .ok (.aload_n 0, 1) := by decide +kernel
theorem dX7_items_16 : decode cX7_items 16 = .ok (.iload_n 1, 1) := by decide +kernel
theorem dX7_items_17 : decode cX7_items 17 = .ok (.invokevirtual 196, 3) := by decide +kernel
theorem dX7_items_20 : decode cX7_items 20 = .ok (.aload_n 0, 1) := by decide +kernel
theorem dX7_items_21 : decode cX7_items 21 = .ok (.getfield 161, 3) := by decide +kernel
theorem dX7_items_24 : decode cX7_items 24 = .ok (.ireturn, 1) := by decide +kernel
theorem dX7_itemOf_0 : decode cX7_itemOf 0 = .ok (.aload_n 0, 1) := by decide +kernel
theorem dX7_itemOf_1 : decode cX7_itemOf 1 = .ok (.iload_n 1, 1) := by decide +kernel
theorem dX7_itemOf_2 : decode cX7_itemOf 2 = .ok (.invokestatic 205, 3) := by decide +kernel
theorem dX7_itemOf_5 : decode cX7_itemOf 5 = .ok (.ifCond .eq 15, 3) := by decide +kernel
theorem dX7_itemOf_8 : decode cX7_itemOf 8 = .ok (.aload_n 0, 1) := by decide +kernel
theorem dX7_itemOf_9 : decode cX7_itemOf 9 = .ok (.iload_n 2, 1) := by decide +kernel
theorem dX7_itemOf_10 : decode cX7_itemOf 10 = .ok (.invokevirtual 113, 3) := by decide +kernel
theorem dX7_itemOf_13 : decode cX7_itemOf 13 = .ok (.ifCond .eq 7, 3) := by decide +kernel
theorem dX7_itemOf_16 : decode cX7_itemOf 16 = .ok (.iconst 1, 1) := by decide +kernel
theorem dX7_itemOf_17 : decode cX7_itemOf 17 = .ok (.goto 4, 3) := by decide +kernel
theorem dX7_itemOf_20 : decode cX7_itemOf 20 = .ok (.iconst 0, 1) := by decide +kernel
theorem dX7_itemOf_21 : decode cX7_itemOf 21 = .ok (.iconst 1, 1) := by decide +kernel
theorem dX7_itemOf_22 : decode cX7_itemOf 22 = .ok (.iconst 1, 1) := by decide +kernel
theorem dX7_itemOf_23 : decode cX7_itemOf 23 = .ok (.invokevirtual 105, 3) := by decide +kernel
theorem dX7_itemOf_26 : decode cX7_itemOf 26 = .ok (.ifCond .ne 5, 3) := by decide +kernel
theorem dX7_itemOf_29 : decode cX7_itemOf 29 = .ok (.iconst 0, 1) := by decide +kernel
theorem dX7_itemOf_30 : decode cX7_itemOf 30 = .ok (.ireturn, 1) := by decide +kernel
theorem dX7_itemOf_31 : decode cX7_itemOf 31 = .ok (.aload_n 0, 1) := by decide +kernel
theorem dX7_itemOf_32 : decode cX7_itemOf 32 = .ok (.iload_n 1, 1) := by decide +kernel
theorem dX7_itemOf_33 : decode cX7_itemOf 33 = .ok (.invokevirtual 196, 3) := by decide +kernel
theorem dX7_itemOf_36 : decode cX7_itemOf 36 = .ok (.aload_n 0, 1) := by decide +kernel
theorem dX7_itemOf_37 : decode cX7_itemOf 37 = .ok (.iload_n 2, 1) := by decide +kernel
theorem dX7_itemOf_38 : decode cX7_itemOf 38 = .ok (.invokevirtual 208, 3) := by decide +kernel
theorem dX7_itemOf_41 : decode cX7_itemOf 41 = .ok (.ireturn, 1) := by decide +kernel
theorem dX7_cue_0 : decode cX7_cue 0 = .ok (.aload_n 0, 1) := by decide +kernel
theorem dX7_cue_1 : decode cX7_cue 1 = .ok (.iload_n 1, 1) := by decide +kernel
theorem dX7_cue_2 : decode cX7_cue 2 = .ok (.invokestatic 109, 3) := by decide +kernel
theorem dX7_cue_5 : decode cX7_cue 5 = .ok (.ifCond .eq 15, 3) := by decide +kernel
theorem dX7_cue_8 : decode cX7_cue 8 = .ok (.aload_n 0, 1) := by decide +kernel
theorem dX7_cue_9 : decode cX7_cue 9 = .ok (.iload_n 2, 1) := by decide +kernel
theorem dX7_cue_10 : decode cX7_cue 10 = .ok (.invokevirtual 113, 3) := by decide +kernel
theorem dX7_cue_13 : decode cX7_cue 13 = .ok (.ifCond .eq 7, 3) := by decide +kernel
theorem dX7_cue_16 : decode cX7_cue 16 = .ok (.iconst 1, 1) := by decide +kernel
theorem dX7_cue_17 : decode cX7_cue 17 = .ok (.goto 4, 3) := by decide +kernel
theorem dX7_cue_20 : decode cX7_cue 20 = .ok (.iconst 0, 1) := by decide +kernel
theorem dX7_cue_21 : decode cX7_cue 21 = .ok (.iconst 1, 1) := by decide +kernel
theorem dX7_cue_22 : decode cX7_cue 22 = .ok (.iconst 1, 1) := by decide +kernel
theorem dX7_cue_23 : decode cX7_cue 23 = .ok (.invokevirtual 105, 3) := by decide +kernel
theorem dX7_cue_26 : decode cX7_cue 26 = .ok (.ifCond .ne 5, 3) := by decide +kernel
theorem dX7_cue_29 : decode cX7_cue 29 = .ok (.iconst 0, 1) := by decide +kernel
theorem dX7_cue_30 : decode cX7_cue 30 = .ok (.ireturn, 1) := by decide +kernel
theorem dX7_cue_31 : decode cX7_cue 31 = .ok (.aload_n 0, 1) := by decide +kernel
theorem dX7_cue_32 : decode cX7_cue 32 = .ok (.iload_n 1, 1) := by decide +kernel
theorem dX7_cue_33 : decode cX7_cue 33 = .ok (.invokevirtual 196, 3) := by decide +kernel
theorem dX7_cue_36 : decode cX7_cue 36 = .ok (.aload_n 0, 1) := by decide +kernel
theorem dX7_cue_37 : decode cX7_cue 37 = .ok (.getfield 59, 3) := by decide +kernel
theorem dX7_cue_40 : decode cX7_cue 40 = .ok (.aload_n 0, 1) := by decide +kernel
theorem dX7_cue_41 : decode cX7_cue 41 = .ok (.iload_n 2, 1) := by decide +kernel
theorem dX7_cue_42 : decode cX7_cue 42 = .ok (.invokevirtual 208, 3) := by decide +kernel
theorem dX7_cue_45 : decode cX7_cue 45 = .ok (.iaload, 1) := by decide +kernel
theorem dX7_cue_46 : decode cX7_cue 46 = .ok (.istore_n 3, 1) := by decide +kernel
theorem dX7_cue_47 : decode cX7_cue 47 = .ok (.iload_n 3, 1) := by decide +kernel
theorem dX7_cue_48 : decode cX7_cue 48 = .ok (.iload_n 1, 1) := by decide +kernel
theorem dX7_cue_49 : decode cX7_cue 49 = .ok (.if_icmp .ne 7, 3) := by decide +kernel
theorem dX7_cue_52 : decode cX7_cue 52 = .ok (.iconst (-1), 1) := by decide +kernel
theorem dX7_cue_53 : decode cX7_cue 53 = .ok (.goto 4, 3) := by decide +kernel
theorem dX7_cue_56 : decode cX7_cue 56 = .ok (.iload_n 3, 1) := by decide +kernel
theorem dX7_cue_57 : decode cX7_cue 57 = .ok (.ireturn, 1) := by decide +kernel
theorem dX7_width_0 : decode cX7_width 0 = .ok (.iload_n 1, 1) := by decide +kernel
theorem dX7_width_1 : decode cX7_width 1 = .ok (.invokestatic 205, 3) := by decide +kernel
theorem dX7_width_4 : decode cX7_width 4 = .ok (.istore_n 3, 1) := by decide +kernel
theorem dX7_width_5 : decode cX7_width 5 = .ok (.iload_n 3, 1) := by decide +kernel
theorem dX7_width_6 : decode cX7_width 6 = .ok (.ifCond .eq 8, 3) := by decide +kernel
theorem dX7_width_9 : decode cX7_width 9 = .ok (.aload_n 0, 1) := by decide +kernel
theorem dX7_width_10 : decode cX7_width 10 = .ok (.iload_n 1, 1) := by decide +kernel
theorem dX7_width_11 : decode cX7_width 11 = .ok (.invokevirtual 211, 3) := by decide +kernel
theorem dX7_width_14 : decode cX7_width 14 = .ok (.aload_n 0, 1) := by decide +kernel
theorem dX7_width_15 : decode cX7_width 15 = .ok (.iload_n 3, 1) := by decide +kernel
theorem dX7_width_16 : decode cX7_width 16 = .ok (.ifCond .eq 21, 3) := by decide +kernel
theorem dX7_width_19 : decode cX7_width 19 = .ok (.iload_n 2, 1) := by decide +kernel
theorem dX7_width_20 : decode cX7_width 20 = .ok (.iconst 0, 1) := by decide +kernel
theorem dX7_width_21 : decode cX7_width 21 = .ok (.aload_n 0, 1) := by decide +kernel
theorem dX7_width_22 : decode cX7_width 22 = .ok (.getfield 161, 3) := by decide +kernel
theorem dX7_width_25 : decode cX7_width 25 = .ok (.iconst 1, 1) := by decide +kernel
theorem dX7_width_26 : decode cX7_width 26 = .ok (.isub, 1) := by decide +kernel
theorem dX7_width_27 : decode cX7_width 27 = .ok (.invokestatic 95, 3) := by decide +kernel
theorem dX7_width_30 : decode cX7_width 30 = .ok (.ifCond .eq 7, 3) := by decide +kernel
theorem dX7_width_33 : decode cX7_width 33 = .ok (.iconst 1, 1) := by decide +kernel
theorem dX7_width_34 : decode cX7_width 34 = .ok (.goto 4, 3) := by decide +kernel
theorem dX7_width_37 : decode cX7_width 37 = .ok (.iconst 0, 1) := by decide +kernel
theorem dX7_width_38 : decode cX7_width 38 = .ok (.iconst 1, 1) := by decide +kernel
theorem dX7_width_39 : decode cX7_width 39 = .ok (.iconst 1, 1) := by decide +kernel
theorem dX7_width_40 : decode cX7_width 40 = .ok (.invokevirtual 105, 3) := by decide +kernel
theorem dX7_width_43 : decode cX7_width 43 = .ok (.ifCond .eq 12, 3) := by decide +kernel
theorem dX7_width_46 : decode cX7_width 46 = .ok (.aload_n 0, 1) := by decide +kernel
theorem dX7_width_47 : decode cX7_width 47 = .ok (.getfield 74, 3) := by decide +kernel
theorem dX7_width_50 : decode cX7_width 50 = .ok (.iload_n 2, 1) := by decide +kernel
theorem dX7_width_51 : decode cX7_width 51 = .ok (.iaload, 1) := by decide +kernel
theorem dX7_width_52 : decode cX7_width 52 = .ok (.goto 4, 3) := by decide +kernel
theorem dX7_width_55 : decode cX7_width 55 = .ok (.iconst 0, 1) := by decide +kernel
theorem dX7_width_56 : decode cX7_width 56 = .ok (.ireturn, 1) := by decide +kernel
theorem dX7_lines_0 : decode cX7_lines 0 = .ok (.aload_n 0, 1) := by decide +kernel
theorem dX7_lines_1 : decode cX7_lines 1 = .ok (.iload_n 1, 1) := by decide +kernel
theorem dX7_lines_2 : decode cX7_lines 2 = .ok (.invokestatic 205, 3) := by decide +kernel
theorem dX7_lines_5 : decode cX7_lines 5 = .ok (.iconst 1, 1) := by decide +kernel
theorem dX7_lines_6 : decode cX7_lines 6 = .ok (.iconst 1, 1) := by decide +kernel
theorem dX7_lines_7 : decode cX7_lines 7 = .ok (.invokevirtual 105, 3) := by decide +kernel
theorem dX7_lines_10 : decode cX7_lines 10 = .ok (.ifCond .ne 5, 3) := by decide +kernel
theorem dX7_lines_13 : decode cX7_lines 13 = .ok (.iconst 0, 1) := by decide +kernel
theorem dX7_lines_14 : decode cX7_lines 14 = .ok (.ireturn, 1) := by decide +kernel
theorem dX7_lines_15 : decode cX7_lines 15 = .ok (.aload_n 0, 1) := by decide +kernel
theorem dX7_lines_16 : decode cX7_lines 16 = .ok (.iload_n 1, 1) := by decide +kernel
theorem dX7_lines_17 : decode cX7_lines 17 = .ok (.invokevirtual 211, 3) := by decide +kernel
theorem dX7_lines_20 : decode cX7_lines 20 = .ok (.aload_n 0, 1) := by decide +kernel
theorem dX7_lines_21 : decode cX7_lines 21 = .ok (.getfield 190, 3) := by decide +kernel
theorem dX7_lines_24 : decode cX7_lines 24 = .ok (.ireturn, 1) := by decide +kernel
theorem dX7_lineOf_0 : decode cX7_lineOf 0 = .ok (.aload_n 0, 1) := by decide +kernel
theorem dX7_lineOf_1 : decode cX7_lineOf 1 = .ok (.iload_n 1, 1) := by decide +kernel
theorem dX7_lineOf_2 : decode cX7_lineOf 2 = .ok (.invokestatic 205, 3) := by decide +kernel
theorem dX7_lineOf_5 : decode cX7_lineOf 5 = .ok (.ifCond .eq 15, 3) := by decide +kernel
theorem dX7_lineOf_8 : decode cX7_lineOf 8 = .ok (.aload_n 0, 1) := by decide +kernel
theorem dX7_lineOf_9 : decode cX7_lineOf 9 = .ok (.iload_n 2, 1) := by decide +kernel
theorem dX7_lineOf_10 : decode cX7_lineOf 10 = .ok (.invokevirtual 113, 3) := by decide +kernel
theorem dX7_lineOf_13 : decode cX7_lineOf 13 = .ok (.ifCond .eq 7, 3) := by decide +kernel
theorem dX7_lineOf_16 : decode cX7_lineOf 16 = .ok (.iconst 1, 1) := by decide +kernel
theorem dX7_lineOf_17 : decode cX7_lineOf 17 = .ok (.goto 4, 3) := by decide +kernel
theorem dX7_lineOf_20 : decode cX7_lineOf 20 = .ok (.iconst 0, 1) := by decide +kernel
theorem dX7_lineOf_21 : decode cX7_lineOf 21 = .ok (.iconst 1, 1) := by decide +kernel
theorem dX7_lineOf_22 : decode cX7_lineOf 22 = .ok (.iconst 1, 1) := by decide +kernel
theorem dX7_lineOf_23 : decode cX7_lineOf 23 = .ok (.invokevirtual 105, 3) := by decide +kernel
theorem dX7_lineOf_26 : decode cX7_lineOf 26 = .ok (.ifCond .ne 5, 3) := by decide +kernel
theorem dX7_lineOf_29 : decode cX7_lineOf 29 = .ok (.iconst 0, 1) := by decide +kernel
theorem dX7_lineOf_30 : decode cX7_lineOf 30 = .ok (.ireturn, 1) := by decide +kernel
theorem dX7_lineOf_31 : decode cX7_lineOf 31 = .ok (.aload_n 0, 1) := by decide +kernel
theorem dX7_lineOf_32 : decode cX7_lineOf 32 = .ok (.iload_n 1, 1) := by decide +kernel
theorem dX7_lineOf_33 : decode cX7_lineOf 33 = .ok (.invokevirtual 211, 3) := by decide +kernel
theorem dX7_lineOf_36 : decode cX7_lineOf 36 = .ok (.aload_n 0, 1) := by decide +kernel
theorem dX7_lineOf_37 : decode cX7_lineOf 37 = .ok (.getfield 89, 3) := by decide +kernel
theorem dX7_lineOf_40 : decode cX7_lineOf 40 = .ok (.aload_n 0, 1) := by decide +kernel
theorem dX7_lineOf_41 : decode cX7_lineOf 41 = .ok (.iload_n 2, 1) := by decide +kernel
theorem dX7_lineOf_42 : decode cX7_lineOf 42 = .ok (.invokevirtual 208, 3) := by decide +kernel
theorem dX7_lineOf_45 : decode cX7_lineOf 45 = .ok (.iaload, 1) := by decide +kernel
theorem dX7_lineOf_46 : decode cX7_lineOf 46 = .ok (.ireturn, 1) := by decide +kernel
theorem dX7_cost_0 : decode cX7_cost 0 = .ok (.aload_n 0, 1) := by decide +kernel
theorem dX7_cost_1 : decode cX7_cost 1 = .ok (.iload_n 1, 1) := by decide +kernel
theorem dX7_cost_2 : decode cX7_cost 2 = .ok (.invokestatic 205, 3) := by decide +kernel
theorem dX7_cost_5 : decode cX7_cost 5 = .ok (.iconst 1, 1) := by decide +kernel
theorem dX7_cost_6 : decode cX7_cost 6 = .ok (.iconst 1, 1) := by decide +kernel
theorem dX7_cost_7 : decode cX7_cost 7 = .ok (.invokevirtual 105, 3) := by decide +kernel
theorem dX7_cost_10 : decode cX7_cost 10 = .ok (.ifCond .ne 5, 3) := by decide +kernel
theorem dX7_cost_13 : decode cX7_cost 13 = .ok (.iconst 0, 1) := by decide +kernel
theorem dX7_cost_14 : decode cX7_cost 14 = .ok (.ireturn, 1) := by decide +kernel
theorem dX7_cost_15 : decode cX7_cost 15 = .ok (.aload_n 0, 1) := by decide +kernel
theorem dX7_cost_16 : decode cX7_cost 16 = .ok (.iload_n 1, 1) := by decide +kernel
theorem dX7_cost_17 : decode cX7_cost 17 = .ok (.invokevirtual 211, 3) := by decide +kernel
theorem dX7_cost_20 : decode cX7_cost 20 = .ok (.aload_n 0, 1) := by decide +kernel
theorem dX7_cost_21 : decode cX7_cost 21 = .ok (.getfield 161, 3) := by decide +kernel
theorem dX7_cost_24 : decode cX7_cost 24 = .ok (.ifCond .ne 7, 3) := by decide +kernel
theorem dX7_cost_27 : decode cX7_cost 27 = .ok (.iconst 0, 1) := by decide +kernel
theorem dX7_cost_28 : decode cX7_cost 28 = .ok (.goto 9, 3) := by decide +kernel
theorem dX7_cost_31 : decode cX7_cost 31 = .ok (.aload_n 0, 1) := by decide +kernel
theorem dX7_cost_32 : decode cX7_cost 32 = .ok (.getfield 80, 3) := by decide +kernel
theorem dX7_cost_35 : decode cX7_cost 35 = .ok (.iconst 0, 1) := by decide +kernel
theorem dX7_cost_36 : decode cX7_cost 36 = .ok (.iaload, 1) := by decide +kernel
theorem dX7_cost_37 : decode cX7_cost 37 = .ok (.ireturn, 1) := by decide +kernel
theorem dX7_costByAll_0 : decode cX7_costByAll 0 = .ok (.aload_n 0, 1) := by decide +kernel
theorem dX7_costByAll_1 : decode cX7_costByAll 1 = .ok (.iload_n 1, 1) := by decide +kernel
theorem dX7_costByAll_2 : decode cX7_costByAll 2 = .ok (.invokevirtual 214, 3) := by decide +kernel
theorem dX7_costByAll_5 : decode cX7_costByAll 5 = .ok (.ireturn, 1) := by decide +kernel
theorem dX7_turns_0 : decode cX7_turns 0 = .ok (.aload_n 0, 1) := by decide +kernel
theorem dX7_turns_1 : decode cX7_turns 1 = .ok (.iload_n 1, 1) := by decide +kernel
theorem dX7_turns_2 : decode cX7_turns 2 = .ok (.invokestatic 205, 3) := by decide +kernel
theorem dX7_turns_5 : decode cX7_turns 5 = .ok (.iconst 1, 1) := by decide +kernel
theorem dX7_turns_6 : decode cX7_turns 6 = .ok (.iconst 1, 1) := by decide +kernel
theorem dX7_turns_7 : decode cX7_turns 7 = .ok (.invokevirtual 105, 3) := by decide +kernel
theorem dX7_turns_10 : decode cX7_turns 10 = .ok (.ifCond .ne 5, 3) := by decide +kernel
theorem dX7_turns_13 : decode cX7_turns 13 = .ok (.iconst 0, 1) := by decide +kernel
theorem dX7_turns_14 : decode cX7_turns 14 = .ok (.ireturn, 1) := by decide +kernel
theorem dX7_turns_15 : decode cX7_turns 15 = .ok (.aload_n 0, 1) := by decide +kernel
theorem dX7_turns_16 : decode cX7_turns 16 = .ok (.iload_n 1, 1) := by decide +kernel
theorem dX7_turns_17 : decode cX7_turns 17 = .ok (.invokevirtual 211, 3) := by decide +kernel
theorem dX7_turns_20 : decode cX7_turns 20 = .ok (.aload_n 0, 1) := by decide +kernel
theorem dX7_turns_21 : decode cX7_turns 21 = .ok (.getfield 193, 3) := by decide +kernel
theorem dX7_turns_24 : decode cX7_turns 24 = .ok (.ireturn, 1) := by decide +kernel
theorem dX7_springAt_0 : decode cX7_springAt 0 = .ok (.aload_n 0, 1) := by decide +kernel
theorem dX7_springAt_1 : decode cX7_springAt 1 = .ok (.iload_n 1, 1) := by decide +kernel
theorem dX7_springAt_2 : decode cX7_springAt 2 = .ok (.invokevirtual 208, 3) := by decide +kernel
theorem dX7_springAt_5 : decode cX7_springAt 5 = .ok (.istore_n 3, 1) := by decide +kernel
theorem dX7_springAt_6 : decode cX7_springAt 6 = .ok (.aload_n 0, 1) := by decide +kernel
theorem dX7_springAt_7 : decode cX7_springAt 7 = .ok (.getfield 62, 3) := by decide +kernel
theorem dX7_springAt_10 : decode cX7_springAt 10 = .ok (.iload_n 3, 1) := by decide +kernel
theorem dX7_springAt_11 : decode cX7_springAt 11 = .ok (.iaload, 1) := by decide +kernel
theorem dX7_springAt_12 : decode cX7_springAt 12 = .ok (.istore 4, 2) := by decide +kernel
theorem dX7_springAt_14 : decode cX7_springAt 14 = .ok (.iload 4, 2) := by decide +kernel
theorem dX7_springAt_16 : decode cX7_springAt 16 = .ok (.aload_n 0, 1) := by decide +kernel
theorem dX7_springAt_17 : decode cX7_springAt 17 = .ok (.getfield 62, 3) := by decide +kernel
theorem dX7_springAt_20 : decode cX7_springAt 20 = .ok (.iload_n 3, 1) := by decide +kernel
theorem dX7_springAt_21 : decode cX7_springAt 21 = .ok (.iconst 1, 1) := by decide +kernel
theorem dX7_springAt_22 : decode cX7_springAt 22 = .ok (.iadd, 1) := by decide +kernel
theorem dX7_springAt_23 : decode cX7_springAt 23 = .ok (.iaload, 1) := by decide +kernel
theorem dX7_springAt_24 : decode cX7_springAt 24 = .ok (.if_icmp .ge 33, 3) := by decide +kernel
theorem dX7_springAt_27 : decode cX7_springAt 27 = .ok (.aload_n 0, 1) := by decide +kernel
theorem dX7_springAt_28 : decode cX7_springAt 28 = .ok (.getfield 53, 3) := by decide +kernel
theorem dX7_springAt_31 : decode cX7_springAt 31 = .ok (.iload_n 3, 1) := by decide +kernel
theorem dX7_springAt_32 : decode cX7_springAt 32 = .ok (.iaload, 1) := by decide +kernel
theorem dX7_springAt_33 : decode cX7_springAt 33 = .ok (.iload_n 1, 1) := by decide +kernel
theorem dX7_springAt_34 : decode cX7_springAt 34 = .ok (.if_icmp .ne 17, 3) := by decide +kernel
theorem dX7_springAt_37 : decode cX7_springAt 37 = .ok (.aload_n 0, 1) := by decide +kernel
theorem dX7_springAt_38 : decode cX7_springAt 38 = .ok (.getfield 65, 3) := by decide +kernel
theorem dX7_springAt_41 : decode cX7_springAt 41 = .ok (.iload 4, 2) := by decide +kernel
theorem dX7_springAt_43 : decode cX7_springAt 43 = .ok (.iaload, 1) := by decide +kernel
theorem dX7_springAt_44 : decode cX7_springAt 44 = .ok (.iload_n 2, 1) := by decide +kernel
theorem dX7_springAt_45 : decode cX7_springAt 45 = .ok (.if_icmp .ne 6, 3) := by decide +kernel
theorem dX7_springAt_48 : decode cX7_springAt 48 = .ok (.iload 4, 2) := by decide +kernel
theorem dX7_springAt_50 : decode cX7_springAt 50 = .ok (.ireturn, 1) := by decide +kernel
theorem dX7_springAt_51 : decode cX7_springAt 51 = .ok (.iinc 4 1, 3) := by decide +kernel
theorem dX7_springAt_54 : decode cX7_springAt 54 = .ok (.goto (-40), 3) := by decide +kernel
theorem dX7_springAt_57 : decode cX7_springAt 57 = .ok (.iconst (-1), 1) := by decide +kernel
theorem dX7_springAt_58 : decode cX7_springAt 58 = .ok (.ireturn, 1) := by decide +kernel
theorem dX7_placeOf_0 : decode cX7_placeOf 0 = .ok (.aload_n 0, 1) := by decide +kernel
theorem dX7_placeOf_1 : decode cX7_placeOf 1 = .ok (.iload_n 1, 1) := by decide +kernel
theorem dX7_placeOf_2 : decode cX7_placeOf 2 = .ok (.invokevirtual 208, 3) := by decide +kernel
theorem dX7_placeOf_5 : decode cX7_placeOf 5 = .ok (.istore_n 3, 1) := by decide +kernel
theorem dX7_placeOf_6 : decode cX7_placeOf 6 = .ok (.aload_n 0, 1) := by decide +kernel
theorem dX7_placeOf_7 : decode cX7_placeOf 7 = .ok (.getfield 89, 3) := by decide +kernel
theorem dX7_placeOf_10 : decode cX7_placeOf 10 = .ok (.iload_n 3, 1) := by decide +kernel
theorem dX7_placeOf_11 : decode cX7_placeOf 11 = .ok (.iaload, 1) := by decide +kernel
theorem dX7_placeOf_12 : decode cX7_placeOf 12 = .ok (.istore 4, 2) := by decide +kernel
theorem dX7_placeOf_14 : decode cX7_placeOf 14 = .ok (.iconst 0, 1) := by decide +kernel
theorem dX7_placeOf_15 : decode cX7_placeOf 15 = .ok (.istore 5, 2) := by decide +kernel
theorem dX7_placeOf_17 : decode cX7_placeOf 17 = .ok (.iconst 0, 1) := by decide +kernel
theorem dX7_placeOf_18 : decode cX7_placeOf 18 = .ok (.istore 6, 2) := by decide +kernel
theorem dX7_placeOf_20 : decode cX7_placeOf 20 = .ok (.iconst 0, 1) := by decide +kernel
theorem dX7_placeOf_21 : decode cX7_placeOf 21 = .ok (.istore 7, 2) := by decide +kernel
theorem dX7_placeOf_23 : decode cX7_placeOf 23 = .ok (.iconst 0, 1) := by decide +kernel
theorem dX7_placeOf_24 : decode cX7_placeOf 24 = .ok (.istore 8, 2) := by decide +kernel
theorem dX7_placeOf_26 : decode cX7_placeOf 26 = .ok (.iconst 0, 1) := by decide +kernel
theorem dX7_placeOf_27 : decode cX7_placeOf 27 = .ok (.istore 9, 2) := by decide +kernel
theorem dX7_placeOf_29 : decode cX7_placeOf 29 = .ok (.iconst 0, 1) := by decide +kernel
theorem dX7_placeOf_30 : decode cX7_placeOf 30 = .ok (.istore 10, 2) := by decide +kernel
theorem dX7_placeOf_32 : decode cX7_placeOf 32 = .ok (.iconst 0, 1) := by decide +kernel
theorem dX7_placeOf_33 : decode cX7_placeOf 33 = .ok (.istore 11, 2) := by decide +kernel
theorem dX7_placeOf_35 : decode cX7_placeOf 35 = .ok (.iload 11, 2) := by decide +kernel
theorem dX7_placeOf_37 : decode cX7_placeOf 37 = .ok (.aload_n 0, 1) := by decide +kernel
theorem dX7_placeOf_38 : decode cX7_placeOf 38 = .ok (.getfield 161, 3) := by decide +kernel
theorem dX7_placeOf_41 : decode cX7_placeOf 41 = .ok (.if_icmp .ge 168, 3) := by decide +kernel
theorem dX7_placeOf_44 : decode cX7_placeOf 44 = .ok (.iload 10, 2) := by decide +kernel
theorem dX7_placeOf_46 : decode cX7_placeOf 46 = .ok (.aload_n 0, 1) := by decide +kernel
theorem dX7_placeOf_47 : decode cX7_placeOf 47 = .ok (.getfield 89, 3) := by decide +kernel
theorem dX7_placeOf_50 : decode cX7_placeOf 50 = .ok (.iload 11, 2) := by decide +kernel
theorem dX7_placeOf_52 : decode cX7_placeOf 52 = .ok (.iaload, 1) := by decide +kernel
theorem dX7_placeOf_53 : decode cX7_placeOf 53 = .ok (.iload 4, 2) := by decide +kernel
theorem dX7_placeOf_55 : decode cX7_placeOf 55 = .ok (.if_icmp .ne 13, 3) := by decide +kernel
theorem dX7_placeOf_58 : decode cX7_placeOf 58 = .ok (.iload 11, 2) := by decide +kernel
theorem dX7_placeOf_60 : decode cX7_placeOf 60 = .ok (.iload_n 3, 1) := by decide +kernel
theorem dX7_placeOf_61 : decode cX7_placeOf 61 = .ok (.if_icmp .ge 7, 3) := by decide +kernel
theorem dX7_placeOf_64 : decode cX7_placeOf 64 = .ok (.iconst 1, 1) := by decide +kernel
theorem dX7_placeOf_65 : decode cX7_placeOf 65 = .ok (.goto 4, 3) := by decide +kernel
theorem dX7_placeOf_68 : decode cX7_placeOf 68 = .ok (.iconst 0, 1) := by decide +kernel
theorem dX7_placeOf_69 : decode cX7_placeOf 69 = .ok (.iadd, 1) := by decide +kernel
theorem dX7_placeOf_70 : decode cX7_placeOf 70 = .ok (.istore 10, 2) := by decide +kernel
theorem dX7_placeOf_72 : decode cX7_placeOf 72 = .ok (.iload 9, 2) := by decide +kernel
theorem dX7_placeOf_74 : decode cX7_placeOf 74 = .ok (.aload_n 0, 1) := by decide +kernel
theorem dX7_placeOf_75 : decode cX7_placeOf 75 = .ok (.getfield 89, 3) := by decide +kernel
theorem dX7_placeOf_78 : decode cX7_placeOf 78 = .ok (.iload 11, 2) := by decide +kernel
theorem dX7_placeOf_80 : decode cX7_placeOf 80 = .ok (.iaload, 1) := by decide +kernel
theorem dX7_placeOf_81 : decode cX7_placeOf 81 = .ok (.iload 4, 2) := by decide +kernel
theorem dX7_placeOf_83 : decode cX7_placeOf 83 = .ok (.if_icmp .ne 7, 3) := by decide +kernel
theorem dX7_placeOf_86 : decode cX7_placeOf 86 = .ok (.iconst 1, 1) := by decide +kernel
theorem dX7_placeOf_87 : decode cX7_placeOf 87 = .ok (.goto 4, 3) := by decide +kernel
theorem dX7_placeOf_90 : decode cX7_placeOf 90 = .ok (.iconst 0, 1) := by decide +kernel
theorem dX7_placeOf_91 : decode cX7_placeOf 91 = .ok (.iadd, 1) := by decide +kernel
theorem dX7_placeOf_92 : decode cX7_placeOf 92 = .ok (.istore 9, 2) := by decide +kernel
theorem dX7_placeOf_94 : decode cX7_placeOf 94 = .ok (.aload_n 0, 1) := by decide +kernel
theorem dX7_placeOf_95 : decode cX7_placeOf 95 = .ok (.getfield 62, 3) := by decide +kernel
theorem dX7_placeOf_98 : decode cX7_placeOf 98 = .ok (.iload 11, 2) := by decide +kernel
theorem dX7_placeOf_100 : decode cX7_placeOf 100 = .ok (.iaload, 1) := by decide +kernel
theorem dX7_placeOf_101 : decode cX7_placeOf 101 = .ok (.istore 12, 2) := by decide +kernel
theorem dX7_placeOf_103 : decode cX7_placeOf 103 = .ok (.iload 12, 2) := by decide +kernel
theorem dX7_placeOf_105 : decode cX7_placeOf 105 = .ok (.aload_n 0, 1) := by decide +kernel
theorem dX7_placeOf_106 : decode cX7_placeOf 106 = .ok (.getfield 62, 3) := by decide +kernel
theorem dX7_placeOf_109 : decode cX7_placeOf 109 = .ok (.iload 11, 2) := by decide +kernel
theorem dX7_placeOf_111 : decode cX7_placeOf 111 = .ok (.iconst 1, 1) := by decide +kernel
theorem dX7_placeOf_112 : decode cX7_placeOf 112 = .ok (.iadd, 1) := by decide +kernel
theorem dX7_placeOf_113 : decode cX7_placeOf 113 = .ok (.iaload, 1) := by decide +kernel
theorem dX7_placeOf_114 : decode cX7_placeOf 114 = .ok (.if_icmp .ge 89, 3) := by decide +kernel
theorem dX7_placeOf_117 : decode cX7_placeOf 117 = .ok (.aload_n 0, 1) := by decide +kernel
theorem dX7_placeOf_118 : decode cX7_placeOf 118 = .ok (.getfield 89, 3) := by decide +kernel
theorem dX7_placeOf_121 : decode cX7_placeOf 121 = .ok (.iload 11, 2) := by decide +kernel
theorem dX7_placeOf_123 : decode cX7_placeOf 123 = .ok (.iaload, 1) := by decide +kernel
theorem dX7_placeOf_124 : decode cX7_placeOf 124 = .ok (.iload 4, 2) := by decide +kernel
theorem dX7_placeOf_126 : decode cX7_placeOf 126 = .ok (.if_icmp .ne 77, 3) := by decide +kernel
theorem dX7_placeOf_129 : decode cX7_placeOf 129 = .ok (.iload 7, 2) := by decide +kernel
theorem dX7_placeOf_131 : decode cX7_placeOf 131 = .ok (.aload_n 0, 1) := by decide +kernel
theorem dX7_placeOf_132 : decode cX7_placeOf 132 = .ok (.getfield 68, 3) := by decide +kernel
theorem dX7_placeOf_135 : decode cX7_placeOf 135 = .ok (.iload 12, 2) := by decide +kernel
theorem dX7_placeOf_137 : decode cX7_placeOf 137 = .ok (.iaload, 1) := by decide +kernel
theorem dX7_placeOf_138 : decode cX7_placeOf 138 = .ok (.iadd, 1) := by decide +kernel
theorem dX7_placeOf_139 : decode cX7_placeOf 139 = .ok (.istore 7, 2) := by decide +kernel
theorem dX7_placeOf_141 : decode cX7_placeOf 141 = .ok (.iload 8, 2) := by decide +kernel
theorem dX7_placeOf_143 : decode cX7_placeOf 143 = .ok (.aload_n 0, 1) := by decide +kernel
theorem dX7_placeOf_144 : decode cX7_placeOf 144 = .ok (.getfield 71, 3) := by decide +kernel
theorem dX7_placeOf_147 : decode cX7_placeOf 147 = .ok (.iload 12, 2) := by decide +kernel
theorem dX7_placeOf_149 : decode cX7_placeOf 149 = .ok (.iaload, 1) := by decide +kernel
theorem dX7_placeOf_150 : decode cX7_placeOf 150 = .ok (.iadd, 1) := by decide +kernel
theorem dX7_placeOf_151 : decode cX7_placeOf 151 = .ok (.istore 8, 2) := by decide +kernel
theorem dX7_placeOf_153 : decode cX7_placeOf 153 = .ok (.iload 5, 2) := by decide +kernel
theorem dX7_placeOf_155 : decode cX7_placeOf 155 = .ok (.iload 12, 2) := by decide +kernel
theorem dX7_placeOf_157 : decode cX7_placeOf 157 = .ok (.iload_n 2, 1) := by decide +kernel
theorem dX7_placeOf_158 : decode cX7_placeOf 158 = .ok (.if_icmp .ge 13, 3) := by decide +kernel
theorem dX7_placeOf_161 : decode cX7_placeOf 161 = .ok (.aload_n 0, 1) := by decide +kernel
theorem dX7_placeOf_162 : decode cX7_placeOf 162 = .ok (.getfield 68, 3) := by decide +kernel
theorem dX7_placeOf_165 : decode cX7_placeOf 165 = .ok (.iload 12, 2) := by decide +kernel
theorem dX7_placeOf_167 : decode cX7_placeOf 167 = .ok (.iaload, 1) := by decide +kernel
theorem dX7_placeOf_168 : decode cX7_placeOf 168 = .ok (.goto 4, 3) := by decide +kernel
theorem dX7_placeOf_171 : decode cX7_placeOf 171 = .ok (.iconst 0, 1) := by decide +kernel
theorem dX7_placeOf_172 : decode cX7_placeOf 172 = .ok (.iadd, 1) := by decide +kernel
theorem dX7_placeOf_173 : decode cX7_placeOf 173 = .ok (.istore 5, 2) := by decide +kernel
theorem dX7_placeOf_175 : decode cX7_placeOf 175 = .ok (.iload 6, 2) := by decide +kernel
theorem dX7_placeOf_177 : decode cX7_placeOf 177 = .ok (.iload 12, 2) := by decide +kernel
theorem dX7_placeOf_179 : decode cX7_placeOf 179 = .ok (.iload_n 2, 1) := by decide +kernel
theorem dX7_placeOf_180 : decode cX7_placeOf 180 = .ok (.if_icmp .ge 13, 3) := by decide +kernel
theorem dX7_placeOf_183 : decode cX7_placeOf 183 = .ok (.aload_n 0, 1) := by decide +kernel
theorem dX7_placeOf_184 : decode cX7_placeOf 184 = .ok (.getfield 71, 3) := by decide +kernel
theorem dX7_placeOf_187 : decode cX7_placeOf 187 = .ok (.iload 12, 2) := by decide +kernel
theorem dX7_placeOf_189 : decode cX7_placeOf 189 = .ok (.iaload, 1) := by decide +kernel
theorem dX7_placeOf_190 : decode cX7_placeOf 190 = .ok (.goto 4, 3) := by decide +kernel
theorem dX7_placeOf_193 : decode cX7_placeOf 193 = .ok (.iconst 0, 1) := by decide +kernel
theorem dX7_placeOf_194 : decode cX7_placeOf 194 = .ok (.iadd, 1) := by decide +kernel
theorem dX7_placeOf_195 : decode cX7_placeOf 195 = .ok (.istore 6, 2) := by decide +kernel
theorem dX7_placeOf_197 : decode cX7_placeOf 197 = .ok (.iinc 12 1, 3) := by decide +kernel
theorem dX7_placeOf_200 : decode cX7_placeOf 200 = .ok (.goto (-97), 3) := by decide +kernel
theorem dX7_placeOf_203 : decode cX7_placeOf 203 = .ok (.iinc 11 1, 3) := by decide +kernel
theorem dX7_placeOf_206 : decode cX7_placeOf 206 = .ok (.goto (-171), 3) := by decide +kernel
theorem dX7_placeOf_209 : decode cX7_placeOf 209 = .ok (.bipush 8, 2) := by decide +kernel
theorem dX7_placeOf_211 : decode cX7_placeOf 211 = .ok (.iload 10, 2) := by decide +kernel
theorem dX7_placeOf_213 : decode cX7_placeOf 213 = .ok (.imul, 1) := by decide +kernel
theorem dX7_placeOf_214 : decode cX7_placeOf 214 = .ok (.iconst 4, 1) := by decide +kernel
theorem dX7_placeOf_215 : decode cX7_placeOf 215 = .ok (.iadd, 1) := by decide +kernel
theorem dX7_placeOf_216 : decode cX7_placeOf 216 = .ok (.iload 5, 2) := by decide +kernel
theorem dX7_placeOf_218 : decode cX7_placeOf 218 = .ok (.iadd, 1) := by decide +kernel
theorem dX7_placeOf_219 : decode cX7_placeOf 219 = .ok (.istore 11, 2) := by decide +kernel
theorem dX7_placeOf_221 : decode cX7_placeOf 221 = .ok (.aload_n 0, 1) := by decide +kernel
theorem dX7_placeOf_222 : decode cX7_placeOf 222 = .ok (.getfield 25, 3) := by decide +kernel
theorem dX7_placeOf_225 : decode cX7_placeOf 225 = .ok (.bipush 8, 2) := by decide +kernel
theorem dX7_placeOf_227 : decode cX7_placeOf 227 = .ok (.iload 9, 2) := by decide +kernel
theorem dX7_placeOf_229 : decode cX7_placeOf 229 = .ok (.imul, 1) := by decide +kernel
theorem dX7_placeOf_230 : decode cX7_placeOf 230 = .ok (.isub, 1) := by decide +kernel
theorem dX7_placeOf_231 : decode cX7_placeOf 231 = .ok (.iload 7, 2) := by decide +kernel
theorem dX7_placeOf_233 : decode cX7_placeOf 233 = .ok (.isub, 1) := by decide +kernel
theorem dX7_placeOf_234 : decode cX7_placeOf 234 = .ok (.istore 12, 2) := by decide +kernel
theorem dX7_placeOf_236 : decode cX7_placeOf 236 = .ok (.iload 12, 2) := by decide +kernel
theorem dX7_placeOf_238 : decode cX7_placeOf 238 = .ok (.ifCond .le 26, 3) := by decide +kernel
theorem dX7_placeOf_241 : decode cX7_placeOf 241 = .ok (.iload 4, 2) := by decide +kernel
theorem dX7_placeOf_243 : decode cX7_placeOf 243 = .ok (.aload_n 0, 1) := by decide +kernel
theorem dX7_placeOf_244 : decode cX7_placeOf 244 = .ok (.getfield 190, 3) := by decide +kernel
theorem dX7_placeOf_247 : decode cX7_placeOf 247 = .ok (.iconst 1, 1) := by decide +kernel
theorem dX7_placeOf_248 : decode cX7_placeOf 248 = .ok (.isub, 1) := by decide +kernel
theorem dX7_placeOf_249 : decode cX7_placeOf 249 = .ok (.if_icmp .ge 15, 3) := by decide +kernel
theorem dX7_placeOf_252 : decode cX7_placeOf 252 = .ok (.iload 11, 2) := by decide +kernel
theorem dX7_placeOf_254 : decode cX7_placeOf 254 = .ok (.iload 12, 2) := by decide +kernel
theorem dX7_placeOf_256 : decode cX7_placeOf 256 = .ok (.iload 5, 2) := by decide +kernel
theorem dX7_placeOf_258 : decode cX7_placeOf 258 = .ok (.imul, 1) := by decide +kernel
theorem dX7_placeOf_259 : decode cX7_placeOf 259 = .ok (.iload 7, 2) := by decide +kernel
theorem dX7_placeOf_261 : decode cX7_placeOf 261 = .ok (.idiv, 1) := by decide +kernel
theorem dX7_placeOf_262 : decode cX7_placeOf 262 = .ok (.iadd, 1) := by decide +kernel
theorem dX7_placeOf_263 : decode cX7_placeOf 263 = .ok (.ireturn, 1) := by decide +kernel
theorem dX7_placeOf_264 : decode cX7_placeOf 264 = .ok (.iload 12, 2) := by decide +kernel
theorem dX7_placeOf_266 : decode cX7_placeOf 266 = .ok (.ifCond .ge 52, 3) := by decide +kernel
theorem dX7_placeOf_269 : decode cX7_placeOf 269 = .ok (.iload 7, 2) := by decide +kernel
theorem dX7_placeOf_271 : decode cX7_placeOf 271 = .ok (.iload 8, 2) := by decide +kernel
theorem dX7_placeOf_273 : decode cX7_placeOf 273 = .ok (.if_icmp .le 45, 3) := by decide +kernel
theorem dX7_placeOf_276 : decode cX7_placeOf 276 = .ok (.iload 12, 2) := by decide +kernel
theorem dX7_placeOf_278 : decode cX7_placeOf 278 = .ok (.ineg, 1) := by decide +kernel
theorem dX7_placeOf_279 : decode cX7_placeOf 279 = .ok (.iload 7, 2) := by decide +kernel
theorem dX7_placeOf_281 : decode cX7_placeOf 281 = .ok (.iload 8, 2) := by decide +kernel
theorem dX7_placeOf_283 : decode cX7_placeOf 283 = .ok (.isub, 1) := by decide +kernel
theorem dX7_placeOf_284 : decode cX7_placeOf 284 = .ok (.if_icmp .ge 9, 3) := by decide +kernel
theorem dX7_placeOf_287 : decode cX7_placeOf 287 = .ok (.iload 12, 2) := by decide +kernel
theorem dX7_placeOf_289 : decode cX7_placeOf 289 = .ok (.ineg, 1) := by decide +kernel
theorem dX7_placeOf_290 : decode cX7_placeOf 290 = .ok (.goto 8, 3) := by decide +kernel
theorem dX7_placeOf_293 : decode cX7_placeOf 293 = .ok (.iload 7, 2) := by decide +kernel
theorem dX7_placeOf_295 : decode cX7_placeOf 295 = .ok (.iload 8, 2) := by decide +kernel
theorem dX7_placeOf_297 : decode cX7_placeOf 297 = .ok (.isub, 1) := by decide +kernel
theorem dX7_placeOf_298 : decode cX7_placeOf 298 = .ok (.istore 13, 2) := by decide +kernel
theorem dX7_placeOf_300 : decode cX7_placeOf 300 = .ok (.iload 11, 2) := by decide +kernel
theorem dX7_placeOf_302 : decode cX7_placeOf 302 = .ok (.iload 13, 2) := by decide +kernel
theorem dX7_placeOf_304 : decode cX7_placeOf 304 = .ok (.iload 5, 2) := by decide +kernel
theorem dX7_placeOf_306 : decode cX7_placeOf 306 = .ok (.iload 6, 2) := by decide +kernel
theorem dX7_placeOf_308 : decode cX7_placeOf 308 = .ok (.isub, 1) := by decide +kernel
theorem dX7_placeOf_309 : decode cX7_placeOf 309 = .ok (.imul, 1) := by decide +kernel
theorem dX7_placeOf_310 : decode cX7_placeOf 310 = .ok (.iload 7, 2) := by decide +kernel
theorem dX7_placeOf_312 : decode cX7_placeOf 312 = .ok (.iload 8, 2) := by decide +kernel
theorem dX7_placeOf_314 : decode cX7_placeOf 314 = .ok (.isub, 1) := by decide +kernel
theorem dX7_placeOf_315 : decode cX7_placeOf 315 = .ok (.idiv, 1) := by decide +kernel
theorem dX7_placeOf_316 : decode cX7_placeOf 316 = .ok (.isub, 1) := by decide +kernel
theorem dX7_placeOf_317 : decode cX7_placeOf 317 = .ok (.ireturn, 1) := by decide +kernel
theorem dX7_placeOf_318 : decode cX7_placeOf 318 = .ok (.iload 11, 2) := by decide +kernel
theorem dX7_placeOf_320 : decode cX7_placeOf 320 = .ok (.ireturn, 1) := by decide +kernel
theorem dX7_place_0 : decode cX7_place 0 = .ok (.iload_n 1, 1) := by decide +kernel
theorem dX7_place_1 : decode cX7_place 1 = .ok (.invokestatic 205, 3) := by decide +kernel
theorem dX7_place_4 : decode cX7_place 4 = .ok (.ifCond .eq 15, 3) := by decide +kernel
theorem dX7_place_7 : decode cX7_place 7 = .ok (.aload_n 0, 1) := by decide +kernel
theorem dX7_place_8 : decode cX7_place 8 = .ok (.iload_n 2, 1) := by decide +kernel
theorem dX7_place_9 : decode cX7_place 9 = .ok (.invokevirtual 113, 3) := by decide +kernel
theorem dX7_place_12 : decode cX7_place 12 = .ok (.ifCond .eq 7, 3) := by decide +kernel
theorem dX7_place_15 : decode cX7_place 15 = .ok (.iconst 1, 1) := by decide +kernel
theorem dX7_place_16 : decode cX7_place 16 = .ok (.goto 4, 3) := by decide +kernel
theorem dX7_place_19 : decode cX7_place 19 = .ok (.iconst 0, 1) := by decide +kernel
theorem dX7_place_20 : decode cX7_place 20 = .ok (.istore 4, 2) := by decide +kernel
theorem dX7_place_22 : decode cX7_place 22 = .ok (.iconst (-1), 1) := by decide +kernel
theorem dX7_place_23 : decode cX7_place 23 = .ok (.istore 5, 2) := by decide +kernel
theorem dX7_place_25 : decode cX7_place 25 = .ok (.iload 4, 2) := by decide +kernel
theorem dX7_place_27 : decode cX7_place 27 = .ok (.ifCond .eq 16, 3) := by decide +kernel
theorem dX7_place_30 : decode cX7_place 30 = .ok (.aload_n 0, 1) := by decide +kernel
theorem dX7_place_31 : decode cX7_place 31 = .ok (.iload_n 1, 1) := by decide +kernel
theorem dX7_place_32 : decode cX7_place 32 = .ok (.invokevirtual 211, 3) := by decide +kernel
theorem dX7_place_35 : decode cX7_place 35 = .ok (.aload_n 0, 1) := by decide +kernel
theorem dX7_place_36 : decode cX7_place 36 = .ok (.iload_n 2, 1) := by decide +kernel
theorem dX7_place_37 : decode cX7_place 37 = .ok (.iload_n 3, 1) := by decide +kernel
theorem dX7_place_38 : decode cX7_place 38 = .ok (.invokevirtual 217, 3) := by decide +kernel
theorem dX7_place_41 : decode cX7_place 41 = .ok (.istore 5, 2) := by decide +kernel
theorem dX7_place_43 : decode cX7_place 43 = .ok (.aload_n 0, 1) := by decide +kernel
theorem dX7_place_44 : decode cX7_place 44 = .ok (.iload 5, 2) := by decide +kernel
theorem dX7_place_46 : decode cX7_place 46 = .ok (.iconst (-1), 1) := by decide +kernel
theorem dX7_place_47 : decode cX7_place 47 = .ok (.if_icmp .eq 7, 3) := by decide +kernel
theorem dX7_place_50 : decode cX7_place 50 = .ok (.iconst 1, 1) := by decide +kernel
theorem dX7_place_51 : decode cX7_place 51 = .ok (.goto 4, 3) := by decide +kernel
theorem dX7_place_54 : decode cX7_place 54 = .ok (.iconst 0, 1) := by decide +kernel
theorem dX7_place_55 : decode cX7_place 55 = .ok (.iconst 1, 1) := by decide +kernel
theorem dX7_place_56 : decode cX7_place 56 = .ok (.iconst 1, 1) := by decide +kernel
theorem dX7_place_57 : decode cX7_place 57 = .ok (.invokevirtual 105, 3) := by decide +kernel
theorem dX7_place_60 : decode cX7_place 60 = .ok (.ifCond .eq 13, 3) := by decide +kernel
theorem dX7_place_63 : decode cX7_place 63 = .ok (.aload_n 0, 1) := by decide +kernel
theorem dX7_place_64 : decode cX7_place 64 = .ok (.iload_n 2, 1) := by decide +kernel
theorem dX7_place_65 : decode cX7_place 65 = .ok (.iload 5, 2) := by decide +kernel
theorem dX7_place_67 : decode cX7_place 67 = .ok (.invokevirtual 220, 3) := by decide +kernel
theorem dX7_place_70 : decode cX7_place 70 = .ok (.goto 4, 3) := by decide +kernel
theorem dX7_place_73 : decode cX7_place 73 = .ok (.iconst 0, 1) := by decide +kernel
theorem dX7_place_74 : decode cX7_place 74 = .ok (.ireturn, 1) := by decide +kernel
theorem dX7_copies_0 : decode cX7_copies 0 = .ok (.aload_n 0, 1) := by decide +kernel
theorem dX7_copies_1 : decode cX7_copies 1 = .ok (.iconst 0, 1) := by decide +kernel
theorem dX7_copies_2 : decode cX7_copies 2 = .ok (.putfield 92, 3) := by decide +kernel
theorem dX7_copies_5 : decode cX7_copies 5 = .ok (.aload_n 0, 1) := by decide +kernel
theorem dX7_copies_6 : decode cX7_copies 6 = .ok (.getfield 102, 3) := by decide +kernel
theorem dX7_copies_9 : decode cX7_copies 9 = .ok (.ireturn, 1) := by decide +kernel
theorem dX7_deskOf_0 : decode cX7_deskOf 0 = .ok (.aload_n 0, 1) := by decide +kernel
theorem dX7_deskOf_1 : decode cX7_deskOf 1 = .ok (.aload_n 0, 1) := by decide +kernel
theorem dX7_deskOf_2 : decode cX7_deskOf 2 = .ok (.iload_n 1, 1) := by decide +kernel
theorem dX7_deskOf_3 : decode cX7_deskOf 3 = .ok (.invokevirtual 126, 3) := by decide +kernel
theorem dX7_deskOf_6 : decode cX7_deskOf 6 = .ok (.iconst 1, 1) := by decide +kernel
theorem dX7_deskOf_7 : decode cX7_deskOf 7 = .ok (.iconst 1, 1) := by decide +kernel
theorem dX7_deskOf_8 : decode cX7_deskOf 8 = .ok (.invokevirtual 105, 3) := by decide +kernel
theorem dX7_deskOf_11 : decode cX7_deskOf 11 = .ok (.ifCond .eq 12, 3) := by decide +kernel
theorem dX7_deskOf_14 : decode cX7_deskOf 14 = .ok (.aload_n 0, 1) := by decide +kernel
theorem dX7_deskOf_15 : decode cX7_deskOf 15 = .ok (.getfield 35, 3) := by decide +kernel
theorem dX7_deskOf_18 : decode cX7_deskOf 18 = .ok (.iload_n 1, 1) := by decide +kernel
theorem dX7_deskOf_19 : decode cX7_deskOf 19 = .ok (.iaload, 1) := by decide +kernel
theorem dX7_deskOf_20 : decode cX7_deskOf 20 = .ok (.goto 4, 3) := by decide +kernel
theorem dX7_deskOf_23 : decode cX7_deskOf 23 = .ok (.iconst 0, 1) := by decide +kernel
theorem dX7_deskOf_24 : decode cX7_deskOf 24 = .ok (.ireturn, 1) := by decide +kernel
theorem dX7_has_0 : decode cX7_has 0 = .ok (.aload_n 0, 1) := by decide +kernel
theorem dX7_has_1 : decode cX7_has 1 = .ok (.aload_n 0, 1) := by decide +kernel
theorem dX7_has_2 : decode cX7_has 2 = .ok (.iload_n 1, 1) := by decide +kernel
theorem dX7_has_3 : decode cX7_has 3 = .ok (.invokevirtual 126, 3) := by decide +kernel
theorem dX7_has_6 : decode cX7_has 6 = .ok (.ifCond .eq 15, 3) := by decide +kernel
theorem dX7_has_9 : decode cX7_has 9 = .ok (.aload_n 0, 1) := by decide +kernel
theorem dX7_has_10 : decode cX7_has 10 = .ok (.iload_n 2, 1) := by decide +kernel
theorem dX7_has_11 : decode cX7_has 11 = .ok (.invokevirtual 113, 3) := by decide +kernel
theorem dX7_has_14 : decode cX7_has 14 = .ok (.ifCond .eq 7, 3) := by decide +kernel
theorem dX7_has_17 : decode cX7_has 17 = .ok (.iconst 1, 1) := by decide +kernel
theorem dX7_has_18 : decode cX7_has 18 = .ok (.goto 4, 3) := by decide +kernel
theorem dX7_has_21 : decode cX7_has 21 = .ok (.iconst 0, 1) := by decide +kernel
theorem dX7_has_22 : decode cX7_has 22 = .ok (.iconst 1, 1) := by decide +kernel
theorem dX7_has_23 : decode cX7_has 23 = .ok (.iconst 1, 1) := by decide +kernel
theorem dX7_has_24 : decode cX7_has 24 = .ok (.invokevirtual 105, 3) := by decide +kernel
theorem dX7_has_27 : decode cX7_has 27 = .ok (.ifCond .ne 5, 3) := by decide +kernel
theorem dX7_has_30 : decode cX7_has 30 = .ok (.iconst 0, 1) := by decide +kernel
theorem dX7_has_31 : decode cX7_has 31 = .ok (.ireturn, 1) := by decide +kernel
theorem dX7_has_32 : decode cX7_has 32 = .ok (.aload_n 0, 1) := by decide +kernel
theorem dX7_has_33 : decode cX7_has 33 = .ok (.getfield 35, 3) := by decide +kernel
theorem dX7_has_36 : decode cX7_has 36 = .ok (.iload_n 1, 1) := by decide +kernel
theorem dX7_has_37 : decode cX7_has 37 = .ok (.iaload, 1) := by decide +kernel
theorem dX7_has_38 : decode cX7_has 38 = .ok (.iconst (-1), 1) := by decide +kernel
theorem dX7_has_39 : decode cX7_has 39 = .ok (.if_icmp .ne 21, 3) := by decide +kernel
theorem dX7_has_42 : decode cX7_has 42 = .ok (.aload_n 0, 1) := by decide +kernel
theorem dX7_has_43 : decode cX7_has 43 = .ok (.getfield 22, 3) := by decide +kernel
theorem dX7_has_46 : decode cX7_has 46 = .ok (.aload_n 0, 1) := by decide +kernel
theorem dX7_has_47 : decode cX7_has 47 = .ok (.getfield 32, 3) := by decide +kernel
theorem dX7_has_50 : decode cX7_has 50 = .ok (.iload_n 1, 1) := by decide +kernel
theorem dX7_has_51 : decode cX7_has 51 = .ok (.iaload, 1) := by decide +kernel
theorem dX7_has_52 : decode cX7_has 52 = .ok (.iload_n 2, 1) := by decide +kernel
theorem dX7_has_53 : decode cX7_has 53 = .ok (.invokestatic 116, 3) := by decide +kernel
theorem dX7_has_56 : decode cX7_has 56 = .ok (.iaload, 1) := by decide +kernel
theorem dX7_has_57 : decode cX7_has 57 = .ok (.goto 14, 3) := by decide +kernel
theorem dX7_has_60 : decode cX7_has 60 = .ok (.aload_n 0, 1) := by decide +kernel
theorem dX7_has_61 : decode cX7_has 61 = .ok (.getfield 38, 3) := by decide +kernel
theorem dX7_has_64 : decode cX7_has 64 = .ok (.bipush 12, 2) := by decide +kernel
theorem dX7_has_66 : decode cX7_has 66 = .ok (.iload_n 1, 1) := by decide +kernel
theorem dX7_has_67 : decode cX7_has 67 = .ok (.imul, 1) := by decide +kernel
theorem dX7_has_68 : decode cX7_has 68 = .ok (.iload_n 2, 1) := by decide +kernel
theorem dX7_has_69 : decode cX7_has 69 = .ok (.iadd, 1) := by decide +kernel
theorem dX7_has_70 : decode cX7_has 70 = .ok (.iaload, 1) := by decide +kernel
theorem dX7_has_71 : decode cX7_has 71 = .ok (.ireturn, 1) := by decide +kernel
theorem dX7_owed_0 : decode cX7_owed 0 = .ok (.aload_n 0, 1) := by decide +kernel
theorem dX7_owed_1 : decode cX7_owed 1 = .ok (.aload_n 0, 1) := by decide +kernel
theorem dX7_owed_2 : decode cX7_owed 2 = .ok (.iload_n 1, 1) := by decide +kernel
theorem dX7_owed_3 : decode cX7_owed 3 = .ok (.invokevirtual 126, 3) := by decide +kernel
theorem dX7_owed_6 : decode cX7_owed 6 = .ok (.iconst 1, 1) := by decide +kernel
theorem dX7_owed_7 : decode cX7_owed 7 = .ok (.iconst 1, 1) := by decide +kernel
theorem dX7_owed_8 : decode cX7_owed 8 = .ok (.invokevirtual 105, 3) := by decide +kernel
theorem dX7_owed_11 : decode cX7_owed 11 = .ok (.ifCond .eq 11, 3) := by decide +kernel
theorem dX7_owed_14 : decode cX7_owed 14 = .ok (.aload_n 0, 1) := by decide +kernel
theorem dX7_owed_15 : decode cX7_owed 15 = .ok (.iload_n 1, 1) := by decide +kernel
theorem dX7_owed_16 : decode cX7_owed 16 = .ok (.invokevirtual 144, 3) := by decide +kernel
theorem dX7_owed_19 : decode cX7_owed 19 = .ok (.goto 4, 3) := by decide +kernel
theorem dX7_owed_22 : decode cX7_owed 22 = .ok (.iconst 0, 1) := by decide +kernel
theorem dX7_owed_23 : decode cX7_owed 23 = .ok (.ireturn, 1) := by decide +kernel
theorem dX7_markOf_0 : decode cX7_markOf 0 = .ok (.iload_n 1, 1) := by decide +kernel
theorem dX7_markOf_1 : decode cX7_markOf 1 = .ok (.iconst 0, 1) := by decide +kernel
theorem dX7_markOf_2 : decode cX7_markOf 2 = .ok (.iconst 5, 1) := by decide +kernel
theorem dX7_markOf_3 : decode cX7_markOf 3 = .ok (.invokestatic 95, 3) := by decide +kernel
theorem dX7_markOf_6 : decode cX7_markOf 6 = .ok (.ifCond .eq 22, 3) := by decide +kernel
theorem dX7_markOf_9 : decode cX7_markOf 9 = .ok (.iload_n 2, 1) := by decide +kernel
theorem dX7_markOf_10 : decode cX7_markOf 10 = .ok (.invokestatic 109, 3) := by decide +kernel
theorem dX7_markOf_13 : decode cX7_markOf 13 = .ok (.ifCond .eq 15, 3) := by decide +kernel
theorem dX7_markOf_16 : decode cX7_markOf 16 = .ok (.aload_n 0, 1) := by decide +kernel
theorem dX7_markOf_17 : decode cX7_markOf 17 = .ok (.iload_n 3, 1) := by decide +kernel
theorem dX7_markOf_18 : decode cX7_markOf 18 = .ok (.invokevirtual 113, 3) := by decide +kernel
theorem dX7_markOf_21 : decode cX7_markOf 21 = .ok (.ifCond .eq 7, 3) := by decide +kernel
theorem dX7_markOf_24 : decode cX7_markOf 24 = .ok (.iconst 1, 1) := by decide +kernel
theorem dX7_markOf_25 : decode cX7_markOf 25 = .ok (.goto 4, 3) := by decide +kernel
theorem dX7_markOf_28 : decode cX7_markOf 28 = .ok (.iconst 0, 1) := by decide +kernel
theorem dX7_markOf_29 : decode cX7_markOf 29 = .ok (.istore 4, 2) := by decide +kernel
theorem dX7_markOf_31 : decode cX7_markOf 31 = .ok (.aload_n 0, 1) := by decide +kernel
theorem dX7_markOf_32 : decode cX7_markOf 32 = .ok (.iload 4, 2) := by decide +kernel
theorem dX7_markOf_34 : decode cX7_markOf 34 = .ok (.iconst 1, 1) := by decide +kernel
theorem dX7_markOf_35 : decode cX7_markOf 35 = .ok (.iconst 1, 1) := by decide +kernel
theorem dX7_markOf_36 : decode cX7_markOf 36 = .ok (.invokevirtual 105, 3) := by decide +kernel
theorem dX7_markOf_39 : decode cX7_markOf 39 = .ok (.ifCond .eq 21, 3) := by decide +kernel
theorem dX7_markOf_42 : decode cX7_markOf 42 = .ok (.aload_n 0, 1) := by decide +kernel
theorem dX7_markOf_43 : decode cX7_markOf 43 = .ok (.getfield 41, 3) := by decide +kernel
theorem dX7_markOf_46 : decode cX7_markOf 46 = .ok (.bipush 60, 2) := by decide +kernel
theorem dX7_markOf_48 : decode cX7_markOf 48 = .ok (.iload_n 1, 1) := by decide +kernel
theorem dX7_markOf_49 : decode cX7_markOf 49 = .ok (.imul, 1) := by decide +kernel
theorem dX7_markOf_50 : decode cX7_markOf 50 = .ok (.iload_n 2, 1) := by decide +kernel
theorem dX7_markOf_51 : decode cX7_markOf 51 = .ok (.iload_n 3, 1) := by decide +kernel
theorem dX7_markOf_52 : decode cX7_markOf 52 = .ok (.invokestatic 116, 3) := by decide +kernel
theorem dX7_markOf_55 : decode cX7_markOf 55 = .ok (.iadd, 1) := by decide +kernel
theorem dX7_markOf_56 : decode cX7_markOf 56 = .ok (.iaload, 1) := by decide +kernel
theorem dX7_markOf_57 : decode cX7_markOf 57 = .ok (.goto 4, 3) := by decide +kernel
theorem dX7_markOf_60 : decode cX7_markOf 60 = .ok (.iconst 0, 1) := by decide +kernel
theorem dX7_markOf_61 : decode cX7_markOf 61 = .ok (.ireturn, 1) := by decide +kernel
theorem dX7_oldMarks_0 : decode cX7_oldMarks 0 = .ok (.iconst 0, 1) := by decide +kernel
theorem dX7_oldMarks_1 : decode cX7_oldMarks 1 = .ok (.istore_n 2, 1) := by decide +kernel
theorem dX7_oldMarks_2 : decode cX7_oldMarks 2 = .ok (.aload_n 0, 1) := by decide +kernel
theorem dX7_oldMarks_3 : decode cX7_oldMarks 3 = .ok (.iload_n 1, 1) := by decide +kernel
theorem dX7_oldMarks_4 : decode cX7_oldMarks 4 = .ok (.iconst 0, 1) := by decide +kernel
theorem dX7_oldMarks_5 : decode cX7_oldMarks 5 = .ok (.iconst 5, 1) := by decide +kernel
theorem dX7_oldMarks_6 : decode cX7_oldMarks 6 = .ok (.invokestatic 95, 3) := by decide +kernel
theorem dX7_oldMarks_9 : decode cX7_oldMarks 9 = .ok (.iconst 1, 1) := by decide +kernel
theorem dX7_oldMarks_10 : decode cX7_oldMarks 10 = .ok (.iconst 1, 1) := by decide +kernel
theorem dX7_oldMarks_11 : decode cX7_oldMarks 11 = .ok (.invokevirtual 105, 3) := by decide +kernel
theorem dX7_oldMarks_14 : decode cX7_oldMarks 14 = .ok (.istore_n 3, 1) := by decide +kernel
theorem dX7_oldMarks_15 : decode cX7_oldMarks 15 = .ok (.iconst 0, 1) := by decide +kernel
theorem dX7_oldMarks_16 : decode cX7_oldMarks 16 = .ok (.istore 4, 2) := by decide +kernel
theorem dX7_oldMarks_18 : decode cX7_oldMarks 18 = .ok (.iload_n 3, 1) := by decide +kernel
theorem dX7_oldMarks_19 : decode cX7_oldMarks 19 = .ok (.ifCond .eq 61, 3) := by decide +kernel
theorem dX7_oldMarks_22 : decode cX7_oldMarks 22 = .ok (.iload 4, 2) := by decide +kernel
theorem dX7_oldMarks_24 : decode cX7_oldMarks 24 = .ok (.bipush 60, 2) := by decide +kernel
theorem dX7_oldMarks_26 : decode cX7_oldMarks 26 = .ok (.if_icmp .ge 54, 3) := by decide +kernel
theorem dX7_oldMarks_29 : decode cX7_oldMarks 29 = .ok (.iload_n 2, 1) := by decide +kernel
theorem dX7_oldMarks_30 : decode cX7_oldMarks 30 = .ok (.aload_n 0, 1) := by decide +kernel
theorem dX7_oldMarks_31 : decode cX7_oldMarks 31 = .ok (.getfield 41, 3) := by decide +kernel
theorem dX7_oldMarks_34 : decode cX7_oldMarks 34 = .ok (.bipush 60, 2) := by decide +kernel
theorem dX7_oldMarks_36 : decode cX7_oldMarks 36 = .ok (.iload_n 1, 1) := by decide +kernel
theorem dX7_oldMarks_37 : decode cX7_oldMarks 37 = .ok (.imul, 1) := by decide +kernel
theorem dX7_oldMarks_38 : decode cX7_oldMarks 38 = .ok (.iload 4, 2) := by decide +kernel
theorem dX7_oldMarks_40 : decode cX7_oldMarks 40 = .ok (.iadd, 1) := by decide +kernel
theorem dX7_oldMarks_41 : decode cX7_oldMarks 41 = .ok (.iaload, 1) := by decide +kernel
theorem dX7_oldMarks_42 : decode cX7_oldMarks 42 = .ok (.ifCond .le 29, 3) := by decide +kernel
theorem dX7_oldMarks_45 : decode cX7_oldMarks 45 = .ok (.aload_n 0, 1) := by decide +kernel
theorem dX7_oldMarks_46 : decode cX7_oldMarks 46 = .ok (.getfield 44, 3) := by decide +kernel
theorem dX7_oldMarks_49 : decode cX7_oldMarks 49 = .ok (.bipush 60, 2) := by decide +kernel
theorem dX7_oldMarks_51 : decode cX7_oldMarks 51 = .ok (.iload_n 1, 1) := by decide +kernel
theorem dX7_oldMarks_52 : decode cX7_oldMarks 52 = .ok (.imul, 1) := by decide +kernel
theorem dX7_oldMarks_53 : decode cX7_oldMarks 53 = .ok (.iload 4, 2) := by decide +kernel
theorem dX7_oldMarks_55 : decode cX7_oldMarks 55 = .ok (.iadd, 1) := by decide +kernel
theorem dX7_oldMarks_56 : decode cX7_oldMarks 56 = .ok (.iaload, 1) := by decide +kernel
theorem dX7_oldMarks_57 : decode cX7_oldMarks 57 = .ok (.aload_n 0, 1) := by decide +kernel
theorem dX7_oldMarks_58 : decode cX7_oldMarks 58 = .ok (.getfield 22, 3) := by decide +kernel
theorem dX7_oldMarks_61 : decode cX7_oldMarks 61 = .ok (.iload 4, 2) := by decide +kernel
theorem dX7_oldMarks_63 : decode cX7_oldMarks 63 = .ok (.iaload, 1) := by decide +kernel
theorem dX7_oldMarks_64 : decode cX7_oldMarks 64 = .ok (.if_icmp .eq 7, 3) := by decide +kernel
theorem dX7_oldMarks_67 : decode cX7_oldMarks 67 = .ok (.iconst 1, 1) := by decide +kernel
theorem dX7_oldMarks_68 : decode cX7_oldMarks 68 = .ok (.goto 4, 3) := by decide +kernel
theorem dX7_oldMarks_71 : decode cX7_oldMarks 71 = .ok (.iconst 0, 1) := by decide +kernel
theorem dX7_oldMarks_72 : decode cX7_oldMarks 72 = .ok (.iadd, 1) := by decide +kernel
theorem dX7_oldMarks_73 : decode cX7_oldMarks 73 = .ok (.istore_n 2, 1) := by decide +kernel
theorem dX7_oldMarks_74 : decode cX7_oldMarks 74 = .ok (.iinc 4 1, 3) := by decide +kernel
theorem dX7_oldMarks_77 : decode cX7_oldMarks 77 = .ok (.goto (-59), 3) := by decide +kernel
theorem dX7_oldMarks_80 : decode cX7_oldMarks 80 = .ok (.iload_n 2, 1) := by decide +kernel
theorem dX7_oldMarks_81 : decode cX7_oldMarks 81 = .ok (.ireturn, 1) := by decide +kernel
theorem dX7_clashes_0 : decode cX7_clashes 0 = .ok (.iconst 0, 1) := by decide +kernel
theorem dX7_clashes_1 : decode cX7_clashes 1 = .ok (.istore_n 2, 1) := by decide +kernel
theorem dX7_clashes_2 : decode cX7_clashes 2 = .ok (.aload_n 0, 1) := by decide +kernel
theorem dX7_clashes_3 : decode cX7_clashes 3 = .ok (.iload_n 1, 1) := by decide +kernel
theorem dX7_clashes_4 : decode cX7_clashes 4 = .ok (.invokestatic 109, 3) := by decide +kernel
theorem dX7_clashes_7 : decode cX7_clashes 7 = .ok (.iconst 1, 1) := by decide +kernel
theorem dX7_clashes_8 : decode cX7_clashes 8 = .ok (.iconst 1, 1) := by decide +kernel
theorem dX7_clashes_9 : decode cX7_clashes 9 = .ok (.invokevirtual 105, 3) := by decide +kernel
theorem dX7_clashes_12 : decode cX7_clashes 12 = .ok (.istore_n 3, 1) := by decide +kernel
theorem dX7_clashes_13 : decode cX7_clashes 13 = .ok (.iconst 0, 1) := by decide +kernel
theorem dX7_clashes_14 : decode cX7_clashes 14 = .ok (.istore 4, 2) := by decide +kernel
theorem dX7_clashes_16 : decode cX7_clashes 16 = .ok (.iload_n 3, 1) := by decide +kernel
theorem dX7_clashes_17 : decode cX7_clashes 17 = .ok (.ifCond .eq 114, 3) := by decide +kernel
theorem dX7_clashes_20 : decode cX7_clashes 20 = .ok (.iload 4, 2) := by decide +kernel
theorem dX7_clashes_22 : decode cX7_clashes 22 = .ok (.aload_n 0, 1) := by decide +kernel
theorem dX7_clashes_23 : decode cX7_clashes 23 = .ok (.getfield 99, 3) := by decide +kernel
theorem dX7_clashes_26 : decode cX7_clashes 26 = .ok (.if_icmp .ge 105, 3) := by decide +kernel
theorem dX7_clashes_29 : decode cX7_clashes 29 = .ok (.iload_n 1, 1) := by decide +kernel
theorem dX7_clashes_30 : decode cX7_clashes 30 = .ok (.iload 4, 2) := by decide +kernel
theorem dX7_clashes_32 : decode cX7_clashes 32 = .ok (.invokestatic 116, 3) := by decide +kernel
theorem dX7_clashes_35 : decode cX7_clashes 35 = .ok (.istore 5, 2) := by decide +kernel
theorem dX7_clashes_37 : decode cX7_clashes 37 = .ok (.iconst 0, 1) := by decide +kernel
theorem dX7_clashes_38 : decode cX7_clashes 38 = .ok (.istore 6, 2) := by decide +kernel
theorem dX7_clashes_40 : decode cX7_clashes 40 = .ok (.iload 6, 2) := by decide +kernel
theorem dX7_clashes_42 : decode cX7_clashes 42 = .ok (.aload_n 0, 1) := by decide +kernel
theorem dX7_clashes_43 : decode cX7_clashes 43 = .ok (.getfield 19, 3) := by decide +kernel
theorem dX7_clashes_46 : decode cX7_clashes 46 = .ok (.iload 5, 2) := by decide +kernel
theorem dX7_clashes_48 : decode cX7_clashes 48 = .ok (.iaload, 1) := by decide +kernel
theorem dX7_clashes_49 : decode cX7_clashes 49 = .ok (.if_icmp .ge 76, 3) := by decide +kernel
theorem dX7_clashes_52 : decode cX7_clashes 52 = .ok (.iconst 0, 1) := by decide +kernel
theorem dX7_clashes_53 : decode cX7_clashes 53 = .ok (.istore 7, 2) := by decide +kernel
theorem dX7_clashes_55 : decode cX7_clashes 55 = .ok (.iload 7, 2) := by decide +kernel
theorem dX7_clashes_57 : decode cX7_clashes 57 = .ok (.bipush 6, 2) := by decide +kernel
theorem dX7_clashes_59 : decode cX7_clashes 59 = .ok (.if_icmp .ge 60, 3) := by decide +kernel
theorem dX7_clashes_62 : decode cX7_clashes 62 = .ok (.aload_n 0, 1) := by decide +kernel
theorem dX7_clashes_63 : decode cX7_clashes 63 = .ok (.iload 7, 2) := by decide +kernel
theorem dX7_clashes_65 : decode cX7_clashes 65 = .ok (.iload 5, 2) := by decide +kernel
theorem dX7_clashes_67 : decode cX7_clashes 67 = .ok (.iload 6, 2) := by decide +kernel
theorem dX7_clashes_69 : decode cX7_clashes 69 = .ok (.invokevirtual 148, 3) := by decide +kernel
theorem dX7_clashes_72 : decode cX7_clashes 72 = .ok (.istore 8, 2) := by decide +kernel
theorem dX7_clashes_74 : decode cX7_clashes 74 = .ok (.aload_n 0, 1) := by decide +kernel
theorem dX7_clashes_75 : decode cX7_clashes 75 = .ok (.iload 7, 2) := by decide +kernel
theorem dX7_clashes_77 : decode cX7_clashes 77 = .ok (.iconst 1, 1) := by decide +kernel
theorem dX7_clashes_78 : decode cX7_clashes 78 = .ok (.iadd, 1) := by decide +kernel
theorem dX7_clashes_79 : decode cX7_clashes 79 = .ok (.iload 5, 2) := by decide +kernel
theorem dX7_clashes_81 : decode cX7_clashes 81 = .ok (.iload 6, 2) := by decide +kernel
theorem dX7_clashes_83 : decode cX7_clashes 83 = .ok (.invokevirtual 148, 3) := by decide +kernel
theorem dX7_clashes_86 : decode cX7_clashes 86 = .ok (.istore 9, 2) := by decide +kernel
theorem dX7_clashes_88 : decode cX7_clashes 88 = .ok (.iload_n 2, 1) := by decide +kernel
theorem dX7_clashes_89 : decode cX7_clashes 89 = .ok (.iload 8, 2) := by decide +kernel
theorem dX7_clashes_91 : decode cX7_clashes 91 = .ok (.ifCond .le 19, 3) := by decide +kernel
theorem dX7_clashes_94 : decode cX7_clashes 94 = .ok (.iload 9, 2) := by decide +kernel
theorem dX7_clashes_96 : decode cX7_clashes 96 = .ok (.ifCond .le 14, 3) := by decide +kernel
theorem dX7_clashes_99 : decode cX7_clashes 99 = .ok (.iload 8, 2) := by decide +kernel
theorem dX7_clashes_101 : decode cX7_clashes 101 = .ok (.iload 9, 2) := by decide +kernel
theorem dX7_clashes_103 : decode cX7_clashes 103 = .ok (.if_icmp .eq 7, 3) := by decide +kernel
theorem dX7_clashes_106 : decode cX7_clashes 106 = .ok (.iconst 1, 1) := by decide +kernel
theorem dX7_clashes_107 : decode cX7_clashes 107 = .ok (.goto 4, 3) := by decide +kernel
theorem dX7_clashes_110 : decode cX7_clashes 110 = .ok (.iconst 0, 1) := by decide +kernel
theorem dX7_clashes_111 : decode cX7_clashes 111 = .ok (.iadd, 1) := by decide +kernel
theorem dX7_clashes_112 : decode cX7_clashes 112 = .ok (.istore_n 2, 1) := by decide +kernel
theorem dX7_clashes_113 : decode cX7_clashes 113 = .ok (.iinc 7 2, 3) := by decide +kernel
theorem dX7_clashes_116 : decode cX7_clashes 116 = .ok (.goto (-61), 3) := by decide +kernel
theorem dX7_clashes_119 : decode cX7_clashes 119 = .ok (.iinc 6 1, 3) := by decide +kernel
theorem dX7_clashes_122 : decode cX7_clashes 122 = .ok (.goto (-82), 3) := by decide +kernel
theorem dX7_clashes_125 : decode cX7_clashes 125 = .ok (.iinc 4 1, 3) := by decide +kernel
theorem dX7_clashes_128 : decode cX7_clashes 128 = .ok (.goto (-112), 3) := by decide +kernel
theorem dX7_clashes_131 : decode cX7_clashes 131 = .ok (.iload_n 2, 1) := by decide +kernel
theorem dX7_clashes_132 : decode cX7_clashes 132 = .ok (.ireturn, 1) := by decide +kernel
theorem dX7_concerts_0 : decode cX7_concerts 0 = .ok (.aload_n 0, 1) := by decide +kernel
theorem dX7_concerts_1 : decode cX7_concerts 1 = .ok (.iconst 0, 1) := by decide +kernel
theorem dX7_concerts_2 : decode cX7_concerts 2 = .ok (.putfield 92, 3) := by decide +kernel
theorem dX7_concerts_5 : decode cX7_concerts 5 = .ok (.aload_n 0, 1) := by decide +kernel
theorem dX7_concerts_6 : decode cX7_concerts 6 = .ok (.getfield 152, 3) := by decide +kernel
theorem dX7_concerts_9 : decode cX7_concerts 9 = .ok (.ireturn, 1) := by decide +kernel
