theorem dL_cell_0 : decode cL_cell 0 = .ok (.iload_n 1, 1) := by decide +kernel
theorem dL_cell_1 : decode cL_cell 1 = .ok (.aload_n 0, 1) := by decide +kernel
theorem dL_cell_2 : decode cL_cell 2 = .ok (.arraylength, 1) := by decide +kernel
theorem dL_cell_3 : decode cL_cell 3 = .ok (.if_icmp .ge 9, 3) := by decide +kernel
theorem dL_cell_6 : decode cL_cell 6 = .ok (.aload_n 0, 1) := by decide +kernel
theorem dL_cell_7 : decode cL_cell 7 = .ok (.iload_n 1, 1) := by decide +kernel
theorem dL_cell_8 : decode cL_cell 8 = .ok (.iaload, 1) := by decide +kernel
theorem dL_cell_9 : decode cL_cell 9 = .ok (.goto 12, 3) := by decide +kernel
theorem dL_cell_12 : decode cL_cell 12 = .ok (.ldc 7, 2) := by decide +kernel
theorem dL_cell_14 : decode cL_cell 14 = .ok (.iload_n 1, 1) := by decide +kernel
theorem dL_cell_15 : decode cL_cell 15 = .ok (.iconst 5, 1) := by decide +kernel
theorem dL_cell_16 : decode cL_cell 16 = .ok (.iadd, 1) := by decide +kernel
theorem dL_cell_17 : decode cL_cell 17 = .ok (.imul, 1) := by decide +kernel
theorem dL_cell_18 : decode cL_cell 18 = .ok (.ldc 8, 2) := by decide +kernel
theorem dL_cell_20 : decode cL_cell 20 = .ok (.iadd, 1) := by decide +kernel
theorem dL_cell_21 : decode cL_cell 21 = .ok (.ireturn, 1) := by decide +kernel
theorem dL_some_0 : decode cL_some 0 = .ok (.iload_n 0, 1) := by decide +kernel
theorem dL_some_1 : decode cL_some 1 = .ok (.ldc 9, 2) := by decide +kernel
theorem dL_some_3 : decode cL_some 3 = .ok (.iand, 1) := by decide +kernel
theorem dL_some_4 : decode cL_some 4 = .ok (.iload_n 1, 1) := by decide +kernel
theorem dL_some_5 : decode cL_some 5 = .ok (.irem, 1) := by decide +kernel
theorem dL_some_6 : decode cL_some 6 = .ok (.ireturn, 1) := by decide +kernel
theorem dL_number_0 : decode cL_number 0 = .ok (.iload_n 1, 1) := by decide +kernel
theorem dL_number_1 : decode cL_number 1 = .ok (.bipush 10, 2) := by decide +kernel
theorem dL_number_3 : decode cL_number 3 = .ok (.if_icmp .lt 19, 3) := by decide +kernel
theorem dL_number_6 : decode cL_number 6 = .ok (.aload_n 0, 1) := by decide +kernel
theorem dL_number_7 : decode cL_number 7 = .ok (.iconst 1, 1) := by decide +kernel
theorem dL_number_8 : decode cL_number 8 = .ok (.bipush 48, 2) := by decide +kernel
theorem dL_number_10 : decode cL_number 10 = .ok (.iload_n 1, 1) := by decide +kernel
theorem dL_number_11 : decode cL_number 11 = .ok (.bipush 10, 2) := by decide +kernel
theorem dL_number_13 : decode cL_number 13 = .ok (.idiv, 1) := by decide +kernel
theorem dL_number_14 : decode cL_number 14 = .ok (.iadd, 1) := by decide +kernel
theorem dL_number_15 : decode cL_number 15 = .ok (.i2l, 1) := by decide +kernel
theorem dL_number_16 : decode cL_number 16 = .ok (.invokevirtual 10, 3) := by decide +kernel
theorem dL_number_19 : decode cL_number 19 = .ok (.ifCond .le 33, 3) := by decide +kernel
theorem dL_number_22 : decode cL_number 22 = .ok (.aload_n 0, 1) := by decide +kernel
theorem dL_number_23 : decode cL_number 23 = .ok (.iconst 1, 1) := by decide +kernel
theorem dL_number_24 : decode cL_number 24 = .ok (.bipush 48, 2) := by decide +kernel
theorem dL_number_26 : decode cL_number 26 = .ok (.iload_n 1, 1) := by decide +kernel
theorem dL_number_27 : decode cL_number 27 = .ok (.bipush 10, 2) := by decide +kernel
theorem dL_number_29 : decode cL_number 29 = .ok (.irem, 1) := by decide +kernel
theorem dL_number_30 : decode cL_number 30 = .ok (.iadd, 1) := by decide +kernel
theorem dL_number_31 : decode cL_number 31 = .ok (.i2l, 1) := by decide +kernel
theorem dL_number_32 : decode cL_number 32 = .ok (.invokevirtual 10, 3) := by decide +kernel
theorem dL_number_35 : decode cL_number 35 = .ok (.ifCond .le 17, 3) := by decide +kernel
theorem dL_number_38 : decode cL_number 38 = .ok (.aload_n 0, 1) := by decide +kernel
theorem dL_number_39 : decode cL_number 39 = .ok (.iconst 1, 1) := by decide +kernel
theorem dL_number_40 : decode cL_number 40 = .ok (.iload_n 2, 1) := by decide +kernel
theorem dL_number_41 : decode cL_number 41 = .ok (.i2l, 1) := by decide +kernel
theorem dL_number_42 : decode cL_number 42 = .ok (.invokevirtual 10, 3) := by decide +kernel
theorem dL_number_45 : decode cL_number 45 = .ok (.ifCond .le 7, 3) := by decide +kernel
theorem dL_number_48 : decode cL_number 48 = .ok (.iconst 1, 1) := by decide +kernel
theorem dL_number_49 : decode cL_number 49 = .ok (.goto 4, 3) := by decide +kernel
theorem dL_number_52 : decode cL_number 52 = .ok (.iconst 0, 1) := by decide +kernel
theorem dL_number_53 : decode cL_number 53 = .ok (.ireturn, 1) := by decide +kernel
theorem dL_one_0 : decode cL_one 0 = .ok (.aload_n 0, 1) := by decide +kernel
theorem dL_one_1 : decode cL_one 1 = .ok (.iconst 1, 1) := by decide +kernel
theorem dL_one_2 : decode cL_one 2 = .ok (.iload_n 1, 1) := by decide +kernel
theorem dL_one_3 : decode cL_one 3 = .ok (.i2l, 1) := by decide +kernel
theorem dL_one_4 : decode cL_one 4 = .ok (.invokevirtual 10, 3) := by decide +kernel
theorem dL_one_7 : decode cL_one 7 = .ok (.ifCond .le 17, 3) := by decide +kernel
theorem dL_one_10 : decode cL_one 10 = .ok (.aload_n 0, 1) := by decide +kernel
theorem dL_one_11 : decode cL_one 11 = .ok (.iload_n 2, 1) := by decide +kernel
theorem dL_one_12 : decode cL_one 12 = .ok (.bipush 59, 2) := by decide +kernel
theorem dL_one_14 : decode cL_one 14 = .ok (.invokestatic 16, 3) := by decide +kernel
theorem dL_one_17 : decode cL_one 17 = .ok (.ifCond .eq 7, 3) := by decide +kernel
theorem dL_one_20 : decode cL_one 20 = .ok (.iconst 1, 1) := by decide +kernel
theorem dL_one_21 : decode cL_one 21 = .ok (.goto 4, 3) := by decide +kernel
theorem dL_one_24 : decode cL_one 24 = .ok (.iconst 0, 1) := by decide +kernel
theorem dL_one_25 : decode cL_one 25 = .ok (.ireturn, 1) := by decide +kernel
theorem dL_two_0 : decode cL_two 0 = .ok (.aload_n 0, 1) := by decide +kernel
theorem dL_two_1 : decode cL_two 1 = .ok (.iconst 1, 1) := by decide +kernel
theorem dL_two_2 : decode cL_two 2 = .ok (.iload_n 1, 1) := by decide +kernel
theorem dL_two_3 : decode cL_two 3 = .ok (.i2l, 1) := by decide +kernel
theorem dL_two_4 : decode cL_two 4 = .ok (.invokevirtual 10, 3) := by decide +kernel
theorem dL_two_7 : decode cL_two 7 = .ok (.ifCond .le 27, 3) := by decide +kernel
theorem dL_two_10 : decode cL_two 10 = .ok (.aload_n 0, 1) := by decide +kernel
theorem dL_two_11 : decode cL_two 11 = .ok (.iload_n 2, 1) := by decide +kernel
theorem dL_two_12 : decode cL_two 12 = .ok (.bipush 44, 2) := by decide +kernel
theorem dL_two_14 : decode cL_two 14 = .ok (.invokestatic 16, 3) := by decide +kernel
theorem dL_two_17 : decode cL_two 17 = .ok (.ifCond .eq 17, 3) := by decide +kernel
theorem dL_two_20 : decode cL_two 20 = .ok (.aload_n 0, 1) := by decide +kernel
theorem dL_two_21 : decode cL_two 21 = .ok (.iload_n 3, 1) := by decide +kernel
theorem dL_two_22 : decode cL_two 22 = .ok (.bipush 59, 2) := by decide +kernel
theorem dL_two_24 : decode cL_two 24 = .ok (.invokestatic 16, 3) := by decide +kernel
theorem dL_two_27 : decode cL_two 27 = .ok (.ifCond .eq 7, 3) := by decide +kernel
theorem dL_two_30 : decode cL_two 30 = .ok (.iconst 1, 1) := by decide +kernel
theorem dL_two_31 : decode cL_two 31 = .ok (.goto 4, 3) := by decide +kernel
theorem dL_two_34 : decode cL_two 34 = .ok (.iconst 0, 1) := by decide +kernel
theorem dL_two_35 : decode cL_two 35 = .ok (.ireturn, 1) := by decide +kernel
theorem dL_book_0 : decode cL_book 0 = .ok (.aload_n 1, 1) := by decide +kernel
theorem dL_book_1 : decode cL_book 1 = .ok (.iload_n 2, 1) := by decide +kernel
theorem dL_book_2 : decode cL_book 2 = .ok (.invokestatic 22, 3) := by decide +kernel
theorem dL_book_5 : decode cL_book 5 = .ok (.istore 4, 2) := by decide +kernel
theorem dL_book_7 : decode cL_book 7 = .ok (.aload_n 3, 1) := by decide +kernel
theorem dL_book_8 : decode cL_book 8 = .ok (.iconst 0, 1) := by decide +kernel
theorem dL_book_9 : decode cL_book 9 = .ok (.iconst 2, 1) := by decide +kernel
theorem dL_book_10 : decode cL_book 10 = .ok (.iload 4, 2) := by decide +kernel
theorem dL_book_12 : decode cL_book 12 = .ok (.bipush 8, 2) := by decide +kernel
theorem dL_book_14 : decode cL_book 14 = .ok (.invokestatic 26, 3) := by decide +kernel
theorem dL_book_17 : decode cL_book 17 = .ok (.iadd, 1) := by decide +kernel
theorem dL_book_18 : decode cL_book 18 = .ok (.iastore, 1) := by decide +kernel
theorem dL_book_19 : decode cL_book 19 = .ok (.aload_n 3, 1) := by decide +kernel
theorem dL_book_20 : decode cL_book 20 = .ok (.iconst 1, 1) := by decide +kernel
theorem dL_book_21 : decode cL_book 21 = .ok (.iconst 1, 1) := by decide +kernel
theorem dL_book_22 : decode cL_book 22 = .ok (.iload 4, 2) := by decide +kernel
theorem dL_book_24 : decode cL_book 24 = .ok (.iconst 3, 1) := by decide +kernel
theorem dL_book_25 : decode cL_book 25 = .ok (.ishr, 1) := by decide +kernel
theorem dL_book_26 : decode cL_book 26 = .ok (.bipush 8, 2) := by decide +kernel
theorem dL_book_28 : decode cL_book 28 = .ok (.invokestatic 26, 3) := by decide +kernel
theorem dL_book_31 : decode cL_book 31 = .ok (.iadd, 1) := by decide +kernel
theorem dL_book_32 : decode cL_book 32 = .ok (.iastore, 1) := by decide +kernel
theorem dL_book_33 : decode cL_book 33 = .ok (.aload_n 3, 1) := by decide +kernel
theorem dL_book_34 : decode cL_book 34 = .ok (.iconst 2, 1) := by decide +kernel
theorem dL_book_35 : decode cL_book 35 = .ok (.iload 4, 2) := by decide +kernel
theorem dL_book_37 : decode cL_book 37 = .ok (.bipush 6, 2) := by decide +kernel
theorem dL_book_39 : decode cL_book 39 = .ok (.ishr, 1) := by decide +kernel
theorem dL_book_40 : decode cL_book 40 = .ok (.iconst 3, 1) := by decide +kernel
theorem dL_book_41 : decode cL_book 41 = .ok (.iand, 1) := by decide +kernel
theorem dL_book_42 : decode cL_book 42 = .ok (.iastore, 1) := by decide +kernel
theorem dL_book_43 : decode cL_book 43 = .ok (.aload_n 3, 1) := by decide +kernel
theorem dL_book_44 : decode cL_book 44 = .ok (.iconst 3, 1) := by decide +kernel
theorem dL_book_45 : decode cL_book 45 = .ok (.iload 4, 2) := by decide +kernel
theorem dL_book_47 : decode cL_book 47 = .ok (.bipush 8, 2) := by decide +kernel
theorem dL_book_49 : decode cL_book 49 = .ok (.ishr, 1) := by decide +kernel
theorem dL_book_50 : decode cL_book 50 = .ok (.iload 4, 2) := by decide +kernel
theorem dL_book_52 : decode cL_book 52 = .ok (.ldc 30, 2) := by decide +kernel
theorem dL_book_54 : decode cL_book 54 = .ok (.iand, 1) := by decide +kernel
theorem dL_book_55 : decode cL_book 55 = .ok (.ifCond .ne 9, 3) := by decide +kernel
theorem dL_book_58 : decode cL_book 58 = .ok (.aload_n 3, 1) := by decide +kernel
theorem dL_book_59 : decode cL_book 59 = .ok (.iconst 0, 1) := by decide +kernel
theorem dL_book_60 : decode cL_book 60 = .ok (.iaload, 1) := by decide +kernel
theorem dL_book_61 : decode cL_book 61 = .ok (.goto 5, 3) := by decide +kernel
theorem dL_book_64 : decode cL_book 64 = .ok (.bipush 12, 2) := by decide +kernel
theorem dL_book_66 : decode cL_book 66 = .ok (.invokestatic 26, 3) := by decide +kernel
theorem dL_book_69 : decode cL_book 69 = .ok (.iastore, 1) := by decide +kernel
theorem dL_book_70 : decode cL_book 70 = .ok (.aload_n 3, 1) := by decide +kernel
theorem dL_book_71 : decode cL_book 71 = .ok (.iconst 4, 1) := by decide +kernel
theorem dL_book_72 : decode cL_book 72 = .ok (.iload 4, 2) := by decide +kernel
theorem dL_book_74 : decode cL_book 74 = .ok (.bipush 12, 2) := by decide +kernel
theorem dL_book_76 : decode cL_book 76 = .ok (.ishr, 1) := by decide +kernel
theorem dL_book_77 : decode cL_book 77 = .ok (.iconst 5, 1) := by decide +kernel
theorem dL_book_78 : decode cL_book 78 = .ok (.invokestatic 26, 3) := by decide +kernel
theorem dL_book_81 : decode cL_book 81 = .ok (.iastore, 1) := by decide +kernel
theorem dL_book_82 : decode cL_book 82 = .ok (.aload_n 0, 1) := by decide +kernel
theorem dL_book_83 : decode cL_book 83 = .ok (.invokevirtual 31, 3) := by decide +kernel
theorem dL_book_86 : decode cL_book 86 = .ok (.ifCond .lt 46, 3) := by decide +kernel
theorem dL_book_89 : decode cL_book 89 = .ok (.aload_n 0, 1) := by decide +kernel
theorem dL_book_90 : decode cL_book 90 = .ok (.bipush 110, 2) := by decide +kernel
theorem dL_book_92 : decode cL_book 92 = .ok (.aload_n 3, 1) := by decide +kernel
theorem dL_book_93 : decode cL_book 93 = .ok (.iconst 0, 1) := by decide +kernel
theorem dL_book_94 : decode cL_book 94 = .ok (.iaload, 1) := by decide +kernel
theorem dL_book_95 : decode cL_book 95 = .ok (.invokestatic 35, 3) := by decide +kernel
theorem dL_book_98 : decode cL_book 98 = .ok (.ifCond .eq 34, 3) := by decide +kernel
theorem dL_book_101 : decode cL_book 101 = .ok (.aload_n 0, 1) := by decide +kernel
theorem dL_book_102 : decode cL_book 102 = .ok (.bipush 114, 2) := by decide +kernel
theorem dL_book_104 : decode cL_book 104 = .ok (.aload_n 3, 1) := by decide +kernel
theorem dL_book_105 : decode cL_book 105 = .ok (.iconst 1, 1) := by decide +kernel
theorem dL_book_106 : decode cL_book 106 = .ok (.iaload, 1) := by decide +kernel
theorem dL_book_107 : decode cL_book 107 = .ok (.invokestatic 35, 3) := by decide +kernel
theorem dL_book_110 : decode cL_book 110 = .ok (.ifCond .eq 22, 3) := by decide +kernel
theorem dL_book_113 : decode cL_book 113 = .ok (.aload_n 0, 1) := by decide +kernel
theorem dL_book_114 : decode cL_book 114 = .ok (.bipush 108, 2) := by decide +kernel
theorem dL_book_116 : decode cL_book 116 = .ok (.aload_n 3, 1) := by decide +kernel
theorem dL_book_117 : decode cL_book 117 = .ok (.iconst 2, 1) := by decide +kernel
theorem dL_book_118 : decode cL_book 118 = .ok (.iaload, 1) := by decide +kernel
theorem dL_book_119 : decode cL_book 119 = .ok (.aload_n 3, 1) := by decide +kernel
theorem dL_book_120 : decode cL_book 120 = .ok (.iconst 3, 1) := by decide +kernel
theorem dL_book_121 : decode cL_book 121 = .ok (.iaload, 1) := by decide +kernel
theorem dL_book_122 : decode cL_book 122 = .ok (.invokestatic 38, 3) := by decide +kernel
theorem dL_book_125 : decode cL_book 125 = .ok (.ifCond .eq 7, 3) := by decide +kernel
theorem dL_book_128 : decode cL_book 128 = .ok (.iconst 1, 1) := by decide +kernel
theorem dL_book_129 : decode cL_book 129 = .ok (.goto 4, 3) := by decide +kernel
theorem dL_book_132 : decode cL_book 132 = .ok (.iconst 0, 1) := by decide +kernel
theorem dL_book_133 : decode cL_book 133 = .ok (.istore 5, 2) := by decide +kernel
theorem dL_book_135 : decode cL_book 135 = .ok (.iconst 0, 1) := by decide +kernel
theorem dL_book_136 : decode cL_book 136 = .ok (.istore 6, 2) := by decide +kernel
theorem dL_book_138 : decode cL_book 138 = .ok (.iload 6, 2) := by decide +kernel
theorem dL_book_140 : decode cL_book 140 = .ok (.bipush 9, 2) := by decide +kernel
theorem dL_book_142 : decode cL_book 142 = .ok (.if_icmp .ge 18, 3) := by decide +kernel
theorem dL_book_145 : decode cL_book 145 = .ok (.aload_n 3, 1) := by decide +kernel
theorem dL_book_146 : decode cL_book 146 = .ok (.bipush 9, 2) := by decide +kernel
theorem dL_book_148 : decode cL_book 148 = .ok (.iload 6, 2) := by decide +kernel
theorem dL_book_150 : decode cL_book 150 = .ok (.iadd, 1) := by decide +kernel
theorem dL_book_151 : decode cL_book 151 = .ok (.iload 6, 2) := by decide +kernel
theorem dL_book_153 : decode cL_book 153 = .ok (.iastore, 1) := by decide +kernel
theorem dL_book_154 : decode cL_book 154 = .ok (.iinc 6 1, 3) := by decide +kernel
theorem dL_book_157 : decode cL_book 157 = .ok (.goto (-19), 3) := by decide +kernel
theorem dL_book_160 : decode cL_book 160 = .ok (.iconst 0, 1) := by decide +kernel
theorem dL_book_161 : decode cL_book 161 = .ok (.istore 6, 2) := by decide +kernel
theorem dL_book_163 : decode cL_book 163 = .ok (.iload 6, 2) := by decide +kernel
theorem dL_book_165 : decode cL_book 165 = .ok (.iconst 4, 1) := by decide +kernel
theorem dL_book_166 : decode cL_book 166 = .ok (.if_icmp .ge 162, 3) := by decide +kernel
theorem dL_book_169 : decode cL_book 169 = .ok (.aload_n 1, 1) := by decide +kernel
theorem dL_book_170 : decode cL_book 170 = .ok (.iload_n 2, 1) := by decide +kernel
theorem dL_book_171 : decode cL_book 171 = .ok (.iconst 1, 1) := by decide +kernel
theorem dL_book_172 : decode cL_book 172 = .ok (.iadd, 1) := by decide +kernel
theorem dL_book_173 : decode cL_book 173 = .ok (.iload 6, 2) := by decide +kernel
theorem dL_book_175 : decode cL_book 175 = .ok (.iadd, 1) := by decide +kernel
theorem dL_book_176 : decode cL_book 176 = .ok (.invokestatic 22, 3) := by decide +kernel
theorem dL_book_179 : decode cL_book 179 = .ok (.istore 7, 2) := by decide +kernel
theorem dL_book_181 : decode cL_book 181 = .ok (.iload 7, 2) := by decide +kernel
theorem dL_book_183 : decode cL_book 183 = .ok (.aload_n 3, 1) := by decide +kernel
theorem dL_book_184 : decode cL_book 184 = .ok (.iconst 0, 1) := by decide +kernel
theorem dL_book_185 : decode cL_book 185 = .ok (.iaload, 1) := by decide +kernel
theorem dL_book_186 : decode cL_book 186 = .ok (.invokestatic 26, 3) := by decide +kernel
theorem dL_book_189 : decode cL_book 189 = .ok (.istore 8, 2) := by decide +kernel
theorem dL_book_191 : decode cL_book 191 = .ok (.iload 7, 2) := by decide +kernel
theorem dL_book_193 : decode cL_book 193 = .ok (.iconst 4, 1) := by decide +kernel
theorem dL_book_194 : decode cL_book 194 = .ok (.ishr, 1) := by decide +kernel
theorem dL_book_195 : decode cL_book 195 = .ok (.aload_n 3, 1) := by decide +kernel
theorem dL_book_196 : decode cL_book 196 = .ok (.iconst 0, 1) := by decide +kernel
theorem dL_book_197 : decode cL_book 197 = .ok (.iaload, 1) := by decide +kernel
theorem dL_book_198 : decode cL_book 198 = .ok (.invokestatic 26, 3) := by decide +kernel
theorem dL_book_201 : decode cL_book 201 = .ok (.istore 9, 2) := by decide +kernel
theorem dL_book_203 : decode cL_book 203 = .ok (.iload 7, 2) := by decide +kernel
theorem dL_book_205 : decode cL_book 205 = .ok (.bipush 8, 2) := by decide +kernel
theorem dL_book_207 : decode cL_book 207 = .ok (.ishr, 1) := by decide +kernel
theorem dL_book_208 : decode cL_book 208 = .ok (.iconst 1, 1) := by decide +kernel
theorem dL_book_209 : decode cL_book 209 = .ok (.iand, 1) := by decide +kernel
theorem dL_book_210 : decode cL_book 210 = .ok (.ifCond .ne 60, 3) := by decide +kernel
theorem dL_book_213 : decode cL_book 213 = .ok (.aload_n 3, 1) := by decide +kernel
theorem dL_book_214 : decode cL_book 214 = .ok (.bipush 9, 2) := by decide +kernel
theorem dL_book_216 : decode cL_book 216 = .ok (.iload 8, 2) := by decide +kernel
theorem dL_book_218 : decode cL_book 218 = .ok (.iadd, 1) := by decide +kernel
theorem dL_book_219 : decode cL_book 219 = .ok (.iaload, 1) := by decide +kernel
theorem dL_book_220 : decode cL_book 220 = .ok (.istore 10, 2) := by decide +kernel
theorem dL_book_222 : decode cL_book 222 = .ok (.aload_n 3, 1) := by decide +kernel
theorem dL_book_223 : decode cL_book 223 = .ok (.bipush 9, 2) := by decide +kernel
theorem dL_book_225 : decode cL_book 225 = .ok (.iload 8, 2) := by decide +kernel
theorem dL_book_227 : decode cL_book 227 = .ok (.iadd, 1) := by decide +kernel
theorem dL_book_228 : decode cL_book 228 = .ok (.aload_n 3, 1) := by decide +kernel
theorem dL_book_229 : decode cL_book 229 = .ok (.bipush 9, 2) := by decide +kernel
theorem dL_book_231 : decode cL_book 231 = .ok (.iload 9, 2) := by decide +kernel
theorem dL_book_233 : decode cL_book 233 = .ok (.iadd, 1) := by decide +kernel
theorem dL_book_234 : decode cL_book 234 = .ok (.iaload, 1) := by decide +kernel
theorem dL_book_235 : decode cL_book 235 = .ok (.iastore, 1) := by decide +kernel
theorem dL_book_236 : decode cL_book 236 = .ok (.aload_n 3, 1) := by decide +kernel
theorem dL_book_237 : decode cL_book 237 = .ok (.bipush 9, 2) := by decide +kernel
theorem dL_book_239 : decode cL_book 239 = .ok (.iload 9, 2) := by decide +kernel
theorem dL_book_241 : decode cL_book 241 = .ok (.iadd, 1) := by decide +kernel
theorem dL_book_242 : decode cL_book 242 = .ok (.iload 10, 2) := by decide +kernel
theorem dL_book_244 : decode cL_book 244 = .ok (.iastore, 1) := by decide +kernel
theorem dL_book_245 : decode cL_book 245 = .ok (.iload 5, 2) := by decide +kernel
theorem dL_book_247 : decode cL_book 247 = .ok (.ifCond .eq 20, 3) := by decide +kernel
theorem dL_book_250 : decode cL_book 250 = .ok (.aload_n 0, 1) := by decide +kernel
theorem dL_book_251 : decode cL_book 251 = .ok (.bipush 115, 2) := by decide +kernel
theorem dL_book_253 : decode cL_book 253 = .ok (.iload 8, 2) := by decide +kernel
theorem dL_book_255 : decode cL_book 255 = .ok (.iload 9, 2) := by decide +kernel
theorem dL_book_257 : decode cL_book 257 = .ok (.invokestatic 38, 3) := by decide +kernel
theorem dL_book_260 : decode cL_book 260 = .ok (.ifCond .eq 7, 3) := by decide +kernel
theorem dL_book_263 : decode cL_book 263 = .ok (.iconst 1, 1) := by decide +kernel
theorem dL_book_264 : decode cL_book 264 = .ok (.goto 4, 3) := by decide +kernel
theorem dL_book_267 : decode cL_book 267 = .ok (.iconst 0, 1) := by decide +kernel
theorem dL_book_268 : decode cL_book 268 = .ok (.istore 5, 2) := by decide +kernel
theorem dL_book_270 : decode cL_book 270 = .ok (.aload_n 3, 1) := by decide +kernel
theorem dL_book_271 : decode cL_book 271 = .ok (.iconst 5, 1) := by decide +kernel
theorem dL_book_272 : decode cL_book 272 = .ok (.iload 6, 2) := by decide +kernel
theorem dL_book_274 : decode cL_book 274 = .ok (.iadd, 1) := by decide +kernel
theorem dL_book_275 : decode cL_book 275 = .ok (.iload 7, 2) := by decide +kernel
theorem dL_book_277 : decode cL_book 277 = .ok (.bipush 9, 2) := by decide +kernel
theorem dL_book_279 : decode cL_book 279 = .ok (.ishr, 1) := by decide +kernel
theorem dL_book_280 : decode cL_book 280 = .ok (.aload_n 3, 1) := by decide +kernel
theorem dL_book_281 : decode cL_book 281 = .ok (.iconst 0, 1) := by decide +kernel
theorem dL_book_282 : decode cL_book 282 = .ok (.iaload, 1) := by decide +kernel
theorem dL_book_283 : decode cL_book 283 = .ok (.invokestatic 26, 3) := by decide +kernel
theorem dL_book_286 : decode cL_book 286 = .ok (.iastore, 1) := by decide +kernel
theorem dL_book_287 : decode cL_book 287 = .ok (.iload 5, 2) := by decide +kernel
theorem dL_book_289 : decode cL_book 289 = .ok (.ifCond .eq 30, 3) := by decide +kernel
theorem dL_book_292 : decode cL_book 292 = .ok (.iload 6, 2) := by decide +kernel
theorem dL_book_294 : decode cL_book 294 = .ok (.aload_n 3, 1) := by decide +kernel
theorem dL_book_295 : decode cL_book 295 = .ok (.iconst 4, 1) := by decide +kernel
theorem dL_book_296 : decode cL_book 296 = .ok (.iaload, 1) := by decide +kernel
theorem dL_book_297 : decode cL_book 297 = .ok (.if_icmp .ge 18, 3) := by decide +kernel
theorem dL_book_300 : decode cL_book 300 = .ok (.aload_n 0, 1) := by decide +kernel
theorem dL_book_301 : decode cL_book 301 = .ok (.bipush 116, 2) := by decide +kernel
theorem dL_book_303 : decode cL_book 303 = .ok (.aload_n 3, 1) := by decide +kernel
theorem dL_book_304 : decode cL_book 304 = .ok (.iconst 5, 1) := by decide +kernel
theorem dL_book_305 : decode cL_book 305 = .ok (.iload 6, 2) := by decide +kernel
theorem dL_book_307 : decode cL_book 307 = .ok (.iadd, 1) := by decide +kernel
theorem dL_book_308 : decode cL_book 308 = .ok (.iaload, 1) := by decide +kernel
theorem dL_book_309 : decode cL_book 309 = .ok (.invokestatic 35, 3) := by decide +kernel
theorem dL_book_312 : decode cL_book 312 = .ok (.ifCond .eq 7, 3) := by decide +kernel
theorem dL_book_315 : decode cL_book 315 = .ok (.iconst 1, 1) := by decide +kernel
theorem dL_book_316 : decode cL_book 316 = .ok (.goto 4, 3) := by decide +kernel
theorem dL_book_319 : decode cL_book 319 = .ok (.iconst 0, 1) := by decide +kernel
theorem dL_book_320 : decode cL_book 320 = .ok (.istore 5, 2) := by decide +kernel
theorem dL_book_322 : decode cL_book 322 = .ok (.iinc 6 1, 3) := by decide +kernel
theorem dL_book_325 : decode cL_book 325 = .ok (.goto (-162), 3) := by decide +kernel
theorem dL_book_328 : decode cL_book 328 = .ok (.iload 5, 2) := by decide +kernel
theorem dL_book_330 : decode cL_book 330 = .ok (.ifCond .eq 26, 3) := by decide +kernel
theorem dL_book_333 : decode cL_book 333 = .ok (.aload_n 0, 1) := by decide +kernel
theorem dL_book_334 : decode cL_book 334 = .ok (.invokevirtual 42, 3) := by decide +kernel
theorem dL_book_337 : decode cL_book 337 = .ok (.bipush (-4), 2) := by decide +kernel
theorem dL_book_339 : decode cL_book 339 = .ok (.if_icmp .ne 17, 3) := by decide +kernel
theorem dL_book_342 : decode cL_book 342 = .ok (.aload_n 0, 1) := by decide +kernel
theorem dL_book_343 : decode cL_book 343 = .ok (.invokevirtual 45, 3) := by decide +kernel
theorem dL_book_346 : decode cL_book 346 = .ok (.aload_n 3, 1) := by decide +kernel
theorem dL_book_347 : decode cL_book 347 = .ok (.iconst 0, 1) := by decide +kernel
theorem dL_book_348 : decode cL_book 348 = .ok (.iaload, 1) := by decide +kernel
theorem dL_book_349 : decode cL_book 349 = .ok (.if_icmp .ne 7, 3) := by decide +kernel
theorem dL_book_352 : decode cL_book 352 = .ok (.iconst 1, 1) := by decide +kernel
theorem dL_book_353 : decode cL_book 353 = .ok (.goto 4, 3) := by decide +kernel
theorem dL_book_356 : decode cL_book 356 = .ok (.iconst 0, 1) := by decide +kernel
theorem dL_book_357 : decode cL_book 357 = .ok (.ireturn, 1) := by decide +kernel
theorem dL_act_0 : decode cL_act 0 = .ok (.iload_n 2, 1) := by decide +kernel
theorem dL_act_1 : decode cL_act 1 = .ok (.aload_n 3, 1) := by decide +kernel
theorem dL_act_2 : decode cL_act 2 = .ok (.iconst 0, 1) := by decide +kernel
theorem dL_act_3 : decode cL_act 3 = .ok (.iaload, 1) := by decide +kernel
theorem dL_act_4 : decode cL_act 4 = .ok (.invokestatic 26, 3) := by decide +kernel
theorem dL_act_7 : decode cL_act 7 = .ok (.istore 4, 2) := by decide +kernel
theorem dL_act_9 : decode cL_act 9 = .ok (.iload_n 2, 1) := by decide +kernel
theorem dL_act_10 : decode cL_act 10 = .ok (.iconst 4, 1) := by decide +kernel
theorem dL_act_11 : decode cL_act 11 = .ok (.ishr, 1) := by decide +kernel
theorem dL_act_12 : decode cL_act 12 = .ok (.aload_n 3, 1) := by decide +kernel
theorem dL_act_13 : decode cL_act 13 = .ok (.iconst 0, 1) := by decide +kernel
theorem dL_act_14 : decode cL_act 14 = .ok (.iaload, 1) := by decide +kernel
theorem dL_act_15 : decode cL_act 15 = .ok (.invokestatic 26, 3) := by decide +kernel
theorem dL_act_18 : decode cL_act 18 = .ok (.istore 5, 2) := by decide +kernel
theorem dL_act_20 : decode cL_act 20 = .ok (.iload_n 1, 1) := by decide +kernel
theorem dL_act_21 : decode cL_act 21 = .ok (.sipush 128, 3) := by decide +kernel
theorem dL_act_24 : decode cL_act 24 = .ok (.iand, 1) := by decide +kernel
theorem dL_act_25 : decode cL_act 25 = .ok (.ifCond .ne 16, 3) := by decide +kernel
theorem dL_act_28 : decode cL_act 28 = .ok (.iload_n 1, 1) := by decide +kernel
theorem dL_act_29 : decode cL_act 29 = .ok (.bipush 8, 2) := by decide +kernel
theorem dL_act_31 : decode cL_act 31 = .ok (.ishr, 1) := by decide +kernel
theorem dL_act_32 : decode cL_act 32 = .ok (.bipush 50, 2) := by decide +kernel
theorem dL_act_34 : decode cL_act 34 = .ok (.invokestatic 26, 3) := by decide +kernel
theorem dL_act_37 : decode cL_act 37 = .ok (.i2l, 1) := by decide +kernel
theorem dL_act_38 : decode cL_act 38 = .ok (.goto 17, 3) := by decide +kernel
theorem dL_act_41 : decode cL_act 41 = .ok (.iload_n 1, 1) := by decide +kernel
theorem dL_act_42 : decode cL_act 42 = .ok (.bipush 8, 2) := by decide +kernel
theorem dL_act_44 : decode cL_act 44 = .ok (.ishr, 1) := by decide +kernel
theorem dL_act_45 : decode cL_act 45 = .ok (.ldc 52, 2) := by decide +kernel
theorem dL_act_47 : decode cL_act 47 = .ok (.invokestatic 26, 3) := by decide +kernel
theorem dL_act_50 : decode cL_act 50 = .ok (.i2l, 1) := by decide +kernel
theorem dL_act_51 : decode cL_act 51 = .ok (.ldc2_w 53, 3) := by decide +kernel
theorem dL_act_54 : decode cL_act 54 = .ok (.lmul, 1) := by decide +kernel
theorem dL_act_55 : decode cL_act 55 = .ok (.lstore 6, 2) := by decide +kernel
theorem dL_act_57 : decode cL_act 57 = .ok (.iload_n 1, 1) := by decide +kernel
theorem dL_act_58 : decode cL_act 58 = .ok (.bipush 15, 2) := by decide +kernel
theorem dL_act_60 : decode cL_act 60 = .ok (.iand, 1) := by decide +kernel
theorem dL_act_61 : decode cL_act 61 = .ok (.tableswitch 340 0 14 #[75, 75, 75, 81, 87, 97, 112, 138, 158, 180, 211, 211, 260, 295, 317], 75) := by decide +kernel
theorem dL_act_136 : decode cL_act 136 = .ok (.aload_n 0, 1) := by decide +kernel
theorem dL_act_137 : decode cL_act 137 = .ok (.invokevirtual 55, 3) := by decide +kernel
theorem dL_act_140 : decode cL_act 140 = .ok (.i2l, 1) := by decide +kernel
theorem dL_act_141 : decode cL_act 141 = .ok (.lreturn, 1) := by decide +kernel
theorem dL_act_142 : decode cL_act 142 = .ok (.aload_n 0, 1) := by decide +kernel
theorem dL_act_143 : decode cL_act 143 = .ok (.invokevirtual 58, 3) := by decide +kernel
theorem dL_act_146 : decode cL_act 146 = .ok (.i2l, 1) := by decide +kernel
theorem dL_act_147 : decode cL_act 147 = .ok (.lreturn, 1) := by decide +kernel
theorem dL_act_148 : decode cL_act 148 = .ok (.aload_n 0, 1) := by decide +kernel
theorem dL_act_149 : decode cL_act 149 = .ok (.iload 4, 2) := by decide +kernel
theorem dL_act_151 : decode cL_act 151 = .ok (.iload 5, 2) := by decide +kernel
theorem dL_act_153 : decode cL_act 153 = .ok (.invokevirtual 61, 3) := by decide +kernel
theorem dL_act_156 : decode cL_act 156 = .ok (.i2l, 1) := by decide +kernel
theorem dL_act_157 : decode cL_act 157 = .ok (.lreturn, 1) := by decide +kernel
theorem dL_act_158 : decode cL_act 158 = .ok (.aload_n 0, 1) := by decide +kernel
theorem dL_act_159 : decode cL_act 159 = .ok (.iload_n 1, 1) := by decide +kernel
theorem dL_act_160 : decode cL_act 160 = .ok (.iconst 4, 1) := by decide +kernel
theorem dL_act_161 : decode cL_act 161 = .ok (.ishr, 1) := by decide +kernel
theorem dL_act_162 : decode cL_act 162 = .ok (.sipush 10000, 3) := by decide +kernel
theorem dL_act_165 : decode cL_act 165 = .ok (.invokestatic 26, 3) := by decide +kernel
theorem dL_act_168 : decode cL_act 168 = .ok (.invokevirtual 64, 3) := by decide +kernel
theorem dL_act_171 : decode cL_act 171 = .ok (.i2l, 1) := by decide +kernel
theorem dL_act_172 : decode cL_act 172 = .ok (.lreturn, 1) := by decide +kernel
theorem dL_act_173 : decode cL_act 173 = .ok (.aload_n 0, 1) := by decide +kernel
theorem dL_act_174 : decode cL_act 174 = .ok (.lload 6, 2) := by decide +kernel
theorem dL_act_176 : decode cL_act 176 = .ok (.iload_n 2, 1) := by decide +kernel
theorem dL_act_177 : decode cL_act 177 = .ok (.aload_n 3, 1) := by decide +kernel
theorem dL_act_178 : decode cL_act 178 = .ok (.iconst 1, 1) := by decide +kernel
theorem dL_act_179 : decode cL_act 179 = .ok (.iaload, 1) := by decide +kernel
theorem dL_act_180 : decode cL_act 180 = .ok (.invokestatic 26, 3) := by decide +kernel
theorem dL_act_183 : decode cL_act 183 = .ok (.invokevirtual 68, 3) := by decide +kernel
theorem dL_act_186 : decode cL_act 186 = .ok (.i2l, 1) := by decide +kernel
theorem dL_act_187 : decode cL_act 187 = .ok (.ldc2_w 72, 3) := by decide +kernel
theorem dL_act_190 : decode cL_act 190 = .ok (.lmul, 1) := by decide +kernel
theorem dL_act_191 : decode cL_act 191 = .ok (.aload_n 0, 1) := by decide +kernel
theorem dL_act_192 : decode cL_act 192 = .ok (.lload 6, 2) := by decide +kernel
theorem dL_act_194 : decode cL_act 194 = .ok (.invokevirtual 74, 3) := by decide +kernel
theorem dL_act_197 : decode cL_act 197 = .ok (.ladd, 1) := by decide +kernel
theorem dL_act_198 : decode cL_act 198 = .ok (.lreturn, 1) := by decide +kernel
theorem dL_act_199 : decode cL_act 199 = .ok (.aload_n 0, 1) := by decide +kernel
theorem dL_act_200 : decode cL_act 200 = .ok (.invokevirtual 78, 3) := by decide +kernel
theorem dL_act_203 : decode cL_act 203 = .ok (.i2l, 1) := by decide +kernel
theorem dL_act_204 : decode cL_act 204 = .ok (.ldc2_w 81, 3) := by decide +kernel
theorem dL_act_207 : decode cL_act 207 = .ok (.lmul, 1) := by decide +kernel
theorem dL_act_208 : decode cL_act 208 = .ok (.aload_n 0, 1) := by decide +kernel
theorem dL_act_209 : decode cL_act 209 = .ok (.iload_n 1, 1) := by decide +kernel
theorem dL_act_210 : decode cL_act 210 = .ok (.iconst 4, 1) := by decide +kernel
theorem dL_act_211 : decode cL_act 211 = .ok (.ishr, 1) := by decide +kernel
theorem dL_act_212 : decode cL_act 212 = .ok (.iconst 1, 1) := by decide +kernel
theorem dL_act_213 : decode cL_act 213 = .ok (.iand, 1) := by decide +kernel
theorem dL_act_214 : decode cL_act 214 = .ok (.invokevirtual 83, 3) := by decide +kernel
theorem dL_act_217 : decode cL_act 217 = .ok (.ladd, 1) := by decide +kernel
theorem dL_act_218 : decode cL_act 218 = .ok (.lreturn, 1) := by decide +kernel
theorem dL_act_219 : decode cL_act 219 = .ok (.aload_n 0, 1) := by decide +kernel
theorem dL_act_220 : decode cL_act 220 = .ok (.lload 6, 2) := by decide +kernel
theorem dL_act_222 : decode cL_act 222 = .ok (.invokevirtual 87, 3) := by decide +kernel
theorem dL_act_225 : decode cL_act 225 = .ok (.i2l, 1) := by decide +kernel
theorem dL_act_226 : decode cL_act 226 = .ok (.ldc2_w 91, 3) := by decide +kernel
theorem dL_act_229 : decode cL_act 229 = .ok (.lmul, 1) := by decide +kernel
theorem dL_act_230 : decode cL_act 230 = .ok (.aload_n 0, 1) := by decide +kernel
theorem dL_act_231 : decode cL_act 231 = .ok (.lload 6, 2) := by decide +kernel
theorem dL_act_233 : decode cL_act 233 = .ok (.iload 4, 2) := by decide +kernel
theorem dL_act_235 : decode cL_act 235 = .ok (.invokevirtual 93, 3) := by decide +kernel
theorem dL_act_238 : decode cL_act 238 = .ok (.i2l, 1) := by decide +kernel
theorem dL_act_239 : decode cL_act 239 = .ok (.ladd, 1) := by decide +kernel
theorem dL_act_240 : decode cL_act 240 = .ok (.lreturn, 1) := by decide +kernel
theorem dL_act_241 : decode cL_act 241 = .ok (.aload_n 0, 1) := by decide +kernel
theorem dL_act_242 : decode cL_act 242 = .ok (.iload_n 1, 1) := by decide +kernel
theorem dL_act_243 : decode cL_act 243 = .ok (.iconst 4, 1) := by decide +kernel
theorem dL_act_244 : decode cL_act 244 = .ok (.ishr, 1) := by decide +kernel
theorem dL_act_245 : decode cL_act 245 = .ok (.iconst 3, 1) := by decide +kernel
theorem dL_act_246 : decode cL_act 246 = .ok (.iand, 1) := by decide +kernel
theorem dL_act_247 : decode cL_act 247 = .ok (.iload 4, 2) := by decide +kernel
theorem dL_act_249 : decode cL_act 249 = .ok (.invokevirtual 96, 3) := by decide +kernel
theorem dL_act_252 : decode cL_act 252 = .ok (.i2l, 1) := by decide +kernel
theorem dL_act_253 : decode cL_act 253 = .ok (.ldc2_w 81, 3) := by decide +kernel
theorem dL_act_256 : decode cL_act 256 = .ok (.lmul, 1) := by decide +kernel
theorem dL_act_257 : decode cL_act 257 = .ok (.aload_n 0, 1) := by decide +kernel
theorem dL_act_258 : decode cL_act 258 = .ok (.iload_n 2, 1) := by decide +kernel
theorem dL_act_259 : decode cL_act 259 = .ok (.bipush 8, 2) := by decide +kernel
theorem dL_act_261 : decode cL_act 261 = .ok (.ishr, 1) := by decide +kernel
theorem dL_act_262 : decode cL_act 262 = .ok (.iconst 3, 1) := by decide +kernel
theorem dL_act_263 : decode cL_act 263 = .ok (.invokestatic 26, 3) := by decide +kernel
theorem dL_act_266 : decode cL_act 266 = .ok (.invokevirtual 99, 3) := by decide +kernel
theorem dL_act_269 : decode cL_act 269 = .ok (.i2l, 1) := by decide +kernel
theorem dL_act_270 : decode cL_act 270 = .ok (.ladd, 1) := by decide +kernel
theorem dL_act_271 : decode cL_act 271 = .ok (.lreturn, 1) := by decide +kernel
theorem dL_act_272 : decode cL_act 272 = .ok (.aload_n 0, 1) := by decide +kernel
theorem dL_act_273 : decode cL_act 273 = .ok (.iload_n 1, 1) := by decide +kernel
theorem dL_act_274 : decode cL_act 274 = .ok (.iconst 4, 1) := by decide +kernel
theorem dL_act_275 : decode cL_act 275 = .ok (.ishr, 1) := by decide +kernel
theorem dL_act_276 : decode cL_act 276 = .ok (.bipush 20, 2) := by decide +kernel
theorem dL_act_278 : decode cL_act 278 = .ok (.invokestatic 26, 3) := by decide +kernel
theorem dL_act_281 : decode cL_act 281 = .ok (.i2l, 1) := by decide +kernel
theorem dL_act_282 : decode cL_act 282 = .ok (.iload_n 2, 1) := by decide +kernel
theorem dL_act_283 : decode cL_act 283 = .ok (.bipush 8, 2) := by decide +kernel
theorem dL_act_285 : decode cL_act 285 = .ok (.ishr, 1) := by decide +kernel
theorem dL_act_286 : decode cL_act 286 = .ok (.aload_n 3, 1) := by decide +kernel
theorem dL_act_287 : decode cL_act 287 = .ok (.iconst 1, 1) := by decide +kernel
theorem dL_act_288 : decode cL_act 288 = .ok (.iaload, 1) := by decide +kernel
theorem dL_act_289 : decode cL_act 289 = .ok (.invokestatic 26, 3) := by decide +kernel
theorem dL_act_292 : decode cL_act 292 = .ok (.iload 4, 2) := by decide +kernel
theorem dL_act_294 : decode cL_act 294 = .ok (.invokevirtual 102, 3) := by decide +kernel
theorem dL_act_297 : decode cL_act 297 = .ok (.i2l, 1) := by decide +kernel
theorem dL_act_298 : decode cL_act 298 = .ok (.ldc2_w 91, 3) := by decide +kernel
theorem dL_act_301 : decode cL_act 301 = .ok (.lmul, 1) := by decide +kernel
theorem dL_act_302 : decode cL_act 302 = .ok (.aload_n 0, 1) := by decide +kernel
theorem dL_act_303 : decode cL_act 303 = .ok (.invokevirtual 106, 3) := by decide +kernel
theorem dL_act_306 : decode cL_act 306 = .ok (.i2l, 1) := by decide +kernel
theorem dL_act_307 : decode cL_act 307 = .ok (.ldc2_w 109, 3) := by decide +kernel
theorem dL_act_310 : decode cL_act 310 = .ok (.lmul, 1) := by decide +kernel
theorem dL_act_311 : decode cL_act 311 = .ok (.ladd, 1) := by decide +kernel
theorem dL_act_312 : decode cL_act 312 = .ok (.aload_n 0, 1) := by decide +kernel
theorem dL_act_313 : decode cL_act 313 = .ok (.iload 5, 2) := by decide +kernel
theorem dL_act_315 : decode cL_act 315 = .ok (.invokevirtual 111, 3) := by decide +kernel
theorem dL_act_318 : decode cL_act 318 = .ok (.i2l, 1) := by decide +kernel
theorem dL_act_319 : decode cL_act 319 = .ok (.ladd, 1) := by decide +kernel
theorem dL_act_320 : decode cL_act 320 = .ok (.lreturn, 1) := by decide +kernel
theorem dL_act_321 : decode cL_act 321 = .ok (.aload_n 0, 1) := by decide +kernel
theorem dL_act_322 : decode cL_act 322 = .ok (.iload 4, 2) := by decide +kernel
theorem dL_act_324 : decode cL_act 324 = .ok (.iload_n 1, 1) := by decide +kernel
theorem dL_act_325 : decode cL_act 325 = .ok (.iconst 4, 1) := by decide +kernel
theorem dL_act_326 : decode cL_act 326 = .ok (.ishr, 1) := by decide +kernel
theorem dL_act_327 : decode cL_act 327 = .ok (.iconst 1, 1) := by decide +kernel
theorem dL_act_328 : decode cL_act 328 = .ok (.iand, 1) := by decide +kernel
theorem dL_act_329 : decode cL_act 329 = .ok (.invokevirtual 114, 3) := by decide +kernel
theorem dL_act_332 : decode cL_act 332 = .ok (.i2l, 1) := by decide +kernel
theorem dL_act_333 : decode cL_act 333 = .ok (.ldc2_w 81, 3) := by decide +kernel
theorem dL_act_336 : decode cL_act 336 = .ok (.lmul, 1) := by decide +kernel
theorem dL_act_337 : decode cL_act 337 = .ok (.aload_n 0, 1) := by decide +kernel
theorem dL_act_338 : decode cL_act 338 = .ok (.iload 4, 2) := by decide +kernel
theorem dL_act_340 : decode cL_act 340 = .ok (.iload 5, 2) := by decide +kernel
theorem dL_act_342 : decode cL_act 342 = .ok (.iload_n 1, 1) := by decide +kernel
theorem dL_act_343 : decode cL_act 343 = .ok (.iconst 5, 1) := by decide +kernel
theorem dL_act_344 : decode cL_act 344 = .ok (.ishr, 1) := by decide +kernel
theorem dL_act_345 : decode cL_act 345 = .ok (.bipush 100, 2) := by decide +kernel
theorem dL_act_347 : decode cL_act 347 = .ok (.invokestatic 26, 3) := by decide +kernel
theorem dL_act_350 : decode cL_act 350 = .ok (.invokevirtual 117, 3) := by decide +kernel
theorem dL_act_353 : decode cL_act 353 = .ok (.i2l, 1) := by decide +kernel
theorem dL_act_354 : decode cL_act 354 = .ok (.ladd, 1) := by decide +kernel
theorem dL_act_355 : decode cL_act 355 = .ok (.lreturn, 1) := by decide +kernel
theorem dL_act_356 : decode cL_act 356 = .ok (.aload_n 0, 1) := by decide +kernel
theorem dL_act_357 : decode cL_act 357 = .ok (.iconst 1, 1) := by decide +kernel
theorem dL_act_358 : decode cL_act 358 = .ok (.iload_n 1, 1) := by decide +kernel
theorem dL_act_359 : decode cL_act 359 = .ok (.iconst 4, 1) := by decide +kernel
theorem dL_act_360 : decode cL_act 360 = .ok (.ishr, 1) := by decide +kernel
theorem dL_act_361 : decode cL_act 361 = .ok (.bipush 60, 2) := by decide +kernel
theorem dL_act_363 : decode cL_act 363 = .ok (.invokestatic 26, 3) := by decide +kernel
theorem dL_act_366 : decode cL_act 366 = .ok (.iadd, 1) := by decide +kernel
theorem dL_act_367 : decode cL_act 367 = .ok (.iload_n 2, 1) := by decide +kernel
theorem dL_act_368 : decode cL_act 368 = .ok (.bipush 8, 2) := by decide +kernel
theorem dL_act_370 : decode cL_act 370 = .ok (.ishr, 1) := by decide +kernel
theorem dL_act_371 : decode cL_act 371 = .ok (.iconst 1, 1) := by decide +kernel
theorem dL_act_372 : decode cL_act 372 = .ok (.iand, 1) := by decide +kernel
theorem dL_act_373 : decode cL_act 373 = .ok (.invokevirtual 121, 3) := by decide +kernel
theorem dL_act_376 : decode cL_act 376 = .ok (.i2l, 1) := by decide +kernel
theorem dL_act_377 : decode cL_act 377 = .ok (.lreturn, 1) := by decide +kernel
theorem dL_act_378 : decode cL_act 378 = .ok (.iload_n 1, 1) := by decide +kernel
theorem dL_act_379 : decode cL_act 379 = .ok (.bipush 48, 2) := by decide +kernel
theorem dL_act_381 : decode cL_act 381 = .ok (.iand, 1) := by decide +kernel
theorem dL_act_382 : decode cL_act 382 = .ok (.ifCond .ne 11, 3) := by decide +kernel
theorem dL_act_385 : decode cL_act 385 = .ok (.aload_n 0, 1) := by decide +kernel
theorem dL_act_386 : decode cL_act 386 = .ok (.invokevirtual 124, 3) := by decide +kernel
theorem dL_act_389 : decode cL_act 389 = .ok (.i2l, 1) := by decide +kernel
theorem dL_act_390 : decode cL_act 390 = .ok (.goto 10, 3) := by decide +kernel
theorem dL_act_393 : decode cL_act 393 = .ok (.aload_n 0, 1) := by decide +kernel
theorem dL_act_394 : decode cL_act 394 = .ok (.iload 4, 2) := by decide +kernel
theorem dL_act_396 : decode cL_act 396 = .ok (.invokevirtual 127, 3) := by decide +kernel
theorem dL_act_399 : decode cL_act 399 = .ok (.i2l, 1) := by decide +kernel
theorem dL_act_400 : decode cL_act 400 = .ok (.lreturn, 1) := by decide +kernel
theorem dL_act_401 : decode cL_act 401 = .ok (.iload_n 1, 1) := by decide +kernel
theorem dL_act_402 : decode cL_act 402 = .ok (.bipush 16, 2) := by decide +kernel
theorem dL_act_404 : decode cL_act 404 = .ok (.iand, 1) := by decide +kernel
theorem dL_act_405 : decode cL_act 405 = .ok (.ifCond .eq 11, 3) := by decide +kernel
theorem dL_act_408 : decode cL_act 408 = .ok (.aload_n 0, 1) := by decide +kernel
theorem dL_act_409 : decode cL_act 409 = .ok (.invokevirtual 130, 3) := by decide +kernel
theorem dL_act_412 : decode cL_act 412 = .ok (.i2l, 1) := by decide +kernel
theorem dL_act_413 : decode cL_act 413 = .ok (.goto 8, 3) := by decide +kernel
theorem dL_act_416 : decode cL_act 416 = .ok (.aload_n 0, 1) := by decide +kernel
theorem dL_act_417 : decode cL_act 417 = .ok (.invokevirtual 133, 3) := by decide +kernel
theorem dL_act_420 : decode cL_act 420 = .ok (.i2l, 1) := by decide +kernel
theorem dL_act_421 : decode cL_act 421 = .ok (.lreturn, 1) := by decide +kernel
theorem dL_law_0 : decode cL_law 0 = .ok (.new 11, 3) := by decide +kernel
theorem dL_law_3 : decode cL_law 3 = .ok (.dup, 1) := by decide +kernel
theorem dL_law_4 : decode cL_law 4 = .ok (.invokespecial 136, 3) := by decide +kernel
theorem dL_law_7 : decode cL_law 7 = .ok (.astore_n 1, 1) := by decide +kernel
theorem dL_law_8 : decode cL_law 8 = .ok (.new 11, 3) := by decide +kernel
theorem dL_law_11 : decode cL_law 11 = .ok (.dup, 1) := by decide +kernel
theorem dL_law_12 : decode cL_law 12 = .ok (.invokespecial 136, 3) := by decide +kernel
theorem dL_law_15 : decode cL_law 15 = .ok (.astore_n 2, 1) := by decide +kernel
theorem dL_law_16 : decode cL_law 16 = .ok (.bipush 20, 2) := by decide +kernel
theorem dL_law_18 : decode cL_law 18 = .ok (.newarray .int, 2) := by decide +kernel
theorem dL_law_20 : decode cL_law 20 = .ok (.astore_n 3, 1) := by decide +kernel
theorem dL_law_21 : decode cL_law 21 = .ok (.bipush 20, 2) := by decide +kernel
theorem dL_law_23 : decode cL_law 23 = .ok (.newarray .int, 2) := by decide +kernel
theorem dL_law_25 : decode cL_law 25 = .ok (.astore 4, 2) := by decide +kernel
theorem dL_law_27 : decode cL_law 27 = .ok (.aload_n 1, 1) := by decide +kernel
theorem dL_law_28 : decode cL_law 28 = .ok (.aload_n 0, 1) := by decide +kernel
theorem dL_law_29 : decode cL_law 29 = .ok (.iconst 0, 1) := by decide +kernel
theorem dL_law_30 : decode cL_law 30 = .ok (.aload_n 3, 1) := by decide +kernel
theorem dL_law_31 : decode cL_law 31 = .ok (.invokestatic 137, 3) := by decide +kernel
theorem dL_law_34 : decode cL_law 34 = .ok (.ifCond .eq 14, 3) := by decide +kernel
theorem dL_law_37 : decode cL_law 37 = .ok (.aload_n 2, 1) := by decide +kernel
theorem dL_law_38 : decode cL_law 38 = .ok (.aload_n 0, 1) := by decide +kernel
theorem dL_law_39 : decode cL_law 39 = .ok (.iconst 0, 1) := by decide +kernel
theorem dL_law_40 : decode cL_law 40 = .ok (.aload 4, 2) := by decide +kernel
theorem dL_law_42 : decode cL_law 42 = .ok (.invokestatic 137, 3) := by decide +kernel
theorem dL_law_45 : decode cL_law 45 = .ok (.ifCond .ne 5, 3) := by decide +kernel
theorem dL_law_48 : decode cL_law 48 = .ok (.iconst 0, 1) := by decide +kernel
theorem dL_law_49 : decode cL_law 49 = .ok (.ireturn, 1) := by decide +kernel
theorem dL_law_50 : decode cL_law 50 = .ok (.iconst 0, 1) := by decide +kernel
theorem dL_law_51 : decode cL_law 51 = .ok (.istore 5, 2) := by decide +kernel
theorem dL_law_53 : decode cL_law 53 = .ok (.iload 5, 2) := by decide +kernel
theorem dL_law_55 : decode cL_law 55 = .ok (.bipush 40, 2) := by decide +kernel
theorem dL_law_57 : decode cL_law 57 = .ok (.if_icmp .ge 466, 3) := by decide +kernel
theorem dL_law_60 : decode cL_law 60 = .ok (.aload_n 0, 1) := by decide +kernel
theorem dL_law_61 : decode cL_law 61 = .ok (.iconst 5, 1) := by decide +kernel
theorem dL_law_62 : decode cL_law 62 = .ok (.iconst 2, 1) := by decide +kernel
theorem dL_law_63 : decode cL_law 63 = .ok (.iload 5, 2) := by decide +kernel
theorem dL_law_65 : decode cL_law 65 = .ok (.imul, 1) := by decide +kernel
theorem dL_law_66 : decode cL_law 66 = .ok (.iadd, 1) := by decide +kernel
theorem dL_law_67 : decode cL_law 67 = .ok (.invokestatic 22, 3) := by decide +kernel
theorem dL_law_70 : decode cL_law 70 = .ok (.istore 6, 2) := by decide +kernel
theorem dL_law_72 : decode cL_law 72 = .ok (.aload_n 0, 1) := by decide +kernel
theorem dL_law_73 : decode cL_law 73 = .ok (.bipush 6, 2) := by decide +kernel
theorem dL_law_75 : decode cL_law 75 = .ok (.iconst 2, 1) := by decide +kernel
theorem dL_law_76 : decode cL_law 76 = .ok (.iload 5, 2) := by decide +kernel
theorem dL_law_78 : decode cL_law 78 = .ok (.imul, 1) := by decide +kernel
theorem dL_law_79 : decode cL_law 79 = .ok (.iadd, 1) := by decide +kernel
theorem dL_law_80 : decode cL_law 80 = .ok (.invokestatic 22, 3) := by decide +kernel
theorem dL_law_83 : decode cL_law 83 = .ok (.istore 7, 2) := by decide +kernel
theorem dL_law_85 : decode cL_law 85 = .ok (.aload_n 2, 1) := by decide +kernel
theorem dL_law_86 : decode cL_law 86 = .ok (.bipush 9, 2) := by decide +kernel
theorem dL_law_88 : decode cL_law 88 = .ok (.lconst 0, 1) := by decide +kernel
theorem dL_law_89 : decode cL_law 89 = .ok (.invokevirtual 10, 3) := by decide +kernel
theorem dL_law_92 : decode cL_law 92 = .ok (.iconst (-1), 1) := by decide +kernel
theorem dL_law_93 : decode cL_law 93 = .ok (.if_icmp .ne 193, 3) := by decide +kernel
theorem dL_law_96 : decode cL_law 96 = .ok (.aload_n 2, 1) := by decide +kernel
theorem dL_law_97 : decode cL_law 97 = .ok (.bipush 40, 2) := by decide +kernel
theorem dL_law_99 : decode cL_law 99 = .ok (.iconst 0, 1) := by decide +kernel
theorem dL_law_100 : decode cL_law 100 = .ok (.invokevirtual 141, 3) := by decide +kernel
theorem dL_law_103 : decode cL_law 103 = .ok (.iconst (-1), 1) := by decide +kernel
theorem dL_law_104 : decode cL_law 104 = .ok (.if_icmp .ne 182, 3) := by decide +kernel
theorem dL_law_107 : decode cL_law 107 = .ok (.aload_n 2, 1) := by decide +kernel
theorem dL_law_108 : decode cL_law 108 = .ok (.iconst (-1), 1) := by decide +kernel
theorem dL_law_109 : decode cL_law 109 = .ok (.invokevirtual 127, 3) := by decide +kernel
theorem dL_law_112 : decode cL_law 112 = .ok (.iconst (-1), 1) := by decide +kernel
theorem dL_law_113 : decode cL_law 113 = .ok (.if_icmp .ne 173, 3) := by decide +kernel
theorem dL_law_116 : decode cL_law 116 = .ok (.aload_n 2, 1) := by decide +kernel
theorem dL_law_117 : decode cL_law 117 = .ok (.iconst 0, 1) := by decide +kernel
theorem dL_law_118 : decode cL_law 118 = .ok (.bipush 40, 2) := by decide +kernel
theorem dL_law_120 : decode cL_law 120 = .ok (.invokevirtual 61, 3) := by decide +kernel
theorem dL_law_123 : decode cL_law 123 = .ok (.iconst (-1), 1) := by decide +kernel
theorem dL_law_124 : decode cL_law 124 = .ok (.if_icmp .ne 162, 3) := by decide +kernel
theorem dL_law_127 : decode cL_law 127 = .ok (.aload_n 2, 1) := by decide +kernel
theorem dL_law_128 : decode cL_law 128 = .ok (.sipush 10000, 3) := by decide +kernel
theorem dL_law_131 : decode cL_law 131 = .ok (.invokevirtual 64, 3) := by decide +kernel
theorem dL_law_134 : decode cL_law 134 = .ok (.iconst (-1), 1) := by decide +kernel
theorem dL_law_135 : decode cL_law 135 = .ok (.if_icmp .ne 151, 3) := by decide +kernel
theorem dL_law_138 : decode cL_law 138 = .ok (.aload_n 2, 1) := by decide +kernel
theorem dL_law_139 : decode cL_law 139 = .ok (.lconst 0, 1) := by decide +kernel
theorem dL_law_140 : decode cL_law 140 = .ok (.bipush 40, 2) := by decide +kernel
theorem dL_law_142 : decode cL_law 142 = .ok (.invokevirtual 68, 3) := by decide +kernel
theorem dL_law_145 : decode cL_law 145 = .ok (.iconst (-1), 1) := by decide +kernel
theorem dL_law_146 : decode cL_law 146 = .ok (.if_icmp .ne 140, 3) := by decide +kernel
theorem dL_law_149 : decode cL_law 149 = .ok (.aload_n 2, 1) := by decide +kernel
theorem dL_law_150 : decode cL_law 150 = .ok (.ldc2_w 144, 3) := by decide +kernel
theorem dL_law_153 : decode cL_law 153 = .ok (.invokevirtual 74, 3) := by decide +kernel
theorem dL_law_156 : decode cL_law 156 = .ok (.ldc2_w 144, 3) := by decide +kernel
theorem dL_law_159 : decode cL_law 159 = .ok (.lcmp, 1) := by decide +kernel
theorem dL_law_160 : decode cL_law 160 = .ok (.ifCond .ne 126, 3) := by decide +kernel
theorem dL_law_163 : decode cL_law 163 = .ok (.aload_n 2, 1) := by decide +kernel
theorem dL_law_164 : decode cL_law 164 = .ok (.iconst 2, 1) := by decide +kernel
theorem dL_law_165 : decode cL_law 165 = .ok (.invokevirtual 83, 3) := by decide +kernel
theorem dL_law_168 : decode cL_law 168 = .ok (.ldc2_w 144, 3) := by decide +kernel
theorem dL_law_171 : decode cL_law 171 = .ok (.lcmp, 1) := by decide +kernel
theorem dL_law_172 : decode cL_law 172 = .ok (.ifCond .ne 114, 3) := by decide +kernel
theorem dL_law_175 : decode cL_law 175 = .ok (.aload_n 2, 1) := by decide +kernel
theorem dL_law_176 : decode cL_law 176 = .ok (.ldc2_w 146, 3) := by decide +kernel
theorem dL_law_179 : decode cL_law 179 = .ok (.invokevirtual 87, 3) := by decide +kernel
theorem dL_law_182 : decode cL_law 182 = .ok (.iconst (-1), 1) := by decide +kernel
theorem dL_law_183 : decode cL_law 183 = .ok (.if_icmp .ne 103, 3) := by decide +kernel
theorem dL_law_186 : decode cL_law 186 = .ok (.aload_n 2, 1) := by decide +kernel
theorem dL_law_187 : decode cL_law 187 = .ok (.lconst 0, 1) := by decide +kernel
theorem dL_law_188 : decode cL_law 188 = .ok (.bipush 40, 2) := by decide +kernel
theorem dL_law_190 : decode cL_law 190 = .ok (.invokevirtual 93, 3) := by decide +kernel
theorem dL_law_193 : decode cL_law 193 = .ok (.iconst (-1), 1) := by decide +kernel
theorem dL_law_194 : decode cL_law 194 = .ok (.if_icmp .ne 92, 3) := by decide +kernel
theorem dL_law_197 : decode cL_law 197 = .ok (.aload_n 2, 1) := by decide +kernel
theorem dL_law_198 : decode cL_law 198 = .ok (.iconst 4, 1) := by decide +kernel
theorem dL_law_199 : decode cL_law 199 = .ok (.iconst 0, 1) := by decide +kernel
theorem dL_law_200 : decode cL_law 200 = .ok (.invokevirtual 96, 3) := by decide +kernel
theorem dL_law_203 : decode cL_law 203 = .ok (.iconst (-1), 1) := by decide +kernel
theorem dL_law_204 : decode cL_law 204 = .ok (.if_icmp .ne 82, 3) := by decide +kernel
theorem dL_law_207 : decode cL_law 207 = .ok (.aload_n 2, 1) := by decide +kernel
theorem dL_law_208 : decode cL_law 208 = .ok (.iconst 3, 1) := by decide +kernel
theorem dL_law_209 : decode cL_law 209 = .ok (.invokevirtual 99, 3) := by decide +kernel
theorem dL_law_212 : decode cL_law 212 = .ok (.iconst (-1), 1) := by decide +kernel
theorem dL_law_213 : decode cL_law 213 = .ok (.if_icmp .ne 73, 3) := by decide +kernel
theorem dL_law_216 : decode cL_law 216 = .ok (.aload_n 2, 1) := by decide +kernel
theorem dL_law_217 : decode cL_law 217 = .ok (.lconst 0, 1) := by decide +kernel
theorem dL_law_218 : decode cL_law 218 = .ok (.iconst 0, 1) := by decide +kernel
theorem dL_law_219 : decode cL_law 219 = .ok (.bipush 40, 2) := by decide +kernel
theorem dL_law_221 : decode cL_law 221 = .ok (.invokevirtual 102, 3) := by decide +kernel
theorem dL_law_224 : decode cL_law 224 = .ok (.iconst (-1), 1) := by decide +kernel
theorem dL_law_225 : decode cL_law 225 = .ok (.if_icmp .ne 61, 3) := by decide +kernel
theorem dL_law_228 : decode cL_law 228 = .ok (.aload_n 2, 1) := by decide +kernel
theorem dL_law_229 : decode cL_law 229 = .ok (.bipush 40, 2) := by decide +kernel
theorem dL_law_231 : decode cL_law 231 = .ok (.invokevirtual 111, 3) := by decide +kernel
theorem dL_law_234 : decode cL_law 234 = .ok (.iconst (-1), 1) := by decide +kernel
theorem dL_law_235 : decode cL_law 235 = .ok (.if_icmp .ne 51, 3) := by decide +kernel
theorem dL_law_238 : decode cL_law 238 = .ok (.aload_n 2, 1) := by decide +kernel
theorem dL_law_239 : decode cL_law 239 = .ok (.bipush 40, 2) := by decide +kernel
theorem dL_law_241 : decode cL_law 241 = .ok (.iconst 0, 1) := by decide +kernel
theorem dL_law_242 : decode cL_law 242 = .ok (.invokevirtual 114, 3) := by decide +kernel
theorem dL_law_245 : decode cL_law 245 = .ok (.iconst (-1), 1) := by decide +kernel
theorem dL_law_246 : decode cL_law 246 = .ok (.if_icmp .ne 40, 3) := by decide +kernel
theorem dL_law_249 : decode cL_law 249 = .ok (.aload_n 2, 1) := by decide +kernel
theorem dL_law_250 : decode cL_law 250 = .ok (.iconst 0, 1) := by decide +kernel
theorem dL_law_251 : decode cL_law 251 = .ok (.iconst 0, 1) := by decide +kernel
theorem dL_law_252 : decode cL_law 252 = .ok (.sipush 1001, 3) := by decide +kernel
theorem dL_law_255 : decode cL_law 255 = .ok (.invokevirtual 117, 3) := by decide +kernel
theorem dL_law_258 : decode cL_law 258 = .ok (.iconst (-1), 1) := by decide +kernel
theorem dL_law_259 : decode cL_law 259 = .ok (.if_icmp .ne 27, 3) := by decide +kernel
theorem dL_law_262 : decode cL_law 262 = .ok (.aload_n 2, 1) := by decide +kernel
theorem dL_law_263 : decode cL_law 263 = .ok (.iconst 0, 1) := by decide +kernel
theorem dL_law_264 : decode cL_law 264 = .ok (.iconst 0, 1) := by decide +kernel
theorem dL_law_265 : decode cL_law 265 = .ok (.invokevirtual 121, 3) := by decide +kernel
theorem dL_law_268 : decode cL_law 268 = .ok (.iconst (-1), 1) := by decide +kernel
theorem dL_law_269 : decode cL_law 269 = .ok (.if_icmp .ne 17, 3) := by decide +kernel
theorem dL_law_272 : decode cL_law 272 = .ok (.aload_n 2, 1) := by decide +kernel
theorem dL_law_273 : decode cL_law 273 = .ok (.bipush 8, 2) := by decide +kernel
theorem dL_law_275 : decode cL_law 275 = .ok (.invokevirtual 148, 3) := by decide +kernel
theorem dL_law_278 : decode cL_law 278 = .ok (.iconst (-1), 1) := by decide +kernel
theorem dL_law_279 : decode cL_law 279 = .ok (.if_icmp .ne 7, 3) := by decide +kernel
theorem dL_law_282 : decode cL_law 282 = .ok (.iconst 1, 1) := by decide +kernel
theorem dL_law_283 : decode cL_law 283 = .ok (.goto 4, 3) := by decide +kernel
theorem dL_law_286 : decode cL_law 286 = .ok (.iconst 0, 1) := by decide +kernel
theorem dL_law_287 : decode cL_law 287 = .ok (.istore 8, 2) := by decide +kernel
theorem dL_law_289 : decode cL_law 289 = .ok (.iload 8, 2) := by decide +kernel
theorem dL_law_291 : decode cL_law 291 = .ok (.ifCond .eq 25, 3) := by decide +kernel
theorem dL_law_294 : decode cL_law 294 = .ok (.aload_n 1, 1) := by decide +kernel
theorem dL_law_295 : decode cL_law 295 = .ok (.iload 6, 2) := by decide +kernel
theorem dL_law_297 : decode cL_law 297 = .ok (.iload 7, 2) := by decide +kernel
theorem dL_law_299 : decode cL_law 299 = .ok (.aload_n 3, 1) := by decide +kernel
theorem dL_law_300 : decode cL_law 300 = .ok (.invokestatic 151, 3) := by decide +kernel
theorem dL_law_303 : decode cL_law 303 = .ok (.aload_n 2, 1) := by decide +kernel
theorem dL_law_304 : decode cL_law 304 = .ok (.iload 6, 2) := by decide +kernel
theorem dL_law_306 : decode cL_law 306 = .ok (.iload 7, 2) := by decide +kernel
theorem dL_law_308 : decode cL_law 308 = .ok (.aload_n 3, 1) := by decide +kernel
theorem dL_law_309 : decode cL_law 309 = .ok (.invokestatic 151, 3) := by decide +kernel
theorem dL_law_312 : decode cL_law 312 = .ok (.lcmp, 1) := by decide +kernel
theorem dL_law_313 : decode cL_law 313 = .ok (.ifCond .eq 5, 3) := by decide +kernel
theorem dL_law_316 : decode cL_law 316 = .ok (.iconst 0, 1) := by decide +kernel
theorem dL_law_317 : decode cL_law 317 = .ok (.ireturn, 1) := by decide +kernel
theorem dL_law_318 : decode cL_law 318 = .ok (.aload_n 1, 1) := by decide +kernel
theorem dL_law_319 : decode cL_law 319 = .ok (.invokevirtual 106, 3) := by decide +kernel
theorem dL_law_322 : decode cL_law 322 = .ok (.aload_n 2, 1) := by decide +kernel
theorem dL_law_323 : decode cL_law 323 = .ok (.invokevirtual 106, 3) := by decide +kernel
theorem dL_law_326 : decode cL_law 326 = .ok (.if_icmp .ne 7, 3) := by decide +kernel
theorem dL_law_329 : decode cL_law 329 = .ok (.iconst 1, 1) := by decide +kernel
theorem dL_law_330 : decode cL_law 330 = .ok (.goto 4, 3) := by decide +kernel
theorem dL_law_333 : decode cL_law 333 = .ok (.iconst 0, 1) := by decide +kernel
theorem dL_law_334 : decode cL_law 334 = .ok (.istore 9, 2) := by decide +kernel
theorem dL_law_336 : decode cL_law 336 = .ok (.iconst 0, 1) := by decide +kernel
theorem dL_law_337 : decode cL_law 337 = .ok (.istore 10, 2) := by decide +kernel
theorem dL_law_339 : decode cL_law 339 = .ok (.iload 10, 2) := by decide +kernel
theorem dL_law_341 : decode cL_law 341 = .ok (.bipush 8, 2) := by decide +kernel
theorem dL_law_343 : decode cL_law 343 = .ok (.if_icmp .ge 45, 3) := by decide +kernel
theorem dL_law_346 : decode cL_law 346 = .ok (.iload 9, 2) := by decide +kernel
theorem dL_law_348 : decode cL_law 348 = .ok (.ifCond .eq 31, 3) := by decide +kernel
theorem dL_law_351 : decode cL_law 351 = .ok (.aload_n 1, 1) := by decide +kernel
theorem dL_law_352 : decode cL_law 352 = .ok (.iload 10, 2) := by decide +kernel
theorem dL_law_354 : decode cL_law 354 = .ok (.invokevirtual 148, 3) := by decide +kernel
theorem dL_law_357 : decode cL_law 357 = .ok (.aload_n 2, 1) := by decide +kernel
theorem dL_law_358 : decode cL_law 358 = .ok (.iload 10, 2) := by decide +kernel
theorem dL_law_360 : decode cL_law 360 = .ok (.invokevirtual 148, 3) := by decide +kernel
theorem dL_law_363 : decode cL_law 363 = .ok (.if_icmp .ne 16, 3) := by decide +kernel
theorem dL_law_366 : decode cL_law 366 = .ok (.aload_n 1, 1) := by decide +kernel
theorem dL_law_367 : decode cL_law 367 = .ok (.iload 10, 2) := by decide +kernel
theorem dL_law_369 : decode cL_law 369 = .ok (.invokevirtual 148, 3) := by decide +kernel
theorem dL_law_372 : decode cL_law 372 = .ok (.ifCond .lt 7, 3) := by decide +kernel
theorem dL_law_375 : decode cL_law 375 = .ok (.iconst 1, 1) := by decide +kernel
theorem dL_law_376 : decode cL_law 376 = .ok (.goto 4, 3) := by decide +kernel
theorem dL_law_379 : decode cL_law 379 = .ok (.iconst 0, 1) := by decide +kernel
theorem dL_law_380 : decode cL_law 380 = .ok (.istore 9, 2) := by decide +kernel
theorem dL_law_382 : decode cL_law 382 = .ok (.iinc 10 1, 3) := by decide +kernel
theorem dL_law_385 : decode cL_law 385 = .ok (.goto (-46), 3) := by decide +kernel
theorem dL_law_388 : decode cL_law 388 = .ok (.iconst 0, 1) := by decide +kernel
theorem dL_law_389 : decode cL_law 389 = .ok (.istore 10, 2) := by decide +kernel
theorem dL_law_391 : decode cL_law 391 = .ok (.iload 10, 2) := by decide +kernel
theorem dL_law_393 : decode cL_law 393 = .ok (.aload_n 3, 1) := by decide +kernel
theorem dL_law_394 : decode cL_law 394 = .ok (.iconst 0, 1) := by decide +kernel
theorem dL_law_395 : decode cL_law 395 = .ok (.iaload, 1) := by decide +kernel
theorem dL_law_396 : decode cL_law 396 = .ok (.if_icmp .ge 72, 3) := by decide +kernel
theorem dL_law_399 : decode cL_law 399 = .ok (.iload 9, 2) := by decide +kernel
theorem dL_law_401 : decode cL_law 401 = .ok (.ifCond .eq 58, 3) := by decide +kernel
theorem dL_law_404 : decode cL_law 404 = .ok (.aload_n 1, 1) := by decide +kernel
theorem dL_law_405 : decode cL_law 405 = .ok (.iload 10, 2) := by decide +kernel
theorem dL_law_407 : decode cL_law 407 = .ok (.iconst 0, 1) := by decide +kernel
theorem dL_law_408 : decode cL_law 408 = .ok (.invokevirtual 141, 3) := by decide +kernel
theorem dL_law_411 : decode cL_law 411 = .ok (.aload_n 2, 1) := by decide +kernel
theorem dL_law_412 : decode cL_law 412 = .ok (.iload 10, 2) := by decide +kernel
theorem dL_law_414 : decode cL_law 414 = .ok (.iconst 0, 1) := by decide +kernel
theorem dL_law_415 : decode cL_law 415 = .ok (.invokevirtual 141, 3) := by decide +kernel
theorem dL_law_418 : decode cL_law 418 = .ok (.if_icmp .ne 41, 3) := by decide +kernel
theorem dL_law_421 : decode cL_law 421 = .ok (.aload_n 1, 1) := by decide +kernel
theorem dL_law_422 : decode cL_law 422 = .ok (.iload 10, 2) := by decide +kernel
theorem dL_law_424 : decode cL_law 424 = .ok (.iconst 1, 1) := by decide +kernel
theorem dL_law_425 : decode cL_law 425 = .ok (.invokevirtual 141, 3) := by decide +kernel
theorem dL_law_428 : decode cL_law 428 = .ok (.aload_n 3, 1) := by decide +kernel
theorem dL_law_429 : decode cL_law 429 = .ok (.bipush 9, 2) := by decide +kernel
theorem dL_law_431 : decode cL_law 431 = .ok (.iload 10, 2) := by decide +kernel
theorem dL_law_433 : decode cL_law 433 = .ok (.iadd, 1) := by decide +kernel
theorem dL_law_434 : decode cL_law 434 = .ok (.iaload, 1) := by decide +kernel
theorem dL_law_435 : decode cL_law 435 = .ok (.if_icmp .ne 24, 3) := by decide +kernel
theorem dL_law_438 : decode cL_law 438 = .ok (.aload_n 2, 1) := by decide +kernel
theorem dL_law_439 : decode cL_law 439 = .ok (.iload 10, 2) := by decide +kernel
theorem dL_law_441 : decode cL_law 441 = .ok (.iconst 1, 1) := by decide +kernel
theorem dL_law_442 : decode cL_law 442 = .ok (.invokevirtual 141, 3) := by decide +kernel
theorem dL_law_445 : decode cL_law 445 = .ok (.aload_n 3, 1) := by decide +kernel
theorem dL_law_446 : decode cL_law 446 = .ok (.bipush 9, 2) := by decide +kernel
theorem dL_law_448 : decode cL_law 448 = .ok (.iload 10, 2) := by decide +kernel
theorem dL_law_450 : decode cL_law 450 = .ok (.iadd, 1) := by decide +kernel
theorem dL_law_451 : decode cL_law 451 = .ok (.iaload, 1) := by decide +kernel
theorem dL_law_452 : decode cL_law 452 = .ok (.if_icmp .ne 7, 3) := by decide +kernel
theorem dL_law_455 : decode cL_law 455 = .ok (.iconst 1, 1) := by decide +kernel
theorem dL_law_456 : decode cL_law 456 = .ok (.goto 4, 3) := by decide +kernel
theorem dL_law_459 : decode cL_law 459 = .ok (.iconst 0, 1) := by decide +kernel
theorem dL_law_460 : decode cL_law 460 = .ok (.istore 9, 2) := by decide +kernel
theorem dL_law_462 : decode cL_law 462 = .ok (.iinc 10 1, 3) := by decide +kernel
theorem dL_law_465 : decode cL_law 465 = .ok (.goto (-74), 3) := by decide +kernel
theorem dL_law_468 : decode cL_law 468 = .ok (.iload 9, 2) := by decide +kernel
theorem dL_law_470 : decode cL_law 470 = .ok (.ifCond .eq 45, 3) := by decide +kernel
theorem dL_law_473 : decode cL_law 473 = .ok (.aload_n 1, 1) := by decide +kernel
theorem dL_law_474 : decode cL_law 474 = .ok (.iconst 0, 1) := by decide +kernel
theorem dL_law_475 : decode cL_law 475 = .ok (.invokevirtual 148, 3) := by decide +kernel
theorem dL_law_478 : decode cL_law 478 = .ok (.aload_n 3, 1) := by decide +kernel
theorem dL_law_479 : decode cL_law 479 = .ok (.iconst 0, 1) := by decide +kernel
theorem dL_law_480 : decode cL_law 480 = .ok (.iaload, 1) := by decide +kernel
theorem dL_law_481 : decode cL_law 481 = .ok (.if_icmp .ne 34, 3) := by decide +kernel
theorem dL_law_484 : decode cL_law 484 = .ok (.aload_n 1, 1) := by decide +kernel
theorem dL_law_485 : decode cL_law 485 = .ok (.iconst 3, 1) := by decide +kernel
theorem dL_law_486 : decode cL_law 486 = .ok (.invokevirtual 148, 3) := by decide +kernel
theorem dL_law_489 : decode cL_law 489 = .ok (.aload_n 3, 1) := by decide +kernel
theorem dL_law_490 : decode cL_law 490 = .ok (.iconst 1, 1) := by decide +kernel
theorem dL_law_491 : decode cL_law 491 = .ok (.iaload, 1) := by decide +kernel
theorem dL_law_492 : decode cL_law 492 = .ok (.if_icmp .ge 23, 3) := by decide +kernel
theorem dL_law_495 : decode cL_law 495 = .ok (.aload_n 1, 1) := by decide +kernel
theorem dL_law_496 : decode cL_law 496 = .ok (.iconst 5, 1) := by decide +kernel
theorem dL_law_497 : decode cL_law 497 = .ok (.invokevirtual 148, 3) := by decide +kernel
theorem dL_law_500 : decode cL_law 500 = .ok (.bipush 12, 2) := by decide +kernel
theorem dL_law_502 : decode cL_law 502 = .ok (.if_icmp .gt 13, 3) := by decide +kernel
theorem dL_law_505 : decode cL_law 505 = .ok (.aload_n 1, 1) := by decide +kernel
theorem dL_law_506 : decode cL_law 506 = .ok (.bipush 6, 2) := by decide +kernel
theorem dL_law_508 : decode cL_law 508 = .ok (.invokevirtual 148, 3) := by decide +kernel
theorem dL_law_511 : decode cL_law 511 = .ok (.iconst 2, 1) := by decide +kernel
theorem dL_law_512 : decode cL_law 512 = .ok (.if_icmp .le 5, 3) := by decide +kernel
theorem dL_law_515 : decode cL_law 515 = .ok (.iconst 0, 1) := by decide +kernel
theorem dL_law_516 : decode cL_law 516 = .ok (.ireturn, 1) := by decide +kernel
theorem dL_law_517 : decode cL_law 517 = .ok (.iinc 5 1, 3) := by decide +kernel
theorem dL_law_520 : decode cL_law 520 = .ok (.goto (-467), 3) := by decide +kernel
theorem dL_law_523 : decode cL_law 523 = .ok (.iconst 1, 1) := by decide +kernel
theorem dL_law_524 : decode cL_law 524 = .ok (.ireturn, 1) := by decide +kernel
