theorem dX8_init_0 : decode cX8_init 0 = .ok (.aload_n 0, 1) := by decide +kernel
theorem dX8_init_1 : decode cX8_init 1 = .ok (.invokespecial 1, 3) := by decide +kernel
theorem dX8_init_4 : decode cX8_init 4 = .ok (.aload_n 0, 1) := by decide +kernel
theorem dX8_init_5 : decode cX8_init 5 = .ok (.sipush 300, 3) := by decide +kernel
theorem dX8_init_8 : decode cX8_init 8 = .ok (.newarray .int, 2) := by decide +kernel
theorem dX8_init_10 : decode cX8_init 10 = .ok (.putfield 7, 3) := by decide +kernel
theorem dX8_init_13 : decode cX8_init 13 = .ok (.aload_n 0, 1) := by decide +kernel
theorem dX8_init_14 : decode cX8_init 14 = .ok (.iconst 2, 1) := by decide +kernel
theorem dX8_init_15 : decode cX8_init 15 = .ok (.newarray .int, 2) := by decide +kernel
theorem dX8_init_17 : decode cX8_init 17 = .ok (.putfield 13, 3) := by decide +kernel
theorem dX8_init_20 : decode cX8_init 20 = .ok (.aload_n 0, 1) := by decide +kernel
theorem dX8_init_21 : decode cX8_init 21 = .ok (.iconst 2, 1) := by decide +kernel
theorem dX8_init_22 : decode cX8_init 22 = .ok (.newarray .int, 2) := by decide +kernel
theorem dX8_init_24 : decode cX8_init 24 = .ok (.putfield 16, 3) := by decide +kernel
theorem dX8_init_27 : decode cX8_init 27 = .ok (.aload_n 0, 1) := by decide +kernel
theorem dX8_init_28 : decode cX8_init 28 = .ok (.iconst 2, 1) := by decide +kernel
theorem dX8_init_29 : decode cX8_init 29 = .ok (.newarray .int, 2) := by decide +kernel
theorem dX8_init_31 : decode cX8_init 31 = .ok (.putfield 19, 3) := by decide +kernel
theorem dX8_init_34 : decode cX8_init 34 = .ok (.aload_n 0, 1) := by decide +kernel
theorem dX8_init_35 : decode cX8_init 35 = .ok (.iconst 2, 1) := by decide +kernel
theorem dX8_init_36 : decode cX8_init 36 = .ok (.newarray .int, 2) := by decide +kernel
theorem dX8_init_38 : decode cX8_init 38 = .ok (.putfield 22, 3) := by decide +kernel
theorem dX8_init_41 : decode cX8_init 41 = .ok (.aload_n 0, 1) := by decide +kernel
theorem dX8_init_42 : decode cX8_init 42 = .ok (.iconst 2, 1) := by decide +kernel
theorem dX8_init_43 : decode cX8_init 43 = .ok (.newarray .int, 2) := by decide +kernel
theorem dX8_init_45 : decode cX8_init 45 = .ok (.putfield 25, 3) := by decide +kernel
theorem dX8_init_48 : decode cX8_init 48 = .ok (.aload_n 0, 1) := by decide +kernel
theorem dX8_init_49 : decode cX8_init 49 = .ok (.bipush 80, 2) := by decide +kernel
theorem dX8_init_51 : decode cX8_init 51 = .ok (.newarray .int, 2) := by decide +kernel
theorem dX8_init_53 : decode cX8_init 53 = .ok (.putfield 28, 3) := by decide +kernel
theorem dX8_init_56 : decode cX8_init 56 = .ok (.aload_n 0, 1) := by decide +kernel
theorem dX8_init_57 : decode cX8_init 57 = .ok (.iconst 2, 1) := by decide +kernel
theorem dX8_init_58 : decode cX8_init 58 = .ok (.newarray .int, 2) := by decide +kernel
theorem dX8_init_60 : decode cX8_init 60 = .ok (.putfield 31, 3) := by decide +kernel
theorem dX8_init_63 : decode cX8_init 63 = .ok (.aload_n 0, 1) := by decide +kernel
theorem dX8_init_64 : decode cX8_init 64 = .ok (.bipush 40, 2) := by decide +kernel
theorem dX8_init_66 : decode cX8_init 66 = .ok (.newarray .int, 2) := by decide +kernel
theorem dX8_init_68 : decode cX8_init 68 = .ok (.putfield 34, 3) := by decide +kernel
theorem dX8_init_71 : decode cX8_init 71 = .ok (.aload_n 0, 1) := by decide +kernel
theorem dX8_init_72 : decode cX8_init 72 = .ok (.bipush 40, 2) := by decide +kernel
theorem dX8_init_74 : decode cX8_init 74 = .ok (.newarray .int, 2) := by decide +kernel
theorem dX8_init_76 : decode cX8_init 76 = .ok (.putfield 37, 3) := by decide +kernel
theorem dX8_init_79 : decode cX8_init 79 = .ok (.aload_n 0, 1) := by decide +kernel
theorem dX8_init_80 : decode cX8_init 80 = .ok (.bipush 120, 2) := by decide +kernel
theorem dX8_init_82 : decode cX8_init 82 = .ok (.newarray .int, 2) := by decide +kernel
theorem dX8_init_84 : decode cX8_init 84 = .ok (.putfield 40, 3) := by decide +kernel
theorem dX8_init_87 : decode cX8_init 87 = .ok (.aload_n 0, 1) := by decide +kernel
theorem dX8_init_88 : decode cX8_init 88 = .ok (.iconst 3, 1) := by decide +kernel
theorem dX8_init_89 : decode cX8_init 89 = .ok (.newarray .int, 2) := by decide +kernel
theorem dX8_init_91 : decode cX8_init 91 = .ok (.putfield 43, 3) := by decide +kernel
theorem dX8_init_94 : decode cX8_init 94 = .ok (.aload_n 0, 1) := by decide +kernel
theorem dX8_init_95 : decode cX8_init 95 = .ok (.iconst 3, 1) := by decide +kernel
theorem dX8_init_96 : decode cX8_init 96 = .ok (.newarray .int, 2) := by decide +kernel
theorem dX8_init_98 : decode cX8_init 98 = .ok (.putfield 46, 3) := by decide +kernel
theorem dX8_init_101 : decode cX8_init 101 = .ok (.aload_n 0, 1) := by decide +kernel
theorem dX8_init_102 : decode cX8_init 102 = .ok (.bipush 12, 2) := by decide +kernel
theorem dX8_init_104 : decode cX8_init 104 = .ok (.newarray .long, 2) := by decide +kernel
theorem dX8_init_106 : decode cX8_init 106 = .ok (.putfield 49, 3) := by decide +kernel
theorem dX8_init_109 : decode cX8_init 109 = .ok (.aload_n 0, 1) := by decide +kernel
theorem dX8_init_110 : decode cX8_init 110 = .ok (.bipush 12, 2) := by decide +kernel
theorem dX8_init_112 : decode cX8_init 112 = .ok (.newarray .int, 2) := by decide +kernel
theorem dX8_init_114 : decode cX8_init 114 = .ok (.putfield 53, 3) := by decide +kernel
theorem dX8_init_117 : decode cX8_init 117 = .ok (.aload_n 0, 1) := by decide +kernel
theorem dX8_init_118 : decode cX8_init 118 = .ok (.bipush 12, 2) := by decide +kernel
theorem dX8_init_120 : decode cX8_init 120 = .ok (.newarray .int, 2) := by decide +kernel
theorem dX8_init_122 : decode cX8_init 122 = .ok (.putfield 56, 3) := by decide +kernel
theorem dX8_init_125 : decode cX8_init 125 = .ok (.aload_n 0, 1) := by decide +kernel
theorem dX8_init_126 : decode cX8_init 126 = .ok (.iconst 2, 1) := by decide +kernel
theorem dX8_init_127 : decode cX8_init 127 = .ok (.newarray .int, 2) := by decide +kernel
theorem dX8_init_129 : decode cX8_init 129 = .ok (.putfield 59, 3) := by decide +kernel
theorem dX8_init_132 : decode cX8_init 132 = .ok (.aload_n 0, 1) := by decide +kernel
theorem dX8_init_133 : decode cX8_init 133 = .ok (.bipush 40, 2) := by decide +kernel
theorem dX8_init_135 : decode cX8_init 135 = .ok (.newarray .int, 2) := by decide +kernel
theorem dX8_init_137 : decode cX8_init 137 = .ok (.putfield 62, 3) := by decide +kernel
theorem dX8_init_140 : decode cX8_init 140 = .ok (.aload_n 0, 1) := by decide +kernel
theorem dX8_init_141 : decode cX8_init 141 = .ok (.bipush 40, 2) := by decide +kernel
theorem dX8_init_143 : decode cX8_init 143 = .ok (.newarray .int, 2) := by decide +kernel
theorem dX8_init_145 : decode cX8_init 145 = .ok (.putfield 65, 3) := by decide +kernel
theorem dX8_init_148 : decode cX8_init 148 = .ok (.aload_n 0, 1) := by decide +kernel
theorem dX8_init_149 : decode cX8_init 149 = .ok (.bipush 40, 2) := by decide +kernel
theorem dX8_init_151 : decode cX8_init 151 = .ok (.newarray .int, 2) := by decide +kernel
theorem dX8_init_153 : decode cX8_init 153 = .ok (.putfield 68, 3) := by decide +kernel
theorem dX8_init_156 : decode cX8_init 156 = .ok (.aload_n 0, 1) := by decide +kernel
theorem dX8_init_157 : decode cX8_init 157 = .ok (.bipush 40, 2) := by decide +kernel
theorem dX8_init_159 : decode cX8_init 159 = .ok (.newarray .int, 2) := by decide +kernel
theorem dX8_init_161 : decode cX8_init 161 = .ok (.putfield 71, 3) := by decide +kernel
theorem dX8_init_164 : decode cX8_init 164 = .ok (.aload_n 0, 1) := by decide +kernel
theorem dX8_init_165 : decode cX8_init 165 = .ok (.bipush 40, 2) := by decide +kernel
theorem dX8_init_167 : decode cX8_init 167 = .ok (.newarray .int, 2) := by decide +kernel
theorem dX8_init_169 : decode cX8_init 169 = .ok (.putfield 74, 3) := by decide +kernel
theorem dX8_init_172 : decode cX8_init 172 = .ok (.aload_n 0, 1) := by decide +kernel
theorem dX8_init_173 : decode cX8_init 173 = .ok (.bipush 40, 2) := by decide +kernel
theorem dX8_init_175 : decode cX8_init 175 = .ok (.newarray .int, 2) := by decide +kernel
theorem dX8_init_177 : decode cX8_init 177 = .ok (.putfield 77, 3) := by decide +kernel
theorem dX8_init_180 : decode cX8_init 180 = .ok (.aload_n 0, 1) := by decide +kernel
theorem dX8_init_181 : decode cX8_init 181 = .ok (.bipush 40, 2) := by decide +kernel
theorem dX8_init_183 : decode cX8_init 183 = .ok (.newarray .int, 2) := by decide +kernel
theorem dX8_init_185 : decode cX8_init 185 = .ok (.putfield 80, 3) := by decide +kernel
theorem dX8_init_188 : decode cX8_init 188 = .ok (.aload_n 0, 1) := by decide +kernel
theorem dX8_init_189 : decode cX8_init 189 = .ok (.bipush 40, 2) := by decide +kernel
theorem dX8_init_191 : decode cX8_init 191 = .ok (.newarray .int, 2) := by decide +kernel
theorem dX8_init_193 : decode cX8_init 193 = .ok (.putfield 83, 3) := by decide +kernel
theorem dX8_init_196 : decode cX8_init 196 = .ok (.aload_n 0, 1) := by decide +kernel
theorem dX8_init_197 : decode cX8_init 197 = .ok (.bipush 40, 2) := by decide +kernel
theorem dX8_init_199 : decode cX8_init 199 = .ok (.newarray .int, 2) := by decide +kernel
theorem dX8_init_201 : decode cX8_init 201 = .ok (.putfield 86, 3) := by decide +kernel
theorem dX8_init_204 : decode cX8_init 204 = .ok (.aload_n 0, 1) := by decide +kernel
theorem dX8_init_205 : decode cX8_init 205 = .ok (.iconst 0, 1) := by decide +kernel
theorem dX8_init_206 : decode cX8_init 206 = .ok (.invokevirtual 89, 3) := by decide +kernel
theorem dX8_init_209 : decode cX8_init 209 = .ok (.aload_n 0, 1) := by decide +kernel
theorem dX8_init_210 : decode cX8_init 210 = .ok (.invokevirtual 93, 3) := by decide +kernel
theorem dX8_init_213 : decode cX8_init 213 = .ok (.return_, 1) := by decide +kernel
theorem dX8_in_0 : decode cX8_in 0 = .ok (.lload_n 0, 1) := by decide +kernel
theorem dX8_in_1 : decode cX8_in 1 = .ok (.lload_n 2, 1) := by decide +kernel
theorem dX8_in_2 : decode cX8_in 2 = .ok (.lcmp, 1) := by decide +kernel
theorem dX8_in_3 : decode cX8_in 3 = .ok (.ifCond .lt 14, 3) := by decide +kernel
theorem dX8_in_6 : decode cX8_in 6 = .ok (.lload_n 0, 1) := by decide +kernel
theorem dX8_in_7 : decode cX8_in 7 = .ok (.lload 4, 2) := by decide +kernel
theorem dX8_in_9 : decode cX8_in 9 = .ok (.lcmp, 1) := by decide +kernel
theorem dX8_in_10 : decode cX8_in 10 = .ok (.ifCond .gt 7, 3) := by decide +kernel
theorem dX8_in_13 : decode cX8_in 13 = .ok (.iconst 1, 1) := by decide +kernel
theorem dX8_in_14 : decode cX8_in 14 = .ok (.goto 4, 3) := by decide +kernel
theorem dX8_in_17 : decode cX8_in 17 = .ok (.iconst 0, 1) := by decide +kernel
theorem dX8_in_18 : decode cX8_in 18 = .ok (.ireturn, 1) := by decide +kernel
theorem dX8_noBook_0 : decode cX8_noBook 0 = .ok (.aload_n 0, 1) := by decide +kernel
theorem dX8_noBook_1 : decode cX8_noBook 1 = .ok (.getfield 13, 3) := by decide +kernel
theorem dX8_noBook_4 : decode cX8_noBook 4 = .ok (.iload_n 1, 1) := by decide +kernel
theorem dX8_noBook_5 : decode cX8_noBook 5 = .ok (.bipush 10, 2) := by decide +kernel
theorem dX8_noBook_7 : decode cX8_noBook 7 = .ok (.iastore, 1) := by decide +kernel
theorem dX8_noBook_8 : decode cX8_noBook 8 = .ok (.aload_n 0, 1) := by decide +kernel
theorem dX8_noBook_9 : decode cX8_noBook 9 = .ok (.getfield 16, 3) := by decide +kernel
theorem dX8_noBook_12 : decode cX8_noBook 12 = .ok (.iload_n 1, 1) := by decide +kernel
theorem dX8_noBook_13 : decode cX8_noBook 13 = .ok (.bipush 9, 2) := by decide +kernel
theorem dX8_noBook_15 : decode cX8_noBook 15 = .ok (.iastore, 1) := by decide +kernel
theorem dX8_noBook_16 : decode cX8_noBook 16 = .ok (.aload_n 0, 1) := by decide +kernel
theorem dX8_noBook_17 : decode cX8_noBook 17 = .ok (.getfield 19, 3) := by decide +kernel
theorem dX8_noBook_20 : decode cX8_noBook 20 = .ok (.iload_n 1, 1) := by decide +kernel
theorem dX8_noBook_21 : decode cX8_noBook 21 = .ok (.iconst 0, 1) := by decide +kernel
theorem dX8_noBook_22 : decode cX8_noBook 22 = .ok (.iastore, 1) := by decide +kernel
theorem dX8_noBook_23 : decode cX8_noBook 23 = .ok (.aload_n 0, 1) := by decide +kernel
theorem dX8_noBook_24 : decode cX8_noBook 24 = .ok (.getfield 22, 3) := by decide +kernel
theorem dX8_noBook_27 : decode cX8_noBook 27 = .ok (.iload_n 1, 1) := by decide +kernel
theorem dX8_noBook_28 : decode cX8_noBook 28 = .ok (.iconst 2, 1) := by decide +kernel
theorem dX8_noBook_29 : decode cX8_noBook 29 = .ok (.iastore, 1) := by decide +kernel
theorem dX8_noBook_30 : decode cX8_noBook 30 = .ok (.aload_n 0, 1) := by decide +kernel
theorem dX8_noBook_31 : decode cX8_noBook 31 = .ok (.getfield 25, 3) := by decide +kernel
theorem dX8_noBook_34 : decode cX8_noBook 34 = .ok (.iload_n 1, 1) := by decide +kernel
theorem dX8_noBook_35 : decode cX8_noBook 35 = .ok (.iconst 0, 1) := by decide +kernel
theorem dX8_noBook_36 : decode cX8_noBook 36 = .ok (.iastore, 1) := by decide +kernel
theorem dX8_noBook_37 : decode cX8_noBook 37 = .ok (.aload_n 0, 1) := by decide +kernel
theorem dX8_noBook_38 : decode cX8_noBook 38 = .ok (.getfield 31, 3) := by decide +kernel
theorem dX8_noBook_41 : decode cX8_noBook 41 = .ok (.iload_n 1, 1) := by decide +kernel
theorem dX8_noBook_42 : decode cX8_noBook 42 = .ok (.iconst 0, 1) := by decide +kernel
theorem dX8_noBook_43 : decode cX8_noBook 43 = .ok (.iastore, 1) := by decide +kernel
theorem dX8_noBook_44 : decode cX8_noBook 44 = .ok (.return_, 1) := by decide +kernel
theorem dX8_write_0 : decode cX8_write 0 = .ok (.iload_n 1, 1) := by decide +kernel
theorem dX8_write_1 : decode cX8_write 1 = .ok (.i2l, 1) := by decide +kernel
theorem dX8_write_2 : decode cX8_write 2 = .ok (.lconst 1, 1) := by decide +kernel
theorem dX8_write_3 : decode cX8_write 3 = .ok (.ldc2_w 96, 3) := by decide +kernel
theorem dX8_write_6 : decode cX8_write 6 = .ok (.invokestatic 98, 3) := by decide +kernel
theorem dX8_write_9 : decode cX8_write 9 = .ok (.ifCond .ne 5, 3) := by decide +kernel
theorem dX8_write_12 : decode cX8_write 12 = .ok (.iconst (-1), 1) := by decide +kernel
theorem dX8_write_13 : decode cX8_write 13 = .ok (.ireturn, 1) := by decide +kernel
theorem dX8_write_14 : decode cX8_write 14 = .ok (.aload_n 0, 1) := by decide +kernel
theorem dX8_write_15 : decode cX8_write 15 = .ok (.getfield 102, 3) := by decide +kernel
theorem dX8_write_18 : decode cX8_write 18 = .ok (.iload_n 1, 1) := by decide +kernel
theorem dX8_write_19 : decode cX8_write 19 = .ok (.iadd, 1) := by decide +kernel
theorem dX8_write_20 : decode cX8_write 20 = .ok (.sipush 300, 3) := by decide +kernel
theorem dX8_write_23 : decode cX8_write 23 = .ok (.if_icmp .le 6, 3) := by decide +kernel
theorem dX8_write_26 : decode cX8_write 26 = .ok (.bipush (-3), 2) := by decide +kernel
theorem dX8_write_28 : decode cX8_write 28 = .ok (.ireturn, 1) := by decide +kernel
theorem dX8_write_29 : decode cX8_write 29 = .ok (.iload_n 1, 1) := by decide +kernel
theorem dX8_write_30 : decode cX8_write 30 = .ok (.iconst 1, 1) := by decide +kernel
theorem dX8_write_31 : decode cX8_write 31 = .ok (.isub, 1) := by decide +kernel
theorem dX8_write_32 : decode cX8_write 32 = .ok (.istore 4, 2) := by decide +kernel
theorem dX8_write_34 : decode cX8_write 34 = .ok (.iload 4, 2) := by decide +kernel
theorem dX8_write_36 : decode cX8_write 36 = .ok (.ifCond .lt 40, 3) := by decide +kernel
theorem dX8_write_39 : decode cX8_write 39 = .ok (.aload_n 0, 1) := by decide +kernel
theorem dX8_write_40 : decode cX8_write 40 = .ok (.getfield 7, 3) := by decide +kernel
theorem dX8_write_43 : decode cX8_write 43 = .ok (.aload_n 0, 1) := by decide +kernel
theorem dX8_write_44 : decode cX8_write 44 = .ok (.getfield 102, 3) := by decide +kernel
theorem dX8_write_47 : decode cX8_write 47 = .ok (.lload_n 2, 1) := by decide +kernel
theorem dX8_write_48 : decode cX8_write 48 = .ok (.bipush 8, 2) := by decide +kernel
theorem dX8_write_50 : decode cX8_write 50 = .ok (.iload 4, 2) := by decide +kernel
theorem dX8_write_52 : decode cX8_write 52 = .ok (.imul, 1) := by decide +kernel
theorem dX8_write_53 : decode cX8_write 53 = .ok (.lshr, 1) := by decide +kernel
theorem dX8_write_54 : decode cX8_write 54 = .ok (.ldc2_w 106, 3) := by decide +kernel
theorem dX8_write_57 : decode cX8_write 57 = .ok (.land, 1) := by decide +kernel
theorem dX8_write_58 : decode cX8_write 58 = .ok (.l2i, 1) := by decide +kernel
theorem dX8_write_59 : decode cX8_write 59 = .ok (.iastore, 1) := by decide +kernel
theorem dX8_write_60 : decode cX8_write 60 = .ok (.aload_n 0, 1) := by decide +kernel
theorem dX8_write_61 : decode cX8_write 61 = .ok (.dup, 1) := by decide +kernel
theorem dX8_write_62 : decode cX8_write 62 = .ok (.getfield 102, 3) := by decide +kernel
theorem dX8_write_65 : decode cX8_write 65 = .ok (.iconst 1, 1) := by decide +kernel
theorem dX8_write_66 : decode cX8_write 66 = .ok (.iadd, 1) := by decide +kernel
theorem dX8_write_67 : decode cX8_write 67 = .ok (.putfield 102, 3) := by decide +kernel
theorem dX8_write_70 : decode cX8_write 70 = .ok (.iinc 4 (-1), 3) := by decide +kernel
theorem dX8_write_73 : decode cX8_write 73 = .ok (.goto (-39), 3) := by decide +kernel
theorem dX8_write_76 : decode cX8_write 76 = .ok (.aload_n 0, 1) := by decide +kernel
theorem dX8_write_77 : decode cX8_write 77 = .ok (.getfield 102, 3) := by decide +kernel
theorem dX8_write_80 : decode cX8_write 80 = .ok (.ireturn, 1) := by decide +kernel
theorem dX8_wipe_0 : decode cX8_wipe 0 = .ok (.aload_n 0, 1) := by decide +kernel
theorem dX8_wipe_1 : decode cX8_wipe 1 = .ok (.getfield 102, 3) := by decide +kernel
theorem dX8_wipe_4 : decode cX8_wipe 4 = .ok (.istore_n 1, 1) := by decide +kernel
theorem dX8_wipe_5 : decode cX8_wipe 5 = .ok (.aload_n 0, 1) := by decide +kernel
theorem dX8_wipe_6 : decode cX8_wipe 6 = .ok (.iconst 0, 1) := by decide +kernel
theorem dX8_wipe_7 : decode cX8_wipe 7 = .ok (.putfield 102, 3) := by decide +kernel
theorem dX8_wipe_10 : decode cX8_wipe 10 = .ok (.iload_n 1, 1) := by decide +kernel
theorem dX8_wipe_11 : decode cX8_wipe 11 = .ok (.ireturn, 1) := by decide +kernel
theorem dX8_byteAt_0 : decode cX8_byteAt 0 = .ok (.iload_n 1, 1) := by decide +kernel
theorem dX8_byteAt_1 : decode cX8_byteAt 1 = .ok (.aload_n 0, 1) := by decide +kernel
theorem dX8_byteAt_2 : decode cX8_byteAt 2 = .ok (.getfield 102, 3) := by decide +kernel
theorem dX8_byteAt_5 : decode cX8_byteAt 5 = .ok (.if_icmp .ge 12, 3) := by decide +kernel
theorem dX8_byteAt_8 : decode cX8_byteAt 8 = .ok (.aload_n 0, 1) := by decide +kernel
theorem dX8_byteAt_9 : decode cX8_byteAt 9 = .ok (.getfield 7, 3) := by decide +kernel
theorem dX8_byteAt_12 : decode cX8_byteAt 12 = .ok (.iload_n 1, 1) := by decide +kernel
theorem dX8_byteAt_13 : decode cX8_byteAt 13 = .ok (.iaload, 1) := by decide +kernel
theorem dX8_byteAt_14 : decode cX8_byteAt 14 = .ok (.goto 4, 3) := by decide +kernel
theorem dX8_byteAt_17 : decode cX8_byteAt 17 = .ok (.iconst 0, 1) := by decide +kernel
theorem dX8_byteAt_18 : decode cX8_byteAt 18 = .ok (.ireturn, 1) := by decide +kernel
theorem dX8_figures_0 : decode cX8_figures 0 = .ok (.iconst 0, 1) := by decide +kernel
theorem dX8_figures_1 : decode cX8_figures 1 = .ok (.istore_n 2, 1) := by decide +kernel
theorem dX8_figures_2 : decode cX8_figures 2 = .ok (.iload_n 2, 1) := by decide +kernel
theorem dX8_figures_3 : decode cX8_figures 3 = .ok (.iload_n 1, 1) := by decide +kernel
theorem dX8_figures_4 : decode cX8_figures 4 = .ok (.if_icmp .ge 132, 3) := by decide +kernel
theorem dX8_figures_7 : decode cX8_figures 7 = .ok (.iconst 0, 1) := by decide +kernel
theorem dX8_figures_8 : decode cX8_figures 8 = .ok (.istore_n 3, 1) := by decide +kernel
theorem dX8_figures_9 : decode cX8_figures 9 = .ok (.iconst 0, 1) := by decide +kernel
theorem dX8_figures_10 : decode cX8_figures 10 = .ok (.istore 4, 2) := by decide +kernel
theorem dX8_figures_12 : decode cX8_figures 12 = .ok (.aload_n 0, 1) := by decide +kernel
theorem dX8_figures_13 : decode cX8_figures 13 = .ok (.aload_n 0, 1) := by decide +kernel
theorem dX8_figures_14 : decode cX8_figures 14 = .ok (.getfield 108, 3) := by decide +kernel
theorem dX8_figures_17 : decode cX8_figures 17 = .ok (.invokevirtual 111, 3) := by decide +kernel
theorem dX8_figures_20 : decode cX8_figures 20 = .ok (.i2l, 1) := by decide +kernel
theorem dX8_figures_21 : decode cX8_figures 21 = .ok (.ldc2_w 115, 3) := by decide +kernel
theorem dX8_figures_24 : decode cX8_figures 24 = .ok (.ldc2_w 117, 3) := by decide +kernel
theorem dX8_figures_27 : decode cX8_figures 27 = .ok (.invokestatic 98, 3) := by decide +kernel
theorem dX8_figures_30 : decode cX8_figures 30 = .ok (.ifCond .eq 43, 3) := by decide +kernel
theorem dX8_figures_33 : decode cX8_figures 33 = .ok (.iload_n 3, 1) := by decide +kernel
theorem dX8_figures_34 : decode cX8_figures 34 = .ok (.iconst 3, 1) := by decide +kernel
theorem dX8_figures_35 : decode cX8_figures 35 = .ok (.if_icmp .ge 38, 3) := by decide +kernel
theorem dX8_figures_38 : decode cX8_figures 38 = .ok (.bipush 10, 2) := by decide +kernel
theorem dX8_figures_40 : decode cX8_figures 40 = .ok (.iload 4, 2) := by decide +kernel
theorem dX8_figures_42 : decode cX8_figures 42 = .ok (.imul, 1) := by decide +kernel
theorem dX8_figures_43 : decode cX8_figures 43 = .ok (.aload_n 0, 1) := by decide +kernel
theorem dX8_figures_44 : decode cX8_figures 44 = .ok (.aload_n 0, 1) := by decide +kernel
theorem dX8_figures_45 : decode cX8_figures 45 = .ok (.getfield 108, 3) := by decide +kernel
theorem dX8_figures_48 : decode cX8_figures 48 = .ok (.invokevirtual 111, 3) := by decide +kernel
theorem dX8_figures_51 : decode cX8_figures 51 = .ok (.iadd, 1) := by decide +kernel
theorem dX8_figures_52 : decode cX8_figures 52 = .ok (.bipush 48, 2) := by decide +kernel
theorem dX8_figures_54 : decode cX8_figures 54 = .ok (.isub, 1) := by decide +kernel
theorem dX8_figures_55 : decode cX8_figures 55 = .ok (.istore 4, 2) := by decide +kernel
theorem dX8_figures_57 : decode cX8_figures 57 = .ok (.iinc 3 1, 3) := by decide +kernel
theorem dX8_figures_60 : decode cX8_figures 60 = .ok (.aload_n 0, 1) := by decide +kernel
theorem dX8_figures_61 : decode cX8_figures 61 = .ok (.dup, 1) := by decide +kernel
theorem dX8_figures_62 : decode cX8_figures 62 = .ok (.getfield 108, 3) := by decide +kernel
theorem dX8_figures_65 : decode cX8_figures 65 = .ok (.iconst 1, 1) := by decide +kernel
theorem dX8_figures_66 : decode cX8_figures 66 = .ok (.iadd, 1) := by decide +kernel
theorem dX8_figures_67 : decode cX8_figures 67 = .ok (.putfield 108, 3) := by decide +kernel
theorem dX8_figures_70 : decode cX8_figures 70 = .ok (.goto (-58), 3) := by decide +kernel
theorem dX8_figures_73 : decode cX8_figures 73 = .ok (.iload_n 3, 1) := by decide +kernel
theorem dX8_figures_74 : decode cX8_figures 74 = .ok (.i2l, 1) := by decide +kernel
theorem dX8_figures_75 : decode cX8_figures 75 = .ok (.lconst 1, 1) := by decide +kernel
theorem dX8_figures_76 : decode cX8_figures 76 = .ok (.ldc2_w 119, 3) := by decide +kernel
theorem dX8_figures_79 : decode cX8_figures 79 = .ok (.invokestatic 98, 3) := by decide +kernel
theorem dX8_figures_82 : decode cX8_figures 82 = .ok (.ifCond .eq 28, 3) := by decide +kernel
theorem dX8_figures_85 : decode cX8_figures 85 = .ok (.aload_n 0, 1) := by decide +kernel
theorem dX8_figures_86 : decode cX8_figures 86 = .ok (.aload_n 0, 1) := by decide +kernel
theorem dX8_figures_87 : decode cX8_figures 87 = .ok (.getfield 108, 3) := by decide +kernel
theorem dX8_figures_90 : decode cX8_figures 90 = .ok (.invokevirtual 111, 3) := by decide +kernel
theorem dX8_figures_93 : decode cX8_figures 93 = .ok (.iload_n 2, 1) := by decide +kernel
theorem dX8_figures_94 : decode cX8_figures 94 = .ok (.iload_n 1, 1) := by decide +kernel
theorem dX8_figures_95 : decode cX8_figures 95 = .ok (.iconst 1, 1) := by decide +kernel
theorem dX8_figures_96 : decode cX8_figures 96 = .ok (.isub, 1) := by decide +kernel
theorem dX8_figures_97 : decode cX8_figures 97 = .ok (.if_icmp .ge 8, 3) := by decide +kernel
theorem dX8_figures_100 : decode cX8_figures 100 = .ok (.bipush 44, 2) := by decide +kernel
theorem dX8_figures_102 : decode cX8_figures 102 = .ok (.goto 5, 3) := by decide +kernel
theorem dX8_figures_105 : decode cX8_figures 105 = .ok (.bipush 59, 2) := by decide +kernel
theorem dX8_figures_107 : decode cX8_figures 107 = .ok (.if_icmp .eq 5, 3) := by decide +kernel
theorem dX8_figures_110 : decode cX8_figures 110 = .ok (.iconst 0, 1) := by decide +kernel
theorem dX8_figures_111 : decode cX8_figures 111 = .ok (.ireturn, 1) := by decide +kernel
theorem dX8_figures_112 : decode cX8_figures 112 = .ok (.aload_n 0, 1) := by decide +kernel
theorem dX8_figures_113 : decode cX8_figures 113 = .ok (.getfield 59, 3) := by decide +kernel
theorem dX8_figures_116 : decode cX8_figures 116 = .ok (.iload_n 2, 1) := by decide +kernel
theorem dX8_figures_117 : decode cX8_figures 117 = .ok (.iload 4, 2) := by decide +kernel
theorem dX8_figures_119 : decode cX8_figures 119 = .ok (.iastore, 1) := by decide +kernel
theorem dX8_figures_120 : decode cX8_figures 120 = .ok (.aload_n 0, 1) := by decide +kernel
theorem dX8_figures_121 : decode cX8_figures 121 = .ok (.dup, 1) := by decide +kernel
theorem dX8_figures_122 : decode cX8_figures 122 = .ok (.getfield 108, 3) := by decide +kernel
theorem dX8_figures_125 : decode cX8_figures 125 = .ok (.iconst 1, 1) := by decide +kernel
theorem dX8_figures_126 : decode cX8_figures 126 = .ok (.iadd, 1) := by decide +kernel
theorem dX8_figures_127 : decode cX8_figures 127 = .ok (.putfield 108, 3) := by decide +kernel
theorem dX8_figures_130 : decode cX8_figures 130 = .ok (.iinc 2 1, 3) := by decide +kernel
theorem dX8_figures_133 : decode cX8_figures 133 = .ok (.goto (-131), 3) := by decide +kernel
theorem dX8_figures_136 : decode cX8_figures 136 = .ok (.iconst 1, 1) := by decide +kernel
theorem dX8_figures_137 : decode cX8_figures 137 = .ok (.ireturn, 1) := by decide +kernel
theorem dX8_item_0 : decode cX8_item 0 = .ok (.aload_n 0, 1) := by decide +kernel
theorem dX8_item_1 : decode cX8_item 1 = .ok (.aload_n 0, 1) := by decide +kernel
theorem dX8_item_2 : decode cX8_item 2 = .ok (.getfield 108, 3) := by decide +kernel
theorem dX8_item_5 : decode cX8_item 5 = .ok (.invokevirtual 111, 3) := by decide +kernel
theorem dX8_item_8 : decode cX8_item 8 = .ok (.istore_n 1, 1) := by decide +kernel
theorem dX8_item_9 : decode cX8_item 9 = .ok (.aload_n 0, 1) := by decide +kernel
theorem dX8_item_10 : decode cX8_item 10 = .ok (.dup, 1) := by decide +kernel
theorem dX8_item_11 : decode cX8_item 11 = .ok (.getfield 108, 3) := by decide +kernel
theorem dX8_item_14 : decode cX8_item 14 = .ok (.iconst 1, 1) := by decide +kernel
theorem dX8_item_15 : decode cX8_item 15 = .ok (.iadd, 1) := by decide +kernel
theorem dX8_item_16 : decode cX8_item 16 = .ok (.putfield 108, 3) := by decide +kernel
theorem dX8_item_19 : decode cX8_item 19 = .ok (.iload_n 1, 1) := by decide +kernel
theorem dX8_item_20 : decode cX8_item 20 = .ok (.tableswitch 356 108 116 #[136, 356, 52, 356, 356, 356, 95, 193, 292], 52) := by decide +kernel
theorem dX8_item_72 : decode cX8_item 72 = .ok (.aload_n 0, 1) := by decide +kernel
theorem dX8_item_73 : decode cX8_item 73 = .ok (.iconst 1, 1) := by decide +kernel
theorem dX8_item_74 : decode cX8_item 74 = .ok (.invokevirtual 121, 3) := by decide +kernel
theorem dX8_item_77 : decode cX8_item 77 = .ok (.ifCond .eq 22, 3) := by decide +kernel
theorem dX8_item_80 : decode cX8_item 80 = .ok (.aload_n 0, 1) := by decide +kernel
theorem dX8_item_81 : decode cX8_item 81 = .ok (.getfield 59, 3) := by decide +kernel
theorem dX8_item_84 : decode cX8_item 84 = .ok (.iconst 0, 1) := by decide +kernel
theorem dX8_item_85 : decode cX8_item 85 = .ok (.iaload, 1) := by decide +kernel
theorem dX8_item_86 : decode cX8_item 86 = .ok (.i2l, 1) := by decide +kernel
theorem dX8_item_87 : decode cX8_item 87 = .ok (.ldc2_w 119, 3) := by decide +kernel
theorem dX8_item_90 : decode cX8_item 90 = .ok (.ldc2_w 125, 3) := by decide +kernel
theorem dX8_item_93 : decode cX8_item 93 = .ok (.invokestatic 98, 3) := by decide +kernel
theorem dX8_item_96 : decode cX8_item 96 = .ok (.ifCond .ne 5, 3) := by decide +kernel
theorem dX8_item_99 : decode cX8_item 99 = .ok (.iconst 0, 1) := by decide +kernel
theorem dX8_item_100 : decode cX8_item 100 = .ok (.ireturn, 1) := by decide +kernel
theorem dX8_item_101 : decode cX8_item 101 = .ok (.aload_n 0, 1) := by decide +kernel
theorem dX8_item_102 : decode cX8_item 102 = .ok (.getfield 13, 3) := by decide +kernel
theorem dX8_item_105 : decode cX8_item 105 = .ok (.iconst 1, 1) := by decide +kernel
theorem dX8_item_106 : decode cX8_item 106 = .ok (.aload_n 0, 1) := by decide +kernel
theorem dX8_item_107 : decode cX8_item 107 = .ok (.getfield 59, 3) := by decide +kernel
theorem dX8_item_110 : decode cX8_item 110 = .ok (.iconst 0, 1) := by decide +kernel
theorem dX8_item_111 : decode cX8_item 111 = .ok (.iaload, 1) := by decide +kernel
theorem dX8_item_112 : decode cX8_item 112 = .ok (.iastore, 1) := by decide +kernel
theorem dX8_item_113 : decode cX8_item 113 = .ok (.iconst 1, 1) := by decide +kernel
theorem dX8_item_114 : decode cX8_item 114 = .ok (.ireturn, 1) := by decide +kernel
theorem dX8_item_115 : decode cX8_item 115 = .ok (.aload_n 0, 1) := by decide +kernel
theorem dX8_item_116 : decode cX8_item 116 = .ok (.iconst 1, 1) := by decide +kernel
theorem dX8_item_117 : decode cX8_item 117 = .ok (.invokevirtual 121, 3) := by decide +kernel
theorem dX8_item_120 : decode cX8_item 120 = .ok (.ifCond .eq 20, 3) := by decide +kernel
theorem dX8_item_123 : decode cX8_item 123 = .ok (.aload_n 0, 1) := by decide +kernel
theorem dX8_item_124 : decode cX8_item 124 = .ok (.getfield 59, 3) := by decide +kernel
theorem dX8_item_127 : decode cX8_item 127 = .ok (.iconst 0, 1) := by decide +kernel
theorem dX8_item_128 : decode cX8_item 128 = .ok (.iaload, 1) := by decide +kernel
theorem dX8_item_129 : decode cX8_item 129 = .ok (.i2l, 1) := by decide +kernel
theorem dX8_item_130 : decode cX8_item 130 = .ok (.lconst 1, 1) := by decide +kernel
theorem dX8_item_131 : decode cX8_item 131 = .ok (.ldc2_w 125, 3) := by decide +kernel
theorem dX8_item_134 : decode cX8_item 134 = .ok (.invokestatic 98, 3) := by decide +kernel
theorem dX8_item_137 : decode cX8_item 137 = .ok (.ifCond .ne 5, 3) := by decide +kernel
theorem dX8_item_140 : decode cX8_item 140 = .ok (.iconst 0, 1) := by decide +kernel
theorem dX8_item_141 : decode cX8_item 141 = .ok (.ireturn, 1) := by decide +kernel
theorem dX8_item_142 : decode cX8_item 142 = .ok (.aload_n 0, 1) := by decide +kernel
theorem dX8_item_143 : decode cX8_item 143 = .ok (.getfield 16, 3) := by decide +kernel
theorem dX8_item_146 : decode cX8_item 146 = .ok (.iconst 1, 1) := by decide +kernel
theorem dX8_item_147 : decode cX8_item 147 = .ok (.aload_n 0, 1) := by decide +kernel
theorem dX8_item_148 : decode cX8_item 148 = .ok (.getfield 59, 3) := by decide +kernel
theorem dX8_item_151 : decode cX8_item 151 = .ok (.iconst 0, 1) := by decide +kernel
theorem dX8_item_152 : decode cX8_item 152 = .ok (.iaload, 1) := by decide +kernel
theorem dX8_item_153 : decode cX8_item 153 = .ok (.iastore, 1) := by decide +kernel
theorem dX8_item_154 : decode cX8_item 154 = .ok (.iconst 1, 1) := by decide +kernel
theorem dX8_item_155 : decode cX8_item 155 = .ok (.ireturn, 1) := by decide +kernel
theorem dX8_item_156 : decode cX8_item 156 = .ok (.aload_n 0, 1) := by decide +kernel
theorem dX8_item_157 : decode cX8_item 157 = .ok (.iconst 2, 1) := by decide +kernel
theorem dX8_item_158 : decode cX8_item 158 = .ok (.invokevirtual 121, 3) := by decide +kernel
theorem dX8_item_161 : decode cX8_item 161 = .ok (.ifCond .eq 24, 3) := by decide +kernel
theorem dX8_item_164 : decode cX8_item 164 = .ok (.aload_n 0, 1) := by decide +kernel
theorem dX8_item_165 : decode cX8_item 165 = .ok (.getfield 59, 3) := by decide +kernel
theorem dX8_item_168 : decode cX8_item 168 = .ok (.iconst 0, 1) := by decide +kernel
theorem dX8_item_169 : decode cX8_item 169 = .ok (.iaload, 1) := by decide +kernel
theorem dX8_item_170 : decode cX8_item 170 = .ok (.iconst 3, 1) := by decide +kernel
theorem dX8_item_171 : decode cX8_item 171 = .ok (.if_icmp .gt 14, 3) := by decide +kernel
theorem dX8_item_174 : decode cX8_item 174 = .ok (.aload_n 0, 1) := by decide +kernel
theorem dX8_item_175 : decode cX8_item 175 = .ok (.getfield 59, 3) := by decide +kernel
theorem dX8_item_178 : decode cX8_item 178 = .ok (.iconst 1, 1) := by decide +kernel
theorem dX8_item_179 : decode cX8_item 179 = .ok (.iaload, 1) := by decide +kernel
theorem dX8_item_180 : decode cX8_item 180 = .ok (.bipush 39, 2) := by decide +kernel
theorem dX8_item_182 : decode cX8_item 182 = .ok (.if_icmp .le 5, 3) := by decide +kernel
theorem dX8_item_185 : decode cX8_item 185 = .ok (.iconst 0, 1) := by decide +kernel
theorem dX8_item_186 : decode cX8_item 186 = .ok (.ireturn, 1) := by decide +kernel
theorem dX8_item_187 : decode cX8_item 187 = .ok (.aload_n 0, 1) := by decide +kernel
theorem dX8_item_188 : decode cX8_item 188 = .ok (.getfield 19, 3) := by decide +kernel
theorem dX8_item_191 : decode cX8_item 191 = .ok (.iconst 1, 1) := by decide +kernel
theorem dX8_item_192 : decode cX8_item 192 = .ok (.aload_n 0, 1) := by decide +kernel
theorem dX8_item_193 : decode cX8_item 193 = .ok (.getfield 59, 3) := by decide +kernel
theorem dX8_item_196 : decode cX8_item 196 = .ok (.iconst 0, 1) := by decide +kernel
theorem dX8_item_197 : decode cX8_item 197 = .ok (.iaload, 1) := by decide +kernel
theorem dX8_item_198 : decode cX8_item 198 = .ok (.iastore, 1) := by decide +kernel
theorem dX8_item_199 : decode cX8_item 199 = .ok (.aload_n 0, 1) := by decide +kernel
theorem dX8_item_200 : decode cX8_item 200 = .ok (.getfield 22, 3) := by decide +kernel
theorem dX8_item_203 : decode cX8_item 203 = .ok (.iconst 1, 1) := by decide +kernel
theorem dX8_item_204 : decode cX8_item 204 = .ok (.aload_n 0, 1) := by decide +kernel
theorem dX8_item_205 : decode cX8_item 205 = .ok (.getfield 59, 3) := by decide +kernel
theorem dX8_item_208 : decode cX8_item 208 = .ok (.iconst 1, 1) := by decide +kernel
theorem dX8_item_209 : decode cX8_item 209 = .ok (.iaload, 1) := by decide +kernel
theorem dX8_item_210 : decode cX8_item 210 = .ok (.iastore, 1) := by decide +kernel
theorem dX8_item_211 : decode cX8_item 211 = .ok (.iconst 1, 1) := by decide +kernel
theorem dX8_item_212 : decode cX8_item 212 = .ok (.ireturn, 1) := by decide +kernel
theorem dX8_item_213 : decode cX8_item 213 = .ok (.aload_n 0, 1) := by decide +kernel
theorem dX8_item_214 : decode cX8_item 214 = .ok (.iconst 2, 1) := by decide +kernel
theorem dX8_item_215 : decode cX8_item 215 = .ok (.invokevirtual 121, 3) := by decide +kernel
theorem dX8_item_218 : decode cX8_item 218 = .ok (.ifCond .eq 36, 3) := by decide +kernel
theorem dX8_item_221 : decode cX8_item 221 = .ok (.aload_n 0, 1) := by decide +kernel
theorem dX8_item_222 : decode cX8_item 222 = .ok (.getfield 59, 3) := by decide +kernel
theorem dX8_item_225 : decode cX8_item 225 = .ok (.iconst 0, 1) := by decide +kernel
theorem dX8_item_226 : decode cX8_item 226 = .ok (.iaload, 1) := by decide +kernel
theorem dX8_item_227 : decode cX8_item 227 = .ok (.bipush 39, 2) := by decide +kernel
theorem dX8_item_229 : decode cX8_item 229 = .ok (.if_icmp .gt 25, 3) := by decide +kernel
theorem dX8_item_232 : decode cX8_item 232 = .ok (.aload_n 0, 1) := by decide +kernel
theorem dX8_item_233 : decode cX8_item 233 = .ok (.getfield 59, 3) := by decide +kernel
theorem dX8_item_236 : decode cX8_item 236 = .ok (.iconst 1, 1) := by decide +kernel
theorem dX8_item_237 : decode cX8_item 237 = .ok (.iaload, 1) := by decide +kernel
theorem dX8_item_238 : decode cX8_item 238 = .ok (.bipush 39, 2) := by decide +kernel
theorem dX8_item_240 : decode cX8_item 240 = .ok (.if_icmp .gt 14, 3) := by decide +kernel
theorem dX8_item_243 : decode cX8_item 243 = .ok (.aload_n 0, 1) := by decide +kernel
theorem dX8_item_244 : decode cX8_item 244 = .ok (.getfield 25, 3) := by decide +kernel
theorem dX8_item_247 : decode cX8_item 247 = .ok (.iconst 1, 1) := by decide +kernel
theorem dX8_item_248 : decode cX8_item 248 = .ok (.iaload, 1) := by decide +kernel
theorem dX8_item_249 : decode cX8_item 249 = .ok (.bipush 20, 2) := by decide +kernel
theorem dX8_item_251 : decode cX8_item 251 = .ok (.if_icmp .ne 5, 3) := by decide +kernel
theorem dX8_item_254 : decode cX8_item 254 = .ok (.iconst 0, 1) := by decide +kernel
theorem dX8_item_255 : decode cX8_item 255 = .ok (.ireturn, 1) := by decide +kernel
theorem dX8_item_256 : decode cX8_item 256 = .ok (.aload_n 0, 1) := by decide +kernel
theorem dX8_item_257 : decode cX8_item 257 = .ok (.getfield 28, 3) := by decide +kernel
theorem dX8_item_260 : decode cX8_item 260 = .ok (.bipush 40, 2) := by decide +kernel
theorem dX8_item_262 : decode cX8_item 262 = .ok (.iconst 2, 1) := by decide +kernel
theorem dX8_item_263 : decode cX8_item 263 = .ok (.aload_n 0, 1) := by decide +kernel
theorem dX8_item_264 : decode cX8_item 264 = .ok (.getfield 25, 3) := by decide +kernel
theorem dX8_item_267 : decode cX8_item 267 = .ok (.iconst 1, 1) := by decide +kernel
theorem dX8_item_268 : decode cX8_item 268 = .ok (.iaload, 1) := by decide +kernel
theorem dX8_item_269 : decode cX8_item 269 = .ok (.imul, 1) := by decide +kernel
theorem dX8_item_270 : decode cX8_item 270 = .ok (.iadd, 1) := by decide +kernel
theorem dX8_item_271 : decode cX8_item 271 = .ok (.aload_n 0, 1) := by decide +kernel
theorem dX8_item_272 : decode cX8_item 272 = .ok (.getfield 59, 3) := by decide +kernel
theorem dX8_item_275 : decode cX8_item 275 = .ok (.iconst 0, 1) := by decide +kernel
theorem dX8_item_276 : decode cX8_item 276 = .ok (.iaload, 1) := by decide +kernel
theorem dX8_item_277 : decode cX8_item 277 = .ok (.iastore, 1) := by decide +kernel
theorem dX8_item_278 : decode cX8_item 278 = .ok (.aload_n 0, 1) := by decide +kernel
theorem dX8_item_279 : decode cX8_item 279 = .ok (.getfield 28, 3) := by decide +kernel
theorem dX8_item_282 : decode cX8_item 282 = .ok (.bipush 41, 2) := by decide +kernel
theorem dX8_item_284 : decode cX8_item 284 = .ok (.iconst 2, 1) := by decide +kernel
theorem dX8_item_285 : decode cX8_item 285 = .ok (.aload_n 0, 1) := by decide +kernel
theorem dX8_item_286 : decode cX8_item 286 = .ok (.getfield 25, 3) := by decide +kernel
theorem dX8_item_289 : decode cX8_item 289 = .ok (.iconst 1, 1) := by decide +kernel
theorem dX8_item_290 : decode cX8_item 290 = .ok (.iaload, 1) := by decide +kernel
theorem dX8_item_291 : decode cX8_item 291 = .ok (.imul, 1) := by decide +kernel
theorem dX8_item_292 : decode cX8_item 292 = .ok (.iadd, 1) := by decide +kernel
theorem dX8_item_293 : decode cX8_item 293 = .ok (.aload_n 0, 1) := by decide +kernel
theorem dX8_item_294 : decode cX8_item 294 = .ok (.getfield 59, 3) := by decide +kernel
theorem dX8_item_297 : decode cX8_item 297 = .ok (.iconst 1, 1) := by decide +kernel
theorem dX8_item_298 : decode cX8_item 298 = .ok (.iaload, 1) := by decide +kernel
theorem dX8_item_299 : decode cX8_item 299 = .ok (.iastore, 1) := by decide +kernel
theorem dX8_item_300 : decode cX8_item 300 = .ok (.aload_n 0, 1) := by decide +kernel
theorem dX8_item_301 : decode cX8_item 301 = .ok (.getfield 25, 3) := by decide +kernel
theorem dX8_item_304 : decode cX8_item 304 = .ok (.iconst 1, 1) := by decide +kernel
theorem dX8_item_305 : decode cX8_item 305 = .ok (.dup2, 1) := by decide +kernel
theorem dX8_item_306 : decode cX8_item 306 = .ok (.iaload, 1) := by decide +kernel
theorem dX8_item_307 : decode cX8_item 307 = .ok (.iconst 1, 1) := by decide +kernel
theorem dX8_item_308 : decode cX8_item 308 = .ok (.iadd, 1) := by decide +kernel
theorem dX8_item_309 : decode cX8_item 309 = .ok (.iastore, 1) := by decide +kernel
theorem dX8_item_310 : decode cX8_item 310 = .ok (.iconst 1, 1) := by decide +kernel
theorem dX8_item_311 : decode cX8_item 311 = .ok (.ireturn, 1) := by decide +kernel
theorem dX8_item_312 : decode cX8_item 312 = .ok (.aload_n 0, 1) := by decide +kernel
theorem dX8_item_313 : decode cX8_item 313 = .ok (.iconst 1, 1) := by decide +kernel
theorem dX8_item_314 : decode cX8_item 314 = .ok (.invokevirtual 121, 3) := by decide +kernel
theorem dX8_item_317 : decode cX8_item 317 = .ok (.ifCond .eq 25, 3) := by decide +kernel
theorem dX8_item_320 : decode cX8_item 320 = .ok (.aload_n 0, 1) := by decide +kernel
theorem dX8_item_321 : decode cX8_item 321 = .ok (.getfield 59, 3) := by decide +kernel
theorem dX8_item_324 : decode cX8_item 324 = .ok (.iconst 0, 1) := by decide +kernel
theorem dX8_item_325 : decode cX8_item 325 = .ok (.iaload, 1) := by decide +kernel
theorem dX8_item_326 : decode cX8_item 326 = .ok (.bipush 39, 2) := by decide +kernel
theorem dX8_item_328 : decode cX8_item 328 = .ok (.if_icmp .gt 14, 3) := by decide +kernel
theorem dX8_item_331 : decode cX8_item 331 = .ok (.aload_n 0, 1) := by decide +kernel
theorem dX8_item_332 : decode cX8_item 332 = .ok (.getfield 31, 3) := by decide +kernel
theorem dX8_item_335 : decode cX8_item 335 = .ok (.iconst 1, 1) := by decide +kernel
theorem dX8_item_336 : decode cX8_item 336 = .ok (.iaload, 1) := by decide +kernel
theorem dX8_item_337 : decode cX8_item 337 = .ok (.bipush 20, 2) := by decide +kernel
theorem dX8_item_339 : decode cX8_item 339 = .ok (.if_icmp .ne 5, 3) := by decide +kernel
theorem dX8_item_342 : decode cX8_item 342 = .ok (.iconst 0, 1) := by decide +kernel
theorem dX8_item_343 : decode cX8_item 343 = .ok (.ireturn, 1) := by decide +kernel
theorem dX8_item_344 : decode cX8_item 344 = .ok (.aload_n 0, 1) := by decide +kernel
theorem dX8_item_345 : decode cX8_item 345 = .ok (.getfield 34, 3) := by decide +kernel
theorem dX8_item_348 : decode cX8_item 348 = .ok (.bipush 20, 2) := by decide +kernel
theorem dX8_item_350 : decode cX8_item 350 = .ok (.aload_n 0, 1) := by decide +kernel
theorem dX8_item_351 : decode cX8_item 351 = .ok (.getfield 31, 3) := by decide +kernel
theorem dX8_item_354 : decode cX8_item 354 = .ok (.iconst 1, 1) := by decide +kernel
theorem dX8_item_355 : decode cX8_item 355 = .ok (.iaload, 1) := by decide +kernel
theorem dX8_item_356 : decode cX8_item 356 = .ok (.iadd, 1) := by decide +kernel
theorem dX8_item_357 : decode cX8_item 357 = .ok (.aload_n 0, 1) := by decide +kernel
theorem dX8_item_358 : decode cX8_item 358 = .ok (.getfield 59, 3) := by decide +kernel
theorem dX8_item_361 : decode cX8_item 361 = .ok (.iconst 0, 1) := by decide +kernel
theorem dX8_item_362 : decode cX8_item 362 = .ok (.iaload, 1) := by decide +kernel
theorem dX8_item_363 : decode cX8_item 363 = .ok (.iastore, 1) := by decide +kernel
theorem dX8_item_364 : decode cX8_item 364 = .ok (.aload_n 0, 1) := by decide +kernel
theorem dX8_item_365 : decode cX8_item 365 = .ok (.getfield 31, 3) := by decide +kernel
theorem dX8_item_368 : decode cX8_item 368 = .ok (.iconst 1, 1) := by decide +kernel
theorem dX8_item_369 : decode cX8_item 369 = .ok (.dup2, 1) := by decide +kernel
theorem dX8_item_370 : decode cX8_item 370 = .ok (.iaload, 1) := by decide +kernel
theorem dX8_item_371 : decode cX8_item 371 = .ok (.iconst 1, 1) := by decide +kernel
theorem dX8_item_372 : decode cX8_item 372 = .ok (.iadd, 1) := by decide +kernel
theorem dX8_item_373 : decode cX8_item 373 = .ok (.iastore, 1) := by decide +kernel
theorem dX8_item_374 : decode cX8_item 374 = .ok (.iconst 1, 1) := by decide +kernel
theorem dX8_item_375 : decode cX8_item 375 = .ok (.ireturn, 1) := by decide +kernel
theorem dX8_item_376 : decode cX8_item 376 = .ok (.iconst 0, 1) := by decide +kernel
theorem dX8_item_377 : decode cX8_item 377 = .ok (.ireturn, 1) := by decide +kernel
theorem dX8_readAll_0 : decode cX8_readAll 0 = .ok (.aload_n 0, 1) := by decide +kernel
theorem dX8_readAll_1 : decode cX8_readAll 1 = .ok (.iconst 1, 1) := by decide +kernel
theorem dX8_readAll_2 : decode cX8_readAll 2 = .ok (.invokevirtual 89, 3) := by decide +kernel
theorem dX8_readAll_5 : decode cX8_readAll 5 = .ok (.aload_n 0, 1) := by decide +kernel
theorem dX8_readAll_6 : decode cX8_readAll 6 = .ok (.iconst 0, 1) := by decide +kernel
theorem dX8_readAll_7 : decode cX8_readAll 7 = .ok (.putfield 108, 3) := by decide +kernel
theorem dX8_readAll_10 : decode cX8_readAll 10 = .ok (.aload_n 0, 1) := by decide +kernel
theorem dX8_readAll_11 : decode cX8_readAll 11 = .ok (.getfield 108, 3) := by decide +kernel
theorem dX8_readAll_14 : decode cX8_readAll 14 = .ok (.aload_n 0, 1) := by decide +kernel
theorem dX8_readAll_15 : decode cX8_readAll 15 = .ok (.getfield 102, 3) := by decide +kernel
theorem dX8_readAll_18 : decode cX8_readAll 18 = .ok (.if_icmp .ge 20, 3) := by decide +kernel
theorem dX8_readAll_21 : decode cX8_readAll 21 = .ok (.aload_n 0, 1) := by decide +kernel
theorem dX8_readAll_22 : decode cX8_readAll 22 = .ok (.getfield 108, 3) := by decide +kernel
theorem dX8_readAll_25 : decode cX8_readAll 25 = .ok (.istore_n 1, 1) := by decide +kernel
theorem dX8_readAll_26 : decode cX8_readAll 26 = .ok (.aload_n 0, 1) := by decide +kernel
theorem dX8_readAll_27 : decode cX8_readAll 27 = .ok (.invokevirtual 127, 3) := by decide +kernel
theorem dX8_readAll_30 : decode cX8_readAll 30 = .ok (.ifCond .ne 5, 3) := by decide +kernel
theorem dX8_readAll_33 : decode cX8_readAll 33 = .ok (.iload_n 1, 1) := by decide +kernel
theorem dX8_readAll_34 : decode cX8_readAll 34 = .ok (.ireturn, 1) := by decide +kernel
theorem dX8_readAll_35 : decode cX8_readAll 35 = .ok (.goto (-25), 3) := by decide +kernel
theorem dX8_readAll_38 : decode cX8_readAll 38 = .ok (.bipush (-4), 2) := by decide +kernel
theorem dX8_readAll_40 : decode cX8_readAll 40 = .ok (.ireturn, 1) := by decide +kernel
theorem dX8_fault_0 : decode cX8_fault 0 = .ok (.aload_n 0, 1) := by decide +kernel
theorem dX8_fault_1 : decode cX8_fault 1 = .ok (.invokevirtual 131, 3) := by decide +kernel
theorem dX8_fault_4 : decode cX8_fault 4 = .ok (.ireturn, 1) := by decide +kernel
theorem dX8_areBelow_0 : decode cX8_areBelow 0 = .ok (.iconst 1, 1) := by decide +kernel
theorem dX8_areBelow_1 : decode cX8_areBelow 1 = .ok (.istore_n 1, 1) := by decide +kernel
theorem dX8_areBelow_2 : decode cX8_areBelow 2 = .ok (.iconst 0, 1) := by decide +kernel
theorem dX8_areBelow_3 : decode cX8_areBelow 3 = .ok (.istore_n 2, 1) := by decide +kernel
theorem dX8_areBelow_4 : decode cX8_areBelow 4 = .ok (.iload_n 2, 1) := by decide +kernel
theorem dX8_areBelow_5 : decode cX8_areBelow 5 = .ok (.iconst 2, 1) := by decide +kernel
theorem dX8_areBelow_6 : decode cX8_areBelow 6 = .ok (.aload_n 0, 1) := by decide +kernel
theorem dX8_areBelow_7 : decode cX8_areBelow 7 = .ok (.getfield 25, 3) := by decide +kernel
theorem dX8_areBelow_10 : decode cX8_areBelow 10 = .ok (.iconst 1, 1) := by decide +kernel
theorem dX8_areBelow_11 : decode cX8_areBelow 11 = .ok (.iaload, 1) := by decide +kernel
theorem dX8_areBelow_12 : decode cX8_areBelow 12 = .ok (.imul, 1) := by decide +kernel
theorem dX8_areBelow_13 : decode cX8_areBelow 13 = .ok (.if_icmp .ge 37, 3) := by decide +kernel
theorem dX8_areBelow_16 : decode cX8_areBelow 16 = .ok (.iload_n 1, 1) := by decide +kernel
theorem dX8_areBelow_17 : decode cX8_areBelow 17 = .ok (.ifCond .eq 25, 3) := by decide +kernel
theorem dX8_areBelow_20 : decode cX8_areBelow 20 = .ok (.aload_n 0, 1) := by decide +kernel
theorem dX8_areBelow_21 : decode cX8_areBelow 21 = .ok (.getfield 28, 3) := by decide +kernel
theorem dX8_areBelow_24 : decode cX8_areBelow 24 = .ok (.bipush 40, 2) := by decide +kernel
theorem dX8_areBelow_26 : decode cX8_areBelow 26 = .ok (.iload_n 2, 1) := by decide +kernel
theorem dX8_areBelow_27 : decode cX8_areBelow 27 = .ok (.iadd, 1) := by decide +kernel
theorem dX8_areBelow_28 : decode cX8_areBelow 28 = .ok (.iaload, 1) := by decide +kernel
theorem dX8_areBelow_29 : decode cX8_areBelow 29 = .ok (.aload_n 0, 1) := by decide +kernel
theorem dX8_areBelow_30 : decode cX8_areBelow 30 = .ok (.getfield 13, 3) := by decide +kernel
theorem dX8_areBelow_33 : decode cX8_areBelow 33 = .ok (.iconst 1, 1) := by decide +kernel
theorem dX8_areBelow_34 : decode cX8_areBelow 34 = .ok (.iaload, 1) := by decide +kernel
theorem dX8_areBelow_35 : decode cX8_areBelow 35 = .ok (.if_icmp .ge 7, 3) := by decide +kernel
theorem dX8_areBelow_38 : decode cX8_areBelow 38 = .ok (.iconst 1, 1) := by decide +kernel
theorem dX8_areBelow_39 : decode cX8_areBelow 39 = .ok (.goto 4, 3) := by decide +kernel
theorem dX8_areBelow_42 : decode cX8_areBelow 42 = .ok (.iconst 0, 1) := by decide +kernel
theorem dX8_areBelow_43 : decode cX8_areBelow 43 = .ok (.istore_n 1, 1) := by decide +kernel
theorem dX8_areBelow_44 : decode cX8_areBelow 44 = .ok (.iinc 2 1, 3) := by decide +kernel
theorem dX8_areBelow_47 : decode cX8_areBelow 47 = .ok (.goto (-43), 3) := by decide +kernel
theorem dX8_areBelow_50 : decode cX8_areBelow 50 = .ok (.iconst 0, 1) := by decide +kernel
theorem dX8_areBelow_51 : decode cX8_areBelow 51 = .ok (.istore_n 2, 1) := by decide +kernel
theorem dX8_areBelow_52 : decode cX8_areBelow 52 = .ok (.iload_n 2, 1) := by decide +kernel
theorem dX8_areBelow_53 : decode cX8_areBelow 53 = .ok (.aload_n 0, 1) := by decide +kernel
theorem dX8_areBelow_54 : decode cX8_areBelow 54 = .ok (.getfield 31, 3) := by decide +kernel
theorem dX8_areBelow_57 : decode cX8_areBelow 57 = .ok (.iconst 1, 1) := by decide +kernel
theorem dX8_areBelow_58 : decode cX8_areBelow 58 = .ok (.iaload, 1) := by decide +kernel
theorem dX8_areBelow_59 : decode cX8_areBelow 59 = .ok (.if_icmp .ge 37, 3) := by decide +kernel
theorem dX8_areBelow_62 : decode cX8_areBelow 62 = .ok (.iload_n 1, 1) := by decide +kernel
theorem dX8_areBelow_63 : decode cX8_areBelow 63 = .ok (.ifCond .eq 25, 3) := by decide +kernel
theorem dX8_areBelow_66 : decode cX8_areBelow 66 = .ok (.aload_n 0, 1) := by decide +kernel
theorem dX8_areBelow_67 : decode cX8_areBelow 67 = .ok (.getfield 34, 3) := by decide +kernel
theorem dX8_areBelow_70 : decode cX8_areBelow 70 = .ok (.bipush 20, 2) := by decide +kernel
theorem dX8_areBelow_72 : decode cX8_areBelow 72 = .ok (.iload_n 2, 1) := by decide +kernel
theorem dX8_areBelow_73 : decode cX8_areBelow 73 = .ok (.iadd, 1) := by decide +kernel
theorem dX8_areBelow_74 : decode cX8_areBelow 74 = .ok (.iaload, 1) := by decide +kernel
theorem dX8_areBelow_75 : decode cX8_areBelow 75 = .ok (.aload_n 0, 1) := by decide +kernel
theorem dX8_areBelow_76 : decode cX8_areBelow 76 = .ok (.getfield 13, 3) := by decide +kernel
theorem dX8_areBelow_79 : decode cX8_areBelow 79 = .ok (.iconst 1, 1) := by decide +kernel
theorem dX8_areBelow_80 : decode cX8_areBelow 80 = .ok (.iaload, 1) := by decide +kernel
theorem dX8_areBelow_81 : decode cX8_areBelow 81 = .ok (.if_icmp .ge 7, 3) := by decide +kernel
theorem dX8_areBelow_84 : decode cX8_areBelow 84 = .ok (.iconst 1, 1) := by decide +kernel
theorem dX8_areBelow_85 : decode cX8_areBelow 85 = .ok (.goto 4, 3) := by decide +kernel
theorem dX8_areBelow_88 : decode cX8_areBelow 88 = .ok (.iconst 0, 1) := by decide +kernel
theorem dX8_areBelow_89 : decode cX8_areBelow 89 = .ok (.istore_n 1, 1) := by decide +kernel
theorem dX8_areBelow_90 : decode cX8_areBelow 90 = .ok (.iinc 2 1, 3) := by decide +kernel
theorem dX8_areBelow_93 : decode cX8_areBelow 93 = .ok (.goto (-41), 3) := by decide +kernel
theorem dX8_areBelow_96 : decode cX8_areBelow 96 = .ok (.iload_n 1, 1) := by decide +kernel
theorem dX8_areBelow_97 : decode cX8_areBelow 97 = .ok (.ireturn, 1) := by decide +kernel
theorem dX8_layBook_0 : decode cX8_layBook 0 = .ok (.iconst 0, 1) := by decide +kernel
theorem dX8_layBook_1 : decode cX8_layBook 1 = .ok (.istore_n 1, 1) := by decide +kernel
theorem dX8_layBook_2 : decode cX8_layBook 2 = .ok (.iload_n 1, 1) := by decide +kernel
theorem dX8_layBook_3 : decode cX8_layBook 3 = .ok (.bipush 40, 2) := by decide +kernel
theorem dX8_layBook_5 : decode cX8_layBook 5 = .ok (.if_icmp .ge 16, 3) := by decide +kernel
theorem dX8_layBook_8 : decode cX8_layBook 8 = .ok (.aload_n 0, 1) := by decide +kernel
theorem dX8_layBook_9 : decode cX8_layBook 9 = .ok (.getfield 37, 3) := by decide +kernel
theorem dX8_layBook_12 : decode cX8_layBook 12 = .ok (.iload_n 1, 1) := by decide +kernel
theorem dX8_layBook_13 : decode cX8_layBook 13 = .ok (.iload_n 1, 1) := by decide +kernel
theorem dX8_layBook_14 : decode cX8_layBook 14 = .ok (.iastore, 1) := by decide +kernel
theorem dX8_layBook_15 : decode cX8_layBook 15 = .ok (.iinc 1 1, 3) := by decide +kernel
theorem dX8_layBook_18 : decode cX8_layBook 18 = .ok (.goto (-16), 3) := by decide +kernel
theorem dX8_layBook_21 : decode cX8_layBook 21 = .ok (.iconst 0, 1) := by decide +kernel
theorem dX8_layBook_22 : decode cX8_layBook 22 = .ok (.istore_n 1, 1) := by decide +kernel
theorem dX8_layBook_23 : decode cX8_layBook 23 = .ok (.iload_n 1, 1) := by decide +kernel
theorem dX8_layBook_24 : decode cX8_layBook 24 = .ok (.aload_n 0, 1) := by decide +kernel
theorem dX8_layBook_25 : decode cX8_layBook 25 = .ok (.getfield 25, 3) := by decide +kernel
theorem dX8_layBook_28 : decode cX8_layBook 28 = .ok (.iconst 0, 1) := by decide +kernel
theorem dX8_layBook_29 : decode cX8_layBook 29 = .ok (.iaload, 1) := by decide +kernel
theorem dX8_layBook_30 : decode cX8_layBook 30 = .ok (.if_icmp .ge 67, 3) := by decide +kernel
theorem dX8_layBook_33 : decode cX8_layBook 33 = .ok (.aload_n 0, 1) := by decide +kernel
theorem dX8_layBook_34 : decode cX8_layBook 34 = .ok (.getfield 37, 3) := by decide +kernel
theorem dX8_layBook_37 : decode cX8_layBook 37 = .ok (.aload_n 0, 1) := by decide +kernel
theorem dX8_layBook_38 : decode cX8_layBook 38 = .ok (.getfield 28, 3) := by decide +kernel
theorem dX8_layBook_41 : decode cX8_layBook 41 = .ok (.iconst 2, 1) := by decide +kernel
theorem dX8_layBook_42 : decode cX8_layBook 42 = .ok (.iload_n 1, 1) := by decide +kernel
theorem dX8_layBook_43 : decode cX8_layBook 43 = .ok (.imul, 1) := by decide +kernel
theorem dX8_layBook_44 : decode cX8_layBook 44 = .ok (.iaload, 1) := by decide +kernel
theorem dX8_layBook_45 : decode cX8_layBook 45 = .ok (.iaload, 1) := by decide +kernel
theorem dX8_layBook_46 : decode cX8_layBook 46 = .ok (.istore_n 2, 1) := by decide +kernel
theorem dX8_layBook_47 : decode cX8_layBook 47 = .ok (.aload_n 0, 1) := by decide +kernel
theorem dX8_layBook_48 : decode cX8_layBook 48 = .ok (.getfield 37, 3) := by decide +kernel
theorem dX8_layBook_51 : decode cX8_layBook 51 = .ok (.aload_n 0, 1) := by decide +kernel
theorem dX8_layBook_52 : decode cX8_layBook 52 = .ok (.getfield 28, 3) := by decide +kernel
theorem dX8_layBook_55 : decode cX8_layBook 55 = .ok (.iconst 2, 1) := by decide +kernel
theorem dX8_layBook_56 : decode cX8_layBook 56 = .ok (.iload_n 1, 1) := by decide +kernel
theorem dX8_layBook_57 : decode cX8_layBook 57 = .ok (.imul, 1) := by decide +kernel
theorem dX8_layBook_58 : decode cX8_layBook 58 = .ok (.iaload, 1) := by decide +kernel
theorem dX8_layBook_59 : decode cX8_layBook 59 = .ok (.aload_n 0, 1) := by decide +kernel
theorem dX8_layBook_60 : decode cX8_layBook 60 = .ok (.getfield 37, 3) := by decide +kernel
theorem dX8_layBook_63 : decode cX8_layBook 63 = .ok (.aload_n 0, 1) := by decide +kernel
theorem dX8_layBook_64 : decode cX8_layBook 64 = .ok (.getfield 28, 3) := by decide +kernel
theorem dX8_layBook_67 : decode cX8_layBook 67 = .ok (.iconst 2, 1) := by decide +kernel
theorem dX8_layBook_68 : decode cX8_layBook 68 = .ok (.iload_n 1, 1) := by decide +kernel
theorem dX8_layBook_69 : decode cX8_layBook 69 = .ok (.imul, 1) := by decide +kernel
theorem dX8_layBook_70 : decode cX8_layBook 70 = .ok (.iconst 1, 1) := by decide +kernel
theorem dX8_layBook_71 : decode cX8_layBook 71 = .ok (.iadd, 1) := by decide +kernel
theorem dX8_layBook_72 : decode cX8_layBook 72 = .ok (.iaload, 1) := by decide +kernel
theorem dX8_layBook_73 : decode cX8_layBook 73 = .ok (.iaload, 1) := by decide +kernel
theorem dX8_layBook_74 : decode cX8_layBook 74 = .ok (.iastore, 1) := by decide +kernel
theorem dX8_layBook_75 : decode cX8_layBook 75 = .ok (.aload_n 0, 1) := by decide +kernel
theorem dX8_layBook_76 : decode cX8_layBook 76 = .ok (.getfield 37, 3) := by decide +kernel
theorem dX8_layBook_79 : decode cX8_layBook 79 = .ok (.aload_n 0, 1) := by decide +kernel
theorem dX8_layBook_80 : decode cX8_layBook 80 = .ok (.getfield 28, 3) := by decide +kernel
theorem dX8_layBook_83 : decode cX8_layBook 83 = .ok (.iconst 2, 1) := by decide +kernel
theorem dX8_layBook_84 : decode cX8_layBook 84 = .ok (.iload_n 1, 1) := by decide +kernel
theorem dX8_layBook_85 : decode cX8_layBook 85 = .ok (.imul, 1) := by decide +kernel
theorem dX8_layBook_86 : decode cX8_layBook 86 = .ok (.iconst 1, 1) := by decide +kernel
theorem dX8_layBook_87 : decode cX8_layBook 87 = .ok (.iadd, 1) := by decide +kernel
theorem dX8_layBook_88 : decode cX8_layBook 88 = .ok (.iaload, 1) := by decide +kernel
theorem dX8_layBook_89 : decode cX8_layBook 89 = .ok (.iload_n 2, 1) := by decide +kernel
theorem dX8_layBook_90 : decode cX8_layBook 90 = .ok (.iastore, 1) := by decide +kernel
theorem dX8_layBook_91 : decode cX8_layBook 91 = .ok (.iinc 1 1, 3) := by decide +kernel
theorem dX8_layBook_94 : decode cX8_layBook 94 = .ok (.goto (-71), 3) := by decide +kernel
theorem dX8_layBook_97 : decode cX8_layBook 97 = .ok (.iconst 0, 1) := by decide +kernel
theorem dX8_layBook_98 : decode cX8_layBook 98 = .ok (.istore_n 1, 1) := by decide +kernel
theorem dX8_layBook_99 : decode cX8_layBook 99 = .ok (.iload_n 1, 1) := by decide +kernel
theorem dX8_layBook_100 : decode cX8_layBook 100 = .ok (.bipush 40, 2) := by decide +kernel
theorem dX8_layBook_102 : decode cX8_layBook 102 = .ok (.if_icmp .ge 21, 3) := by decide +kernel
theorem dX8_layBook_105 : decode cX8_layBook 105 = .ok (.aload_n 0, 1) := by decide +kernel
theorem dX8_layBook_106 : decode cX8_layBook 106 = .ok (.getfield 40, 3) := by decide +kernel
theorem dX8_layBook_109 : decode cX8_layBook 109 = .ok (.iload_n 1, 1) := by decide +kernel
theorem dX8_layBook_110 : decode cX8_layBook 110 = .ok (.aload_n 0, 1) := by decide +kernel
theorem dX8_layBook_111 : decode cX8_layBook 111 = .ok (.getfield 37, 3) := by decide +kernel
theorem dX8_layBook_114 : decode cX8_layBook 114 = .ok (.iload_n 1, 1) := by decide +kernel
theorem dX8_layBook_115 : decode cX8_layBook 115 = .ok (.iaload, 1) := by decide +kernel
theorem dX8_layBook_116 : decode cX8_layBook 116 = .ok (.iastore, 1) := by decide +kernel
theorem dX8_layBook_117 : decode cX8_layBook 117 = .ok (.iinc 1 1, 3) := by decide +kernel
theorem dX8_layBook_120 : decode cX8_layBook 120 = .ok (.goto (-21), 3) := by decide +kernel
theorem dX8_layBook_123 : decode cX8_layBook 123 = .ok (.aload_n 0, 1) := by decide +kernel
theorem dX8_layBook_124 : decode cX8_layBook 124 = .ok (.getfield 43, 3) := by decide +kernel
theorem dX8_layBook_127 : decode cX8_layBook 127 = .ok (.iconst 0, 1) := by decide +kernel
theorem dX8_layBook_128 : decode cX8_layBook 128 = .ok (.iconst 0, 1) := by decide +kernel
theorem dX8_layBook_129 : decode cX8_layBook 129 = .ok (.iastore, 1) := by decide +kernel
theorem dX8_layBook_130 : decode cX8_layBook 130 = .ok (.aload_n 0, 1) := by decide +kernel
theorem dX8_layBook_131 : decode cX8_layBook 131 = .ok (.getfield 46, 3) := by decide +kernel
theorem dX8_layBook_134 : decode cX8_layBook 134 = .ok (.iconst 0, 1) := by decide +kernel
theorem dX8_layBook_135 : decode cX8_layBook 135 = .ok (.iconst 0, 1) := by decide +kernel
theorem dX8_layBook_136 : decode cX8_layBook 136 = .ok (.iastore, 1) := by decide +kernel
theorem dX8_layBook_137 : decode cX8_layBook 137 = .ok (.aload_n 0, 1) := by decide +kernel
theorem dX8_layBook_138 : decode cX8_layBook 138 = .ok (.iconst 0, 1) := by decide +kernel
theorem dX8_layBook_139 : decode cX8_layBook 139 = .ok (.putfield 135, 3) := by decide +kernel
theorem dX8_layBook_142 : decode cX8_layBook 142 = .ok (.aload_n 0, 1) := by decide +kernel
theorem dX8_layBook_143 : decode cX8_layBook 143 = .ok (.iconst 0, 1) := by decide +kernel
theorem dX8_layBook_144 : decode cX8_layBook 144 = .ok (.putfield 138, 3) := by decide +kernel
theorem dX8_layBook_147 : decode cX8_layBook 147 = .ok (.aload_n 0, 1) := by decide +kernel
theorem dX8_layBook_148 : decode cX8_layBook 148 = .ok (.invokevirtual 141, 3) := by decide +kernel
theorem dX8_layBook_151 : decode cX8_layBook 151 = .ok (.return_, 1) := by decide +kernel
theorem dX8_lay_0 : decode cX8_lay 0 = .ok (.aload_n 0, 1) := by decide +kernel
theorem dX8_lay_1 : decode cX8_lay 1 = .ok (.invokevirtual 131, 3) := by decide +kernel
theorem dX8_lay_4 : decode cX8_lay 4 = .ok (.bipush (-4), 2) := by decide +kernel
theorem dX8_lay_6 : decode cX8_lay 6 = .ok (.if_icmp .ne 10, 3) := by decide +kernel
theorem dX8_lay_9 : decode cX8_lay 9 = .ok (.aload_n 0, 1) := by decide +kernel
theorem dX8_lay_10 : decode cX8_lay 10 = .ok (.invokevirtual 144, 3) := by decide +kernel
theorem dX8_lay_13 : decode cX8_lay 13 = .ok (.ifCond .ne 6, 3) := by decide +kernel
theorem dX8_lay_16 : decode cX8_lay 16 = .ok (.bipush (-2), 2) := by decide +kernel
theorem dX8_lay_18 : decode cX8_lay 18 = .ok (.ireturn, 1) := by decide +kernel
theorem dX8_lay_19 : decode cX8_lay 19 = .ok (.aload_n 0, 1) := by decide +kernel
theorem dX8_lay_20 : decode cX8_lay 20 = .ok (.getfield 13, 3) := by decide +kernel
theorem dX8_lay_23 : decode cX8_lay 23 = .ok (.iconst 0, 1) := by decide +kernel
theorem dX8_lay_24 : decode cX8_lay 24 = .ok (.aload_n 0, 1) := by decide +kernel
theorem dX8_lay_25 : decode cX8_lay 25 = .ok (.getfield 13, 3) := by decide +kernel
theorem dX8_lay_28 : decode cX8_lay 28 = .ok (.iconst 1, 1) := by decide +kernel
theorem dX8_lay_29 : decode cX8_lay 29 = .ok (.iaload, 1) := by decide +kernel
theorem dX8_lay_30 : decode cX8_lay 30 = .ok (.iastore, 1) := by decide +kernel
theorem dX8_lay_31 : decode cX8_lay 31 = .ok (.aload_n 0, 1) := by decide +kernel
theorem dX8_lay_32 : decode cX8_lay 32 = .ok (.getfield 16, 3) := by decide +kernel
theorem dX8_lay_35 : decode cX8_lay 35 = .ok (.iconst 0, 1) := by decide +kernel
theorem dX8_lay_36 : decode cX8_lay 36 = .ok (.aload_n 0, 1) := by decide +kernel
theorem dX8_lay_37 : decode cX8_lay 37 = .ok (.getfield 16, 3) := by decide +kernel
theorem dX8_lay_40 : decode cX8_lay 40 = .ok (.iconst 1, 1) := by decide +kernel
theorem dX8_lay_41 : decode cX8_lay 41 = .ok (.iaload, 1) := by decide +kernel
theorem dX8_lay_42 : decode cX8_lay 42 = .ok (.iastore, 1) := by decide +kernel
theorem dX8_lay_43 : decode cX8_lay 43 = .ok (.aload_n 0, 1) := by decide +kernel
theorem dX8_lay_44 : decode cX8_lay 44 = .ok (.getfield 19, 3) := by decide +kernel
theorem dX8_lay_47 : decode cX8_lay 47 = .ok (.iconst 0, 1) := by decide +kernel
theorem dX8_lay_48 : decode cX8_lay 48 = .ok (.aload_n 0, 1) := by decide +kernel
theorem dX8_lay_49 : decode cX8_lay 49 = .ok (.getfield 19, 3) := by decide +kernel
theorem dX8_lay_52 : decode cX8_lay 52 = .ok (.iconst 1, 1) := by decide +kernel
theorem dX8_lay_53 : decode cX8_lay 53 = .ok (.iaload, 1) := by decide +kernel
theorem dX8_lay_54 : decode cX8_lay 54 = .ok (.iastore, 1) := by decide +kernel
theorem dX8_lay_55 : decode cX8_lay 55 = .ok (.aload_n 0, 1) := by decide +kernel
theorem dX8_lay_56 : decode cX8_lay 56 = .ok (.getfield 22, 3) := by decide +kernel
theorem dX8_lay_59 : decode cX8_lay 59 = .ok (.iconst 0, 1) := by decide +kernel
theorem dX8_lay_60 : decode cX8_lay 60 = .ok (.aload_n 0, 1) := by decide +kernel
theorem dX8_lay_61 : decode cX8_lay 61 = .ok (.getfield 22, 3) := by decide +kernel
theorem dX8_lay_64 : decode cX8_lay 64 = .ok (.iconst 1, 1) := by decide +kernel
theorem dX8_lay_65 : decode cX8_lay 65 = .ok (.iaload, 1) := by decide +kernel
theorem dX8_lay_66 : decode cX8_lay 66 = .ok (.iastore, 1) := by decide +kernel
theorem dX8_lay_67 : decode cX8_lay 67 = .ok (.aload_n 0, 1) := by decide +kernel
theorem dX8_lay_68 : decode cX8_lay 68 = .ok (.getfield 25, 3) := by decide +kernel
theorem dX8_lay_71 : decode cX8_lay 71 = .ok (.iconst 0, 1) := by decide +kernel
theorem dX8_lay_72 : decode cX8_lay 72 = .ok (.aload_n 0, 1) := by decide +kernel
theorem dX8_lay_73 : decode cX8_lay 73 = .ok (.getfield 25, 3) := by decide +kernel
theorem dX8_lay_76 : decode cX8_lay 76 = .ok (.iconst 1, 1) := by decide +kernel
theorem dX8_lay_77 : decode cX8_lay 77 = .ok (.iaload, 1) := by decide +kernel
theorem dX8_lay_78 : decode cX8_lay 78 = .ok (.iastore, 1) := by decide +kernel
theorem dX8_lay_79 : decode cX8_lay 79 = .ok (.aload_n 0, 1) := by decide +kernel
theorem dX8_lay_80 : decode cX8_lay 80 = .ok (.getfield 31, 3) := by decide +kernel
theorem dX8_lay_83 : decode cX8_lay 83 = .ok (.iconst 0, 1) := by decide +kernel
theorem dX8_lay_84 : decode cX8_lay 84 = .ok (.aload_n 0, 1) := by decide +kernel
theorem dX8_lay_85 : decode cX8_lay 85 = .ok (.getfield 31, 3) := by decide +kernel
theorem dX8_lay_88 : decode cX8_lay 88 = .ok (.iconst 1, 1) := by decide +kernel
theorem dX8_lay_89 : decode cX8_lay 89 = .ok (.iaload, 1) := by decide +kernel
theorem dX8_lay_90 : decode cX8_lay 90 = .ok (.iastore, 1) := by decide +kernel
theorem dX8_lay_91 : decode cX8_lay 91 = .ok (.iconst 0, 1) := by decide +kernel
theorem dX8_lay_92 : decode cX8_lay 92 = .ok (.istore_n 1, 1) := by decide +kernel
theorem dX8_lay_93 : decode cX8_lay 93 = .ok (.iload_n 1, 1) := by decide +kernel
theorem dX8_lay_94 : decode cX8_lay 94 = .ok (.bipush 40, 2) := by decide +kernel
theorem dX8_lay_96 : decode cX8_lay 96 = .ok (.if_icmp .ge 24, 3) := by decide +kernel
theorem dX8_lay_99 : decode cX8_lay 99 = .ok (.aload_n 0, 1) := by decide +kernel
theorem dX8_lay_100 : decode cX8_lay 100 = .ok (.getfield 28, 3) := by decide +kernel
theorem dX8_lay_103 : decode cX8_lay 103 = .ok (.iload_n 1, 1) := by decide +kernel
theorem dX8_lay_104 : decode cX8_lay 104 = .ok (.aload_n 0, 1) := by decide +kernel
theorem dX8_lay_105 : decode cX8_lay 105 = .ok (.getfield 28, 3) := by decide +kernel
theorem dX8_lay_108 : decode cX8_lay 108 = .ok (.bipush 40, 2) := by decide +kernel
theorem dX8_lay_110 : decode cX8_lay 110 = .ok (.iload_n 1, 1) := by decide +kernel
theorem dX8_lay_111 : decode cX8_lay 111 = .ok (.iadd, 1) := by decide +kernel
theorem dX8_lay_112 : decode cX8_lay 112 = .ok (.iaload, 1) := by decide +kernel
theorem dX8_lay_113 : decode cX8_lay 113 = .ok (.iastore, 1) := by decide +kernel
theorem dX8_lay_114 : decode cX8_lay 114 = .ok (.iinc 1 1, 3) := by decide +kernel
theorem dX8_lay_117 : decode cX8_lay 117 = .ok (.goto (-24), 3) := by decide +kernel
theorem dX8_lay_120 : decode cX8_lay 120 = .ok (.iconst 0, 1) := by decide +kernel
theorem dX8_lay_121 : decode cX8_lay 121 = .ok (.istore_n 1, 1) := by decide +kernel
theorem dX8_lay_122 : decode cX8_lay 122 = .ok (.iload_n 1, 1) := by decide +kernel
theorem dX8_lay_123 : decode cX8_lay 123 = .ok (.bipush 20, 2) := by decide +kernel
theorem dX8_lay_125 : decode cX8_lay 125 = .ok (.if_icmp .ge 24, 3) := by decide +kernel
theorem dX8_lay_128 : decode cX8_lay 128 = .ok (.aload_n 0, 1) := by decide +kernel
theorem dX8_lay_129 : decode cX8_lay 129 = .ok (.getfield 34, 3) := by decide +kernel
theorem dX8_lay_132 : decode cX8_lay 132 = .ok (.iload_n 1, 1) := by decide +kernel
theorem dX8_lay_133 : decode cX8_lay 133 = .ok (.aload_n 0, 1) := by decide +kernel
theorem dX8_lay_134 : decode cX8_lay 134 = .ok (.getfield 34, 3) := by decide +kernel
theorem dX8_lay_137 : decode cX8_lay 137 = .ok (.bipush 20, 2) := by decide +kernel
theorem dX8_lay_139 : decode cX8_lay 139 = .ok (.iload_n 1, 1) := by decide +kernel
theorem dX8_lay_140 : decode cX8_lay 140 = .ok (.iadd, 1) := by decide +kernel
theorem dX8_lay_141 : decode cX8_lay 141 = .ok (.iaload, 1) := by decide +kernel
theorem dX8_lay_142 : decode cX8_lay 142 = .ok (.iastore, 1) := by decide +kernel
theorem dX8_lay_143 : decode cX8_lay 143 = .ok (.iinc 1 1, 3) := by decide +kernel
theorem dX8_lay_146 : decode cX8_lay 146 = .ok (.goto (-24), 3) := by decide +kernel
theorem dX8_lay_149 : decode cX8_lay 149 = .ok (.aload_n 0, 1) := by decide +kernel
theorem dX8_lay_150 : decode cX8_lay 150 = .ok (.invokevirtual 93, 3) := by decide +kernel
theorem dX8_lay_153 : decode cX8_lay 153 = .ok (.aload_n 0, 1) := by decide +kernel
theorem dX8_lay_154 : decode cX8_lay 154 = .ok (.getfield 13, 3) := by decide +kernel
theorem dX8_lay_157 : decode cX8_lay 157 = .ok (.iconst 0, 1) := by decide +kernel
theorem dX8_lay_158 : decode cX8_lay 158 = .ok (.iaload, 1) := by decide +kernel
theorem dX8_lay_159 : decode cX8_lay 159 = .ok (.ireturn, 1) := by decide +kernel
theorem dX8_isLeaf_0 : decode cX8_isLeaf 0 = .ok (.iload_n 1, 1) := by decide +kernel
theorem dX8_isLeaf_1 : decode cX8_isLeaf 1 = .ok (.i2l, 1) := by decide +kernel
theorem dX8_isLeaf_2 : decode cX8_isLeaf 2 = .ok (.lconst 0, 1) := by decide +kernel
theorem dX8_isLeaf_3 : decode cX8_isLeaf 3 = .ok (.aload_n 0, 1) := by decide +kernel
theorem dX8_isLeaf_4 : decode cX8_isLeaf 4 = .ok (.getfield 13, 3) := by decide +kernel
theorem dX8_isLeaf_7 : decode cX8_isLeaf 7 = .ok (.iconst 0, 1) := by decide +kernel
theorem dX8_isLeaf_8 : decode cX8_isLeaf 8 = .ok (.iaload, 1) := by decide +kernel
theorem dX8_isLeaf_9 : decode cX8_isLeaf 9 = .ok (.iconst 1, 1) := by decide +kernel
theorem dX8_isLeaf_10 : decode cX8_isLeaf 10 = .ok (.isub, 1) := by decide +kernel
theorem dX8_isLeaf_11 : decode cX8_isLeaf 11 = .ok (.i2l, 1) := by decide +kernel
theorem dX8_isLeaf_12 : decode cX8_isLeaf 12 = .ok (.invokestatic 98, 3) := by decide +kernel
theorem dX8_isLeaf_15 : decode cX8_isLeaf 15 = .ok (.ireturn, 1) := by decide +kernel
theorem dX8_layBelow_0 : decode cX8_layBelow 0 = .ok (.aload_n 1, 1) := by decide +kernel
theorem dX8_layBelow_1 : decode cX8_layBelow 1 = .ok (.iload_n 2, 1) := by decide +kernel
theorem dX8_layBelow_2 : decode cX8_layBelow 2 = .ok (.iaload, 1) := by decide +kernel
theorem dX8_layBelow_3 : decode cX8_layBelow 3 = .ok (.istore 4, 2) := by decide +kernel
theorem dX8_layBelow_5 : decode cX8_layBelow 5 = .ok (.iconst 0, 1) := by decide +kernel
theorem dX8_layBelow_6 : decode cX8_layBelow 6 = .ok (.istore 5, 2) := by decide +kernel
theorem dX8_layBelow_8 : decode cX8_layBelow 8 = .ok (.iload 5, 2) := by decide +kernel
theorem dX8_layBelow_10 : decode cX8_layBelow 10 = .ok (.iload_n 3, 1) := by decide +kernel
theorem dX8_layBelow_11 : decode cX8_layBelow 11 = .ok (.if_icmp .ge 23, 3) := by decide +kernel
theorem dX8_layBelow_14 : decode cX8_layBelow 14 = .ok (.aload_n 1, 1) := by decide +kernel
theorem dX8_layBelow_15 : decode cX8_layBelow 15 = .ok (.iload_n 2, 1) := by decide +kernel
theorem dX8_layBelow_16 : decode cX8_layBelow 16 = .ok (.iload 5, 2) := by decide +kernel
theorem dX8_layBelow_18 : decode cX8_layBelow 18 = .ok (.iadd, 1) := by decide +kernel
theorem dX8_layBelow_19 : decode cX8_layBelow 19 = .ok (.aload_n 1, 1) := by decide +kernel
theorem dX8_layBelow_20 : decode cX8_layBelow 20 = .ok (.iload_n 2, 1) := by decide +kernel
theorem dX8_layBelow_21 : decode cX8_layBelow 21 = .ok (.iload 5, 2) := by decide +kernel
theorem dX8_layBelow_23 : decode cX8_layBelow 23 = .ok (.iadd, 1) := by decide +kernel
theorem dX8_layBelow_24 : decode cX8_layBelow 24 = .ok (.iconst 1, 1) := by decide +kernel
theorem dX8_layBelow_25 : decode cX8_layBelow 25 = .ok (.iadd, 1) := by decide +kernel
theorem dX8_layBelow_26 : decode cX8_layBelow 26 = .ok (.iaload, 1) := by decide +kernel
theorem dX8_layBelow_27 : decode cX8_layBelow 27 = .ok (.iastore, 1) := by decide +kernel
theorem dX8_layBelow_28 : decode cX8_layBelow 28 = .ok (.iinc 5 1, 3) := by decide +kernel
theorem dX8_layBelow_31 : decode cX8_layBelow 31 = .ok (.goto (-23), 3) := by decide +kernel
theorem dX8_layBelow_34 : decode cX8_layBelow 34 = .ok (.aload_n 1, 1) := by decide +kernel
theorem dX8_layBelow_35 : decode cX8_layBelow 35 = .ok (.iload_n 2, 1) := by decide +kernel
theorem dX8_layBelow_36 : decode cX8_layBelow 36 = .ok (.iload_n 3, 1) := by decide +kernel
theorem dX8_layBelow_37 : decode cX8_layBelow 37 = .ok (.iadd, 1) := by decide +kernel
theorem dX8_layBelow_38 : decode cX8_layBelow 38 = .ok (.iload 4, 2) := by decide +kernel
theorem dX8_layBelow_40 : decode cX8_layBelow 40 = .ok (.iastore, 1) := by decide +kernel
theorem dX8_layBelow_41 : decode cX8_layBelow 41 = .ok (.return_, 1) := by decide +kernel
theorem dX8_cut_0 : decode cX8_cut 0 = .ok (.aload_n 0, 1) := by decide +kernel
theorem dX8_cut_1 : decode cX8_cut 1 = .ok (.getfield 13, 3) := by decide +kernel
theorem dX8_cut_4 : decode cX8_cut 4 = .ok (.iconst 0, 1) := by decide +kernel
theorem dX8_cut_5 : decode cX8_cut 5 = .ok (.iaload, 1) := by decide +kernel
theorem dX8_cut_6 : decode cX8_cut 6 = .ok (.istore_n 3, 1) := by decide +kernel
theorem dX8_cut_7 : decode cX8_cut 7 = .ok (.iload_n 3, 1) := by decide +kernel
theorem dX8_cut_8 : decode cX8_cut 8 = .ok (.iconst 2, 1) := by decide +kernel
theorem dX8_cut_9 : decode cX8_cut 9 = .ok (.idiv, 1) := by decide +kernel
theorem dX8_cut_10 : decode cX8_cut 10 = .ok (.istore 4, 2) := by decide +kernel
theorem dX8_cut_12 : decode cX8_cut 12 = .ok (.iconst 0, 1) := by decide +kernel
theorem dX8_cut_13 : decode cX8_cut 13 = .ok (.istore 5, 2) := by decide +kernel
theorem dX8_cut_15 : decode cX8_cut 15 = .ok (.iload 5, 2) := by decide +kernel
theorem dX8_cut_17 : decode cX8_cut 17 = .ok (.iload_n 3, 1) := by decide +kernel
theorem dX8_cut_18 : decode cX8_cut 18 = .ok (.if_icmp .ge 27, 3) := by decide +kernel
theorem dX8_cut_21 : decode cX8_cut 21 = .ok (.aload_n 0, 1) := by decide +kernel
theorem dX8_cut_22 : decode cX8_cut 22 = .ok (.getfield 62, 3) := by decide +kernel
theorem dX8_cut_25 : decode cX8_cut 25 = .ok (.iload 5, 2) := by decide +kernel
theorem dX8_cut_27 : decode cX8_cut 27 = .ok (.aload_n 1, 1) := by decide +kernel
theorem dX8_cut_28 : decode cX8_cut 28 = .ok (.iload_n 2, 1) := by decide +kernel
theorem dX8_cut_29 : decode cX8_cut 29 = .ok (.iload 5, 2) := by decide +kernel
theorem dX8_cut_31 : decode cX8_cut 31 = .ok (.iload 4, 2) := by decide +kernel
theorem dX8_cut_33 : decode cX8_cut 33 = .ok (.iadd, 1) := by decide +kernel
theorem dX8_cut_34 : decode cX8_cut 34 = .ok (.iload_n 3, 1) := by decide +kernel
theorem dX8_cut_35 : decode cX8_cut 35 = .ok (.irem, 1) := by decide +kernel
theorem dX8_cut_36 : decode cX8_cut 36 = .ok (.iadd, 1) := by decide +kernel
theorem dX8_cut_37 : decode cX8_cut 37 = .ok (.iaload, 1) := by decide +kernel
theorem dX8_cut_38 : decode cX8_cut 38 = .ok (.iastore, 1) := by decide +kernel
theorem dX8_cut_39 : decode cX8_cut 39 = .ok (.iinc 5 1, 3) := by decide +kernel
theorem dX8_cut_42 : decode cX8_cut 42 = .ok (.goto (-27), 3) := by decide +kernel
theorem dX8_cut_45 : decode cX8_cut 45 = .ok (.iconst 0, 1) := by decide +kernel
theorem dX8_cut_46 : decode cX8_cut 46 = .ok (.istore 5, 2) := by decide +kernel
theorem dX8_cut_48 : decode cX8_cut 48 = .ok (.iload 5, 2) := by decide +kernel
theorem dX8_cut_50 : decode cX8_cut 50 = .ok (.iload_n 3, 1) := by decide +kernel
theorem dX8_cut_51 : decode cX8_cut 51 = .ok (.if_icmp .ge 22, 3) := by decide +kernel
theorem dX8_cut_54 : decode cX8_cut 54 = .ok (.aload_n 1, 1) := by decide +kernel
theorem dX8_cut_55 : decode cX8_cut 55 = .ok (.iload_n 2, 1) := by decide +kernel
theorem dX8_cut_56 : decode cX8_cut 56 = .ok (.iload 5, 2) := by decide +kernel
theorem dX8_cut_58 : decode cX8_cut 58 = .ok (.iadd, 1) := by decide +kernel
theorem dX8_cut_59 : decode cX8_cut 59 = .ok (.aload_n 0, 1) := by decide +kernel
theorem dX8_cut_60 : decode cX8_cut 60 = .ok (.getfield 62, 3) := by decide +kernel
theorem dX8_cut_63 : decode cX8_cut 63 = .ok (.iload 5, 2) := by decide +kernel
theorem dX8_cut_65 : decode cX8_cut 65 = .ok (.iaload, 1) := by decide +kernel
theorem dX8_cut_66 : decode cX8_cut 66 = .ok (.iastore, 1) := by decide +kernel
theorem dX8_cut_67 : decode cX8_cut 67 = .ok (.iinc 5 1, 3) := by decide +kernel
theorem dX8_cut_70 : decode cX8_cut 70 = .ok (.goto (-22), 3) := by decide +kernel
theorem dX8_cut_73 : decode cX8_cut 73 = .ok (.return_, 1) := by decide +kernel
theorem dX8_goRead_0 : decode cX8_goRead 0 = .ok (.aload_n 0, 1) := by decide +kernel
theorem dX8_goRead_1 : decode cX8_goRead 1 = .ok (.getfield 13, 3) := by decide +kernel
theorem dX8_goRead_4 : decode cX8_goRead 4 = .ok (.iconst 0, 1) := by decide +kernel
theorem dX8_goRead_5 : decode cX8_goRead 5 = .ok (.iaload, 1) := by decide +kernel
theorem dX8_goRead_6 : decode cX8_goRead 6 = .ok (.iconst 1, 1) := by decide +kernel
theorem dX8_goRead_7 : decode cX8_goRead 7 = .ok (.isub, 1) := by decide +kernel
theorem dX8_goRead_8 : decode cX8_goRead 8 = .ok (.istore 6, 2) := by decide +kernel
theorem dX8_goRead_10 : decode cX8_goRead 10 = .ok (.iload 4, 2) := by decide +kernel
theorem dX8_goRead_12 : decode cX8_goRead 12 = .ok (.iload 6, 2) := by decide +kernel
theorem dX8_goRead_14 : decode cX8_goRead 14 = .ok (.if_icmp .ge 8, 3) := by decide +kernel
theorem dX8_goRead_17 : decode cX8_goRead 17 = .ok (.iload 4, 2) := by decide +kernel
theorem dX8_goRead_19 : decode cX8_goRead 19 = .ok (.goto 5, 3) := by decide +kernel
theorem dX8_goRead_22 : decode cX8_goRead 22 = .ok (.iload 6, 2) := by decide +kernel
theorem dX8_goRead_24 : decode cX8_goRead 24 = .ok (.istore 7, 2) := by decide +kernel
theorem dX8_goRead_26 : decode cX8_goRead 26 = .ok (.iload_n 3, 1) := by decide +kernel
theorem dX8_goRead_27 : decode cX8_goRead 27 = .ok (.iconst 3, 1) := by decide +kernel
theorem dX8_goRead_28 : decode cX8_goRead 28 = .ok (.if_icmp .ne 12, 3) := by decide +kernel
theorem dX8_goRead_31 : decode cX8_goRead 31 = .ok (.aload_n 0, 1) := by decide +kernel
theorem dX8_goRead_32 : decode cX8_goRead 32 = .ok (.aload_n 1, 1) := by decide +kernel
theorem dX8_goRead_33 : decode cX8_goRead 33 = .ok (.iload_n 2, 1) := by decide +kernel
theorem dX8_goRead_34 : decode cX8_goRead 34 = .ok (.invokevirtual 147, 3) := by decide +kernel
theorem dX8_goRead_37 : decode cX8_goRead 37 = .ok (.goto 32, 3) := by decide +kernel
theorem dX8_goRead_40 : decode cX8_goRead 40 = .ok (.aload_n 0, 1) := by decide +kernel
theorem dX8_goRead_41 : decode cX8_goRead 41 = .ok (.aload_n 1, 1) := by decide +kernel
theorem dX8_goRead_42 : decode cX8_goRead 42 = .ok (.iload_n 2, 1) := by decide +kernel
theorem dX8_goRead_43 : decode cX8_goRead 43 = .ok (.iload_n 3, 1) := by decide +kernel
theorem dX8_goRead_44 : decode cX8_goRead 44 = .ok (.ifCond .eq 15, 3) := by decide +kernel
theorem dX8_goRead_47 : decode cX8_goRead 47 = .ok (.iload_n 3, 1) := by decide +kernel
theorem dX8_goRead_48 : decode cX8_goRead 48 = .ok (.iconst 2, 1) := by decide +kernel
theorem dX8_goRead_49 : decode cX8_goRead 49 = .ok (.if_icmp .ne 15, 3) := by decide +kernel
theorem dX8_goRead_52 : decode cX8_goRead 52 = .ok (.iload 5, 2) := by decide +kernel
theorem dX8_goRead_54 : decode cX8_goRead 54 = .ok (.iconst 2, 1) := by decide +kernel
theorem dX8_goRead_55 : decode cX8_goRead 55 = .ok (.irem, 1) := by decide +kernel
theorem dX8_goRead_56 : decode cX8_goRead 56 = .ok (.ifCond .ne 8, 3) := by decide +kernel
theorem dX8_goRead_59 : decode cX8_goRead 59 = .ok (.iload 7, 2) := by decide +kernel
theorem dX8_goRead_61 : decode cX8_goRead 61 = .ok (.goto 5, 3) := by decide +kernel
theorem dX8_goRead_64 : decode cX8_goRead 64 = .ok (.iload 6, 2) := by decide +kernel
theorem dX8_goRead_66 : decode cX8_goRead 66 = .ok (.invokevirtual 151, 3) := by decide +kernel
theorem dX8_goRead_69 : decode cX8_goRead 69 = .ok (.return_, 1) := by decide +kernel
theorem dX8_leaf_0 : decode cX8_leaf 0 = .ok (.aload_n 0, 1) := by decide +kernel
theorem dX8_leaf_1 : decode cX8_leaf 1 = .ok (.iload_n 1, 1) := by decide +kernel
theorem dX8_leaf_2 : decode cX8_leaf 2 = .ok (.invokevirtual 155, 3) := by decide +kernel
theorem dX8_leaf_5 : decode cX8_leaf 5 = .ok (.ifCond .eq 13, 3) := by decide +kernel
theorem dX8_leaf_8 : decode cX8_leaf 8 = .ok (.iload_n 2, 1) := by decide +kernel
theorem dX8_leaf_9 : decode cX8_leaf 9 = .ok (.i2l, 1) := by decide +kernel
theorem dX8_leaf_10 : decode cX8_leaf 10 = .ok (.lconst 0, 1) := by decide +kernel
theorem dX8_leaf_11 : decode cX8_leaf 11 = .ok (.lconst 1, 1) := by decide +kernel
theorem dX8_leaf_12 : decode cX8_leaf 12 = .ok (.invokestatic 98, 3) := by decide +kernel
theorem dX8_leaf_15 : decode cX8_leaf 15 = .ok (.ifCond .ne 5, 3) := by decide +kernel
theorem dX8_leaf_18 : decode cX8_leaf 18 = .ok (.iconst (-1), 1) := by decide +kernel
theorem dX8_leaf_19 : decode cX8_leaf 19 = .ok (.ireturn, 1) := by decide +kernel
theorem dX8_leaf_20 : decode cX8_leaf 20 = .ok (.iload_n 2, 1) := by decide +kernel
theorem dX8_leaf_21 : decode cX8_leaf 21 = .ok (.ifCond .ne 12, 3) := by decide +kernel
theorem dX8_leaf_24 : decode cX8_leaf 24 = .ok (.aload_n 0, 1) := by decide +kernel
theorem dX8_leaf_25 : decode cX8_leaf 25 = .ok (.getfield 40, 3) := by decide +kernel
theorem dX8_leaf_28 : decode cX8_leaf 28 = .ok (.iload_n 1, 1) := by decide +kernel
theorem dX8_leaf_29 : decode cX8_leaf 29 = .ok (.iaload, 1) := by decide +kernel
theorem dX8_leaf_30 : decode cX8_leaf 30 = .ok (.goto 9, 3) := by decide +kernel
theorem dX8_leaf_33 : decode cX8_leaf 33 = .ok (.aload_n 0, 1) := by decide +kernel
theorem dX8_leaf_34 : decode cX8_leaf 34 = .ok (.getfield 37, 3) := by decide +kernel
theorem dX8_leaf_37 : decode cX8_leaf 37 = .ok (.iload_n 1, 1) := by decide +kernel
theorem dX8_leaf_38 : decode cX8_leaf 38 = .ok (.iaload, 1) := by decide +kernel
theorem dX8_leaf_39 : decode cX8_leaf 39 = .ok (.ireturn, 1) := by decide +kernel
theorem dX8_where_0 : decode cX8_where 0 = .ok (.aload_n 0, 1) := by decide +kernel
theorem dX8_where_1 : decode cX8_where 1 = .ok (.iload_n 1, 1) := by decide +kernel
theorem dX8_where_2 : decode cX8_where 2 = .ok (.invokevirtual 155, 3) := by decide +kernel
theorem dX8_where_5 : decode cX8_where 5 = .ok (.ifCond .ne 5, 3) := by decide +kernel
theorem dX8_where_8 : decode cX8_where 8 = .ok (.iconst (-1), 1) := by decide +kernel
theorem dX8_where_9 : decode cX8_where 9 = .ok (.ireturn, 1) := by decide +kernel
theorem dX8_where_10 : decode cX8_where 10 = .ok (.iconst 0, 1) := by decide +kernel
theorem dX8_where_11 : decode cX8_where 11 = .ok (.istore_n 2, 1) := by decide +kernel
theorem dX8_where_12 : decode cX8_where 12 = .ok (.aload_n 0, 1) := by decide +kernel
theorem dX8_where_13 : decode cX8_where 13 = .ok (.getfield 40, 3) := by decide +kernel
theorem dX8_where_16 : decode cX8_where 16 = .ok (.iload_n 2, 1) := by decide +kernel
theorem dX8_where_17 : decode cX8_where 17 = .ok (.iaload, 1) := by decide +kernel
theorem dX8_where_18 : decode cX8_where 18 = .ok (.iload_n 1, 1) := by decide +kernel
theorem dX8_where_19 : decode cX8_where 19 = .ok (.if_icmp .eq 9, 3) := by decide +kernel
theorem dX8_where_22 : decode cX8_where 22 = .ok (.iinc 2 1, 3) := by decide +kernel
theorem dX8_where_25 : decode cX8_where 25 = .ok (.goto (-13), 3) := by decide +kernel
theorem dX8_where_28 : decode cX8_where 28 = .ok (.iload_n 2, 1) := by decide +kernel
theorem dX8_where_29 : decode cX8_where 29 = .ok (.ireturn, 1) := by decide +kernel
theorem dX8_read_0 : decode cX8_read 0 = .ok (.aload_n 0, 1) := by decide +kernel
theorem dX8_read_1 : decode cX8_read 1 = .ok (.getfield 40, 3) := by decide +kernel
theorem dX8_read_4 : decode cX8_read 4 = .ok (.iconst 0, 1) := by decide +kernel
theorem dX8_read_5 : decode cX8_read 5 = .ok (.iaload, 1) := by decide +kernel
theorem dX8_read_6 : decode cX8_read 6 = .ok (.istore_n 1, 1) := by decide +kernel
theorem dX8_read_7 : decode cX8_read 7 = .ok (.aload_n 0, 1) := by decide +kernel
theorem dX8_read_8 : decode cX8_read 8 = .ok (.aload_n 0, 1) := by decide +kernel
theorem dX8_read_9 : decode cX8_read 9 = .ok (.getfield 40, 3) := by decide +kernel
theorem dX8_read_12 : decode cX8_read 12 = .ok (.iconst 0, 1) := by decide +kernel
theorem dX8_read_13 : decode cX8_read 13 = .ok (.aload_n 0, 1) := by decide +kernel
theorem dX8_read_14 : decode cX8_read 14 = .ok (.getfield 19, 3) := by decide +kernel
theorem dX8_read_17 : decode cX8_read 17 = .ok (.iconst 0, 1) := by decide +kernel
theorem dX8_read_18 : decode cX8_read 18 = .ok (.iaload, 1) := by decide +kernel
theorem dX8_read_19 : decode cX8_read 19 = .ok (.aload_n 0, 1) := by decide +kernel
theorem dX8_read_20 : decode cX8_read 20 = .ok (.getfield 22, 3) := by decide +kernel
theorem dX8_read_23 : decode cX8_read 23 = .ok (.iconst 0, 1) := by decide +kernel
theorem dX8_read_24 : decode cX8_read 24 = .ok (.iaload, 1) := by decide +kernel
theorem dX8_read_25 : decode cX8_read 25 = .ok (.aload_n 0, 1) := by decide +kernel
theorem dX8_read_26 : decode cX8_read 26 = .ok (.getfield 43, 3) := by decide +kernel
theorem dX8_read_29 : decode cX8_read 29 = .ok (.iconst 0, 1) := by decide +kernel
theorem dX8_read_30 : decode cX8_read 30 = .ok (.iaload, 1) := by decide +kernel
theorem dX8_read_31 : decode cX8_read 31 = .ok (.invokevirtual 158, 3) := by decide +kernel
theorem dX8_read_34 : decode cX8_read 34 = .ok (.aload_n 0, 1) := by decide +kernel
theorem dX8_read_35 : decode cX8_read 35 = .ok (.getfield 43, 3) := by decide +kernel
theorem dX8_read_38 : decode cX8_read 38 = .ok (.iconst 0, 1) := by decide +kernel
theorem dX8_read_39 : decode cX8_read 39 = .ok (.dup2, 1) := by decide +kernel
theorem dX8_read_40 : decode cX8_read 40 = .ok (.iaload, 1) := by decide +kernel
theorem dX8_read_41 : decode cX8_read 41 = .ok (.iconst 1, 1) := by decide +kernel
theorem dX8_read_42 : decode cX8_read 42 = .ok (.iadd, 1) := by decide +kernel
theorem dX8_read_43 : decode cX8_read 43 = .ok (.iastore, 1) := by decide +kernel
theorem dX8_read_44 : decode cX8_read 44 = .ok (.aload_n 0, 1) := by decide +kernel
theorem dX8_read_45 : decode cX8_read 45 = .ok (.getfield 43, 3) := by decide +kernel
theorem dX8_read_48 : decode cX8_read 48 = .ok (.iconst 0, 1) := by decide +kernel
theorem dX8_read_49 : decode cX8_read 49 = .ok (.iaload, 1) := by decide +kernel
theorem dX8_read_50 : decode cX8_read 50 = .ok (.aload_n 0, 1) := by decide +kernel
theorem dX8_read_51 : decode cX8_read 51 = .ok (.getfield 16, 3) := by decide +kernel
theorem dX8_read_54 : decode cX8_read 54 = .ok (.iconst 0, 1) := by decide +kernel
theorem dX8_read_55 : decode cX8_read 55 = .ok (.iaload, 1) := by decide +kernel
theorem dX8_read_56 : decode cX8_read 56 = .ok (.if_icmp .ne 20, 3) := by decide +kernel
theorem dX8_read_59 : decode cX8_read 59 = .ok (.aload_n 0, 1) := by decide +kernel
theorem dX8_read_60 : decode cX8_read 60 = .ok (.getfield 43, 3) := by decide +kernel
theorem dX8_read_63 : decode cX8_read 63 = .ok (.iconst 0, 1) := by decide +kernel
theorem dX8_read_64 : decode cX8_read 64 = .ok (.iconst 0, 1) := by decide +kernel
theorem dX8_read_65 : decode cX8_read 65 = .ok (.iastore, 1) := by decide +kernel
theorem dX8_read_66 : decode cX8_read 66 = .ok (.aload_n 0, 1) := by decide +kernel
theorem dX8_read_67 : decode cX8_read 67 = .ok (.getfield 46, 3) := by decide +kernel
theorem dX8_read_70 : decode cX8_read 70 = .ok (.iconst 0, 1) := by decide +kernel
theorem dX8_read_71 : decode cX8_read 71 = .ok (.dup2, 1) := by decide +kernel
theorem dX8_read_72 : decode cX8_read 72 = .ok (.iaload, 1) := by decide +kernel
theorem dX8_read_73 : decode cX8_read 73 = .ok (.iconst 1, 1) := by decide +kernel
theorem dX8_read_74 : decode cX8_read 74 = .ok (.iadd, 1) := by decide +kernel
theorem dX8_read_75 : decode cX8_read 75 = .ok (.iastore, 1) := by decide +kernel
theorem dX8_read_76 : decode cX8_read 76 = .ok (.iload_n 1, 1) := by decide +kernel
theorem dX8_read_77 : decode cX8_read 77 = .ok (.ireturn, 1) := by decide +kernel
theorem dX8_finish_0 : decode cX8_finish 0 = .ok (.aload_n 0, 1) := by decide +kernel
theorem dX8_finish_1 : decode cX8_finish 1 = .ok (.getfield 16, 3) := by decide +kernel
theorem dX8_finish_4 : decode cX8_finish 4 = .ok (.iconst 0, 1) := by decide +kernel
theorem dX8_finish_5 : decode cX8_finish 5 = .ok (.iaload, 1) := by decide +kernel
theorem dX8_finish_6 : decode cX8_finish 6 = .ok (.aload_n 0, 1) := by decide +kernel
theorem dX8_finish_7 : decode cX8_finish 7 = .ok (.getfield 43, 3) := by decide +kernel
theorem dX8_finish_10 : decode cX8_finish 10 = .ok (.iconst 0, 1) := by decide +kernel
theorem dX8_finish_11 : decode cX8_finish 11 = .ok (.iaload, 1) := by decide +kernel
theorem dX8_finish_12 : decode cX8_finish 12 = .ok (.isub, 1) := by decide +kernel
theorem dX8_finish_13 : decode cX8_finish 13 = .ok (.istore_n 1, 1) := by decide +kernel
theorem dX8_finish_14 : decode cX8_finish 14 = .ok (.iconst 0, 1) := by decide +kernel
theorem dX8_finish_15 : decode cX8_finish 15 = .ok (.istore_n 2, 1) := by decide +kernel
theorem dX8_finish_16 : decode cX8_finish 16 = .ok (.iload_n 2, 1) := by decide +kernel
theorem dX8_finish_17 : decode cX8_finish 17 = .ok (.iload_n 1, 1) := by decide +kernel
theorem dX8_finish_18 : decode cX8_finish 18 = .ok (.if_icmp .ge 14, 3) := by decide +kernel
theorem dX8_finish_21 : decode cX8_finish 21 = .ok (.aload_n 0, 1) := by decide +kernel
theorem dX8_finish_22 : decode cX8_finish 22 = .ok (.invokevirtual 162, 3) := by decide +kernel
theorem dX8_finish_25 : decode cX8_finish 25 = .ok (.pop, 1) := by decide +kernel
theorem dX8_finish_26 : decode cX8_finish 26 = .ok (.iinc 2 1, 3) := by decide +kernel
theorem dX8_finish_29 : decode cX8_finish 29 = .ok (.goto (-13), 3) := by decide +kernel
theorem dX8_finish_32 : decode cX8_finish 32 = .ok (.iload_n 1, 1) := by decide +kernel
theorem dX8_finish_33 : decode cX8_finish 33 = .ok (.ireturn, 1) := by decide +kernel
theorem dX8_change_0 : decode cX8_change 0 = .ok (.aload_n 0, 1) := by decide +kernel
theorem dX8_change_1 : decode cX8_change 1 = .ok (.iload_n 1, 1) := by decide +kernel
theorem dX8_change_2 : decode cX8_change 2 = .ok (.invokevirtual 155, 3) := by decide +kernel
theorem dX8_change_5 : decode cX8_change 5 = .ok (.ifCond .eq 11, 3) := by decide +kernel
theorem dX8_change_8 : decode cX8_change 8 = .ok (.aload_n 0, 1) := by decide +kernel
theorem dX8_change_9 : decode cX8_change 9 = .ok (.iload_n 2, 1) := by decide +kernel
theorem dX8_change_10 : decode cX8_change 10 = .ok (.invokevirtual 155, 3) := by decide +kernel
theorem dX8_change_13 : decode cX8_change 13 = .ok (.ifCond .ne 5, 3) := by decide +kernel
theorem dX8_change_16 : decode cX8_change 16 = .ok (.iconst (-1), 1) := by decide +kernel
theorem dX8_change_17 : decode cX8_change 17 = .ok (.ireturn, 1) := by decide +kernel
theorem dX8_change_18 : decode cX8_change 18 = .ok (.aload_n 0, 1) := by decide +kernel
theorem dX8_change_19 : decode cX8_change 19 = .ok (.getfield 40, 3) := by decide +kernel
theorem dX8_change_22 : decode cX8_change 22 = .ok (.iload_n 1, 1) := by decide +kernel
theorem dX8_change_23 : decode cX8_change 23 = .ok (.iaload, 1) := by decide +kernel
theorem dX8_change_24 : decode cX8_change 24 = .ok (.istore_n 3, 1) := by decide +kernel
theorem dX8_change_25 : decode cX8_change 25 = .ok (.aload_n 0, 1) := by decide +kernel
theorem dX8_change_26 : decode cX8_change 26 = .ok (.getfield 40, 3) := by decide +kernel
theorem dX8_change_29 : decode cX8_change 29 = .ok (.iload_n 1, 1) := by decide +kernel
theorem dX8_change_30 : decode cX8_change 30 = .ok (.aload_n 0, 1) := by decide +kernel
theorem dX8_change_31 : decode cX8_change 31 = .ok (.getfield 40, 3) := by decide +kernel
theorem dX8_change_34 : decode cX8_change 34 = .ok (.iload_n 2, 1) := by decide +kernel
theorem dX8_change_35 : decode cX8_change 35 = .ok (.iaload, 1) := by decide +kernel
theorem dX8_change_36 : decode cX8_change 36 = .ok (.iastore, 1) := by decide +kernel
theorem dX8_change_37 : decode cX8_change 37 = .ok (.aload_n 0, 1) := by decide +kernel
theorem dX8_change_38 : decode cX8_change 38 = .ok (.getfield 40, 3) := by decide +kernel
theorem dX8_change_41 : decode cX8_change 41 = .ok (.iload_n 2, 1) := by decide +kernel
theorem dX8_change_42 : decode cX8_change 42 = .ok (.iload_n 3, 1) := by decide +kernel
theorem dX8_change_43 : decode cX8_change 43 = .ok (.iastore, 1) := by decide +kernel
theorem dX8_change_44 : decode cX8_change 44 = .ok (.aload_n 0, 1) := by decide +kernel
theorem dX8_change_45 : decode cX8_change 45 = .ok (.getfield 40, 3) := by decide +kernel
theorem dX8_change_48 : decode cX8_change 48 = .ok (.iload_n 1, 1) := by decide +kernel
theorem dX8_change_49 : decode cX8_change 49 = .ok (.iaload, 1) := by decide +kernel
theorem dX8_change_50 : decode cX8_change 50 = .ok (.ireturn, 1) := by decide +kernel
theorem dX8_drop_0 : decode cX8_drop 0 = .ok (.iload_n 1, 1) := by decide +kernel
theorem dX8_drop_1 : decode cX8_drop 1 = .ok (.i2l, 1) := by decide +kernel
theorem dX8_drop_2 : decode cX8_drop 2 = .ok (.lconst 0, 1) := by decide +kernel
theorem dX8_drop_3 : decode cX8_drop 3 = .ok (.ldc2_w 165, 3) := by decide +kernel
theorem dX8_drop_6 : decode cX8_drop 6 = .ok (.invokestatic 98, 3) := by decide +kernel
theorem dX8_drop_9 : decode cX8_drop 9 = .ok (.ifCond .ne 5, 3) := by decide +kernel
theorem dX8_drop_12 : decode cX8_drop 12 = .ok (.iconst (-1), 1) := by decide +kernel
theorem dX8_drop_13 : decode cX8_drop 13 = .ok (.ireturn, 1) := by decide +kernel
theorem dX8_drop_14 : decode cX8_drop 14 = .ok (.aload_n 0, 1) := by decide +kernel
theorem dX8_drop_15 : decode cX8_drop 15 = .ok (.getfield 13, 3) := by decide +kernel
theorem dX8_drop_18 : decode cX8_drop 18 = .ok (.iconst 0, 1) := by decide +kernel
theorem dX8_drop_19 : decode cX8_drop 19 = .ok (.iaload, 1) := by decide +kernel
theorem dX8_drop_20 : decode cX8_drop 20 = .ok (.iconst 1, 1) := by decide +kernel
theorem dX8_drop_21 : decode cX8_drop 21 = .ok (.isub, 1) := by decide +kernel
theorem dX8_drop_22 : decode cX8_drop 22 = .ok (.istore_n 2, 1) := by decide +kernel
theorem dX8_drop_23 : decode cX8_drop 23 = .ok (.iload_n 2, 1) := by decide +kernel
theorem dX8_drop_24 : decode cX8_drop 24 = .ok (.ifCond .le 44, 3) := by decide +kernel
theorem dX8_drop_27 : decode cX8_drop 27 = .ok (.ldc2_w 167, 3) := by decide +kernel
theorem dX8_drop_30 : decode cX8_drop 30 = .ok (.iload_n 1, 1) := by decide +kernel
theorem dX8_drop_31 : decode cX8_drop 31 = .ok (.i2l, 1) := by decide +kernel
theorem dX8_drop_32 : decode cX8_drop 32 = .ok (.lmul, 1) := by decide +kernel
theorem dX8_drop_33 : decode cX8_drop 33 = .ok (.ldc2_w 169, 3) := by decide +kernel
theorem dX8_drop_36 : decode cX8_drop 36 = .ok (.iload_n 2, 1) := by decide +kernel
theorem dX8_drop_37 : decode cX8_drop 37 = .ok (.i2l, 1) := by decide +kernel
theorem dX8_drop_38 : decode cX8_drop 38 = .ok (.lmul, 1) := by decide +kernel
theorem dX8_drop_39 : decode cX8_drop 39 = .ok (.ladd, 1) := by decide +kernel
theorem dX8_drop_40 : decode cX8_drop 40 = .ok (.lconst 1, 1) := by decide +kernel
theorem dX8_drop_41 : decode cX8_drop 41 = .ok (.ladd, 1) := by decide +kernel
theorem dX8_drop_42 : decode cX8_drop 42 = .ok (.lstore_n 3, 1) := by decide +kernel
theorem dX8_drop_43 : decode cX8_drop 43 = .ok (.aload_n 0, 1) := by decide +kernel
theorem dX8_drop_44 : decode cX8_drop 44 = .ok (.iload_n 2, 1) := by decide +kernel
theorem dX8_drop_45 : decode cX8_drop 45 = .ok (.lload_n 3, 1) := by decide +kernel
theorem dX8_drop_46 : decode cX8_drop 46 = .ok (.lload_n 3, 1) := by decide +kernel
theorem dX8_drop_47 : decode cX8_drop 47 = .ok (.lmul, 1) := by decide +kernel
theorem dX8_drop_48 : decode cX8_drop 48 = .ok (.ldc2_w 171, 3) := by decide +kernel
theorem dX8_drop_51 : decode cX8_drop 51 = .ok (.lrem, 1) := by decide +kernel
theorem dX8_drop_52 : decode cX8_drop 52 = .ok (.iload_n 2, 1) := by decide +kernel
theorem dX8_drop_53 : decode cX8_drop 53 = .ok (.iconst 1, 1) := by decide +kernel
theorem dX8_drop_54 : decode cX8_drop 54 = .ok (.iadd, 1) := by decide +kernel
theorem dX8_drop_55 : decode cX8_drop 55 = .ok (.i2l, 1) := by decide +kernel
theorem dX8_drop_56 : decode cX8_drop 56 = .ok (.lrem, 1) := by decide +kernel
theorem dX8_drop_57 : decode cX8_drop 57 = .ok (.l2i, 1) := by decide +kernel
theorem dX8_drop_58 : decode cX8_drop 58 = .ok (.invokevirtual 173, 3) := by decide +kernel
theorem dX8_drop_61 : decode cX8_drop 61 = .ok (.pop, 1) := by decide +kernel
theorem dX8_drop_62 : decode cX8_drop 62 = .ok (.iinc 2 (-1), 3) := by decide +kernel
theorem dX8_drop_65 : decode cX8_drop 65 = .ok (.goto (-42), 3) := by decide +kernel
theorem dX8_drop_68 : decode cX8_drop 68 = .ok (.aload_n 0, 1) := by decide +kernel
theorem dX8_drop_69 : decode cX8_drop 69 = .ok (.getfield 43, 3) := by decide +kernel
theorem dX8_drop_72 : decode cX8_drop 72 = .ok (.iconst 0, 1) := by decide +kernel
theorem dX8_drop_73 : decode cX8_drop 73 = .ok (.iconst 0, 1) := by decide +kernel
theorem dX8_drop_74 : decode cX8_drop 74 = .ok (.iastore, 1) := by decide +kernel
theorem dX8_drop_75 : decode cX8_drop 75 = .ok (.aload_n 0, 1) := by decide +kernel
theorem dX8_drop_76 : decode cX8_drop 76 = .ok (.getfield 40, 3) := by decide +kernel
theorem dX8_drop_79 : decode cX8_drop 79 = .ok (.iconst 0, 1) := by decide +kernel
theorem dX8_drop_80 : decode cX8_drop 80 = .ok (.iaload, 1) := by decide +kernel
theorem dX8_drop_81 : decode cX8_drop 81 = .ok (.ireturn, 1) := by decide +kernel
theorem dX8_layOne_0 : decode cX8_layOne 0 = .ok (.iconst 0, 1) := by decide +kernel
theorem dX8_layOne_1 : decode cX8_layOne 1 = .ok (.istore_n 1, 1) := by decide +kernel
theorem dX8_layOne_2 : decode cX8_layOne 2 = .ok (.iload_n 1, 1) := by decide +kernel
theorem dX8_layOne_3 : decode cX8_layOne 3 = .ok (.bipush 40, 2) := by decide +kernel
theorem dX8_layOne_5 : decode cX8_layOne 5 = .ok (.if_icmp .ge 16, 3) := by decide +kernel
theorem dX8_layOne_8 : decode cX8_layOne 8 = .ok (.aload_n 0, 1) := by decide +kernel
theorem dX8_layOne_9 : decode cX8_layOne 9 = .ok (.getfield 68, 3) := by decide +kernel
theorem dX8_layOne_12 : decode cX8_layOne 12 = .ok (.iload_n 1, 1) := by decide +kernel
theorem dX8_layOne_13 : decode cX8_layOne 13 = .ok (.iload_n 1, 1) := by decide +kernel
theorem dX8_layOne_14 : decode cX8_layOne 14 = .ok (.iastore, 1) := by decide +kernel
theorem dX8_layOne_15 : decode cX8_layOne 15 = .ok (.iinc 1 1, 3) := by decide +kernel
theorem dX8_layOne_18 : decode cX8_layOne 18 = .ok (.goto (-16), 3) := by decide +kernel
theorem dX8_layOne_21 : decode cX8_layOne 21 = .ok (.iconst 0, 1) := by decide +kernel
theorem dX8_layOne_22 : decode cX8_layOne 22 = .ok (.istore_n 1, 1) := by decide +kernel
theorem dX8_layOne_23 : decode cX8_layOne 23 = .ok (.iload_n 1, 1) := by decide +kernel
theorem dX8_layOne_24 : decode cX8_layOne 24 = .ok (.aload_n 0, 1) := by decide +kernel
theorem dX8_layOne_25 : decode cX8_layOne 25 = .ok (.getfield 16, 3) := by decide +kernel
theorem dX8_layOne_28 : decode cX8_layOne 28 = .ok (.iconst 0, 1) := by decide +kernel
theorem dX8_layOne_29 : decode cX8_layOne 29 = .ok (.iaload, 1) := by decide +kernel
theorem dX8_layOne_30 : decode cX8_layOne 30 = .ok (.if_icmp .ge 43, 3) := by decide +kernel
theorem dX8_layOne_33 : decode cX8_layOne 33 = .ok (.aload_n 0, 1) := by decide +kernel
theorem dX8_layOne_34 : decode cX8_layOne 34 = .ok (.getfield 65, 3) := by decide +kernel
theorem dX8_layOne_37 : decode cX8_layOne 37 = .ok (.iload_n 1, 1) := by decide +kernel
theorem dX8_layOne_38 : decode cX8_layOne 38 = .ok (.aload_n 0, 1) := by decide +kernel
theorem dX8_layOne_39 : decode cX8_layOne 39 = .ok (.getfield 68, 3) := by decide +kernel
theorem dX8_layOne_42 : decode cX8_layOne 42 = .ok (.iconst 0, 1) := by decide +kernel
theorem dX8_layOne_43 : decode cX8_layOne 43 = .ok (.iaload, 1) := by decide +kernel
theorem dX8_layOne_44 : decode cX8_layOne 44 = .ok (.iastore, 1) := by decide +kernel
theorem dX8_layOne_45 : decode cX8_layOne 45 = .ok (.aload_n 0, 1) := by decide +kernel
theorem dX8_layOne_46 : decode cX8_layOne 46 = .ok (.aload_n 0, 1) := by decide +kernel
theorem dX8_layOne_47 : decode cX8_layOne 47 = .ok (.getfield 68, 3) := by decide +kernel
theorem dX8_layOne_50 : decode cX8_layOne 50 = .ok (.iconst 0, 1) := by decide +kernel
theorem dX8_layOne_51 : decode cX8_layOne 51 = .ok (.aload_n 0, 1) := by decide +kernel
theorem dX8_layOne_52 : decode cX8_layOne 52 = .ok (.getfield 19, 3) := by decide +kernel
theorem dX8_layOne_55 : decode cX8_layOne 55 = .ok (.iconst 0, 1) := by decide +kernel
theorem dX8_layOne_56 : decode cX8_layOne 56 = .ok (.iaload, 1) := by decide +kernel
theorem dX8_layOne_57 : decode cX8_layOne 57 = .ok (.aload_n 0, 1) := by decide +kernel
theorem dX8_layOne_58 : decode cX8_layOne 58 = .ok (.getfield 22, 3) := by decide +kernel
theorem dX8_layOne_61 : decode cX8_layOne 61 = .ok (.iconst 0, 1) := by decide +kernel
theorem dX8_layOne_62 : decode cX8_layOne 62 = .ok (.iaload, 1) := by decide +kernel
theorem dX8_layOne_63 : decode cX8_layOne 63 = .ok (.iload_n 1, 1) := by decide +kernel
theorem dX8_layOne_64 : decode cX8_layOne 64 = .ok (.invokevirtual 158, 3) := by decide +kernel
theorem dX8_layOne_67 : decode cX8_layOne 67 = .ok (.iinc 1 1, 3) := by decide +kernel
theorem dX8_layOne_70 : decode cX8_layOne 70 = .ok (.goto (-47), 3) := by decide +kernel
theorem dX8_layOne_73 : decode cX8_layOne 73 = .ok (.return_, 1) := by decide +kernel
theorem dX8_put_0 : decode cX8_put 0 = .ok (.iconst 0, 1) := by decide +kernel
theorem dX8_put_1 : decode cX8_put 1 = .ok (.istore_n 3, 1) := by decide +kernel
theorem dX8_put_2 : decode cX8_put 2 = .ok (.iload_n 3, 1) := by decide +kernel
theorem dX8_put_3 : decode cX8_put 3 = .ok (.aload_n 0, 1) := by decide +kernel
theorem dX8_put_4 : decode cX8_put 4 = .ok (.getfield 13, 3) := by decide +kernel
theorem dX8_put_7 : decode cX8_put 7 = .ok (.iconst 0, 1) := by decide +kernel
theorem dX8_put_8 : decode cX8_put 8 = .ok (.iaload, 1) := by decide +kernel
theorem dX8_put_9 : decode cX8_put 9 = .ok (.if_icmp .ge 20, 3) := by decide +kernel
theorem dX8_put_12 : decode cX8_put 12 = .ok (.aload_n 0, 1) := by decide +kernel
theorem dX8_put_13 : decode cX8_put 13 = .ok (.getfield 77, 3) := by decide +kernel
theorem dX8_put_16 : decode cX8_put 16 = .ok (.iload_n 3, 1) := by decide +kernel
theorem dX8_put_17 : decode cX8_put 17 = .ok (.aload_n 1, 1) := by decide +kernel
theorem dX8_put_18 : decode cX8_put 18 = .ok (.aload_n 2, 1) := by decide +kernel
theorem dX8_put_19 : decode cX8_put 19 = .ok (.iload_n 3, 1) := by decide +kernel
theorem dX8_put_20 : decode cX8_put 20 = .ok (.iaload, 1) := by decide +kernel
theorem dX8_put_21 : decode cX8_put 21 = .ok (.iaload, 1) := by decide +kernel
theorem dX8_put_22 : decode cX8_put 22 = .ok (.iastore, 1) := by decide +kernel
theorem dX8_put_23 : decode cX8_put 23 = .ok (.iinc 3 1, 3) := by decide +kernel
theorem dX8_put_26 : decode cX8_put 26 = .ok (.goto (-24), 3) := by decide +kernel
theorem dX8_put_29 : decode cX8_put 29 = .ok (.iconst 0, 1) := by decide +kernel
theorem dX8_put_30 : decode cX8_put 30 = .ok (.istore_n 3, 1) := by decide +kernel
theorem dX8_put_31 : decode cX8_put 31 = .ok (.iload_n 3, 1) := by decide +kernel
theorem dX8_put_32 : decode cX8_put 32 = .ok (.aload_n 0, 1) := by decide +kernel
theorem dX8_put_33 : decode cX8_put 33 = .ok (.getfield 13, 3) := by decide +kernel
theorem dX8_put_36 : decode cX8_put 36 = .ok (.iconst 0, 1) := by decide +kernel
theorem dX8_put_37 : decode cX8_put 37 = .ok (.iaload, 1) := by decide +kernel
theorem dX8_put_38 : decode cX8_put 38 = .ok (.if_icmp .ge 18, 3) := by decide +kernel
theorem dX8_put_41 : decode cX8_put 41 = .ok (.aload_n 1, 1) := by decide +kernel
theorem dX8_put_42 : decode cX8_put 42 = .ok (.iload_n 3, 1) := by decide +kernel
theorem dX8_put_43 : decode cX8_put 43 = .ok (.aload_n 0, 1) := by decide +kernel
theorem dX8_put_44 : decode cX8_put 44 = .ok (.getfield 77, 3) := by decide +kernel
theorem dX8_put_47 : decode cX8_put 47 = .ok (.iload_n 3, 1) := by decide +kernel
theorem dX8_put_48 : decode cX8_put 48 = .ok (.iaload, 1) := by decide +kernel
theorem dX8_put_49 : decode cX8_put 49 = .ok (.iastore, 1) := by decide +kernel
theorem dX8_put_50 : decode cX8_put 50 = .ok (.iinc 3 1, 3) := by decide +kernel
theorem dX8_put_53 : decode cX8_put 53 = .ok (.goto (-22), 3) := by decide +kernel
theorem dX8_put_56 : decode cX8_put 56 = .ok (.return_, 1) := by decide +kernel
theorem dX8_layPower_0 : decode cX8_layPower 0 = .ok (.iconst 0, 1) := by decide +kernel
theorem dX8_layPower_1 : decode cX8_layPower 1 = .ok (.istore_n 3, 1) := by decide +kernel
theorem dX8_layPower_2 : decode cX8_layPower 2 = .ok (.iload_n 3, 1) := by decide +kernel
theorem dX8_layPower_3 : decode cX8_layPower 3 = .ok (.bipush 40, 2) := by decide +kernel
theorem dX8_layPower_5 : decode cX8_layPower 5 = .ok (.if_icmp .ge 28, 3) := by decide +kernel
theorem dX8_layPower_8 : decode cX8_layPower 8 = .ok (.aload_n 0, 1) := by decide +kernel
theorem dX8_layPower_9 : decode cX8_layPower 9 = .ok (.getfield 71, 3) := by decide +kernel
theorem dX8_layPower_12 : decode cX8_layPower 12 = .ok (.iload_n 3, 1) := by decide +kernel
theorem dX8_layPower_13 : decode cX8_layPower 13 = .ok (.iload_n 3, 1) := by decide +kernel
theorem dX8_layPower_14 : decode cX8_layPower 14 = .ok (.iastore, 1) := by decide +kernel
theorem dX8_layPower_15 : decode cX8_layPower 15 = .ok (.aload_n 0, 1) := by decide +kernel
theorem dX8_layPower_16 : decode cX8_layPower 16 = .ok (.getfield 74, 3) := by decide +kernel
theorem dX8_layPower_19 : decode cX8_layPower 19 = .ok (.iload_n 3, 1) := by decide +kernel
theorem dX8_layPower_20 : decode cX8_layPower 20 = .ok (.aload_n 0, 1) := by decide +kernel
theorem dX8_layPower_21 : decode cX8_layPower 21 = .ok (.getfield 68, 3) := by decide +kernel
theorem dX8_layPower_24 : decode cX8_layPower 24 = .ok (.iload_n 3, 1) := by decide +kernel
theorem dX8_layPower_25 : decode cX8_layPower 25 = .ok (.iaload, 1) := by decide +kernel
theorem dX8_layPower_26 : decode cX8_layPower 26 = .ok (.iastore, 1) := by decide +kernel
theorem dX8_layPower_27 : decode cX8_layPower 27 = .ok (.iinc 3 1, 3) := by decide +kernel
theorem dX8_layPower_30 : decode cX8_layPower 30 = .ok (.goto (-28), 3) := by decide +kernel
theorem dX8_layPower_33 : decode cX8_layPower 33 = .ok (.lload_n 1, 1) := by decide +kernel
theorem dX8_layPower_34 : decode cX8_layPower 34 = .ok (.lstore_n 3, 1) := by decide +kernel
theorem dX8_layPower_35 : decode cX8_layPower 35 = .ok (.lload_n 3, 1) := by decide +kernel
theorem dX8_layPower_36 : decode cX8_layPower 36 = .ok (.lconst 0, 1) := by decide +kernel
theorem dX8_layPower_37 : decode cX8_layPower 37 = .ok (.lcmp, 1) := by decide +kernel
theorem dX8_layPower_38 : decode cX8_layPower 38 = .ok (.ifCond .le 46, 3) := by decide +kernel
theorem dX8_layPower_41 : decode cX8_layPower 41 = .ok (.lload_n 3, 1) := by decide +kernel
theorem dX8_layPower_42 : decode cX8_layPower 42 = .ok (.ldc2_w 119, 3) := by decide +kernel
theorem dX8_layPower_45 : decode cX8_layPower 45 = .ok (.lrem, 1) := by decide +kernel
theorem dX8_layPower_46 : decode cX8_layPower 46 = .ok (.lconst 1, 1) := by decide +kernel
theorem dX8_layPower_47 : decode cX8_layPower 47 = .ok (.lcmp, 1) := by decide +kernel
theorem dX8_layPower_48 : decode cX8_layPower 48 = .ok (.ifCond .ne 15, 3) := by decide +kernel
theorem dX8_layPower_51 : decode cX8_layPower 51 = .ok (.aload_n 0, 1) := by decide +kernel
theorem dX8_layPower_52 : decode cX8_layPower 52 = .ok (.aload_n 0, 1) := by decide +kernel
theorem dX8_layPower_53 : decode cX8_layPower 53 = .ok (.getfield 71, 3) := by decide +kernel
theorem dX8_layPower_56 : decode cX8_layPower 56 = .ok (.aload_n 0, 1) := by decide +kernel
theorem dX8_layPower_57 : decode cX8_layPower 57 = .ok (.getfield 74, 3) := by decide +kernel
theorem dX8_layPower_60 : decode cX8_layPower 60 = .ok (.invokevirtual 177, 3) := by decide +kernel
theorem dX8_layPower_63 : decode cX8_layPower 63 = .ok (.aload_n 0, 1) := by decide +kernel
theorem dX8_layPower_64 : decode cX8_layPower 64 = .ok (.aload_n 0, 1) := by decide +kernel
theorem dX8_layPower_65 : decode cX8_layPower 65 = .ok (.getfield 74, 3) := by decide +kernel
theorem dX8_layPower_68 : decode cX8_layPower 68 = .ok (.aload_n 0, 1) := by decide +kernel
theorem dX8_layPower_69 : decode cX8_layPower 69 = .ok (.getfield 74, 3) := by decide +kernel
theorem dX8_layPower_72 : decode cX8_layPower 72 = .ok (.invokevirtual 177, 3) := by decide +kernel
theorem dX8_layPower_75 : decode cX8_layPower 75 = .ok (.lload_n 3, 1) := by decide +kernel
theorem dX8_layPower_76 : decode cX8_layPower 76 = .ok (.ldc2_w 119, 3) := by decide +kernel
theorem dX8_layPower_79 : decode cX8_layPower 79 = .ok (.ldiv, 1) := by decide +kernel
theorem dX8_layPower_80 : decode cX8_layPower 80 = .ok (.lstore_n 3, 1) := by decide +kernel
theorem dX8_layPower_81 : decode cX8_layPower 81 = .ok (.goto (-46), 3) := by decide +kernel
theorem dX8_layPower_84 : decode cX8_layPower 84 = .ok (.return_, 1) := by decide +kernel
theorem dX8_placeOf_0 : decode cX8_placeOf 0 = .ok (.aload_n 0, 1) := by decide +kernel
theorem dX8_placeOf_1 : decode cX8_placeOf 1 = .ok (.getfield 71, 3) := by decide +kernel
theorem dX8_placeOf_4 : decode cX8_placeOf 4 = .ok (.aload_n 0, 1) := by decide +kernel
theorem dX8_placeOf_5 : decode cX8_placeOf 5 = .ok (.getfield 65, 3) := by decide +kernel
theorem dX8_placeOf_8 : decode cX8_placeOf 8 = .ok (.iload_n 1, 1) := by decide +kernel
theorem dX8_placeOf_9 : decode cX8_placeOf 9 = .ok (.iaload, 1) := by decide +kernel
theorem dX8_placeOf_10 : decode cX8_placeOf 10 = .ok (.iaload, 1) := by decide +kernel
theorem dX8_placeOf_11 : decode cX8_placeOf 11 = .ok (.ireturn, 1) := by decide +kernel
theorem dX8_isReader_0 : decode cX8_isReader 0 = .ok (.lload_n 0, 1) := by decide +kernel
theorem dX8_isReader_1 : decode cX8_isReader 1 = .ok (.lconst 0, 1) := by decide +kernel
theorem dX8_isReader_2 : decode cX8_isReader 2 = .ok (.ldc2_w 181, 3) := by decide +kernel
theorem dX8_isReader_5 : decode cX8_isReader 5 = .ok (.invokestatic 98, 3) := by decide +kernel
theorem dX8_isReader_8 : decode cX8_isReader 8 = .ok (.ireturn, 1) := by decide +kernel
theorem dX8_has_0 : decode cX8_has 0 = .ok (.lload_n 1, 1) := by decide +kernel
theorem dX8_has_1 : decode cX8_has 1 = .ok (.invokestatic 183, 3) := by decide +kernel
theorem dX8_has_4 : decode cX8_has 4 = .ok (.ifCond .eq 21, 3) := by decide +kernel
theorem dX8_has_7 : decode cX8_has 7 = .ok (.iload_n 3, 1) := by decide +kernel
theorem dX8_has_8 : decode cX8_has 8 = .ok (.i2l, 1) := by decide +kernel
theorem dX8_has_9 : decode cX8_has 9 = .ok (.lconst 0, 1) := by decide +kernel
theorem dX8_has_10 : decode cX8_has 10 = .ok (.aload_n 0, 1) := by decide +kernel
theorem dX8_has_11 : decode cX8_has 11 = .ok (.getfield 16, 3) := by decide +kernel
theorem dX8_has_14 : decode cX8_has 14 = .ok (.iconst 0, 1) := by decide +kernel
theorem dX8_has_15 : decode cX8_has 15 = .ok (.iaload, 1) := by decide +kernel
theorem dX8_has_16 : decode cX8_has 16 = .ok (.iconst 1, 1) := by decide +kernel
theorem dX8_has_17 : decode cX8_has 17 = .ok (.isub, 1) := by decide +kernel
theorem dX8_has_18 : decode cX8_has 18 = .ok (.i2l, 1) := by decide +kernel
theorem dX8_has_19 : decode cX8_has 19 = .ok (.invokestatic 98, 3) := by decide +kernel
theorem dX8_has_22 : decode cX8_has 22 = .ok (.ifCond .ne 5, 3) := by decide +kernel
theorem dX8_has_25 : decode cX8_has 25 = .ok (.iconst (-1), 1) := by decide +kernel
theorem dX8_has_26 : decode cX8_has 26 = .ok (.ireturn, 1) := by decide +kernel
theorem dX8_has_27 : decode cX8_has 27 = .ok (.aload_n 0, 1) := by decide +kernel
theorem dX8_has_28 : decode cX8_has 28 = .ok (.lload_n 1, 1) := by decide +kernel
theorem dX8_has_29 : decode cX8_has 29 = .ok (.invokevirtual 187, 3) := by decide +kernel
theorem dX8_has_32 : decode cX8_has 32 = .ok (.aload_n 0, 1) := by decide +kernel
theorem dX8_has_33 : decode cX8_has 33 = .ok (.getfield 37, 3) := by decide +kernel
theorem dX8_has_36 : decode cX8_has 36 = .ok (.aload_n 0, 1) := by decide +kernel
theorem dX8_has_37 : decode cX8_has 37 = .ok (.iload_n 3, 1) := by decide +kernel
theorem dX8_has_38 : decode cX8_has 38 = .ok (.invokevirtual 191, 3) := by decide +kernel
theorem dX8_has_41 : decode cX8_has 41 = .ok (.iaload, 1) := by decide +kernel
theorem dX8_has_42 : decode cX8_has 42 = .ok (.ireturn, 1) := by decide +kernel
theorem dX8_leavesNow_0 : decode cX8_leavesNow 0 = .ok (.lconst 0, 1) := by decide +kernel
theorem dX8_leavesNow_1 : decode cX8_leavesNow 1 = .ok (.lstore_n 1, 1) := by decide +kernel
theorem dX8_leavesNow_2 : decode cX8_leavesNow 2 = .ok (.iconst 0, 1) := by decide +kernel
theorem dX8_leavesNow_3 : decode cX8_leavesNow 3 = .ok (.istore_n 3, 1) := by decide +kernel
theorem dX8_leavesNow_4 : decode cX8_leavesNow 4 = .ok (.iload_n 3, 1) := by decide +kernel
theorem dX8_leavesNow_5 : decode cX8_leavesNow 5 = .ok (.aload_n 0, 1) := by decide +kernel
theorem dX8_leavesNow_6 : decode cX8_leavesNow 6 = .ok (.getfield 16, 3) := by decide +kernel
theorem dX8_leavesNow_9 : decode cX8_leavesNow 9 = .ok (.iconst 0, 1) := by decide +kernel
theorem dX8_leavesNow_10 : decode cX8_leavesNow 10 = .ok (.iaload, 1) := by decide +kernel
theorem dX8_leavesNow_11 : decode cX8_leavesNow 11 = .ok (.if_icmp .ge 24, 3) := by decide +kernel
theorem dX8_leavesNow_14 : decode cX8_leavesNow 14 = .ok (.lload_n 1, 1) := by decide +kernel
theorem dX8_leavesNow_15 : decode cX8_leavesNow 15 = .ok (.lconst 1, 1) := by decide +kernel
theorem dX8_leavesNow_16 : decode cX8_leavesNow 16 = .ok (.aload_n 0, 1) := by decide +kernel
theorem dX8_leavesNow_17 : decode cX8_leavesNow 17 = .ok (.getfield 37, 3) := by decide +kernel
theorem dX8_leavesNow_20 : decode cX8_leavesNow 20 = .ok (.aload_n 0, 1) := by decide +kernel
theorem dX8_leavesNow_21 : decode cX8_leavesNow 21 = .ok (.iload_n 3, 1) := by decide +kernel
theorem dX8_leavesNow_22 : decode cX8_leavesNow 22 = .ok (.invokevirtual 191, 3) := by decide +kernel
theorem dX8_leavesNow_25 : decode cX8_leavesNow 25 = .ok (.iaload, 1) := by decide +kernel
theorem dX8_leavesNow_26 : decode cX8_leavesNow 26 = .ok (.lshl, 1) := by decide +kernel
theorem dX8_leavesNow_27 : decode cX8_leavesNow 27 = .ok (.lor, 1) := by decide +kernel
theorem dX8_leavesNow_28 : decode cX8_leavesNow 28 = .ok (.lstore_n 1, 1) := by decide +kernel
theorem dX8_leavesNow_29 : decode cX8_leavesNow 29 = .ok (.iinc 3 1, 3) := by decide +kernel
theorem dX8_leavesNow_32 : decode cX8_leavesNow 32 = .ok (.goto (-28), 3) := by decide +kernel
theorem dX8_leavesNow_35 : decode cX8_leavesNow 35 = .ok (.lload_n 1, 1) := by decide +kernel
theorem dX8_leavesNow_36 : decode cX8_leavesNow 36 = .ok (.lreturn, 1) := by decide +kernel
theorem dX8_leaves_0 : decode cX8_leaves 0 = .ok (.lload_n 1, 1) := by decide +kernel
theorem dX8_leaves_1 : decode cX8_leaves 1 = .ok (.invokestatic 183, 3) := by decide +kernel
theorem dX8_leaves_4 : decode cX8_leaves 4 = .ok (.ifCond .ne 7, 3) := by decide +kernel
theorem dX8_leaves_7 : decode cX8_leaves 7 = .ok (.ldc2_w 194, 3) := by decide +kernel
theorem dX8_leaves_10 : decode cX8_leaves 10 = .ok (.lreturn, 1) := by decide +kernel
theorem dX8_leaves_11 : decode cX8_leaves 11 = .ok (.aload_n 0, 1) := by decide +kernel
theorem dX8_leaves_12 : decode cX8_leaves 12 = .ok (.lload_n 1, 1) := by decide +kernel
theorem dX8_leaves_13 : decode cX8_leaves 13 = .ok (.invokevirtual 187, 3) := by decide +kernel
theorem dX8_leaves_16 : decode cX8_leaves 16 = .ok (.aload_n 0, 1) := by decide +kernel
theorem dX8_leaves_17 : decode cX8_leaves 17 = .ok (.invokevirtual 196, 3) := by decide +kernel
theorem dX8_leaves_20 : decode cX8_leaves 20 = .ok (.lreturn, 1) := by decide +kernel
theorem dX8_isAtFirst_0 : decode cX8_isAtFirst 0 = .ok (.iconst 1, 1) := by decide +kernel
theorem dX8_isAtFirst_1 : decode cX8_isAtFirst 1 = .ok (.istore_n 1, 1) := by decide +kernel
theorem dX8_isAtFirst_2 : decode cX8_isAtFirst 2 = .ok (.iconst 0, 1) := by decide +kernel
theorem dX8_isAtFirst_3 : decode cX8_isAtFirst 3 = .ok (.istore_n 2, 1) := by decide +kernel
theorem dX8_isAtFirst_4 : decode cX8_isAtFirst 4 = .ok (.iload_n 2, 1) := by decide +kernel
theorem dX8_isAtFirst_5 : decode cX8_isAtFirst 5 = .ok (.aload_n 0, 1) := by decide +kernel
theorem dX8_isAtFirst_6 : decode cX8_isAtFirst 6 = .ok (.getfield 13, 3) := by decide +kernel
theorem dX8_isAtFirst_9 : decode cX8_isAtFirst 9 = .ok (.iconst 0, 1) := by decide +kernel
theorem dX8_isAtFirst_10 : decode cX8_isAtFirst 10 = .ok (.iaload, 1) := by decide +kernel
theorem dX8_isAtFirst_11 : decode cX8_isAtFirst 11 = .ok (.if_icmp .ge 29, 3) := by decide +kernel
theorem dX8_isAtFirst_14 : decode cX8_isAtFirst 14 = .ok (.iload_n 1, 1) := by decide +kernel
theorem dX8_isAtFirst_15 : decode cX8_isAtFirst 15 = .ok (.ifCond .eq 17, 3) := by decide +kernel
theorem dX8_isAtFirst_18 : decode cX8_isAtFirst 18 = .ok (.aload_n 0, 1) := by decide +kernel
theorem dX8_isAtFirst_19 : decode cX8_isAtFirst 19 = .ok (.getfield 71, 3) := by decide +kernel
theorem dX8_isAtFirst_22 : decode cX8_isAtFirst 22 = .ok (.iload_n 2, 1) := by decide +kernel
theorem dX8_isAtFirst_23 : decode cX8_isAtFirst 23 = .ok (.iaload, 1) := by decide +kernel
theorem dX8_isAtFirst_24 : decode cX8_isAtFirst 24 = .ok (.iload_n 2, 1) := by decide +kernel
theorem dX8_isAtFirst_25 : decode cX8_isAtFirst 25 = .ok (.if_icmp .ne 7, 3) := by decide +kernel
theorem dX8_isAtFirst_28 : decode cX8_isAtFirst 28 = .ok (.iconst 1, 1) := by decide +kernel
theorem dX8_isAtFirst_29 : decode cX8_isAtFirst 29 = .ok (.goto 4, 3) := by decide +kernel
theorem dX8_isAtFirst_32 : decode cX8_isAtFirst 32 = .ok (.iconst 0, 1) := by decide +kernel
theorem dX8_isAtFirst_33 : decode cX8_isAtFirst 33 = .ok (.istore_n 1, 1) := by decide +kernel
theorem dX8_isAtFirst_34 : decode cX8_isAtFirst 34 = .ok (.iinc 2 1, 3) := by decide +kernel
theorem dX8_isAtFirst_37 : decode cX8_isAtFirst 37 = .ok (.goto (-33), 3) := by decide +kernel
theorem dX8_isAtFirst_40 : decode cX8_isAtFirst 40 = .ok (.iload_n 1, 1) := by decide +kernel
theorem dX8_isAtFirst_41 : decode cX8_isAtFirst 41 = .ok (.ireturn, 1) := by decide +kernel
theorem dX8_period_0 : decode cX8_period 0 = .ok (.aload_n 0, 1) := by decide +kernel
theorem dX8_period_1 : decode cX8_period 1 = .ok (.lconst 1, 1) := by decide +kernel
theorem dX8_period_2 : decode cX8_period 2 = .ok (.invokevirtual 187, 3) := by decide +kernel
theorem dX8_period_5 : decode cX8_period 5 = .ok (.iconst 1, 1) := by decide +kernel
theorem dX8_period_6 : decode cX8_period 6 = .ok (.istore_n 1, 1) := by decide +kernel
theorem dX8_period_7 : decode cX8_period 7 = .ok (.aload_n 0, 1) := by decide +kernel
theorem dX8_period_8 : decode cX8_period 8 = .ok (.invokevirtual 200, 3) := by decide +kernel
theorem dX8_period_11 : decode cX8_period 11 = .ok (.ifCond .ne 21, 3) := by decide +kernel
theorem dX8_period_14 : decode cX8_period 14 = .ok (.aload_n 0, 1) := by decide +kernel
theorem dX8_period_15 : decode cX8_period 15 = .ok (.aload_n 0, 1) := by decide +kernel
theorem dX8_period_16 : decode cX8_period 16 = .ok (.getfield 71, 3) := by decide +kernel
theorem dX8_period_19 : decode cX8_period 19 = .ok (.aload_n 0, 1) := by decide +kernel
theorem dX8_period_20 : decode cX8_period 20 = .ok (.getfield 68, 3) := by decide +kernel
theorem dX8_period_23 : decode cX8_period 23 = .ok (.invokevirtual 177, 3) := by decide +kernel
theorem dX8_period_26 : decode cX8_period 26 = .ok (.iinc 1 1, 3) := by decide +kernel
theorem dX8_period_29 : decode cX8_period 29 = .ok (.goto (-22), 3) := by decide +kernel
theorem dX8_period_32 : decode cX8_period 32 = .ok (.iload_n 1, 1) := by decide +kernel
theorem dX8_period_33 : decode cX8_period 33 = .ok (.ireturn, 1) := by decide +kernel
theorem dX8_ever_0 : decode cX8_ever 0 = .ok (.iload_n 1, 1) := by decide +kernel
theorem dX8_ever_1 : decode cX8_ever 1 = .ok (.i2l, 1) := by decide +kernel
theorem dX8_ever_2 : decode cX8_ever 2 = .ok (.lconst 0, 1) := by decide +kernel
theorem dX8_ever_3 : decode cX8_ever 3 = .ok (.lconst 1, 1) := by decide +kernel
theorem dX8_ever_4 : decode cX8_ever 4 = .ok (.invokestatic 98, 3) := by decide +kernel
theorem dX8_ever_7 : decode cX8_ever 7 = .ok (.ifCond .ne 7, 3) := by decide +kernel
theorem dX8_ever_10 : decode cX8_ever 10 = .ok (.ldc2_w 194, 3) := by decide +kernel
theorem dX8_ever_13 : decode cX8_ever 13 = .ok (.lreturn, 1) := by decide +kernel
theorem dX8_ever_14 : decode cX8_ever 14 = .ok (.aload_n 0, 1) := by decide +kernel
theorem dX8_ever_15 : decode cX8_ever 15 = .ok (.invokevirtual 203, 3) := by decide +kernel
theorem dX8_ever_18 : decode cX8_ever 18 = .ok (.istore_n 2, 1) := by decide +kernel
theorem dX8_ever_19 : decode cX8_ever 19 = .ok (.lconst 1, 1) := by decide +kernel
theorem dX8_ever_20 : decode cX8_ever 20 = .ok (.aload_n 0, 1) := by decide +kernel
theorem dX8_ever_21 : decode cX8_ever 21 = .ok (.getfield 13, 3) := by decide +kernel
theorem dX8_ever_24 : decode cX8_ever 24 = .ok (.iconst 0, 1) := by decide +kernel
theorem dX8_ever_25 : decode cX8_ever 25 = .ok (.iaload, 1) := by decide +kernel
theorem dX8_ever_26 : decode cX8_ever 26 = .ok (.lshl, 1) := by decide +kernel
theorem dX8_ever_27 : decode cX8_ever 27 = .ok (.lconst 1, 1) := by decide +kernel
theorem dX8_ever_28 : decode cX8_ever 28 = .ok (.lsub, 1) := by decide +kernel
theorem dX8_ever_29 : decode cX8_ever 29 = .ok (.lstore_n 3, 1) := by decide +kernel
theorem dX8_ever_30 : decode cX8_ever 30 = .ok (.lconst 0, 1) := by decide +kernel
theorem dX8_ever_31 : decode cX8_ever 31 = .ok (.lstore 5, 2) := by decide +kernel
theorem dX8_ever_33 : decode cX8_ever 33 = .ok (.lload_n 3, 1) := by decide +kernel
theorem dX8_ever_34 : decode cX8_ever 34 = .ok (.lstore 7, 2) := by decide +kernel
theorem dX8_ever_36 : decode cX8_ever 36 = .ok (.aload_n 0, 1) := by decide +kernel
theorem dX8_ever_37 : decode cX8_ever 37 = .ok (.lconst 0, 1) := by decide +kernel
theorem dX8_ever_38 : decode cX8_ever 38 = .ok (.invokevirtual 187, 3) := by decide +kernel
theorem dX8_ever_41 : decode cX8_ever 41 = .ok (.iconst 0, 1) := by decide +kernel
theorem dX8_ever_42 : decode cX8_ever 42 = .ok (.istore 9, 2) := by decide +kernel
theorem dX8_ever_44 : decode cX8_ever 44 = .ok (.iload 9, 2) := by decide +kernel
theorem dX8_ever_46 : decode cX8_ever 46 = .ok (.iload_n 2, 1) := by decide +kernel
theorem dX8_ever_47 : decode cX8_ever 47 = .ok (.if_icmp .ge 39, 3) := by decide +kernel
theorem dX8_ever_50 : decode cX8_ever 50 = .ok (.lload 5, 2) := by decide +kernel
theorem dX8_ever_52 : decode cX8_ever 52 = .ok (.aload_n 0, 1) := by decide +kernel
theorem dX8_ever_53 : decode cX8_ever 53 = .ok (.invokevirtual 196, 3) := by decide +kernel
theorem dX8_ever_56 : decode cX8_ever 56 = .ok (.lor, 1) := by decide +kernel
theorem dX8_ever_57 : decode cX8_ever 57 = .ok (.lstore 5, 2) := by decide +kernel
theorem dX8_ever_59 : decode cX8_ever 59 = .ok (.lload 7, 2) := by decide +kernel
theorem dX8_ever_61 : decode cX8_ever 61 = .ok (.aload_n 0, 1) := by decide +kernel
theorem dX8_ever_62 : decode cX8_ever 62 = .ok (.invokevirtual 196, 3) := by decide +kernel
theorem dX8_ever_65 : decode cX8_ever 65 = .ok (.land, 1) := by decide +kernel
theorem dX8_ever_66 : decode cX8_ever 66 = .ok (.lstore 7, 2) := by decide +kernel
theorem dX8_ever_68 : decode cX8_ever 68 = .ok (.aload_n 0, 1) := by decide +kernel
theorem dX8_ever_69 : decode cX8_ever 69 = .ok (.aload_n 0, 1) := by decide +kernel
theorem dX8_ever_70 : decode cX8_ever 70 = .ok (.getfield 71, 3) := by decide +kernel
theorem dX8_ever_73 : decode cX8_ever 73 = .ok (.aload_n 0, 1) := by decide +kernel
theorem dX8_ever_74 : decode cX8_ever 74 = .ok (.getfield 68, 3) := by decide +kernel
theorem dX8_ever_77 : decode cX8_ever 77 = .ok (.invokevirtual 177, 3) := by decide +kernel
theorem dX8_ever_80 : decode cX8_ever 80 = .ok (.iinc 9 1, 3) := by decide +kernel
theorem dX8_ever_83 : decode cX8_ever 83 = .ok (.goto (-39), 3) := by decide +kernel
theorem dX8_ever_86 : decode cX8_ever 86 = .ok (.iload_n 1, 1) := by decide +kernel
theorem dX8_ever_87 : decode cX8_ever 87 = .ok (.ifCond .ne 14, 3) := by decide +kernel
theorem dX8_ever_90 : decode cX8_ever 90 = .ok (.lload_n 3, 1) := by decide +kernel
theorem dX8_ever_91 : decode cX8_ever 91 = .ok (.lload 5, 2) := by decide +kernel
theorem dX8_ever_93 : decode cX8_ever 93 = .ok (.ldc2_w 194, 3) := by decide +kernel
theorem dX8_ever_96 : decode cX8_ever 96 = .ok (.lxor, 1) := by decide +kernel
theorem dX8_ever_97 : decode cX8_ever 97 = .ok (.land, 1) := by decide +kernel
theorem dX8_ever_98 : decode cX8_ever 98 = .ok (.goto 5, 3) := by decide +kernel
theorem dX8_ever_101 : decode cX8_ever 101 = .ok (.lload 7, 2) := by decide +kernel
theorem dX8_ever_103 : decode cX8_ever 103 = .ok (.lreturn, 1) := by decide +kernel
theorem dX8_lesser_0 : decode cX8_lesser 0 = .ok (.aload_n 0, 1) := by decide +kernel
theorem dX8_lesser_1 : decode cX8_lesser 1 = .ok (.getfield 16, 3) := by decide +kernel
theorem dX8_lesser_4 : decode cX8_lesser 4 = .ok (.iconst 0, 1) := by decide +kernel
theorem dX8_lesser_5 : decode cX8_lesser 5 = .ok (.iaload, 1) := by decide +kernel
theorem dX8_lesser_6 : decode cX8_lesser 6 = .ok (.aload_n 0, 1) := by decide +kernel
theorem dX8_lesser_7 : decode cX8_lesser 7 = .ok (.getfield 31, 3) := by decide +kernel
theorem dX8_lesser_10 : decode cX8_lesser 10 = .ok (.iconst 0, 1) := by decide +kernel
theorem dX8_lesser_11 : decode cX8_lesser 11 = .ok (.iaload, 1) := by decide +kernel
theorem dX8_lesser_12 : decode cX8_lesser 12 = .ok (.if_icmp .ge 12, 3) := by decide +kernel
theorem dX8_lesser_15 : decode cX8_lesser 15 = .ok (.aload_n 0, 1) := by decide +kernel
theorem dX8_lesser_16 : decode cX8_lesser 16 = .ok (.getfield 16, 3) := by decide +kernel
theorem dX8_lesser_19 : decode cX8_lesser 19 = .ok (.iconst 0, 1) := by decide +kernel
theorem dX8_lesser_20 : decode cX8_lesser 20 = .ok (.iaload, 1) := by decide +kernel
theorem dX8_lesser_21 : decode cX8_lesser 21 = .ok (.goto 9, 3) := by decide +kernel
theorem dX8_lesser_24 : decode cX8_lesser 24 = .ok (.aload_n 0, 1) := by decide +kernel
theorem dX8_lesser_25 : decode cX8_lesser 25 = .ok (.getfield 31, 3) := by decide +kernel
theorem dX8_lesser_28 : decode cX8_lesser 28 = .ok (.iconst 0, 1) := by decide +kernel
theorem dX8_lesser_29 : decode cX8_lesser 29 = .ok (.iaload, 1) := by decide +kernel
theorem dX8_lesser_30 : decode cX8_lesser 30 = .ok (.ireturn, 1) := by decide +kernel
theorem dX8_right_0 : decode cX8_right 0 = .ok (.lload_n 1, 1) := by decide +kernel
theorem dX8_right_1 : decode cX8_right 1 = .ok (.invokestatic 183, 3) := by decide +kernel
theorem dX8_right_4 : decode cX8_right 4 = .ok (.ifCond .ne 5, 3) := by decide +kernel
theorem dX8_right_7 : decode cX8_right 7 = .ok (.iconst (-1), 1) := by decide +kernel
theorem dX8_right_8 : decode cX8_right 8 = .ok (.ireturn, 1) := by decide +kernel
theorem dX8_right_9 : decode cX8_right 9 = .ok (.aload_n 0, 1) := by decide +kernel
theorem dX8_right_10 : decode cX8_right 10 = .ok (.lload_n 1, 1) := by decide +kernel
theorem dX8_right_11 : decode cX8_right 11 = .ok (.invokevirtual 187, 3) := by decide +kernel
theorem dX8_right_14 : decode cX8_right 14 = .ok (.iconst 0, 1) := by decide +kernel
theorem dX8_right_15 : decode cX8_right 15 = .ok (.istore_n 3, 1) := by decide +kernel
theorem dX8_right_16 : decode cX8_right 16 = .ok (.iconst 0, 1) := by decide +kernel
theorem dX8_right_17 : decode cX8_right 17 = .ok (.istore 4, 2) := by decide +kernel
theorem dX8_right_19 : decode cX8_right 19 = .ok (.iload 4, 2) := by decide +kernel
theorem dX8_right_21 : decode cX8_right 21 = .ok (.aload_n 0, 1) := by decide +kernel
theorem dX8_right_22 : decode cX8_right 22 = .ok (.invokevirtual 206, 3) := by decide +kernel
theorem dX8_right_25 : decode cX8_right 25 = .ok (.if_icmp .ge 38, 3) := by decide +kernel
theorem dX8_right_28 : decode cX8_right 28 = .ok (.iload_n 3, 1) := by decide +kernel
theorem dX8_right_29 : decode cX8_right 29 = .ok (.aload_n 0, 1) := by decide +kernel
theorem dX8_right_30 : decode cX8_right 30 = .ok (.getfield 37, 3) := by decide +kernel
theorem dX8_right_33 : decode cX8_right 33 = .ok (.aload_n 0, 1) := by decide +kernel
theorem dX8_right_34 : decode cX8_right 34 = .ok (.iload 4, 2) := by decide +kernel
theorem dX8_right_36 : decode cX8_right 36 = .ok (.invokevirtual 191, 3) := by decide +kernel
theorem dX8_right_39 : decode cX8_right 39 = .ok (.iaload, 1) := by decide +kernel
theorem dX8_right_40 : decode cX8_right 40 = .ok (.aload_n 0, 1) := by decide +kernel
theorem dX8_right_41 : decode cX8_right 41 = .ok (.getfield 34, 3) := by decide +kernel
theorem dX8_right_44 : decode cX8_right 44 = .ok (.iload 4, 2) := by decide +kernel
theorem dX8_right_46 : decode cX8_right 46 = .ok (.iaload, 1) := by decide +kernel
theorem dX8_right_47 : decode cX8_right 47 = .ok (.if_icmp .ne 7, 3) := by decide +kernel
theorem dX8_right_50 : decode cX8_right 50 = .ok (.iconst 1, 1) := by decide +kernel
theorem dX8_right_51 : decode cX8_right 51 = .ok (.goto 4, 3) := by decide +kernel
theorem dX8_right_54 : decode cX8_right 54 = .ok (.iconst 0, 1) := by decide +kernel
theorem dX8_right_55 : decode cX8_right 55 = .ok (.iadd, 1) := by decide +kernel
theorem dX8_right_56 : decode cX8_right 56 = .ok (.istore_n 3, 1) := by decide +kernel
theorem dX8_right_57 : decode cX8_right 57 = .ok (.iinc 4 1, 3) := by decide +kernel
theorem dX8_right_60 : decode cX8_right 60 = .ok (.goto (-41), 3) := by decide +kernel
theorem dX8_right_63 : decode cX8_right 63 = .ok (.iload_n 3, 1) := by decide +kernel
theorem dX8_right_64 : decode cX8_right 64 = .ok (.ireturn, 1) := by decide +kernel
theorem dX8_noOrder_0 : decode cX8_noOrder 0 = .ok (.aload_n 0, 1) := by decide +kernel
theorem dX8_noOrder_1 : decode cX8_noOrder 1 = .ok (.iconst 0, 1) := by decide +kernel
theorem dX8_noOrder_2 : decode cX8_noOrder 2 = .ok (.putfield 209, 3) := by decide +kernel
theorem dX8_noOrder_5 : decode cX8_noOrder 5 = .ok (.iconst 0, 1) := by decide +kernel
theorem dX8_noOrder_6 : decode cX8_noOrder 6 = .ok (.istore_n 1, 1) := by decide +kernel
theorem dX8_noOrder_7 : decode cX8_noOrder 7 = .ok (.iload_n 1, 1) := by decide +kernel
theorem dX8_noOrder_8 : decode cX8_noOrder 8 = .ok (.bipush 40, 2) := by decide +kernel
theorem dX8_noOrder_10 : decode cX8_noOrder 10 = .ok (.if_icmp .ge 25, 3) := by decide +kernel
theorem dX8_noOrder_13 : decode cX8_noOrder 13 = .ok (.aload_n 0, 1) := by decide +kernel
theorem dX8_noOrder_14 : decode cX8_noOrder 14 = .ok (.getfield 80, 3) := by decide +kernel
theorem dX8_noOrder_17 : decode cX8_noOrder 17 = .ok (.iload_n 1, 1) := by decide +kernel
theorem dX8_noOrder_18 : decode cX8_noOrder 18 = .ok (.bipush (-4), 2) := by decide +kernel
theorem dX8_noOrder_20 : decode cX8_noOrder 20 = .ok (.iastore, 1) := by decide +kernel
theorem dX8_noOrder_21 : decode cX8_noOrder 21 = .ok (.aload_n 0, 1) := by decide +kernel
theorem dX8_noOrder_22 : decode cX8_noOrder 22 = .ok (.getfield 83, 3) := by decide +kernel
theorem dX8_noOrder_25 : decode cX8_noOrder 25 = .ok (.iload_n 1, 1) := by decide +kernel
theorem dX8_noOrder_26 : decode cX8_noOrder 26 = .ok (.bipush (-4), 2) := by decide +kernel
theorem dX8_noOrder_28 : decode cX8_noOrder 28 = .ok (.iastore, 1) := by decide +kernel
theorem dX8_noOrder_29 : decode cX8_noOrder 29 = .ok (.iinc 1 1, 3) := by decide +kernel
theorem dX8_noOrder_32 : decode cX8_noOrder 32 = .ok (.goto (-25), 3) := by decide +kernel
theorem dX8_noOrder_35 : decode cX8_noOrder 35 = .ok (.return_, 1) := by decide +kernel
theorem dX8_know_0 : decode cX8_know 0 = .ok (.aload_n 0, 1) := by decide +kernel
theorem dX8_know_1 : decode cX8_know 1 = .ok (.getfield 80, 3) := by decide +kernel
theorem dX8_know_4 : decode cX8_know 4 = .ok (.iload_n 1, 1) := by decide +kernel
theorem dX8_know_5 : decode cX8_know 5 = .ok (.iaload, 1) := by decide +kernel
theorem dX8_know_6 : decode cX8_know 6 = .ok (.iload_n 2, 1) := by decide +kernel
theorem dX8_know_7 : decode cX8_know 7 = .ok (.if_icmp .ne 5, 3) := by decide +kernel
theorem dX8_know_10 : decode cX8_know 10 = .ok (.iconst 1, 1) := by decide +kernel
theorem dX8_know_11 : decode cX8_know 11 = .ok (.ireturn, 1) := by decide +kernel
theorem dX8_know_12 : decode cX8_know 12 = .ok (.aload_n 0, 1) := by decide +kernel
theorem dX8_know_13 : decode cX8_know 13 = .ok (.getfield 80, 3) := by decide +kernel
theorem dX8_know_16 : decode cX8_know 16 = .ok (.iload_n 1, 1) := by decide +kernel
theorem dX8_know_17 : decode cX8_know 17 = .ok (.iaload, 1) := by decide +kernel
theorem dX8_know_18 : decode cX8_know 18 = .ok (.ifCond .ge 12, 3) := by decide +kernel
theorem dX8_know_21 : decode cX8_know 21 = .ok (.aload_n 0, 1) := by decide +kernel
theorem dX8_know_22 : decode cX8_know 22 = .ok (.getfield 83, 3) := by decide +kernel
theorem dX8_know_25 : decode cX8_know 25 = .ok (.iload_n 2, 1) := by decide +kernel
theorem dX8_know_26 : decode cX8_know 26 = .ok (.iaload, 1) := by decide +kernel
theorem dX8_know_27 : decode cX8_know 27 = .ok (.ifCond .lt 5, 3) := by decide +kernel
theorem dX8_know_30 : decode cX8_know 30 = .ok (.iconst 0, 1) := by decide +kernel
theorem dX8_know_31 : decode cX8_know 31 = .ok (.ireturn, 1) := by decide +kernel
theorem dX8_know_32 : decode cX8_know 32 = .ok (.aload_n 0, 1) := by decide +kernel
theorem dX8_know_33 : decode cX8_know 33 = .ok (.getfield 80, 3) := by decide +kernel
theorem dX8_know_36 : decode cX8_know 36 = .ok (.iload_n 1, 1) := by decide +kernel
theorem dX8_know_37 : decode cX8_know 37 = .ok (.iload_n 2, 1) := by decide +kernel
theorem dX8_know_38 : decode cX8_know 38 = .ok (.iastore, 1) := by decide +kernel
theorem dX8_know_39 : decode cX8_know 39 = .ok (.aload_n 0, 1) := by decide +kernel
theorem dX8_know_40 : decode cX8_know 40 = .ok (.getfield 83, 3) := by decide +kernel
theorem dX8_know_43 : decode cX8_know 43 = .ok (.iload_n 2, 1) := by decide +kernel
theorem dX8_know_44 : decode cX8_know 44 = .ok (.iload_n 1, 1) := by decide +kernel
theorem dX8_know_45 : decode cX8_know 45 = .ok (.iastore, 1) := by decide +kernel
theorem dX8_know_46 : decode cX8_know 46 = .ok (.aload_n 0, 1) := by decide +kernel
theorem dX8_know_47 : decode cX8_know 47 = .ok (.dup, 1) := by decide +kernel
theorem dX8_know_48 : decode cX8_know 48 = .ok (.getfield 209, 3) := by decide +kernel
theorem dX8_know_51 : decode cX8_know 51 = .ok (.iconst 1, 1) := by decide +kernel
theorem dX8_know_52 : decode cX8_know 52 = .ok (.iadd, 1) := by decide +kernel
theorem dX8_know_53 : decode cX8_know 53 = .ok (.putfield 209, 3) := by decide +kernel
theorem dX8_know_56 : decode cX8_know 56 = .ok (.iconst 1, 1) := by decide +kernel
theorem dX8_know_57 : decode cX8_know 57 = .ok (.ireturn, 1) := by decide +kernel
theorem dX8_order_0 : decode cX8_order 0 = .ok (.lload_n 1, 1) := by decide +kernel
theorem dX8_order_1 : decode cX8_order 1 = .ok (.invokestatic 183, 3) := by decide +kernel
theorem dX8_order_4 : decode cX8_order 4 = .ok (.ifCond .eq 11, 3) := by decide +kernel
theorem dX8_order_7 : decode cX8_order 7 = .ok (.aload_n 0, 1) := by decide +kernel
theorem dX8_order_8 : decode cX8_order 8 = .ok (.iload_n 3, 1) := by decide +kernel
theorem dX8_order_9 : decode cX8_order 9 = .ok (.invokevirtual 155, 3) := by decide +kernel
theorem dX8_order_12 : decode cX8_order 12 = .ok (.ifCond .ne 5, 3) := by decide +kernel
theorem dX8_order_15 : decode cX8_order 15 = .ok (.iconst (-1), 1) := by decide +kernel
theorem dX8_order_16 : decode cX8_order 16 = .ok (.ireturn, 1) := by decide +kernel
theorem dX8_order_17 : decode cX8_order 17 = .ok (.aload_n 0, 1) := by decide +kernel
theorem dX8_order_18 : decode cX8_order 18 = .ok (.invokevirtual 212, 3) := by decide +kernel
theorem dX8_order_21 : decode cX8_order 21 = .ok (.aload_n 0, 1) := by decide +kernel
theorem dX8_order_22 : decode cX8_order 22 = .ok (.lload_n 1, 1) := by decide +kernel
theorem dX8_order_23 : decode cX8_order 23 = .ok (.invokevirtual 187, 3) := by decide +kernel
theorem dX8_order_26 : decode cX8_order 26 = .ok (.iconst 1, 1) := by decide +kernel
theorem dX8_order_27 : decode cX8_order 27 = .ok (.istore 4, 2) := by decide +kernel
theorem dX8_order_29 : decode cX8_order 29 = .ok (.iconst 0, 1) := by decide +kernel
theorem dX8_order_30 : decode cX8_order 30 = .ok (.istore 5, 2) := by decide +kernel
theorem dX8_order_32 : decode cX8_order 32 = .ok (.iload 5, 2) := by decide +kernel
theorem dX8_order_34 : decode cX8_order 34 = .ok (.aload_n 0, 1) := by decide +kernel
theorem dX8_order_35 : decode cX8_order 35 = .ok (.invokevirtual 206, 3) := by decide +kernel
theorem dX8_order_38 : decode cX8_order 38 = .ok (.if_icmp .ge 41, 3) := by decide +kernel
theorem dX8_order_41 : decode cX8_order 41 = .ok (.aload_n 0, 1) := by decide +kernel
theorem dX8_order_42 : decode cX8_order 42 = .ok (.aload_n 0, 1) := by decide +kernel
theorem dX8_order_43 : decode cX8_order 43 = .ok (.iload 5, 2) := by decide +kernel
theorem dX8_order_45 : decode cX8_order 45 = .ok (.invokevirtual 191, 3) := by decide +kernel
theorem dX8_order_48 : decode cX8_order 48 = .ok (.aload_n 0, 1) := by decide +kernel
theorem dX8_order_49 : decode cX8_order 49 = .ok (.getfield 34, 3) := by decide +kernel
theorem dX8_order_52 : decode cX8_order 52 = .ok (.iload 5, 2) := by decide +kernel
theorem dX8_order_54 : decode cX8_order 54 = .ok (.iaload, 1) := by decide +kernel
theorem dX8_order_55 : decode cX8_order 55 = .ok (.invokevirtual 215, 3) := by decide +kernel
theorem dX8_order_58 : decode cX8_order 58 = .ok (.ifCond .eq 12, 3) := by decide +kernel
theorem dX8_order_61 : decode cX8_order 61 = .ok (.iload 4, 2) := by decide +kernel
theorem dX8_order_63 : decode cX8_order 63 = .ok (.ifCond .eq 7, 3) := by decide +kernel
theorem dX8_order_66 : decode cX8_order 66 = .ok (.iconst 1, 1) := by decide +kernel
theorem dX8_order_67 : decode cX8_order 67 = .ok (.goto 4, 3) := by decide +kernel
theorem dX8_order_70 : decode cX8_order 70 = .ok (.iconst 0, 1) := by decide +kernel
theorem dX8_order_71 : decode cX8_order 71 = .ok (.istore 4, 2) := by decide +kernel
theorem dX8_order_73 : decode cX8_order 73 = .ok (.iinc 5 1, 3) := by decide +kernel
theorem dX8_order_76 : decode cX8_order 76 = .ok (.goto (-44), 3) := by decide +kernel
theorem dX8_order_79 : decode cX8_order 79 = .ok (.iload 4, 2) := by decide +kernel
theorem dX8_order_81 : decode cX8_order 81 = .ok (.ifCond .ne 6, 3) := by decide +kernel
theorem dX8_order_84 : decode cX8_order 84 = .ok (.bipush (-4), 2) := by decide +kernel
theorem dX8_order_86 : decode cX8_order 86 = .ok (.ireturn, 1) := by decide +kernel
theorem dX8_order_87 : decode cX8_order 87 = .ok (.iconst 0, 1) := by decide +kernel
theorem dX8_order_88 : decode cX8_order 88 = .ok (.istore 5, 2) := by decide +kernel
theorem dX8_order_90 : decode cX8_order 90 = .ok (.iconst 0, 1) := by decide +kernel
theorem dX8_order_91 : decode cX8_order 91 = .ok (.istore 6, 2) := by decide +kernel
theorem dX8_order_93 : decode cX8_order 93 = .ok (.iload 6, 2) := by decide +kernel
theorem dX8_order_95 : decode cX8_order 95 = .ok (.aload_n 0, 1) := by decide +kernel
theorem dX8_order_96 : decode cX8_order 96 = .ok (.getfield 13, 3) := by decide +kernel
theorem dX8_order_99 : decode cX8_order 99 = .ok (.iconst 0, 1) := by decide +kernel
theorem dX8_order_100 : decode cX8_order 100 = .ok (.iaload, 1) := by decide +kernel
theorem dX8_order_101 : decode cX8_order 101 = .ok (.if_icmp .ge 44, 3) := by decide +kernel
theorem dX8_order_104 : decode cX8_order 104 = .ok (.aload_n 0, 1) := by decide +kernel
theorem dX8_order_105 : decode cX8_order 105 = .ok (.getfield 80, 3) := by decide +kernel
theorem dX8_order_108 : decode cX8_order 108 = .ok (.iload 6, 2) := by decide +kernel
theorem dX8_order_110 : decode cX8_order 110 = .ok (.iaload, 1) := by decide +kernel
theorem dX8_order_111 : decode cX8_order 111 = .ok (.ifCond .ge 28, 3) := by decide +kernel
theorem dX8_order_114 : decode cX8_order 114 = .ok (.aload_n 0, 1) := by decide +kernel
theorem dX8_order_115 : decode cX8_order 115 = .ok (.getfield 83, 3) := by decide +kernel
theorem dX8_order_118 : decode cX8_order 118 = .ok (.iload 5, 2) := by decide +kernel
theorem dX8_order_120 : decode cX8_order 120 = .ok (.iaload, 1) := by decide +kernel
theorem dX8_order_121 : decode cX8_order 121 = .ok (.ifCond .lt 9, 3) := by decide +kernel
theorem dX8_order_124 : decode cX8_order 124 = .ok (.iinc 5 1, 3) := by decide +kernel
theorem dX8_order_127 : decode cX8_order 127 = .ok (.goto (-13), 3) := by decide +kernel
theorem dX8_order_130 : decode cX8_order 130 = .ok (.aload_n 0, 1) := by decide +kernel
theorem dX8_order_131 : decode cX8_order 131 = .ok (.iload 6, 2) := by decide +kernel
theorem dX8_order_133 : decode cX8_order 133 = .ok (.iload 5, 2) := by decide +kernel
theorem dX8_order_135 : decode cX8_order 135 = .ok (.invokevirtual 215, 3) := by decide +kernel
theorem dX8_order_138 : decode cX8_order 138 = .ok (.pop, 1) := by decide +kernel
theorem dX8_order_139 : decode cX8_order 139 = .ok (.iinc 6 1, 3) := by decide +kernel
theorem dX8_order_142 : decode cX8_order 142 = .ok (.goto (-49), 3) := by decide +kernel
theorem dX8_order_145 : decode cX8_order 145 = .ok (.aload_n 0, 1) := by decide +kernel
theorem dX8_order_146 : decode cX8_order 146 = .ok (.getfield 80, 3) := by decide +kernel
theorem dX8_order_149 : decode cX8_order 149 = .ok (.iload_n 3, 1) := by decide +kernel
theorem dX8_order_150 : decode cX8_order 150 = .ok (.iaload, 1) := by decide +kernel
theorem dX8_order_151 : decode cX8_order 151 = .ok (.ireturn, 1) := by decide +kernel
theorem dX8_showsBy_0 : decode cX8_showsBy 0 = .ok (.iconst 0, 1) := by decide +kernel
theorem dX8_showsBy_1 : decode cX8_showsBy 1 = .ok (.istore_n 3, 1) := by decide +kernel
theorem dX8_showsBy_2 : decode cX8_showsBy 2 = .ok (.iload_n 3, 1) := by decide +kernel
theorem dX8_showsBy_3 : decode cX8_showsBy 3 = .ok (.bipush 40, 2) := by decide +kernel
theorem dX8_showsBy_5 : decode cX8_showsBy 5 = .ok (.if_icmp .ge 16, 3) := by decide +kernel
theorem dX8_showsBy_8 : decode cX8_showsBy 8 = .ok (.aload_n 0, 1) := by decide +kernel
theorem dX8_showsBy_9 : decode cX8_showsBy 9 = .ok (.getfield 86, 3) := by decide +kernel
theorem dX8_showsBy_12 : decode cX8_showsBy 12 = .ok (.iload_n 3, 1) := by decide +kernel
theorem dX8_showsBy_13 : decode cX8_showsBy 13 = .ok (.iload_n 3, 1) := by decide +kernel
theorem dX8_showsBy_14 : decode cX8_showsBy 14 = .ok (.iastore, 1) := by decide +kernel
theorem dX8_showsBy_15 : decode cX8_showsBy 15 = .ok (.iinc 3 1, 3) := by decide +kernel
theorem dX8_showsBy_18 : decode cX8_showsBy 18 = .ok (.goto (-16), 3) := by decide +kernel
theorem dX8_showsBy_21 : decode cX8_showsBy 21 = .ok (.lconst 1, 1) := by decide +kernel
theorem dX8_showsBy_22 : decode cX8_showsBy 22 = .ok (.aload_n 0, 1) := by decide +kernel
theorem dX8_showsBy_23 : decode cX8_showsBy 23 = .ok (.getfield 13, 3) := by decide +kernel
theorem dX8_showsBy_26 : decode cX8_showsBy 26 = .ok (.iconst 0, 1) := by decide +kernel
theorem dX8_showsBy_27 : decode cX8_showsBy 27 = .ok (.iaload, 1) := by decide +kernel
theorem dX8_showsBy_28 : decode cX8_showsBy 28 = .ok (.lshl, 1) := by decide +kernel
theorem dX8_showsBy_29 : decode cX8_showsBy 29 = .ok (.lconst 1, 1) := by decide +kernel
theorem dX8_showsBy_30 : decode cX8_showsBy 30 = .ok (.lsub, 1) := by decide +kernel
theorem dX8_showsBy_31 : decode cX8_showsBy 31 = .ok (.lstore_n 3, 1) := by decide +kernel
theorem dX8_showsBy_32 : decode cX8_showsBy 32 = .ok (.lconst 0, 1) := by decide +kernel
theorem dX8_showsBy_33 : decode cX8_showsBy 33 = .ok (.lstore 5, 2) := by decide +kernel
theorem dX8_showsBy_35 : decode cX8_showsBy 35 = .ok (.iconst 0, 1) := by decide +kernel
theorem dX8_showsBy_36 : decode cX8_showsBy 36 = .ok (.istore 7, 2) := by decide +kernel
theorem dX8_showsBy_38 : decode cX8_showsBy 38 = .ok (.iload 7, 2) := by decide +kernel
theorem dX8_showsBy_40 : decode cX8_showsBy 40 = .ok (.sipush 2000, 3) := by decide +kernel
theorem dX8_showsBy_43 : decode cX8_showsBy 43 = .ok (.if_icmp .ge 47, 3) := by decide +kernel
theorem dX8_showsBy_46 : decode cX8_showsBy 46 = .ok (.lload 5, 2) := by decide +kernel
theorem dX8_showsBy_48 : decode cX8_showsBy 48 = .ok (.lconst 1, 1) := by decide +kernel
theorem dX8_showsBy_49 : decode cX8_showsBy 49 = .ok (.aload_n 0, 1) := by decide +kernel
theorem dX8_showsBy_50 : decode cX8_showsBy 50 = .ok (.getfield 86, 3) := by decide +kernel
theorem dX8_showsBy_53 : decode cX8_showsBy 53 = .ok (.iconst 0, 1) := by decide +kernel
theorem dX8_showsBy_54 : decode cX8_showsBy 54 = .ok (.iaload, 1) := by decide +kernel
theorem dX8_showsBy_55 : decode cX8_showsBy 55 = .ok (.lshl, 1) := by decide +kernel
theorem dX8_showsBy_56 : decode cX8_showsBy 56 = .ok (.lor, 1) := by decide +kernel
theorem dX8_showsBy_57 : decode cX8_showsBy 57 = .ok (.lstore 5, 2) := by decide +kernel
theorem dX8_showsBy_59 : decode cX8_showsBy 59 = .ok (.lload 5, 2) := by decide +kernel
theorem dX8_showsBy_61 : decode cX8_showsBy 61 = .ok (.lload_n 3, 1) := by decide +kernel
theorem dX8_showsBy_62 : decode cX8_showsBy 62 = .ok (.lcmp, 1) := by decide +kernel
theorem dX8_showsBy_63 : decode cX8_showsBy 63 = .ok (.ifCond .ne 8, 3) := by decide +kernel
theorem dX8_showsBy_66 : decode cX8_showsBy 66 = .ok (.iload 7, 2) := by decide +kernel
theorem dX8_showsBy_68 : decode cX8_showsBy 68 = .ok (.iconst 1, 1) := by decide +kernel
theorem dX8_showsBy_69 : decode cX8_showsBy 69 = .ok (.iadd, 1) := by decide +kernel
theorem dX8_showsBy_70 : decode cX8_showsBy 70 = .ok (.ireturn, 1) := by decide +kernel
theorem dX8_showsBy_71 : decode cX8_showsBy 71 = .ok (.aload_n 0, 1) := by decide +kernel
theorem dX8_showsBy_72 : decode cX8_showsBy 72 = .ok (.aload_n 0, 1) := by decide +kernel
theorem dX8_showsBy_73 : decode cX8_showsBy 73 = .ok (.getfield 86, 3) := by decide +kernel
theorem dX8_showsBy_76 : decode cX8_showsBy 76 = .ok (.iconst 0, 1) := by decide +kernel
theorem dX8_showsBy_77 : decode cX8_showsBy 77 = .ok (.iload_n 1, 1) := by decide +kernel
theorem dX8_showsBy_78 : decode cX8_showsBy 78 = .ok (.iload_n 2, 1) := by decide +kernel
theorem dX8_showsBy_79 : decode cX8_showsBy 79 = .ok (.iload 7, 2) := by decide +kernel
theorem dX8_showsBy_81 : decode cX8_showsBy 81 = .ok (.invokevirtual 158, 3) := by decide +kernel
theorem dX8_showsBy_84 : decode cX8_showsBy 84 = .ok (.iinc 7 1, 3) := by decide +kernel
theorem dX8_showsBy_87 : decode cX8_showsBy 87 = .ok (.goto (-49), 3) := by decide +kernel
theorem dX8_showsBy_90 : decode cX8_showsBy 90 = .ok (.bipush (-4), 2) := by decide +kernel
theorem dX8_showsBy_92 : decode cX8_showsBy 92 = .ok (.ireturn, 1) := by decide +kernel
theorem dX8_shows_0 : decode cX8_shows 0 = .ok (.iload_n 1, 1) := by decide +kernel
theorem dX8_shows_1 : decode cX8_shows 1 = .ok (.i2l, 1) := by decide +kernel
theorem dX8_shows_2 : decode cX8_shows 2 = .ok (.lconst 0, 1) := by decide +kernel
theorem dX8_shows_3 : decode cX8_shows 3 = .ok (.ldc2_w 219, 3) := by decide +kernel
theorem dX8_shows_6 : decode cX8_shows 6 = .ok (.invokestatic 98, 3) := by decide +kernel
theorem dX8_shows_9 : decode cX8_shows 9 = .ok (.ifCond .eq 20, 3) := by decide +kernel
theorem dX8_shows_12 : decode cX8_shows 12 = .ok (.aload_n 0, 1) := by decide +kernel
theorem dX8_shows_13 : decode cX8_shows 13 = .ok (.iload_n 2, 1) := by decide +kernel
theorem dX8_shows_14 : decode cX8_shows 14 = .ok (.invokevirtual 155, 3) := by decide +kernel
theorem dX8_shows_17 : decode cX8_shows 17 = .ok (.ifCond .eq 12, 3) := by decide +kernel
theorem dX8_shows_20 : decode cX8_shows 20 = .ok (.aload_n 0, 1) := by decide +kernel
theorem dX8_shows_21 : decode cX8_shows 21 = .ok (.iload_n 1, 1) := by decide +kernel
theorem dX8_shows_22 : decode cX8_shows 22 = .ok (.iload_n 2, 1) := by decide +kernel
theorem dX8_shows_23 : decode cX8_shows 23 = .ok (.invokevirtual 221, 3) := by decide +kernel
theorem dX8_shows_26 : decode cX8_shows 26 = .ok (.goto 4, 3) := by decide +kernel
theorem dX8_shows_29 : decode cX8_shows 29 = .ok (.iconst (-1), 1) := by decide +kernel
theorem dX8_shows_30 : decode cX8_shows 30 = .ok (.ireturn, 1) := by decide +kernel
theorem dX8_quickest_0 : decode cX8_quickest 0 = .ok (.iload_n 1, 1) := by decide +kernel
theorem dX8_quickest_1 : decode cX8_quickest 1 = .ok (.i2l, 1) := by decide +kernel
theorem dX8_quickest_2 : decode cX8_quickest 2 = .ok (.lconst 0, 1) := by decide +kernel
theorem dX8_quickest_3 : decode cX8_quickest 3 = .ok (.ldc2_w 119, 3) := by decide +kernel
theorem dX8_quickest_6 : decode cX8_quickest 6 = .ok (.invokestatic 98, 3) := by decide +kernel
theorem dX8_quickest_9 : decode cX8_quickest 9 = .ok (.ifCond .ne 5, 3) := by decide +kernel
theorem dX8_quickest_12 : decode cX8_quickest 12 = .ok (.iconst (-1), 1) := by decide +kernel
theorem dX8_quickest_13 : decode cX8_quickest 13 = .ok (.ireturn, 1) := by decide +kernel
theorem dX8_quickest_14 : decode cX8_quickest 14 = .ok (.bipush (-4), 2) := by decide +kernel
theorem dX8_quickest_16 : decode cX8_quickest 16 = .ok (.istore_n 2, 1) := by decide +kernel
theorem dX8_quickest_17 : decode cX8_quickest 17 = .ok (.bipush (-4), 2) := by decide +kernel
theorem dX8_quickest_19 : decode cX8_quickest 19 = .ok (.istore_n 3, 1) := by decide +kernel
theorem dX8_quickest_20 : decode cX8_quickest 20 = .ok (.bipush (-4), 2) := by decide +kernel
theorem dX8_quickest_22 : decode cX8_quickest 22 = .ok (.istore 4, 2) := by decide +kernel
theorem dX8_quickest_24 : decode cX8_quickest 24 = .ok (.iconst 0, 1) := by decide +kernel
theorem dX8_quickest_25 : decode cX8_quickest 25 = .ok (.istore 5, 2) := by decide +kernel
theorem dX8_quickest_27 : decode cX8_quickest 27 = .ok (.iload 5, 2) := by decide +kernel
theorem dX8_quickest_29 : decode cX8_quickest 29 = .ok (.iconst 4, 1) := by decide +kernel
theorem dX8_quickest_30 : decode cX8_quickest 30 = .ok (.if_icmp .ge 66, 3) := by decide +kernel
theorem dX8_quickest_33 : decode cX8_quickest 33 = .ok (.iconst 0, 1) := by decide +kernel
theorem dX8_quickest_34 : decode cX8_quickest 34 = .ok (.istore 6, 2) := by decide +kernel
theorem dX8_quickest_36 : decode cX8_quickest 36 = .ok (.iload 6, 2) := by decide +kernel
theorem dX8_quickest_38 : decode cX8_quickest 38 = .ok (.aload_n 0, 1) := by decide +kernel
theorem dX8_quickest_39 : decode cX8_quickest 39 = .ok (.getfield 13, 3) := by decide +kernel
theorem dX8_quickest_42 : decode cX8_quickest 42 = .ok (.iconst 0, 1) := by decide +kernel
theorem dX8_quickest_43 : decode cX8_quickest 43 = .ok (.iaload, 1) := by decide +kernel
theorem dX8_quickest_44 : decode cX8_quickest 44 = .ok (.if_icmp .ge 46, 3) := by decide +kernel
theorem dX8_quickest_47 : decode cX8_quickest 47 = .ok (.aload_n 0, 1) := by decide +kernel
theorem dX8_quickest_48 : decode cX8_quickest 48 = .ok (.iload 5, 2) := by decide +kernel
theorem dX8_quickest_50 : decode cX8_quickest 50 = .ok (.iload 6, 2) := by decide +kernel
theorem dX8_quickest_52 : decode cX8_quickest 52 = .ok (.invokevirtual 221, 3) := by decide +kernel
theorem dX8_quickest_55 : decode cX8_quickest 55 = .ok (.istore 7, 2) := by decide +kernel
theorem dX8_quickest_57 : decode cX8_quickest 57 = .ok (.iload 7, 2) := by decide +kernel
theorem dX8_quickest_59 : decode cX8_quickest 59 = .ok (.ifCond .le 25, 3) := by decide +kernel
theorem dX8_quickest_62 : decode cX8_quickest 62 = .ok (.iload 4, 2) := by decide +kernel
theorem dX8_quickest_64 : decode cX8_quickest 64 = .ok (.ifCond .lt 10, 3) := by decide +kernel
theorem dX8_quickest_67 : decode cX8_quickest 67 = .ok (.iload 7, 2) := by decide +kernel
theorem dX8_quickest_69 : decode cX8_quickest 69 = .ok (.iload 4, 2) := by decide +kernel
theorem dX8_quickest_71 : decode cX8_quickest 71 = .ok (.if_icmp .ge 13, 3) := by decide +kernel
theorem dX8_quickest_74 : decode cX8_quickest 74 = .ok (.iload 5, 2) := by decide +kernel
theorem dX8_quickest_76 : decode cX8_quickest 76 = .ok (.istore_n 2, 1) := by decide +kernel
theorem dX8_quickest_77 : decode cX8_quickest 77 = .ok (.iload 6, 2) := by decide +kernel
theorem dX8_quickest_79 : decode cX8_quickest 79 = .ok (.istore_n 3, 1) := by decide +kernel
theorem dX8_quickest_80 : decode cX8_quickest 80 = .ok (.iload 7, 2) := by decide +kernel
theorem dX8_quickest_82 : decode cX8_quickest 82 = .ok (.istore 4, 2) := by decide +kernel
theorem dX8_quickest_84 : decode cX8_quickest 84 = .ok (.iinc 6 1, 3) := by decide +kernel
theorem dX8_quickest_87 : decode cX8_quickest 87 = .ok (.goto (-51), 3) := by decide +kernel
theorem dX8_quickest_90 : decode cX8_quickest 90 = .ok (.iinc 5 1, 3) := by decide +kernel
theorem dX8_quickest_93 : decode cX8_quickest 93 = .ok (.goto (-66), 3) := by decide +kernel
theorem dX8_quickest_96 : decode cX8_quickest 96 = .ok (.iload_n 1, 1) := by decide +kernel
theorem dX8_quickest_97 : decode cX8_quickest 97 = .ok (.ifCond .ne 7, 3) := by decide +kernel
theorem dX8_quickest_100 : decode cX8_quickest 100 = .ok (.iload_n 2, 1) := by decide +kernel
theorem dX8_quickest_101 : decode cX8_quickest 101 = .ok (.goto 14, 3) := by decide +kernel
theorem dX8_quickest_104 : decode cX8_quickest 104 = .ok (.iload_n 1, 1) := by decide +kernel
theorem dX8_quickest_105 : decode cX8_quickest 105 = .ok (.iconst 1, 1) := by decide +kernel
theorem dX8_quickest_106 : decode cX8_quickest 106 = .ok (.if_icmp .ne 7, 3) := by decide +kernel
theorem dX8_quickest_109 : decode cX8_quickest 109 = .ok (.iload_n 3, 1) := by decide +kernel
theorem dX8_quickest_110 : decode cX8_quickest 110 = .ok (.goto 5, 3) := by decide +kernel
theorem dX8_quickest_113 : decode cX8_quickest 113 = .ok (.iload 4, 2) := by decide +kernel
theorem dX8_quickest_115 : decode cX8_quickest 115 = .ok (.ireturn, 1) := by decide +kernel
theorem dX8_seen_0 : decode cX8_seen 0 = .ok (.lload_n 1, 1) := by decide +kernel
theorem dX8_seen_1 : decode cX8_seen 1 = .ok (.invokestatic 183, 3) := by decide +kernel
theorem dX8_seen_4 : decode cX8_seen 4 = .ok (.ifCond .eq 30, 3) := by decide +kernel
theorem dX8_seen_7 : decode cX8_seen 7 = .ok (.iload_n 3, 1) := by decide +kernel
theorem dX8_seen_8 : decode cX8_seen 8 = .ok (.i2l, 1) := by decide +kernel
theorem dX8_seen_9 : decode cX8_seen 9 = .ok (.lconst 0, 1) := by decide +kernel
theorem dX8_seen_10 : decode cX8_seen 10 = .ok (.aload_n 0, 1) := by decide +kernel
theorem dX8_seen_11 : decode cX8_seen 11 = .ok (.getfield 16, 3) := by decide +kernel
theorem dX8_seen_14 : decode cX8_seen 14 = .ok (.iconst 0, 1) := by decide +kernel
theorem dX8_seen_15 : decode cX8_seen 15 = .ok (.iaload, 1) := by decide +kernel
theorem dX8_seen_16 : decode cX8_seen 16 = .ok (.iconst 1, 1) := by decide +kernel
theorem dX8_seen_17 : decode cX8_seen 17 = .ok (.isub, 1) := by decide +kernel
theorem dX8_seen_18 : decode cX8_seen 18 = .ok (.i2l, 1) := by decide +kernel
theorem dX8_seen_19 : decode cX8_seen 19 = .ok (.invokestatic 98, 3) := by decide +kernel
theorem dX8_seen_22 : decode cX8_seen 22 = .ok (.ifCond .eq 12, 3) := by decide +kernel
theorem dX8_seen_25 : decode cX8_seen 25 = .ok (.aload_n 0, 1) := by decide +kernel
theorem dX8_seen_26 : decode cX8_seen 26 = .ok (.iload 4, 2) := by decide +kernel
theorem dX8_seen_28 : decode cX8_seen 28 = .ok (.invokevirtual 155, 3) := by decide +kernel
theorem dX8_seen_31 : decode cX8_seen 31 = .ok (.ifCond .ne 5, 3) := by decide +kernel
theorem dX8_seen_34 : decode cX8_seen 34 = .ok (.iconst (-1), 1) := by decide +kernel
theorem dX8_seen_35 : decode cX8_seen 35 = .ok (.ireturn, 1) := by decide +kernel
theorem dX8_seen_36 : decode cX8_seen 36 = .ok (.aload_n 0, 1) := by decide +kernel
theorem dX8_seen_37 : decode cX8_seen 37 = .ok (.getfield 138, 3) := by decide +kernel
theorem dX8_seen_40 : decode cX8_seen 40 = .ok (.bipush 12, 2) := by decide +kernel
theorem dX8_seen_42 : decode cX8_seen 42 = .ok (.if_icmp .ne 6, 3) := by decide +kernel
theorem dX8_seen_45 : decode cX8_seen 45 = .ok (.bipush (-3), 2) := by decide +kernel
theorem dX8_seen_47 : decode cX8_seen 47 = .ok (.ireturn, 1) := by decide +kernel
theorem dX8_seen_48 : decode cX8_seen 48 = .ok (.aload_n 0, 1) := by decide +kernel
theorem dX8_seen_49 : decode cX8_seen 49 = .ok (.getfield 49, 3) := by decide +kernel
theorem dX8_seen_52 : decode cX8_seen 52 = .ok (.aload_n 0, 1) := by decide +kernel
theorem dX8_seen_53 : decode cX8_seen 53 = .ok (.getfield 138, 3) := by decide +kernel
theorem dX8_seen_56 : decode cX8_seen 56 = .ok (.lload_n 1, 1) := by decide +kernel
theorem dX8_seen_57 : decode cX8_seen 57 = .ok (.lastore, 1) := by decide +kernel
theorem dX8_seen_58 : decode cX8_seen 58 = .ok (.aload_n 0, 1) := by decide +kernel
theorem dX8_seen_59 : decode cX8_seen 59 = .ok (.getfield 53, 3) := by decide +kernel
theorem dX8_seen_62 : decode cX8_seen 62 = .ok (.aload_n 0, 1) := by decide +kernel
theorem dX8_seen_63 : decode cX8_seen 63 = .ok (.getfield 138, 3) := by decide +kernel
theorem dX8_seen_66 : decode cX8_seen 66 = .ok (.iload_n 3, 1) := by decide +kernel
theorem dX8_seen_67 : decode cX8_seen 67 = .ok (.iastore, 1) := by decide +kernel
theorem dX8_seen_68 : decode cX8_seen 68 = .ok (.aload_n 0, 1) := by decide +kernel
theorem dX8_seen_69 : decode cX8_seen 69 = .ok (.getfield 56, 3) := by decide +kernel
theorem dX8_seen_72 : decode cX8_seen 72 = .ok (.aload_n 0, 1) := by decide +kernel
theorem dX8_seen_73 : decode cX8_seen 73 = .ok (.getfield 138, 3) := by decide +kernel
theorem dX8_seen_76 : decode cX8_seen 76 = .ok (.iload 4, 2) := by decide +kernel
theorem dX8_seen_78 : decode cX8_seen 78 = .ok (.iastore, 1) := by decide +kernel
theorem dX8_seen_79 : decode cX8_seen 79 = .ok (.aload_n 0, 1) := by decide +kernel
theorem dX8_seen_80 : decode cX8_seen 80 = .ok (.dup, 1) := by decide +kernel
theorem dX8_seen_81 : decode cX8_seen 81 = .ok (.getfield 138, 3) := by decide +kernel
theorem dX8_seen_84 : decode cX8_seen 84 = .ok (.iconst 1, 1) := by decide +kernel
theorem dX8_seen_85 : decode cX8_seen 85 = .ok (.iadd, 1) := by decide +kernel
theorem dX8_seen_86 : decode cX8_seen 86 = .ok (.putfield 138, 3) := by decide +kernel
theorem dX8_seen_89 : decode cX8_seen 89 = .ok (.aload_n 0, 1) := by decide +kernel
theorem dX8_seen_90 : decode cX8_seen 90 = .ok (.getfield 138, 3) := by decide +kernel
theorem dX8_seen_93 : decode cX8_seen 93 = .ok (.ireturn, 1) := by decide +kernel
theorem dX8_forget_0 : decode cX8_forget 0 = .ok (.aload_n 0, 1) := by decide +kernel
theorem dX8_forget_1 : decode cX8_forget 1 = .ok (.getfield 138, 3) := by decide +kernel
theorem dX8_forget_4 : decode cX8_forget 4 = .ok (.istore_n 1, 1) := by decide +kernel
theorem dX8_forget_5 : decode cX8_forget 5 = .ok (.aload_n 0, 1) := by decide +kernel
theorem dX8_forget_6 : decode cX8_forget 6 = .ok (.iconst 0, 1) := by decide +kernel
theorem dX8_forget_7 : decode cX8_forget 7 = .ok (.putfield 138, 3) := by decide +kernel
theorem dX8_forget_10 : decode cX8_forget 10 = .ok (.iload_n 1, 1) := by decide +kernel
theorem dX8_forget_11 : decode cX8_forget 11 = .ok (.ireturn, 1) := by decide +kernel
theorem dX8_isSo_0 : decode cX8_isSo 0 = .ok (.aload_n 0, 1) := by decide +kernel
theorem dX8_isSo_1 : decode cX8_isSo 1 = .ok (.invokevirtual 212, 3) := by decide +kernel
theorem dX8_isSo_4 : decode cX8_isSo 4 = .ok (.iconst 1, 1) := by decide +kernel
theorem dX8_isSo_5 : decode cX8_isSo 5 = .ok (.istore_n 1, 1) := by decide +kernel
theorem dX8_isSo_6 : decode cX8_isSo 6 = .ok (.iconst 0, 1) := by decide +kernel
theorem dX8_isSo_7 : decode cX8_isSo 7 = .ok (.istore_n 2, 1) := by decide +kernel
theorem dX8_isSo_8 : decode cX8_isSo 8 = .ok (.iload_n 2, 1) := by decide +kernel
theorem dX8_isSo_9 : decode cX8_isSo 9 = .ok (.aload_n 0, 1) := by decide +kernel
theorem dX8_isSo_10 : decode cX8_isSo 10 = .ok (.getfield 138, 3) := by decide +kernel
theorem dX8_isSo_13 : decode cX8_isSo 13 = .ok (.if_icmp .ge 52, 3) := by decide +kernel
theorem dX8_isSo_16 : decode cX8_isSo 16 = .ok (.aload_n 0, 1) := by decide +kernel
theorem dX8_isSo_17 : decode cX8_isSo 17 = .ok (.aload_n 0, 1) := by decide +kernel
theorem dX8_isSo_18 : decode cX8_isSo 18 = .ok (.getfield 49, 3) := by decide +kernel
theorem dX8_isSo_21 : decode cX8_isSo 21 = .ok (.iload_n 2, 1) := by decide +kernel
theorem dX8_isSo_22 : decode cX8_isSo 22 = .ok (.laload, 1) := by decide +kernel
theorem dX8_isSo_23 : decode cX8_isSo 23 = .ok (.invokevirtual 187, 3) := by decide +kernel
theorem dX8_isSo_26 : decode cX8_isSo 26 = .ok (.aload_n 0, 1) := by decide +kernel
theorem dX8_isSo_27 : decode cX8_isSo 27 = .ok (.aload_n 0, 1) := by decide +kernel
theorem dX8_isSo_28 : decode cX8_isSo 28 = .ok (.aload_n 0, 1) := by decide +kernel
theorem dX8_isSo_29 : decode cX8_isSo 29 = .ok (.getfield 53, 3) := by decide +kernel
theorem dX8_isSo_32 : decode cX8_isSo 32 = .ok (.iload_n 2, 1) := by decide +kernel
theorem dX8_isSo_33 : decode cX8_isSo 33 = .ok (.iaload, 1) := by decide +kernel
theorem dX8_isSo_34 : decode cX8_isSo 34 = .ok (.invokevirtual 191, 3) := by decide +kernel
theorem dX8_isSo_37 : decode cX8_isSo 37 = .ok (.aload_n 0, 1) := by decide +kernel
theorem dX8_isSo_38 : decode cX8_isSo 38 = .ok (.getfield 56, 3) := by decide +kernel
theorem dX8_isSo_41 : decode cX8_isSo 41 = .ok (.iload_n 2, 1) := by decide +kernel
theorem dX8_isSo_42 : decode cX8_isSo 42 = .ok (.iaload, 1) := by decide +kernel
theorem dX8_isSo_43 : decode cX8_isSo 43 = .ok (.invokevirtual 215, 3) := by decide +kernel
theorem dX8_isSo_46 : decode cX8_isSo 46 = .ok (.ifCond .eq 11, 3) := by decide +kernel
theorem dX8_isSo_49 : decode cX8_isSo 49 = .ok (.iload_n 1, 1) := by decide +kernel
theorem dX8_isSo_50 : decode cX8_isSo 50 = .ok (.ifCond .eq 7, 3) := by decide +kernel
theorem dX8_isSo_53 : decode cX8_isSo 53 = .ok (.iconst 1, 1) := by decide +kernel
theorem dX8_isSo_54 : decode cX8_isSo 54 = .ok (.goto 4, 3) := by decide +kernel
theorem dX8_isSo_57 : decode cX8_isSo 57 = .ok (.iconst 0, 1) := by decide +kernel
theorem dX8_isSo_58 : decode cX8_isSo 58 = .ok (.istore_n 1, 1) := by decide +kernel
theorem dX8_isSo_59 : decode cX8_isSo 59 = .ok (.iinc 2 1, 3) := by decide +kernel
theorem dX8_isSo_62 : decode cX8_isSo 62 = .ok (.goto (-54), 3) := by decide +kernel
theorem dX8_isSo_65 : decode cX8_isSo 65 = .ok (.iload_n 1, 1) := by decide +kernel
theorem dX8_isSo_66 : decode cX8_isSo 66 = .ok (.ireturn, 1) := by decide +kernel
theorem dX8_so_0 : decode cX8_so 0 = .ok (.aload_n 0, 1) := by decide +kernel
theorem dX8_so_1 : decode cX8_so 1 = .ok (.invokevirtual 224, 3) := by decide +kernel
theorem dX8_so_4 : decode cX8_so 4 = .ok (.ifCond .eq 7, 3) := by decide +kernel
theorem dX8_so_7 : decode cX8_so 7 = .ok (.iconst 1, 1) := by decide +kernel
theorem dX8_so_8 : decode cX8_so 8 = .ok (.goto 4, 3) := by decide +kernel
theorem dX8_so_11 : decode cX8_so 11 = .ok (.iconst 0, 1) := by decide +kernel
theorem dX8_so_12 : decode cX8_so 12 = .ok (.ireturn, 1) := by decide +kernel
theorem dX8_sure_0 : decode cX8_sure 0 = .ok (.aload_n 0, 1) := by decide +kernel
theorem dX8_sure_1 : decode cX8_sure 1 = .ok (.iload_n 1, 1) := by decide +kernel
theorem dX8_sure_2 : decode cX8_sure 2 = .ok (.invokevirtual 155, 3) := by decide +kernel
theorem dX8_sure_5 : decode cX8_sure 5 = .ok (.ifCond .ne 5, 3) := by decide +kernel
theorem dX8_sure_8 : decode cX8_sure 8 = .ok (.iconst (-1), 1) := by decide +kernel
theorem dX8_sure_9 : decode cX8_sure 9 = .ok (.ireturn, 1) := by decide +kernel
theorem dX8_sure_10 : decode cX8_sure 10 = .ok (.aload_n 0, 1) := by decide +kernel
theorem dX8_sure_11 : decode cX8_sure 11 = .ok (.invokevirtual 224, 3) := by decide +kernel
theorem dX8_sure_14 : decode cX8_sure 14 = .ok (.ifCond .ne 6, 3) := by decide +kernel
theorem dX8_sure_17 : decode cX8_sure 17 = .ok (.bipush (-4), 2) := by decide +kernel
theorem dX8_sure_19 : decode cX8_sure 19 = .ok (.ireturn, 1) := by decide +kernel
theorem dX8_sure_20 : decode cX8_sure 20 = .ok (.aload_n 0, 1) := by decide +kernel
theorem dX8_sure_21 : decode cX8_sure 21 = .ok (.getfield 80, 3) := by decide +kernel
theorem dX8_sure_24 : decode cX8_sure 24 = .ok (.iload_n 1, 1) := by decide +kernel
theorem dX8_sure_25 : decode cX8_sure 25 = .ok (.iaload, 1) := by decide +kernel
theorem dX8_sure_26 : decode cX8_sure 26 = .ok (.ifCond .ge 18, 3) := by decide +kernel
theorem dX8_sure_29 : decode cX8_sure 29 = .ok (.aload_n 0, 1) := by decide +kernel
theorem dX8_sure_30 : decode cX8_sure 30 = .ok (.getfield 209, 3) := by decide +kernel
theorem dX8_sure_33 : decode cX8_sure 33 = .ok (.aload_n 0, 1) := by decide +kernel
theorem dX8_sure_34 : decode cX8_sure 34 = .ok (.getfield 13, 3) := by decide +kernel
theorem dX8_sure_37 : decode cX8_sure 37 = .ok (.iconst 0, 1) := by decide +kernel
theorem dX8_sure_38 : decode cX8_sure 38 = .ok (.iaload, 1) := by decide +kernel
theorem dX8_sure_39 : decode cX8_sure 39 = .ok (.iconst 1, 1) := by decide +kernel
theorem dX8_sure_40 : decode cX8_sure 40 = .ok (.isub, 1) := by decide +kernel
theorem dX8_sure_41 : decode cX8_sure 41 = .ok (.if_icmp .ge 10, 3) := by decide +kernel
theorem dX8_sure_44 : decode cX8_sure 44 = .ok (.aload_n 0, 1) := by decide +kernel
theorem dX8_sure_45 : decode cX8_sure 45 = .ok (.getfield 80, 3) := by decide +kernel
theorem dX8_sure_48 : decode cX8_sure 48 = .ok (.iload_n 1, 1) := by decide +kernel
theorem dX8_sure_49 : decode cX8_sure 49 = .ok (.iaload, 1) := by decide +kernel
theorem dX8_sure_50 : decode cX8_sure 50 = .ok (.ireturn, 1) := by decide +kernel
theorem dX8_sure_51 : decode cX8_sure 51 = .ok (.iconst 0, 1) := by decide +kernel
theorem dX8_sure_52 : decode cX8_sure 52 = .ok (.istore_n 2, 1) := by decide +kernel
theorem dX8_sure_53 : decode cX8_sure 53 = .ok (.aload_n 0, 1) := by decide +kernel
theorem dX8_sure_54 : decode cX8_sure 54 = .ok (.getfield 83, 3) := by decide +kernel
theorem dX8_sure_57 : decode cX8_sure 57 = .ok (.iload_n 2, 1) := by decide +kernel
theorem dX8_sure_58 : decode cX8_sure 58 = .ok (.iaload, 1) := by decide +kernel
theorem dX8_sure_59 : decode cX8_sure 59 = .ok (.ifCond .lt 9, 3) := by decide +kernel
theorem dX8_sure_62 : decode cX8_sure 62 = .ok (.iinc 2 1, 3) := by decide +kernel
theorem dX8_sure_65 : decode cX8_sure 65 = .ok (.goto (-12), 3) := by decide +kernel
theorem dX8_sure_68 : decode cX8_sure 68 = .ok (.iload_n 2, 1) := by decide +kernel
theorem dX8_sure_69 : decode cX8_sure 69 = .ok (.ireturn, 1) := by decide +kernel
theorem dX8_lacks_0 : decode cX8_lacks 0 = .ok (.aload_n 0, 1) := by decide +kernel
theorem dX8_lacks_1 : decode cX8_lacks 1 = .ok (.iload_n 1, 1) := by decide +kernel
theorem dX8_lacks_2 : decode cX8_lacks 2 = .ok (.invokevirtual 155, 3) := by decide +kernel
theorem dX8_lacks_5 : decode cX8_lacks 5 = .ok (.ifCond .eq 13, 3) := by decide +kernel
theorem dX8_lacks_8 : decode cX8_lacks 8 = .ok (.iload_n 2, 1) := by decide +kernel
theorem dX8_lacks_9 : decode cX8_lacks 9 = .ok (.i2l, 1) := by decide +kernel
theorem dX8_lacks_10 : decode cX8_lacks 10 = .ok (.lconst 0, 1) := by decide +kernel
theorem dX8_lacks_11 : decode cX8_lacks 11 = .ok (.lconst 1, 1) := by decide +kernel
theorem dX8_lacks_12 : decode cX8_lacks 12 = .ok (.invokestatic 98, 3) := by decide +kernel
theorem dX8_lacks_15 : decode cX8_lacks 15 = .ok (.ifCond .ne 5, 3) := by decide +kernel
theorem dX8_lacks_18 : decode cX8_lacks 18 = .ok (.iconst (-1), 1) := by decide +kernel
theorem dX8_lacks_19 : decode cX8_lacks 19 = .ok (.ireturn, 1) := by decide +kernel
theorem dX8_lacks_20 : decode cX8_lacks 20 = .ok (.aload_n 0, 1) := by decide +kernel
theorem dX8_lacks_21 : decode cX8_lacks 21 = .ok (.invokevirtual 203, 3) := by decide +kernel
theorem dX8_lacks_24 : decode cX8_lacks 24 = .ok (.istore_n 3, 1) := by decide +kernel
theorem dX8_lacks_25 : decode cX8_lacks 25 = .ok (.aload_n 0, 1) := by decide +kernel
theorem dX8_lacks_26 : decode cX8_lacks 26 = .ok (.lconst 0, 1) := by decide +kernel
theorem dX8_lacks_27 : decode cX8_lacks 27 = .ok (.invokevirtual 187, 3) := by decide +kernel
theorem dX8_lacks_30 : decode cX8_lacks 30 = .ok (.iconst 0, 1) := by decide +kernel
theorem dX8_lacks_31 : decode cX8_lacks 31 = .ok (.istore 4, 2) := by decide +kernel
theorem dX8_lacks_33 : decode cX8_lacks 33 = .ok (.iload 4, 2) := by decide +kernel
theorem dX8_lacks_35 : decode cX8_lacks 35 = .ok (.iload_n 3, 1) := by decide +kernel
theorem dX8_lacks_36 : decode cX8_lacks 36 = .ok (.if_icmp .ge 68, 3) := by decide +kernel
theorem dX8_lacks_39 : decode cX8_lacks 39 = .ok (.iconst 0, 1) := by decide +kernel
theorem dX8_lacks_40 : decode cX8_lacks 40 = .ok (.istore 5, 2) := by decide +kernel
theorem dX8_lacks_42 : decode cX8_lacks 42 = .ok (.iload 5, 2) := by decide +kernel
theorem dX8_lacks_44 : decode cX8_lacks 44 = .ok (.aload_n 0, 1) := by decide +kernel
theorem dX8_lacks_45 : decode cX8_lacks 45 = .ok (.getfield 16, 3) := by decide +kernel
theorem dX8_lacks_48 : decode cX8_lacks 48 = .ok (.iconst 0, 1) := by decide +kernel
theorem dX8_lacks_49 : decode cX8_lacks 49 = .ok (.iaload, 1) := by decide +kernel
theorem dX8_lacks_50 : decode cX8_lacks 50 = .ok (.if_icmp .ge 36, 3) := by decide +kernel
theorem dX8_lacks_53 : decode cX8_lacks 53 = .ok (.aload_n 0, 1) := by decide +kernel
theorem dX8_lacks_54 : decode cX8_lacks 54 = .ok (.getfield 37, 3) := by decide +kernel
theorem dX8_lacks_57 : decode cX8_lacks 57 = .ok (.aload_n 0, 1) := by decide +kernel
theorem dX8_lacks_58 : decode cX8_lacks 58 = .ok (.iload 5, 2) := by decide +kernel
theorem dX8_lacks_60 : decode cX8_lacks 60 = .ok (.invokevirtual 191, 3) := by decide +kernel
theorem dX8_lacks_63 : decode cX8_lacks 63 = .ok (.iaload, 1) := by decide +kernel
theorem dX8_lacks_64 : decode cX8_lacks 64 = .ok (.iload_n 1, 1) := by decide +kernel
theorem dX8_lacks_65 : decode cX8_lacks 65 = .ok (.if_icmp .ne 15, 3) := by decide +kernel
theorem dX8_lacks_68 : decode cX8_lacks 68 = .ok (.iload_n 2, 1) := by decide +kernel
theorem dX8_lacks_69 : decode cX8_lacks 69 = .ok (.ifCond .ne 8, 3) := by decide +kernel
theorem dX8_lacks_72 : decode cX8_lacks 72 = .ok (.iload 4, 2) := by decide +kernel
theorem dX8_lacks_74 : decode cX8_lacks 74 = .ok (.goto 5, 3) := by decide +kernel
theorem dX8_lacks_77 : decode cX8_lacks 77 = .ok (.iload 5, 2) := by decide +kernel
theorem dX8_lacks_79 : decode cX8_lacks 79 = .ok (.ireturn, 1) := by decide +kernel
theorem dX8_lacks_80 : decode cX8_lacks 80 = .ok (.iinc 5 1, 3) := by decide +kernel
theorem dX8_lacks_83 : decode cX8_lacks 83 = .ok (.goto (-41), 3) := by decide +kernel
theorem dX8_lacks_86 : decode cX8_lacks 86 = .ok (.aload_n 0, 1) := by decide +kernel
theorem dX8_lacks_87 : decode cX8_lacks 87 = .ok (.aload_n 0, 1) := by decide +kernel
theorem dX8_lacks_88 : decode cX8_lacks 88 = .ok (.getfield 71, 3) := by decide +kernel
theorem dX8_lacks_91 : decode cX8_lacks 91 = .ok (.aload_n 0, 1) := by decide +kernel
theorem dX8_lacks_92 : decode cX8_lacks 92 = .ok (.getfield 68, 3) := by decide +kernel
theorem dX8_lacks_95 : decode cX8_lacks 95 = .ok (.invokevirtual 177, 3) := by decide +kernel
theorem dX8_lacks_98 : decode cX8_lacks 98 = .ok (.iinc 4 1, 3) := by decide +kernel
theorem dX8_lacks_101 : decode cX8_lacks 101 = .ok (.goto (-68), 3) := by decide +kernel
theorem dX8_lacks_104 : decode cX8_lacks 104 = .ok (.bipush (-4), 2) := by decide +kernel
theorem dX8_lacks_106 : decode cX8_lacks 106 = .ok (.ireturn, 1) := by decide +kernel
theorem dX8_notice_0 : decode cX8_notice 0 = .ok (.aload_n 0, 1) := by decide +kernel
theorem dX8_notice_1 : decode cX8_notice 1 = .ok (.iload_n 1, 1) := by decide +kernel
theorem dX8_notice_2 : decode cX8_notice 2 = .ok (.invokevirtual 155, 3) := by decide +kernel
theorem dX8_notice_5 : decode cX8_notice 5 = .ok (.ifCond .eq 23, 3) := by decide +kernel
theorem dX8_notice_8 : decode cX8_notice 8 = .ok (.aload_n 0, 1) := by decide +kernel
theorem dX8_notice_9 : decode cX8_notice 9 = .ok (.iload_n 2, 1) := by decide +kernel
theorem dX8_notice_10 : decode cX8_notice 10 = .ok (.invokevirtual 155, 3) := by decide +kernel
theorem dX8_notice_13 : decode cX8_notice 13 = .ok (.ifCond .eq 15, 3) := by decide +kernel
theorem dX8_notice_16 : decode cX8_notice 16 = .ok (.iload_n 3, 1) := by decide +kernel
theorem dX8_notice_17 : decode cX8_notice 17 = .ok (.i2l, 1) := by decide +kernel
theorem dX8_notice_18 : decode cX8_notice 18 = .ok (.lconst 0, 1) := by decide +kernel
theorem dX8_notice_19 : decode cX8_notice 19 = .ok (.ldc2_w 227, 3) := by decide +kernel
theorem dX8_notice_22 : decode cX8_notice 22 = .ok (.invokestatic 98, 3) := by decide +kernel
theorem dX8_notice_25 : decode cX8_notice 25 = .ok (.ifCond .ne 5, 3) := by decide +kernel
theorem dX8_notice_28 : decode cX8_notice 28 = .ok (.iconst (-1), 1) := by decide +kernel
theorem dX8_notice_29 : decode cX8_notice 29 = .ok (.ireturn, 1) := by decide +kernel
theorem dX8_notice_30 : decode cX8_notice 30 = .ok (.lconst 1, 1) := by decide +kernel
theorem dX8_notice_31 : decode cX8_notice 31 = .ok (.iload_n 1, 1) := by decide +kernel
theorem dX8_notice_32 : decode cX8_notice 32 = .ok (.lshl, 1) := by decide +kernel
theorem dX8_notice_33 : decode cX8_notice 33 = .ok (.lconst 1, 1) := by decide +kernel
theorem dX8_notice_34 : decode cX8_notice 34 = .ok (.iload_n 2, 1) := by decide +kernel
theorem dX8_notice_35 : decode cX8_notice 35 = .ok (.lshl, 1) := by decide +kernel
theorem dX8_notice_36 : decode cX8_notice 36 = .ok (.lor, 1) := by decide +kernel
theorem dX8_notice_37 : decode cX8_notice 37 = .ok (.lstore 4, 2) := by decide +kernel
theorem dX8_notice_39 : decode cX8_notice 39 = .ok (.iconst 0, 1) := by decide +kernel
theorem dX8_notice_40 : decode cX8_notice 40 = .ok (.istore 6, 2) := by decide +kernel
theorem dX8_notice_42 : decode cX8_notice 42 = .ok (.aload_n 0, 1) := by decide +kernel
theorem dX8_notice_43 : decode cX8_notice 43 = .ok (.lconst 0, 1) := by decide +kernel
theorem dX8_notice_44 : decode cX8_notice 44 = .ok (.invokevirtual 187, 3) := by decide +kernel
theorem dX8_notice_47 : decode cX8_notice 47 = .ok (.iconst 0, 1) := by decide +kernel
theorem dX8_notice_48 : decode cX8_notice 48 = .ok (.istore 7, 2) := by decide +kernel
theorem dX8_notice_50 : decode cX8_notice 50 = .ok (.iload 7, 2) := by decide +kernel
theorem dX8_notice_52 : decode cX8_notice 52 = .ok (.iload_n 3, 1) := by decide +kernel
theorem dX8_notice_53 : decode cX8_notice 53 = .ok (.if_icmp .ge 48, 3) := by decide +kernel
theorem dX8_notice_56 : decode cX8_notice 56 = .ok (.iload 6, 2) := by decide +kernel
theorem dX8_notice_58 : decode cX8_notice 58 = .ok (.iload_n 1, 1) := by decide +kernel
theorem dX8_notice_59 : decode cX8_notice 59 = .ok (.iload_n 2, 1) := by decide +kernel
theorem dX8_notice_60 : decode cX8_notice 60 = .ok (.if_icmp .eq 19, 3) := by decide +kernel
theorem dX8_notice_63 : decode cX8_notice 63 = .ok (.aload_n 0, 1) := by decide +kernel
theorem dX8_notice_64 : decode cX8_notice 64 = .ok (.invokevirtual 196, 3) := by decide +kernel
theorem dX8_notice_67 : decode cX8_notice 67 = .ok (.lload 4, 2) := by decide +kernel
theorem dX8_notice_69 : decode cX8_notice 69 = .ok (.land, 1) := by decide +kernel
theorem dX8_notice_70 : decode cX8_notice 70 = .ok (.lconst 0, 1) := by decide +kernel
theorem dX8_notice_71 : decode cX8_notice 71 = .ok (.lcmp, 1) := by decide +kernel
theorem dX8_notice_72 : decode cX8_notice 72 = .ok (.ifCond .eq 7, 3) := by decide +kernel
theorem dX8_notice_75 : decode cX8_notice 75 = .ok (.iconst 1, 1) := by decide +kernel
theorem dX8_notice_76 : decode cX8_notice 76 = .ok (.goto 4, 3) := by decide +kernel
theorem dX8_notice_79 : decode cX8_notice 79 = .ok (.iconst 0, 1) := by decide +kernel
theorem dX8_notice_80 : decode cX8_notice 80 = .ok (.iadd, 1) := by decide +kernel
theorem dX8_notice_81 : decode cX8_notice 81 = .ok (.istore 6, 2) := by decide +kernel
theorem dX8_notice_83 : decode cX8_notice 83 = .ok (.aload_n 0, 1) := by decide +kernel
theorem dX8_notice_84 : decode cX8_notice 84 = .ok (.aload_n 0, 1) := by decide +kernel
theorem dX8_notice_85 : decode cX8_notice 85 = .ok (.getfield 71, 3) := by decide +kernel
theorem dX8_notice_88 : decode cX8_notice 88 = .ok (.aload_n 0, 1) := by decide +kernel
theorem dX8_notice_89 : decode cX8_notice 89 = .ok (.getfield 68, 3) := by decide +kernel
theorem dX8_notice_92 : decode cX8_notice 92 = .ok (.invokevirtual 177, 3) := by decide +kernel
theorem dX8_notice_95 : decode cX8_notice 95 = .ok (.iinc 7 1, 3) := by decide +kernel
theorem dX8_notice_98 : decode cX8_notice 98 = .ok (.goto (-48), 3) := by decide +kernel
theorem dX8_notice_101 : decode cX8_notice 101 = .ok (.iload 6, 2) := by decide +kernel
theorem dX8_notice_103 : decode cX8_notice 103 = .ok (.ireturn, 1) := by decide +kernel
theorem dX8_pleasedBy_0 : decode cX8_pleasedBy 0 = .ok (.iconst 0, 1) := by decide +kernel
theorem dX8_pleasedBy_1 : decode cX8_pleasedBy 1 = .ok (.istore_n 3, 1) := by decide +kernel
theorem dX8_pleasedBy_2 : decode cX8_pleasedBy 2 = .ok (.iload_n 3, 1) := by decide +kernel
theorem dX8_pleasedBy_3 : decode cX8_pleasedBy 3 = .ok (.bipush 40, 2) := by decide +kernel
theorem dX8_pleasedBy_5 : decode cX8_pleasedBy 5 = .ok (.if_icmp .ge 21, 3) := by decide +kernel
theorem dX8_pleasedBy_8 : decode cX8_pleasedBy 8 = .ok (.aload_n 0, 1) := by decide +kernel
theorem dX8_pleasedBy_9 : decode cX8_pleasedBy 9 = .ok (.getfield 86, 3) := by decide +kernel
theorem dX8_pleasedBy_12 : decode cX8_pleasedBy 12 = .ok (.iload_n 3, 1) := by decide +kernel
theorem dX8_pleasedBy_13 : decode cX8_pleasedBy 13 = .ok (.aload_n 0, 1) := by decide +kernel
theorem dX8_pleasedBy_14 : decode cX8_pleasedBy 14 = .ok (.getfield 37, 3) := by decide +kernel
theorem dX8_pleasedBy_17 : decode cX8_pleasedBy 17 = .ok (.iload_n 3, 1) := by decide +kernel
theorem dX8_pleasedBy_18 : decode cX8_pleasedBy 18 = .ok (.iaload, 1) := by decide +kernel
theorem dX8_pleasedBy_19 : decode cX8_pleasedBy 19 = .ok (.iastore, 1) := by decide +kernel
theorem dX8_pleasedBy_20 : decode cX8_pleasedBy 20 = .ok (.iinc 3 1, 3) := by decide +kernel
theorem dX8_pleasedBy_23 : decode cX8_pleasedBy 23 = .ok (.goto (-21), 3) := by decide +kernel
theorem dX8_pleasedBy_26 : decode cX8_pleasedBy 26 = .ok (.aload_n 0, 1) := by decide +kernel
theorem dX8_pleasedBy_27 : decode cX8_pleasedBy 27 = .ok (.aload_n 0, 1) := by decide +kernel
theorem dX8_pleasedBy_28 : decode cX8_pleasedBy 28 = .ok (.getfield 86, 3) := by decide +kernel
theorem dX8_pleasedBy_31 : decode cX8_pleasedBy 31 = .ok (.iconst 0, 1) := by decide +kernel
theorem dX8_pleasedBy_32 : decode cX8_pleasedBy 32 = .ok (.iload_n 2, 1) := by decide +kernel
theorem dX8_pleasedBy_33 : decode cX8_pleasedBy 33 = .ok (.invokevirtual 151, 3) := by decide +kernel
theorem dX8_pleasedBy_36 : decode cX8_pleasedBy 36 = .ok (.iconst 1, 1) := by decide +kernel
theorem dX8_pleasedBy_37 : decode cX8_pleasedBy 37 = .ok (.istore_n 3, 1) := by decide +kernel
theorem dX8_pleasedBy_38 : decode cX8_pleasedBy 38 = .ok (.iload_n 3, 1) := by decide +kernel
theorem dX8_pleasedBy_39 : decode cX8_pleasedBy 39 = .ok (.aload_n 0, 1) := by decide +kernel
theorem dX8_pleasedBy_40 : decode cX8_pleasedBy 40 = .ok (.getfield 16, 3) := by decide +kernel
theorem dX8_pleasedBy_43 : decode cX8_pleasedBy 43 = .ok (.iconst 0, 1) := by decide +kernel
theorem dX8_pleasedBy_44 : decode cX8_pleasedBy 44 = .ok (.iaload, 1) := by decide +kernel
theorem dX8_pleasedBy_45 : decode cX8_pleasedBy 45 = .ok (.if_icmp .ge 31, 3) := by decide +kernel
theorem dX8_pleasedBy_48 : decode cX8_pleasedBy 48 = .ok (.aload_n 0, 1) := by decide +kernel
theorem dX8_pleasedBy_49 : decode cX8_pleasedBy 49 = .ok (.aload_n 0, 1) := by decide +kernel
theorem dX8_pleasedBy_50 : decode cX8_pleasedBy 50 = .ok (.getfield 86, 3) := by decide +kernel
theorem dX8_pleasedBy_53 : decode cX8_pleasedBy 53 = .ok (.iconst 0, 1) := by decide +kernel
theorem dX8_pleasedBy_54 : decode cX8_pleasedBy 54 = .ok (.aload_n 0, 1) := by decide +kernel
theorem dX8_pleasedBy_55 : decode cX8_pleasedBy 55 = .ok (.getfield 19, 3) := by decide +kernel
theorem dX8_pleasedBy_58 : decode cX8_pleasedBy 58 = .ok (.iconst 0, 1) := by decide +kernel
theorem dX8_pleasedBy_59 : decode cX8_pleasedBy 59 = .ok (.iaload, 1) := by decide +kernel
theorem dX8_pleasedBy_60 : decode cX8_pleasedBy 60 = .ok (.aload_n 0, 1) := by decide +kernel
theorem dX8_pleasedBy_61 : decode cX8_pleasedBy 61 = .ok (.getfield 22, 3) := by decide +kernel
theorem dX8_pleasedBy_64 : decode cX8_pleasedBy 64 = .ok (.iconst 0, 1) := by decide +kernel
theorem dX8_pleasedBy_65 : decode cX8_pleasedBy 65 = .ok (.iaload, 1) := by decide +kernel
theorem dX8_pleasedBy_66 : decode cX8_pleasedBy 66 = .ok (.iload_n 3, 1) := by decide +kernel
theorem dX8_pleasedBy_67 : decode cX8_pleasedBy 67 = .ok (.invokevirtual 158, 3) := by decide +kernel
theorem dX8_pleasedBy_70 : decode cX8_pleasedBy 70 = .ok (.iinc 3 1, 3) := by decide +kernel
theorem dX8_pleasedBy_73 : decode cX8_pleasedBy 73 = .ok (.goto (-35), 3) := by decide +kernel
theorem dX8_pleasedBy_76 : decode cX8_pleasedBy 76 = .ok (.iconst 1, 1) := by decide +kernel
theorem dX8_pleasedBy_77 : decode cX8_pleasedBy 77 = .ok (.istore_n 3, 1) := by decide +kernel
theorem dX8_pleasedBy_78 : decode cX8_pleasedBy 78 = .ok (.iload_n 3, 1) := by decide +kernel
theorem dX8_pleasedBy_79 : decode cX8_pleasedBy 79 = .ok (.iload_n 1, 1) := by decide +kernel
theorem dX8_pleasedBy_80 : decode cX8_pleasedBy 80 = .ok (.if_icmp .ge 21, 3) := by decide +kernel
theorem dX8_pleasedBy_83 : decode cX8_pleasedBy 83 = .ok (.aload_n 0, 1) := by decide +kernel
theorem dX8_pleasedBy_84 : decode cX8_pleasedBy 84 = .ok (.aload_n 0, 1) := by decide +kernel
theorem dX8_pleasedBy_85 : decode cX8_pleasedBy 85 = .ok (.getfield 86, 3) := by decide +kernel
theorem dX8_pleasedBy_88 : decode cX8_pleasedBy 88 = .ok (.aload_n 0, 1) := by decide +kernel
theorem dX8_pleasedBy_89 : decode cX8_pleasedBy 89 = .ok (.getfield 68, 3) := by decide +kernel
theorem dX8_pleasedBy_92 : decode cX8_pleasedBy 92 = .ok (.invokevirtual 177, 3) := by decide +kernel
theorem dX8_pleasedBy_95 : decode cX8_pleasedBy 95 = .ok (.iinc 3 1, 3) := by decide +kernel
theorem dX8_pleasedBy_98 : decode cX8_pleasedBy 98 = .ok (.goto (-20), 3) := by decide +kernel
theorem dX8_pleasedBy_101 : decode cX8_pleasedBy 101 = .ok (.iconst 0, 1) := by decide +kernel
theorem dX8_pleasedBy_102 : decode cX8_pleasedBy 102 = .ok (.istore_n 3, 1) := by decide +kernel
theorem dX8_pleasedBy_103 : decode cX8_pleasedBy 103 = .ok (.iconst 0, 1) := by decide +kernel
theorem dX8_pleasedBy_104 : decode cX8_pleasedBy 104 = .ok (.istore 4, 2) := by decide +kernel
theorem dX8_pleasedBy_106 : decode cX8_pleasedBy 106 = .ok (.iload 4, 2) := by decide +kernel
theorem dX8_pleasedBy_108 : decode cX8_pleasedBy 108 = .ok (.aload_n 0, 1) := by decide +kernel
theorem dX8_pleasedBy_109 : decode cX8_pleasedBy 109 = .ok (.invokevirtual 206, 3) := by decide +kernel
theorem dX8_pleasedBy_112 : decode cX8_pleasedBy 112 = .ok (.if_icmp .ge 39, 3) := by decide +kernel
theorem dX8_pleasedBy_115 : decode cX8_pleasedBy 115 = .ok (.iload_n 3, 1) := by decide +kernel
theorem dX8_pleasedBy_116 : decode cX8_pleasedBy 116 = .ok (.aload_n 0, 1) := by decide +kernel
theorem dX8_pleasedBy_117 : decode cX8_pleasedBy 117 = .ok (.getfield 86, 3) := by decide +kernel
theorem dX8_pleasedBy_120 : decode cX8_pleasedBy 120 = .ok (.aload_n 0, 1) := by decide +kernel
theorem dX8_pleasedBy_121 : decode cX8_pleasedBy 121 = .ok (.getfield 65, 3) := by decide +kernel
theorem dX8_pleasedBy_124 : decode cX8_pleasedBy 124 = .ok (.iload 4, 2) := by decide +kernel
theorem dX8_pleasedBy_126 : decode cX8_pleasedBy 126 = .ok (.iaload, 1) := by decide +kernel
theorem dX8_pleasedBy_127 : decode cX8_pleasedBy 127 = .ok (.iaload, 1) := by decide +kernel
theorem dX8_pleasedBy_128 : decode cX8_pleasedBy 128 = .ok (.aload_n 0, 1) := by decide +kernel
theorem dX8_pleasedBy_129 : decode cX8_pleasedBy 129 = .ok (.getfield 34, 3) := by decide +kernel
theorem dX8_pleasedBy_132 : decode cX8_pleasedBy 132 = .ok (.iload 4, 2) := by decide +kernel
theorem dX8_pleasedBy_134 : decode cX8_pleasedBy 134 = .ok (.iaload, 1) := by decide +kernel
theorem dX8_pleasedBy_135 : decode cX8_pleasedBy 135 = .ok (.if_icmp .ne 7, 3) := by decide +kernel
theorem dX8_pleasedBy_138 : decode cX8_pleasedBy 138 = .ok (.iconst 1, 1) := by decide +kernel
theorem dX8_pleasedBy_139 : decode cX8_pleasedBy 139 = .ok (.goto 4, 3) := by decide +kernel
theorem dX8_pleasedBy_142 : decode cX8_pleasedBy 142 = .ok (.iconst 0, 1) := by decide +kernel
theorem dX8_pleasedBy_143 : decode cX8_pleasedBy 143 = .ok (.iadd, 1) := by decide +kernel
theorem dX8_pleasedBy_144 : decode cX8_pleasedBy 144 = .ok (.istore_n 3, 1) := by decide +kernel
theorem dX8_pleasedBy_145 : decode cX8_pleasedBy 145 = .ok (.iinc 4 1, 3) := by decide +kernel
theorem dX8_pleasedBy_148 : decode cX8_pleasedBy 148 = .ok (.goto (-42), 3) := by decide +kernel
theorem dX8_pleasedBy_151 : decode cX8_pleasedBy 151 = .ok (.iload_n 3, 1) := by decide +kernel
theorem dX8_pleasedBy_152 : decode cX8_pleasedBy 152 = .ok (.ireturn, 1) := by decide +kernel
theorem dX8_pleased_0 : decode cX8_pleased 0 = .ok (.iload_n 1, 1) := by decide +kernel
theorem dX8_pleased_1 : decode cX8_pleased 1 = .ok (.i2l, 1) := by decide +kernel
theorem dX8_pleased_2 : decode cX8_pleased 2 = .ok (.lconst 1, 1) := by decide +kernel
theorem dX8_pleased_3 : decode cX8_pleased 3 = .ok (.ldc2_w 229, 3) := by decide +kernel
theorem dX8_pleased_6 : decode cX8_pleased 6 = .ok (.invokestatic 98, 3) := by decide +kernel
theorem dX8_pleased_9 : decode cX8_pleased 9 = .ok (.ifCond .eq 13, 3) := by decide +kernel
theorem dX8_pleased_12 : decode cX8_pleased 12 = .ok (.iload_n 2, 1) := by decide +kernel
theorem dX8_pleased_13 : decode cX8_pleased 13 = .ok (.i2l, 1) := by decide +kernel
theorem dX8_pleased_14 : decode cX8_pleased 14 = .ok (.lconst 0, 1) := by decide +kernel
theorem dX8_pleased_15 : decode cX8_pleased 15 = .ok (.lconst 1, 1) := by decide +kernel
theorem dX8_pleased_16 : decode cX8_pleased 16 = .ok (.invokestatic 98, 3) := by decide +kernel
theorem dX8_pleased_19 : decode cX8_pleased 19 = .ok (.ifCond .ne 5, 3) := by decide +kernel
theorem dX8_pleased_22 : decode cX8_pleased 22 = .ok (.iconst (-1), 1) := by decide +kernel
theorem dX8_pleased_23 : decode cX8_pleased 23 = .ok (.ireturn, 1) := by decide +kernel
theorem dX8_pleased_24 : decode cX8_pleased 24 = .ok (.iconst 0, 1) := by decide +kernel
theorem dX8_pleased_25 : decode cX8_pleased 25 = .ok (.istore_n 3, 1) := by decide +kernel
theorem dX8_pleased_26 : decode cX8_pleased 26 = .ok (.bipush (-4), 2) := by decide +kernel
theorem dX8_pleased_28 : decode cX8_pleased 28 = .ok (.istore 4, 2) := by decide +kernel
theorem dX8_pleased_30 : decode cX8_pleased 30 = .ok (.iconst 0, 1) := by decide +kernel
theorem dX8_pleased_31 : decode cX8_pleased 31 = .ok (.istore 5, 2) := by decide +kernel
theorem dX8_pleased_33 : decode cX8_pleased 33 = .ok (.iload 5, 2) := by decide +kernel
theorem dX8_pleased_35 : decode cX8_pleased 35 = .ok (.aload_n 0, 1) := by decide +kernel
theorem dX8_pleased_36 : decode cX8_pleased 36 = .ok (.getfield 13, 3) := by decide +kernel
theorem dX8_pleased_39 : decode cX8_pleased 39 = .ok (.iconst 0, 1) := by decide +kernel
theorem dX8_pleased_40 : decode cX8_pleased 40 = .ok (.iaload, 1) := by decide +kernel
theorem dX8_pleased_41 : decode cX8_pleased 41 = .ok (.if_icmp .ge 48, 3) := by decide +kernel
theorem dX8_pleased_44 : decode cX8_pleased 44 = .ok (.aload_n 0, 1) := by decide +kernel
theorem dX8_pleased_45 : decode cX8_pleased 45 = .ok (.iload_n 1, 1) := by decide +kernel
theorem dX8_pleased_46 : decode cX8_pleased 46 = .ok (.iload 5, 2) := by decide +kernel
theorem dX8_pleased_48 : decode cX8_pleased 48 = .ok (.invokevirtual 231, 3) := by decide +kernel
theorem dX8_pleased_51 : decode cX8_pleased 51 = .ok (.istore 6, 2) := by decide +kernel
theorem dX8_pleased_53 : decode cX8_pleased 53 = .ok (.iload 6, 2) := by decide +kernel
theorem dX8_pleased_55 : decode cX8_pleased 55 = .ok (.iload 4, 2) := by decide +kernel
theorem dX8_pleased_57 : decode cX8_pleased 57 = .ok (.if_icmp .le 8, 3) := by decide +kernel
theorem dX8_pleased_60 : decode cX8_pleased 60 = .ok (.iload 5, 2) := by decide +kernel
theorem dX8_pleased_62 : decode cX8_pleased 62 = .ok (.goto 4, 3) := by decide +kernel
theorem dX8_pleased_65 : decode cX8_pleased 65 = .ok (.iload_n 3, 1) := by decide +kernel
theorem dX8_pleased_66 : decode cX8_pleased 66 = .ok (.istore_n 3, 1) := by decide +kernel
theorem dX8_pleased_67 : decode cX8_pleased 67 = .ok (.iload 6, 2) := by decide +kernel
theorem dX8_pleased_69 : decode cX8_pleased 69 = .ok (.iload 4, 2) := by decide +kernel
theorem dX8_pleased_71 : decode cX8_pleased 71 = .ok (.if_icmp .le 8, 3) := by decide +kernel
theorem dX8_pleased_74 : decode cX8_pleased 74 = .ok (.iload 6, 2) := by decide +kernel
theorem dX8_pleased_76 : decode cX8_pleased 76 = .ok (.goto 5, 3) := by decide +kernel
theorem dX8_pleased_79 : decode cX8_pleased 79 = .ok (.iload 4, 2) := by decide +kernel
theorem dX8_pleased_81 : decode cX8_pleased 81 = .ok (.istore 4, 2) := by decide +kernel
theorem dX8_pleased_83 : decode cX8_pleased 83 = .ok (.iinc 5 1, 3) := by decide +kernel
theorem dX8_pleased_86 : decode cX8_pleased 86 = .ok (.goto (-53), 3) := by decide +kernel
theorem dX8_pleased_89 : decode cX8_pleased 89 = .ok (.iload_n 2, 1) := by decide +kernel
theorem dX8_pleased_90 : decode cX8_pleased 90 = .ok (.ifCond .ne 7, 3) := by decide +kernel
theorem dX8_pleased_93 : decode cX8_pleased 93 = .ok (.iload_n 3, 1) := by decide +kernel
theorem dX8_pleased_94 : decode cX8_pleased 94 = .ok (.goto 5, 3) := by decide +kernel
theorem dX8_pleased_97 : decode cX8_pleased 97 = .ok (.iload 4, 2) := by decide +kernel
theorem dX8_pleased_99 : decode cX8_pleased 99 = .ok (.ireturn, 1) := by decide +kernel
theorem dX8_copy_0 : decode cX8_copy 0 = .ok (.iconst 0, 1) := by decide +kernel
theorem dX8_copy_1 : decode cX8_copy 1 = .ok (.istore_n 3, 1) := by decide +kernel
theorem dX8_copy_2 : decode cX8_copy 2 = .ok (.iload_n 3, 1) := by decide +kernel
theorem dX8_copy_3 : decode cX8_copy 3 = .ok (.bipush 40, 2) := by decide +kernel
theorem dX8_copy_5 : decode cX8_copy 5 = .ok (.if_icmp .ge 31, 3) := by decide +kernel
theorem dX8_copy_8 : decode cX8_copy 8 = .ok (.aload_n 0, 1) := by decide +kernel
theorem dX8_copy_9 : decode cX8_copy 9 = .ok (.getfield 40, 3) := by decide +kernel
theorem dX8_copy_12 : decode cX8_copy 12 = .ok (.bipush 40, 2) := by decide +kernel
theorem dX8_copy_14 : decode cX8_copy 14 = .ok (.iload_n 2, 1) := by decide +kernel
theorem dX8_copy_15 : decode cX8_copy 15 = .ok (.imul, 1) := by decide +kernel
theorem dX8_copy_16 : decode cX8_copy 16 = .ok (.iload_n 3, 1) := by decide +kernel
theorem dX8_copy_17 : decode cX8_copy 17 = .ok (.iadd, 1) := by decide +kernel
theorem dX8_copy_18 : decode cX8_copy 18 = .ok (.aload_n 0, 1) := by decide +kernel
theorem dX8_copy_19 : decode cX8_copy 19 = .ok (.getfield 40, 3) := by decide +kernel
theorem dX8_copy_22 : decode cX8_copy 22 = .ok (.bipush 40, 2) := by decide +kernel
theorem dX8_copy_24 : decode cX8_copy 24 = .ok (.iload_n 1, 1) := by decide +kernel
theorem dX8_copy_25 : decode cX8_copy 25 = .ok (.imul, 1) := by decide +kernel
theorem dX8_copy_26 : decode cX8_copy 26 = .ok (.iload_n 3, 1) := by decide +kernel
theorem dX8_copy_27 : decode cX8_copy 27 = .ok (.iadd, 1) := by decide +kernel
theorem dX8_copy_28 : decode cX8_copy 28 = .ok (.iaload, 1) := by decide +kernel
theorem dX8_copy_29 : decode cX8_copy 29 = .ok (.iastore, 1) := by decide +kernel
theorem dX8_copy_30 : decode cX8_copy 30 = .ok (.iinc 3 1, 3) := by decide +kernel
theorem dX8_copy_33 : decode cX8_copy 33 = .ok (.goto (-31), 3) := by decide +kernel
theorem dX8_copy_36 : decode cX8_copy 36 = .ok (.aload_n 0, 1) := by decide +kernel
theorem dX8_copy_37 : decode cX8_copy 37 = .ok (.getfield 43, 3) := by decide +kernel
theorem dX8_copy_40 : decode cX8_copy 40 = .ok (.iload_n 2, 1) := by decide +kernel
theorem dX8_copy_41 : decode cX8_copy 41 = .ok (.aload_n 0, 1) := by decide +kernel
theorem dX8_copy_42 : decode cX8_copy 42 = .ok (.getfield 43, 3) := by decide +kernel
theorem dX8_copy_45 : decode cX8_copy 45 = .ok (.iload_n 1, 1) := by decide +kernel
theorem dX8_copy_46 : decode cX8_copy 46 = .ok (.iaload, 1) := by decide +kernel
theorem dX8_copy_47 : decode cX8_copy 47 = .ok (.iastore, 1) := by decide +kernel
theorem dX8_copy_48 : decode cX8_copy 48 = .ok (.aload_n 0, 1) := by decide +kernel
theorem dX8_copy_49 : decode cX8_copy 49 = .ok (.getfield 46, 3) := by decide +kernel
theorem dX8_copy_52 : decode cX8_copy 52 = .ok (.iload_n 2, 1) := by decide +kernel
theorem dX8_copy_53 : decode cX8_copy 53 = .ok (.aload_n 0, 1) := by decide +kernel
theorem dX8_copy_54 : decode cX8_copy 54 = .ok (.getfield 46, 3) := by decide +kernel
theorem dX8_copy_57 : decode cX8_copy 57 = .ok (.iload_n 1, 1) := by decide +kernel
theorem dX8_copy_58 : decode cX8_copy 58 = .ok (.iaload, 1) := by decide +kernel
theorem dX8_copy_59 : decode cX8_copy 59 = .ok (.iastore, 1) := by decide +kernel
theorem dX8_copy_60 : decode cX8_copy 60 = .ok (.return_, 1) := by decide +kernel
theorem dX8_keep_0 : decode cX8_keep 0 = .ok (.aload_n 0, 1) := by decide +kernel
theorem dX8_keep_1 : decode cX8_keep 1 = .ok (.getfield 135, 3) := by decide +kernel
theorem dX8_keep_4 : decode cX8_keep 4 = .ok (.iconst 2, 1) := by decide +kernel
theorem dX8_keep_5 : decode cX8_keep 5 = .ok (.if_icmp .ne 6, 3) := by decide +kernel
theorem dX8_keep_8 : decode cX8_keep 8 = .ok (.bipush (-3), 2) := by decide +kernel
theorem dX8_keep_10 : decode cX8_keep 10 = .ok (.ireturn, 1) := by decide +kernel
theorem dX8_keep_11 : decode cX8_keep 11 = .ok (.aload_n 0, 1) := by decide +kernel
theorem dX8_keep_12 : decode cX8_keep 12 = .ok (.dup, 1) := by decide +kernel
theorem dX8_keep_13 : decode cX8_keep 13 = .ok (.getfield 135, 3) := by decide +kernel
theorem dX8_keep_16 : decode cX8_keep 16 = .ok (.iconst 1, 1) := by decide +kernel
theorem dX8_keep_17 : decode cX8_keep 17 = .ok (.iadd, 1) := by decide +kernel
theorem dX8_keep_18 : decode cX8_keep 18 = .ok (.putfield 135, 3) := by decide +kernel
theorem dX8_keep_21 : decode cX8_keep 21 = .ok (.aload_n 0, 1) := by decide +kernel
theorem dX8_keep_22 : decode cX8_keep 22 = .ok (.iconst 0, 1) := by decide +kernel
theorem dX8_keep_23 : decode cX8_keep 23 = .ok (.aload_n 0, 1) := by decide +kernel
theorem dX8_keep_24 : decode cX8_keep 24 = .ok (.getfield 135, 3) := by decide +kernel
theorem dX8_keep_27 : decode cX8_keep 27 = .ok (.invokevirtual 234, 3) := by decide +kernel
theorem dX8_keep_30 : decode cX8_keep 30 = .ok (.aload_n 0, 1) := by decide +kernel
theorem dX8_keep_31 : decode cX8_keep 31 = .ok (.getfield 135, 3) := by decide +kernel
theorem dX8_keep_34 : decode cX8_keep 34 = .ok (.ireturn, 1) := by decide +kernel
theorem dX8_back_0 : decode cX8_back 0 = .ok (.aload_n 0, 1) := by decide +kernel
theorem dX8_back_1 : decode cX8_back 1 = .ok (.getfield 135, 3) := by decide +kernel
theorem dX8_back_4 : decode cX8_back 4 = .ok (.ifCond .ne 6, 3) := by decide +kernel
theorem dX8_back_7 : decode cX8_back 7 = .ok (.bipush (-2), 2) := by decide +kernel
theorem dX8_back_9 : decode cX8_back 9 = .ok (.ireturn, 1) := by decide +kernel
theorem dX8_back_10 : decode cX8_back 10 = .ok (.aload_n 0, 1) := by decide +kernel
theorem dX8_back_11 : decode cX8_back 11 = .ok (.aload_n 0, 1) := by decide +kernel
theorem dX8_back_12 : decode cX8_back 12 = .ok (.getfield 135, 3) := by decide +kernel
theorem dX8_back_15 : decode cX8_back 15 = .ok (.iconst 0, 1) := by decide +kernel
theorem dX8_back_16 : decode cX8_back 16 = .ok (.invokevirtual 234, 3) := by decide +kernel
theorem dX8_back_19 : decode cX8_back 19 = .ok (.aload_n 0, 1) := by decide +kernel
theorem dX8_back_20 : decode cX8_back 20 = .ok (.dup, 1) := by decide +kernel
theorem dX8_back_21 : decode cX8_back 21 = .ok (.getfield 135, 3) := by decide +kernel
theorem dX8_back_24 : decode cX8_back 24 = .ok (.iconst 1, 1) := by decide +kernel
theorem dX8_back_25 : decode cX8_back 25 = .ok (.isub, 1) := by decide +kernel
theorem dX8_back_26 : decode cX8_back 26 = .ok (.putfield 135, 3) := by decide +kernel
theorem dX8_back_29 : decode cX8_back 29 = .ok (.aload_n 0, 1) := by decide +kernel
theorem dX8_back_30 : decode cX8_back 30 = .ok (.getfield 135, 3) := by decide +kernel
theorem dX8_back_33 : decode cX8_back 33 = .ok (.ireturn, 1) := by decide +kernel
theorem dX8_count_0 : decode cX8_count 0 = .ok (.iload_n 1, 1) := by decide +kernel
theorem dX8_count_1 : decode cX8_count 1 = .ok (.tableswitch 97 0 7 #[47, 54, 61, 68, 75, 82, 87, 92], 47) := by decide +kernel
theorem dX8_count_48 : decode cX8_count 48 = .ok (.aload_n 0, 1) := by decide +kernel
theorem dX8_count_49 : decode cX8_count 49 = .ok (.getfield 13, 3) := by decide +kernel
theorem dX8_count_52 : decode cX8_count 52 = .ok (.iconst 0, 1) := by decide +kernel
theorem dX8_count_53 : decode cX8_count 53 = .ok (.iaload, 1) := by decide +kernel
theorem dX8_count_54 : decode cX8_count 54 = .ok (.ireturn, 1) := by decide +kernel
theorem dX8_count_55 : decode cX8_count 55 = .ok (.aload_n 0, 1) := by decide +kernel
theorem dX8_count_56 : decode cX8_count 56 = .ok (.getfield 16, 3) := by decide +kernel
theorem dX8_count_59 : decode cX8_count 59 = .ok (.iconst 0, 1) := by decide +kernel
theorem dX8_count_60 : decode cX8_count 60 = .ok (.iaload, 1) := by decide +kernel
theorem dX8_count_61 : decode cX8_count 61 = .ok (.ireturn, 1) := by decide +kernel
theorem dX8_count_62 : decode cX8_count 62 = .ok (.aload_n 0, 1) := by decide +kernel
theorem dX8_count_63 : decode cX8_count 63 = .ok (.getfield 31, 3) := by decide +kernel
theorem dX8_count_66 : decode cX8_count 66 = .ok (.iconst 0, 1) := by decide +kernel
theorem dX8_count_67 : decode cX8_count 67 = .ok (.iaload, 1) := by decide +kernel
theorem dX8_count_68 : decode cX8_count 68 = .ok (.ireturn, 1) := by decide +kernel
theorem dX8_count_69 : decode cX8_count 69 = .ok (.aload_n 0, 1) := by decide +kernel
theorem dX8_count_70 : decode cX8_count 70 = .ok (.getfield 43, 3) := by decide +kernel
theorem dX8_count_73 : decode cX8_count 73 = .ok (.iconst 0, 1) := by decide +kernel
theorem dX8_count_74 : decode cX8_count 74 = .ok (.iaload, 1) := by decide +kernel
theorem dX8_count_75 : decode cX8_count 75 = .ok (.ireturn, 1) := by decide +kernel
theorem dX8_count_76 : decode cX8_count 76 = .ok (.aload_n 0, 1) := by decide +kernel
theorem dX8_count_77 : decode cX8_count 77 = .ok (.getfield 46, 3) := by decide +kernel
theorem dX8_count_80 : decode cX8_count 80 = .ok (.iconst 0, 1) := by decide +kernel
theorem dX8_count_81 : decode cX8_count 81 = .ok (.iaload, 1) := by decide +kernel
theorem dX8_count_82 : decode cX8_count 82 = .ok (.ireturn, 1) := by decide +kernel
theorem dX8_count_83 : decode cX8_count 83 = .ok (.aload_n 0, 1) := by decide +kernel
theorem dX8_count_84 : decode cX8_count 84 = .ok (.getfield 138, 3) := by decide +kernel
theorem dX8_count_87 : decode cX8_count 87 = .ok (.ireturn, 1) := by decide +kernel
theorem dX8_count_88 : decode cX8_count 88 = .ok (.aload_n 0, 1) := by decide +kernel
theorem dX8_count_89 : decode cX8_count 89 = .ok (.getfield 135, 3) := by decide +kernel
theorem dX8_count_92 : decode cX8_count 92 = .ok (.ireturn, 1) := by decide +kernel
theorem dX8_count_93 : decode cX8_count 93 = .ok (.aload_n 0, 1) := by decide +kernel
theorem dX8_count_94 : decode cX8_count 94 = .ok (.getfield 102, 3) := by decide +kernel
theorem dX8_count_97 : decode cX8_count 97 = .ok (.ireturn, 1) := by decide +kernel
theorem dX8_count_98 : decode cX8_count 98 = .ok (.iconst (-1), 1) := by decide +kernel
theorem dX8_count_99 : decode cX8_count 99 = .ok (.ireturn, 1) := by decide +kernel
theorem dL_law_0 : decode cL_law 0 = .ok (.new 7, 3) := by decide +kernel
theorem dL_law_3 : decode cL_law 3 = .ok (.dup, 1) := by decide +kernel
theorem dL_law_4 : decode cL_law 4 = .ok (.invokespecial 9, 3) := by decide +kernel
theorem dL_law_7 : decode cL_law 7 = .ok (.astore_n 1, 1) := by decide +kernel
theorem dL_law_8 : decode cL_law 8 = .ok (.new 10, 3) := by decide +kernel
theorem dL_law_11 : decode cL_law 11 = .ok (.dup, 1) := by decide +kernel
theorem dL_law_12 : decode cL_law 12 = .ok (.invokespecial 12, 3) := by decide +kernel
theorem dL_law_15 : decode cL_law 15 = .ok (.astore_n 2, 1) := by decide +kernel
theorem dL_law_16 : decode cL_law 16 = .ok (.iconst 0, 1) := by decide +kernel
theorem dL_law_17 : decode cL_law 17 = .ok (.istore_n 3, 1) := by decide +kernel
theorem dL_law_18 : decode cL_law 18 = .ok (.iload_n 3, 1) := by decide +kernel
theorem dL_law_19 : decode cL_law 19 = .ok (.aload_n 0, 1) := by decide +kernel
theorem dL_law_20 : decode cL_law 20 = .ok (.arraylength, 1) := by decide +kernel
theorem dL_law_21 : decode cL_law 21 = .ok (.iconst 5, 1) := by decide +kernel
theorem dL_law_22 : decode cL_law 22 = .ok (.isub, 1) := by decide +kernel
theorem dL_law_23 : decode cL_law 23 = .ok (.if_icmp .gt 989, 3) := by decide +kernel
theorem dL_law_26 : decode cL_law 26 = .ok (.aload_n 0, 1) := by decide +kernel
theorem dL_law_27 : decode cL_law 27 = .ok (.iload_n 3, 1) := by decide +kernel
theorem dL_law_28 : decode cL_law 28 = .ok (.iaload, 1) := by decide +kernel
theorem dL_law_29 : decode cL_law 29 = .ok (.bipush 31, 2) := by decide +kernel
theorem dL_law_31 : decode cL_law 31 = .ok (.iand, 1) := by decide +kernel
theorem dL_law_32 : decode cL_law 32 = .ok (.tableswitch 974 0 27 #[128, 191, 204, 217, 230, 263, 286, 299, 312, 345, 368, 431, 485, 498, 522, 575, 638, 671, 694, 767, 780, 793, 816, 849, 892, 925, 938, 951], 128) := by decide +kernel
theorem dL_law_160 : decode cL_law 160 = .ok (.aload_n 1, 1) := by decide +kernel
theorem dL_law_161 : decode cL_law 161 = .ok (.aload_n 0, 1) := by decide +kernel
theorem dL_law_162 : decode cL_law 162 = .ok (.iload_n 3, 1) := by decide +kernel
theorem dL_law_163 : decode cL_law 163 = .ok (.iconst 1, 1) := by decide +kernel
theorem dL_law_164 : decode cL_law 164 = .ok (.iadd, 1) := by decide +kernel
theorem dL_law_165 : decode cL_law 165 = .ok (.iaload, 1) := by decide +kernel
theorem dL_law_166 : decode cL_law 166 = .ok (.aload_n 0, 1) := by decide +kernel
theorem dL_law_167 : decode cL_law 167 = .ok (.iload_n 3, 1) := by decide +kernel
theorem dL_law_168 : decode cL_law 168 = .ok (.iconst 2, 1) := by decide +kernel
theorem dL_law_169 : decode cL_law 169 = .ok (.iadd, 1) := by decide +kernel
theorem dL_law_170 : decode cL_law 170 = .ok (.iaload, 1) := by decide +kernel
theorem dL_law_171 : decode cL_law 171 = .ok (.i2l, 1) := by decide +kernel
theorem dL_law_172 : decode cL_law 172 = .ok (.bipush 32, 2) := by decide +kernel
theorem dL_law_174 : decode cL_law 174 = .ok (.lshl, 1) := by decide +kernel
theorem dL_law_175 : decode cL_law 175 = .ok (.aload_n 0, 1) := by decide +kernel
theorem dL_law_176 : decode cL_law 176 = .ok (.iload_n 3, 1) := by decide +kernel
theorem dL_law_177 : decode cL_law 177 = .ok (.iconst 3, 1) := by decide +kernel
theorem dL_law_178 : decode cL_law 178 = .ok (.iadd, 1) := by decide +kernel
theorem dL_law_179 : decode cL_law 179 = .ok (.iaload, 1) := by decide +kernel
theorem dL_law_180 : decode cL_law 180 = .ok (.i2l, 1) := by decide +kernel
theorem dL_law_181 : decode cL_law 181 = .ok (.ldc2_w 13, 3) := by decide +kernel
theorem dL_law_184 : decode cL_law 184 = .ok (.land, 1) := by decide +kernel
theorem dL_law_185 : decode cL_law 185 = .ok (.lor, 1) := by decide +kernel
theorem dL_law_186 : decode cL_law 186 = .ok (.invokevirtual 15, 3) := by decide +kernel
theorem dL_law_189 : decode cL_law 189 = .ok (.aload_n 2, 1) := by decide +kernel
theorem dL_law_190 : decode cL_law 190 = .ok (.aload_n 0, 1) := by decide +kernel
theorem dL_law_191 : decode cL_law 191 = .ok (.iload_n 3, 1) := by decide +kernel
theorem dL_law_192 : decode cL_law 192 = .ok (.iconst 1, 1) := by decide +kernel
theorem dL_law_193 : decode cL_law 193 = .ok (.iadd, 1) := by decide +kernel
theorem dL_law_194 : decode cL_law 194 = .ok (.iaload, 1) := by decide +kernel
theorem dL_law_195 : decode cL_law 195 = .ok (.aload_n 0, 1) := by decide +kernel
theorem dL_law_196 : decode cL_law 196 = .ok (.iload_n 3, 1) := by decide +kernel
theorem dL_law_197 : decode cL_law 197 = .ok (.iconst 2, 1) := by decide +kernel
theorem dL_law_198 : decode cL_law 198 = .ok (.iadd, 1) := by decide +kernel
theorem dL_law_199 : decode cL_law 199 = .ok (.iaload, 1) := by decide +kernel
theorem dL_law_200 : decode cL_law 200 = .ok (.i2l, 1) := by decide +kernel
theorem dL_law_201 : decode cL_law 201 = .ok (.bipush 32, 2) := by decide +kernel
theorem dL_law_203 : decode cL_law 203 = .ok (.lshl, 1) := by decide +kernel
theorem dL_law_204 : decode cL_law 204 = .ok (.aload_n 0, 1) := by decide +kernel
theorem dL_law_205 : decode cL_law 205 = .ok (.iload_n 3, 1) := by decide +kernel
theorem dL_law_206 : decode cL_law 206 = .ok (.iconst 3, 1) := by decide +kernel
theorem dL_law_207 : decode cL_law 207 = .ok (.iadd, 1) := by decide +kernel
theorem dL_law_208 : decode cL_law 208 = .ok (.iaload, 1) := by decide +kernel
theorem dL_law_209 : decode cL_law 209 = .ok (.i2l, 1) := by decide +kernel
theorem dL_law_210 : decode cL_law 210 = .ok (.ldc2_w 13, 3) := by decide +kernel
theorem dL_law_213 : decode cL_law 213 = .ok (.land, 1) := by decide +kernel
theorem dL_law_214 : decode cL_law 214 = .ok (.lor, 1) := by decide +kernel
theorem dL_law_215 : decode cL_law 215 = .ok (.invokevirtual 19, 3) := by decide +kernel
theorem dL_law_218 : decode cL_law 218 = .ok (.if_icmp .eq 788, 3) := by decide +kernel
theorem dL_law_221 : decode cL_law 221 = .ok (.iconst 0, 1) := by decide +kernel
theorem dL_law_222 : decode cL_law 222 = .ok (.ireturn, 1) := by decide +kernel
theorem dL_law_223 : decode cL_law 223 = .ok (.aload_n 1, 1) := by decide +kernel
theorem dL_law_224 : decode cL_law 224 = .ok (.invokevirtual 20, 3) := by decide +kernel
theorem dL_law_227 : decode cL_law 227 = .ok (.aload_n 2, 1) := by decide +kernel
theorem dL_law_228 : decode cL_law 228 = .ok (.invokevirtual 24, 3) := by decide +kernel
theorem dL_law_231 : decode cL_law 231 = .ok (.if_icmp .eq 775, 3) := by decide +kernel
theorem dL_law_234 : decode cL_law 234 = .ok (.iconst 0, 1) := by decide +kernel
theorem dL_law_235 : decode cL_law 235 = .ok (.ireturn, 1) := by decide +kernel
theorem dL_law_236 : decode cL_law 236 = .ok (.aload_n 1, 1) := by decide +kernel
theorem dL_law_237 : decode cL_law 237 = .ok (.invokevirtual 25, 3) := by decide +kernel
theorem dL_law_240 : decode cL_law 240 = .ok (.aload_n 2, 1) := by decide +kernel
theorem dL_law_241 : decode cL_law 241 = .ok (.invokevirtual 28, 3) := by decide +kernel
theorem dL_law_244 : decode cL_law 244 = .ok (.if_icmp .eq 762, 3) := by decide +kernel
theorem dL_law_247 : decode cL_law 247 = .ok (.iconst 0, 1) := by decide +kernel
theorem dL_law_248 : decode cL_law 248 = .ok (.ireturn, 1) := by decide +kernel
theorem dL_law_249 : decode cL_law 249 = .ok (.aload_n 1, 1) := by decide +kernel
theorem dL_law_250 : decode cL_law 250 = .ok (.invokevirtual 29, 3) := by decide +kernel
theorem dL_law_253 : decode cL_law 253 = .ok (.aload_n 2, 1) := by decide +kernel
theorem dL_law_254 : decode cL_law 254 = .ok (.invokevirtual 32, 3) := by decide +kernel
theorem dL_law_257 : decode cL_law 257 = .ok (.if_icmp .eq 749, 3) := by decide +kernel
theorem dL_law_260 : decode cL_law 260 = .ok (.iconst 0, 1) := by decide +kernel
theorem dL_law_261 : decode cL_law 261 = .ok (.ireturn, 1) := by decide +kernel
theorem dL_law_262 : decode cL_law 262 = .ok (.aload_n 1, 1) := by decide +kernel
theorem dL_law_263 : decode cL_law 263 = .ok (.aload_n 0, 1) := by decide +kernel
theorem dL_law_264 : decode cL_law 264 = .ok (.iload_n 3, 1) := by decide +kernel
theorem dL_law_265 : decode cL_law 265 = .ok (.iconst 1, 1) := by decide +kernel
theorem dL_law_266 : decode cL_law 266 = .ok (.iadd, 1) := by decide +kernel
theorem dL_law_267 : decode cL_law 267 = .ok (.iaload, 1) := by decide +kernel
theorem dL_law_268 : decode cL_law 268 = .ok (.aload_n 0, 1) := by decide +kernel
theorem dL_law_269 : decode cL_law 269 = .ok (.iload_n 3, 1) := by decide +kernel
theorem dL_law_270 : decode cL_law 270 = .ok (.iconst 2, 1) := by decide +kernel
theorem dL_law_271 : decode cL_law 271 = .ok (.iadd, 1) := by decide +kernel
theorem dL_law_272 : decode cL_law 272 = .ok (.iaload, 1) := by decide +kernel
theorem dL_law_273 : decode cL_law 273 = .ok (.invokevirtual 33, 3) := by decide +kernel
theorem dL_law_276 : decode cL_law 276 = .ok (.aload_n 2, 1) := by decide +kernel
theorem dL_law_277 : decode cL_law 277 = .ok (.aload_n 0, 1) := by decide +kernel
theorem dL_law_278 : decode cL_law 278 = .ok (.iload_n 3, 1) := by decide +kernel
theorem dL_law_279 : decode cL_law 279 = .ok (.iconst 1, 1) := by decide +kernel
theorem dL_law_280 : decode cL_law 280 = .ok (.iadd, 1) := by decide +kernel
theorem dL_law_281 : decode cL_law 281 = .ok (.iaload, 1) := by decide +kernel
theorem dL_law_282 : decode cL_law 282 = .ok (.aload_n 0, 1) := by decide +kernel
theorem dL_law_283 : decode cL_law 283 = .ok (.iload_n 3, 1) := by decide +kernel
theorem dL_law_284 : decode cL_law 284 = .ok (.iconst 2, 1) := by decide +kernel
theorem dL_law_285 : decode cL_law 285 = .ok (.iadd, 1) := by decide +kernel
theorem dL_law_286 : decode cL_law 286 = .ok (.iaload, 1) := by decide +kernel
theorem dL_law_287 : decode cL_law 287 = .ok (.invokevirtual 37, 3) := by decide +kernel
theorem dL_law_290 : decode cL_law 290 = .ok (.if_icmp .eq 716, 3) := by decide +kernel
theorem dL_law_293 : decode cL_law 293 = .ok (.iconst 0, 1) := by decide +kernel
theorem dL_law_294 : decode cL_law 294 = .ok (.ireturn, 1) := by decide +kernel
theorem dL_law_295 : decode cL_law 295 = .ok (.aload_n 1, 1) := by decide +kernel
theorem dL_law_296 : decode cL_law 296 = .ok (.aload_n 0, 1) := by decide +kernel
theorem dL_law_297 : decode cL_law 297 = .ok (.iload_n 3, 1) := by decide +kernel
theorem dL_law_298 : decode cL_law 298 = .ok (.iconst 1, 1) := by decide +kernel
theorem dL_law_299 : decode cL_law 299 = .ok (.iadd, 1) := by decide +kernel
theorem dL_law_300 : decode cL_law 300 = .ok (.iaload, 1) := by decide +kernel
theorem dL_law_301 : decode cL_law 301 = .ok (.invokevirtual 38, 3) := by decide +kernel
theorem dL_law_304 : decode cL_law 304 = .ok (.aload_n 2, 1) := by decide +kernel
theorem dL_law_305 : decode cL_law 305 = .ok (.aload_n 0, 1) := by decide +kernel
theorem dL_law_306 : decode cL_law 306 = .ok (.iload_n 3, 1) := by decide +kernel
theorem dL_law_307 : decode cL_law 307 = .ok (.iconst 1, 1) := by decide +kernel
theorem dL_law_308 : decode cL_law 308 = .ok (.iadd, 1) := by decide +kernel
theorem dL_law_309 : decode cL_law 309 = .ok (.iaload, 1) := by decide +kernel
theorem dL_law_310 : decode cL_law 310 = .ok (.invokevirtual 42, 3) := by decide +kernel
theorem dL_law_313 : decode cL_law 313 = .ok (.if_icmp .eq 693, 3) := by decide +kernel
theorem dL_law_316 : decode cL_law 316 = .ok (.iconst 0, 1) := by decide +kernel
theorem dL_law_317 : decode cL_law 317 = .ok (.ireturn, 1) := by decide +kernel
theorem dL_law_318 : decode cL_law 318 = .ok (.aload_n 1, 1) := by decide +kernel
theorem dL_law_319 : decode cL_law 319 = .ok (.invokevirtual 43, 3) := by decide +kernel
theorem dL_law_322 : decode cL_law 322 = .ok (.aload_n 2, 1) := by decide +kernel
theorem dL_law_323 : decode cL_law 323 = .ok (.invokevirtual 46, 3) := by decide +kernel
theorem dL_law_326 : decode cL_law 326 = .ok (.if_icmp .eq 680, 3) := by decide +kernel
theorem dL_law_329 : decode cL_law 329 = .ok (.iconst 0, 1) := by decide +kernel
theorem dL_law_330 : decode cL_law 330 = .ok (.ireturn, 1) := by decide +kernel
theorem dL_law_331 : decode cL_law 331 = .ok (.aload_n 1, 1) := by decide +kernel
theorem dL_law_332 : decode cL_law 332 = .ok (.invokevirtual 47, 3) := by decide +kernel
theorem dL_law_335 : decode cL_law 335 = .ok (.aload_n 2, 1) := by decide +kernel
theorem dL_law_336 : decode cL_law 336 = .ok (.invokevirtual 50, 3) := by decide +kernel
theorem dL_law_339 : decode cL_law 339 = .ok (.if_icmp .eq 667, 3) := by decide +kernel
theorem dL_law_342 : decode cL_law 342 = .ok (.iconst 0, 1) := by decide +kernel
theorem dL_law_343 : decode cL_law 343 = .ok (.ireturn, 1) := by decide +kernel
theorem dL_law_344 : decode cL_law 344 = .ok (.aload_n 1, 1) := by decide +kernel
theorem dL_law_345 : decode cL_law 345 = .ok (.aload_n 0, 1) := by decide +kernel
theorem dL_law_346 : decode cL_law 346 = .ok (.iload_n 3, 1) := by decide +kernel
theorem dL_law_347 : decode cL_law 347 = .ok (.iconst 1, 1) := by decide +kernel
theorem dL_law_348 : decode cL_law 348 = .ok (.iadd, 1) := by decide +kernel
theorem dL_law_349 : decode cL_law 349 = .ok (.iaload, 1) := by decide +kernel
theorem dL_law_350 : decode cL_law 350 = .ok (.aload_n 0, 1) := by decide +kernel
theorem dL_law_351 : decode cL_law 351 = .ok (.iload_n 3, 1) := by decide +kernel
theorem dL_law_352 : decode cL_law 352 = .ok (.iconst 2, 1) := by decide +kernel
theorem dL_law_353 : decode cL_law 353 = .ok (.iadd, 1) := by decide +kernel
theorem dL_law_354 : decode cL_law 354 = .ok (.iaload, 1) := by decide +kernel
theorem dL_law_355 : decode cL_law 355 = .ok (.invokevirtual 51, 3) := by decide +kernel
theorem dL_law_358 : decode cL_law 358 = .ok (.aload_n 2, 1) := by decide +kernel
theorem dL_law_359 : decode cL_law 359 = .ok (.aload_n 0, 1) := by decide +kernel
theorem dL_law_360 : decode cL_law 360 = .ok (.iload_n 3, 1) := by decide +kernel
theorem dL_law_361 : decode cL_law 361 = .ok (.iconst 1, 1) := by decide +kernel
theorem dL_law_362 : decode cL_law 362 = .ok (.iadd, 1) := by decide +kernel
theorem dL_law_363 : decode cL_law 363 = .ok (.iaload, 1) := by decide +kernel
theorem dL_law_364 : decode cL_law 364 = .ok (.aload_n 0, 1) := by decide +kernel
theorem dL_law_365 : decode cL_law 365 = .ok (.iload_n 3, 1) := by decide +kernel
theorem dL_law_366 : decode cL_law 366 = .ok (.iconst 2, 1) := by decide +kernel
theorem dL_law_367 : decode cL_law 367 = .ok (.iadd, 1) := by decide +kernel
theorem dL_law_368 : decode cL_law 368 = .ok (.iaload, 1) := by decide +kernel
theorem dL_law_369 : decode cL_law 369 = .ok (.invokevirtual 54, 3) := by decide +kernel
theorem dL_law_372 : decode cL_law 372 = .ok (.if_icmp .eq 634, 3) := by decide +kernel
theorem dL_law_375 : decode cL_law 375 = .ok (.iconst 0, 1) := by decide +kernel
theorem dL_law_376 : decode cL_law 376 = .ok (.ireturn, 1) := by decide +kernel
theorem dL_law_377 : decode cL_law 377 = .ok (.aload_n 1, 1) := by decide +kernel
theorem dL_law_378 : decode cL_law 378 = .ok (.aload_n 0, 1) := by decide +kernel
theorem dL_law_379 : decode cL_law 379 = .ok (.iload_n 3, 1) := by decide +kernel
theorem dL_law_380 : decode cL_law 380 = .ok (.iconst 1, 1) := by decide +kernel
theorem dL_law_381 : decode cL_law 381 = .ok (.iadd, 1) := by decide +kernel
theorem dL_law_382 : decode cL_law 382 = .ok (.iaload, 1) := by decide +kernel
theorem dL_law_383 : decode cL_law 383 = .ok (.invokevirtual 55, 3) := by decide +kernel
theorem dL_law_386 : decode cL_law 386 = .ok (.aload_n 2, 1) := by decide +kernel
theorem dL_law_387 : decode cL_law 387 = .ok (.aload_n 0, 1) := by decide +kernel
theorem dL_law_388 : decode cL_law 388 = .ok (.iload_n 3, 1) := by decide +kernel
theorem dL_law_389 : decode cL_law 389 = .ok (.iconst 1, 1) := by decide +kernel
theorem dL_law_390 : decode cL_law 390 = .ok (.iadd, 1) := by decide +kernel
theorem dL_law_391 : decode cL_law 391 = .ok (.iaload, 1) := by decide +kernel
theorem dL_law_392 : decode cL_law 392 = .ok (.invokevirtual 58, 3) := by decide +kernel
theorem dL_law_395 : decode cL_law 395 = .ok (.if_icmp .eq 611, 3) := by decide +kernel
theorem dL_law_398 : decode cL_law 398 = .ok (.iconst 0, 1) := by decide +kernel
theorem dL_law_399 : decode cL_law 399 = .ok (.ireturn, 1) := by decide +kernel
theorem dL_law_400 : decode cL_law 400 = .ok (.aload_n 1, 1) := by decide +kernel
theorem dL_law_401 : decode cL_law 401 = .ok (.aload_n 0, 1) := by decide +kernel
theorem dL_law_402 : decode cL_law 402 = .ok (.iload_n 3, 1) := by decide +kernel
theorem dL_law_403 : decode cL_law 403 = .ok (.iconst 1, 1) := by decide +kernel
theorem dL_law_404 : decode cL_law 404 = .ok (.iadd, 1) := by decide +kernel
theorem dL_law_405 : decode cL_law 405 = .ok (.iaload, 1) := by decide +kernel
theorem dL_law_406 : decode cL_law 406 = .ok (.i2l, 1) := by decide +kernel
theorem dL_law_407 : decode cL_law 407 = .ok (.bipush 32, 2) := by decide +kernel
theorem dL_law_409 : decode cL_law 409 = .ok (.lshl, 1) := by decide +kernel
theorem dL_law_410 : decode cL_law 410 = .ok (.aload_n 0, 1) := by decide +kernel
theorem dL_law_411 : decode cL_law 411 = .ok (.iload_n 3, 1) := by decide +kernel
theorem dL_law_412 : decode cL_law 412 = .ok (.iconst 2, 1) := by decide +kernel
theorem dL_law_413 : decode cL_law 413 = .ok (.iadd, 1) := by decide +kernel
theorem dL_law_414 : decode cL_law 414 = .ok (.iaload, 1) := by decide +kernel
theorem dL_law_415 : decode cL_law 415 = .ok (.i2l, 1) := by decide +kernel
theorem dL_law_416 : decode cL_law 416 = .ok (.ldc2_w 13, 3) := by decide +kernel
theorem dL_law_419 : decode cL_law 419 = .ok (.land, 1) := by decide +kernel
theorem dL_law_420 : decode cL_law 420 = .ok (.lor, 1) := by decide +kernel
theorem dL_law_421 : decode cL_law 421 = .ok (.aload_n 0, 1) := by decide +kernel
theorem dL_law_422 : decode cL_law 422 = .ok (.iload_n 3, 1) := by decide +kernel
theorem dL_law_423 : decode cL_law 423 = .ok (.iconst 3, 1) := by decide +kernel
theorem dL_law_424 : decode cL_law 424 = .ok (.iadd, 1) := by decide +kernel
theorem dL_law_425 : decode cL_law 425 = .ok (.iaload, 1) := by decide +kernel
theorem dL_law_426 : decode cL_law 426 = .ok (.invokevirtual 59, 3) := by decide +kernel
theorem dL_law_429 : decode cL_law 429 = .ok (.aload_n 2, 1) := by decide +kernel
theorem dL_law_430 : decode cL_law 430 = .ok (.aload_n 0, 1) := by decide +kernel
theorem dL_law_431 : decode cL_law 431 = .ok (.iload_n 3, 1) := by decide +kernel
theorem dL_law_432 : decode cL_law 432 = .ok (.iconst 1, 1) := by decide +kernel
theorem dL_law_433 : decode cL_law 433 = .ok (.iadd, 1) := by decide +kernel
theorem dL_law_434 : decode cL_law 434 = .ok (.iaload, 1) := by decide +kernel
theorem dL_law_435 : decode cL_law 435 = .ok (.i2l, 1) := by decide +kernel
theorem dL_law_436 : decode cL_law 436 = .ok (.bipush 32, 2) := by decide +kernel
theorem dL_law_438 : decode cL_law 438 = .ok (.lshl, 1) := by decide +kernel
theorem dL_law_439 : decode cL_law 439 = .ok (.aload_n 0, 1) := by decide +kernel
theorem dL_law_440 : decode cL_law 440 = .ok (.iload_n 3, 1) := by decide +kernel
theorem dL_law_441 : decode cL_law 441 = .ok (.iconst 2, 1) := by decide +kernel
theorem dL_law_442 : decode cL_law 442 = .ok (.iadd, 1) := by decide +kernel
theorem dL_law_443 : decode cL_law 443 = .ok (.iaload, 1) := by decide +kernel
theorem dL_law_444 : decode cL_law 444 = .ok (.i2l, 1) := by decide +kernel
theorem dL_law_445 : decode cL_law 445 = .ok (.ldc2_w 13, 3) := by decide +kernel
theorem dL_law_448 : decode cL_law 448 = .ok (.land, 1) := by decide +kernel
theorem dL_law_449 : decode cL_law 449 = .ok (.lor, 1) := by decide +kernel
theorem dL_law_450 : decode cL_law 450 = .ok (.aload_n 0, 1) := by decide +kernel
theorem dL_law_451 : decode cL_law 451 = .ok (.iload_n 3, 1) := by decide +kernel
theorem dL_law_452 : decode cL_law 452 = .ok (.iconst 3, 1) := by decide +kernel
theorem dL_law_453 : decode cL_law 453 = .ok (.iadd, 1) := by decide +kernel
theorem dL_law_454 : decode cL_law 454 = .ok (.iaload, 1) := by decide +kernel
theorem dL_law_455 : decode cL_law 455 = .ok (.invokevirtual 63, 3) := by decide +kernel
theorem dL_law_458 : decode cL_law 458 = .ok (.if_icmp .eq 548, 3) := by decide +kernel
theorem dL_law_461 : decode cL_law 461 = .ok (.iconst 0, 1) := by decide +kernel
theorem dL_law_462 : decode cL_law 462 = .ok (.ireturn, 1) := by decide +kernel
theorem dL_law_463 : decode cL_law 463 = .ok (.aload_n 1, 1) := by decide +kernel
theorem dL_law_464 : decode cL_law 464 = .ok (.aload_n 0, 1) := by decide +kernel
theorem dL_law_465 : decode cL_law 465 = .ok (.iload_n 3, 1) := by decide +kernel
theorem dL_law_466 : decode cL_law 466 = .ok (.iconst 1, 1) := by decide +kernel
theorem dL_law_467 : decode cL_law 467 = .ok (.iadd, 1) := by decide +kernel
theorem dL_law_468 : decode cL_law 468 = .ok (.iaload, 1) := by decide +kernel
theorem dL_law_469 : decode cL_law 469 = .ok (.i2l, 1) := by decide +kernel
theorem dL_law_470 : decode cL_law 470 = .ok (.bipush 32, 2) := by decide +kernel
theorem dL_law_472 : decode cL_law 472 = .ok (.lshl, 1) := by decide +kernel
theorem dL_law_473 : decode cL_law 473 = .ok (.aload_n 0, 1) := by decide +kernel
theorem dL_law_474 : decode cL_law 474 = .ok (.iload_n 3, 1) := by decide +kernel
theorem dL_law_475 : decode cL_law 475 = .ok (.iconst 2, 1) := by decide +kernel
theorem dL_law_476 : decode cL_law 476 = .ok (.iadd, 1) := by decide +kernel
theorem dL_law_477 : decode cL_law 477 = .ok (.iaload, 1) := by decide +kernel
theorem dL_law_478 : decode cL_law 478 = .ok (.i2l, 1) := by decide +kernel
theorem dL_law_479 : decode cL_law 479 = .ok (.ldc2_w 13, 3) := by decide +kernel
theorem dL_law_482 : decode cL_law 482 = .ok (.land, 1) := by decide +kernel
theorem dL_law_483 : decode cL_law 483 = .ok (.lor, 1) := by decide +kernel
theorem dL_law_484 : decode cL_law 484 = .ok (.invokevirtual 64, 3) := by decide +kernel
theorem dL_law_487 : decode cL_law 487 = .ok (.aload_n 2, 1) := by decide +kernel
theorem dL_law_488 : decode cL_law 488 = .ok (.aload_n 0, 1) := by decide +kernel
theorem dL_law_489 : decode cL_law 489 = .ok (.iload_n 3, 1) := by decide +kernel
theorem dL_law_490 : decode cL_law 490 = .ok (.iconst 1, 1) := by decide +kernel
theorem dL_law_491 : decode cL_law 491 = .ok (.iadd, 1) := by decide +kernel
theorem dL_law_492 : decode cL_law 492 = .ok (.iaload, 1) := by decide +kernel
theorem dL_law_493 : decode cL_law 493 = .ok (.i2l, 1) := by decide +kernel
theorem dL_law_494 : decode cL_law 494 = .ok (.bipush 32, 2) := by decide +kernel
theorem dL_law_496 : decode cL_law 496 = .ok (.lshl, 1) := by decide +kernel
theorem dL_law_497 : decode cL_law 497 = .ok (.aload_n 0, 1) := by decide +kernel
theorem dL_law_498 : decode cL_law 498 = .ok (.iload_n 3, 1) := by decide +kernel
theorem dL_law_499 : decode cL_law 499 = .ok (.iconst 2, 1) := by decide +kernel
theorem dL_law_500 : decode cL_law 500 = .ok (.iadd, 1) := by decide +kernel
theorem dL_law_501 : decode cL_law 501 = .ok (.iaload, 1) := by decide +kernel
theorem dL_law_502 : decode cL_law 502 = .ok (.i2l, 1) := by decide +kernel
theorem dL_law_503 : decode cL_law 503 = .ok (.ldc2_w 13, 3) := by decide +kernel
theorem dL_law_506 : decode cL_law 506 = .ok (.land, 1) := by decide +kernel
theorem dL_law_507 : decode cL_law 507 = .ok (.lor, 1) := by decide +kernel
theorem dL_law_508 : decode cL_law 508 = .ok (.invokevirtual 68, 3) := by decide +kernel
theorem dL_law_511 : decode cL_law 511 = .ok (.lcmp, 1) := by decide +kernel
theorem dL_law_512 : decode cL_law 512 = .ok (.ifCond .eq 494, 3) := by decide +kernel
theorem dL_law_515 : decode cL_law 515 = .ok (.iconst 0, 1) := by decide +kernel
theorem dL_law_516 : decode cL_law 516 = .ok (.ireturn, 1) := by decide +kernel
theorem dL_law_517 : decode cL_law 517 = .ok (.aload_n 1, 1) := by decide +kernel
theorem dL_law_518 : decode cL_law 518 = .ok (.invokevirtual 69, 3) := by decide +kernel
theorem dL_law_521 : decode cL_law 521 = .ok (.aload_n 2, 1) := by decide +kernel
theorem dL_law_522 : decode cL_law 522 = .ok (.invokevirtual 72, 3) := by decide +kernel
theorem dL_law_525 : decode cL_law 525 = .ok (.if_icmp .eq 481, 3) := by decide +kernel
theorem dL_law_528 : decode cL_law 528 = .ok (.iconst 0, 1) := by decide +kernel
theorem dL_law_529 : decode cL_law 529 = .ok (.ireturn, 1) := by decide +kernel
theorem dL_law_530 : decode cL_law 530 = .ok (.aload_n 1, 1) := by decide +kernel
theorem dL_law_531 : decode cL_law 531 = .ok (.aload_n 0, 1) := by decide +kernel
theorem dL_law_532 : decode cL_law 532 = .ok (.iload_n 3, 1) := by decide +kernel
theorem dL_law_533 : decode cL_law 533 = .ok (.iconst 1, 1) := by decide +kernel
theorem dL_law_534 : decode cL_law 534 = .ok (.iadd, 1) := by decide +kernel
theorem dL_law_535 : decode cL_law 535 = .ok (.iaload, 1) := by decide +kernel
theorem dL_law_536 : decode cL_law 536 = .ok (.invokevirtual 73, 3) := by decide +kernel
theorem dL_law_539 : decode cL_law 539 = .ok (.aload_n 2, 1) := by decide +kernel
theorem dL_law_540 : decode cL_law 540 = .ok (.aload_n 0, 1) := by decide +kernel
theorem dL_law_541 : decode cL_law 541 = .ok (.iload_n 3, 1) := by decide +kernel
theorem dL_law_542 : decode cL_law 542 = .ok (.iconst 1, 1) := by decide +kernel
theorem dL_law_543 : decode cL_law 543 = .ok (.iadd, 1) := by decide +kernel
theorem dL_law_544 : decode cL_law 544 = .ok (.iaload, 1) := by decide +kernel
theorem dL_law_545 : decode cL_law 545 = .ok (.invokevirtual 77, 3) := by decide +kernel
theorem dL_law_548 : decode cL_law 548 = .ok (.lcmp, 1) := by decide +kernel
theorem dL_law_549 : decode cL_law 549 = .ok (.ifCond .eq 457, 3) := by decide +kernel
theorem dL_law_552 : decode cL_law 552 = .ok (.iconst 0, 1) := by decide +kernel
theorem dL_law_553 : decode cL_law 553 = .ok (.ireturn, 1) := by decide +kernel
theorem dL_law_554 : decode cL_law 554 = .ok (.aload_n 1, 1) := by decide +kernel
theorem dL_law_555 : decode cL_law 555 = .ok (.aload_n 0, 1) := by decide +kernel
theorem dL_law_556 : decode cL_law 556 = .ok (.iload_n 3, 1) := by decide +kernel
theorem dL_law_557 : decode cL_law 557 = .ok (.iconst 1, 1) := by decide +kernel
theorem dL_law_558 : decode cL_law 558 = .ok (.iadd, 1) := by decide +kernel
theorem dL_law_559 : decode cL_law 559 = .ok (.iaload, 1) := by decide +kernel
theorem dL_law_560 : decode cL_law 560 = .ok (.i2l, 1) := by decide +kernel
theorem dL_law_561 : decode cL_law 561 = .ok (.bipush 32, 2) := by decide +kernel
theorem dL_law_563 : decode cL_law 563 = .ok (.lshl, 1) := by decide +kernel
theorem dL_law_564 : decode cL_law 564 = .ok (.aload_n 0, 1) := by decide +kernel
theorem dL_law_565 : decode cL_law 565 = .ok (.iload_n 3, 1) := by decide +kernel
theorem dL_law_566 : decode cL_law 566 = .ok (.iconst 2, 1) := by decide +kernel
theorem dL_law_567 : decode cL_law 567 = .ok (.iadd, 1) := by decide +kernel
theorem dL_law_568 : decode cL_law 568 = .ok (.iaload, 1) := by decide +kernel
theorem dL_law_569 : decode cL_law 569 = .ok (.i2l, 1) := by decide +kernel
theorem dL_law_570 : decode cL_law 570 = .ok (.ldc2_w 13, 3) := by decide +kernel
theorem dL_law_573 : decode cL_law 573 = .ok (.land, 1) := by decide +kernel
theorem dL_law_574 : decode cL_law 574 = .ok (.lor, 1) := by decide +kernel
theorem dL_law_575 : decode cL_law 575 = .ok (.invokevirtual 78, 3) := by decide +kernel
theorem dL_law_578 : decode cL_law 578 = .ok (.aload_n 2, 1) := by decide +kernel
theorem dL_law_579 : decode cL_law 579 = .ok (.aload_n 0, 1) := by decide +kernel
theorem dL_law_580 : decode cL_law 580 = .ok (.iload_n 3, 1) := by decide +kernel
theorem dL_law_581 : decode cL_law 581 = .ok (.iconst 1, 1) := by decide +kernel
theorem dL_law_582 : decode cL_law 582 = .ok (.iadd, 1) := by decide +kernel
theorem dL_law_583 : decode cL_law 583 = .ok (.iaload, 1) := by decide +kernel
theorem dL_law_584 : decode cL_law 584 = .ok (.i2l, 1) := by decide +kernel
theorem dL_law_585 : decode cL_law 585 = .ok (.bipush 32, 2) := by decide +kernel
theorem dL_law_587 : decode cL_law 587 = .ok (.lshl, 1) := by decide +kernel
theorem dL_law_588 : decode cL_law 588 = .ok (.aload_n 0, 1) := by decide +kernel
theorem dL_law_589 : decode cL_law 589 = .ok (.iload_n 3, 1) := by decide +kernel
theorem dL_law_590 : decode cL_law 590 = .ok (.iconst 2, 1) := by decide +kernel
theorem dL_law_591 : decode cL_law 591 = .ok (.iadd, 1) := by decide +kernel
theorem dL_law_592 : decode cL_law 592 = .ok (.iaload, 1) := by decide +kernel
theorem dL_law_593 : decode cL_law 593 = .ok (.i2l, 1) := by decide +kernel
theorem dL_law_594 : decode cL_law 594 = .ok (.ldc2_w 13, 3) := by decide +kernel
theorem dL_law_597 : decode cL_law 597 = .ok (.land, 1) := by decide +kernel
theorem dL_law_598 : decode cL_law 598 = .ok (.lor, 1) := by decide +kernel
theorem dL_law_599 : decode cL_law 599 = .ok (.invokevirtual 82, 3) := by decide +kernel
theorem dL_law_602 : decode cL_law 602 = .ok (.if_icmp .eq 404, 3) := by decide +kernel
theorem dL_law_605 : decode cL_law 605 = .ok (.iconst 0, 1) := by decide +kernel
theorem dL_law_606 : decode cL_law 606 = .ok (.ireturn, 1) := by decide +kernel
theorem dL_law_607 : decode cL_law 607 = .ok (.aload_n 1, 1) := by decide +kernel
theorem dL_law_608 : decode cL_law 608 = .ok (.aload_n 0, 1) := by decide +kernel
theorem dL_law_609 : decode cL_law 609 = .ok (.iload_n 3, 1) := by decide +kernel
theorem dL_law_610 : decode cL_law 610 = .ok (.iconst 1, 1) := by decide +kernel
theorem dL_law_611 : decode cL_law 611 = .ok (.iadd, 1) := by decide +kernel
theorem dL_law_612 : decode cL_law 612 = .ok (.iaload, 1) := by decide +kernel
theorem dL_law_613 : decode cL_law 613 = .ok (.i2l, 1) := by decide +kernel
theorem dL_law_614 : decode cL_law 614 = .ok (.bipush 32, 2) := by decide +kernel
theorem dL_law_616 : decode cL_law 616 = .ok (.lshl, 1) := by decide +kernel
theorem dL_law_617 : decode cL_law 617 = .ok (.aload_n 0, 1) := by decide +kernel
theorem dL_law_618 : decode cL_law 618 = .ok (.iload_n 3, 1) := by decide +kernel
theorem dL_law_619 : decode cL_law 619 = .ok (.iconst 2, 1) := by decide +kernel
theorem dL_law_620 : decode cL_law 620 = .ok (.iadd, 1) := by decide +kernel
theorem dL_law_621 : decode cL_law 621 = .ok (.iaload, 1) := by decide +kernel
theorem dL_law_622 : decode cL_law 622 = .ok (.i2l, 1) := by decide +kernel
theorem dL_law_623 : decode cL_law 623 = .ok (.ldc2_w 13, 3) := by decide +kernel
theorem dL_law_626 : decode cL_law 626 = .ok (.land, 1) := by decide +kernel
theorem dL_law_627 : decode cL_law 627 = .ok (.lor, 1) := by decide +kernel
theorem dL_law_628 : decode cL_law 628 = .ok (.aload_n 0, 1) := by decide +kernel
theorem dL_law_629 : decode cL_law 629 = .ok (.iload_n 3, 1) := by decide +kernel
theorem dL_law_630 : decode cL_law 630 = .ok (.iconst 3, 1) := by decide +kernel
theorem dL_law_631 : decode cL_law 631 = .ok (.iadd, 1) := by decide +kernel
theorem dL_law_632 : decode cL_law 632 = .ok (.iaload, 1) := by decide +kernel
theorem dL_law_633 : decode cL_law 633 = .ok (.invokevirtual 83, 3) := by decide +kernel
theorem dL_law_636 : decode cL_law 636 = .ok (.aload_n 2, 1) := by decide +kernel
theorem dL_law_637 : decode cL_law 637 = .ok (.aload_n 0, 1) := by decide +kernel
theorem dL_law_638 : decode cL_law 638 = .ok (.iload_n 3, 1) := by decide +kernel
theorem dL_law_639 : decode cL_law 639 = .ok (.iconst 1, 1) := by decide +kernel
theorem dL_law_640 : decode cL_law 640 = .ok (.iadd, 1) := by decide +kernel
theorem dL_law_641 : decode cL_law 641 = .ok (.iaload, 1) := by decide +kernel
theorem dL_law_642 : decode cL_law 642 = .ok (.i2l, 1) := by decide +kernel
theorem dL_law_643 : decode cL_law 643 = .ok (.bipush 32, 2) := by decide +kernel
theorem dL_law_645 : decode cL_law 645 = .ok (.lshl, 1) := by decide +kernel
theorem dL_law_646 : decode cL_law 646 = .ok (.aload_n 0, 1) := by decide +kernel
theorem dL_law_647 : decode cL_law 647 = .ok (.iload_n 3, 1) := by decide +kernel
theorem dL_law_648 : decode cL_law 648 = .ok (.iconst 2, 1) := by decide +kernel
theorem dL_law_649 : decode cL_law 649 = .ok (.iadd, 1) := by decide +kernel
theorem dL_law_650 : decode cL_law 650 = .ok (.iaload, 1) := by decide +kernel
theorem dL_law_651 : decode cL_law 651 = .ok (.i2l, 1) := by decide +kernel
theorem dL_law_652 : decode cL_law 652 = .ok (.ldc2_w 13, 3) := by decide +kernel
theorem dL_law_655 : decode cL_law 655 = .ok (.land, 1) := by decide +kernel
theorem dL_law_656 : decode cL_law 656 = .ok (.lor, 1) := by decide +kernel
theorem dL_law_657 : decode cL_law 657 = .ok (.aload_n 0, 1) := by decide +kernel
theorem dL_law_658 : decode cL_law 658 = .ok (.iload_n 3, 1) := by decide +kernel
theorem dL_law_659 : decode cL_law 659 = .ok (.iconst 3, 1) := by decide +kernel
theorem dL_law_660 : decode cL_law 660 = .ok (.iadd, 1) := by decide +kernel
theorem dL_law_661 : decode cL_law 661 = .ok (.iaload, 1) := by decide +kernel
theorem dL_law_662 : decode cL_law 662 = .ok (.invokevirtual 86, 3) := by decide +kernel
theorem dL_law_665 : decode cL_law 665 = .ok (.if_icmp .eq 341, 3) := by decide +kernel
theorem dL_law_668 : decode cL_law 668 = .ok (.iconst 0, 1) := by decide +kernel
theorem dL_law_669 : decode cL_law 669 = .ok (.ireturn, 1) := by decide +kernel
theorem dL_law_670 : decode cL_law 670 = .ok (.aload_n 1, 1) := by decide +kernel
theorem dL_law_671 : decode cL_law 671 = .ok (.aload_n 0, 1) := by decide +kernel
theorem dL_law_672 : decode cL_law 672 = .ok (.iload_n 3, 1) := by decide +kernel
theorem dL_law_673 : decode cL_law 673 = .ok (.iconst 1, 1) := by decide +kernel
theorem dL_law_674 : decode cL_law 674 = .ok (.iadd, 1) := by decide +kernel
theorem dL_law_675 : decode cL_law 675 = .ok (.iaload, 1) := by decide +kernel
theorem dL_law_676 : decode cL_law 676 = .ok (.aload_n 0, 1) := by decide +kernel
theorem dL_law_677 : decode cL_law 677 = .ok (.iload_n 3, 1) := by decide +kernel
theorem dL_law_678 : decode cL_law 678 = .ok (.iconst 2, 1) := by decide +kernel
theorem dL_law_679 : decode cL_law 679 = .ok (.iadd, 1) := by decide +kernel
theorem dL_law_680 : decode cL_law 680 = .ok (.iaload, 1) := by decide +kernel
theorem dL_law_681 : decode cL_law 681 = .ok (.invokevirtual 87, 3) := by decide +kernel
theorem dL_law_684 : decode cL_law 684 = .ok (.aload_n 2, 1) := by decide +kernel
theorem dL_law_685 : decode cL_law 685 = .ok (.aload_n 0, 1) := by decide +kernel
theorem dL_law_686 : decode cL_law 686 = .ok (.iload_n 3, 1) := by decide +kernel
theorem dL_law_687 : decode cL_law 687 = .ok (.iconst 1, 1) := by decide +kernel
theorem dL_law_688 : decode cL_law 688 = .ok (.iadd, 1) := by decide +kernel
theorem dL_law_689 : decode cL_law 689 = .ok (.iaload, 1) := by decide +kernel
theorem dL_law_690 : decode cL_law 690 = .ok (.aload_n 0, 1) := by decide +kernel
theorem dL_law_691 : decode cL_law 691 = .ok (.iload_n 3, 1) := by decide +kernel
theorem dL_law_692 : decode cL_law 692 = .ok (.iconst 2, 1) := by decide +kernel
theorem dL_law_693 : decode cL_law 693 = .ok (.iadd, 1) := by decide +kernel
theorem dL_law_694 : decode cL_law 694 = .ok (.iaload, 1) := by decide +kernel
theorem dL_law_695 : decode cL_law 695 = .ok (.invokevirtual 90, 3) := by decide +kernel
theorem dL_law_698 : decode cL_law 698 = .ok (.if_icmp .eq 308, 3) := by decide +kernel
theorem dL_law_701 : decode cL_law 701 = .ok (.iconst 0, 1) := by decide +kernel
theorem dL_law_702 : decode cL_law 702 = .ok (.ireturn, 1) := by decide +kernel
theorem dL_law_703 : decode cL_law 703 = .ok (.aload_n 1, 1) := by decide +kernel
theorem dL_law_704 : decode cL_law 704 = .ok (.aload_n 0, 1) := by decide +kernel
theorem dL_law_705 : decode cL_law 705 = .ok (.iload_n 3, 1) := by decide +kernel
theorem dL_law_706 : decode cL_law 706 = .ok (.iconst 1, 1) := by decide +kernel
theorem dL_law_707 : decode cL_law 707 = .ok (.iadd, 1) := by decide +kernel
theorem dL_law_708 : decode cL_law 708 = .ok (.iaload, 1) := by decide +kernel
theorem dL_law_709 : decode cL_law 709 = .ok (.invokevirtual 91, 3) := by decide +kernel
theorem dL_law_712 : decode cL_law 712 = .ok (.aload_n 2, 1) := by decide +kernel
theorem dL_law_713 : decode cL_law 713 = .ok (.aload_n 0, 1) := by decide +kernel
theorem dL_law_714 : decode cL_law 714 = .ok (.iload_n 3, 1) := by decide +kernel
theorem dL_law_715 : decode cL_law 715 = .ok (.iconst 1, 1) := by decide +kernel
theorem dL_law_716 : decode cL_law 716 = .ok (.iadd, 1) := by decide +kernel
theorem dL_law_717 : decode cL_law 717 = .ok (.iaload, 1) := by decide +kernel
theorem dL_law_718 : decode cL_law 718 = .ok (.invokevirtual 94, 3) := by decide +kernel
theorem dL_law_721 : decode cL_law 721 = .ok (.if_icmp .eq 285, 3) := by decide +kernel
theorem dL_law_724 : decode cL_law 724 = .ok (.iconst 0, 1) := by decide +kernel
theorem dL_law_725 : decode cL_law 725 = .ok (.ireturn, 1) := by decide +kernel
theorem dL_law_726 : decode cL_law 726 = .ok (.aload_n 1, 1) := by decide +kernel
theorem dL_law_727 : decode cL_law 727 = .ok (.aload_n 0, 1) := by decide +kernel
theorem dL_law_728 : decode cL_law 728 = .ok (.iload_n 3, 1) := by decide +kernel
theorem dL_law_729 : decode cL_law 729 = .ok (.iconst 1, 1) := by decide +kernel
theorem dL_law_730 : decode cL_law 730 = .ok (.iadd, 1) := by decide +kernel
theorem dL_law_731 : decode cL_law 731 = .ok (.iaload, 1) := by decide +kernel
theorem dL_law_732 : decode cL_law 732 = .ok (.i2l, 1) := by decide +kernel
theorem dL_law_733 : decode cL_law 733 = .ok (.bipush 32, 2) := by decide +kernel
theorem dL_law_735 : decode cL_law 735 = .ok (.lshl, 1) := by decide +kernel
theorem dL_law_736 : decode cL_law 736 = .ok (.aload_n 0, 1) := by decide +kernel
theorem dL_law_737 : decode cL_law 737 = .ok (.iload_n 3, 1) := by decide +kernel
theorem dL_law_738 : decode cL_law 738 = .ok (.iconst 2, 1) := by decide +kernel
theorem dL_law_739 : decode cL_law 739 = .ok (.iadd, 1) := by decide +kernel
theorem dL_law_740 : decode cL_law 740 = .ok (.iaload, 1) := by decide +kernel
theorem dL_law_741 : decode cL_law 741 = .ok (.i2l, 1) := by decide +kernel
theorem dL_law_742 : decode cL_law 742 = .ok (.ldc2_w 13, 3) := by decide +kernel
theorem dL_law_745 : decode cL_law 745 = .ok (.land, 1) := by decide +kernel
theorem dL_law_746 : decode cL_law 746 = .ok (.lor, 1) := by decide +kernel
theorem dL_law_747 : decode cL_law 747 = .ok (.aload_n 0, 1) := by decide +kernel
theorem dL_law_748 : decode cL_law 748 = .ok (.iload_n 3, 1) := by decide +kernel
theorem dL_law_749 : decode cL_law 749 = .ok (.iconst 3, 1) := by decide +kernel
theorem dL_law_750 : decode cL_law 750 = .ok (.iadd, 1) := by decide +kernel
theorem dL_law_751 : decode cL_law 751 = .ok (.iaload, 1) := by decide +kernel
theorem dL_law_752 : decode cL_law 752 = .ok (.aload_n 0, 1) := by decide +kernel
theorem dL_law_753 : decode cL_law 753 = .ok (.iload_n 3, 1) := by decide +kernel
theorem dL_law_754 : decode cL_law 754 = .ok (.iconst 4, 1) := by decide +kernel
theorem dL_law_755 : decode cL_law 755 = .ok (.iadd, 1) := by decide +kernel
theorem dL_law_756 : decode cL_law 756 = .ok (.iaload, 1) := by decide +kernel
theorem dL_law_757 : decode cL_law 757 = .ok (.invokevirtual 95, 3) := by decide +kernel
theorem dL_law_760 : decode cL_law 760 = .ok (.aload_n 2, 1) := by decide +kernel
theorem dL_law_761 : decode cL_law 761 = .ok (.aload_n 0, 1) := by decide +kernel
theorem dL_law_762 : decode cL_law 762 = .ok (.iload_n 3, 1) := by decide +kernel
theorem dL_law_763 : decode cL_law 763 = .ok (.iconst 1, 1) := by decide +kernel
theorem dL_law_764 : decode cL_law 764 = .ok (.iadd, 1) := by decide +kernel
theorem dL_law_765 : decode cL_law 765 = .ok (.iaload, 1) := by decide +kernel
theorem dL_law_766 : decode cL_law 766 = .ok (.i2l, 1) := by decide +kernel
theorem dL_law_767 : decode cL_law 767 = .ok (.bipush 32, 2) := by decide +kernel
theorem dL_law_769 : decode cL_law 769 = .ok (.lshl, 1) := by decide +kernel
theorem dL_law_770 : decode cL_law 770 = .ok (.aload_n 0, 1) := by decide +kernel
theorem dL_law_771 : decode cL_law 771 = .ok (.iload_n 3, 1) := by decide +kernel
theorem dL_law_772 : decode cL_law 772 = .ok (.iconst 2, 1) := by decide +kernel
theorem dL_law_773 : decode cL_law 773 = .ok (.iadd, 1) := by decide +kernel
theorem dL_law_774 : decode cL_law 774 = .ok (.iaload, 1) := by decide +kernel
theorem dL_law_775 : decode cL_law 775 = .ok (.i2l, 1) := by decide +kernel
theorem dL_law_776 : decode cL_law 776 = .ok (.ldc2_w 13, 3) := by decide +kernel
theorem dL_law_779 : decode cL_law 779 = .ok (.land, 1) := by decide +kernel
theorem dL_law_780 : decode cL_law 780 = .ok (.lor, 1) := by decide +kernel
theorem dL_law_781 : decode cL_law 781 = .ok (.aload_n 0, 1) := by decide +kernel
theorem dL_law_782 : decode cL_law 782 = .ok (.iload_n 3, 1) := by decide +kernel
theorem dL_law_783 : decode cL_law 783 = .ok (.iconst 3, 1) := by decide +kernel
theorem dL_law_784 : decode cL_law 784 = .ok (.iadd, 1) := by decide +kernel
theorem dL_law_785 : decode cL_law 785 = .ok (.iaload, 1) := by decide +kernel
theorem dL_law_786 : decode cL_law 786 = .ok (.aload_n 0, 1) := by decide +kernel
theorem dL_law_787 : decode cL_law 787 = .ok (.iload_n 3, 1) := by decide +kernel
theorem dL_law_788 : decode cL_law 788 = .ok (.iconst 4, 1) := by decide +kernel
theorem dL_law_789 : decode cL_law 789 = .ok (.iadd, 1) := by decide +kernel
theorem dL_law_790 : decode cL_law 790 = .ok (.iaload, 1) := by decide +kernel
theorem dL_law_791 : decode cL_law 791 = .ok (.invokevirtual 99, 3) := by decide +kernel
theorem dL_law_794 : decode cL_law 794 = .ok (.if_icmp .eq 212, 3) := by decide +kernel
theorem dL_law_797 : decode cL_law 797 = .ok (.iconst 0, 1) := by decide +kernel
theorem dL_law_798 : decode cL_law 798 = .ok (.ireturn, 1) := by decide +kernel
theorem dL_law_799 : decode cL_law 799 = .ok (.aload_n 1, 1) := by decide +kernel
theorem dL_law_800 : decode cL_law 800 = .ok (.invokevirtual 100, 3) := by decide +kernel
theorem dL_law_803 : decode cL_law 803 = .ok (.aload_n 2, 1) := by decide +kernel
theorem dL_law_804 : decode cL_law 804 = .ok (.invokevirtual 103, 3) := by decide +kernel
theorem dL_law_807 : decode cL_law 807 = .ok (.if_icmp .eq 199, 3) := by decide +kernel
theorem dL_law_810 : decode cL_law 810 = .ok (.iconst 0, 1) := by decide +kernel
theorem dL_law_811 : decode cL_law 811 = .ok (.ireturn, 1) := by decide +kernel
theorem dL_law_812 : decode cL_law 812 = .ok (.aload_n 1, 1) := by decide +kernel
theorem dL_law_813 : decode cL_law 813 = .ok (.invokevirtual 104, 3) := by decide +kernel
theorem dL_law_816 : decode cL_law 816 = .ok (.aload_n 2, 1) := by decide +kernel
theorem dL_law_817 : decode cL_law 817 = .ok (.invokevirtual 107, 3) := by decide +kernel
theorem dL_law_820 : decode cL_law 820 = .ok (.if_icmp .eq 186, 3) := by decide +kernel
theorem dL_law_823 : decode cL_law 823 = .ok (.iconst 0, 1) := by decide +kernel
theorem dL_law_824 : decode cL_law 824 = .ok (.ireturn, 1) := by decide +kernel
theorem dL_law_825 : decode cL_law 825 = .ok (.aload_n 1, 1) := by decide +kernel
theorem dL_law_826 : decode cL_law 826 = .ok (.aload_n 0, 1) := by decide +kernel
theorem dL_law_827 : decode cL_law 827 = .ok (.iload_n 3, 1) := by decide +kernel
theorem dL_law_828 : decode cL_law 828 = .ok (.iconst 1, 1) := by decide +kernel
theorem dL_law_829 : decode cL_law 829 = .ok (.iadd, 1) := by decide +kernel
theorem dL_law_830 : decode cL_law 830 = .ok (.iaload, 1) := by decide +kernel
theorem dL_law_831 : decode cL_law 831 = .ok (.invokevirtual 108, 3) := by decide +kernel
theorem dL_law_834 : decode cL_law 834 = .ok (.aload_n 2, 1) := by decide +kernel
theorem dL_law_835 : decode cL_law 835 = .ok (.aload_n 0, 1) := by decide +kernel
theorem dL_law_836 : decode cL_law 836 = .ok (.iload_n 3, 1) := by decide +kernel
theorem dL_law_837 : decode cL_law 837 = .ok (.iconst 1, 1) := by decide +kernel
theorem dL_law_838 : decode cL_law 838 = .ok (.iadd, 1) := by decide +kernel
theorem dL_law_839 : decode cL_law 839 = .ok (.iaload, 1) := by decide +kernel
theorem dL_law_840 : decode cL_law 840 = .ok (.invokevirtual 111, 3) := by decide +kernel
theorem dL_law_843 : decode cL_law 843 = .ok (.if_icmp .eq 163, 3) := by decide +kernel
theorem dL_law_846 : decode cL_law 846 = .ok (.iconst 0, 1) := by decide +kernel
theorem dL_law_847 : decode cL_law 847 = .ok (.ireturn, 1) := by decide +kernel
theorem dL_law_848 : decode cL_law 848 = .ok (.aload_n 1, 1) := by decide +kernel
theorem dL_law_849 : decode cL_law 849 = .ok (.aload_n 0, 1) := by decide +kernel
theorem dL_law_850 : decode cL_law 850 = .ok (.iload_n 3, 1) := by decide +kernel
theorem dL_law_851 : decode cL_law 851 = .ok (.iconst 1, 1) := by decide +kernel
theorem dL_law_852 : decode cL_law 852 = .ok (.iadd, 1) := by decide +kernel
theorem dL_law_853 : decode cL_law 853 = .ok (.iaload, 1) := by decide +kernel
theorem dL_law_854 : decode cL_law 854 = .ok (.aload_n 0, 1) := by decide +kernel
theorem dL_law_855 : decode cL_law 855 = .ok (.iload_n 3, 1) := by decide +kernel
theorem dL_law_856 : decode cL_law 856 = .ok (.iconst 2, 1) := by decide +kernel
theorem dL_law_857 : decode cL_law 857 = .ok (.iadd, 1) := by decide +kernel
theorem dL_law_858 : decode cL_law 858 = .ok (.iaload, 1) := by decide +kernel
theorem dL_law_859 : decode cL_law 859 = .ok (.invokevirtual 112, 3) := by decide +kernel
theorem dL_law_862 : decode cL_law 862 = .ok (.aload_n 2, 1) := by decide +kernel
theorem dL_law_863 : decode cL_law 863 = .ok (.aload_n 0, 1) := by decide +kernel
theorem dL_law_864 : decode cL_law 864 = .ok (.iload_n 3, 1) := by decide +kernel
theorem dL_law_865 : decode cL_law 865 = .ok (.iconst 1, 1) := by decide +kernel
theorem dL_law_866 : decode cL_law 866 = .ok (.iadd, 1) := by decide +kernel
theorem dL_law_867 : decode cL_law 867 = .ok (.iaload, 1) := by decide +kernel
theorem dL_law_868 : decode cL_law 868 = .ok (.aload_n 0, 1) := by decide +kernel
theorem dL_law_869 : decode cL_law 869 = .ok (.iload_n 3, 1) := by decide +kernel
theorem dL_law_870 : decode cL_law 870 = .ok (.iconst 2, 1) := by decide +kernel
theorem dL_law_871 : decode cL_law 871 = .ok (.iadd, 1) := by decide +kernel
theorem dL_law_872 : decode cL_law 872 = .ok (.iaload, 1) := by decide +kernel
theorem dL_law_873 : decode cL_law 873 = .ok (.invokevirtual 115, 3) := by decide +kernel
theorem dL_law_876 : decode cL_law 876 = .ok (.if_icmp .eq 130, 3) := by decide +kernel
theorem dL_law_879 : decode cL_law 879 = .ok (.iconst 0, 1) := by decide +kernel
theorem dL_law_880 : decode cL_law 880 = .ok (.ireturn, 1) := by decide +kernel
theorem dL_law_881 : decode cL_law 881 = .ok (.aload_n 1, 1) := by decide +kernel
theorem dL_law_882 : decode cL_law 882 = .ok (.aload_n 0, 1) := by decide +kernel
theorem dL_law_883 : decode cL_law 883 = .ok (.iload_n 3, 1) := by decide +kernel
theorem dL_law_884 : decode cL_law 884 = .ok (.iconst 1, 1) := by decide +kernel
theorem dL_law_885 : decode cL_law 885 = .ok (.iadd, 1) := by decide +kernel
theorem dL_law_886 : decode cL_law 886 = .ok (.iaload, 1) := by decide +kernel
theorem dL_law_887 : decode cL_law 887 = .ok (.aload_n 0, 1) := by decide +kernel
theorem dL_law_888 : decode cL_law 888 = .ok (.iload_n 3, 1) := by decide +kernel
theorem dL_law_889 : decode cL_law 889 = .ok (.iconst 2, 1) := by decide +kernel
theorem dL_law_890 : decode cL_law 890 = .ok (.iadd, 1) := by decide +kernel
theorem dL_law_891 : decode cL_law 891 = .ok (.iaload, 1) := by decide +kernel
theorem dL_law_892 : decode cL_law 892 = .ok (.aload_n 0, 1) := by decide +kernel
theorem dL_law_893 : decode cL_law 893 = .ok (.iload_n 3, 1) := by decide +kernel
theorem dL_law_894 : decode cL_law 894 = .ok (.iconst 3, 1) := by decide +kernel
theorem dL_law_895 : decode cL_law 895 = .ok (.iadd, 1) := by decide +kernel
theorem dL_law_896 : decode cL_law 896 = .ok (.iaload, 1) := by decide +kernel
theorem dL_law_897 : decode cL_law 897 = .ok (.invokevirtual 116, 3) := by decide +kernel
theorem dL_law_900 : decode cL_law 900 = .ok (.aload_n 2, 1) := by decide +kernel
theorem dL_law_901 : decode cL_law 901 = .ok (.aload_n 0, 1) := by decide +kernel
theorem dL_law_902 : decode cL_law 902 = .ok (.iload_n 3, 1) := by decide +kernel
theorem dL_law_903 : decode cL_law 903 = .ok (.iconst 1, 1) := by decide +kernel
theorem dL_law_904 : decode cL_law 904 = .ok (.iadd, 1) := by decide +kernel
theorem dL_law_905 : decode cL_law 905 = .ok (.iaload, 1) := by decide +kernel
theorem dL_law_906 : decode cL_law 906 = .ok (.aload_n 0, 1) := by decide +kernel
theorem dL_law_907 : decode cL_law 907 = .ok (.iload_n 3, 1) := by decide +kernel
theorem dL_law_908 : decode cL_law 908 = .ok (.iconst 2, 1) := by decide +kernel
theorem dL_law_909 : decode cL_law 909 = .ok (.iadd, 1) := by decide +kernel
theorem dL_law_910 : decode cL_law 910 = .ok (.iaload, 1) := by decide +kernel
theorem dL_law_911 : decode cL_law 911 = .ok (.aload_n 0, 1) := by decide +kernel
theorem dL_law_912 : decode cL_law 912 = .ok (.iload_n 3, 1) := by decide +kernel
theorem dL_law_913 : decode cL_law 913 = .ok (.iconst 3, 1) := by decide +kernel
theorem dL_law_914 : decode cL_law 914 = .ok (.iadd, 1) := by decide +kernel
theorem dL_law_915 : decode cL_law 915 = .ok (.iaload, 1) := by decide +kernel
theorem dL_law_916 : decode cL_law 916 = .ok (.invokevirtual 120, 3) := by decide +kernel
theorem dL_law_919 : decode cL_law 919 = .ok (.if_icmp .eq 87, 3) := by decide +kernel
theorem dL_law_922 : decode cL_law 922 = .ok (.iconst 0, 1) := by decide +kernel
theorem dL_law_923 : decode cL_law 923 = .ok (.ireturn, 1) := by decide +kernel
theorem dL_law_924 : decode cL_law 924 = .ok (.aload_n 1, 1) := by decide +kernel
theorem dL_law_925 : decode cL_law 925 = .ok (.aload_n 0, 1) := by decide +kernel
theorem dL_law_926 : decode cL_law 926 = .ok (.iload_n 3, 1) := by decide +kernel
theorem dL_law_927 : decode cL_law 927 = .ok (.iconst 1, 1) := by decide +kernel
theorem dL_law_928 : decode cL_law 928 = .ok (.iadd, 1) := by decide +kernel
theorem dL_law_929 : decode cL_law 929 = .ok (.iaload, 1) := by decide +kernel
theorem dL_law_930 : decode cL_law 930 = .ok (.aload_n 0, 1) := by decide +kernel
theorem dL_law_931 : decode cL_law 931 = .ok (.iload_n 3, 1) := by decide +kernel
theorem dL_law_932 : decode cL_law 932 = .ok (.iconst 2, 1) := by decide +kernel
theorem dL_law_933 : decode cL_law 933 = .ok (.iadd, 1) := by decide +kernel
theorem dL_law_934 : decode cL_law 934 = .ok (.iaload, 1) := by decide +kernel
theorem dL_law_935 : decode cL_law 935 = .ok (.invokevirtual 121, 3) := by decide +kernel
theorem dL_law_938 : decode cL_law 938 = .ok (.aload_n 2, 1) := by decide +kernel
theorem dL_law_939 : decode cL_law 939 = .ok (.aload_n 0, 1) := by decide +kernel
theorem dL_law_940 : decode cL_law 940 = .ok (.iload_n 3, 1) := by decide +kernel
theorem dL_law_941 : decode cL_law 941 = .ok (.iconst 1, 1) := by decide +kernel
theorem dL_law_942 : decode cL_law 942 = .ok (.iadd, 1) := by decide +kernel
theorem dL_law_943 : decode cL_law 943 = .ok (.iaload, 1) := by decide +kernel
theorem dL_law_944 : decode cL_law 944 = .ok (.aload_n 0, 1) := by decide +kernel
theorem dL_law_945 : decode cL_law 945 = .ok (.iload_n 3, 1) := by decide +kernel
theorem dL_law_946 : decode cL_law 946 = .ok (.iconst 2, 1) := by decide +kernel
theorem dL_law_947 : decode cL_law 947 = .ok (.iadd, 1) := by decide +kernel
theorem dL_law_948 : decode cL_law 948 = .ok (.iaload, 1) := by decide +kernel
theorem dL_law_949 : decode cL_law 949 = .ok (.invokevirtual 124, 3) := by decide +kernel
theorem dL_law_952 : decode cL_law 952 = .ok (.if_icmp .eq 54, 3) := by decide +kernel
theorem dL_law_955 : decode cL_law 955 = .ok (.iconst 0, 1) := by decide +kernel
theorem dL_law_956 : decode cL_law 956 = .ok (.ireturn, 1) := by decide +kernel
theorem dL_law_957 : decode cL_law 957 = .ok (.aload_n 1, 1) := by decide +kernel
theorem dL_law_958 : decode cL_law 958 = .ok (.invokevirtual 125, 3) := by decide +kernel
theorem dL_law_961 : decode cL_law 961 = .ok (.aload_n 2, 1) := by decide +kernel
theorem dL_law_962 : decode cL_law 962 = .ok (.invokevirtual 128, 3) := by decide +kernel
theorem dL_law_965 : decode cL_law 965 = .ok (.if_icmp .eq 41, 3) := by decide +kernel
theorem dL_law_968 : decode cL_law 968 = .ok (.iconst 0, 1) := by decide +kernel
theorem dL_law_969 : decode cL_law 969 = .ok (.ireturn, 1) := by decide +kernel
theorem dL_law_970 : decode cL_law 970 = .ok (.aload_n 1, 1) := by decide +kernel
theorem dL_law_971 : decode cL_law 971 = .ok (.invokevirtual 129, 3) := by decide +kernel
theorem dL_law_974 : decode cL_law 974 = .ok (.aload_n 2, 1) := by decide +kernel
theorem dL_law_975 : decode cL_law 975 = .ok (.invokevirtual 132, 3) := by decide +kernel
theorem dL_law_978 : decode cL_law 978 = .ok (.if_icmp .eq 28, 3) := by decide +kernel
theorem dL_law_981 : decode cL_law 981 = .ok (.iconst 0, 1) := by decide +kernel
theorem dL_law_982 : decode cL_law 982 = .ok (.ireturn, 1) := by decide +kernel
theorem dL_law_983 : decode cL_law 983 = .ok (.aload_n 1, 1) := by decide +kernel
theorem dL_law_984 : decode cL_law 984 = .ok (.aload_n 0, 1) := by decide +kernel
theorem dL_law_985 : decode cL_law 985 = .ok (.iload_n 3, 1) := by decide +kernel
theorem dL_law_986 : decode cL_law 986 = .ok (.iconst 1, 1) := by decide +kernel
theorem dL_law_987 : decode cL_law 987 = .ok (.iadd, 1) := by decide +kernel
theorem dL_law_988 : decode cL_law 988 = .ok (.iaload, 1) := by decide +kernel
theorem dL_law_989 : decode cL_law 989 = .ok (.invokevirtual 133, 3) := by decide +kernel
theorem dL_law_992 : decode cL_law 992 = .ok (.aload_n 2, 1) := by decide +kernel
theorem dL_law_993 : decode cL_law 993 = .ok (.aload_n 0, 1) := by decide +kernel
theorem dL_law_994 : decode cL_law 994 = .ok (.iload_n 3, 1) := by decide +kernel
theorem dL_law_995 : decode cL_law 995 = .ok (.iconst 1, 1) := by decide +kernel
theorem dL_law_996 : decode cL_law 996 = .ok (.iadd, 1) := by decide +kernel
theorem dL_law_997 : decode cL_law 997 = .ok (.iaload, 1) := by decide +kernel
theorem dL_law_998 : decode cL_law 998 = .ok (.invokevirtual 136, 3) := by decide +kernel
theorem dL_law_1001 : decode cL_law 1001 = .ok (.if_icmp .eq 5, 3) := by decide +kernel
theorem dL_law_1004 : decode cL_law 1004 = .ok (.iconst 0, 1) := by decide +kernel
theorem dL_law_1005 : decode cL_law 1005 = .ok (.ireturn, 1) := by decide +kernel
theorem dL_law_1006 : decode cL_law 1006 = .ok (.iinc 3 5, 3) := by decide +kernel
theorem dL_law_1009 : decode cL_law 1009 = .ok (.goto (-991), 3) := by decide +kernel
theorem dL_law_1012 : decode cL_law 1012 = .ok (.iconst 1, 1) := by decide +kernel
theorem dL_law_1013 : decode cL_law 1013 = .ok (.ireturn, 1) := by decide +kernel
