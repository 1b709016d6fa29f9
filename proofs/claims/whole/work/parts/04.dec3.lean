theorem dX11_isMark_27 : decode cX11_isMark 27 = .ok (.if_icmp .eq 27, 3) := by decide +kernel
theorem dX11_isMark_30 : decode cX11_isMark 30 = .ok (.iload_n 0, 1) := by decide +kernel
theorem dX11_isMark_31 : decode cX11_isMark 31 = .ok (.bipush 42, 2) := by decide +kernel
theorem dX11_isMark_33 : decode cX11_isMark 33 = .ok (.if_icmp .eq 21, 3) := by decide +kernel
theorem dX11_isMark_36 : decode cX11_isMark 36 = .ok (.iload_n 0, 1) := by decide +kernel
theorem dX11_isMark_37 : decode cX11_isMark 37 = .ok (.bipush 47, 2) := by decide +kernel
theorem dX11_isMark_39 : decode cX11_isMark 39 = .ok (.if_icmp .eq 15, 3) := by decide +kernel
theorem dX11_isMark_42 : decode cX11_isMark 42 = .ok (.iload_n 0, 1) := by decide +kernel
theorem dX11_isMark_43 : decode cX11_isMark 43 = .ok (.bipush 60, 2) := by decide +kernel
theorem dX11_isMark_45 : decode cX11_isMark 45 = .ok (.if_icmp .eq 9, 3) := by decide +kernel
theorem dX11_isMark_48 : decode cX11_isMark 48 = .ok (.iload_n 0, 1) := by decide +kernel
theorem dX11_isMark_49 : decode cX11_isMark 49 = .ok (.bipush 61, 2) := by decide +kernel
theorem dX11_isMark_51 : decode cX11_isMark 51 = .ok (.if_icmp .ne 7, 3) := by decide +kernel
theorem dX11_isMark_54 : decode cX11_isMark 54 = .ok (.iconst 1, 1) := by decide +kernel
theorem dX11_isMark_55 : decode cX11_isMark 55 = .ok (.goto 4, 3) := by decide +kernel
theorem dX11_isMark_58 : decode cX11_isMark 58 = .ok (.iconst 0, 1) := by decide +kernel
theorem dX11_isMark_59 : decode cX11_isMark 59 = .ok (.ireturn, 1) := by decide +kernel
theorem dX11_stepOn_0 : decode cX11_stepOn 0 = .ok (.aload_n 0, 1) := by decide +kernel
theorem dX11_stepOn_1 : decode cX11_stepOn 1 = .ok (.aload_n 0, 1) := by decide +kernel
theorem dX11_stepOn_2 : decode cX11_stepOn 2 = .ok (.getfield 208, 3) := by decide +kernel
theorem dX11_stepOn_5 : decode cX11_stepOn 5 = .ok (.invokevirtual 211, 3) := by decide +kernel
theorem dX11_stepOn_8 : decode cX11_stepOn 8 = .ok (.bipush 32, 2) := by decide +kernel
theorem dX11_stepOn_10 : decode cX11_stepOn 10 = .ok (.if_icmp .eq 16, 3) := by decide +kernel
theorem dX11_stepOn_13 : decode cX11_stepOn 13 = .ok (.aload_n 0, 1) := by decide +kernel
theorem dX11_stepOn_14 : decode cX11_stepOn 14 = .ok (.aload_n 0, 1) := by decide +kernel
theorem dX11_stepOn_15 : decode cX11_stepOn 15 = .ok (.getfield 208, 3) := by decide +kernel
theorem dX11_stepOn_18 : decode cX11_stepOn 18 = .ok (.invokevirtual 211, 3) := by decide +kernel
theorem dX11_stepOn_21 : decode cX11_stepOn 21 = .ok (.bipush 10, 2) := by decide +kernel
theorem dX11_stepOn_23 : decode cX11_stepOn 23 = .ok (.if_icmp .ne 16, 3) := by decide +kernel
theorem dX11_stepOn_26 : decode cX11_stepOn 26 = .ok (.aload_n 0, 1) := by decide +kernel
theorem dX11_stepOn_27 : decode cX11_stepOn 27 = .ok (.dup, 1) := by decide +kernel
theorem dX11_stepOn_28 : decode cX11_stepOn 28 = .ok (.getfield 208, 3) := by decide +kernel
theorem dX11_stepOn_31 : decode cX11_stepOn 31 = .ok (.iconst 1, 1) := by decide +kernel
theorem dX11_stepOn_32 : decode cX11_stepOn 32 = .ok (.iadd, 1) := by decide +kernel
theorem dX11_stepOn_33 : decode cX11_stepOn 33 = .ok (.putfield 208, 3) := by decide +kernel
theorem dX11_stepOn_36 : decode cX11_stepOn 36 = .ok (.goto (-36), 3) := by decide +kernel
theorem dX11_stepOn_39 : decode cX11_stepOn 39 = .ok (.aload_n 0, 1) := by decide +kernel
theorem dX11_stepOn_40 : decode cX11_stepOn 40 = .ok (.aload_n 0, 1) := by decide +kernel
theorem dX11_stepOn_41 : decode cX11_stepOn 41 = .ok (.getfield 208, 3) := by decide +kernel
theorem dX11_stepOn_44 : decode cX11_stepOn 44 = .ok (.putfield 215, 3) := by decide +kernel
theorem dX11_stepOn_47 : decode cX11_stepOn 47 = .ok (.aload_n 0, 1) := by decide +kernel
theorem dX11_stepOn_48 : decode cX11_stepOn 48 = .ok (.aload_n 0, 1) := by decide +kernel
theorem dX11_stepOn_49 : decode cX11_stepOn 49 = .ok (.getfield 208, 3) := by decide +kernel
theorem dX11_stepOn_52 : decode cX11_stepOn 52 = .ok (.invokevirtual 211, 3) := by decide +kernel
theorem dX11_stepOn_55 : decode cX11_stepOn 55 = .ok (.istore_n 1, 1) := by decide +kernel
theorem dX11_stepOn_56 : decode cX11_stepOn 56 = .ok (.iload_n 1, 1) := by decide +kernel
theorem dX11_stepOn_57 : decode cX11_stepOn 57 = .ok (.iconst (-1), 1) := by decide +kernel
theorem dX11_stepOn_58 : decode cX11_stepOn 58 = .ok (.if_icmp .ne 11, 3) := by decide +kernel
theorem dX11_stepOn_61 : decode cX11_stepOn 61 = .ok (.aload_n 0, 1) := by decide +kernel
theorem dX11_stepOn_62 : decode cX11_stepOn 62 = .ok (.iconst 0, 1) := by decide +kernel
theorem dX11_stepOn_63 : decode cX11_stepOn 63 = .ok (.putfield 218, 3) := by decide +kernel
theorem dX11_stepOn_66 : decode cX11_stepOn 66 = .ok (.goto 146, 3) := by decide +kernel
theorem dX11_stepOn_69 : decode cX11_stepOn 69 = .ok (.iload_n 1, 1) := by decide +kernel
theorem dX11_stepOn_70 : decode cX11_stepOn 70 = .ok (.invokestatic 221, 3) := by decide +kernel
theorem dX11_stepOn_73 : decode cX11_stepOn 73 = .ok (.ifCond .eq 38, 3) := by decide +kernel
theorem dX11_stepOn_76 : decode cX11_stepOn 76 = .ok (.aload_n 0, 1) := by decide +kernel
theorem dX11_stepOn_77 : decode cX11_stepOn 77 = .ok (.aload_n 0, 1) := by decide +kernel
theorem dX11_stepOn_78 : decode cX11_stepOn 78 = .ok (.getfield 208, 3) := by decide +kernel
theorem dX11_stepOn_81 : decode cX11_stepOn 81 = .ok (.invokevirtual 211, 3) := by decide +kernel
theorem dX11_stepOn_84 : decode cX11_stepOn 84 = .ok (.invokestatic 221, 3) := by decide +kernel
theorem dX11_stepOn_87 : decode cX11_stepOn 87 = .ok (.ifCond .eq 16, 3) := by decide +kernel
theorem dX11_stepOn_90 : decode cX11_stepOn 90 = .ok (.aload_n 0, 1) := by decide +kernel
theorem dX11_stepOn_91 : decode cX11_stepOn 91 = .ok (.dup, 1) := by decide +kernel
theorem dX11_stepOn_92 : decode cX11_stepOn 92 = .ok (.getfield 208, 3) := by decide +kernel
theorem dX11_stepOn_95 : decode cX11_stepOn 95 = .ok (.iconst 1, 1) := by decide +kernel
theorem dX11_stepOn_96 : decode cX11_stepOn 96 = .ok (.iadd, 1) := by decide +kernel
theorem dX11_stepOn_97 : decode cX11_stepOn 97 = .ok (.putfield 208, 3) := by decide +kernel
theorem dX11_stepOn_100 : decode cX11_stepOn 100 = .ok (.goto (-24), 3) := by decide +kernel
theorem dX11_stepOn_103 : decode cX11_stepOn 103 = .ok (.aload_n 0, 1) := by decide +kernel
theorem dX11_stepOn_104 : decode cX11_stepOn 104 = .ok (.iconst 1, 1) := by decide +kernel
theorem dX11_stepOn_105 : decode cX11_stepOn 105 = .ok (.putfield 218, 3) := by decide +kernel
theorem dX11_stepOn_108 : decode cX11_stepOn 108 = .ok (.goto 104, 3) := by decide +kernel
theorem dX11_stepOn_111 : decode cX11_stepOn 111 = .ok (.iload_n 1, 1) := by decide +kernel
theorem dX11_stepOn_112 : decode cX11_stepOn 112 = .ok (.invokestatic 225, 3) := by decide +kernel
theorem dX11_stepOn_115 : decode cX11_stepOn 115 = .ok (.ifCond .eq 71, 3) := by decide +kernel
theorem dX11_stepOn_118 : decode cX11_stepOn 118 = .ok (.aload_n 0, 1) := by decide +kernel
theorem dX11_stepOn_119 : decode cX11_stepOn 119 = .ok (.iconst 0, 1) := by decide +kernel
theorem dX11_stepOn_120 : decode cX11_stepOn 120 = .ok (.putfield 228, 3) := by decide +kernel
theorem dX11_stepOn_123 : decode cX11_stepOn 123 = .ok (.aload_n 0, 1) := by decide +kernel
theorem dX11_stepOn_124 : decode cX11_stepOn 124 = .ok (.aload_n 0, 1) := by decide +kernel
theorem dX11_stepOn_125 : decode cX11_stepOn 125 = .ok (.getfield 208, 3) := by decide +kernel
theorem dX11_stepOn_128 : decode cX11_stepOn 128 = .ok (.invokevirtual 211, 3) := by decide +kernel
theorem dX11_stepOn_131 : decode cX11_stepOn 131 = .ok (.invokestatic 225, 3) := by decide +kernel
theorem dX11_stepOn_134 : decode cX11_stepOn 134 = .ok (.ifCond .eq 44, 3) := by decide +kernel
theorem dX11_stepOn_137 : decode cX11_stepOn 137 = .ok (.aload_n 0, 1) := by decide +kernel
theorem dX11_stepOn_138 : decode cX11_stepOn 138 = .ok (.ldc 231, 2) := by decide +kernel
theorem dX11_stepOn_140 : decode cX11_stepOn 140 = .ok (.bipush 10, 2) := by decide +kernel
theorem dX11_stepOn_142 : decode cX11_stepOn 142 = .ok (.aload_n 0, 1) := by decide +kernel
theorem dX11_stepOn_143 : decode cX11_stepOn 143 = .ok (.getfield 228, 3) := by decide +kernel
theorem dX11_stepOn_146 : decode cX11_stepOn 146 = .ok (.imul, 1) := by decide +kernel
theorem dX11_stepOn_147 : decode cX11_stepOn 147 = .ok (.aload_n 0, 1) := by decide +kernel
theorem dX11_stepOn_148 : decode cX11_stepOn 148 = .ok (.aload_n 0, 1) := by decide +kernel
theorem dX11_stepOn_149 : decode cX11_stepOn 149 = .ok (.getfield 208, 3) := by decide +kernel
theorem dX11_stepOn_152 : decode cX11_stepOn 152 = .ok (.invokevirtual 211, 3) := by decide +kernel
theorem dX11_stepOn_155 : decode cX11_stepOn 155 = .ok (.iadd, 1) := by decide +kernel
theorem dX11_stepOn_156 : decode cX11_stepOn 156 = .ok (.bipush 48, 2) := by decide +kernel
theorem dX11_stepOn_158 : decode cX11_stepOn 158 = .ok (.isub, 1) := by decide +kernel
theorem dX11_stepOn_159 : decode cX11_stepOn 159 = .ok (.invokestatic 232, 3) := by decide +kernel
theorem dX11_stepOn_162 : decode cX11_stepOn 162 = .ok (.putfield 228, 3) := by decide +kernel
theorem dX11_stepOn_165 : decode cX11_stepOn 165 = .ok (.aload_n 0, 1) := by decide +kernel
theorem dX11_stepOn_166 : decode cX11_stepOn 166 = .ok (.dup, 1) := by decide +kernel
theorem dX11_stepOn_167 : decode cX11_stepOn 167 = .ok (.getfield 208, 3) := by decide +kernel
theorem dX11_stepOn_170 : decode cX11_stepOn 170 = .ok (.iconst 1, 1) := by decide +kernel
theorem dX11_stepOn_171 : decode cX11_stepOn 171 = .ok (.iadd, 1) := by decide +kernel
theorem dX11_stepOn_172 : decode cX11_stepOn 172 = .ok (.putfield 208, 3) := by decide +kernel
theorem dX11_stepOn_175 : decode cX11_stepOn 175 = .ok (.goto (-52), 3) := by decide +kernel
theorem dX11_stepOn_178 : decode cX11_stepOn 178 = .ok (.aload_n 0, 1) := by decide +kernel
theorem dX11_stepOn_179 : decode cX11_stepOn 179 = .ok (.iconst 2, 1) := by decide +kernel
theorem dX11_stepOn_180 : decode cX11_stepOn 180 = .ok (.putfield 218, 3) := by decide +kernel
theorem dX11_stepOn_183 : decode cX11_stepOn 183 = .ok (.goto 29, 3) := by decide +kernel
theorem dX11_stepOn_186 : decode cX11_stepOn 186 = .ok (.aload_n 0, 1) := by decide +kernel
theorem dX11_stepOn_187 : decode cX11_stepOn 187 = .ok (.dup, 1) := by decide +kernel
theorem dX11_stepOn_188 : decode cX11_stepOn 188 = .ok (.getfield 208, 3) := by decide +kernel
theorem dX11_stepOn_191 : decode cX11_stepOn 191 = .ok (.iconst 1, 1) := by decide +kernel
theorem dX11_stepOn_192 : decode cX11_stepOn 192 = .ok (.iadd, 1) := by decide +kernel
theorem dX11_stepOn_193 : decode cX11_stepOn 193 = .ok (.putfield 208, 3) := by decide +kernel
theorem dX11_stepOn_196 : decode cX11_stepOn 196 = .ok (.aload_n 0, 1) := by decide +kernel
theorem dX11_stepOn_197 : decode cX11_stepOn 197 = .ok (.iload_n 1, 1) := by decide +kernel
theorem dX11_stepOn_198 : decode cX11_stepOn 198 = .ok (.invokestatic 238, 3) := by decide +kernel
theorem dX11_stepOn_201 : decode cX11_stepOn 201 = .ok (.ifCond .eq 7, 3) := by decide +kernel
theorem dX11_stepOn_204 : decode cX11_stepOn 204 = .ok (.iconst 3, 1) := by decide +kernel
theorem dX11_stepOn_205 : decode cX11_stepOn 205 = .ok (.goto 4, 3) := by decide +kernel
theorem dX11_stepOn_208 : decode cX11_stepOn 208 = .ok (.iconst 4, 1) := by decide +kernel
theorem dX11_stepOn_209 : decode cX11_stepOn 209 = .ok (.putfield 218, 3) := by decide +kernel
theorem dX11_stepOn_212 : decode cX11_stepOn 212 = .ok (.aload_n 0, 1) := by decide +kernel
theorem dX11_stepOn_213 : decode cX11_stepOn 213 = .ok (.aload_n 0, 1) := by decide +kernel
theorem dX11_stepOn_214 : decode cX11_stepOn 214 = .ok (.getfield 208, 3) := by decide +kernel
theorem dX11_stepOn_217 : decode cX11_stepOn 217 = .ok (.putfield 241, 3) := by decide +kernel
theorem dX11_stepOn_220 : decode cX11_stepOn 220 = .ok (.return_, 1) := by decide +kernel
theorem dX11_wrong_0 : decode cX11_wrong 0 = .ok (.aload_n 0, 1) := by decide +kernel
theorem dX11_wrong_1 : decode cX11_wrong 1 = .ok (.getfield 244, 3) := by decide +kernel
theorem dX11_wrong_4 : decode cX11_wrong 4 = .ok (.ifCond .eq 4, 3) := by decide +kernel
theorem dX11_wrong_7 : decode cX11_wrong 7 = .ok (.return_, 1) := by decide +kernel
theorem dX11_wrong_8 : decode cX11_wrong 8 = .ok (.aload_n 0, 1) := by decide +kernel
theorem dX11_wrong_9 : decode cX11_wrong 9 = .ok (.iload_n 1, 1) := by decide +kernel
theorem dX11_wrong_10 : decode cX11_wrong 10 = .ok (.putfield 244, 3) := by decide +kernel
theorem dX11_wrong_13 : decode cX11_wrong 13 = .ok (.aload_n 0, 1) := by decide +kernel
theorem dX11_wrong_14 : decode cX11_wrong 14 = .ok (.aload_n 0, 1) := by decide +kernel
theorem dX11_wrong_15 : decode cX11_wrong 15 = .ok (.getfield 215, 3) := by decide +kernel
theorem dX11_wrong_18 : decode cX11_wrong 18 = .ok (.putfield 247, 3) := by decide +kernel
theorem dX11_wrong_21 : decode cX11_wrong 21 = .ok (.return_, 1) := by decide +kernel
theorem dX11_is_0 : decode cX11_is 0 = .ok (.aload_n 0, 1) := by decide +kernel
theorem dX11_is_1 : decode cX11_is 1 = .ok (.getfield 244, 3) := by decide +kernel
theorem dX11_is_4 : decode cX11_is 4 = .ok (.ifCond .ne 31, 3) := by decide +kernel
theorem dX11_is_7 : decode cX11_is 7 = .ok (.aload_n 0, 1) := by decide +kernel
theorem dX11_is_8 : decode cX11_is 8 = .ok (.getfield 218, 3) := by decide +kernel
theorem dX11_is_11 : decode cX11_is 11 = .ok (.iconst 1, 1) := by decide +kernel
theorem dX11_is_12 : decode cX11_is 12 = .ok (.if_icmp .ne 23, 3) := by decide +kernel
theorem dX11_is_15 : decode cX11_is 15 = .ok (.aload_n 1, 1) := by decide +kernel
theorem dX11_is_16 : decode cX11_is 16 = .ok (.invokevirtual 250, 3) := by decide +kernel
theorem dX11_is_19 : decode cX11_is 19 = .ok (.aload_n 0, 1) := by decide +kernel
theorem dX11_is_20 : decode cX11_is 20 = .ok (.getfield 241, 3) := by decide +kernel
theorem dX11_is_23 : decode cX11_is 23 = .ok (.aload_n 0, 1) := by decide +kernel
theorem dX11_is_24 : decode cX11_is 24 = .ok (.getfield 215, 3) := by decide +kernel
theorem dX11_is_27 : decode cX11_is 27 = .ok (.isub, 1) := by decide +kernel
theorem dX11_is_28 : decode cX11_is 28 = .ok (.if_icmp .ne 7, 3) := by decide +kernel
theorem dX11_is_31 : decode cX11_is 31 = .ok (.iconst 1, 1) := by decide +kernel
theorem dX11_is_32 : decode cX11_is 32 = .ok (.goto 4, 3) := by decide +kernel
theorem dX11_is_35 : decode cX11_is 35 = .ok (.iconst 0, 1) := by decide +kernel
theorem dX11_is_36 : decode cX11_is 36 = .ok (.istore_n 2, 1) := by decide +kernel
theorem dX11_is_37 : decode cX11_is 37 = .ok (.iconst 0, 1) := by decide +kernel
theorem dX11_is_38 : decode cX11_is 38 = .ok (.istore_n 3, 1) := by decide +kernel
theorem dX11_is_39 : decode cX11_is 39 = .ok (.iload_n 2, 1) := by decide +kernel
theorem dX11_is_40 : decode cX11_is 40 = .ok (.ifCond .eq 42, 3) := by decide +kernel
theorem dX11_is_43 : decode cX11_is 43 = .ok (.iload_n 3, 1) := by decide +kernel
theorem dX11_is_44 : decode cX11_is 44 = .ok (.aload_n 1, 1) := by decide +kernel
theorem dX11_is_45 : decode cX11_is 45 = .ok (.invokevirtual 250, 3) := by decide +kernel
theorem dX11_is_48 : decode cX11_is 48 = .ok (.if_icmp .ge 34, 3) := by decide +kernel
theorem dX11_is_51 : decode cX11_is 51 = .ok (.aload_n 1, 1) := by decide +kernel
theorem dX11_is_52 : decode cX11_is 52 = .ok (.iload_n 3, 1) := by decide +kernel
theorem dX11_is_53 : decode cX11_is 53 = .ok (.invokevirtual 254, 3) := by decide +kernel
theorem dX11_is_56 : decode cX11_is 56 = .ok (.aload_n 0, 1) := by decide +kernel
theorem dX11_is_57 : decode cX11_is 57 = .ok (.getfield 95, 3) := by decide +kernel
theorem dX11_is_60 : decode cX11_is 60 = .ok (.aload_n 0, 1) := by decide +kernel
theorem dX11_is_61 : decode cX11_is 61 = .ok (.getfield 215, 3) := by decide +kernel
theorem dX11_is_64 : decode cX11_is 64 = .ok (.iload_n 3, 1) := by decide +kernel
theorem dX11_is_65 : decode cX11_is 65 = .ok (.iadd, 1) := by decide +kernel
theorem dX11_is_66 : decode cX11_is 66 = .ok (.iaload, 1) := by decide +kernel
theorem dX11_is_67 : decode cX11_is 67 = .ok (.if_icmp .ne 7, 3) := by decide +kernel
theorem dX11_is_70 : decode cX11_is 70 = .ok (.iconst 1, 1) := by decide +kernel
theorem dX11_is_71 : decode cX11_is 71 = .ok (.goto 4, 3) := by decide +kernel
theorem dX11_is_74 : decode cX11_is 74 = .ok (.iconst 0, 1) := by decide +kernel
theorem dX11_is_75 : decode cX11_is 75 = .ok (.istore_n 2, 1) := by decide +kernel
theorem dX11_is_76 : decode cX11_is 76 = .ok (.iinc 3 1, 3) := by decide +kernel
theorem dX11_is_79 : decode cX11_is 79 = .ok (.goto (-40), 3) := by decide +kernel
theorem dX11_is_82 : decode cX11_is 82 = .ok (.iload_n 2, 1) := by decide +kernel
theorem dX11_is_83 : decode cX11_is 83 = .ok (.ireturn, 1) := by decide +kernel
theorem dX11_which_0 : decode cX11_which 0 = .ok (.iconst 0, 1) := by decide +kernel
theorem dX11_which_1 : decode cX11_which 1 = .ok (.istore_n 2, 1) := by decide +kernel
theorem dX11_which_2 : decode cX11_which 2 = .ok (.iload_n 2, 1) := by decide +kernel
theorem dX11_which_3 : decode cX11_which 3 = .ok (.aload_n 1, 1) := by decide +kernel
theorem dX11_which_4 : decode cX11_which 4 = .ok (.arraylength, 1) := by decide +kernel
theorem dX11_which_5 : decode cX11_which 5 = .ok (.if_icmp .ge 21, 3) := by decide +kernel
theorem dX11_which_8 : decode cX11_which 8 = .ok (.aload_n 0, 1) := by decide +kernel
theorem dX11_which_9 : decode cX11_which 9 = .ok (.aload_n 1, 1) := by decide +kernel
theorem dX11_which_10 : decode cX11_which 10 = .ok (.iload_n 2, 1) := by decide +kernel
theorem dX11_which_11 : decode cX11_which 11 = .ok (.aaload, 1) := by decide +kernel
theorem dX11_which_12 : decode cX11_which 12 = .ok (.invokevirtual 258, 3) := by decide +kernel
theorem dX11_which_15 : decode cX11_which 15 = .ok (.ifCond .eq 5, 3) := by decide +kernel
theorem dX11_which_18 : decode cX11_which 18 = .ok (.iload_n 2, 1) := by decide +kernel
theorem dX11_which_19 : decode cX11_which 19 = .ok (.ireturn, 1) := by decide +kernel
theorem dX11_which_20 : decode cX11_which 20 = .ok (.iinc 2 1, 3) := by decide +kernel
theorem dX11_which_23 : decode cX11_which 23 = .ok (.goto (-21), 3) := by decide +kernel
theorem dX11_which_26 : decode cX11_which 26 = .ok (.iconst (-1), 1) := by decide +kernel
theorem dX11_which_27 : decode cX11_which 27 = .ok (.ireturn, 1) := by decide +kernel
theorem dX11_isMarked_0 : decode cX11_isMarked 0 = .ok (.aload_n 0, 1) := by decide +kernel
theorem dX11_isMarked_1 : decode cX11_isMarked 1 = .ok (.getfield 244, 3) := by decide +kernel
theorem dX11_isMarked_4 : decode cX11_isMarked 4 = .ok (.ifCond .ne 28, 3) := by decide +kernel
theorem dX11_isMarked_7 : decode cX11_isMarked 7 = .ok (.aload_n 0, 1) := by decide +kernel
theorem dX11_isMarked_8 : decode cX11_isMarked 8 = .ok (.getfield 218, 3) := by decide +kernel
theorem dX11_isMarked_11 : decode cX11_isMarked 11 = .ok (.iconst 3, 1) := by decide +kernel
theorem dX11_isMarked_12 : decode cX11_isMarked 12 = .ok (.if_icmp .ne 20, 3) := by decide +kernel
theorem dX11_isMarked_15 : decode cX11_isMarked 15 = .ok (.aload_n 0, 1) := by decide +kernel
theorem dX11_isMarked_16 : decode cX11_isMarked 16 = .ok (.getfield 95, 3) := by decide +kernel
theorem dX11_isMarked_19 : decode cX11_isMarked 19 = .ok (.aload_n 0, 1) := by decide +kernel
theorem dX11_isMarked_20 : decode cX11_isMarked 20 = .ok (.getfield 215, 3) := by decide +kernel
theorem dX11_isMarked_23 : decode cX11_isMarked 23 = .ok (.iaload, 1) := by decide +kernel
theorem dX11_isMarked_24 : decode cX11_isMarked 24 = .ok (.iload_n 1, 1) := by decide +kernel
theorem dX11_isMarked_25 : decode cX11_isMarked 25 = .ok (.if_icmp .ne 7, 3) := by decide +kernel
theorem dX11_isMarked_28 : decode cX11_isMarked 28 = .ok (.iconst 1, 1) := by decide +kernel
theorem dX11_isMarked_29 : decode cX11_isMarked 29 = .ok (.goto 4, 3) := by decide +kernel
theorem dX11_isMarked_32 : decode cX11_isMarked 32 = .ok (.iconst 0, 1) := by decide +kernel
theorem dX11_isMarked_33 : decode cX11_isMarked 33 = .ok (.ireturn, 1) := by decide +kernel
theorem dX11_mark_0 : decode cX11_mark 0 = .ok (.aload_n 0, 1) := by decide +kernel
theorem dX11_mark_1 : decode cX11_mark 1 = .ok (.getfield 244, 3) := by decide +kernel
theorem dX11_mark_4 : decode cX11_mark 4 = .ok (.ifCond .ne 16, 3) := by decide +kernel
theorem dX11_mark_7 : decode cX11_mark 7 = .ok (.aload_n 0, 1) := by decide +kernel
theorem dX11_mark_8 : decode cX11_mark 8 = .ok (.iload_n 1, 1) := by decide +kernel
theorem dX11_mark_9 : decode cX11_mark 9 = .ok (.invokevirtual 262, 3) := by decide +kernel
theorem dX11_mark_12 : decode cX11_mark 12 = .ok (.ifCond .ne 8, 3) := by decide +kernel
theorem dX11_mark_15 : decode cX11_mark 15 = .ok (.aload_n 0, 1) := by decide +kernel
theorem dX11_mark_16 : decode cX11_mark 16 = .ok (.iconst 1, 1) := by decide +kernel
theorem dX11_mark_17 : decode cX11_mark 17 = .ok (.invokevirtual 265, 3) := by decide +kernel
theorem dX11_mark_20 : decode cX11_mark 20 = .ok (.aload_n 0, 1) := by decide +kernel
theorem dX11_mark_21 : decode cX11_mark 21 = .ok (.getfield 244, 3) := by decide +kernel
theorem dX11_mark_24 : decode cX11_mark 24 = .ok (.ifCond .ne 7, 3) := by decide +kernel
theorem dX11_mark_27 : decode cX11_mark 27 = .ok (.aload_n 0, 1) := by decide +kernel
theorem dX11_mark_28 : decode cX11_mark 28 = .ok (.invokevirtual 269, 3) := by decide +kernel
theorem dX11_mark_31 : decode cX11_mark 31 = .ok (.return_, 1) := by decide +kernel
theorem dX11_readNumber_0 : decode cX11_readNumber 0 = .ok (.aload_n 0, 1) := by decide +kernel
theorem dX11_readNumber_1 : decode cX11_readNumber 1 = .ok (.getfield 244, 3) := by decide +kernel
theorem dX11_readNumber_4 : decode cX11_readNumber 4 = .ok (.ifCond .eq 5, 3) := by decide +kernel
theorem dX11_readNumber_7 : decode cX11_readNumber 7 = .ok (.iconst 0, 1) := by decide +kernel
theorem dX11_readNumber_8 : decode cX11_readNumber 8 = .ok (.ireturn, 1) := by decide +kernel
theorem dX11_readNumber_9 : decode cX11_readNumber 9 = .ok (.aload_n 0, 1) := by decide +kernel
theorem dX11_readNumber_10 : decode cX11_readNumber 10 = .ok (.getfield 218, 3) := by decide +kernel
theorem dX11_readNumber_13 : decode cX11_readNumber 13 = .ok (.iconst 2, 1) := by decide +kernel
theorem dX11_readNumber_14 : decode cX11_readNumber 14 = .ok (.if_icmp .eq 11, 3) := by decide +kernel
theorem dX11_readNumber_17 : decode cX11_readNumber 17 = .ok (.aload_n 0, 1) := by decide +kernel
theorem dX11_readNumber_18 : decode cX11_readNumber 18 = .ok (.iconst 1, 1) := by decide +kernel
theorem dX11_readNumber_19 : decode cX11_readNumber 19 = .ok (.invokevirtual 265, 3) := by decide +kernel
theorem dX11_readNumber_22 : decode cX11_readNumber 22 = .ok (.goto 37, 3) := by decide +kernel
theorem dX11_readNumber_25 : decode cX11_readNumber 25 = .ok (.aload_n 0, 1) := by decide +kernel
theorem dX11_readNumber_26 : decode cX11_readNumber 26 = .ok (.getfield 241, 3) := by decide +kernel
theorem dX11_readNumber_29 : decode cX11_readNumber 29 = .ok (.aload_n 0, 1) := by decide +kernel
theorem dX11_readNumber_30 : decode cX11_readNumber 30 = .ok (.getfield 215, 3) := by decide +kernel
theorem dX11_readNumber_33 : decode cX11_readNumber 33 = .ok (.isub, 1) := by decide +kernel
theorem dX11_readNumber_34 : decode cX11_readNumber 34 = .ok (.iconst 4, 1) := by decide +kernel
theorem dX11_readNumber_35 : decode cX11_readNumber 35 = .ok (.if_icmp .gt 19, 3) := by decide +kernel
theorem dX11_readNumber_38 : decode cX11_readNumber 38 = .ok (.aload_n 0, 1) := by decide +kernel
theorem dX11_readNumber_39 : decode cX11_readNumber 39 = .ok (.getfield 228, 3) := by decide +kernel
theorem dX11_readNumber_42 : decode cX11_readNumber 42 = .ok (.iload_n 1, 1) := by decide +kernel
theorem dX11_readNumber_43 : decode cX11_readNumber 43 = .ok (.if_icmp .lt 11, 3) := by decide +kernel
theorem dX11_readNumber_46 : decode cX11_readNumber 46 = .ok (.aload_n 0, 1) := by decide +kernel
theorem dX11_readNumber_47 : decode cX11_readNumber 47 = .ok (.getfield 228, 3) := by decide +kernel
theorem dX11_readNumber_50 : decode cX11_readNumber 50 = .ok (.iload_n 2, 1) := by decide +kernel
theorem dX11_readNumber_51 : decode cX11_readNumber 51 = .ok (.if_icmp .le 8, 3) := by decide +kernel
theorem dX11_readNumber_54 : decode cX11_readNumber 54 = .ok (.aload_n 0, 1) := by decide +kernel
theorem dX11_readNumber_55 : decode cX11_readNumber 55 = .ok (.iconst 2, 1) := by decide +kernel
theorem dX11_readNumber_56 : decode cX11_readNumber 56 = .ok (.invokevirtual 265, 3) := by decide +kernel
theorem dX11_readNumber_59 : decode cX11_readNumber 59 = .ok (.aload_n 0, 1) := by decide +kernel
theorem dX11_readNumber_60 : decode cX11_readNumber 60 = .ok (.getfield 244, 3) := by decide +kernel
theorem dX11_readNumber_63 : decode cX11_readNumber 63 = .ok (.ifCond .ne 10, 3) := by decide +kernel
theorem dX11_readNumber_66 : decode cX11_readNumber 66 = .ok (.aload_n 0, 1) := by decide +kernel
theorem dX11_readNumber_67 : decode cX11_readNumber 67 = .ok (.getfield 228, 3) := by decide +kernel
theorem dX11_readNumber_70 : decode cX11_readNumber 70 = .ok (.goto 4, 3) := by decide +kernel
theorem dX11_readNumber_73 : decode cX11_readNumber 73 = .ok (.iconst 0, 1) := by decide +kernel
theorem dX11_readNumber_74 : decode cX11_readNumber 74 = .ok (.istore_n 3, 1) := by decide +kernel
theorem dX11_readNumber_75 : decode cX11_readNumber 75 = .ok (.aload_n 0, 1) := by decide +kernel
theorem dX11_readNumber_76 : decode cX11_readNumber 76 = .ok (.getfield 244, 3) := by decide +kernel
theorem dX11_readNumber_79 : decode cX11_readNumber 79 = .ok (.ifCond .ne 7, 3) := by decide +kernel
theorem dX11_readNumber_82 : decode cX11_readNumber 82 = .ok (.aload_n 0, 1) := by decide +kernel
theorem dX11_readNumber_83 : decode cX11_readNumber 83 = .ok (.invokevirtual 269, 3) := by decide +kernel
theorem dX11_readNumber_86 : decode cX11_readNumber 86 = .ok (.iload_n 3, 1) := by decide +kernel
theorem dX11_readNumber_87 : decode cX11_readNumber 87 = .ok (.ireturn, 1) := by decide +kernel
theorem dX11_lay_0 : decode cX11_lay 0 = .ok (.aload_n 0, 1) := by decide +kernel
theorem dX11_lay_1 : decode cX11_lay 1 = .ok (.getfield 244, 3) := by decide +kernel
theorem dX11_lay_4 : decode cX11_lay 4 = .ok (.ifCond .eq 4, 3) := by decide +kernel
theorem dX11_lay_7 : decode cX11_lay 7 = .ok (.return_, 1) := by decide +kernel
theorem dX11_lay_8 : decode cX11_lay 8 = .ok (.iconst 5, 1) := by decide +kernel
theorem dX11_lay_9 : decode cX11_lay 9 = .ok (.aload_n 0, 1) := by decide +kernel
theorem dX11_lay_10 : decode cX11_lay 10 = .ok (.getfield 272, 3) := by decide +kernel
theorem dX11_lay_13 : decode cX11_lay 13 = .ok (.ifCond .eq 7, 3) := by decide +kernel
theorem dX11_lay_16 : decode cX11_lay 16 = .ok (.iconst 4, 1) := by decide +kernel
theorem dX11_lay_17 : decode cX11_lay 17 = .ok (.goto 4, 3) := by decide +kernel
theorem dX11_lay_20 : decode cX11_lay 20 = .ok (.iconst 3, 1) := by decide +kernel
theorem dX11_lay_21 : decode cX11_lay 21 = .ok (.iadd, 1) := by decide +kernel
theorem dX11_lay_22 : decode cX11_lay 22 = .ok (.istore_n 2, 1) := by decide +kernel
theorem dX11_lay_23 : decode cX11_lay 23 = .ok (.aload_n 0, 1) := by decide +kernel
theorem dX11_lay_24 : decode cX11_lay 24 = .ok (.getfield 272, 3) := by decide +kernel
theorem dX11_lay_27 : decode cX11_lay 27 = .ok (.ifCond .eq 10, 3) := by decide +kernel
theorem dX11_lay_30 : decode cX11_lay 30 = .ok (.aload_n 0, 1) := by decide +kernel
theorem dX11_lay_31 : decode cX11_lay 31 = .ok (.getfield 89, 3) := by decide +kernel
theorem dX11_lay_34 : decode cX11_lay 34 = .ok (.goto 7, 3) := by decide +kernel
theorem dX11_lay_37 : decode cX11_lay 37 = .ok (.aload_n 0, 1) := by decide +kernel
theorem dX11_lay_38 : decode cX11_lay 38 = .ok (.getfield 86, 3) := by decide +kernel
theorem dX11_lay_41 : decode cX11_lay 41 = .ok (.astore_n 3, 1) := by decide +kernel
theorem dX11_lay_42 : decode cX11_lay 42 = .ok (.aload_n 3, 1) := by decide +kernel
theorem dX11_lay_43 : decode cX11_lay 43 = .ok (.sipush 700, 3) := by decide +kernel
theorem dX11_lay_46 : decode cX11_lay 46 = .ok (.aload_n 0, 1) := by decide +kernel
theorem dX11_lay_47 : decode cX11_lay 47 = .ok (.getfield 55, 3) := by decide +kernel
theorem dX11_lay_50 : decode cX11_lay 50 = .ok (.iload_n 2, 1) := by decide +kernel
theorem dX11_lay_51 : decode cX11_lay 51 = .ok (.iaload, 1) := by decide +kernel
theorem dX11_lay_52 : decode cX11_lay 52 = .ok (.iadd, 1) := by decide +kernel
theorem dX11_lay_53 : decode cX11_lay 53 = .ok (.iload_n 1, 1) := by decide +kernel
theorem dX11_lay_54 : decode cX11_lay 54 = .ok (.iastore, 1) := by decide +kernel
theorem dX11_lay_55 : decode cX11_lay 55 = .ok (.aload_n 0, 1) := by decide +kernel
theorem dX11_lay_56 : decode cX11_lay 56 = .ok (.getfield 55, 3) := by decide +kernel
theorem dX11_lay_59 : decode cX11_lay 59 = .ok (.iload_n 2, 1) := by decide +kernel
theorem dX11_lay_60 : decode cX11_lay 60 = .ok (.dup2, 1) := by decide +kernel
theorem dX11_lay_61 : decode cX11_lay 61 = .ok (.iaload, 1) := by decide +kernel
theorem dX11_lay_62 : decode cX11_lay 62 = .ok (.iconst 1, 1) := by decide +kernel
theorem dX11_lay_63 : decode cX11_lay 63 = .ok (.iadd, 1) := by decide +kernel
theorem dX11_lay_64 : decode cX11_lay 64 = .ok (.iastore, 1) := by decide +kernel
theorem dX11_lay_65 : decode cX11_lay 65 = .ok (.return_, 1) := by decide +kernel
theorem dX11_readPart_0 : decode cX11_readPart 0 = .ok (.aload_n 0, 1) := by decide +kernel
theorem dX11_readPart_1 : decode cX11_readPart 1 = .ok (.getfield 244, 3) := by decide +kernel
theorem dX11_readPart_4 : decode cX11_readPart 4 = .ok (.ifCond .eq 4, 3) := by decide +kernel
theorem dX11_readPart_7 : decode cX11_readPart 7 = .ok (.return_, 1) := by decide +kernel
theorem dX11_readPart_8 : decode cX11_readPart 8 = .ok (.aload_n 0, 1) := by decide +kernel
theorem dX11_readPart_9 : decode cX11_readPart 9 = .ok (.getfield 218, 3) := by decide +kernel
theorem dX11_readPart_12 : decode cX11_readPart 12 = .ok (.iconst 2, 1) := by decide +kernel
theorem dX11_readPart_13 : decode cX11_readPart 13 = .ok (.if_icmp .ne 16, 3) := by decide +kernel
theorem dX11_readPart_16 : decode cX11_readPart 16 = .ok (.aload_n 0, 1) := by decide +kernel
theorem dX11_readPart_17 : decode cX11_readPart 17 = .ok (.aload_n 0, 1) := by decide +kernel
theorem dX11_readPart_18 : decode cX11_readPart 18 = .ok (.iconst 0, 1) := by decide +kernel
theorem dX11_readPart_19 : decode cX11_readPart 19 = .ok (.sipush 9999, 3) := by decide +kernel
theorem dX11_readPart_22 : decode cX11_readPart 22 = .ok (.invokevirtual 276, 3) := by decide +kernel
theorem dX11_readPart_25 : decode cX11_readPart 25 = .ok (.invokevirtual 279, 3) := by decide +kernel
theorem dX11_readPart_28 : decode cX11_readPart 28 = .ok (.return_, 1) := by decide +kernel
theorem dX11_readPart_29 : decode cX11_readPart 29 = .ok (.aload_n 0, 1) := by decide +kernel
theorem dX11_readPart_30 : decode cX11_readPart 30 = .ok (.getfield 218, 3) := by decide +kernel
theorem dX11_readPart_33 : decode cX11_readPart 33 = .ok (.iconst 1, 1) := by decide +kernel
theorem dX11_readPart_34 : decode cX11_readPart 34 = .ok (.if_icmp .ne 41, 3) := by decide +kernel
theorem dX11_readPart_37 : decode cX11_readPart 37 = .ok (.aload_n 0, 1) := by decide +kernel
theorem dX11_readPart_38 : decode cX11_readPart 38 = .ok (.aload_n 0, 1) := by decide +kernel
theorem dX11_readPart_39 : decode cX11_readPart 39 = .ok (.getfield 52, 3) := by decide +kernel
theorem dX11_readPart_42 : decode cX11_readPart 42 = .ok (.invokevirtual 282, 3) := by decide +kernel
theorem dX11_readPart_45 : decode cX11_readPart 45 = .ok (.istore_n 2, 1) := by decide +kernel
theorem dX11_readPart_46 : decode cX11_readPart 46 = .ok (.iload_n 2, 1) := by decide +kernel
theorem dX11_readPart_47 : decode cX11_readPart 47 = .ok (.iconst (-1), 1) := by decide +kernel
theorem dX11_readPart_48 : decode cX11_readPart 48 = .ok (.if_icmp .ne 8, 3) := by decide +kernel
theorem dX11_readPart_51 : decode cX11_readPart 51 = .ok (.aload_n 0, 1) := by decide +kernel
theorem dX11_readPart_52 : decode cX11_readPart 52 = .ok (.iconst 3, 1) := by decide +kernel
theorem dX11_readPart_53 : decode cX11_readPart 53 = .ok (.invokevirtual 265, 3) := by decide +kernel
theorem dX11_readPart_56 : decode cX11_readPart 56 = .ok (.aload_n 0, 1) := by decide +kernel
theorem dX11_readPart_57 : decode cX11_readPart 57 = .ok (.iconst (-1), 1) := by decide +kernel
theorem dX11_readPart_58 : decode cX11_readPart 58 = .ok (.iload_n 2, 1) := by decide +kernel
theorem dX11_readPart_59 : decode cX11_readPart 59 = .ok (.isub, 1) := by decide +kernel
theorem dX11_readPart_60 : decode cX11_readPart 60 = .ok (.invokevirtual 279, 3) := by decide +kernel
theorem dX11_readPart_63 : decode cX11_readPart 63 = .ok (.aload_n 0, 1) := by decide +kernel
theorem dX11_readPart_64 : decode cX11_readPart 64 = .ok (.getfield 244, 3) := by decide +kernel
theorem dX11_readPart_67 : decode cX11_readPart 67 = .ok (.ifCond .ne 7, 3) := by decide +kernel
theorem dX11_readPart_70 : decode cX11_readPart 70 = .ok (.aload_n 0, 1) := by decide +kernel
theorem dX11_readPart_71 : decode cX11_readPart 71 = .ok (.invokevirtual 269, 3) := by decide +kernel
theorem dX11_readPart_74 : decode cX11_readPart 74 = .ok (.return_, 1) := by decide +kernel
theorem dX11_readPart_75 : decode cX11_readPart 75 = .ok (.aload_n 0, 1) := by decide +kernel
theorem dX11_readPart_76 : decode cX11_readPart 76 = .ok (.bipush 40, 2) := by decide +kernel
theorem dX11_readPart_78 : decode cX11_readPart 78 = .ok (.invokevirtual 286, 3) := by decide +kernel
theorem dX11_readPart_81 : decode cX11_readPart 81 = .ok (.aload_n 0, 1) := by decide +kernel
theorem dX11_readPart_82 : decode cX11_readPart 82 = .ok (.iload_n 1, 1) := by decide +kernel
theorem dX11_readPart_83 : decode cX11_readPart 83 = .ok (.iconst 1, 1) := by decide +kernel
theorem dX11_readPart_84 : decode cX11_readPart 84 = .ok (.iadd, 1) := by decide +kernel
theorem dX11_readPart_85 : decode cX11_readPart 85 = .ok (.invokevirtual 289, 3) := by decide +kernel
theorem dX11_readPart_88 : decode cX11_readPart 88 = .ok (.aload_n 0, 1) := by decide +kernel
theorem dX11_readPart_89 : decode cX11_readPart 89 = .ok (.bipush 41, 2) := by decide +kernel
theorem dX11_readPart_91 : decode cX11_readPart 91 = .ok (.invokevirtual 286, 3) := by decide +kernel
theorem dX11_readPart_94 : decode cX11_readPart 94 = .ok (.return_, 1) := by decide +kernel
theorem dX11_readProduct_0 : decode cX11_readProduct 0 = .ok (.aload_n 0, 1) := by decide +kernel
theorem dX11_readProduct_1 : decode cX11_readProduct 1 = .ok (.iload_n 1, 1) := by decide +kernel
theorem dX11_readProduct_2 : decode cX11_readProduct 2 = .ok (.invokevirtual 292, 3) := by decide +kernel
theorem dX11_readProduct_5 : decode cX11_readProduct 5 = .ok (.aload_n 0, 1) := by decide +kernel
theorem dX11_readProduct_6 : decode cX11_readProduct 6 = .ok (.bipush 42, 2) := by decide +kernel
theorem dX11_readProduct_8 : decode cX11_readProduct 8 = .ok (.invokevirtual 262, 3) := by decide +kernel
theorem dX11_readProduct_11 : decode cX11_readProduct 11 = .ok (.ifCond .ne 12, 3) := by decide +kernel
theorem dX11_readProduct_14 : decode cX11_readProduct 14 = .ok (.aload_n 0, 1) := by decide +kernel
theorem dX11_readProduct_15 : decode cX11_readProduct 15 = .ok (.bipush 47, 2) := by decide +kernel
theorem dX11_readProduct_17 : decode cX11_readProduct 17 = .ok (.invokevirtual 262, 3) := by decide +kernel
theorem dX11_readProduct_20 : decode cX11_readProduct 20 = .ok (.ifCond .eq 37, 3) := by decide +kernel
theorem dX11_readProduct_23 : decode cX11_readProduct 23 = .ok (.aload_n 0, 1) := by decide +kernel
theorem dX11_readProduct_24 : decode cX11_readProduct 24 = .ok (.bipush 42, 2) := by decide +kernel
theorem dX11_readProduct_26 : decode cX11_readProduct 26 = .ok (.invokevirtual 262, 3) := by decide +kernel
theorem dX11_readProduct_29 : decode cX11_readProduct 29 = .ok (.ifCond .eq 8, 3) := by decide +kernel
theorem dX11_readProduct_32 : decode cX11_readProduct 32 = .ok (.bipush (-22), 2) := by decide +kernel
theorem dX11_readProduct_34 : decode cX11_readProduct 34 = .ok (.goto 5, 3) := by decide +kernel
theorem dX11_readProduct_37 : decode cX11_readProduct 37 = .ok (.bipush (-23), 2) := by decide +kernel
theorem dX11_readProduct_39 : decode cX11_readProduct 39 = .ok (.istore_n 2, 1) := by decide +kernel
theorem dX11_readProduct_40 : decode cX11_readProduct 40 = .ok (.aload_n 0, 1) := by decide +kernel
theorem dX11_readProduct_41 : decode cX11_readProduct 41 = .ok (.invokevirtual 269, 3) := by decide +kernel
theorem dX11_readProduct_44 : decode cX11_readProduct 44 = .ok (.aload_n 0, 1) := by decide +kernel
theorem dX11_readProduct_45 : decode cX11_readProduct 45 = .ok (.iload_n 1, 1) := by decide +kernel
theorem dX11_readProduct_46 : decode cX11_readProduct 46 = .ok (.invokevirtual 292, 3) := by decide +kernel
theorem dX11_readProduct_49 : decode cX11_readProduct 49 = .ok (.aload_n 0, 1) := by decide +kernel
theorem dX11_readProduct_50 : decode cX11_readProduct 50 = .ok (.iload_n 2, 1) := by decide +kernel
theorem dX11_readProduct_51 : decode cX11_readProduct 51 = .ok (.invokevirtual 279, 3) := by decide +kernel
theorem dX11_readProduct_54 : decode cX11_readProduct 54 = .ok (.goto (-49), 3) := by decide +kernel
theorem dX11_readProduct_57 : decode cX11_readProduct 57 = .ok (.return_, 1) := by decide +kernel
theorem dX11_readSum_0 : decode cX11_readSum 0 = .ok (.aload_n 0, 1) := by decide +kernel
theorem dX11_readSum_1 : decode cX11_readSum 1 = .ok (.iload_n 1, 1) := by decide +kernel
theorem dX11_readSum_2 : decode cX11_readSum 2 = .ok (.invokevirtual 295, 3) := by decide +kernel
theorem dX11_readSum_5 : decode cX11_readSum 5 = .ok (.aload_n 0, 1) := by decide +kernel
theorem dX11_readSum_6 : decode cX11_readSum 6 = .ok (.bipush 43, 2) := by decide +kernel
theorem dX11_readSum_8 : decode cX11_readSum 8 = .ok (.invokevirtual 262, 3) := by decide +kernel
theorem dX11_readSum_11 : decode cX11_readSum 11 = .ok (.ifCond .ne 12, 3) := by decide +kernel
theorem dX11_readSum_14 : decode cX11_readSum 14 = .ok (.aload_n 0, 1) := by decide +kernel
theorem dX11_readSum_15 : decode cX11_readSum 15 = .ok (.bipush 45, 2) := by decide +kernel
theorem dX11_readSum_17 : decode cX11_readSum 17 = .ok (.invokevirtual 262, 3) := by decide +kernel
theorem dX11_readSum_20 : decode cX11_readSum 20 = .ok (.ifCond .eq 37, 3) := by decide +kernel
theorem dX11_readSum_23 : decode cX11_readSum 23 = .ok (.aload_n 0, 1) := by decide +kernel
theorem dX11_readSum_24 : decode cX11_readSum 24 = .ok (.bipush 43, 2) := by decide +kernel
theorem dX11_readSum_26 : decode cX11_readSum 26 = .ok (.invokevirtual 262, 3) := by decide +kernel
theorem dX11_readSum_29 : decode cX11_readSum 29 = .ok (.ifCond .eq 8, 3) := by decide +kernel
theorem dX11_readSum_32 : decode cX11_readSum 32 = .ok (.bipush (-20), 2) := by decide +kernel
theorem dX11_readSum_34 : decode cX11_readSum 34 = .ok (.goto 5, 3) := by decide +kernel
theorem dX11_readSum_37 : decode cX11_readSum 37 = .ok (.bipush (-21), 2) := by decide +kernel
theorem dX11_readSum_39 : decode cX11_readSum 39 = .ok (.istore_n 2, 1) := by decide +kernel
theorem dX11_readSum_40 : decode cX11_readSum 40 = .ok (.aload_n 0, 1) := by decide +kernel
theorem dX11_readSum_41 : decode cX11_readSum 41 = .ok (.invokevirtual 269, 3) := by decide +kernel
theorem dX11_readSum_44 : decode cX11_readSum 44 = .ok (.aload_n 0, 1) := by decide +kernel
theorem dX11_readSum_45 : decode cX11_readSum 45 = .ok (.iload_n 1, 1) := by decide +kernel
theorem dX11_readSum_46 : decode cX11_readSum 46 = .ok (.invokevirtual 295, 3) := by decide +kernel
theorem dX11_readSum_49 : decode cX11_readSum 49 = .ok (.aload_n 0, 1) := by decide +kernel
theorem dX11_readSum_50 : decode cX11_readSum 50 = .ok (.iload_n 2, 1) := by decide +kernel
theorem dX11_readSum_51 : decode cX11_readSum 51 = .ok (.invokevirtual 279, 3) := by decide +kernel
theorem dX11_readSum_54 : decode cX11_readSum 54 = .ok (.goto (-49), 3) := by decide +kernel
theorem dX11_readSum_57 : decode cX11_readSum 57 = .ok (.return_, 1) := by decide +kernel
theorem dX11_readNot_0 : decode cX11_readNot 0 = .ok (.iconst 0, 1) := by decide +kernel
theorem dX11_readNot_1 : decode cX11_readNot 1 = .ok (.istore_n 2, 1) := by decide +kernel
theorem dX11_readNot_2 : decode cX11_readNot 2 = .ok (.aload_n 0, 1) := by decide +kernel
theorem dX11_readNot_3 : decode cX11_readNot 3 = .ok (.ldc_w 298, 3) := by decide +kernel
theorem dX11_readNot_6 : decode cX11_readNot 6 = .ok (.invokevirtual 258, 3) := by decide +kernel
theorem dX11_readNot_9 : decode cX11_readNot 9 = .ok (.ifCond .eq 31, 3) := by decide +kernel
theorem dX11_readNot_12 : decode cX11_readNot 12 = .ok (.iload_n 2, 1) := by decide +kernel
theorem dX11_readNot_13 : decode cX11_readNot 13 = .ok (.bipush 6, 2) := by decide +kernel
theorem dX11_readNot_15 : decode cX11_readNot 15 = .ok (.if_icmp .ne 8, 3) := by decide +kernel
theorem dX11_readNot_18 : decode cX11_readNot 18 = .ok (.aload_n 0, 1) := by decide +kernel
theorem dX11_readNot_19 : decode cX11_readNot 19 = .ok (.iconst 2, 1) := by decide +kernel
theorem dX11_readNot_20 : decode cX11_readNot 20 = .ok (.invokevirtual 265, 3) := by decide +kernel
theorem dX11_readNot_23 : decode cX11_readNot 23 = .ok (.iinc 2 1, 3) := by decide +kernel
theorem dX11_readNot_26 : decode cX11_readNot 26 = .ok (.aload_n 0, 1) := by decide +kernel
theorem dX11_readNot_27 : decode cX11_readNot 27 = .ok (.getfield 244, 3) := by decide +kernel
theorem dX11_readNot_30 : decode cX11_readNot 30 = .ok (.ifCond .ne (-28), 3) := by decide +kernel
theorem dX11_readNot_33 : decode cX11_readNot 33 = .ok (.aload_n 0, 1) := by decide +kernel
theorem dX11_readNot_34 : decode cX11_readNot 34 = .ok (.invokevirtual 269, 3) := by decide +kernel
theorem dX11_readNot_37 : decode cX11_readNot 37 = .ok (.goto (-35), 3) := by decide +kernel
theorem dX11_readNot_40 : decode cX11_readNot 40 = .ok (.aload_n 0, 1) := by decide +kernel
theorem dX11_readNot_41 : decode cX11_readNot 41 = .ok (.iload_n 1, 1) := by decide +kernel
theorem dX11_readNot_42 : decode cX11_readNot 42 = .ok (.invokevirtual 300, 3) := by decide +kernel
theorem dX11_readNot_45 : decode cX11_readNot 45 = .ok (.aload_n 0, 1) := by decide +kernel
theorem dX11_readNot_46 : decode cX11_readNot 46 = .ok (.bipush 60, 2) := by decide +kernel
theorem dX11_readNot_48 : decode cX11_readNot 48 = .ok (.invokevirtual 262, 3) := by decide +kernel
theorem dX11_readNot_51 : decode cX11_readNot 51 = .ok (.ifCond .ne 12, 3) := by decide +kernel
theorem dX11_readNot_54 : decode cX11_readNot 54 = .ok (.aload_n 0, 1) := by decide +kernel
theorem dX11_readNot_55 : decode cX11_readNot 55 = .ok (.bipush 61, 2) := by decide +kernel
theorem dX11_readNot_57 : decode cX11_readNot 57 = .ok (.invokevirtual 262, 3) := by decide +kernel
theorem dX11_readNot_60 : decode cX11_readNot 60 = .ok (.ifCond .eq 34, 3) := by decide +kernel
theorem dX11_readNot_63 : decode cX11_readNot 63 = .ok (.aload_n 0, 1) := by decide +kernel
theorem dX11_readNot_64 : decode cX11_readNot 64 = .ok (.bipush 60, 2) := by decide +kernel
theorem dX11_readNot_66 : decode cX11_readNot 66 = .ok (.invokevirtual 262, 3) := by decide +kernel
theorem dX11_readNot_69 : decode cX11_readNot 69 = .ok (.ifCond .eq 8, 3) := by decide +kernel
theorem dX11_readNot_72 : decode cX11_readNot 72 = .ok (.bipush (-24), 2) := by decide +kernel
theorem dX11_readNot_74 : decode cX11_readNot 74 = .ok (.goto 5, 3) := by decide +kernel
theorem dX11_readNot_77 : decode cX11_readNot 77 = .ok (.bipush (-25), 2) := by decide +kernel
theorem dX11_readNot_79 : decode cX11_readNot 79 = .ok (.istore_n 3, 1) := by decide +kernel
theorem dX11_readNot_80 : decode cX11_readNot 80 = .ok (.aload_n 0, 1) := by decide +kernel
theorem dX11_readNot_81 : decode cX11_readNot 81 = .ok (.invokevirtual 269, 3) := by decide +kernel
theorem dX11_readNot_84 : decode cX11_readNot 84 = .ok (.aload_n 0, 1) := by decide +kernel
theorem dX11_readNot_85 : decode cX11_readNot 85 = .ok (.iload_n 1, 1) := by decide +kernel
theorem dX11_readNot_86 : decode cX11_readNot 86 = .ok (.invokevirtual 300, 3) := by decide +kernel
theorem dX11_readNot_89 : decode cX11_readNot 89 = .ok (.aload_n 0, 1) := by decide +kernel
theorem dX11_readNot_90 : decode cX11_readNot 90 = .ok (.iload_n 3, 1) := by decide +kernel
theorem dX11_readNot_91 : decode cX11_readNot 91 = .ok (.invokevirtual 279, 3) := by decide +kernel
theorem dX11_readNot_94 : decode cX11_readNot 94 = .ok (.iconst 0, 1) := by decide +kernel
theorem dX11_readNot_95 : decode cX11_readNot 95 = .ok (.istore_n 3, 1) := by decide +kernel
theorem dX11_readNot_96 : decode cX11_readNot 96 = .ok (.iload_n 3, 1) := by decide +kernel
theorem dX11_readNot_97 : decode cX11_readNot 97 = .ok (.iload_n 2, 1) := by decide +kernel
theorem dX11_readNot_98 : decode cX11_readNot 98 = .ok (.if_icmp .ge 15, 3) := by decide +kernel
theorem dX11_readNot_101 : decode cX11_readNot 101 = .ok (.aload_n 0, 1) := by decide +kernel
theorem dX11_readNot_102 : decode cX11_readNot 102 = .ok (.bipush (-28), 2) := by decide +kernel
theorem dX11_readNot_104 : decode cX11_readNot 104 = .ok (.invokevirtual 279, 3) := by decide +kernel
theorem dX11_readNot_107 : decode cX11_readNot 107 = .ok (.iinc 3 1, 3) := by decide +kernel
theorem dX11_readNot_110 : decode cX11_readNot 110 = .ok (.goto (-14), 3) := by decide +kernel
theorem dX11_readNot_113 : decode cX11_readNot 113 = .ok (.return_, 1) := by decide +kernel
theorem dX11_readAnd_0 : decode cX11_readAnd 0 = .ok (.aload_n 0, 1) := by decide +kernel
theorem dX11_readAnd_1 : decode cX11_readAnd 1 = .ok (.iload_n 1, 1) := by decide +kernel
theorem dX11_readAnd_2 : decode cX11_readAnd 2 = .ok (.invokevirtual 303, 3) := by decide +kernel
theorem dX11_readAnd_5 : decode cX11_readAnd 5 = .ok (.aload_n 0, 1) := by decide +kernel
theorem dX11_readAnd_6 : decode cX11_readAnd 6 = .ok (.ldc_w 306, 3) := by decide +kernel
theorem dX11_readAnd_9 : decode cX11_readAnd 9 = .ok (.invokevirtual 258, 3) := by decide +kernel
theorem dX11_readAnd_12 : decode cX11_readAnd 12 = .ok (.ifCond .eq 21, 3) := by decide +kernel
theorem dX11_readAnd_15 : decode cX11_readAnd 15 = .ok (.aload_n 0, 1) := by decide +kernel
theorem dX11_readAnd_16 : decode cX11_readAnd 16 = .ok (.invokevirtual 269, 3) := by decide +kernel
theorem dX11_readAnd_19 : decode cX11_readAnd 19 = .ok (.aload_n 0, 1) := by decide +kernel
theorem dX11_readAnd_20 : decode cX11_readAnd 20 = .ok (.iload_n 1, 1) := by decide +kernel
theorem dX11_readAnd_21 : decode cX11_readAnd 21 = .ok (.invokevirtual 303, 3) := by decide +kernel
theorem dX11_readAnd_24 : decode cX11_readAnd 24 = .ok (.aload_n 0, 1) := by decide +kernel
theorem dX11_readAnd_25 : decode cX11_readAnd 25 = .ok (.bipush (-26), 2) := by decide +kernel
theorem dX11_readAnd_27 : decode cX11_readAnd 27 = .ok (.invokevirtual 279, 3) := by decide +kernel
theorem dX11_readAnd_30 : decode cX11_readAnd 30 = .ok (.goto (-25), 3) := by decide +kernel
theorem dX11_readAnd_33 : decode cX11_readAnd 33 = .ok (.return_, 1) := by decide +kernel
theorem dX11_readExpression_0 : decode cX11_readExpression 0 = .ok (.aload_n 0, 1) := by decide +kernel
theorem dX11_readExpression_1 : decode cX11_readExpression 1 = .ok (.getfield 244, 3) := by decide +kernel
theorem dX11_readExpression_4 : decode cX11_readExpression 4 = .ok (.ifCond .eq 4, 3) := by decide +kernel
theorem dX11_readExpression_7 : decode cX11_readExpression 7 = .ok (.return_, 1) := by decide +kernel
theorem dX11_readExpression_8 : decode cX11_readExpression 8 = .ok (.aload_n 0, 1) := by decide +kernel
theorem dX11_readExpression_9 : decode cX11_readExpression 9 = .ok (.getfield 218, 3) := by decide +kernel
theorem dX11_readExpression_12 : decode cX11_readExpression 12 = .ok (.iconst 2, 1) := by decide +kernel
theorem dX11_readExpression_13 : decode cX11_readExpression 13 = .ok (.if_icmp .eq 20, 3) := by decide +kernel
theorem dX11_readExpression_16 : decode cX11_readExpression 16 = .ok (.aload_n 0, 1) := by decide +kernel
theorem dX11_readExpression_17 : decode cX11_readExpression 17 = .ok (.getfield 218, 3) := by decide +kernel
theorem dX11_readExpression_20 : decode cX11_readExpression 20 = .ok (.iconst 1, 1) := by decide +kernel
theorem dX11_readExpression_21 : decode cX11_readExpression 21 = .ok (.if_icmp .eq 12, 3) := by decide +kernel
theorem dX11_readExpression_24 : decode cX11_readExpression 24 = .ok (.aload_n 0, 1) := by decide +kernel
theorem dX11_readExpression_25 : decode cX11_readExpression 25 = .ok (.bipush 40, 2) := by decide +kernel
theorem dX11_readExpression_27 : decode cX11_readExpression 27 = .ok (.invokevirtual 262, 3) := by decide +kernel
theorem dX11_readExpression_30 : decode cX11_readExpression 30 = .ok (.ifCond .eq 7, 3) := by decide +kernel
theorem dX11_readExpression_33 : decode cX11_readExpression 33 = .ok (.iconst 1, 1) := by decide +kernel
theorem dX11_readExpression_34 : decode cX11_readExpression 34 = .ok (.goto 4, 3) := by decide +kernel
theorem dX11_readExpression_37 : decode cX11_readExpression 37 = .ok (.iconst 0, 1) := by decide +kernel
theorem dX11_readExpression_38 : decode cX11_readExpression 38 = .ok (.istore_n 2, 1) := by decide +kernel
theorem dX11_readExpression_39 : decode cX11_readExpression 39 = .ok (.iload_n 2, 1) := by decide +kernel
theorem dX11_readExpression_40 : decode cX11_readExpression 40 = .ok (.ifCond .ne 11, 3) := by decide +kernel
theorem dX11_readExpression_43 : decode cX11_readExpression 43 = .ok (.aload_n 0, 1) := by decide +kernel
theorem dX11_readExpression_44 : decode cX11_readExpression 44 = .ok (.iconst 1, 1) := by decide +kernel
theorem dX11_readExpression_45 : decode cX11_readExpression 45 = .ok (.invokevirtual 265, 3) := by decide +kernel
theorem dX11_readExpression_48 : decode cX11_readExpression 48 = .ok (.goto 14, 3) := by decide +kernel
theorem dX11_readExpression_51 : decode cX11_readExpression 51 = .ok (.iload_n 1, 1) := by decide +kernel
theorem dX11_readExpression_52 : decode cX11_readExpression 52 = .ok (.bipush 6, 2) := by decide +kernel
theorem dX11_readExpression_54 : decode cX11_readExpression 54 = .ok (.if_icmp .ne 8, 3) := by decide +kernel
theorem dX11_readExpression_57 : decode cX11_readExpression 57 = .ok (.aload_n 0, 1) := by decide +kernel
theorem dX11_readExpression_58 : decode cX11_readExpression 58 = .ok (.iconst 2, 1) := by decide +kernel
theorem dX11_readExpression_59 : decode cX11_readExpression 59 = .ok (.invokevirtual 265, 3) := by decide +kernel
theorem dX11_readExpression_62 : decode cX11_readExpression 62 = .ok (.aload_n 0, 1) := by decide +kernel
theorem dX11_readExpression_63 : decode cX11_readExpression 63 = .ok (.iload_n 1, 1) := by decide +kernel
theorem dX11_readExpression_64 : decode cX11_readExpression 64 = .ok (.invokevirtual 308, 3) := by decide +kernel
theorem dX11_readExpression_67 : decode cX11_readExpression 67 = .ok (.aload_n 0, 1) := by decide +kernel
theorem dX11_readExpression_68 : decode cX11_readExpression 68 = .ok (.ldc_w 311, 3) := by decide +kernel
theorem dX11_readExpression_71 : decode cX11_readExpression 71 = .ok (.invokevirtual 258, 3) := by decide +kernel
theorem dX11_readExpression_74 : decode cX11_readExpression 74 = .ok (.ifCond .eq 21, 3) := by decide +kernel
theorem dX11_readExpression_77 : decode cX11_readExpression 77 = .ok (.aload_n 0, 1) := by decide +kernel
theorem dX11_readExpression_78 : decode cX11_readExpression 78 = .ok (.invokevirtual 269, 3) := by decide +kernel
theorem dX11_readExpression_81 : decode cX11_readExpression 81 = .ok (.aload_n 0, 1) := by decide +kernel
theorem dX11_readExpression_82 : decode cX11_readExpression 82 = .ok (.iload_n 1, 1) := by decide +kernel
theorem dX11_readExpression_83 : decode cX11_readExpression 83 = .ok (.invokevirtual 308, 3) := by decide +kernel
theorem dX11_readExpression_86 : decode cX11_readExpression 86 = .ok (.aload_n 0, 1) := by decide +kernel
theorem dX11_readExpression_87 : decode cX11_readExpression 87 = .ok (.bipush (-27), 2) := by decide +kernel
theorem dX11_readExpression_89 : decode cX11_readExpression 89 = .ok (.invokevirtual 279, 3) := by decide +kernel
theorem dX11_readExpression_92 : decode cX11_readExpression 92 = .ok (.goto (-25), 3) := by decide +kernel
theorem dX11_readExpression_95 : decode cX11_readExpression 95 = .ok (.return_, 1) := by decide +kernel
theorem dX11_another_0 : decode cX11_another 0 = .ok (.aload_n 0, 1) := by decide +kernel
theorem dX11_another_1 : decode cX11_another 1 = .ok (.getfield 55, 3) := by decide +kernel
theorem dX11_another_4 : decode cX11_another 4 = .ok (.iconst 5, 1) := by decide +kernel
theorem dX11_another_5 : decode cX11_another 5 = .ok (.iload_n 1, 1) := by decide +kernel
theorem dX11_another_6 : decode cX11_another 6 = .ok (.iadd, 1) := by decide +kernel
theorem dX11_another_7 : decode cX11_another 7 = .ok (.iaload, 1) := by decide +kernel
theorem dX11_another_8 : decode cX11_another 8 = .ok (.iload_n 2, 1) := by decide +kernel
theorem dX11_another_9 : decode cX11_another 9 = .ok (.if_icmp .ne 8, 3) := by decide +kernel
theorem dX11_another_12 : decode cX11_another 12 = .ok (.aload_n 0, 1) := by decide +kernel
theorem dX11_another_13 : decode cX11_another 13 = .ok (.iconst 2, 1) := by decide +kernel
theorem dX11_another_14 : decode cX11_another 14 = .ok (.invokevirtual 265, 3) := by decide +kernel
theorem dX11_another_17 : decode cX11_another 17 = .ok (.aload_n 0, 1) := by decide +kernel
theorem dX11_another_18 : decode cX11_another 18 = .ok (.getfield 244, 3) := by decide +kernel
theorem dX11_another_21 : decode cX11_another 21 = .ok (.ifCond .eq 5, 3) := by decide +kernel
theorem dX11_another_24 : decode cX11_another 24 = .ok (.iconst 0, 1) := by decide +kernel
theorem dX11_another_25 : decode cX11_another 25 = .ok (.ireturn, 1) := by decide +kernel
theorem dX11_another_26 : decode cX11_another 26 = .ok (.aload_n 0, 1) := by decide +kernel
theorem dX11_another_27 : decode cX11_another 27 = .ok (.invokevirtual 269, 3) := by decide +kernel
theorem dX11_another_30 : decode cX11_another 30 = .ok (.iconst 1, 1) := by decide +kernel
theorem dX11_another_31 : decode cX11_another 31 = .ok (.ireturn, 1) := by decide +kernel
theorem dX11_sayHouse_0 : decode cX11_sayHouse 0 = .ok (.aload_n 0, 1) := by decide +kernel
theorem dX11_sayHouse_1 : decode cX11_sayHouse 1 = .ok (.iconst 0, 1) := by decide +kernel
theorem dX11_sayHouse_2 : decode cX11_sayHouse 2 = .ok (.bipush 8, 2) := by decide +kernel
theorem dX11_sayHouse_4 : decode cX11_sayHouse 4 = .ok (.invokevirtual 313, 3) := by decide +kernel
theorem dX11_sayHouse_7 : decode cX11_sayHouse 7 = .ok (.ifCond .ne 4, 3) := by decide +kernel
theorem dX11_sayHouse_10 : decode cX11_sayHouse 10 = .ok (.return_, 1) := by decide +kernel
theorem dX11_sayHouse_11 : decode cX11_sayHouse 11 = .ok (.bipush 8, 2) := by decide +kernel
theorem dX11_sayHouse_13 : decode cX11_sayHouse 13 = .ok (.aload_n 0, 1) := by decide +kernel
theorem dX11_sayHouse_14 : decode cX11_sayHouse 14 = .ok (.getfield 55, 3) := by decide +kernel
theorem dX11_sayHouse_17 : decode cX11_sayHouse 17 = .ok (.iconst 5, 1) := by decide +kernel
theorem dX11_sayHouse_18 : decode cX11_sayHouse 18 = .ok (.iaload, 1) := by decide +kernel
theorem dX11_sayHouse_19 : decode cX11_sayHouse 19 = .ok (.iadd, 1) := by decide +kernel
theorem dX11_sayHouse_20 : decode cX11_sayHouse 20 = .ok (.istore_n 2, 1) := by decide +kernel
theorem dX11_sayHouse_21 : decode cX11_sayHouse 21 = .ok (.aload_n 0, 1) := by decide +kernel
theorem dX11_sayHouse_22 : decode cX11_sayHouse 22 = .ok (.getfield 61, 3) := by decide +kernel
theorem dX11_sayHouse_25 : decode cX11_sayHouse 25 = .ok (.iload_n 2, 1) := by decide +kernel
theorem dX11_sayHouse_26 : decode cX11_sayHouse 26 = .ok (.iload_n 1, 1) := by decide +kernel
theorem dX11_sayHouse_27 : decode cX11_sayHouse 27 = .ok (.iastore, 1) := by decide +kernel
theorem dX11_sayHouse_28 : decode cX11_sayHouse 28 = .ok (.aload_n 0, 1) := by decide +kernel
theorem dX11_sayHouse_29 : decode cX11_sayHouse 29 = .ok (.getfield 59, 3) := by decide +kernel
theorem dX11_sayHouse_32 : decode cX11_sayHouse 32 = .ok (.iload_n 2, 1) := by decide +kernel
theorem dX11_sayHouse_33 : decode cX11_sayHouse 33 = .ok (.aload_n 0, 1) := by decide +kernel
theorem dX11_sayHouse_34 : decode cX11_sayHouse 34 = .ok (.iconst 0, 1) := by decide +kernel
theorem dX11_sayHouse_35 : decode cX11_sayHouse 35 = .ok (.bipush 99, 2) := by decide +kernel
theorem dX11_sayHouse_37 : decode cX11_sayHouse 37 = .ok (.invokevirtual 276, 3) := by decide +kernel
theorem dX11_sayHouse_40 : decode cX11_sayHouse 40 = .ok (.iastore, 1) := by decide +kernel
theorem dX11_sayHouse_41 : decode cX11_sayHouse 41 = .ok (.aload_n 0, 1) := by decide +kernel
theorem dX11_sayHouse_42 : decode cX11_sayHouse 42 = .ok (.getfield 63, 3) := by decide +kernel
theorem dX11_sayHouse_45 : decode cX11_sayHouse 45 = .ok (.iload_n 2, 1) := by decide +kernel
theorem dX11_sayHouse_46 : decode cX11_sayHouse 46 = .ok (.aload_n 0, 1) := by decide +kernel
theorem dX11_sayHouse_47 : decode cX11_sayHouse 47 = .ok (.iconst 0, 1) := by decide +kernel
theorem dX11_sayHouse_48 : decode cX11_sayHouse 48 = .ok (.bipush 60, 2) := by decide +kernel
theorem dX11_sayHouse_50 : decode cX11_sayHouse 50 = .ok (.invokevirtual 276, 3) := by decide +kernel
theorem dX11_sayHouse_53 : decode cX11_sayHouse 53 = .ok (.iastore, 1) := by decide +kernel
theorem dX11_sayHouse_54 : decode cX11_sayHouse 54 = .ok (.aload_n 0, 1) := by decide +kernel
theorem dX11_sayHouse_55 : decode cX11_sayHouse 55 = .ok (.getfield 66, 3) := by decide +kernel
theorem dX11_sayHouse_58 : decode cX11_sayHouse 58 = .ok (.iload_n 2, 1) := by decide +kernel
theorem dX11_sayHouse_59 : decode cX11_sayHouse 59 = .ok (.aload_n 0, 1) := by decide +kernel
theorem dX11_sayHouse_60 : decode cX11_sayHouse 60 = .ok (.iconst 0, 1) := by decide +kernel
theorem dX11_sayHouse_61 : decode cX11_sayHouse 61 = .ok (.bipush 9, 2) := by decide +kernel
theorem dX11_sayHouse_63 : decode cX11_sayHouse 63 = .ok (.invokevirtual 276, 3) := by decide +kernel
theorem dX11_sayHouse_66 : decode cX11_sayHouse 66 = .ok (.iastore, 1) := by decide +kernel
theorem dX11_sayHouse_67 : decode cX11_sayHouse 67 = .ok (.aload_n 0, 1) := by decide +kernel
theorem dX11_sayHouse_68 : decode cX11_sayHouse 68 = .ok (.getfield 69, 3) := by decide +kernel
theorem dX11_sayHouse_71 : decode cX11_sayHouse 71 = .ok (.iload_n 2, 1) := by decide +kernel
theorem dX11_sayHouse_72 : decode cX11_sayHouse 72 = .ok (.aload_n 0, 1) := by decide +kernel
theorem dX11_sayHouse_73 : decode cX11_sayHouse 73 = .ok (.iconst 0, 1) := by decide +kernel
theorem dX11_sayHouse_74 : decode cX11_sayHouse 74 = .ok (.iconst 5, 1) := by decide +kernel
theorem dX11_sayHouse_75 : decode cX11_sayHouse 75 = .ok (.invokevirtual 276, 3) := by decide +kernel
theorem dX11_sayHouse_78 : decode cX11_sayHouse 78 = .ok (.iastore, 1) := by decide +kernel
theorem dX11_sayHouse_79 : decode cX11_sayHouse 79 = .ok (.aload_n 0, 1) := by decide +kernel
theorem dX11_sayHouse_80 : decode cX11_sayHouse 80 = .ok (.getfield 55, 3) := by decide +kernel
theorem dX11_sayHouse_83 : decode cX11_sayHouse 83 = .ok (.iconst 5, 1) := by decide +kernel
theorem dX11_sayHouse_84 : decode cX11_sayHouse 84 = .ok (.dup2, 1) := by decide +kernel
theorem dX11_sayHouse_85 : decode cX11_sayHouse 85 = .ok (.iaload, 1) := by decide +kernel
theorem dX11_sayHouse_86 : decode cX11_sayHouse 86 = .ok (.iconst 1, 1) := by decide +kernel
theorem dX11_sayHouse_87 : decode cX11_sayHouse 87 = .ok (.iadd, 1) := by decide +kernel
theorem dX11_sayHouse_88 : decode cX11_sayHouse 88 = .ok (.iastore, 1) := by decide +kernel
theorem dX11_sayHouse_89 : decode cX11_sayHouse 89 = .ok (.return_, 1) := by decide +kernel
theorem dX11_sayTenant_0 : decode cX11_sayTenant 0 = .ok (.aload_n 0, 1) := by decide +kernel
theorem dX11_sayTenant_1 : decode cX11_sayTenant 1 = .ok (.iconst 1, 1) := by decide +kernel
theorem dX11_sayTenant_2 : decode cX11_sayTenant 2 = .ok (.bipush 7, 2) := by decide +kernel
theorem dX11_sayTenant_4 : decode cX11_sayTenant 4 = .ok (.invokevirtual 313, 3) := by decide +kernel
theorem dX11_sayTenant_7 : decode cX11_sayTenant 7 = .ok (.ifCond .ne 4, 3) := by decide +kernel
theorem dX11_sayTenant_10 : decode cX11_sayTenant 10 = .ok (.return_, 1) := by decide +kernel
theorem dX11_sayTenant_11 : decode cX11_sayTenant 11 = .ok (.bipush 7, 2) := by decide +kernel
theorem dX11_sayTenant_13 : decode cX11_sayTenant 13 = .ok (.aload_n 0, 1) := by decide +kernel
theorem dX11_sayTenant_14 : decode cX11_sayTenant 14 = .ok (.getfield 55, 3) := by decide +kernel
theorem dX11_sayTenant_17 : decode cX11_sayTenant 17 = .ok (.bipush 6, 2) := by decide +kernel
theorem dX11_sayTenant_19 : decode cX11_sayTenant 19 = .ok (.iaload, 1) := by decide +kernel
theorem dX11_sayTenant_20 : decode cX11_sayTenant 20 = .ok (.iadd, 1) := by decide +kernel
theorem dX11_sayTenant_21 : decode cX11_sayTenant 21 = .ok (.istore_n 2, 1) := by decide +kernel
theorem dX11_sayTenant_22 : decode cX11_sayTenant 22 = .ok (.aload_n 0, 1) := by decide +kernel
theorem dX11_sayTenant_23 : decode cX11_sayTenant 23 = .ok (.getfield 72, 3) := by decide +kernel
theorem dX11_sayTenant_26 : decode cX11_sayTenant 26 = .ok (.iload_n 2, 1) := by decide +kernel
theorem dX11_sayTenant_27 : decode cX11_sayTenant 27 = .ok (.iload_n 1, 1) := by decide +kernel
theorem dX11_sayTenant_28 : decode cX11_sayTenant 28 = .ok (.iastore, 1) := by decide +kernel
theorem dX11_sayTenant_29 : decode cX11_sayTenant 29 = .ok (.aload_n 0, 1) := by decide +kernel
theorem dX11_sayTenant_30 : decode cX11_sayTenant 30 = .ok (.getfield 77, 3) := by decide +kernel
theorem dX11_sayTenant_33 : decode cX11_sayTenant 33 = .ok (.iload_n 2, 1) := by decide +kernel
theorem dX11_sayTenant_34 : decode cX11_sayTenant 34 = .ok (.aload_n 0, 1) := by decide +kernel
theorem dX11_sayTenant_35 : decode cX11_sayTenant 35 = .ok (.iconst 0, 1) := by decide +kernel
theorem dX11_sayTenant_36 : decode cX11_sayTenant 36 = .ok (.bipush 20, 2) := by decide +kernel
theorem dX11_sayTenant_38 : decode cX11_sayTenant 38 = .ok (.invokevirtual 276, 3) := by decide +kernel
theorem dX11_sayTenant_41 : decode cX11_sayTenant 41 = .ok (.iastore, 1) := by decide +kernel
theorem dX11_sayTenant_42 : decode cX11_sayTenant 42 = .ok (.aload_n 0, 1) := by decide +kernel
theorem dX11_sayTenant_43 : decode cX11_sayTenant 43 = .ok (.getfield 74, 3) := by decide +kernel
theorem dX11_sayTenant_46 : decode cX11_sayTenant 46 = .ok (.iload_n 2, 1) := by decide +kernel
theorem dX11_sayTenant_47 : decode cX11_sayTenant 47 = .ok (.aload_n 0, 1) := by decide +kernel
theorem dX11_sayTenant_48 : decode cX11_sayTenant 48 = .ok (.iconst 0, 1) := by decide +kernel
theorem dX11_sayTenant_49 : decode cX11_sayTenant 49 = .ok (.bipush 9, 2) := by decide +kernel
theorem dX11_sayTenant_51 : decode cX11_sayTenant 51 = .ok (.invokevirtual 276, 3) := by decide +kernel
theorem dX11_sayTenant_54 : decode cX11_sayTenant 54 = .ok (.iastore, 1) := by decide +kernel
theorem dX11_sayTenant_55 : decode cX11_sayTenant 55 = .ok (.aload_n 0, 1) := by decide +kernel
theorem dX11_sayTenant_56 : decode cX11_sayTenant 56 = .ok (.getfield 80, 3) := by decide +kernel
theorem dX11_sayTenant_59 : decode cX11_sayTenant 59 = .ok (.iload_n 2, 1) := by decide +kernel
theorem dX11_sayTenant_60 : decode cX11_sayTenant 60 = .ok (.aload_n 0, 1) := by decide +kernel
theorem dX11_sayTenant_61 : decode cX11_sayTenant 61 = .ok (.iconst 0, 1) := by decide +kernel
theorem dX11_sayTenant_62 : decode cX11_sayTenant 62 = .ok (.iconst 3, 1) := by decide +kernel
theorem dX11_sayTenant_63 : decode cX11_sayTenant 63 = .ok (.invokevirtual 276, 3) := by decide +kernel
theorem dX11_sayTenant_66 : decode cX11_sayTenant 66 = .ok (.iastore, 1) := by decide +kernel
theorem dX11_sayTenant_67 : decode cX11_sayTenant 67 = .ok (.aload_n 0, 1) := by decide +kernel
theorem dX11_sayTenant_68 : decode cX11_sayTenant 68 = .ok (.getfield 83, 3) := by decide +kernel
theorem dX11_sayTenant_71 : decode cX11_sayTenant 71 = .ok (.iload_n 2, 1) := by decide +kernel
theorem dX11_sayTenant_72 : decode cX11_sayTenant 72 = .ok (.aload_n 0, 1) := by decide +kernel
theorem dX11_sayTenant_73 : decode cX11_sayTenant 73 = .ok (.iconst 0, 1) := by decide +kernel
theorem dX11_sayTenant_74 : decode cX11_sayTenant 74 = .ok (.sipush 999, 3) := by decide +kernel
theorem dX11_sayTenant_77 : decode cX11_sayTenant 77 = .ok (.invokevirtual 276, 3) := by decide +kernel
theorem dX11_sayTenant_80 : decode cX11_sayTenant 80 = .ok (.iastore, 1) := by decide +kernel
theorem dX11_sayTenant_81 : decode cX11_sayTenant 81 = .ok (.aload_n 0, 1) := by decide +kernel
theorem dX11_sayTenant_82 : decode cX11_sayTenant 82 = .ok (.getfield 55, 3) := by decide +kernel
theorem dX11_sayTenant_85 : decode cX11_sayTenant 85 = .ok (.bipush 6, 2) := by decide +kernel
theorem dX11_sayTenant_87 : decode cX11_sayTenant 87 = .ok (.dup2, 1) := by decide +kernel
theorem dX11_sayTenant_88 : decode cX11_sayTenant 88 = .ok (.iaload, 1) := by decide +kernel
theorem dX11_sayTenant_89 : decode cX11_sayTenant 89 = .ok (.iconst 1, 1) := by decide +kernel
theorem dX11_sayTenant_90 : decode cX11_sayTenant 90 = .ok (.iadd, 1) := by decide +kernel
theorem dX11_sayTenant_91 : decode cX11_sayTenant 91 = .ok (.iastore, 1) := by decide +kernel
theorem dX11_sayTenant_92 : decode cX11_sayTenant 92 = .ok (.return_, 1) := by decide +kernel
theorem dX11_readLine_0 : decode cX11_readLine 0 = .ok (.aload_n 0, 1) := by decide +kernel
theorem dX11_readLine_1 : decode cX11_readLine 1 = .ok (.aload_n 0, 1) := by decide +kernel
theorem dX11_readLine_2 : decode cX11_readLine 2 = .ok (.getfield 15, 3) := by decide +kernel
theorem dX11_readLine_5 : decode cX11_readLine 5 = .ok (.invokevirtual 282, 3) := by decide +kernel
theorem dX11_readLine_8 : decode cX11_readLine 8 = .ok (.istore_n 2, 1) := by decide +kernel
theorem dX11_readLine_9 : decode cX11_readLine 9 = .ok (.aload_n 0, 1) := by decide +kernel
theorem dX11_readLine_10 : decode cX11_readLine 10 = .ok (.aload_n 0, 1) := by decide +kernel
theorem dX11_readLine_11 : decode cX11_readLine 11 = .ok (.getfield 23, 3) := by decide +kernel
theorem dX11_readLine_14 : decode cX11_readLine 14 = .ok (.invokevirtual 282, 3) := by decide +kernel
theorem dX11_readLine_17 : decode cX11_readLine 17 = .ok (.istore_n 3, 1) := by decide +kernel
theorem dX11_readLine_18 : decode cX11_readLine 18 = .ok (.aload_n 0, 1) := by decide +kernel
theorem dX11_readLine_19 : decode cX11_readLine 19 = .ok (.ldc_w 317, 3) := by decide +kernel
theorem dX11_readLine_22 : decode cX11_readLine 22 = .ok (.invokevirtual 258, 3) := by decide +kernel
theorem dX11_readLine_25 : decode cX11_readLine 25 = .ok (.ifCond .eq 7, 3) := by decide +kernel
theorem dX11_readLine_28 : decode cX11_readLine 28 = .ok (.iconst 1, 1) := by decide +kernel
theorem dX11_readLine_29 : decode cX11_readLine 29 = .ok (.goto 32, 3) := by decide +kernel
theorem dX11_readLine_32 : decode cX11_readLine 32 = .ok (.aload_n 0, 1) := by decide +kernel
theorem dX11_readLine_33 : decode cX11_readLine 33 = .ok (.ldc_w 319, 3) := by decide +kernel
theorem dX11_readLine_36 : decode cX11_readLine 36 = .ok (.invokevirtual 258, 3) := by decide +kernel
theorem dX11_readLine_39 : decode cX11_readLine 39 = .ok (.ifCond .eq 7, 3) := by decide +kernel
theorem dX11_readLine_42 : decode cX11_readLine 42 = .ok (.iconst 2, 1) := by decide +kernel
theorem dX11_readLine_43 : decode cX11_readLine 43 = .ok (.goto 18, 3) := by decide +kernel
theorem dX11_readLine_46 : decode cX11_readLine 46 = .ok (.aload_n 0, 1) := by decide +kernel
theorem dX11_readLine_47 : decode cX11_readLine 47 = .ok (.ldc_w 321, 3) := by decide +kernel
theorem dX11_readLine_50 : decode cX11_readLine 50 = .ok (.invokevirtual 258, 3) := by decide +kernel
theorem dX11_readLine_53 : decode cX11_readLine 53 = .ok (.ifCond .eq 7, 3) := by decide +kernel
theorem dX11_readLine_56 : decode cX11_readLine 56 = .ok (.iconst 4, 1) := by decide +kernel
theorem dX11_readLine_57 : decode cX11_readLine 57 = .ok (.goto 4, 3) := by decide +kernel
theorem dX11_readLine_60 : decode cX11_readLine 60 = .ok (.iconst 0, 1) := by decide +kernel
theorem dX11_readLine_61 : decode cX11_readLine 61 = .ok (.istore 4, 2) := by decide +kernel
theorem dX11_readLine_63 : decode cX11_readLine 63 = .ok (.iload 4, 2) := by decide +kernel
theorem dX11_readLine_65 : decode cX11_readLine 65 = .ok (.iload_n 1, 1) := by decide +kernel
theorem dX11_readLine_66 : decode cX11_readLine 66 = .ok (.iand, 1) := by decide +kernel
theorem dX11_readLine_67 : decode cX11_readLine 67 = .ok (.ifCond .eq 8, 3) := by decide +kernel
theorem dX11_readLine_70 : decode cX11_readLine 70 = .ok (.aload_n 0, 1) := by decide +kernel
theorem dX11_readLine_71 : decode cX11_readLine 71 = .ok (.iconst 5, 1) := by decide +kernel
theorem dX11_readLine_72 : decode cX11_readLine 72 = .ok (.invokevirtual 265, 3) := by decide +kernel
theorem dX11_readLine_75 : decode cX11_readLine 75 = .ok (.iload 4, 2) := by decide +kernel
theorem dX11_readLine_77 : decode cX11_readLine 77 = .ok (.ifCond .le 82, 3) := by decide +kernel
theorem dX11_readLine_80 : decode cX11_readLine 80 = .ok (.aload_n 0, 1) := by decide +kernel
theorem dX11_readLine_81 : decode cX11_readLine 81 = .ok (.getfield 244, 3) := by decide +kernel
theorem dX11_readLine_84 : decode cX11_readLine 84 = .ok (.ifCond .ne 7, 3) := by decide +kernel
theorem dX11_readLine_87 : decode cX11_readLine 87 = .ok (.aload_n 0, 1) := by decide +kernel
theorem dX11_readLine_88 : decode cX11_readLine 88 = .ok (.invokevirtual 269, 3) := by decide +kernel
theorem dX11_readLine_91 : decode cX11_readLine 91 = .ok (.aload_n 0, 1) := by decide +kernel
theorem dX11_readLine_92 : decode cX11_readLine 92 = .ok (.iload 4, 2) := by decide +kernel
theorem dX11_readLine_94 : decode cX11_readLine 94 = .ok (.iconst 4, 1) := by decide +kernel
theorem dX11_readLine_95 : decode cX11_readLine 95 = .ok (.if_icmp .ne 7, 3) := by decide +kernel
theorem dX11_readLine_98 : decode cX11_readLine 98 = .ok (.iconst 1, 1) := by decide +kernel
theorem dX11_readLine_99 : decode cX11_readLine 99 = .ok (.goto 4, 3) := by decide +kernel
theorem dX11_readLine_102 : decode cX11_readLine 102 = .ok (.iconst 0, 1) := by decide +kernel
theorem dX11_readLine_103 : decode cX11_readLine 103 = .ok (.putfield 272, 3) := by decide +kernel
theorem dX11_readLine_106 : decode cX11_readLine 106 = .ok (.aload_n 0, 1) := by decide +kernel
theorem dX11_readLine_107 : decode cX11_readLine 107 = .ok (.aload_n 0, 1) := by decide +kernel
theorem dX11_readLine_108 : decode cX11_readLine 108 = .ok (.getfield 272, 3) := by decide +kernel
theorem dX11_readLine_111 : decode cX11_readLine 111 = .ok (.ifCond .eq 10, 3) := by decide +kernel
theorem dX11_readLine_114 : decode cX11_readLine 114 = .ok (.aload_n 0, 1) := by decide +kernel
theorem dX11_readLine_115 : decode cX11_readLine 115 = .ok (.getfield 49, 3) := by decide +kernel
theorem dX11_readLine_118 : decode cX11_readLine 118 = .ok (.goto 7, 3) := by decide +kernel
theorem dX11_readLine_121 : decode cX11_readLine 121 = .ok (.aload_n 0, 1) := by decide +kernel
theorem dX11_readLine_122 : decode cX11_readLine 122 = .ok (.getfield 46, 3) := by decide +kernel
theorem dX11_readLine_125 : decode cX11_readLine 125 = .ok (.putfield 52, 3) := by decide +kernel
theorem dX11_readLine_128 : decode cX11_readLine 128 = .ok (.iload 4, 2) := by decide +kernel
theorem dX11_readLine_130 : decode cX11_readLine 130 = .ok (.iconst 1, 1) := by decide +kernel
theorem dX11_readLine_131 : decode cX11_readLine 131 = .ok (.if_icmp .ne 20, 3) := by decide +kernel
theorem dX11_readLine_134 : decode cX11_readLine 134 = .ok (.aload_n 0, 1) := by decide +kernel
theorem dX11_readLine_135 : decode cX11_readLine 135 = .ok (.getfield 55, 3) := by decide +kernel
theorem dX11_readLine_138 : decode cX11_readLine 138 = .ok (.bipush 7, 2) := by decide +kernel
theorem dX11_readLine_140 : decode cX11_readLine 140 = .ok (.aload_n 0, 1) := by decide +kernel
theorem dX11_readLine_141 : decode cX11_readLine 141 = .ok (.iconst 1, 1) := by decide +kernel
theorem dX11_readLine_142 : decode cX11_readLine 142 = .ok (.bipush 99, 2) := by decide +kernel
theorem dX11_readLine_144 : decode cX11_readLine 144 = .ok (.invokevirtual 276, 3) := by decide +kernel
theorem dX11_readLine_147 : decode cX11_readLine 147 = .ok (.iastore, 1) := by decide +kernel
theorem dX11_readLine_148 : decode cX11_readLine 148 = .ok (.goto 42, 3) := by decide +kernel
theorem dX11_readLine_151 : decode cX11_readLine 151 = .ok (.aload_n 0, 1) := by decide +kernel
theorem dX11_readLine_152 : decode cX11_readLine 152 = .ok (.iconst 0, 1) := by decide +kernel
theorem dX11_readLine_153 : decode cX11_readLine 153 = .ok (.invokevirtual 289, 3) := by decide +kernel
theorem dX11_readLine_156 : decode cX11_readLine 156 = .ok (.goto 34, 3) := by decide +kernel
theorem dX11_readLine_159 : decode cX11_readLine 159 = .ok (.iload_n 2, 1) := by decide +kernel
theorem dX11_readLine_160 : decode cX11_readLine 160 = .ok (.iconst (-1), 1) := by decide +kernel
theorem dX11_readLine_161 : decode cX11_readLine 161 = .ok (.if_icmp .eq 11, 3) := by decide +kernel
theorem dX11_readLine_164 : decode cX11_readLine 164 = .ok (.aload_n 0, 1) := by decide +kernel
theorem dX11_readLine_165 : decode cX11_readLine 165 = .ok (.iload_n 2, 1) := by decide +kernel
theorem dX11_readLine_166 : decode cX11_readLine 166 = .ok (.invokevirtual 323, 3) := by decide +kernel
theorem dX11_readLine_169 : decode cX11_readLine 169 = .ok (.goto 21, 3) := by decide +kernel
theorem dX11_readLine_172 : decode cX11_readLine 172 = .ok (.iload_n 3, 1) := by decide +kernel
theorem dX11_readLine_173 : decode cX11_readLine 173 = .ok (.iconst (-1), 1) := by decide +kernel
theorem dX11_readLine_174 : decode cX11_readLine 174 = .ok (.if_icmp .eq 11, 3) := by decide +kernel
theorem dX11_readLine_177 : decode cX11_readLine 177 = .ok (.aload_n 0, 1) := by decide +kernel
theorem dX11_readLine_178 : decode cX11_readLine 178 = .ok (.iload_n 3, 1) := by decide +kernel
theorem dX11_readLine_179 : decode cX11_readLine 179 = .ok (.invokevirtual 326, 3) := by decide +kernel
theorem dX11_readLine_182 : decode cX11_readLine 182 = .ok (.goto 8, 3) := by decide +kernel
theorem dX11_readLine_185 : decode cX11_readLine 185 = .ok (.aload_n 0, 1) := by decide +kernel
theorem dX11_readLine_186 : decode cX11_readLine 186 = .ok (.iconst 1, 1) := by decide +kernel
theorem dX11_readLine_187 : decode cX11_readLine 187 = .ok (.invokevirtual 265, 3) := by decide +kernel
theorem dX11_readLine_190 : decode cX11_readLine 190 = .ok (.aload_n 0, 1) := by decide +kernel
theorem dX11_readLine_191 : decode cX11_readLine 191 = .ok (.bipush 59, 2) := by decide +kernel
theorem dX11_readLine_193 : decode cX11_readLine 193 = .ok (.invokevirtual 286, 3) := by decide +kernel
theorem dX11_readLine_196 : decode cX11_readLine 196 = .ok (.iload_n 1, 1) := by decide +kernel
theorem dX11_readLine_197 : decode cX11_readLine 197 = .ok (.iload 4, 2) := by decide +kernel
theorem dX11_readLine_199 : decode cX11_readLine 199 = .ok (.ior, 1) := by decide +kernel
theorem dX11_readLine_200 : decode cX11_readLine 200 = .ok (.ireturn, 1) := by decide +kernel
theorem dX11_terrace_0 : decode cX11_terrace 0 = .ok (.aload_n 0, 1) := by decide +kernel
theorem dX11_terrace_1 : decode cX11_terrace 1 = .ok (.iconst 0, 1) := by decide +kernel
theorem dX11_terrace_2 : decode cX11_terrace 2 = .ok (.putfield 195, 3) := by decide +kernel
theorem dX11_terrace_5 : decode cX11_terrace 5 = .ok (.iload_n 1, 1) := by decide +kernel
theorem dX11_terrace_6 : decode cX11_terrace 6 = .ok (.ifCond .lt 11, 3) := by decide +kernel
theorem dX11_terrace_9 : decode cX11_terrace 9 = .ok (.iload_n 1, 1) := by decide +kernel
theorem dX11_terrace_10 : decode cX11_terrace 10 = .ok (.aload_n 0, 1) := by decide +kernel
theorem dX11_terrace_11 : decode cX11_terrace 11 = .ok (.getfield 202, 3) := by decide +kernel
theorem dX11_terrace_14 : decode cX11_terrace 14 = .ok (.if_icmp .le 9, 3) := by decide +kernel
theorem dX11_terrace_17 : decode cX11_terrace 17 = .ok (.aload_n 0, 1) := by decide +kernel
theorem dX11_terrace_18 : decode cX11_terrace 18 = .ok (.iconst 1, 1) := by decide +kernel
theorem dX11_terrace_19 : decode cX11_terrace 19 = .ok (.invokevirtual 329, 3) := by decide +kernel
theorem dX11_terrace_22 : decode cX11_terrace 22 = .ok (.ireturn, 1) := by decide +kernel
theorem dX11_terrace_23 : decode cX11_terrace 23 = .ok (.aload_n 0, 1) := by decide +kernel
theorem dX11_terrace_24 : decode cX11_terrace 24 = .ok (.iconst 0, 1) := by decide +kernel
theorem dX11_terrace_25 : decode cX11_terrace 25 = .ok (.putfield 202, 3) := by decide +kernel
theorem dX11_terrace_28 : decode cX11_terrace 28 = .ok (.aload_n 0, 1) := by decide +kernel
theorem dX11_terrace_29 : decode cX11_terrace 29 = .ok (.iload_n 1, 1) := by decide +kernel
theorem dX11_terrace_30 : decode cX11_terrace 30 = .ok (.putfield 205, 3) := by decide +kernel
theorem dX11_terrace_33 : decode cX11_terrace 33 = .ok (.aload_n 0, 1) := by decide +kernel
theorem dX11_terrace_34 : decode cX11_terrace 34 = .ok (.iconst 0, 1) := by decide +kernel
theorem dX11_terrace_35 : decode cX11_terrace 35 = .ok (.putfield 208, 3) := by decide +kernel
theorem dX11_terrace_38 : decode cX11_terrace 38 = .ok (.aload_n 0, 1) := by decide +kernel
theorem dX11_terrace_39 : decode cX11_terrace 39 = .ok (.iconst 0, 1) := by decide +kernel
theorem dX11_terrace_40 : decode cX11_terrace 40 = .ok (.putfield 244, 3) := by decide +kernel
theorem dX11_terrace_43 : decode cX11_terrace 43 = .ok (.aload_n 0, 1) := by decide +kernel
theorem dX11_terrace_44 : decode cX11_terrace 44 = .ok (.iconst (-1), 1) := by decide +kernel
theorem dX11_terrace_45 : decode cX11_terrace 45 = .ok (.putfield 98, 3) := by decide +kernel
theorem dX11_terrace_48 : decode cX11_terrace 48 = .ok (.iconst 0, 1) := by decide +kernel
theorem dX11_terrace_49 : decode cX11_terrace 49 = .ok (.istore_n 2, 1) := by decide +kernel
theorem dX11_terrace_50 : decode cX11_terrace 50 = .ok (.iload_n 2, 1) := by decide +kernel
theorem dX11_terrace_51 : decode cX11_terrace 51 = .ok (.iconst 5, 1) := by decide +kernel
theorem dX11_terrace_52 : decode cX11_terrace 52 = .ok (.if_icmp .ge 28, 3) := by decide +kernel
theorem dX11_terrace_55 : decode cX11_terrace 55 = .ok (.aload_n 0, 1) := by decide +kernel
theorem dX11_terrace_56 : decode cX11_terrace 56 = .ok (.getfield 55, 3) := by decide +kernel
theorem dX11_terrace_59 : decode cX11_terrace 59 = .ok (.iconst 5, 1) := by decide +kernel
theorem dX11_terrace_60 : decode cX11_terrace 60 = .ok (.iload_n 2, 1) := by decide +kernel
theorem dX11_terrace_61 : decode cX11_terrace 61 = .ok (.iadd, 1) := by decide +kernel
theorem dX11_terrace_62 : decode cX11_terrace 62 = .ok (.iload_n 2, 1) := by decide +kernel
theorem dX11_terrace_63 : decode cX11_terrace 63 = .ok (.iconst 2, 1) := by decide +kernel
theorem dX11_terrace_64 : decode cX11_terrace 64 = .ok (.if_icmp .ne 8, 3) := by decide +kernel
theorem dX11_terrace_67 : decode cX11_terrace 67 = .ok (.bipush 40, 2) := by decide +kernel
theorem dX11_terrace_69 : decode cX11_terrace 69 = .ok (.goto 4, 3) := by decide +kernel
theorem dX11_terrace_72 : decode cX11_terrace 72 = .ok (.iconst 0, 1) := by decide +kernel
theorem dX11_terrace_73 : decode cX11_terrace 73 = .ok (.iastore, 1) := by decide +kernel
theorem dX11_terrace_74 : decode cX11_terrace 74 = .ok (.iinc 2 1, 3) := by decide +kernel
theorem dX11_terrace_77 : decode cX11_terrace 77 = .ok (.goto (-27), 3) := by decide +kernel
theorem dX11_terrace_80 : decode cX11_terrace 80 = .ok (.aload_n 0, 1) := by decide +kernel
theorem dX11_terrace_81 : decode cX11_terrace 81 = .ok (.invokevirtual 269, 3) := by decide +kernel
theorem dX11_terrace_84 : decode cX11_terrace 84 = .ok (.iconst 0, 1) := by decide +kernel
theorem dX11_terrace_85 : decode cX11_terrace 85 = .ok (.istore_n 2, 1) := by decide +kernel
theorem dX11_terrace_86 : decode cX11_terrace 86 = .ok (.aload_n 0, 1) := by decide +kernel
theorem dX11_terrace_87 : decode cX11_terrace 87 = .ok (.getfield 244, 3) := by decide +kernel
theorem dX11_terrace_90 : decode cX11_terrace 90 = .ok (.ifCond .ne 19, 3) := by decide +kernel
theorem dX11_terrace_93 : decode cX11_terrace 93 = .ok (.aload_n 0, 1) := by decide +kernel
theorem dX11_terrace_94 : decode cX11_terrace 94 = .ok (.getfield 218, 3) := by decide +kernel
theorem dX11_terrace_97 : decode cX11_terrace 97 = .ok (.ifCond .eq 12, 3) := by decide +kernel
theorem dX11_terrace_100 : decode cX11_terrace 100 = .ok (.aload_n 0, 1) := by decide +kernel
theorem dX11_terrace_101 : decode cX11_terrace 101 = .ok (.iload_n 2, 1) := by decide +kernel
theorem dX11_terrace_102 : decode cX11_terrace 102 = .ok (.invokevirtual 332, 3) := by decide +kernel
theorem dX11_terrace_105 : decode cX11_terrace 105 = .ok (.istore_n 2, 1) := by decide +kernel
theorem dX11_terrace_106 : decode cX11_terrace 106 = .ok (.goto (-20), 3) := by decide +kernel
theorem dX11_terrace_109 : decode cX11_terrace 109 = .ok (.aload_n 0, 1) := by decide +kernel
theorem dX11_terrace_110 : decode cX11_terrace 110 = .ok (.getfield 244, 3) := by decide +kernel
theorem dX11_terrace_113 : decode cX11_terrace 113 = .ok (.ifCond .eq 26, 3) := by decide +kernel
theorem dX11_terrace_116 : decode cX11_terrace 116 = .ok (.aload_n 0, 1) := by decide +kernel
theorem dX11_terrace_117 : decode cX11_terrace 117 = .ok (.aload_n 0, 1) := by decide +kernel
theorem dX11_terrace_118 : decode cX11_terrace 118 = .ok (.getfield 247, 3) := by decide +kernel
theorem dX11_terrace_121 : decode cX11_terrace 121 = .ok (.putfield 98, 3) := by decide +kernel
theorem dX11_terrace_124 : decode cX11_terrace 124 = .ok (.aload_n 0, 1) := by decide +kernel
theorem dX11_terrace_125 : decode cX11_terrace 125 = .ok (.getfield 92, 3) := by decide +kernel
theorem dX11_terrace_128 : decode cX11_terrace 128 = .ok (.iconst 0, 1) := by decide +kernel
theorem dX11_terrace_129 : decode cX11_terrace 129 = .ok (.dup2, 1) := by decide +kernel
theorem dX11_terrace_130 : decode cX11_terrace 130 = .ok (.iaload, 1) := by decide +kernel
theorem dX11_terrace_131 : decode cX11_terrace 131 = .ok (.iconst 1, 1) := by decide +kernel
theorem dX11_terrace_132 : decode cX11_terrace 132 = .ok (.iadd, 1) := by decide +kernel
theorem dX11_terrace_133 : decode cX11_terrace 133 = .ok (.iastore, 1) := by decide +kernel
theorem dX11_terrace_134 : decode cX11_terrace 134 = .ok (.aload_n 0, 1) := by decide +kernel
theorem dX11_terrace_135 : decode cX11_terrace 135 = .ok (.getfield 244, 3) := by decide +kernel
theorem dX11_terrace_138 : decode cX11_terrace 138 = .ok (.ireturn, 1) := by decide +kernel
theorem dX11_terrace_139 : decode cX11_terrace 139 = .ok (.aload_n 0, 1) := by decide +kernel
theorem dX11_terrace_140 : decode cX11_terrace 140 = .ok (.invokevirtual 335, 3) := by decide +kernel
theorem dX11_terrace_143 : decode cX11_terrace 143 = .ok (.iconst 0, 1) := by decide +kernel
theorem dX11_terrace_144 : decode cX11_terrace 144 = .ok (.ireturn, 1) := by decide +kernel
theorem dX11_takeHalf_0 : decode cX11_takeHalf 0 = .ok (.iconst 0, 1) := by decide +kernel
theorem dX11_takeHalf_1 : decode cX11_takeHalf 1 = .ok (.istore_n 1, 1) := by decide +kernel
theorem dX11_takeHalf_2 : decode cX11_takeHalf 2 = .ok (.iload_n 1, 1) := by decide +kernel
theorem dX11_takeHalf_3 : decode cX11_takeHalf 3 = .ok (.aload_n 0, 1) := by decide +kernel
theorem dX11_takeHalf_4 : decode cX11_takeHalf 4 = .ok (.arraylength, 1) := by decide +kernel
theorem dX11_takeHalf_5 : decode cX11_takeHalf 5 = .ok (.iconst 2, 1) := by decide +kernel
theorem dX11_takeHalf_6 : decode cX11_takeHalf 6 = .ok (.idiv, 1) := by decide +kernel
theorem dX11_takeHalf_7 : decode cX11_takeHalf 7 = .ok (.if_icmp .ge 20, 3) := by decide +kernel
theorem dX11_takeHalf_10 : decode cX11_takeHalf 10 = .ok (.aload_n 0, 1) := by decide +kernel
theorem dX11_takeHalf_11 : decode cX11_takeHalf 11 = .ok (.iload_n 1, 1) := by decide +kernel
theorem dX11_takeHalf_12 : decode cX11_takeHalf 12 = .ok (.aload_n 0, 1) := by decide +kernel
theorem dX11_takeHalf_13 : decode cX11_takeHalf 13 = .ok (.aload_n 0, 1) := by decide +kernel
theorem dX11_takeHalf_14 : decode cX11_takeHalf 14 = .ok (.arraylength, 1) := by decide +kernel
theorem dX11_takeHalf_15 : decode cX11_takeHalf 15 = .ok (.iconst 2, 1) := by decide +kernel
theorem dX11_takeHalf_16 : decode cX11_takeHalf 16 = .ok (.idiv, 1) := by decide +kernel
theorem dX11_takeHalf_17 : decode cX11_takeHalf 17 = .ok (.iload_n 1, 1) := by decide +kernel
theorem dX11_takeHalf_18 : decode cX11_takeHalf 18 = .ok (.iadd, 1) := by decide +kernel
theorem dX11_takeHalf_19 : decode cX11_takeHalf 19 = .ok (.iaload, 1) := by decide +kernel
theorem dX11_takeHalf_20 : decode cX11_takeHalf 20 = .ok (.iastore, 1) := by decide +kernel
theorem dX11_takeHalf_21 : decode cX11_takeHalf 21 = .ok (.iinc 1 1, 3) := by decide +kernel
theorem dX11_takeHalf_24 : decode cX11_takeHalf 24 = .ok (.goto (-22), 3) := by decide +kernel
theorem dX11_takeHalf_27 : decode cX11_takeHalf 27 = .ok (.return_, 1) := by decide +kernel
theorem dX11_takeOver_0 : decode cX11_takeOver 0 = .ok (.aload_n 0, 1) := by decide +kernel
theorem dX11_takeOver_1 : decode cX11_takeOver 1 = .ok (.getfield 55, 3) := by decide +kernel
theorem dX11_takeOver_4 : decode cX11_takeOver 4 = .ok (.invokestatic 338, 3) := by decide +kernel
theorem dX11_takeOver_7 : decode cX11_takeOver 7 = .ok (.aload_n 0, 1) := by decide +kernel
theorem dX11_takeOver_8 : decode cX11_takeOver 8 = .ok (.getfield 59, 3) := by decide +kernel
theorem dX11_takeOver_11 : decode cX11_takeOver 11 = .ok (.invokestatic 338, 3) := by decide +kernel
theorem dX11_takeOver_14 : decode cX11_takeOver 14 = .ok (.aload_n 0, 1) := by decide +kernel
theorem dX11_takeOver_15 : decode cX11_takeOver 15 = .ok (.getfield 61, 3) := by decide +kernel
theorem dX11_takeOver_18 : decode cX11_takeOver 18 = .ok (.invokestatic 338, 3) := by decide +kernel
theorem dX11_takeOver_21 : decode cX11_takeOver 21 = .ok (.aload_n 0, 1) := by decide +kernel
theorem dX11_takeOver_22 : decode cX11_takeOver 22 = .ok (.getfield 63, 3) := by decide +kernel
theorem dX11_takeOver_25 : decode cX11_takeOver 25 = .ok (.invokestatic 338, 3) := by decide +kernel
theorem dX11_takeOver_28 : decode cX11_takeOver 28 = .ok (.aload_n 0, 1) := by decide +kernel
theorem dX11_takeOver_29 : decode cX11_takeOver 29 = .ok (.getfield 66, 3) := by decide +kernel
theorem dX11_takeOver_32 : decode cX11_takeOver 32 = .ok (.invokestatic 338, 3) := by decide +kernel
theorem dX11_takeOver_35 : decode cX11_takeOver 35 = .ok (.aload_n 0, 1) := by decide +kernel
theorem dX11_takeOver_36 : decode cX11_takeOver 36 = .ok (.getfield 69, 3) := by decide +kernel
theorem dX11_takeOver_39 : decode cX11_takeOver 39 = .ok (.invokestatic 338, 3) := by decide +kernel
theorem dX11_takeOver_42 : decode cX11_takeOver 42 = .ok (.aload_n 0, 1) := by decide +kernel
theorem dX11_takeOver_43 : decode cX11_takeOver 43 = .ok (.getfield 72, 3) := by decide +kernel
theorem dX11_takeOver_46 : decode cX11_takeOver 46 = .ok (.invokestatic 338, 3) := by decide +kernel
theorem dX11_takeOver_49 : decode cX11_takeOver 49 = .ok (.aload_n 0, 1) := by decide +kernel
theorem dX11_takeOver_50 : decode cX11_takeOver 50 = .ok (.getfield 74, 3) := by decide +kernel
theorem dX11_takeOver_53 : decode cX11_takeOver 53 = .ok (.invokestatic 338, 3) := by decide +kernel
theorem dX11_takeOver_56 : decode cX11_takeOver 56 = .ok (.aload_n 0, 1) := by decide +kernel
theorem dX11_takeOver_57 : decode cX11_takeOver 57 = .ok (.getfield 77, 3) := by decide +kernel
theorem dX11_takeOver_60 : decode cX11_takeOver 60 = .ok (.invokestatic 338, 3) := by decide +kernel
theorem dX11_takeOver_63 : decode cX11_takeOver 63 = .ok (.aload_n 0, 1) := by decide +kernel
theorem dX11_takeOver_64 : decode cX11_takeOver 64 = .ok (.getfield 80, 3) := by decide +kernel
theorem dX11_takeOver_67 : decode cX11_takeOver 67 = .ok (.invokestatic 338, 3) := by decide +kernel
theorem dX11_takeOver_70 : decode cX11_takeOver 70 = .ok (.aload_n 0, 1) := by decide +kernel
theorem dX11_takeOver_71 : decode cX11_takeOver 71 = .ok (.getfield 83, 3) := by decide +kernel
theorem dX11_takeOver_74 : decode cX11_takeOver 74 = .ok (.invokestatic 338, 3) := by decide +kernel
theorem dX11_takeOver_77 : decode cX11_takeOver 77 = .ok (.aload_n 0, 1) := by decide +kernel
theorem dX11_takeOver_78 : decode cX11_takeOver 78 = .ok (.getfield 86, 3) := by decide +kernel
theorem dX11_takeOver_81 : decode cX11_takeOver 81 = .ok (.invokestatic 338, 3) := by decide +kernel
theorem dX11_takeOver_84 : decode cX11_takeOver 84 = .ok (.aload_n 0, 1) := by decide +kernel
theorem dX11_takeOver_85 : decode cX11_takeOver 85 = .ok (.getfield 89, 3) := by decide +kernel
theorem dX11_takeOver_88 : decode cX11_takeOver 88 = .ok (.invokestatic 338, 3) := by decide +kernel
theorem dX11_takeOver_91 : decode cX11_takeOver 91 = .ok (.aload_n 0, 1) := by decide +kernel
theorem dX11_takeOver_92 : decode cX11_takeOver 92 = .ok (.iconst 0, 1) := by decide +kernel
theorem dX11_takeOver_93 : decode cX11_takeOver 93 = .ok (.putfield 342, 3) := by decide +kernel
theorem dX11_takeOver_96 : decode cX11_takeOver 96 = .ok (.aload_n 0, 1) := by decide +kernel
theorem dX11_takeOver_97 : decode cX11_takeOver 97 = .ok (.iconst 0, 1) := by decide +kernel
theorem dX11_takeOver_98 : decode cX11_takeOver 98 = .ok (.putfield 344, 3) := by decide +kernel
theorem dX11_takeOver_101 : decode cX11_takeOver 101 = .ok (.aload_n 0, 1) := by decide +kernel
theorem dX11_takeOver_102 : decode cX11_takeOver 102 = .ok (.iconst 0, 1) := by decide +kernel
theorem dX11_takeOver_103 : decode cX11_takeOver 103 = .ok (.putfield 347, 3) := by decide +kernel
theorem dX11_takeOver_106 : decode cX11_takeOver 106 = .ok (.iconst 0, 1) := by decide +kernel
theorem dX11_takeOver_107 : decode cX11_takeOver 107 = .ok (.istore_n 1, 1) := by decide +kernel
theorem dX11_takeOver_108 : decode cX11_takeOver 108 = .ok (.iload_n 1, 1) := by decide +kernel
theorem dX11_takeOver_109 : decode cX11_takeOver 109 = .ok (.bipush 8, 2) := by decide +kernel
theorem dX11_takeOver_111 : decode cX11_takeOver 111 = .ok (.if_icmp .ge 99, 3) := by decide +kernel
theorem dX11_takeOver_114 : decode cX11_takeOver 114 = .ok (.iload_n 1, 1) := by decide +kernel
theorem dX11_takeOver_115 : decode cX11_takeOver 115 = .ok (.aload_n 0, 1) := by decide +kernel
theorem dX11_takeOver_116 : decode cX11_takeOver 116 = .ok (.getfield 55, 3) := by decide +kernel
theorem dX11_takeOver_119 : decode cX11_takeOver 119 = .ok (.iconst 0, 1) := by decide +kernel
theorem dX11_takeOver_120 : decode cX11_takeOver 120 = .ok (.iaload, 1) := by decide +kernel
theorem dX11_takeOver_121 : decode cX11_takeOver 121 = .ok (.if_icmp .ge 7, 3) := by decide +kernel
theorem dX11_takeOver_124 : decode cX11_takeOver 124 = .ok (.iconst 1, 1) := by decide +kernel
theorem dX11_takeOver_125 : decode cX11_takeOver 125 = .ok (.goto 4, 3) := by decide +kernel
theorem dX11_takeOver_128 : decode cX11_takeOver 128 = .ok (.iconst 0, 1) := by decide +kernel
theorem dX11_takeOver_129 : decode cX11_takeOver 129 = .ok (.istore_n 2, 1) := by decide +kernel
theorem dX11_takeOver_130 : decode cX11_takeOver 130 = .ok (.aload_n 0, 1) := by decide +kernel
theorem dX11_takeOver_131 : decode cX11_takeOver 131 = .ok (.getfield 102, 3) := by decide +kernel
theorem dX11_takeOver_134 : decode cX11_takeOver 134 = .ok (.iload_n 1, 1) := by decide +kernel
theorem dX11_takeOver_135 : decode cX11_takeOver 135 = .ok (.iload_n 2, 1) := by decide +kernel
theorem dX11_takeOver_136 : decode cX11_takeOver 136 = .ok (.ifCond .eq 12, 3) := by decide +kernel
theorem dX11_takeOver_139 : decode cX11_takeOver 139 = .ok (.aload_n 0, 1) := by decide +kernel
theorem dX11_takeOver_140 : decode cX11_takeOver 140 = .ok (.getfield 63, 3) := by decide +kernel
theorem dX11_takeOver_143 : decode cX11_takeOver 143 = .ok (.iload_n 1, 1) := by decide +kernel
theorem dX11_takeOver_144 : decode cX11_takeOver 144 = .ok (.iaload, 1) := by decide +kernel
theorem dX11_takeOver_145 : decode cX11_takeOver 145 = .ok (.goto 4, 3) := by decide +kernel
theorem dX11_takeOver_148 : decode cX11_takeOver 148 = .ok (.iconst 0, 1) := by decide +kernel
theorem dX11_takeOver_149 : decode cX11_takeOver 149 = .ok (.iastore, 1) := by decide +kernel
theorem dX11_takeOver_150 : decode cX11_takeOver 150 = .ok (.aload_n 0, 1) := by decide +kernel
theorem dX11_takeOver_151 : decode cX11_takeOver 151 = .ok (.getfield 104, 3) := by decide +kernel
theorem dX11_takeOver_154 : decode cX11_takeOver 154 = .ok (.iload_n 1, 1) := by decide +kernel
theorem dX11_takeOver_155 : decode cX11_takeOver 155 = .ok (.iload_n 2, 1) := by decide +kernel
theorem dX11_takeOver_156 : decode cX11_takeOver 156 = .ok (.ifCond .eq 12, 3) := by decide +kernel
theorem dX11_takeOver_159 : decode cX11_takeOver 159 = .ok (.aload_n 0, 1) := by decide +kernel
theorem dX11_takeOver_160 : decode cX11_takeOver 160 = .ok (.getfield 66, 3) := by decide +kernel
theorem dX11_takeOver_163 : decode cX11_takeOver 163 = .ok (.iload_n 1, 1) := by decide +kernel
theorem dX11_takeOver_164 : decode cX11_takeOver 164 = .ok (.iaload, 1) := by decide +kernel
theorem dX11_takeOver_165 : decode cX11_takeOver 165 = .ok (.goto 4, 3) := by decide +kernel
theorem dX11_takeOver_168 : decode cX11_takeOver 168 = .ok (.iconst 0, 1) := by decide +kernel
theorem dX11_takeOver_169 : decode cX11_takeOver 169 = .ok (.iastore, 1) := by decide +kernel
theorem dX11_takeOver_170 : decode cX11_takeOver 170 = .ok (.aload_n 0, 1) := by decide +kernel
theorem dX11_takeOver_171 : decode cX11_takeOver 171 = .ok (.getfield 107, 3) := by decide +kernel
theorem dX11_takeOver_174 : decode cX11_takeOver 174 = .ok (.iload_n 1, 1) := by decide +kernel
theorem dX11_takeOver_175 : decode cX11_takeOver 175 = .ok (.iload_n 2, 1) := by decide +kernel
theorem dX11_takeOver_176 : decode cX11_takeOver 176 = .ok (.ifCond .eq 12, 3) := by decide +kernel
theorem dX11_takeOver_179 : decode cX11_takeOver 179 = .ok (.aload_n 0, 1) := by decide +kernel
theorem dX11_takeOver_180 : decode cX11_takeOver 180 = .ok (.getfield 69, 3) := by decide +kernel
theorem dX11_takeOver_183 : decode cX11_takeOver 183 = .ok (.iload_n 1, 1) := by decide +kernel
theorem dX11_takeOver_184 : decode cX11_takeOver 184 = .ok (.iaload, 1) := by decide +kernel
theorem dX11_takeOver_185 : decode cX11_takeOver 185 = .ok (.goto 4, 3) := by decide +kernel
theorem dX11_takeOver_188 : decode cX11_takeOver 188 = .ok (.iconst 0, 1) := by decide +kernel
theorem dX11_takeOver_189 : decode cX11_takeOver 189 = .ok (.iastore, 1) := by decide +kernel
theorem dX11_takeOver_190 : decode cX11_takeOver 190 = .ok (.aload_n 0, 1) := by decide +kernel
theorem dX11_takeOver_191 : decode cX11_takeOver 191 = .ok (.getfield 110, 3) := by decide +kernel
theorem dX11_takeOver_194 : decode cX11_takeOver 194 = .ok (.iload_n 1, 1) := by decide +kernel
theorem dX11_takeOver_195 : decode cX11_takeOver 195 = .ok (.iconst (-1), 1) := by decide +kernel
theorem dX11_takeOver_196 : decode cX11_takeOver 196 = .ok (.iastore, 1) := by decide +kernel
theorem dX11_takeOver_197 : decode cX11_takeOver 197 = .ok (.aload_n 0, 1) := by decide +kernel
theorem dX11_takeOver_198 : decode cX11_takeOver 198 = .ok (.getfield 113, 3) := by decide +kernel
theorem dX11_takeOver_201 : decode cX11_takeOver 201 = .ok (.iload_n 1, 1) := by decide +kernel
theorem dX11_takeOver_202 : decode cX11_takeOver 202 = .ok (.iconst 0, 1) := by decide +kernel
theorem dX11_takeOver_203 : decode cX11_takeOver 203 = .ok (.iastore, 1) := by decide +kernel
theorem dX11_takeOver_204 : decode cX11_takeOver 204 = .ok (.iinc 1 1, 3) := by decide +kernel
theorem dX11_takeOver_207 : decode cX11_takeOver 207 = .ok (.goto (-99), 3) := by decide +kernel
theorem dX11_takeOver_210 : decode cX11_takeOver 210 = .ok (.iconst 0, 1) := by decide +kernel
theorem dX11_takeOver_211 : decode cX11_takeOver 211 = .ok (.istore_n 1, 1) := by decide +kernel
theorem dX11_takeOver_212 : decode cX11_takeOver 212 = .ok (.iload_n 1, 1) := by decide +kernel
theorem dX11_takeOver_213 : decode cX11_takeOver 213 = .ok (.bipush 7, 2) := by decide +kernel
theorem dX11_takeOver_215 : decode cX11_takeOver 215 = .ok (.if_icmp .ge 85, 3) := by decide +kernel
theorem dX11_takeOver_218 : decode cX11_takeOver 218 = .ok (.iload_n 1, 1) := by decide +kernel
theorem dX11_takeOver_219 : decode cX11_takeOver 219 = .ok (.aload_n 0, 1) := by decide +kernel
theorem dX11_takeOver_220 : decode cX11_takeOver 220 = .ok (.getfield 55, 3) := by decide +kernel
theorem dX11_takeOver_223 : decode cX11_takeOver 223 = .ok (.iconst 1, 1) := by decide +kernel
theorem dX11_takeOver_224 : decode cX11_takeOver 224 = .ok (.iaload, 1) := by decide +kernel
theorem dX11_takeOver_225 : decode cX11_takeOver 225 = .ok (.if_icmp .ge 7, 3) := by decide +kernel
theorem dX11_takeOver_228 : decode cX11_takeOver 228 = .ok (.iconst 1, 1) := by decide +kernel
theorem dX11_takeOver_229 : decode cX11_takeOver 229 = .ok (.goto 4, 3) := by decide +kernel
theorem dX11_takeOver_232 : decode cX11_takeOver 232 = .ok (.iconst 0, 1) := by decide +kernel
theorem dX11_takeOver_233 : decode cX11_takeOver 233 = .ok (.istore_n 2, 1) := by decide +kernel
theorem dX11_takeOver_234 : decode cX11_takeOver 234 = .ok (.aload_n 0, 1) := by decide +kernel
theorem dX11_takeOver_235 : decode cX11_takeOver 235 = .ok (.getfield 115, 3) := by decide +kernel
theorem dX11_takeOver_238 : decode cX11_takeOver 238 = .ok (.iload_n 1, 1) := by decide +kernel
theorem dX11_takeOver_239 : decode cX11_takeOver 239 = .ok (.iload_n 2, 1) := by decide +kernel
theorem dX11_takeOver_240 : decode cX11_takeOver 240 = .ok (.ifCond .eq 12, 3) := by decide +kernel
theorem dX11_takeOver_243 : decode cX11_takeOver 243 = .ok (.aload_n 0, 1) := by decide +kernel
theorem dX11_takeOver_244 : decode cX11_takeOver 244 = .ok (.getfield 77, 3) := by decide +kernel
theorem dX11_takeOver_247 : decode cX11_takeOver 247 = .ok (.iload_n 1, 1) := by decide +kernel
theorem dX11_takeOver_248 : decode cX11_takeOver 248 = .ok (.iaload, 1) := by decide +kernel
theorem dX11_takeOver_249 : decode cX11_takeOver 249 = .ok (.goto 4, 3) := by decide +kernel
theorem dX11_takeOver_252 : decode cX11_takeOver 252 = .ok (.iconst 0, 1) := by decide +kernel
theorem dX11_takeOver_253 : decode cX11_takeOver 253 = .ok (.iastore, 1) := by decide +kernel
theorem dX11_takeOver_254 : decode cX11_takeOver 254 = .ok (.aload_n 0, 1) := by decide +kernel
theorem dX11_takeOver_255 : decode cX11_takeOver 255 = .ok (.getfield 117, 3) := by decide +kernel
theorem dX11_takeOver_258 : decode cX11_takeOver 258 = .ok (.iload_n 1, 1) := by decide +kernel
theorem dX11_takeOver_259 : decode cX11_takeOver 259 = .ok (.iload_n 2, 1) := by decide +kernel
theorem dX11_takeOver_260 : decode cX11_takeOver 260 = .ok (.ifCond .eq 12, 3) := by decide +kernel
theorem dX11_takeOver_263 : decode cX11_takeOver 263 = .ok (.aload_n 0, 1) := by decide +kernel
theorem dX11_takeOver_264 : decode cX11_takeOver 264 = .ok (.getfield 80, 3) := by decide +kernel
theorem dX11_takeOver_267 : decode cX11_takeOver 267 = .ok (.iload_n 1, 1) := by decide +kernel
theorem dX11_takeOver_268 : decode cX11_takeOver 268 = .ok (.iaload, 1) := by decide +kernel
theorem dX11_takeOver_269 : decode cX11_takeOver 269 = .ok (.goto 4, 3) := by decide +kernel
theorem dX11_takeOver_272 : decode cX11_takeOver 272 = .ok (.iconst 0, 1) := by decide +kernel
theorem dX11_takeOver_273 : decode cX11_takeOver 273 = .ok (.iastore, 1) := by decide +kernel
theorem dX11_takeOver_274 : decode cX11_takeOver 274 = .ok (.aload_n 0, 1) := by decide +kernel
theorem dX11_takeOver_275 : decode cX11_takeOver 275 = .ok (.getfield 120, 3) := by decide +kernel
theorem dX11_takeOver_278 : decode cX11_takeOver 278 = .ok (.iload_n 1, 1) := by decide +kernel
theorem dX11_takeOver_279 : decode cX11_takeOver 279 = .ok (.iload_n 2, 1) := by decide +kernel
theorem dX11_takeOver_280 : decode cX11_takeOver 280 = .ok (.ifCond .eq 12, 3) := by decide +kernel
theorem dX11_takeOver_283 : decode cX11_takeOver 283 = .ok (.aload_n 0, 1) := by decide +kernel
theorem dX11_takeOver_284 : decode cX11_takeOver 284 = .ok (.getfield 83, 3) := by decide +kernel
theorem dX11_takeOver_287 : decode cX11_takeOver 287 = .ok (.iload_n 1, 1) := by decide +kernel
theorem dX11_takeOver_288 : decode cX11_takeOver 288 = .ok (.iaload, 1) := by decide +kernel
theorem dX11_takeOver_289 : decode cX11_takeOver 289 = .ok (.goto 4, 3) := by decide +kernel
theorem dX11_takeOver_292 : decode cX11_takeOver 292 = .ok (.iconst 0, 1) := by decide +kernel
theorem dX11_takeOver_293 : decode cX11_takeOver 293 = .ok (.iastore, 1) := by decide +kernel
theorem dX11_takeOver_294 : decode cX11_takeOver 294 = .ok (.iinc 1 1, 3) := by decide +kernel
theorem dX11_takeOver_297 : decode cX11_takeOver 297 = .ok (.goto (-85), 3) := by decide +kernel
theorem dX11_takeOver_300 : decode cX11_takeOver 300 = .ok (.aload_n 0, 1) := by decide +kernel
theorem dX11_takeOver_301 : decode cX11_takeOver 301 = .ok (.iconst 0, 1) := by decide +kernel
theorem dX11_takeOver_302 : decode cX11_takeOver 302 = .ok (.putfield 350, 3) := by decide +kernel
theorem dX11_takeOver_305 : decode cX11_takeOver 305 = .ok (.aload_n 0, 1) := by decide +kernel
theorem dX11_takeOver_306 : decode cX11_takeOver 306 = .ok (.iconst 0, 1) := by decide +kernel
theorem dX11_takeOver_307 : decode cX11_takeOver 307 = .ok (.putfield 353, 3) := by decide +kernel
theorem dX11_takeOver_310 : decode cX11_takeOver 310 = .ok (.aload_n 0, 1) := by decide +kernel
theorem dX11_takeOver_311 : decode cX11_takeOver 311 = .ok (.iconst 0, 1) := by decide +kernel
theorem dX11_takeOver_312 : decode cX11_takeOver 312 = .ok (.putfield 356, 3) := by decide +kernel
theorem dX11_takeOver_315 : decode cX11_takeOver 315 = .ok (.return_, 1) := by decide +kernel
theorem dX11_fault_0 : decode cX11_fault 0 = .ok (.aload_n 0, 1) := by decide +kernel
theorem dX11_fault_1 : decode cX11_fault 1 = .ok (.iconst 0, 1) := by decide +kernel
theorem dX11_fault_2 : decode cX11_fault 2 = .ok (.putfield 195, 3) := by decide +kernel
theorem dX11_fault_5 : decode cX11_fault 5 = .ok (.aload_n 0, 1) := by decide +kernel
theorem dX11_fault_6 : decode cX11_fault 6 = .ok (.getfield 98, 3) := by decide +kernel
theorem dX11_fault_9 : decode cX11_fault 9 = .ok (.ireturn, 1) := by decide +kernel
theorem dX11_pack_0 : decode cX11_pack 0 = .ok (.aload_n 1, 1) := by decide +kernel
theorem dX11_pack_1 : decode cX11_pack 1 = .ok (.iload_n 2, 1) := by decide +kernel
theorem dX11_pack_2 : decode cX11_pack 2 = .ok (.aload_n 0, 1) := by decide +kernel
theorem dX11_pack_3 : decode cX11_pack 3 = .ok (.getfield 342, 3) := by decide +kernel
theorem dX11_pack_6 : decode cX11_pack 6 = .ok (.iastore, 1) := by decide +kernel
theorem dX11_pack_7 : decode cX11_pack 7 = .ok (.aload_n 1, 1) := by decide +kernel
theorem dX11_pack_8 : decode cX11_pack 8 = .ok (.iload_n 2, 1) := by decide +kernel
theorem dX11_pack_9 : decode cX11_pack 9 = .ok (.iconst 1, 1) := by decide +kernel
theorem dX11_pack_10 : decode cX11_pack 10 = .ok (.iadd, 1) := by decide +kernel
theorem dX11_pack_11 : decode cX11_pack 11 = .ok (.aload_n 0, 1) := by decide +kernel
theorem dX11_pack_12 : decode cX11_pack 12 = .ok (.getfield 344, 3) := by decide +kernel
theorem dX11_pack_15 : decode cX11_pack 15 = .ok (.iastore, 1) := by decide +kernel
theorem dX11_pack_16 : decode cX11_pack 16 = .ok (.aload_n 1, 1) := by decide +kernel
theorem dX11_pack_17 : decode cX11_pack 17 = .ok (.iload_n 2, 1) := by decide +kernel
theorem dX11_pack_18 : decode cX11_pack 18 = .ok (.iconst 2, 1) := by decide +kernel
theorem dX11_pack_19 : decode cX11_pack 19 = .ok (.iadd, 1) := by decide +kernel
theorem dX11_pack_20 : decode cX11_pack 20 = .ok (.aload_n 0, 1) := by decide +kernel
theorem dX11_pack_21 : decode cX11_pack 21 = .ok (.getfield 347, 3) := by decide +kernel
theorem dX11_pack_24 : decode cX11_pack 24 = .ok (.iastore, 1) := by decide +kernel
theorem dX11_pack_25 : decode cX11_pack 25 = .ok (.iload_n 2, 1) := by decide +kernel
theorem dX11_pack_26 : decode cX11_pack 26 = .ok (.iconst 3, 1) := by decide +kernel
theorem dX11_pack_27 : decode cX11_pack 27 = .ok (.iadd, 1) := by decide +kernel
theorem dX11_pack_28 : decode cX11_pack 28 = .ok (.istore_n 3, 1) := by decide +kernel
theorem dX11_pack_29 : decode cX11_pack 29 = .ok (.iconst 0, 1) := by decide +kernel
theorem dX11_pack_30 : decode cX11_pack 30 = .ok (.istore 4, 2) := by decide +kernel
theorem dX11_pack_32 : decode cX11_pack 32 = .ok (.iload 4, 2) := by decide +kernel
theorem dX11_pack_34 : decode cX11_pack 34 = .ok (.bipush 8, 2) := by decide +kernel
theorem dX11_pack_36 : decode cX11_pack 36 = .ok (.if_icmp .ge 86, 3) := by decide +kernel
theorem dX11_pack_39 : decode cX11_pack 39 = .ok (.aload_n 1, 1) := by decide +kernel
theorem dX11_pack_40 : decode cX11_pack 40 = .ok (.iload_n 3, 1) := by decide +kernel
theorem dX11_pack_41 : decode cX11_pack 41 = .ok (.iload 4, 2) := by decide +kernel
theorem dX11_pack_43 : decode cX11_pack 43 = .ok (.iadd, 1) := by decide +kernel
theorem dX11_pack_44 : decode cX11_pack 44 = .ok (.aload_n 0, 1) := by decide +kernel
theorem dX11_pack_45 : decode cX11_pack 45 = .ok (.getfield 102, 3) := by decide +kernel
theorem dX11_pack_48 : decode cX11_pack 48 = .ok (.iload 4, 2) := by decide +kernel
theorem dX11_pack_50 : decode cX11_pack 50 = .ok (.iaload, 1) := by decide +kernel
theorem dX11_pack_51 : decode cX11_pack 51 = .ok (.iastore, 1) := by decide +kernel
theorem dX11_pack_52 : decode cX11_pack 52 = .ok (.aload_n 1, 1) := by decide +kernel
theorem dX11_pack_53 : decode cX11_pack 53 = .ok (.iload_n 3, 1) := by decide +kernel
theorem dX11_pack_54 : decode cX11_pack 54 = .ok (.bipush 8, 2) := by decide +kernel
theorem dX11_pack_56 : decode cX11_pack 56 = .ok (.iadd, 1) := by decide +kernel
theorem dX11_pack_57 : decode cX11_pack 57 = .ok (.iload 4, 2) := by decide +kernel
theorem dX11_pack_59 : decode cX11_pack 59 = .ok (.iadd, 1) := by decide +kernel
theorem dX11_pack_60 : decode cX11_pack 60 = .ok (.aload_n 0, 1) := by decide +kernel
theorem dX11_pack_61 : decode cX11_pack 61 = .ok (.getfield 104, 3) := by decide +kernel
theorem dX11_pack_64 : decode cX11_pack 64 = .ok (.iload 4, 2) := by decide +kernel
theorem dX11_pack_66 : decode cX11_pack 66 = .ok (.iaload, 1) := by decide +kernel
theorem dX11_pack_67 : decode cX11_pack 67 = .ok (.iastore, 1) := by decide +kernel
theorem dX11_pack_68 : decode cX11_pack 68 = .ok (.aload_n 1, 1) := by decide +kernel
theorem dX11_pack_69 : decode cX11_pack 69 = .ok (.iload_n 3, 1) := by decide +kernel
theorem dX11_pack_70 : decode cX11_pack 70 = .ok (.bipush 16, 2) := by decide +kernel
theorem dX11_pack_72 : decode cX11_pack 72 = .ok (.iadd, 1) := by decide +kernel
theorem dX11_pack_73 : decode cX11_pack 73 = .ok (.iload 4, 2) := by decide +kernel
theorem dX11_pack_75 : decode cX11_pack 75 = .ok (.iadd, 1) := by decide +kernel
theorem dX11_pack_76 : decode cX11_pack 76 = .ok (.aload_n 0, 1) := by decide +kernel
theorem dX11_pack_77 : decode cX11_pack 77 = .ok (.getfield 107, 3) := by decide +kernel
theorem dX11_pack_80 : decode cX11_pack 80 = .ok (.iload 4, 2) := by decide +kernel
theorem dX11_pack_82 : decode cX11_pack 82 = .ok (.iaload, 1) := by decide +kernel
theorem dX11_pack_83 : decode cX11_pack 83 = .ok (.iastore, 1) := by decide +kernel
theorem dX11_pack_84 : decode cX11_pack 84 = .ok (.aload_n 1, 1) := by decide +kernel
theorem dX11_pack_85 : decode cX11_pack 85 = .ok (.iload_n 3, 1) := by decide +kernel
theorem dX11_pack_86 : decode cX11_pack 86 = .ok (.bipush 24, 2) := by decide +kernel
theorem dX11_pack_88 : decode cX11_pack 88 = .ok (.iadd, 1) := by decide +kernel
theorem dX11_pack_89 : decode cX11_pack 89 = .ok (.iload 4, 2) := by decide +kernel
theorem dX11_pack_91 : decode cX11_pack 91 = .ok (.iadd, 1) := by decide +kernel
theorem dX11_pack_92 : decode cX11_pack 92 = .ok (.aload_n 0, 1) := by decide +kernel
theorem dX11_pack_93 : decode cX11_pack 93 = .ok (.getfield 110, 3) := by decide +kernel
theorem dX11_pack_96 : decode cX11_pack 96 = .ok (.iload 4, 2) := by decide +kernel
theorem dX11_pack_98 : decode cX11_pack 98 = .ok (.iaload, 1) := by decide +kernel
theorem dX11_pack_99 : decode cX11_pack 99 = .ok (.iastore, 1) := by decide +kernel
theorem dX11_pack_100 : decode cX11_pack 100 = .ok (.aload_n 1, 1) := by decide +kernel
theorem dX11_pack_101 : decode cX11_pack 101 = .ok (.iload_n 3, 1) := by decide +kernel
theorem dX11_pack_102 : decode cX11_pack 102 = .ok (.bipush 32, 2) := by decide +kernel
theorem dX11_pack_104 : decode cX11_pack 104 = .ok (.iadd, 1) := by decide +kernel
theorem dX11_pack_105 : decode cX11_pack 105 = .ok (.iload 4, 2) := by decide +kernel
theorem dX11_pack_107 : decode cX11_pack 107 = .ok (.iadd, 1) := by decide +kernel
theorem dX11_pack_108 : decode cX11_pack 108 = .ok (.aload_n 0, 1) := by decide +kernel
theorem dX11_pack_109 : decode cX11_pack 109 = .ok (.getfield 113, 3) := by decide +kernel
theorem dX11_pack_112 : decode cX11_pack 112 = .ok (.iload 4, 2) := by decide +kernel
theorem dX11_pack_114 : decode cX11_pack 114 = .ok (.iaload, 1) := by decide +kernel
theorem dX11_pack_115 : decode cX11_pack 115 = .ok (.iastore, 1) := by decide +kernel
theorem dX11_pack_116 : decode cX11_pack 116 = .ok (.iinc 4 1, 3) := by decide +kernel
theorem dX11_pack_119 : decode cX11_pack 119 = .ok (.goto (-87), 3) := by decide +kernel
theorem dX11_pack_122 : decode cX11_pack 122 = .ok (.iinc 3 40, 3) := by decide +kernel
theorem dX11_pack_125 : decode cX11_pack 125 = .ok (.iconst 0, 1) := by decide +kernel
theorem dX11_pack_126 : decode cX11_pack 126 = .ok (.istore 4, 2) := by decide +kernel
theorem dX11_pack_128 : decode cX11_pack 128 = .ok (.iload 4, 2) := by decide +kernel
theorem dX11_pack_130 : decode cX11_pack 130 = .ok (.bipush 7, 2) := by decide +kernel
theorem dX11_pack_132 : decode cX11_pack 132 = .ok (.if_icmp .ge 54, 3) := by decide +kernel
theorem dX11_pack_135 : decode cX11_pack 135 = .ok (.aload_n 1, 1) := by decide +kernel
theorem dX11_pack_136 : decode cX11_pack 136 = .ok (.iload_n 3, 1) := by decide +kernel
theorem dX11_pack_137 : decode cX11_pack 137 = .ok (.iload 4, 2) := by decide +kernel
theorem dX11_pack_139 : decode cX11_pack 139 = .ok (.iadd, 1) := by decide +kernel
theorem dX11_pack_140 : decode cX11_pack 140 = .ok (.aload_n 0, 1) := by decide +kernel
theorem dX11_pack_141 : decode cX11_pack 141 = .ok (.getfield 115, 3) := by decide +kernel
theorem dX11_pack_144 : decode cX11_pack 144 = .ok (.iload 4, 2) := by decide +kernel
theorem dX11_pack_146 : decode cX11_pack 146 = .ok (.iaload, 1) := by decide +kernel
theorem dX11_pack_147 : decode cX11_pack 147 = .ok (.iastore, 1) := by decide +kernel
theorem dX11_pack_148 : decode cX11_pack 148 = .ok (.aload_n 1, 1) := by decide +kernel
theorem dX11_pack_149 : decode cX11_pack 149 = .ok (.iload_n 3, 1) := by decide +kernel
theorem dX11_pack_150 : decode cX11_pack 150 = .ok (.bipush 7, 2) := by decide +kernel
theorem dX11_pack_152 : decode cX11_pack 152 = .ok (.iadd, 1) := by decide +kernel
theorem dX11_pack_153 : decode cX11_pack 153 = .ok (.iload 4, 2) := by decide +kernel
theorem dX11_pack_155 : decode cX11_pack 155 = .ok (.iadd, 1) := by decide +kernel
theorem dX11_pack_156 : decode cX11_pack 156 = .ok (.aload_n 0, 1) := by decide +kernel
theorem dX11_pack_157 : decode cX11_pack 157 = .ok (.getfield 117, 3) := by decide +kernel
theorem dX11_pack_160 : decode cX11_pack 160 = .ok (.iload 4, 2) := by decide +kernel
theorem dX11_pack_162 : decode cX11_pack 162 = .ok (.iaload, 1) := by decide +kernel
theorem dX11_pack_163 : decode cX11_pack 163 = .ok (.iastore, 1) := by decide +kernel
theorem dX11_pack_164 : decode cX11_pack 164 = .ok (.aload_n 1, 1) := by decide +kernel
theorem dX11_pack_165 : decode cX11_pack 165 = .ok (.iload_n 3, 1) := by decide +kernel
theorem dX11_pack_166 : decode cX11_pack 166 = .ok (.bipush 14, 2) := by decide +kernel
theorem dX11_pack_168 : decode cX11_pack 168 = .ok (.iadd, 1) := by decide +kernel
theorem dX11_pack_169 : decode cX11_pack 169 = .ok (.iload 4, 2) := by decide +kernel
theorem dX11_pack_171 : decode cX11_pack 171 = .ok (.iadd, 1) := by decide +kernel
theorem dX11_pack_172 : decode cX11_pack 172 = .ok (.aload_n 0, 1) := by decide +kernel
theorem dX11_pack_173 : decode cX11_pack 173 = .ok (.getfield 120, 3) := by decide +kernel
theorem dX11_pack_176 : decode cX11_pack 176 = .ok (.iload 4, 2) := by decide +kernel
theorem dX11_pack_178 : decode cX11_pack 178 = .ok (.iaload, 1) := by decide +kernel
theorem dX11_pack_179 : decode cX11_pack 179 = .ok (.iastore, 1) := by decide +kernel
theorem dX11_pack_180 : decode cX11_pack 180 = .ok (.iinc 4 1, 3) := by decide +kernel
theorem dX11_pack_183 : decode cX11_pack 183 = .ok (.goto (-55), 3) := by decide +kernel
theorem dX11_pack_186 : decode cX11_pack 186 = .ok (.return_, 1) := by decide +kernel
theorem dX11_unpack_0 : decode cX11_unpack 0 = .ok (.aload_n 0, 1) := by decide +kernel
theorem dX11_unpack_1 : decode cX11_unpack 1 = .ok (.aload_n 1, 1) := by decide +kernel
theorem dX11_unpack_2 : decode cX11_unpack 2 = .ok (.iload_n 2, 1) := by decide +kernel
theorem dX11_unpack_3 : decode cX11_unpack 3 = .ok (.iaload, 1) := by decide +kernel
theorem dX11_unpack_4 : decode cX11_unpack 4 = .ok (.putfield 342, 3) := by decide +kernel
theorem dX11_unpack_7 : decode cX11_unpack 7 = .ok (.aload_n 0, 1) := by decide +kernel
theorem dX11_unpack_8 : decode cX11_unpack 8 = .ok (.aload_n 1, 1) := by decide +kernel
theorem dX11_unpack_9 : decode cX11_unpack 9 = .ok (.iload_n 2, 1) := by decide +kernel
theorem dX11_unpack_10 : decode cX11_unpack 10 = .ok (.iconst 1, 1) := by decide +kernel
theorem dX11_unpack_11 : decode cX11_unpack 11 = .ok (.iadd, 1) := by decide +kernel
theorem dX11_unpack_12 : decode cX11_unpack 12 = .ok (.iaload, 1) := by decide +kernel
theorem dX11_unpack_13 : decode cX11_unpack 13 = .ok (.putfield 344, 3) := by decide +kernel
theorem dX11_unpack_16 : decode cX11_unpack 16 = .ok (.aload_n 0, 1) := by decide +kernel
theorem dX11_unpack_17 : decode cX11_unpack 17 = .ok (.aload_n 1, 1) := by decide +kernel
theorem dX11_unpack_18 : decode cX11_unpack 18 = .ok (.iload_n 2, 1) := by decide +kernel
theorem dX11_unpack_19 : decode cX11_unpack 19 = .ok (.iconst 2, 1) := by decide +kernel
theorem dX11_unpack_20 : decode cX11_unpack 20 = .ok (.iadd, 1) := by decide +kernel
theorem dX11_unpack_21 : decode cX11_unpack 21 = .ok (.iaload, 1) := by decide +kernel
theorem dX11_unpack_22 : decode cX11_unpack 22 = .ok (.putfield 347, 3) := by decide +kernel
theorem dX11_unpack_25 : decode cX11_unpack 25 = .ok (.iload_n 2, 1) := by decide +kernel
theorem dX11_unpack_26 : decode cX11_unpack 26 = .ok (.iconst 3, 1) := by decide +kernel
theorem dX11_unpack_27 : decode cX11_unpack 27 = .ok (.iadd, 1) := by decide +kernel
theorem dX11_unpack_28 : decode cX11_unpack 28 = .ok (.istore_n 3, 1) := by decide +kernel
theorem dX11_unpack_29 : decode cX11_unpack 29 = .ok (.iconst 0, 1) := by decide +kernel
theorem dX11_unpack_30 : decode cX11_unpack 30 = .ok (.istore 4, 2) := by decide +kernel
theorem dX11_unpack_32 : decode cX11_unpack 32 = .ok (.iload 4, 2) := by decide +kernel
theorem dX11_unpack_34 : decode cX11_unpack 34 = .ok (.bipush 8, 2) := by decide +kernel
theorem dX11_unpack_36 : decode cX11_unpack 36 = .ok (.if_icmp .ge 86, 3) := by decide +kernel
theorem dX11_unpack_39 : decode cX11_unpack 39 = .ok (.aload_n 0, 1) := by decide +kernel
theorem dX11_unpack_40 : decode cX11_unpack 40 = .ok (.getfield 102, 3) := by decide +kernel
theorem dX11_unpack_43 : decode cX11_unpack 43 = .ok (.iload 4, 2) := by decide +kernel
theorem dX11_unpack_45 : decode cX11_unpack 45 = .ok (.aload_n 1, 1) := by decide +kernel
theorem dX11_unpack_46 : decode cX11_unpack 46 = .ok (.iload_n 3, 1) := by decide +kernel
theorem dX11_unpack_47 : decode cX11_unpack 47 = .ok (.iload 4, 2) := by decide +kernel
theorem dX11_unpack_49 : decode cX11_unpack 49 = .ok (.iadd, 1) := by decide +kernel
theorem dX11_unpack_50 : decode cX11_unpack 50 = .ok (.iaload, 1) := by decide +kernel
theorem dX11_unpack_51 : decode cX11_unpack 51 = .ok (.iastore, 1) := by decide +kernel
theorem dX11_unpack_52 : decode cX11_unpack 52 = .ok (.aload_n 0, 1) := by decide +kernel
theorem dX11_unpack_53 : decode cX11_unpack 53 = .ok (.getfield 104, 3) := by decide +kernel
theorem dX11_unpack_56 : decode cX11_unpack 56 = .ok (.iload 4, 2) := by decide +kernel
theorem dX11_unpack_58 : decode cX11_unpack 58 = .ok (.aload_n 1, 1) := by decide +kernel
theorem dX11_unpack_59 : decode cX11_unpack 59 = .ok (.iload_n 3, 1) := by decide +kernel
theorem dX11_unpack_60 : decode cX11_unpack 60 = .ok (.bipush 8, 2) := by decide +kernel
theorem dX11_unpack_62 : decode cX11_unpack 62 = .ok (.iadd, 1) := by decide +kernel
theorem dX11_unpack_63 : decode cX11_unpack 63 = .ok (.iload 4, 2) := by decide +kernel
theorem dX11_unpack_65 : decode cX11_unpack 65 = .ok (.iadd, 1) := by decide +kernel
theorem dX11_unpack_66 : decode cX11_unpack 66 = .ok (.iaload, 1) := by decide +kernel
theorem dX11_unpack_67 : decode cX11_unpack 67 = .ok (.iastore, 1) := by decide +kernel
theorem dX11_unpack_68 : decode cX11_unpack 68 = .ok (.aload_n 0, 1) := by decide +kernel
theorem dX11_unpack_69 : decode cX11_unpack 69 = .ok (.getfield 107, 3) := by decide +kernel
theorem dX11_unpack_72 : decode cX11_unpack 72 = .ok (.iload 4, 2) := by decide +kernel
theorem dX11_unpack_74 : decode cX11_unpack 74 = .ok (.aload_n 1, 1) := by decide +kernel
theorem dX11_unpack_75 : decode cX11_unpack 75 = .ok (.iload_n 3, 1) := by decide +kernel
theorem dX11_unpack_76 : decode cX11_unpack 76 = .ok (.bipush 16, 2) := by decide +kernel
theorem dX11_unpack_78 : decode cX11_unpack 78 = .ok (.iadd, 1) := by decide +kernel
theorem dX11_unpack_79 : decode cX11_unpack 79 = .ok (.iload 4, 2) := by decide +kernel
theorem dX11_unpack_81 : decode cX11_unpack 81 = .ok (.iadd, 1) := by decide +kernel
theorem dX11_unpack_82 : decode cX11_unpack 82 = .ok (.iaload, 1) := by decide +kernel
theorem dX11_unpack_83 : decode cX11_unpack 83 = .ok (.iastore, 1) := by decide +kernel
theorem dX11_unpack_84 : decode cX11_unpack 84 = .ok (.aload_n 0, 1) := by decide +kernel
theorem dX11_unpack_85 : decode cX11_unpack 85 = .ok (.getfield 110, 3) := by decide +kernel
theorem dX11_unpack_88 : decode cX11_unpack 88 = .ok (.iload 4, 2) := by decide +kernel
theorem dX11_unpack_90 : decode cX11_unpack 90 = .ok (.aload_n 1, 1) := by decide +kernel
theorem dX11_unpack_91 : decode cX11_unpack 91 = .ok (.iload_n 3, 1) := by decide +kernel
theorem dX11_unpack_92 : decode cX11_unpack 92 = .ok (.bipush 24, 2) := by decide +kernel
theorem dX11_unpack_94 : decode cX11_unpack 94 = .ok (.iadd, 1) := by decide +kernel
theorem dX11_unpack_95 : decode cX11_unpack 95 = .ok (.iload 4, 2) := by decide +kernel
theorem dX11_unpack_97 : decode cX11_unpack 97 = .ok (.iadd, 1) := by decide +kernel
theorem dX11_unpack_98 : decode cX11_unpack 98 = .ok (.iaload, 1) := by decide +kernel
theorem dX11_unpack_99 : decode cX11_unpack 99 = .ok (.iastore, 1) := by decide +kernel
theorem dX11_unpack_100 : decode cX11_unpack 100 = .ok (.aload_n 0, 1) := by decide +kernel
theorem dX11_unpack_101 : decode cX11_unpack 101 = .ok (.getfield 113, 3) := by decide +kernel
theorem dX11_unpack_104 : decode cX11_unpack 104 = .ok (.iload 4, 2) := by decide +kernel
theorem dX11_unpack_106 : decode cX11_unpack 106 = .ok (.aload_n 1, 1) := by decide +kernel
theorem dX11_unpack_107 : decode cX11_unpack 107 = .ok (.iload_n 3, 1) := by decide +kernel
theorem dX11_unpack_108 : decode cX11_unpack 108 = .ok (.bipush 32, 2) := by decide +kernel
theorem dX11_unpack_110 : decode cX11_unpack 110 = .ok (.iadd, 1) := by decide +kernel
theorem dX11_unpack_111 : decode cX11_unpack 111 = .ok (.iload 4, 2) := by decide +kernel
theorem dX11_unpack_113 : decode cX11_unpack 113 = .ok (.iadd, 1) := by decide +kernel
theorem dX11_unpack_114 : decode cX11_unpack 114 = .ok (.iaload, 1) := by decide +kernel
theorem dX11_unpack_115 : decode cX11_unpack 115 = .ok (.iastore, 1) := by decide +kernel
theorem dX11_unpack_116 : decode cX11_unpack 116 = .ok (.iinc 4 1, 3) := by decide +kernel
theorem dX11_unpack_119 : decode cX11_unpack 119 = .ok (.goto (-87), 3) := by decide +kernel
theorem dX11_unpack_122 : decode cX11_unpack 122 = .ok (.iinc 3 40, 3) := by decide +kernel
theorem dX11_unpack_125 : decode cX11_unpack 125 = .ok (.iconst 0, 1) := by decide +kernel
theorem dX11_unpack_126 : decode cX11_unpack 126 = .ok (.istore 4, 2) := by decide +kernel
theorem dX11_unpack_128 : decode cX11_unpack 128 = .ok (.iload 4, 2) := by decide +kernel
theorem dX11_unpack_130 : decode cX11_unpack 130 = .ok (.bipush 7, 2) := by decide +kernel
theorem dX11_unpack_132 : decode cX11_unpack 132 = .ok (.if_icmp .ge 54, 3) := by decide +kernel
theorem dX11_unpack_135 : decode cX11_unpack 135 = .ok (.aload_n 0, 1) := by decide +kernel
theorem dX11_unpack_136 : decode cX11_unpack 136 = .ok (.getfield 115, 3) := by decide +kernel
theorem dX11_unpack_139 : decode cX11_unpack 139 = .ok (.iload 4, 2) := by decide +kernel
theorem dX11_unpack_141 : decode cX11_unpack 141 = .ok (.aload_n 1, 1) := by decide +kernel
theorem dX11_unpack_142 : decode cX11_unpack 142 = .ok (.iload_n 3, 1) := by decide +kernel
theorem dX11_unpack_143 : decode cX11_unpack 143 = .ok (.iload 4, 2) := by decide +kernel
theorem dX11_unpack_145 : decode cX11_unpack 145 = .ok (.iadd, 1) := by decide +kernel
theorem dX11_unpack_146 : decode cX11_unpack 146 = .ok (.iaload, 1) := by decide +kernel
theorem dX11_unpack_147 : decode cX11_unpack 147 = .ok (.iastore, 1) := by decide +kernel
theorem dX11_unpack_148 : decode cX11_unpack 148 = .ok (.aload_n 0, 1) := by decide +kernel
theorem dX11_unpack_149 : decode cX11_unpack 149 = .ok (.getfield 117, 3) := by decide +kernel
theorem dX11_unpack_152 : decode cX11_unpack 152 = .ok (.iload 4, 2) := by decide +kernel
theorem dX11_unpack_154 : decode cX11_unpack 154 = .ok (.aload_n 1, 1) := by decide +kernel
theorem dX11_unpack_155 : decode cX11_unpack 155 = .ok (.iload_n 3, 1) := by decide +kernel
theorem dX11_unpack_156 : decode cX11_unpack 156 = .ok (.bipush 7, 2) := by decide +kernel
theorem dX11_unpack_158 : decode cX11_unpack 158 = .ok (.iadd, 1) := by decide +kernel
theorem dX11_unpack_159 : decode cX11_unpack 159 = .ok (.iload 4, 2) := by decide +kernel
theorem dX11_unpack_161 : decode cX11_unpack 161 = .ok (.iadd, 1) := by decide +kernel
theorem dX11_unpack_162 : decode cX11_unpack 162 = .ok (.iaload, 1) := by decide +kernel
theorem dX11_unpack_163 : decode cX11_unpack 163 = .ok (.iastore, 1) := by decide +kernel
theorem dX11_unpack_164 : decode cX11_unpack 164 = .ok (.aload_n 0, 1) := by decide +kernel
theorem dX11_unpack_165 : decode cX11_unpack 165 = .ok (.getfield 120, 3) := by decide +kernel
theorem dX11_unpack_168 : decode cX11_unpack 168 = .ok (.iload 4, 2) := by decide +kernel
theorem dX11_unpack_170 : decode cX11_unpack 170 = .ok (.aload_n 1, 1) := by decide +kernel
theorem dX11_unpack_171 : decode cX11_unpack 171 = .ok (.iload_n 3, 1) := by decide +kernel
theorem dX11_unpack_172 : decode cX11_unpack 172 = .ok (.bipush 14, 2) := by decide +kernel
theorem dX11_unpack_174 : decode cX11_unpack 174 = .ok (.iadd, 1) := by decide +kernel
theorem dX11_unpack_175 : decode cX11_unpack 175 = .ok (.iload 4, 2) := by decide +kernel
theorem dX11_unpack_177 : decode cX11_unpack 177 = .ok (.iadd, 1) := by decide +kernel
theorem dX11_unpack_178 : decode cX11_unpack 178 = .ok (.iaload, 1) := by decide +kernel
theorem dX11_unpack_179 : decode cX11_unpack 179 = .ok (.iastore, 1) := by decide +kernel
theorem dX11_unpack_180 : decode cX11_unpack 180 = .ok (.iinc 4 1, 3) := by decide +kernel
theorem dX11_unpack_183 : decode cX11_unpack 183 = .ok (.goto (-55), 3) := by decide +kernel
theorem dX11_unpack_186 : decode cX11_unpack 186 = .ok (.return_, 1) := by decide +kernel
theorem dX11_reckon_0 : decode cX11_reckon 0 = .ok (.iload_n 0, 1) := by decide +kernel
theorem dX11_reckon_1 : decode cX11_reckon 1 = .ok (.tableswitch 103 (-26) (-20) #[89, 78, 67, 55, 51, 47, 43], 43) := by decide +kernel
theorem dX11_reckon_44 : decode cX11_reckon 44 = .ok (.iload_n 1, 1) := by decide +kernel
theorem dX11_reckon_45 : decode cX11_reckon 45 = .ok (.iload_n 2, 1) := by decide +kernel
theorem dX11_reckon_46 : decode cX11_reckon 46 = .ok (.iadd, 1) := by decide +kernel
theorem dX11_reckon_47 : decode cX11_reckon 47 = .ok (.ireturn, 1) := by decide +kernel
theorem dX11_reckon_48 : decode cX11_reckon 48 = .ok (.iload_n 1, 1) := by decide +kernel
theorem dX11_reckon_49 : decode cX11_reckon 49 = .ok (.iload_n 2, 1) := by decide +kernel
theorem dX11_reckon_50 : decode cX11_reckon 50 = .ok (.isub, 1) := by decide +kernel
theorem dX11_reckon_51 : decode cX11_reckon 51 = .ok (.ireturn, 1) := by decide +kernel
theorem dX11_reckon_52 : decode cX11_reckon 52 = .ok (.iload_n 1, 1) := by decide +kernel
theorem dX11_reckon_53 : decode cX11_reckon 53 = .ok (.iload_n 2, 1) := by decide +kernel
theorem dX11_reckon_54 : decode cX11_reckon 54 = .ok (.imul, 1) := by decide +kernel
theorem dX11_reckon_55 : decode cX11_reckon 55 = .ok (.ireturn, 1) := by decide +kernel
theorem dX11_reckon_56 : decode cX11_reckon 56 = .ok (.iload_n 2, 1) := by decide +kernel
theorem dX11_reckon_57 : decode cX11_reckon 57 = .ok (.ifCond .ne 7, 3) := by decide +kernel
theorem dX11_reckon_60 : decode cX11_reckon 60 = .ok (.iconst 0, 1) := by decide +kernel
theorem dX11_reckon_61 : decode cX11_reckon 61 = .ok (.goto 6, 3) := by decide +kernel
theorem dX11_reckon_64 : decode cX11_reckon 64 = .ok (.iload_n 1, 1) := by decide +kernel
theorem dX11_reckon_65 : decode cX11_reckon 65 = .ok (.iload_n 2, 1) := by decide +kernel
theorem dX11_reckon_66 : decode cX11_reckon 66 = .ok (.idiv, 1) := by decide +kernel
theorem dX11_reckon_67 : decode cX11_reckon 67 = .ok (.ireturn, 1) := by decide +kernel
theorem dX11_reckon_68 : decode cX11_reckon 68 = .ok (.iload_n 1, 1) := by decide +kernel
theorem dX11_reckon_69 : decode cX11_reckon 69 = .ok (.iload_n 2, 1) := by decide +kernel
theorem dX11_reckon_70 : decode cX11_reckon 70 = .ok (.if_icmp .ge 7, 3) := by decide +kernel
theorem dX11_reckon_73 : decode cX11_reckon 73 = .ok (.iconst 1, 1) := by decide +kernel
theorem dX11_reckon_74 : decode cX11_reckon 74 = .ok (.goto 4, 3) := by decide +kernel
theorem dX11_reckon_77 : decode cX11_reckon 77 = .ok (.iconst 0, 1) := by decide +kernel
theorem dX11_reckon_78 : decode cX11_reckon 78 = .ok (.ireturn, 1) := by decide +kernel
theorem dX11_reckon_79 : decode cX11_reckon 79 = .ok (.iload_n 1, 1) := by decide +kernel
theorem dX11_reckon_80 : decode cX11_reckon 80 = .ok (.iload_n 2, 1) := by decide +kernel
theorem dX11_reckon_81 : decode cX11_reckon 81 = .ok (.if_icmp .ne 7, 3) := by decide +kernel
theorem dX11_reckon_84 : decode cX11_reckon 84 = .ok (.iconst 1, 1) := by decide +kernel
theorem dX11_reckon_85 : decode cX11_reckon 85 = .ok (.goto 4, 3) := by decide +kernel
theorem dX11_reckon_88 : decode cX11_reckon 88 = .ok (.iconst 0, 1) := by decide +kernel
theorem dX11_reckon_89 : decode cX11_reckon 89 = .ok (.ireturn, 1) := by decide +kernel
theorem dX11_reckon_90 : decode cX11_reckon 90 = .ok (.iload_n 1, 1) := by decide +kernel
theorem dX11_reckon_91 : decode cX11_reckon 91 = .ok (.ifCond .eq 11, 3) := by decide +kernel
theorem dX11_reckon_94 : decode cX11_reckon 94 = .ok (.iload_n 2, 1) := by decide +kernel
theorem dX11_reckon_95 : decode cX11_reckon 95 = .ok (.ifCond .eq 7, 3) := by decide +kernel
theorem dX11_reckon_98 : decode cX11_reckon 98 = .ok (.iconst 1, 1) := by decide +kernel
theorem dX11_reckon_99 : decode cX11_reckon 99 = .ok (.goto 4, 3) := by decide +kernel
theorem dX11_reckon_102 : decode cX11_reckon 102 = .ok (.iconst 0, 1) := by decide +kernel
theorem dX11_reckon_103 : decode cX11_reckon 103 = .ok (.ireturn, 1) := by decide +kernel
theorem dX11_reckon_104 : decode cX11_reckon 104 = .ok (.iload_n 1, 1) := by decide +kernel
theorem dX11_reckon_105 : decode cX11_reckon 105 = .ok (.ifCond .ne 7, 3) := by decide +kernel
theorem dX11_reckon_108 : decode cX11_reckon 108 = .ok (.iload_n 2, 1) := by decide +kernel
theorem dX11_reckon_109 : decode cX11_reckon 109 = .ok (.ifCond .eq 7, 3) := by decide +kernel
theorem dX11_reckon_112 : decode cX11_reckon 112 = .ok (.iconst 1, 1) := by decide +kernel
theorem dX11_reckon_113 : decode cX11_reckon 113 = .ok (.goto 4, 3) := by decide +kernel
theorem dX11_reckon_116 : decode cX11_reckon 116 = .ok (.iconst 0, 1) := by decide +kernel
theorem dX11_reckon_117 : decode cX11_reckon 117 = .ok (.ireturn, 1) := by decide +kernel
theorem dX11_valueNow_0 : decode cX11_valueNow 0 = .ok (.iconst 0, 1) := by decide +kernel
theorem dX11_valueNow_1 : decode cX11_valueNow 1 = .ok (.istore_n 3, 1) := by decide +kernel
theorem dX11_valueNow_2 : decode cX11_valueNow 2 = .ok (.iconst 0, 1) := by decide +kernel
theorem dX11_valueNow_3 : decode cX11_valueNow 3 = .ok (.istore 4, 2) := by decide +kernel
theorem dX11_valueNow_5 : decode cX11_valueNow 5 = .ok (.iload 4, 2) := by decide +kernel
theorem dX11_valueNow_7 : decode cX11_valueNow 7 = .ok (.iload_n 2, 1) := by decide +kernel
theorem dX11_valueNow_8 : decode cX11_valueNow 8 = .ok (.if_icmp .ge 117, 3) := by decide +kernel
theorem dX11_valueNow_11 : decode cX11_valueNow 11 = .ok (.aload_n 1, 1) := by decide +kernel
theorem dX11_valueNow_12 : decode cX11_valueNow 12 = .ok (.iload 4, 2) := by decide +kernel
theorem dX11_valueNow_14 : decode cX11_valueNow 14 = .ok (.iaload, 1) := by decide +kernel
theorem dX11_valueNow_15 : decode cX11_valueNow 15 = .ok (.istore 5, 2) := by decide +kernel
theorem dX11_valueNow_17 : decode cX11_valueNow 17 = .ok (.iload 5, 2) := by decide +kernel
theorem dX11_valueNow_19 : decode cX11_valueNow 19 = .ok (.bipush (-20), 2) := by decide +kernel
theorem dX11_valueNow_21 : decode cX11_valueNow 21 = .ok (.if_icmp .le 34, 3) := by decide +kernel
theorem dX11_valueNow_24 : decode cX11_valueNow 24 = .ok (.aload_n 0, 1) := by decide +kernel
theorem dX11_valueNow_25 : decode cX11_valueNow 25 = .ok (.getfield 128, 3) := by decide +kernel
theorem dX11_valueNow_28 : decode cX11_valueNow 28 = .ok (.iload_n 3, 1) := by decide +kernel
theorem dX11_valueNow_29 : decode cX11_valueNow 29 = .ok (.iload 5, 2) := by decide +kernel
theorem dX11_valueNow_31 : decode cX11_valueNow 31 = .ok (.ifCond .lt 8, 3) := by decide +kernel
theorem dX11_valueNow_34 : decode cX11_valueNow 34 = .ok (.iload 5, 2) := by decide +kernel
theorem dX11_valueNow_36 : decode cX11_valueNow 36 = .ok (.goto 12, 3) := by decide +kernel
theorem dX11_valueNow_39 : decode cX11_valueNow 39 = .ok (.aload_n 0, 1) := by decide +kernel
theorem dX11_valueNow_40 : decode cX11_valueNow 40 = .ok (.getfield 125, 3) := by decide +kernel
theorem dX11_valueNow_43 : decode cX11_valueNow 43 = .ok (.iconst (-1), 1) := by decide +kernel
theorem dX11_valueNow_44 : decode cX11_valueNow 44 = .ok (.iload 5, 2) := by decide +kernel
theorem dX11_valueNow_46 : decode cX11_valueNow 46 = .ok (.isub, 1) := by decide +kernel
theorem dX11_valueNow_47 : decode cX11_valueNow 47 = .ok (.iaload, 1) := by decide +kernel
theorem dX11_valueNow_48 : decode cX11_valueNow 48 = .ok (.iastore, 1) := by decide +kernel
theorem dX11_valueNow_49 : decode cX11_valueNow 49 = .ok (.iinc 3 1, 3) := by decide +kernel
theorem dX11_valueNow_52 : decode cX11_valueNow 52 = .ok (.goto 67, 3) := by decide +kernel
theorem dX11_valueNow_55 : decode cX11_valueNow 55 = .ok (.iload 5, 2) := by decide +kernel
theorem dX11_valueNow_57 : decode cX11_valueNow 57 = .ok (.bipush (-28), 2) := by decide +kernel
theorem dX11_valueNow_59 : decode cX11_valueNow 59 = .ok (.if_icmp .ne 30, 3) := by decide +kernel
theorem dX11_valueNow_62 : decode cX11_valueNow 62 = .ok (.aload_n 0, 1) := by decide +kernel
theorem dX11_valueNow_63 : decode cX11_valueNow 63 = .ok (.getfield 128, 3) := by decide +kernel
theorem dX11_valueNow_66 : decode cX11_valueNow 66 = .ok (.iload_n 3, 1) := by decide +kernel
theorem dX11_valueNow_67 : decode cX11_valueNow 67 = .ok (.iconst 1, 1) := by decide +kernel
theorem dX11_valueNow_68 : decode cX11_valueNow 68 = .ok (.isub, 1) := by decide +kernel
theorem dX11_valueNow_69 : decode cX11_valueNow 69 = .ok (.aload_n 0, 1) := by decide +kernel
theorem dX11_valueNow_70 : decode cX11_valueNow 70 = .ok (.getfield 128, 3) := by decide +kernel
theorem dX11_valueNow_73 : decode cX11_valueNow 73 = .ok (.iload_n 3, 1) := by decide +kernel
theorem dX11_valueNow_74 : decode cX11_valueNow 74 = .ok (.iconst 1, 1) := by decide +kernel
theorem dX11_valueNow_75 : decode cX11_valueNow 75 = .ok (.isub, 1) := by decide +kernel
theorem dX11_valueNow_76 : decode cX11_valueNow 76 = .ok (.iaload, 1) := by decide +kernel
theorem dX11_valueNow_77 : decode cX11_valueNow 77 = .ok (.ifCond .eq 7, 3) := by decide +kernel
theorem dX11_valueNow_80 : decode cX11_valueNow 80 = .ok (.iconst 0, 1) := by decide +kernel
theorem dX11_valueNow_81 : decode cX11_valueNow 81 = .ok (.goto 4, 3) := by decide +kernel
theorem dX11_valueNow_84 : decode cX11_valueNow 84 = .ok (.iconst 1, 1) := by decide +kernel
theorem dX11_valueNow_85 : decode cX11_valueNow 85 = .ok (.iastore, 1) := by decide +kernel
theorem dX11_valueNow_86 : decode cX11_valueNow 86 = .ok (.goto 33, 3) := by decide +kernel
theorem dX11_valueNow_89 : decode cX11_valueNow 89 = .ok (.iinc 3 (-1), 3) := by decide +kernel
theorem dX11_valueNow_92 : decode cX11_valueNow 92 = .ok (.aload_n 0, 1) := by decide +kernel
theorem dX11_valueNow_93 : decode cX11_valueNow 93 = .ok (.getfield 128, 3) := by decide +kernel
theorem dX11_valueNow_96 : decode cX11_valueNow 96 = .ok (.iload_n 3, 1) := by decide +kernel
theorem dX11_valueNow_97 : decode cX11_valueNow 97 = .ok (.iconst 1, 1) := by decide +kernel
theorem dX11_valueNow_98 : decode cX11_valueNow 98 = .ok (.isub, 1) := by decide +kernel
theorem dX11_valueNow_99 : decode cX11_valueNow 99 = .ok (.iload 5, 2) := by decide +kernel
theorem dX11_valueNow_101 : decode cX11_valueNow 101 = .ok (.aload_n 0, 1) := by decide +kernel
theorem dX11_valueNow_102 : decode cX11_valueNow 102 = .ok (.getfield 128, 3) := by decide +kernel
theorem dX11_valueNow_105 : decode cX11_valueNow 105 = .ok (.iload_n 3, 1) := by decide +kernel
theorem dX11_valueNow_106 : decode cX11_valueNow 106 = .ok (.iconst 1, 1) := by decide +kernel
theorem dX11_valueNow_107 : decode cX11_valueNow 107 = .ok (.isub, 1) := by decide +kernel
theorem dX11_valueNow_108 : decode cX11_valueNow 108 = .ok (.iaload, 1) := by decide +kernel
theorem dX11_valueNow_109 : decode cX11_valueNow 109 = .ok (.aload_n 0, 1) := by decide +kernel
theorem dX11_valueNow_110 : decode cX11_valueNow 110 = .ok (.getfield 128, 3) := by decide +kernel
theorem dX11_valueNow_113 : decode cX11_valueNow 113 = .ok (.iload_n 3, 1) := by decide +kernel
theorem dX11_valueNow_114 : decode cX11_valueNow 114 = .ok (.iaload, 1) := by decide +kernel
theorem dX11_valueNow_115 : decode cX11_valueNow 115 = .ok (.invokestatic 359, 3) := by decide +kernel
theorem dX11_valueNow_118 : decode cX11_valueNow 118 = .ok (.iastore, 1) := by decide +kernel
theorem dX11_valueNow_119 : decode cX11_valueNow 119 = .ok (.iinc 4 1, 3) := by decide +kernel
theorem dX11_valueNow_122 : decode cX11_valueNow 122 = .ok (.goto (-117), 3) := by decide +kernel
theorem dX11_valueNow_125 : decode cX11_valueNow 125 = .ok (.aload_n 0, 1) := by decide +kernel
theorem dX11_valueNow_126 : decode cX11_valueNow 126 = .ok (.getfield 128, 3) := by decide +kernel
theorem dX11_valueNow_129 : decode cX11_valueNow 129 = .ok (.iconst 0, 1) := by decide +kernel
theorem dX11_valueNow_130 : decode cX11_valueNow 130 = .ok (.iaload, 1) := by decide +kernel
theorem dX11_valueNow_131 : decode cX11_valueNow 131 = .ok (.ireturn, 1) := by decide +kernel
theorem dX11_housesOf_0 : decode cX11_housesOf 0 = .ok (.iconst 0, 1) := by decide +kernel
theorem dX11_housesOf_1 : decode cX11_housesOf 1 = .ok (.istore_n 2, 1) := by decide +kernel
theorem dX11_housesOf_2 : decode cX11_housesOf 2 = .ok (.iconst 0, 1) := by decide +kernel
theorem dX11_housesOf_3 : decode cX11_housesOf 3 = .ok (.istore_n 3, 1) := by decide +kernel
theorem dX11_housesOf_4 : decode cX11_housesOf 4 = .ok (.iload_n 3, 1) := by decide +kernel
theorem dX11_housesOf_5 : decode cX11_housesOf 5 = .ok (.aload_n 0, 1) := by decide +kernel
theorem dX11_housesOf_6 : decode cX11_housesOf 6 = .ok (.getfield 55, 3) := by decide +kernel
theorem dX11_housesOf_9 : decode cX11_housesOf 9 = .ok (.iconst 0, 1) := by decide +kernel
theorem dX11_housesOf_10 : decode cX11_housesOf 10 = .ok (.iaload, 1) := by decide +kernel
theorem dX11_housesOf_11 : decode cX11_housesOf 11 = .ok (.if_icmp .ge 29, 3) := by decide +kernel
theorem dX11_housesOf_14 : decode cX11_housesOf 14 = .ok (.iload_n 2, 1) := by decide +kernel
theorem dX11_housesOf_15 : decode cX11_housesOf 15 = .ok (.aload_n 0, 1) := by decide +kernel
theorem dX11_housesOf_16 : decode cX11_housesOf 16 = .ok (.getfield 110, 3) := by decide +kernel
theorem dX11_housesOf_19 : decode cX11_housesOf 19 = .ok (.iload_n 3, 1) := by decide +kernel
theorem dX11_housesOf_20 : decode cX11_housesOf 20 = .ok (.iaload, 1) := by decide +kernel
theorem dX11_housesOf_21 : decode cX11_housesOf 21 = .ok (.iload_n 1, 1) := by decide +kernel
theorem dX11_housesOf_22 : decode cX11_housesOf 22 = .ok (.if_icmp .ne 9, 3) := by decide +kernel
theorem dX11_housesOf_25 : decode cX11_housesOf 25 = .ok (.iconst 1, 1) := by decide +kernel
theorem dX11_housesOf_26 : decode cX11_housesOf 26 = .ok (.iload_n 3, 1) := by decide +kernel
theorem dX11_housesOf_27 : decode cX11_housesOf 27 = .ok (.ishl, 1) := by decide +kernel
theorem dX11_housesOf_28 : decode cX11_housesOf 28 = .ok (.goto 4, 3) := by decide +kernel
theorem dX11_housesOf_31 : decode cX11_housesOf 31 = .ok (.iconst 0, 1) := by decide +kernel
theorem dX11_housesOf_32 : decode cX11_housesOf 32 = .ok (.ior, 1) := by decide +kernel
theorem dX11_housesOf_33 : decode cX11_housesOf 33 = .ok (.istore_n 2, 1) := by decide +kernel
theorem dX11_housesOf_34 : decode cX11_housesOf 34 = .ok (.iinc 3 1, 3) := by decide +kernel
theorem dX11_housesOf_37 : decode cX11_housesOf 37 = .ok (.goto (-33), 3) := by decide +kernel
theorem dX11_housesOf_40 : decode cX11_housesOf 40 = .ok (.iload_n 2, 1) := by decide +kernel
theorem dX11_housesOf_41 : decode cX11_housesOf 41 = .ok (.ireturn, 1) := by decide +kernel
theorem dX11_tellBegun_0 : decode cX11_tellBegun 0 = .ok (.iconst 0, 1) := by decide +kernel
theorem dX11_tellBegun_1 : decode cX11_tellBegun 1 = .ok (.istore_n 1, 1) := by decide +kernel
theorem dX11_tellBegun_2 : decode cX11_tellBegun 2 = .ok (.iload_n 1, 1) := by decide +kernel
theorem dX11_tellBegun_3 : decode cX11_tellBegun 3 = .ok (.bipush 8, 2) := by decide +kernel
theorem dX11_tellBegun_5 : decode cX11_tellBegun 5 = .ok (.if_icmp .ge 33, 3) := by decide +kernel
theorem dX11_tellBegun_8 : decode cX11_tellBegun 8 = .ok (.aload_n 0, 1) := by decide +kernel
theorem dX11_tellBegun_9 : decode cX11_tellBegun 9 = .ok (.getfield 131, 3) := by decide +kernel
theorem dX11_tellBegun_12 : decode cX11_tellBegun 12 = .ok (.iload_n 1, 1) := by decide +kernel
theorem dX11_tellBegun_13 : decode cX11_tellBegun 13 = .ok (.aload_n 0, 1) := by decide +kernel
theorem dX11_tellBegun_14 : decode cX11_tellBegun 14 = .ok (.getfield 110, 3) := by decide +kernel
theorem dX11_tellBegun_17 : decode cX11_tellBegun 17 = .ok (.iload_n 1, 1) := by decide +kernel
theorem dX11_tellBegun_18 : decode cX11_tellBegun 18 = .ok (.iaload, 1) := by decide +kernel
theorem dX11_tellBegun_19 : decode cX11_tellBegun 19 = .ok (.iastore, 1) := by decide +kernel
theorem dX11_tellBegun_20 : decode cX11_tellBegun 20 = .ok (.aload_n 0, 1) := by decide +kernel
theorem dX11_tellBegun_21 : decode cX11_tellBegun 21 = .ok (.getfield 134, 3) := by decide +kernel
theorem dX11_tellBegun_24 : decode cX11_tellBegun 24 = .ok (.iload_n 1, 1) := by decide +kernel
theorem dX11_tellBegun_25 : decode cX11_tellBegun 25 = .ok (.aload_n 0, 1) := by decide +kernel
theorem dX11_tellBegun_26 : decode cX11_tellBegun 26 = .ok (.getfield 113, 3) := by decide +kernel
theorem dX11_tellBegun_29 : decode cX11_tellBegun 29 = .ok (.iload_n 1, 1) := by decide +kernel
theorem dX11_tellBegun_30 : decode cX11_tellBegun 30 = .ok (.iaload, 1) := by decide +kernel
theorem dX11_tellBegun_31 : decode cX11_tellBegun 31 = .ok (.iastore, 1) := by decide +kernel
theorem dX11_tellBegun_32 : decode cX11_tellBegun 32 = .ok (.iinc 1 1, 3) := by decide +kernel
theorem dX11_tellBegun_35 : decode cX11_tellBegun 35 = .ok (.goto (-33), 3) := by decide +kernel
theorem dX11_tellBegun_38 : decode cX11_tellBegun 38 = .ok (.iconst 0, 1) := by decide +kernel
theorem dX11_tellBegun_39 : decode cX11_tellBegun 39 = .ok (.istore_n 1, 1) := by decide +kernel
theorem dX11_tellBegun_40 : decode cX11_tellBegun 40 = .ok (.iload_n 1, 1) := by decide +kernel
theorem dX11_tellBegun_41 : decode cX11_tellBegun 41 = .ok (.bipush 7, 2) := by decide +kernel
theorem dX11_tellBegun_43 : decode cX11_tellBegun 43 = .ok (.if_icmp .ge 20, 3) := by decide +kernel
theorem dX11_tellBegun_46 : decode cX11_tellBegun 46 = .ok (.aload_n 0, 1) := by decide +kernel
theorem dX11_tellBegun_47 : decode cX11_tellBegun 47 = .ok (.getfield 137, 3) := by decide +kernel
theorem dX11_tellBegun_50 : decode cX11_tellBegun 50 = .ok (.iload_n 1, 1) := by decide +kernel
theorem dX11_tellBegun_51 : decode cX11_tellBegun 51 = .ok (.aload_n 0, 1) := by decide +kernel
theorem dX11_tellBegun_52 : decode cX11_tellBegun 52 = .ok (.iload_n 1, 1) := by decide +kernel
theorem dX11_tellBegun_53 : decode cX11_tellBegun 53 = .ok (.invokevirtual 363, 3) := by decide +kernel
theorem dX11_tellBegun_56 : decode cX11_tellBegun 56 = .ok (.iastore, 1) := by decide +kernel
theorem dX11_tellBegun_57 : decode cX11_tellBegun 57 = .ok (.iinc 1 1, 3) := by decide +kernel
theorem dX11_tellBegun_60 : decode cX11_tellBegun 60 = .ok (.goto (-20), 3) := by decide +kernel
theorem dX11_tellBegun_63 : decode cX11_tellBegun 63 = .ok (.return_, 1) := by decide +kernel
theorem dX11_ask_0 : decode cX11_ask 0 = .ok (.aload_n 0, 1) := by decide +kernel
theorem dX11_ask_1 : decode cX11_ask 1 = .ok (.getfield 125, 3) := by decide +kernel
theorem dX11_ask_4 : decode cX11_ask 4 = .ok (.iconst 0, 1) := by decide +kernel
theorem dX11_ask_5 : decode cX11_ask 5 = .ok (.aload_n 0, 1) := by decide +kernel
theorem dX11_ask_6 : decode cX11_ask 6 = .ok (.getfield 102, 3) := by decide +kernel
theorem dX11_ask_9 : decode cX11_ask 9 = .ok (.iload_n 1, 1) := by decide +kernel
theorem dX11_ask_10 : decode cX11_ask 10 = .ok (.iaload, 1) := by decide +kernel
theorem dX11_ask_11 : decode cX11_ask 11 = .ok (.iastore, 1) := by decide +kernel
theorem dX11_ask_12 : decode cX11_ask 12 = .ok (.aload_n 0, 1) := by decide +kernel
theorem dX11_ask_13 : decode cX11_ask 13 = .ok (.getfield 125, 3) := by decide +kernel
theorem dX11_ask_16 : decode cX11_ask 16 = .ok (.iconst 1, 1) := by decide +kernel
theorem dX11_ask_17 : decode cX11_ask 17 = .ok (.aload_n 0, 1) := by decide +kernel
theorem dX11_ask_18 : decode cX11_ask 18 = .ok (.getfield 104, 3) := by decide +kernel
theorem dX11_ask_21 : decode cX11_ask 21 = .ok (.iload_n 1, 1) := by decide +kernel
theorem dX11_ask_22 : decode cX11_ask 22 = .ok (.iaload, 1) := by decide +kernel
theorem dX11_ask_23 : decode cX11_ask 23 = .ok (.iastore, 1) := by decide +kernel
theorem dX11_ask_24 : decode cX11_ask 24 = .ok (.aload_n 0, 1) := by decide +kernel
theorem dX11_ask_25 : decode cX11_ask 25 = .ok (.getfield 125, 3) := by decide +kernel
theorem dX11_ask_28 : decode cX11_ask 28 = .ok (.iconst 2, 1) := by decide +kernel
theorem dX11_ask_29 : decode cX11_ask 29 = .ok (.aload_n 0, 1) := by decide +kernel
theorem dX11_ask_30 : decode cX11_ask 30 = .ok (.getfield 342, 3) := by decide +kernel
theorem dX11_ask_33 : decode cX11_ask 33 = .ok (.iastore, 1) := by decide +kernel
theorem dX11_ask_34 : decode cX11_ask 34 = .ok (.aload_n 0, 1) := by decide +kernel
theorem dX11_ask_35 : decode cX11_ask 35 = .ok (.getfield 125, 3) := by decide +kernel
theorem dX11_ask_38 : decode cX11_ask 38 = .ok (.iconst 3, 1) := by decide +kernel
theorem dX11_ask_39 : decode cX11_ask 39 = .ok (.aload_n 0, 1) := by decide +kernel
theorem dX11_ask_40 : decode cX11_ask 40 = .ok (.getfield 59, 3) := by decide +kernel
theorem dX11_ask_43 : decode cX11_ask 43 = .ok (.iload_n 1, 1) := by decide +kernel
theorem dX11_ask_44 : decode cX11_ask 44 = .ok (.iaload, 1) := by decide +kernel
theorem dX11_ask_45 : decode cX11_ask 45 = .ok (.iastore, 1) := by decide +kernel
theorem dX11_ask_46 : decode cX11_ask 46 = .ok (.return_, 1) := by decide +kernel
theorem dX11_isAsleep_0 : decode cX11_isAsleep 0 = .ok (.aload_n 0, 1) := by decide +kernel
theorem dX11_isAsleep_1 : decode cX11_isAsleep 1 = .ok (.getfield 55, 3) := by decide +kernel
theorem dX11_isAsleep_4 : decode cX11_isAsleep 4 = .ok (.iconst 4, 1) := by decide +kernel
theorem dX11_isAsleep_5 : decode cX11_isAsleep 5 = .ok (.iaload, 1) := by decide +kernel
theorem dX11_isAsleep_6 : decode cX11_isAsleep 6 = .ok (.ifCond .ne 20, 3) := by decide +kernel
theorem dX11_isAsleep_9 : decode cX11_isAsleep 9 = .ok (.aload_n 0, 1) := by decide +kernel
theorem dX11_isAsleep_10 : decode cX11_isAsleep 10 = .ok (.getfield 102, 3) := by decide +kernel
theorem dX11_isAsleep_13 : decode cX11_isAsleep 13 = .ok (.iload_n 1, 1) := by decide +kernel
theorem dX11_isAsleep_14 : decode cX11_isAsleep 14 = .ok (.iaload, 1) := by decide +kernel
theorem dX11_isAsleep_15 : decode cX11_isAsleep 15 = .ok (.bipush 30, 2) := by decide +kernel
theorem dX11_isAsleep_17 : decode cX11_isAsleep 17 = .ok (.if_icmp .lt 7, 3) := by decide +kernel
theorem dX11_isAsleep_20 : decode cX11_isAsleep 20 = .ok (.iconst 1, 1) := by decide +kernel
theorem dX11_isAsleep_21 : decode cX11_isAsleep 21 = .ok (.goto 4, 3) := by decide +kernel
theorem dX11_isAsleep_24 : decode cX11_isAsleep 24 = .ok (.iconst 0, 1) := by decide +kernel
theorem dX11_isAsleep_25 : decode cX11_isAsleep 25 = .ok (.ireturn, 1) := by decide +kernel
theorem dX11_isAsleep_26 : decode cX11_isAsleep 26 = .ok (.aload_n 0, 1) := by decide +kernel
theorem dX11_isAsleep_27 : decode cX11_isAsleep 27 = .ok (.iload_n 1, 1) := by decide +kernel
theorem dX11_isAsleep_28 : decode cX11_isAsleep 28 = .ok (.invokevirtual 366, 3) := by decide +kernel
theorem dX11_isAsleep_31 : decode cX11_isAsleep 31 = .ok (.aload_n 0, 1) := by decide +kernel
theorem dX11_isAsleep_32 : decode cX11_isAsleep 32 = .ok (.aload_n 0, 1) := by decide +kernel
theorem dX11_isAsleep_33 : decode cX11_isAsleep 33 = .ok (.getfield 89, 3) := by decide +kernel
theorem dX11_isAsleep_36 : decode cX11_isAsleep 36 = .ok (.aload_n 0, 1) := by decide +kernel
theorem dX11_isAsleep_37 : decode cX11_isAsleep 37 = .ok (.getfield 55, 3) := by decide +kernel
theorem dX11_isAsleep_40 : decode cX11_isAsleep 40 = .ok (.iconst 4, 1) := by decide +kernel
theorem dX11_isAsleep_41 : decode cX11_isAsleep 41 = .ok (.iaload, 1) := by decide +kernel
theorem dX11_isAsleep_42 : decode cX11_isAsleep 42 = .ok (.invokevirtual 369, 3) := by decide +kernel
theorem dX11_isAsleep_45 : decode cX11_isAsleep 45 = .ok (.ifCond .le 7, 3) := by decide +kernel
theorem dX11_isAsleep_48 : decode cX11_isAsleep 48 = .ok (.iconst 1, 1) := by decide +kernel
theorem dX11_isAsleep_49 : decode cX11_isAsleep 49 = .ok (.goto 4, 3) := by decide +kernel
theorem dX11_isAsleep_52 : decode cX11_isAsleep 52 = .ok (.iconst 0, 1) := by decide +kernel
theorem dX11_isAsleep_53 : decode cX11_isAsleep 53 = .ok (.ireturn, 1) := by decide +kernel
theorem dX11_next_0 : decode cX11_next 0 = .ok (.iload_n 0, 1) := by decide +kernel
theorem dX11_next_1 : decode cX11_next 1 = .ok (.iconst 1, 1) := by decide +kernel
theorem dX11_next_2 : decode cX11_next 2 = .ok (.ishl, 1) := by decide +kernel
theorem dX11_next_3 : decode cX11_next 3 = .ok (.iload_n 0, 1) := by decide +kernel
theorem dX11_next_4 : decode cX11_next 4 = .ok (.iconst 1, 1) := by decide +kernel
theorem dX11_next_5 : decode cX11_next 5 = .ok (.ishr, 1) := by decide +kernel
theorem dX11_next_6 : decode cX11_next 6 = .ok (.ior, 1) := by decide +kernel
theorem dX11_next_7 : decode cX11_next 7 = .ok (.ireturn, 1) := by decide +kernel
theorem dX11_likes_0 : decode cX11_likes 0 = .ok (.aload_n 0, 1) := by decide +kernel
theorem dX11_likes_1 : decode cX11_likes 1 = .ok (.getfield 131, 3) := by decide +kernel
theorem dX11_likes_4 : decode cX11_likes 4 = .ok (.iload_n 1, 1) := by decide +kernel
theorem dX11_likes_5 : decode cX11_likes 5 = .ok (.iaload, 1) := by decide +kernel
theorem dX11_likes_6 : decode cX11_likes 6 = .ok (.iload_n 2, 1) := by decide +kernel
theorem dX11_likes_7 : decode cX11_likes 7 = .ok (.if_icmp .ne 12, 3) := by decide +kernel
theorem dX11_likes_10 : decode cX11_likes 10 = .ok (.aload_n 0, 1) := by decide +kernel
theorem dX11_likes_11 : decode cX11_likes 11 = .ok (.getfield 134, 3) := by decide +kernel
theorem dX11_likes_14 : decode cX11_likes 14 = .ok (.iload_n 1, 1) := by decide +kernel
theorem dX11_likes_15 : decode cX11_likes 15 = .ok (.iaload, 1) := by decide +kernel
theorem dX11_likes_16 : decode cX11_likes 16 = .ok (.goto 4, 3) := by decide +kernel
theorem dX11_likes_19 : decode cX11_likes 19 = .ok (.iconst 0, 1) := by decide +kernel
theorem dX11_likes_20 : decode cX11_likes 20 = .ok (.istore_n 3, 1) := by decide +kernel
theorem dX11_likes_21 : decode cX11_likes 21 = .ok (.iconst 3, 1) := by decide +kernel
theorem dX11_likes_22 : decode cX11_likes 22 = .ok (.aload_n 0, 1) := by decide +kernel
theorem dX11_likes_23 : decode cX11_likes 23 = .ok (.getfield 115, 3) := by decide +kernel
theorem dX11_likes_26 : decode cX11_likes 26 = .ok (.iload_n 2, 1) := by decide +kernel
theorem dX11_likes_27 : decode cX11_likes 27 = .ok (.iaload, 1) := by decide +kernel
theorem dX11_likes_28 : decode cX11_likes 28 = .ok (.imul, 1) := by decide +kernel
theorem dX11_likes_29 : decode cX11_likes 29 = .ok (.iload_n 3, 1) := by decide +kernel
theorem dX11_likes_30 : decode cX11_likes 30 = .ok (.iadd, 1) := by decide +kernel
theorem dX11_likes_31 : decode cX11_likes 31 = .ok (.aload_n 0, 1) := by decide +kernel
theorem dX11_likes_32 : decode cX11_likes 32 = .ok (.getfield 117, 3) := by decide +kernel
theorem dX11_likes_35 : decode cX11_likes 35 = .ok (.iload_n 2, 1) := by decide +kernel
theorem dX11_likes_36 : decode cX11_likes 36 = .ok (.iaload, 1) := by decide +kernel
theorem dX11_likes_37 : decode cX11_likes 37 = .ok (.aload_n 0, 1) := by decide +kernel
theorem dX11_likes_38 : decode cX11_likes 38 = .ok (.getfield 104, 3) := by decide +kernel
theorem dX11_likes_41 : decode cX11_likes 41 = .ok (.iload_n 1, 1) := by decide +kernel
theorem dX11_likes_42 : decode cX11_likes 42 = .ok (.iaload, 1) := by decide +kernel
theorem dX11_likes_43 : decode cX11_likes 43 = .ok (.imul, 1) := by decide +kernel
theorem dX11_likes_44 : decode cX11_likes 44 = .ok (.isub, 1) := by decide +kernel
theorem dX11_likes_45 : decode cX11_likes 45 = .ok (.istore 4, 2) := by decide +kernel
theorem dX11_likes_47 : decode cX11_likes 47 = .ok (.aload_n 0, 1) := by decide +kernel
theorem dX11_likes_48 : decode cX11_likes 48 = .ok (.getfield 55, 3) := by decide +kernel
theorem dX11_likes_51 : decode cX11_likes 51 = .ok (.iconst 3, 1) := by decide +kernel
theorem dX11_likes_52 : decode cX11_likes 52 = .ok (.iaload, 1) := by decide +kernel
theorem dX11_likes_53 : decode cX11_likes 53 = .ok (.ifCond .le 108, 3) := by decide +kernel
theorem dX11_likes_56 : decode cX11_likes 56 = .ok (.aload_n 0, 1) := by decide +kernel
theorem dX11_likes_57 : decode cX11_likes 57 = .ok (.iload_n 1, 1) := by decide +kernel
theorem dX11_likes_58 : decode cX11_likes 58 = .ok (.invokevirtual 366, 3) := by decide +kernel
theorem dX11_likes_61 : decode cX11_likes 61 = .ok (.aload_n 0, 1) := by decide +kernel
theorem dX11_likes_62 : decode cX11_likes 62 = .ok (.getfield 125, 3) := by decide +kernel
theorem dX11_likes_65 : decode cX11_likes 65 = .ok (.iconst 4, 1) := by decide +kernel
theorem dX11_likes_66 : decode cX11_likes 66 = .ok (.aload_n 0, 1) := by decide +kernel
theorem dX11_likes_67 : decode cX11_likes 67 = .ok (.getfield 115, 3) := by decide +kernel
theorem dX11_likes_70 : decode cX11_likes 70 = .ok (.iload_n 2, 1) := by decide +kernel
theorem dX11_likes_71 : decode cX11_likes 71 = .ok (.iaload, 1) := by decide +kernel
theorem dX11_likes_72 : decode cX11_likes 72 = .ok (.iastore, 1) := by decide +kernel
theorem dX11_likes_73 : decode cX11_likes 73 = .ok (.aload_n 0, 1) := by decide +kernel
theorem dX11_likes_74 : decode cX11_likes 74 = .ok (.getfield 125, 3) := by decide +kernel
theorem dX11_likes_77 : decode cX11_likes 77 = .ok (.iconst 5, 1) := by decide +kernel
theorem dX11_likes_78 : decode cX11_likes 78 = .ok (.aload_n 0, 1) := by decide +kernel
theorem dX11_likes_79 : decode cX11_likes 79 = .ok (.getfield 117, 3) := by decide +kernel
theorem dX11_likes_82 : decode cX11_likes 82 = .ok (.iload_n 2, 1) := by decide +kernel
theorem dX11_likes_83 : decode cX11_likes 83 = .ok (.iaload, 1) := by decide +kernel
theorem dX11_likes_84 : decode cX11_likes 84 = .ok (.iastore, 1) := by decide +kernel
theorem dX11_likes_85 : decode cX11_likes 85 = .ok (.aload_n 0, 1) := by decide +kernel
theorem dX11_likes_86 : decode cX11_likes 86 = .ok (.getfield 125, 3) := by decide +kernel
theorem dX11_likes_89 : decode cX11_likes 89 = .ok (.bipush 6, 2) := by decide +kernel
theorem dX11_likes_91 : decode cX11_likes 91 = .ok (.aload_n 0, 1) := by decide +kernel
theorem dX11_likes_92 : decode cX11_likes 92 = .ok (.getfield 120, 3) := by decide +kernel
theorem dX11_likes_95 : decode cX11_likes 95 = .ok (.iload_n 2, 1) := by decide +kernel
theorem dX11_likes_96 : decode cX11_likes 96 = .ok (.iaload, 1) := by decide +kernel
theorem dX11_likes_97 : decode cX11_likes 97 = .ok (.iastore, 1) := by decide +kernel
theorem dX11_likes_98 : decode cX11_likes 98 = .ok (.aload_n 0, 1) := by decide +kernel
theorem dX11_likes_99 : decode cX11_likes 99 = .ok (.getfield 125, 3) := by decide +kernel
theorem dX11_likes_102 : decode cX11_likes 102 = .ok (.bipush 7, 2) := by decide +kernel
theorem dX11_likes_104 : decode cX11_likes 104 = .ok (.iload_n 3, 1) := by decide +kernel
theorem dX11_likes_105 : decode cX11_likes 105 = .ok (.iastore, 1) := by decide +kernel
theorem dX11_likes_106 : decode cX11_likes 106 = .ok (.aload_n 0, 1) := by decide +kernel
theorem dX11_likes_107 : decode cX11_likes 107 = .ok (.getfield 125, 3) := by decide +kernel
theorem dX11_likes_110 : decode cX11_likes 110 = .ok (.bipush 8, 2) := by decide +kernel
theorem dX11_likes_112 : decode cX11_likes 112 = .ok (.aload_n 0, 1) := by decide +kernel
theorem dX11_likes_113 : decode cX11_likes 113 = .ok (.getfield 137, 3) := by decide +kernel
theorem dX11_likes_116 : decode cX11_likes 116 = .ok (.iload_n 2, 1) := by decide +kernel
theorem dX11_likes_117 : decode cX11_likes 117 = .ok (.iaload, 1) := by decide +kernel
theorem dX11_likes_118 : decode cX11_likes 118 = .ok (.invokestatic 373, 3) := by decide +kernel
theorem dX11_likes_121 : decode cX11_likes 121 = .ok (.iastore, 1) := by decide +kernel
theorem dX11_likes_122 : decode cX11_likes 122 = .ok (.aload_n 0, 1) := by decide +kernel
theorem dX11_likes_123 : decode cX11_likes 123 = .ok (.getfield 125, 3) := by decide +kernel
theorem dX11_likes_126 : decode cX11_likes 126 = .ok (.bipush 9, 2) := by decide +kernel
theorem dX11_likes_128 : decode cX11_likes 128 = .ok (.aload_n 0, 1) := by decide +kernel
theorem dX11_likes_129 : decode cX11_likes 129 = .ok (.getfield 137, 3) := by decide +kernel
theorem dX11_likes_132 : decode cX11_likes 132 = .ok (.iload_n 2, 1) := by decide +kernel
theorem dX11_likes_133 : decode cX11_likes 133 = .ok (.iaload, 1) := by decide +kernel
theorem dX11_likes_134 : decode cX11_likes 134 = .ok (.iconst 1, 1) := by decide +kernel
theorem dX11_likes_135 : decode cX11_likes 135 = .ok (.iload_n 1, 1) := by decide +kernel
theorem dX11_likes_136 : decode cX11_likes 136 = .ok (.ishl, 1) := by decide +kernel
theorem dX11_likes_137 : decode cX11_likes 137 = .ok (.invokestatic 376, 3) := by decide +kernel
theorem dX11_likes_140 : decode cX11_likes 140 = .ok (.iand, 1) := by decide +kernel
theorem dX11_likes_141 : decode cX11_likes 141 = .ok (.invokestatic 373, 3) := by decide +kernel
theorem dX11_likes_144 : decode cX11_likes 144 = .ok (.iastore, 1) := by decide +kernel
theorem dX11_likes_145 : decode cX11_likes 145 = .ok (.aload_n 0, 1) := by decide +kernel
theorem dX11_likes_146 : decode cX11_likes 146 = .ok (.aload_n 0, 1) := by decide +kernel
theorem dX11_likes_147 : decode cX11_likes 147 = .ok (.getfield 86, 3) := by decide +kernel
theorem dX11_likes_150 : decode cX11_likes 150 = .ok (.aload_n 0, 1) := by decide +kernel
theorem dX11_likes_151 : decode cX11_likes 151 = .ok (.getfield 55, 3) := by decide +kernel
theorem dX11_likes_154 : decode cX11_likes 154 = .ok (.iconst 3, 1) := by decide +kernel
theorem dX11_likes_155 : decode cX11_likes 155 = .ok (.iaload, 1) := by decide +kernel
theorem dX11_likes_156 : decode cX11_likes 156 = .ok (.invokevirtual 369, 3) := by decide +kernel
theorem dX11_likes_159 : decode cX11_likes 159 = .ok (.istore 4, 2) := by decide +kernel
theorem dX11_likes_161 : decode cX11_likes 161 = .ok (.sipush (-999), 3) := by decide +kernel
theorem dX11_likes_164 : decode cX11_likes 164 = .ok (.sipush 999, 3) := by decide +kernel
theorem dX11_likes_167 : decode cX11_likes 167 = .ok (.iload 4, 2) := by decide +kernel
theorem dX11_likes_169 : decode cX11_likes 169 = .ok (.invokestatic 232, 3) := by decide +kernel
theorem dX11_likes_172 : decode cX11_likes 172 = .ok (.invokestatic 379, 3) := by decide +kernel
theorem dX11_likes_175 : decode cX11_likes 175 = .ok (.iconst 2, 1) := by decide +kernel
theorem dX11_likes_176 : decode cX11_likes 176 = .ok (.aload_n 0, 1) := by decide +kernel
theorem dX11_likes_177 : decode cX11_likes 177 = .ok (.getfield 72, 3) := by decide +kernel
theorem dX11_likes_180 : decode cX11_likes 180 = .ok (.iload_n 2, 1) := by decide +kernel
theorem dX11_likes_181 : decode cX11_likes 181 = .ok (.iaload, 1) := by decide +kernel
theorem dX11_likes_182 : decode cX11_likes 182 = .ok (.imul, 1) := by decide +kernel
theorem dX11_likes_183 : decode cX11_likes 183 = .ok (.iadd, 1) := by decide +kernel
theorem dX11_likes_184 : decode cX11_likes 184 = .ok (.ireturn, 1) := by decide +kernel
theorem dX11_lifeOf_0 : decode cX11_lifeOf 0 = .ok (.aload_n 0, 1) := by decide +kernel
theorem dX11_lifeOf_1 : decode cX11_lifeOf 1 = .ok (.getfield 61, 3) := by decide +kernel
theorem dX11_lifeOf_4 : decode cX11_lifeOf 4 = .ok (.iload_n 1, 1) := by decide +kernel
theorem dX11_lifeOf_5 : decode cX11_lifeOf 5 = .ok (.iaload, 1) := by decide +kernel
theorem dX11_lifeOf_6 : decode cX11_lifeOf 6 = .ok (.iconst 1, 1) := by decide +kernel
theorem dX11_lifeOf_7 : decode cX11_lifeOf 7 = .ok (.if_icmp .ne 14, 3) := by decide +kernel
theorem dX11_lifeOf_10 : decode cX11_lifeOf 10 = .ok (.iconst 2, 1) := by decide +kernel
theorem dX11_lifeOf_11 : decode cX11_lifeOf 11 = .ok (.aload_n 0, 1) := by decide +kernel
theorem dX11_lifeOf_12 : decode cX11_lifeOf 12 = .ok (.getfield 55, 3) := by decide +kernel
theorem dX11_lifeOf_15 : decode cX11_lifeOf 15 = .ok (.iconst 2, 1) := by decide +kernel
theorem dX11_lifeOf_16 : decode cX11_lifeOf 16 = .ok (.iaload, 1) := by decide +kernel
theorem dX11_lifeOf_17 : decode cX11_lifeOf 17 = .ok (.imul, 1) := by decide +kernel
theorem dX11_lifeOf_18 : decode cX11_lifeOf 18 = .ok (.goto 9, 3) := by decide +kernel
theorem dX11_lifeOf_21 : decode cX11_lifeOf 21 = .ok (.aload_n 0, 1) := by decide +kernel
theorem dX11_lifeOf_22 : decode cX11_lifeOf 22 = .ok (.getfield 55, 3) := by decide +kernel
theorem dX11_lifeOf_25 : decode cX11_lifeOf 25 = .ok (.iconst 2, 1) := by decide +kernel
theorem dX11_lifeOf_26 : decode cX11_lifeOf 26 = .ok (.iaload, 1) := by decide +kernel
theorem dX11_lifeOf_27 : decode cX11_lifeOf 27 = .ok (.ireturn, 1) := by decide +kernel
theorem dX11_older_0 : decode cX11_older 0 = .ok (.aload_n 0, 1) := by decide +kernel
theorem dX11_older_1 : decode cX11_older 1 = .ok (.getfield 102, 3) := by decide +kernel
theorem dX11_older_4 : decode cX11_older 4 = .ok (.iload_n 1, 1) := by decide +kernel
theorem dX11_older_5 : decode cX11_older 5 = .ok (.dup2, 1) := by decide +kernel
theorem dX11_older_6 : decode cX11_older 6 = .ok (.iaload, 1) := by decide +kernel
theorem dX11_older_7 : decode cX11_older 7 = .ok (.iconst 1, 1) := by decide +kernel
theorem dX11_older_8 : decode cX11_older 8 = .ok (.iadd, 1) := by decide +kernel
theorem dX11_older_9 : decode cX11_older 9 = .ok (.iastore, 1) := by decide +kernel
theorem dX11_older_10 : decode cX11_older 10 = .ok (.aload_n 0, 1) := by decide +kernel
theorem dX11_older_11 : decode cX11_older 11 = .ok (.getfield 102, 3) := by decide +kernel
theorem dX11_older_14 : decode cX11_older 14 = .ok (.iload_n 1, 1) := by decide +kernel
theorem dX11_older_15 : decode cX11_older 15 = .ok (.iaload, 1) := by decide +kernel
theorem dX11_older_16 : decode cX11_older 16 = .ok (.aload_n 0, 1) := by decide +kernel
theorem dX11_older_17 : decode cX11_older 17 = .ok (.iload_n 1, 1) := by decide +kernel
theorem dX11_older_18 : decode cX11_older 18 = .ok (.invokevirtual 382, 3) := by decide +kernel
theorem dX11_older_21 : decode cX11_older 21 = .ok (.if_icmp .ge 4, 3) := by decide +kernel
theorem dX11_older_24 : decode cX11_older 24 = .ok (.return_, 1) := by decide +kernel
theorem dX11_older_25 : decode cX11_older 25 = .ok (.aload_n 0, 1) := by decide +kernel
theorem dX11_older_26 : decode cX11_older 26 = .ok (.getfield 107, 3) := by decide +kernel
theorem dX11_older_29 : decode cX11_older 29 = .ok (.iload_n 1, 1) := by decide +kernel
theorem dX11_older_30 : decode cX11_older 30 = .ok (.iaload, 1) := by decide +kernel
theorem dX11_older_31 : decode cX11_older 31 = .ok (.ifCond .le 21, 3) := by decide +kernel
theorem dX11_older_34 : decode cX11_older 34 = .ok (.aload_n 0, 1) := by decide +kernel
theorem dX11_older_35 : decode cX11_older 35 = .ok (.getfield 107, 3) := by decide +kernel
theorem dX11_older_38 : decode cX11_older 38 = .ok (.iload_n 1, 1) := by decide +kernel
theorem dX11_older_39 : decode cX11_older 39 = .ok (.dup2, 1) := by decide +kernel
theorem dX11_older_40 : decode cX11_older 40 = .ok (.iaload, 1) := by decide +kernel
theorem dX11_older_41 : decode cX11_older 41 = .ok (.iconst 1, 1) := by decide +kernel
theorem dX11_older_42 : decode cX11_older 42 = .ok (.isub, 1) := by decide +kernel
theorem dX11_older_43 : decode cX11_older 43 = .ok (.iastore, 1) := by decide +kernel
theorem dX11_older_44 : decode cX11_older 44 = .ok (.aload_n 0, 1) := by decide +kernel
theorem dX11_older_45 : decode cX11_older 45 = .ok (.getfield 102, 3) := by decide +kernel
theorem dX11_older_48 : decode cX11_older 48 = .ok (.iload_n 1, 1) := by decide +kernel
theorem dX11_older_49 : decode cX11_older 49 = .ok (.iconst 0, 1) := by decide +kernel
theorem dX11_older_50 : decode cX11_older 50 = .ok (.iastore, 1) := by decide +kernel
theorem dX11_older_51 : decode cX11_older 51 = .ok (.return_, 1) := by decide +kernel
theorem dX11_older_52 : decode cX11_older 52 = .ok (.aload_n 0, 1) := by decide +kernel
theorem dX11_older_53 : decode cX11_older 53 = .ok (.dup, 1) := by decide +kernel
theorem dX11_older_54 : decode cX11_older 54 = .ok (.getfield 344, 3) := by decide +kernel
theorem dX11_older_57 : decode cX11_older 57 = .ok (.iconst 1, 1) := by decide +kernel
theorem dX11_older_58 : decode cX11_older 58 = .ok (.iload_n 1, 1) := by decide +kernel
theorem dX11_older_59 : decode cX11_older 59 = .ok (.ishl, 1) := by decide +kernel
theorem dX11_older_60 : decode cX11_older 60 = .ok (.ior, 1) := by decide +kernel
theorem dX11_older_61 : decode cX11_older 61 = .ok (.putfield 344, 3) := by decide +kernel
theorem dX11_older_64 : decode cX11_older 64 = .ok (.aload_n 0, 1) := by decide +kernel
theorem dX11_older_65 : decode cX11_older 65 = .ok (.dup, 1) := by decide +kernel
theorem dX11_older_66 : decode cX11_older 66 = .ok (.getfield 347, 3) := by decide +kernel
theorem dX11_older_69 : decode cX11_older 69 = .ok (.iconst 1, 1) := by decide +kernel
theorem dX11_older_70 : decode cX11_older 70 = .ok (.iload_n 1, 1) := by decide +kernel
theorem dX11_older_71 : decode cX11_older 71 = .ok (.ishl, 1) := by decide +kernel
theorem dX11_older_72 : decode cX11_older 72 = .ok (.iconst (-1), 1) := by decide +kernel
theorem dX11_older_73 : decode cX11_older 73 = .ok (.ixor, 1) := by decide +kernel
theorem dX11_older_74 : decode cX11_older 74 = .ok (.iand, 1) := by decide +kernel
theorem dX11_older_75 : decode cX11_older 75 = .ok (.putfield 347, 3) := by decide +kernel
theorem dX11_older_78 : decode cX11_older 78 = .ok (.aload_n 0, 1) := by decide +kernel
theorem dX11_older_79 : decode cX11_older 79 = .ok (.getfield 110, 3) := by decide +kernel
theorem dX11_older_82 : decode cX11_older 82 = .ok (.iload_n 1, 1) := by decide +kernel
theorem dX11_older_83 : decode cX11_older 83 = .ok (.iconst (-1), 1) := by decide +kernel
theorem dX11_older_84 : decode cX11_older 84 = .ok (.iastore, 1) := by decide +kernel
theorem dX11_older_85 : decode cX11_older 85 = .ok (.aload_n 0, 1) := by decide +kernel
theorem dX11_older_86 : decode cX11_older 86 = .ok (.getfield 113, 3) := by decide +kernel
theorem dX11_older_89 : decode cX11_older 89 = .ok (.iload_n 1, 1) := by decide +kernel
theorem dX11_older_90 : decode cX11_older 90 = .ok (.iconst 0, 1) := by decide +kernel
theorem dX11_older_91 : decode cX11_older 91 = .ok (.iastore, 1) := by decide +kernel
theorem dX11_older_92 : decode cX11_older 92 = .ok (.return_, 1) := by decide +kernel
theorem dX11_sits_0 : decode cX11_sits 0 = .ok (.iconst (-1), 1) := by decide +kernel
theorem dX11_sits_1 : decode cX11_sits 1 = .ok (.istore_n 2, 1) := by decide +kernel
theorem dX11_sits_2 : decode cX11_sits 2 = .ok (.iconst 0, 1) := by decide +kernel
theorem dX11_sits_3 : decode cX11_sits 3 = .ok (.istore_n 3, 1) := by decide +kernel
theorem dX11_sits_4 : decode cX11_sits 4 = .ok (.aload_n 0, 1) := by decide +kernel
theorem dX11_sits_5 : decode cX11_sits 5 = .ok (.getfield 347, 3) := by decide +kernel
theorem dX11_sits_8 : decode cX11_sits 8 = .ok (.iload_n 1, 1) := by decide +kernel
theorem dX11_sits_9 : decode cX11_sits 9 = .ok (.invokestatic 385, 3) := by decide +kernel
theorem dX11_sits_12 : decode cX11_sits 12 = .ok (.ifCond .ne 15, 3) := by decide +kernel
theorem dX11_sits_15 : decode cX11_sits 15 = .ok (.aload_n 0, 1) := by decide +kernel
theorem dX11_sits_16 : decode cX11_sits 16 = .ok (.iload_n 1, 1) := by decide +kernel
theorem dX11_sits_17 : decode cX11_sits 17 = .ok (.invokevirtual 388, 3) := by decide +kernel
theorem dX11_sits_20 : decode cX11_sits 20 = .ok (.ifCond .ne 7, 3) := by decide +kernel
theorem dX11_sits_23 : decode cX11_sits 23 = .ok (.iconst 1, 1) := by decide +kernel
theorem dX11_sits_24 : decode cX11_sits 24 = .ok (.goto 4, 3) := by decide +kernel
theorem dX11_sits_27 : decode cX11_sits 27 = .ok (.iconst 0, 1) := by decide +kernel
theorem dX11_sits_28 : decode cX11_sits 28 = .ok (.istore 4, 2) := by decide +kernel
theorem dX11_sits_30 : decode cX11_sits 30 = .ok (.iconst 0, 1) := by decide +kernel
theorem dX11_sits_31 : decode cX11_sits 31 = .ok (.istore 5, 2) := by decide +kernel
theorem dX11_sits_33 : decode cX11_sits 33 = .ok (.iload 5, 2) := by decide +kernel
theorem dX11_sits_35 : decode cX11_sits 35 = .ok (.aload_n 0, 1) := by decide +kernel
theorem dX11_sits_36 : decode cX11_sits 36 = .ok (.getfield 55, 3) := by decide +kernel
theorem dX11_sits_39 : decode cX11_sits 39 = .ok (.iconst 1, 1) := by decide +kernel
theorem dX11_sits_40 : decode cX11_sits 40 = .ok (.iaload, 1) := by decide +kernel
theorem dX11_sits_41 : decode cX11_sits 41 = .ok (.if_icmp .ge 38, 3) := by decide +kernel
theorem dX11_sits_44 : decode cX11_sits 44 = .ok (.iload 4, 2) := by decide +kernel
theorem dX11_sits_46 : decode cX11_sits 46 = .ok (.ifCond .eq 33, 3) := by decide +kernel
theorem dX11_sits_49 : decode cX11_sits 49 = .ok (.aload_n 0, 1) := by decide +kernel
theorem dX11_sits_50 : decode cX11_sits 50 = .ok (.iload_n 1, 1) := by decide +kernel
theorem dX11_sits_51 : decode cX11_sits 51 = .ok (.iload 5, 2) := by decide +kernel
theorem dX11_sits_53 : decode cX11_sits 53 = .ok (.invokevirtual 391, 3) := by decide +kernel
theorem dX11_sits_56 : decode cX11_sits 56 = .ok (.istore 6, 2) := by decide +kernel
theorem dX11_sits_58 : decode cX11_sits 58 = .ok (.iload 6, 2) := by decide +kernel
theorem dX11_sits_60 : decode cX11_sits 60 = .ok (.iload_n 3, 1) := by decide +kernel
theorem dX11_sits_61 : decode cX11_sits 61 = .ok (.if_icmp .gt 6, 3) := by decide +kernel
theorem dX11_sits_64 : decode cX11_sits 64 = .ok (.goto 9, 3) := by decide +kernel
theorem dX11_sits_67 : decode cX11_sits 67 = .ok (.iload 5, 2) := by decide +kernel
theorem dX11_sits_69 : decode cX11_sits 69 = .ok (.istore_n 2, 1) := by decide +kernel
theorem dX11_sits_70 : decode cX11_sits 70 = .ok (.iload 6, 2) := by decide +kernel
theorem dX11_sits_72 : decode cX11_sits 72 = .ok (.istore_n 3, 1) := by decide +kernel
theorem dX11_sits_73 : decode cX11_sits 73 = .ok (.iinc 5 1, 3) := by decide +kernel
theorem dX11_sits_76 : decode cX11_sits 76 = .ok (.goto (-43), 3) := by decide +kernel
theorem dX11_sits_79 : decode cX11_sits 79 = .ok (.aload_n 0, 1) := by decide +kernel
theorem dX11_sits_80 : decode cX11_sits 80 = .ok (.getfield 113, 3) := by decide +kernel
theorem dX11_sits_83 : decode cX11_sits 83 = .ok (.iload_n 1, 1) := by decide +kernel
theorem dX11_sits_84 : decode cX11_sits 84 = .ok (.iload_n 2, 1) := by decide +kernel
theorem dX11_sits_85 : decode cX11_sits 85 = .ok (.iconst (-1), 1) := by decide +kernel
theorem dX11_sits_86 : decode cX11_sits 86 = .ok (.if_icmp .ne 7, 3) := by decide +kernel
theorem dX11_sits_89 : decode cX11_sits 89 = .ok (.iconst 0, 1) := by decide +kernel
theorem dX11_sits_90 : decode cX11_sits 90 = .ok (.goto 25, 3) := by decide +kernel
theorem dX11_sits_93 : decode cX11_sits 93 = .ok (.iload_n 2, 1) := by decide +kernel
theorem dX11_sits_94 : decode cX11_sits 94 = .ok (.aload_n 0, 1) := by decide +kernel
theorem dX11_sits_95 : decode cX11_sits 95 = .ok (.getfield 131, 3) := by decide +kernel
theorem dX11_sits_98 : decode cX11_sits 98 = .ok (.iload_n 1, 1) := by decide +kernel
theorem dX11_sits_99 : decode cX11_sits 99 = .ok (.iaload, 1) := by decide +kernel
theorem dX11_sits_100 : decode cX11_sits 100 = .ok (.if_icmp .ne 14, 3) := by decide +kernel
theorem dX11_sits_103 : decode cX11_sits 103 = .ok (.aload_n 0, 1) := by decide +kernel
theorem dX11_sits_104 : decode cX11_sits 104 = .ok (.getfield 134, 3) := by decide +kernel
theorem dX11_sits_107 : decode cX11_sits 107 = .ok (.iload_n 1, 1) := by decide +kernel
theorem dX11_sits_108 : decode cX11_sits 108 = .ok (.iaload, 1) := by decide +kernel
theorem dX11_sits_109 : decode cX11_sits 109 = .ok (.iconst 1, 1) := by decide +kernel
theorem dX11_sits_110 : decode cX11_sits 110 = .ok (.iadd, 1) := by decide +kernel
theorem dX11_sits_111 : decode cX11_sits 111 = .ok (.goto 4, 3) := by decide +kernel
theorem dX11_sits_114 : decode cX11_sits 114 = .ok (.iconst 1, 1) := by decide +kernel
theorem dX11_sits_115 : decode cX11_sits 115 = .ok (.iastore, 1) := by decide +kernel
theorem dX11_sits_116 : decode cX11_sits 116 = .ok (.aload_n 0, 1) := by decide +kernel
theorem dX11_sits_117 : decode cX11_sits 117 = .ok (.getfield 110, 3) := by decide +kernel
theorem dX11_sits_120 : decode cX11_sits 120 = .ok (.iload_n 1, 1) := by decide +kernel
theorem dX11_sits_121 : decode cX11_sits 121 = .ok (.iload_n 2, 1) := by decide +kernel
theorem dX11_sits_122 : decode cX11_sits 122 = .ok (.iastore, 1) := by decide +kernel
theorem dX11_sits_123 : decode cX11_sits 123 = .ok (.iload_n 2, 1) := by decide +kernel
theorem dX11_sits_124 : decode cX11_sits 124 = .ok (.iconst (-1), 1) := by decide +kernel
theorem dX11_sits_125 : decode cX11_sits 125 = .ok (.if_icmp .eq 21, 3) := by decide +kernel
theorem dX11_sits_128 : decode cX11_sits 128 = .ok (.aload_n 0, 1) := by decide +kernel
theorem dX11_sits_129 : decode cX11_sits 129 = .ok (.getfield 115, 3) := by decide +kernel
theorem dX11_sits_132 : decode cX11_sits 132 = .ok (.iload_n 2, 1) := by decide +kernel
theorem dX11_sits_133 : decode cX11_sits 133 = .ok (.iconst 0, 1) := by decide +kernel
theorem dX11_sits_134 : decode cX11_sits 134 = .ok (.aload_n 0, 1) := by decide +kernel
theorem dX11_sits_135 : decode cX11_sits 135 = .ok (.getfield 115, 3) := by decide +kernel
theorem dX11_sits_138 : decode cX11_sits 138 = .ok (.iload_n 2, 1) := by decide +kernel
theorem dX11_sits_139 : decode cX11_sits 139 = .ok (.iaload, 1) := by decide +kernel
theorem dX11_sits_140 : decode cX11_sits 140 = .ok (.iconst 1, 1) := by decide +kernel
theorem dX11_sits_141 : decode cX11_sits 141 = .ok (.isub, 1) := by decide +kernel
theorem dX11_sits_142 : decode cX11_sits 142 = .ok (.invokestatic 379, 3) := by decide +kernel
theorem dX11_sits_145 : decode cX11_sits 145 = .ok (.iastore, 1) := by decide +kernel
theorem dX11_sits_146 : decode cX11_sits 146 = .ok (.return_, 1) := by decide +kernel
theorem dX11_aQuarter_0 : decode cX11_aQuarter 0 = .ok (.aload_n 0, 1) := by decide +kernel
theorem dX11_aQuarter_1 : decode cX11_aQuarter 1 = .ok (.invokevirtual 393, 3) := by decide +kernel
theorem dX11_aQuarter_4 : decode cX11_aQuarter 4 = .ok (.iconst 0, 1) := by decide +kernel
theorem dX11_aQuarter_5 : decode cX11_aQuarter 5 = .ok (.istore_n 1, 1) := by decide +kernel
theorem dX11_aQuarter_6 : decode cX11_aQuarter 6 = .ok (.iload_n 1, 1) := by decide +kernel
theorem dX11_aQuarter_7 : decode cX11_aQuarter 7 = .ok (.aload_n 0, 1) := by decide +kernel
theorem dX11_aQuarter_8 : decode cX11_aQuarter 8 = .ok (.getfield 55, 3) := by decide +kernel
theorem dX11_aQuarter_11 : decode cX11_aQuarter 11 = .ok (.iconst 0, 1) := by decide +kernel
theorem dX11_aQuarter_12 : decode cX11_aQuarter 12 = .ok (.iaload, 1) := by decide +kernel
theorem dX11_aQuarter_13 : decode cX11_aQuarter 13 = .ok (.if_icmp .ge 25, 3) := by decide +kernel
theorem dX11_aQuarter_16 : decode cX11_aQuarter 16 = .ok (.aload_n 0, 1) := by decide +kernel
theorem dX11_aQuarter_17 : decode cX11_aQuarter 17 = .ok (.getfield 344, 3) := by decide +kernel
theorem dX11_aQuarter_20 : decode cX11_aQuarter 20 = .ok (.iload_n 1, 1) := by decide +kernel
theorem dX11_aQuarter_21 : decode cX11_aQuarter 21 = .ok (.invokestatic 385, 3) := by decide +kernel
theorem dX11_aQuarter_24 : decode cX11_aQuarter 24 = .ok (.ifCond .ne 8, 3) := by decide +kernel
theorem dX11_aQuarter_27 : decode cX11_aQuarter 27 = .ok (.aload_n 0, 1) := by decide +kernel
theorem dX11_aQuarter_28 : decode cX11_aQuarter 28 = .ok (.iload_n 1, 1) := by decide +kernel
theorem dX11_aQuarter_29 : decode cX11_aQuarter 29 = .ok (.invokevirtual 396, 3) := by decide +kernel
theorem dX11_aQuarter_32 : decode cX11_aQuarter 32 = .ok (.iinc 1 1, 3) := by decide +kernel
theorem dX11_aQuarter_35 : decode cX11_aQuarter 35 = .ok (.goto (-29), 3) := by decide +kernel
theorem dX11_aQuarter_38 : decode cX11_aQuarter 38 = .ok (.iconst 0, 1) := by decide +kernel
theorem dX11_aQuarter_39 : decode cX11_aQuarter 39 = .ok (.istore_n 1, 1) := by decide +kernel
theorem dX11_aQuarter_40 : decode cX11_aQuarter 40 = .ok (.iload_n 1, 1) := by decide +kernel
theorem dX11_aQuarter_41 : decode cX11_aQuarter 41 = .ok (.aload_n 0, 1) := by decide +kernel
theorem dX11_aQuarter_42 : decode cX11_aQuarter 42 = .ok (.getfield 55, 3) := by decide +kernel
theorem dX11_aQuarter_45 : decode cX11_aQuarter 45 = .ok (.iconst 0, 1) := by decide +kernel
theorem dX11_aQuarter_46 : decode cX11_aQuarter 46 = .ok (.iaload, 1) := by decide +kernel
theorem dX11_aQuarter_47 : decode cX11_aQuarter 47 = .ok (.if_icmp .ge 25, 3) := by decide +kernel
theorem dX11_aQuarter_50 : decode cX11_aQuarter 50 = .ok (.aload_n 0, 1) := by decide +kernel
theorem dX11_aQuarter_51 : decode cX11_aQuarter 51 = .ok (.getfield 344, 3) := by decide +kernel
theorem dX11_aQuarter_54 : decode cX11_aQuarter 54 = .ok (.iload_n 1, 1) := by decide +kernel
theorem dX11_aQuarter_55 : decode cX11_aQuarter 55 = .ok (.invokestatic 385, 3) := by decide +kernel
theorem dX11_aQuarter_58 : decode cX11_aQuarter 58 = .ok (.ifCond .ne 8, 3) := by decide +kernel
theorem dX11_aQuarter_61 : decode cX11_aQuarter 61 = .ok (.aload_n 0, 1) := by decide +kernel
theorem dX11_aQuarter_62 : decode cX11_aQuarter 62 = .ok (.iload_n 1, 1) := by decide +kernel
theorem dX11_aQuarter_63 : decode cX11_aQuarter 63 = .ok (.invokevirtual 399, 3) := by decide +kernel
theorem dX11_aQuarter_66 : decode cX11_aQuarter 66 = .ok (.iinc 1 1, 3) := by decide +kernel
theorem dX11_aQuarter_69 : decode cX11_aQuarter 69 = .ok (.goto (-29), 3) := by decide +kernel
theorem dX11_aQuarter_72 : decode cX11_aQuarter 72 = .ok (.iconst 0, 1) := by decide +kernel
theorem dX11_aQuarter_73 : decode cX11_aQuarter 73 = .ok (.istore_n 1, 1) := by decide +kernel
theorem dX11_aQuarter_74 : decode cX11_aQuarter 74 = .ok (.iload_n 1, 1) := by decide +kernel
theorem dX11_aQuarter_75 : decode cX11_aQuarter 75 = .ok (.aload_n 0, 1) := by decide +kernel
theorem dX11_aQuarter_76 : decode cX11_aQuarter 76 = .ok (.getfield 55, 3) := by decide +kernel
theorem dX11_aQuarter_79 : decode cX11_aQuarter 79 = .ok (.iconst 1, 1) := by decide +kernel
theorem dX11_aQuarter_80 : decode cX11_aQuarter 80 = .ok (.iaload, 1) := by decide +kernel
theorem dX11_aQuarter_81 : decode cX11_aQuarter 81 = .ok (.if_icmp .ge 96, 3) := by decide +kernel
theorem dX11_aQuarter_84 : decode cX11_aQuarter 84 = .ok (.iconst 0, 1) := by decide +kernel
theorem dX11_aQuarter_85 : decode cX11_aQuarter 85 = .ok (.istore_n 2, 1) := by decide +kernel
theorem dX11_aQuarter_86 : decode cX11_aQuarter 86 = .ok (.iconst 0, 1) := by decide +kernel
theorem dX11_aQuarter_87 : decode cX11_aQuarter 87 = .ok (.istore_n 3, 1) := by decide +kernel
theorem dX11_aQuarter_88 : decode cX11_aQuarter 88 = .ok (.iload_n 3, 1) := by decide +kernel
theorem dX11_aQuarter_89 : decode cX11_aQuarter 89 = .ok (.aload_n 0, 1) := by decide +kernel
theorem dX11_aQuarter_90 : decode cX11_aQuarter 90 = .ok (.getfield 55, 3) := by decide +kernel
theorem dX11_aQuarter_93 : decode cX11_aQuarter 93 = .ok (.iconst 0, 1) := by decide +kernel
theorem dX11_aQuarter_94 : decode cX11_aQuarter 94 = .ok (.iaload, 1) := by decide +kernel
theorem dX11_aQuarter_95 : decode cX11_aQuarter 95 = .ok (.if_icmp .ge 32, 3) := by decide +kernel
theorem dX11_aQuarter_98 : decode cX11_aQuarter 98 = .ok (.iload_n 2, 1) := by decide +kernel
theorem dX11_aQuarter_99 : decode cX11_aQuarter 99 = .ok (.aload_n 0, 1) := by decide +kernel
theorem dX11_aQuarter_100 : decode cX11_aQuarter 100 = .ok (.getfield 110, 3) := by decide +kernel
theorem dX11_aQuarter_103 : decode cX11_aQuarter 103 = .ok (.iload_n 3, 1) := by decide +kernel
theorem dX11_aQuarter_104 : decode cX11_aQuarter 104 = .ok (.iaload, 1) := by decide +kernel
theorem dX11_aQuarter_105 : decode cX11_aQuarter 105 = .ok (.iload_n 1, 1) := by decide +kernel
theorem dX11_aQuarter_106 : decode cX11_aQuarter 106 = .ok (.if_icmp .ne 12, 3) := by decide +kernel
theorem dX11_aQuarter_109 : decode cX11_aQuarter 109 = .ok (.aload_n 0, 1) := by decide +kernel
theorem dX11_aQuarter_110 : decode cX11_aQuarter 110 = .ok (.getfield 59, 3) := by decide +kernel
theorem dX11_aQuarter_113 : decode cX11_aQuarter 113 = .ok (.iload_n 3, 1) := by decide +kernel
theorem dX11_aQuarter_114 : decode cX11_aQuarter 114 = .ok (.iaload, 1) := by decide +kernel
theorem dX11_aQuarter_115 : decode cX11_aQuarter 115 = .ok (.goto 4, 3) := by decide +kernel
theorem dX11_aQuarter_118 : decode cX11_aQuarter 118 = .ok (.iconst 0, 1) := by decide +kernel
theorem dX11_aQuarter_119 : decode cX11_aQuarter 119 = .ok (.iadd, 1) := by decide +kernel
theorem dX11_aQuarter_120 : decode cX11_aQuarter 120 = .ok (.istore_n 2, 1) := by decide +kernel
theorem dX11_aQuarter_121 : decode cX11_aQuarter 121 = .ok (.iinc 3 1, 3) := by decide +kernel
theorem dX11_aQuarter_124 : decode cX11_aQuarter 124 = .ok (.goto (-36), 3) := by decide +kernel
theorem dX11_aQuarter_127 : decode cX11_aQuarter 127 = .ok (.aload_n 0, 1) := by decide +kernel
theorem dX11_aQuarter_128 : decode cX11_aQuarter 128 = .ok (.getfield 120, 3) := by decide +kernel
theorem dX11_aQuarter_131 : decode cX11_aQuarter 131 = .ok (.iload_n 1, 1) := by decide +kernel
theorem dX11_aQuarter_132 : decode cX11_aQuarter 132 = .ok (.sipush 9999, 3) := by decide +kernel
theorem dX11_aQuarter_135 : decode cX11_aQuarter 135 = .ok (.aload_n 0, 1) := by decide +kernel
theorem dX11_aQuarter_136 : decode cX11_aQuarter 136 = .ok (.getfield 120, 3) := by decide +kernel
theorem dX11_aQuarter_139 : decode cX11_aQuarter 139 = .ok (.iload_n 1, 1) := by decide +kernel
theorem dX11_aQuarter_140 : decode cX11_aQuarter 140 = .ok (.iaload, 1) := by decide +kernel
theorem dX11_aQuarter_141 : decode cX11_aQuarter 141 = .ok (.iload_n 2, 1) := by decide +kernel
theorem dX11_aQuarter_142 : decode cX11_aQuarter 142 = .ok (.iadd, 1) := by decide +kernel
theorem dX11_aQuarter_143 : decode cX11_aQuarter 143 = .ok (.invokestatic 232, 3) := by decide +kernel
theorem dX11_aQuarter_146 : decode cX11_aQuarter 146 = .ok (.iastore, 1) := by decide +kernel
theorem dX11_aQuarter_147 : decode cX11_aQuarter 147 = .ok (.aload_n 0, 1) := by decide +kernel
theorem dX11_aQuarter_148 : decode cX11_aQuarter 148 = .ok (.getfield 115, 3) := by decide +kernel
theorem dX11_aQuarter_151 : decode cX11_aQuarter 151 = .ok (.iload_n 1, 1) := by decide +kernel
theorem dX11_aQuarter_152 : decode cX11_aQuarter 152 = .ok (.bipush 20, 2) := by decide +kernel
theorem dX11_aQuarter_154 : decode cX11_aQuarter 154 = .ok (.aload_n 0, 1) := by decide +kernel
theorem dX11_aQuarter_155 : decode cX11_aQuarter 155 = .ok (.getfield 115, 3) := by decide +kernel
theorem dX11_aQuarter_158 : decode cX11_aQuarter 158 = .ok (.iload_n 1, 1) := by decide +kernel
theorem dX11_aQuarter_159 : decode cX11_aQuarter 159 = .ok (.iaload, 1) := by decide +kernel
theorem dX11_aQuarter_160 : decode cX11_aQuarter 160 = .ok (.aload_n 0, 1) := by decide +kernel
theorem dX11_aQuarter_161 : decode cX11_aQuarter 161 = .ok (.getfield 74, 3) := by decide +kernel
theorem dX11_aQuarter_164 : decode cX11_aQuarter 164 = .ok (.iload_n 1, 1) := by decide +kernel
theorem dX11_aQuarter_165 : decode cX11_aQuarter 165 = .ok (.iaload, 1) := by decide +kernel
theorem dX11_aQuarter_166 : decode cX11_aQuarter 166 = .ok (.iadd, 1) := by decide +kernel
theorem dX11_aQuarter_167 : decode cX11_aQuarter 167 = .ok (.invokestatic 232, 3) := by decide +kernel
theorem dX11_aQuarter_170 : decode cX11_aQuarter 170 = .ok (.iastore, 1) := by decide +kernel
theorem dX11_aQuarter_171 : decode cX11_aQuarter 171 = .ok (.iinc 1 1, 3) := by decide +kernel
theorem dX11_aQuarter_174 : decode cX11_aQuarter 174 = .ok (.goto (-100), 3) := by decide +kernel
theorem dX11_aQuarter_177 : decode cX11_aQuarter 177 = .ok (.aload_n 0, 1) := by decide +kernel
theorem dX11_aQuarter_178 : decode cX11_aQuarter 178 = .ok (.iconst 0, 1) := by decide +kernel
theorem dX11_aQuarter_179 : decode cX11_aQuarter 179 = .ok (.putfield 347, 3) := by decide +kernel
theorem dX11_aQuarter_182 : decode cX11_aQuarter 182 = .ok (.aload_n 0, 1) := by decide +kernel
theorem dX11_aQuarter_183 : decode cX11_aQuarter 183 = .ok (.dup, 1) := by decide +kernel
theorem dX11_aQuarter_184 : decode cX11_aQuarter 184 = .ok (.getfield 342, 3) := by decide +kernel
theorem dX11_aQuarter_187 : decode cX11_aQuarter 187 = .ok (.iconst 1, 1) := by decide +kernel
theorem dX11_aQuarter_188 : decode cX11_aQuarter 188 = .ok (.iadd, 1) := by decide +kernel
theorem dX11_aQuarter_189 : decode cX11_aQuarter 189 = .ok (.putfield 342, 3) := by decide +kernel
theorem dX11_aQuarter_192 : decode cX11_aQuarter 192 = .ok (.return_, 1) := by decide +kernel
theorem dX11_goOn_0 : decode cX11_goOn 0 = .ok (.iconst 0, 1) := by decide +kernel
theorem dX11_goOn_1 : decode cX11_goOn 1 = .ok (.istore_n 2, 1) := by decide +kernel
theorem dX11_goOn_2 : decode cX11_goOn 2 = .ok (.iload_n 2, 1) := by decide +kernel
theorem dX11_goOn_3 : decode cX11_goOn 3 = .ok (.iload_n 1, 1) := by decide +kernel
theorem dX11_goOn_4 : decode cX11_goOn 4 = .ok (.if_icmp .ge 13, 3) := by decide +kernel
theorem dX11_goOn_7 : decode cX11_goOn 7 = .ok (.aload_n 0, 1) := by decide +kernel
theorem dX11_goOn_8 : decode cX11_goOn 8 = .ok (.invokevirtual 402, 3) := by decide +kernel
theorem dX11_goOn_11 : decode cX11_goOn 11 = .ok (.iinc 2 1, 3) := by decide +kernel
theorem dX11_goOn_14 : decode cX11_goOn 14 = .ok (.goto (-12), 3) := by decide +kernel
theorem dX11_goOn_17 : decode cX11_goOn 17 = .ok (.return_, 1) := by decide +kernel
theorem dX11_nobodys_0 : decode cX11_nobodys 0 = .ok (.iconst 0, 1) := by decide +kernel
theorem dX11_nobodys_1 : decode cX11_nobodys 1 = .ok (.istore_n 1, 1) := by decide +kernel
theorem dX11_nobodys_2 : decode cX11_nobodys 2 = .ok (.iconst 0, 1) := by decide +kernel
theorem dX11_nobodys_3 : decode cX11_nobodys 3 = .ok (.istore_n 2, 1) := by decide +kernel
theorem dX11_nobodys_4 : decode cX11_nobodys 4 = .ok (.iload_n 2, 1) := by decide +kernel
theorem dX11_nobodys_5 : decode cX11_nobodys 5 = .ok (.aload_n 0, 1) := by decide +kernel
theorem dX11_nobodys_6 : decode cX11_nobodys 6 = .ok (.getfield 55, 3) := by decide +kernel
theorem dX11_nobodys_9 : decode cX11_nobodys 9 = .ok (.iconst 0, 1) := by decide +kernel
theorem dX11_nobodys_10 : decode cX11_nobodys 10 = .ok (.iaload, 1) := by decide +kernel
theorem dX11_nobodys_11 : decode cX11_nobodys 11 = .ok (.if_icmp .ge 29, 3) := by decide +kernel
theorem dX11_nobodys_14 : decode cX11_nobodys 14 = .ok (.iload_n 1, 1) := by decide +kernel
theorem dX11_nobodys_15 : decode cX11_nobodys 15 = .ok (.aload_n 0, 1) := by decide +kernel
theorem dX11_nobodys_16 : decode cX11_nobodys 16 = .ok (.getfield 110, 3) := by decide +kernel
theorem dX11_nobodys_19 : decode cX11_nobodys 19 = .ok (.iload_n 2, 1) := by decide +kernel
theorem dX11_nobodys_20 : decode cX11_nobodys 20 = .ok (.iaload, 1) := by decide +kernel
theorem dX11_nobodys_21 : decode cX11_nobodys 21 = .ok (.iconst (-1), 1) := by decide +kernel
theorem dX11_nobodys_22 : decode cX11_nobodys 22 = .ok (.if_icmp .ne 9, 3) := by decide +kernel
theorem dX11_nobodys_25 : decode cX11_nobodys 25 = .ok (.iconst 1, 1) := by decide +kernel
theorem dX11_nobodys_26 : decode cX11_nobodys 26 = .ok (.iload_n 2, 1) := by decide +kernel
theorem dX11_nobodys_27 : decode cX11_nobodys 27 = .ok (.ishl, 1) := by decide +kernel
theorem dX11_nobodys_28 : decode cX11_nobodys 28 = .ok (.goto 4, 3) := by decide +kernel
theorem dX11_nobodys_31 : decode cX11_nobodys 31 = .ok (.iconst 0, 1) := by decide +kernel
theorem dX11_nobodys_32 : decode cX11_nobodys 32 = .ok (.ior, 1) := by decide +kernel
theorem dX11_nobodys_33 : decode cX11_nobodys 33 = .ok (.istore_n 1, 1) := by decide +kernel
theorem dX11_nobodys_34 : decode cX11_nobodys 34 = .ok (.iinc 2 1, 3) := by decide +kernel
theorem dX11_nobodys_37 : decode cX11_nobodys 37 = .ok (.goto (-33), 3) := by decide +kernel
theorem dX11_nobodys_40 : decode cX11_nobodys 40 = .ok (.iload_n 1, 1) := by decide +kernel
theorem dX11_nobodys_41 : decode cX11_nobodys 41 = .ok (.ireturn, 1) := by decide +kernel
theorem dX11_allCoins_0 : decode cX11_allCoins 0 = .ok (.iconst 0, 1) := by decide +kernel
theorem dX11_allCoins_1 : decode cX11_allCoins 1 = .ok (.istore_n 1, 1) := by decide +kernel
theorem dX11_allCoins_2 : decode cX11_allCoins 2 = .ok (.iconst 0, 1) := by decide +kernel
theorem dX11_allCoins_3 : decode cX11_allCoins 3 = .ok (.istore_n 2, 1) := by decide +kernel
theorem dX11_allCoins_4 : decode cX11_allCoins 4 = .ok (.iload_n 2, 1) := by decide +kernel
theorem dX11_allCoins_5 : decode cX11_allCoins 5 = .ok (.aload_n 0, 1) := by decide +kernel
theorem dX11_allCoins_6 : decode cX11_allCoins 6 = .ok (.getfield 55, 3) := by decide +kernel
theorem dX11_allCoins_9 : decode cX11_allCoins 9 = .ok (.iconst 1, 1) := by decide +kernel
theorem dX11_allCoins_10 : decode cX11_allCoins 10 = .ok (.iaload, 1) := by decide +kernel
theorem dX11_allCoins_11 : decode cX11_allCoins 11 = .ok (.if_icmp .ge 18, 3) := by decide +kernel
theorem dX11_allCoins_14 : decode cX11_allCoins 14 = .ok (.iload_n 1, 1) := by decide +kernel
theorem dX11_allCoins_15 : decode cX11_allCoins 15 = .ok (.aload_n 0, 1) := by decide +kernel
theorem dX11_allCoins_16 : decode cX11_allCoins 16 = .ok (.getfield 120, 3) := by decide +kernel
theorem dX11_allCoins_19 : decode cX11_allCoins 19 = .ok (.iload_n 2, 1) := by decide +kernel
theorem dX11_allCoins_20 : decode cX11_allCoins 20 = .ok (.iaload, 1) := by decide +kernel
theorem dX11_allCoins_21 : decode cX11_allCoins 21 = .ok (.iadd, 1) := by decide +kernel
theorem dX11_allCoins_22 : decode cX11_allCoins 22 = .ok (.istore_n 1, 1) := by decide +kernel
theorem dX11_allCoins_23 : decode cX11_allCoins 23 = .ok (.iinc 2 1, 3) := by decide +kernel
theorem dX11_allCoins_26 : decode cX11_allCoins 26 = .ok (.goto (-22), 3) := by decide +kernel
theorem dX11_allCoins_29 : decode cX11_allCoins 29 = .ok (.iload_n 1, 1) := by decide +kernel
theorem dX11_allCoins_30 : decode cX11_allCoins 30 = .ok (.ireturn, 1) := by decide +kernel
theorem dX11_count_0 : decode cX11_count 0 = .ok (.aload_n 0, 1) := by decide +kernel
theorem dX11_count_1 : decode cX11_count 1 = .ok (.iconst 0, 1) := by decide +kernel
theorem dX11_count_2 : decode cX11_count 2 = .ok (.putfield 195, 3) := by decide +kernel
theorem dX11_count_5 : decode cX11_count 5 = .ok (.iload_n 1, 1) := by decide +kernel
theorem dX11_count_6 : decode cX11_count 6 = .ok (.tableswitch 127 0 13 #[70, 70, 70, 77, 82, 87, 92, 97, 102, 107, 112, 117, 117, 117], 70) := by decide +kernel
theorem dX11_count_76 : decode cX11_count 76 = .ok (.aload_n 0, 1) := by decide +kernel
theorem dX11_count_77 : decode cX11_count 77 = .ok (.getfield 55, 3) := by decide +kernel
theorem dX11_count_80 : decode cX11_count 80 = .ok (.iload_n 1, 1) := by decide +kernel
theorem dX11_count_81 : decode cX11_count 81 = .ok (.iaload, 1) := by decide +kernel
theorem dX11_count_82 : decode cX11_count 82 = .ok (.ireturn, 1) := by decide +kernel
theorem dX11_count_83 : decode cX11_count 83 = .ok (.aload_n 0, 1) := by decide +kernel
theorem dX11_count_84 : decode cX11_count 84 = .ok (.getfield 342, 3) := by decide +kernel
theorem dX11_count_87 : decode cX11_count 87 = .ok (.ireturn, 1) := by decide +kernel
theorem dX11_count_88 : decode cX11_count 88 = .ok (.aload_n 0, 1) := by decide +kernel
theorem dX11_count_89 : decode cX11_count 89 = .ok (.getfield 344, 3) := by decide +kernel
theorem dX11_count_92 : decode cX11_count 92 = .ok (.ireturn, 1) := by decide +kernel
theorem dX11_count_93 : decode cX11_count 93 = .ok (.aload_n 0, 1) := by decide +kernel
theorem dX11_count_94 : decode cX11_count 94 = .ok (.invokevirtual 405, 3) := by decide +kernel
theorem dX11_count_97 : decode cX11_count 97 = .ok (.ireturn, 1) := by decide +kernel
theorem dX11_count_98 : decode cX11_count 98 = .ok (.aload_n 0, 1) := by decide +kernel
theorem dX11_count_99 : decode cX11_count 99 = .ok (.getfield 347, 3) := by decide +kernel
theorem dX11_count_102 : decode cX11_count 102 = .ok (.ireturn, 1) := by decide +kernel
theorem dX11_count_103 : decode cX11_count 103 = .ok (.aload_n 0, 1) := by decide +kernel
theorem dX11_count_104 : decode cX11_count 104 = .ok (.invokevirtual 408, 3) := by decide +kernel
theorem dX11_count_107 : decode cX11_count 107 = .ok (.ireturn, 1) := by decide +kernel
theorem dX11_count_108 : decode cX11_count 108 = .ok (.aload_n 0, 1) := by decide +kernel
theorem dX11_count_109 : decode cX11_count 109 = .ok (.getfield 350, 3) := by decide +kernel
theorem dX11_count_112 : decode cX11_count 112 = .ok (.ireturn, 1) := by decide +kernel
theorem dX11_count_113 : decode cX11_count 113 = .ok (.aload_n 0, 1) := by decide +kernel
theorem dX11_count_114 : decode cX11_count 114 = .ok (.getfield 353, 3) := by decide +kernel
theorem dX11_count_117 : decode cX11_count 117 = .ok (.ireturn, 1) := by decide +kernel
theorem dX11_count_118 : decode cX11_count 118 = .ok (.aload_n 0, 1) := by decide +kernel
theorem dX11_count_119 : decode cX11_count 119 = .ok (.getfield 202, 3) := by decide +kernel
theorem dX11_count_122 : decode cX11_count 122 = .ok (.ireturn, 1) := by decide +kernel
theorem dX11_count_123 : decode cX11_count 123 = .ok (.aload_n 0, 1) := by decide +kernel
theorem dX11_count_124 : decode cX11_count 124 = .ok (.getfield 92, 3) := by decide +kernel
theorem dX11_count_127 : decode cX11_count 127 = .ok (.iload_n 1, 1) := by decide +kernel
theorem dX11_count_128 : decode cX11_count 128 = .ok (.bipush 11, 2) := by decide +kernel
theorem dX11_count_130 : decode cX11_count 130 = .ok (.isub, 1) := by decide +kernel
theorem dX11_count_131 : decode cX11_count 131 = .ok (.iaload, 1) := by decide +kernel
theorem dX11_count_132 : decode cX11_count 132 = .ok (.ireturn, 1) := by decide +kernel
theorem dX11_count_133 : decode cX11_count 133 = .ok (.aload_n 0, 1) := by decide +kernel
theorem dX11_count_134 : decode cX11_count 134 = .ok (.iconst 1, 1) := by decide +kernel
theorem dX11_count_135 : decode cX11_count 135 = .ok (.invokevirtual 329, 3) := by decide +kernel
theorem dX11_count_138 : decode cX11_count 138 = .ok (.ireturn, 1) := by decide +kernel
theorem dX11_house_0 : decode cX11_house 0 = .ok (.aload_n 0, 1) := by decide +kernel
theorem dX11_house_1 : decode cX11_house 1 = .ok (.iconst 0, 1) := by decide +kernel
theorem dX11_house_2 : decode cX11_house 2 = .ok (.putfield 195, 3) := by decide +kernel
theorem dX11_house_5 : decode cX11_house 5 = .ok (.aload_n 0, 1) := by decide +kernel
theorem dX11_house_6 : decode cX11_house 6 = .ok (.iload_n 1, 1) := by decide +kernel
theorem dX11_house_7 : decode cX11_house 7 = .ok (.invokevirtual 411, 3) := by decide +kernel
theorem dX11_house_10 : decode cX11_house 10 = .ok (.ifCond .ne 9, 3) := by decide +kernel
theorem dX11_house_13 : decode cX11_house 13 = .ok (.aload_n 0, 1) := by decide +kernel
theorem dX11_house_14 : decode cX11_house 14 = .ok (.iconst 1, 1) := by decide +kernel
theorem dX11_house_15 : decode cX11_house 15 = .ok (.invokevirtual 329, 3) := by decide +kernel
theorem dX11_house_18 : decode cX11_house 18 = .ok (.ireturn, 1) := by decide +kernel
theorem dX11_house_19 : decode cX11_house 19 = .ok (.iload_n 2, 1) := by decide +kernel
theorem dX11_house_20 : decode cX11_house 20 = .ok (.tableswitch 122 0 7 #[48, 55, 62, 69, 76, 83, 90, 97], 48) := by decide +kernel
theorem dX11_house_68 : decode cX11_house 68 = .ok (.aload_n 0, 1) := by decide +kernel
theorem dX11_house_69 : decode cX11_house 69 = .ok (.getfield 59, 3) := by decide +kernel
theorem dX11_house_72 : decode cX11_house 72 = .ok (.iload_n 1, 1) := by decide +kernel
theorem dX11_house_73 : decode cX11_house 73 = .ok (.iaload, 1) := by decide +kernel
theorem dX11_house_74 : decode cX11_house 74 = .ok (.ireturn, 1) := by decide +kernel
theorem dX11_house_75 : decode cX11_house 75 = .ok (.aload_n 0, 1) := by decide +kernel
theorem dX11_house_76 : decode cX11_house 76 = .ok (.getfield 102, 3) := by decide +kernel
theorem dX11_house_79 : decode cX11_house 79 = .ok (.iload_n 1, 1) := by decide +kernel
theorem dX11_house_80 : decode cX11_house 80 = .ok (.iaload, 1) := by decide +kernel
theorem dX11_house_81 : decode cX11_house 81 = .ok (.ireturn, 1) := by decide +kernel
theorem dX11_house_82 : decode cX11_house 82 = .ok (.aload_n 0, 1) := by decide +kernel
theorem dX11_house_83 : decode cX11_house 83 = .ok (.getfield 104, 3) := by decide +kernel
theorem dX11_house_86 : decode cX11_house 86 = .ok (.iload_n 1, 1) := by decide +kernel
theorem dX11_house_87 : decode cX11_house 87 = .ok (.iaload, 1) := by decide +kernel
theorem dX11_house_88 : decode cX11_house 88 = .ok (.ireturn, 1) := by decide +kernel
theorem dX11_house_89 : decode cX11_house 89 = .ok (.aload_n 0, 1) := by decide +kernel
theorem dX11_house_90 : decode cX11_house 90 = .ok (.getfield 107, 3) := by decide +kernel
theorem dX11_house_93 : decode cX11_house 93 = .ok (.iload_n 1, 1) := by decide +kernel
theorem dX11_house_94 : decode cX11_house 94 = .ok (.iaload, 1) := by decide +kernel
theorem dX11_house_95 : decode cX11_house 95 = .ok (.ireturn, 1) := by decide +kernel
theorem dX11_house_96 : decode cX11_house 96 = .ok (.aload_n 0, 1) := by decide +kernel
theorem dX11_house_97 : decode cX11_house 97 = .ok (.getfield 110, 3) := by decide +kernel
theorem dX11_house_100 : decode cX11_house 100 = .ok (.iload_n 1, 1) := by decide +kernel
theorem dX11_house_101 : decode cX11_house 101 = .ok (.iaload, 1) := by decide +kernel
theorem dX11_house_102 : decode cX11_house 102 = .ok (.ireturn, 1) := by decide +kernel
theorem dX11_house_103 : decode cX11_house 103 = .ok (.aload_n 0, 1) := by decide +kernel
theorem dX11_house_104 : decode cX11_house 104 = .ok (.getfield 113, 3) := by decide +kernel
theorem dX11_house_107 : decode cX11_house 107 = .ok (.iload_n 1, 1) := by decide +kernel
theorem dX11_house_108 : decode cX11_house 108 = .ok (.iaload, 1) := by decide +kernel
theorem dX11_house_109 : decode cX11_house 109 = .ok (.ireturn, 1) := by decide +kernel
theorem dX11_house_110 : decode cX11_house 110 = .ok (.aload_n 0, 1) := by decide +kernel
theorem dX11_house_111 : decode cX11_house 111 = .ok (.getfield 61, 3) := by decide +kernel
theorem dX11_house_114 : decode cX11_house 114 = .ok (.iload_n 1, 1) := by decide +kernel
theorem dX11_house_115 : decode cX11_house 115 = .ok (.iaload, 1) := by decide +kernel
theorem dX11_house_116 : decode cX11_house 116 = .ok (.ireturn, 1) := by decide +kernel
theorem dX11_house_117 : decode cX11_house 117 = .ok (.aload_n 0, 1) := by decide +kernel
theorem dX11_house_118 : decode cX11_house 118 = .ok (.getfield 344, 3) := by decide +kernel
theorem dX11_house_121 : decode cX11_house 121 = .ok (.iload_n 1, 1) := by decide +kernel
theorem dX11_house_122 : decode cX11_house 122 = .ok (.invokestatic 385, 3) := by decide +kernel
theorem dX11_house_125 : decode cX11_house 125 = .ok (.ifCond .ne 15, 3) := by decide +kernel
theorem dX11_house_128 : decode cX11_house 128 = .ok (.aload_n 0, 1) := by decide +kernel
theorem dX11_house_129 : decode cX11_house 129 = .ok (.iload_n 1, 1) := by decide +kernel
theorem dX11_house_130 : decode cX11_house 130 = .ok (.invokevirtual 388, 3) := by decide +kernel
theorem dX11_house_133 : decode cX11_house 133 = .ok (.ifCond .eq 7, 3) := by decide +kernel
theorem dX11_house_136 : decode cX11_house 136 = .ok (.iconst 1, 1) := by decide +kernel
theorem dX11_house_137 : decode cX11_house 137 = .ok (.goto 4, 3) := by decide +kernel
theorem dX11_house_140 : decode cX11_house 140 = .ok (.iconst 0, 1) := by decide +kernel
theorem dX11_house_141 : decode cX11_house 141 = .ok (.ireturn, 1) := by decide +kernel
theorem dX11_house_142 : decode cX11_house 142 = .ok (.aload_n 0, 1) := by decide +kernel
theorem dX11_house_143 : decode cX11_house 143 = .ok (.iconst 1, 1) := by decide +kernel
theorem dX11_house_144 : decode cX11_house 144 = .ok (.invokevirtual 329, 3) := by decide +kernel
theorem dX11_house_147 : decode cX11_house 147 = .ok (.ireturn, 1) := by decide +kernel
theorem dX11_tenant_0 : decode cX11_tenant 0 = .ok (.aload_n 0, 1) := by decide +kernel
theorem dX11_tenant_1 : decode cX11_tenant 1 = .ok (.iconst 0, 1) := by decide +kernel
theorem dX11_tenant_2 : decode cX11_tenant 2 = .ok (.putfield 195, 3) := by decide +kernel
theorem dX11_tenant_5 : decode cX11_tenant 5 = .ok (.aload_n 0, 1) := by decide +kernel
theorem dX11_tenant_6 : decode cX11_tenant 6 = .ok (.iload_n 1, 1) := by decide +kernel
theorem dX11_tenant_7 : decode cX11_tenant 7 = .ok (.invokevirtual 414, 3) := by decide +kernel
theorem dX11_tenant_10 : decode cX11_tenant 10 = .ok (.ifCond .ne 9, 3) := by decide +kernel
theorem dX11_tenant_13 : decode cX11_tenant 13 = .ok (.aload_n 0, 1) := by decide +kernel
theorem dX11_tenant_14 : decode cX11_tenant 14 = .ok (.iconst 1, 1) := by decide +kernel
theorem dX11_tenant_15 : decode cX11_tenant 15 = .ok (.invokevirtual 329, 3) := by decide +kernel
theorem dX11_tenant_18 : decode cX11_tenant 18 = .ok (.ireturn, 1) := by decide +kernel
theorem dX11_tenant_19 : decode cX11_tenant 19 = .ok (.iload_n 2, 1) := by decide +kernel
theorem dX11_tenant_20 : decode cX11_tenant 20 = .ok (.tableswitch 81 0 5 #[40, 47, 54, 61, 68, 74], 40) := by decide +kernel
theorem dX11_tenant_60 : decode cX11_tenant 60 = .ok (.aload_n 0, 1) := by decide +kernel
theorem dX11_tenant_61 : decode cX11_tenant 61 = .ok (.getfield 115, 3) := by decide +kernel
theorem dX11_tenant_64 : decode cX11_tenant 64 = .ok (.iload_n 1, 1) := by decide +kernel
theorem dX11_tenant_65 : decode cX11_tenant 65 = .ok (.iaload, 1) := by decide +kernel
theorem dX11_tenant_66 : decode cX11_tenant 66 = .ok (.ireturn, 1) := by decide +kernel
theorem dX11_tenant_67 : decode cX11_tenant 67 = .ok (.aload_n 0, 1) := by decide +kernel
theorem dX11_tenant_68 : decode cX11_tenant 68 = .ok (.getfield 74, 3) := by decide +kernel
theorem dX11_tenant_71 : decode cX11_tenant 71 = .ok (.iload_n 1, 1) := by decide +kernel
theorem dX11_tenant_72 : decode cX11_tenant 72 = .ok (.iaload, 1) := by decide +kernel
theorem dX11_tenant_73 : decode cX11_tenant 73 = .ok (.ireturn, 1) := by decide +kernel
theorem dX11_tenant_74 : decode cX11_tenant 74 = .ok (.aload_n 0, 1) := by decide +kernel
theorem dX11_tenant_75 : decode cX11_tenant 75 = .ok (.getfield 117, 3) := by decide +kernel
theorem dX11_tenant_78 : decode cX11_tenant 78 = .ok (.iload_n 1, 1) := by decide +kernel
theorem dX11_tenant_79 : decode cX11_tenant 79 = .ok (.iaload, 1) := by decide +kernel
theorem dX11_tenant_80 : decode cX11_tenant 80 = .ok (.ireturn, 1) := by decide +kernel
theorem dX11_tenant_81 : decode cX11_tenant 81 = .ok (.aload_n 0, 1) := by decide +kernel
theorem dX11_tenant_82 : decode cX11_tenant 82 = .ok (.getfield 120, 3) := by decide +kernel
theorem dX11_tenant_85 : decode cX11_tenant 85 = .ok (.iload_n 1, 1) := by decide +kernel
theorem dX11_tenant_86 : decode cX11_tenant 86 = .ok (.iaload, 1) := by decide +kernel
theorem dX11_tenant_87 : decode cX11_tenant 87 = .ok (.ireturn, 1) := by decide +kernel
theorem dX11_tenant_88 : decode cX11_tenant 88 = .ok (.aload_n 0, 1) := by decide +kernel
theorem dX11_tenant_89 : decode cX11_tenant 89 = .ok (.iload_n 1, 1) := by decide +kernel
theorem dX11_tenant_90 : decode cX11_tenant 90 = .ok (.invokevirtual 363, 3) := by decide +kernel
theorem dX11_tenant_93 : decode cX11_tenant 93 = .ok (.ireturn, 1) := by decide +kernel
theorem dX11_tenant_94 : decode cX11_tenant 94 = .ok (.aload_n 0, 1) := by decide +kernel
theorem dX11_tenant_95 : decode cX11_tenant 95 = .ok (.getfield 72, 3) := by decide +kernel
theorem dX11_tenant_98 : decode cX11_tenant 98 = .ok (.iload_n 1, 1) := by decide +kernel
theorem dX11_tenant_99 : decode cX11_tenant 99 = .ok (.iaload, 1) := by decide +kernel
theorem dX11_tenant_100 : decode cX11_tenant 100 = .ok (.ireturn, 1) := by decide +kernel
theorem dX11_tenant_101 : decode cX11_tenant 101 = .ok (.aload_n 0, 1) := by decide +kernel
theorem dX11_tenant_102 : decode cX11_tenant 102 = .ok (.iconst 1, 1) := by decide +kernel
theorem dX11_tenant_103 : decode cX11_tenant 103 = .ok (.invokevirtual 329, 3) := by decide +kernel
theorem dX11_tenant_106 : decode cX11_tenant 106 = .ok (.ireturn, 1) := by decide +kernel
theorem dX11_refuse_0 : decode cX11_refuse 0 = .ok (.aload_n 0, 1) := by decide +kernel
theorem dX11_refuse_1 : decode cX11_refuse 1 = .ok (.getfield 92, 3) := by decide +kernel
theorem dX11_refuse_4 : decode cX11_refuse 4 = .ok (.iload_n 1, 1) := by decide +kernel
theorem dX11_refuse_5 : decode cX11_refuse 5 = .ok (.dup2, 1) := by decide +kernel
theorem dX11_refuse_6 : decode cX11_refuse 6 = .ok (.iaload, 1) := by decide +kernel
theorem dX11_refuse_7 : decode cX11_refuse 7 = .ok (.iconst 1, 1) := by decide +kernel
theorem dX11_refuse_8 : decode cX11_refuse 8 = .ok (.iadd, 1) := by decide +kernel
theorem dX11_refuse_9 : decode cX11_refuse 9 = .ok (.iastore, 1) := by decide +kernel
theorem dX11_refuse_10 : decode cX11_refuse 10 = .ok (.iconst (-1), 1) := by decide +kernel
theorem dX11_refuse_11 : decode cX11_refuse 11 = .ok (.ireturn, 1) := by decide +kernel
theorem dX11_keep_0 : decode cX11_keep 0 = .ok (.aload_n 0, 1) := by decide +kernel
theorem dX11_keep_1 : decode cX11_keep 1 = .ok (.getfield 350, 3) := by decide +kernel
theorem dX11_keep_4 : decode cX11_keep 4 = .ok (.bipush 40, 2) := by decide +kernel
theorem dX11_keep_6 : decode cX11_keep 6 = .ok (.if_icmp .ne 46, 3) := by decide +kernel
theorem dX11_keep_9 : decode cX11_keep 9 = .ok (.bipush 64, 2) := by decide +kernel
theorem dX11_keep_11 : decode cX11_keep 11 = .ok (.istore_n 1, 1) := by decide +kernel
theorem dX11_keep_12 : decode cX11_keep 12 = .ok (.iload_n 1, 1) := by decide +kernel
theorem dX11_keep_13 : decode cX11_keep 13 = .ok (.aload_n 0, 1) := by decide +kernel
theorem dX11_keep_14 : decode cX11_keep 14 = .ok (.getfield 122, 3) := by decide +kernel
theorem dX11_keep_17 : decode cX11_keep 17 = .ok (.arraylength, 1) := by decide +kernel
theorem dX11_keep_18 : decode cX11_keep 18 = .ok (.if_icmp .ge 24, 3) := by decide +kernel
theorem dX11_keep_21 : decode cX11_keep 21 = .ok (.aload_n 0, 1) := by decide +kernel
theorem dX11_keep_22 : decode cX11_keep 22 = .ok (.getfield 122, 3) := by decide +kernel
theorem dX11_keep_25 : decode cX11_keep 25 = .ok (.iload_n 1, 1) := by decide +kernel
theorem dX11_keep_26 : decode cX11_keep 26 = .ok (.bipush 64, 2) := by decide +kernel
theorem dX11_keep_28 : decode cX11_keep 28 = .ok (.isub, 1) := by decide +kernel
theorem dX11_keep_29 : decode cX11_keep 29 = .ok (.aload_n 0, 1) := by decide +kernel
theorem dX11_keep_30 : decode cX11_keep 30 = .ok (.getfield 122, 3) := by decide +kernel
theorem dX11_keep_33 : decode cX11_keep 33 = .ok (.iload_n 1, 1) := by decide +kernel
theorem dX11_keep_34 : decode cX11_keep 34 = .ok (.iaload, 1) := by decide +kernel
theorem dX11_keep_35 : decode cX11_keep 35 = .ok (.iastore, 1) := by decide +kernel
theorem dX11_keep_36 : decode cX11_keep 36 = .ok (.iinc 1 1, 3) := by decide +kernel
theorem dX11_keep_39 : decode cX11_keep 39 = .ok (.goto (-27), 3) := by decide +kernel
theorem dX11_keep_42 : decode cX11_keep 42 = .ok (.aload_n 0, 1) := by decide +kernel
theorem dX11_keep_43 : decode cX11_keep 43 = .ok (.dup, 1) := by decide +kernel
theorem dX11_keep_44 : decode cX11_keep 44 = .ok (.getfield 350, 3) := by decide +kernel
theorem dX11_keep_47 : decode cX11_keep 47 = .ok (.iconst 1, 1) := by decide +kernel
theorem dX11_keep_48 : decode cX11_keep 48 = .ok (.isub, 1) := by decide +kernel
theorem dX11_keep_49 : decode cX11_keep 49 = .ok (.putfield 350, 3) := by decide +kernel
theorem dX11_keep_52 : decode cX11_keep 52 = .ok (.aload_n 0, 1) := by decide +kernel
theorem dX11_keep_53 : decode cX11_keep 53 = .ok (.aload_n 0, 1) := by decide +kernel
theorem dX11_keep_54 : decode cX11_keep 54 = .ok (.getfield 122, 3) := by decide +kernel
theorem dX11_keep_57 : decode cX11_keep 57 = .ok (.bipush 64, 2) := by decide +kernel
theorem dX11_keep_59 : decode cX11_keep 59 = .ok (.aload_n 0, 1) := by decide +kernel
theorem dX11_keep_60 : decode cX11_keep 60 = .ok (.getfield 350, 3) := by decide +kernel
theorem dX11_keep_63 : decode cX11_keep 63 = .ok (.imul, 1) := by decide +kernel
theorem dX11_keep_64 : decode cX11_keep 64 = .ok (.invokevirtual 417, 3) := by decide +kernel
theorem dX11_keep_67 : decode cX11_keep 67 = .ok (.aload_n 0, 1) := by decide +kernel
theorem dX11_keep_68 : decode cX11_keep 68 = .ok (.dup, 1) := by decide +kernel
theorem dX11_keep_69 : decode cX11_keep 69 = .ok (.getfield 350, 3) := by decide +kernel
theorem dX11_keep_72 : decode cX11_keep 72 = .ok (.iconst 1, 1) := by decide +kernel
theorem dX11_keep_73 : decode cX11_keep 73 = .ok (.iadd, 1) := by decide +kernel
theorem dX11_keep_74 : decode cX11_keep 74 = .ok (.putfield 350, 3) := by decide +kernel
theorem dX11_keep_77 : decode cX11_keep 77 = .ok (.return_, 1) := by decide +kernel
theorem dX11_quarters_0 : decode cX11_quarters 0 = .ok (.aload_n 0, 1) := by decide +kernel
theorem dX11_quarters_1 : decode cX11_quarters 1 = .ok (.iconst 0, 1) := by decide +kernel
theorem dX11_quarters_2 : decode cX11_quarters 2 = .ok (.putfield 195, 3) := by decide +kernel
theorem dX11_quarters_5 : decode cX11_quarters 5 = .ok (.iload_n 1, 1) := by decide +kernel
theorem dX11_quarters_6 : decode cX11_quarters 6 = .ok (.i2l, 1) := by decide +kernel
theorem dX11_quarters_7 : decode cX11_quarters 7 = .ok (.lconst 1, 1) := by decide +kernel
theorem dX11_quarters_8 : decode cX11_quarters 8 = .ok (.ldc2_w 421, 3) := by decide +kernel
theorem dX11_quarters_11 : decode cX11_quarters 11 = .ok (.invokestatic 198, 3) := by decide +kernel
theorem dX11_quarters_14 : decode cX11_quarters 14 = .ok (.ifCond .eq 15, 3) := by decide +kernel
theorem dX11_quarters_17 : decode cX11_quarters 17 = .ok (.aload_n 0, 1) := by decide +kernel
theorem dX11_quarters_18 : decode cX11_quarters 18 = .ok (.getfield 342, 3) := by decide +kernel
theorem dX11_quarters_21 : decode cX11_quarters 21 = .ok (.iload_n 1, 1) := by decide +kernel
theorem dX11_quarters_22 : decode cX11_quarters 22 = .ok (.iadd, 1) := by decide +kernel
theorem dX11_quarters_23 : decode cX11_quarters 23 = .ok (.sipush 999, 3) := by decide +kernel
theorem dX11_quarters_26 : decode cX11_quarters 26 = .ok (.if_icmp .le 9, 3) := by decide +kernel
theorem dX11_quarters_29 : decode cX11_quarters 29 = .ok (.aload_n 0, 1) := by decide +kernel
theorem dX11_quarters_30 : decode cX11_quarters 30 = .ok (.iconst 1, 1) := by decide +kernel
theorem dX11_quarters_31 : decode cX11_quarters 31 = .ok (.invokevirtual 423, 3) := by decide +kernel
theorem dX11_quarters_34 : decode cX11_quarters 34 = .ok (.ireturn, 1) := by decide +kernel
theorem dX11_quarters_35 : decode cX11_quarters 35 = .ok (.aload_n 0, 1) := by decide +kernel
theorem dX11_quarters_36 : decode cX11_quarters 36 = .ok (.invokevirtual 426, 3) := by decide +kernel
theorem dX11_quarters_39 : decode cX11_quarters 39 = .ok (.aload_n 0, 1) := by decide +kernel
theorem dX11_quarters_40 : decode cX11_quarters 40 = .ok (.iload_n 1, 1) := by decide +kernel
theorem dX11_quarters_41 : decode cX11_quarters 41 = .ok (.invokevirtual 429, 3) := by decide +kernel
theorem dX11_quarters_44 : decode cX11_quarters 44 = .ok (.aload_n 0, 1) := by decide +kernel
theorem dX11_quarters_45 : decode cX11_quarters 45 = .ok (.getfield 342, 3) := by decide +kernel
theorem dX11_quarters_48 : decode cX11_quarters 48 = .ok (.ireturn, 1) := by decide +kernel
theorem dX11_buy_0 : decode cX11_buy 0 = .ok (.aload_n 0, 1) := by decide +kernel
theorem dX11_buy_1 : decode cX11_buy 1 = .ok (.iconst 0, 1) := by decide +kernel
theorem dX11_buy_2 : decode cX11_buy 2 = .ok (.putfield 195, 3) := by decide +kernel
theorem dX11_buy_5 : decode cX11_buy 5 = .ok (.aload_n 0, 1) := by decide +kernel
theorem dX11_buy_6 : decode cX11_buy 6 = .ok (.iload_n 1, 1) := by decide +kernel
theorem dX11_buy_7 : decode cX11_buy 7 = .ok (.invokevirtual 414, 3) := by decide +kernel
theorem dX11_buy_10 : decode cX11_buy 10 = .ok (.ifCond .ne 9, 3) := by decide +kernel
theorem dX11_buy_13 : decode cX11_buy 13 = .ok (.aload_n 0, 1) := by decide +kernel
theorem dX11_buy_14 : decode cX11_buy 14 = .ok (.iconst 1, 1) := by decide +kernel
theorem dX11_buy_15 : decode cX11_buy 15 = .ok (.invokevirtual 329, 3) := by decide +kernel
theorem dX11_buy_18 : decode cX11_buy 18 = .ok (.ireturn, 1) := by decide +kernel
theorem dX11_buy_19 : decode cX11_buy 19 = .ok (.iload_n 2, 1) := by decide +kernel
theorem dX11_buy_20 : decode cX11_buy 20 = .ok (.i2l, 1) := by decide +kernel
theorem dX11_buy_21 : decode cX11_buy 21 = .ok (.lconst 1, 1) := by decide +kernel
theorem dX11_buy_22 : decode cX11_buy 22 = .ok (.ldc2_w 432, 3) := by decide +kernel
theorem dX11_buy_25 : decode cX11_buy 25 = .ok (.invokestatic 198, 3) := by decide +kernel
theorem dX11_buy_28 : decode cX11_buy 28 = .ok (.ifCond .eq 15, 3) := by decide +kernel
theorem dX11_buy_31 : decode cX11_buy 31 = .ok (.aload_n 0, 1) := by decide +kernel
theorem dX11_buy_32 : decode cX11_buy 32 = .ok (.getfield 120, 3) := by decide +kernel
theorem dX11_buy_35 : decode cX11_buy 35 = .ok (.iload_n 1, 1) := by decide +kernel
theorem dX11_buy_36 : decode cX11_buy 36 = .ok (.iaload, 1) := by decide +kernel
theorem dX11_buy_37 : decode cX11_buy 37 = .ok (.iconst 3, 1) := by decide +kernel
theorem dX11_buy_38 : decode cX11_buy 38 = .ok (.iload_n 2, 1) := by decide +kernel
theorem dX11_buy_39 : decode cX11_buy 39 = .ok (.imul, 1) := by decide +kernel
theorem dX11_buy_40 : decode cX11_buy 40 = .ok (.if_icmp .ge 9, 3) := by decide +kernel
theorem dX11_buy_43 : decode cX11_buy 43 = .ok (.aload_n 0, 1) := by decide +kernel
theorem dX11_buy_44 : decode cX11_buy 44 = .ok (.iconst 1, 1) := by decide +kernel
theorem dX11_buy_45 : decode cX11_buy 45 = .ok (.invokevirtual 423, 3) := by decide +kernel
theorem dX11_buy_48 : decode cX11_buy 48 = .ok (.ireturn, 1) := by decide +kernel
theorem dX11_buy_49 : decode cX11_buy 49 = .ok (.aload_n 0, 1) := by decide +kernel
theorem dX11_buy_50 : decode cX11_buy 50 = .ok (.invokevirtual 426, 3) := by decide +kernel
theorem dX11_buy_53 : decode cX11_buy 53 = .ok (.aload_n 0, 1) := by decide +kernel
theorem dX11_buy_54 : decode cX11_buy 54 = .ok (.getfield 120, 3) := by decide +kernel
theorem dX11_buy_57 : decode cX11_buy 57 = .ok (.iload_n 1, 1) := by decide +kernel
theorem dX11_buy_58 : decode cX11_buy 58 = .ok (.dup2, 1) := by decide +kernel
theorem dX11_buy_59 : decode cX11_buy 59 = .ok (.iaload, 1) := by decide +kernel
theorem dX11_buy_60 : decode cX11_buy 60 = .ok (.iconst 3, 1) := by decide +kernel
theorem dX11_buy_61 : decode cX11_buy 61 = .ok (.iload_n 2, 1) := by decide +kernel
theorem dX11_buy_62 : decode cX11_buy 62 = .ok (.imul, 1) := by decide +kernel
theorem dX11_buy_63 : decode cX11_buy 63 = .ok (.isub, 1) := by decide +kernel
theorem dX11_buy_64 : decode cX11_buy 64 = .ok (.iastore, 1) := by decide +kernel
theorem dX11_buy_65 : decode cX11_buy 65 = .ok (.aload_n 0, 1) := by decide +kernel
theorem dX11_buy_66 : decode cX11_buy 66 = .ok (.getfield 115, 3) := by decide +kernel
theorem dX11_buy_69 : decode cX11_buy 69 = .ok (.iload_n 1, 1) := by decide +kernel
theorem dX11_buy_70 : decode cX11_buy 70 = .ok (.bipush 20, 2) := by decide +kernel
theorem dX11_buy_72 : decode cX11_buy 72 = .ok (.aload_n 0, 1) := by decide +kernel
theorem dX11_buy_73 : decode cX11_buy 73 = .ok (.getfield 115, 3) := by decide +kernel
theorem dX11_buy_76 : decode cX11_buy 76 = .ok (.iload_n 1, 1) := by decide +kernel
theorem dX11_buy_77 : decode cX11_buy 77 = .ok (.iaload, 1) := by decide +kernel
theorem dX11_buy_78 : decode cX11_buy 78 = .ok (.iload_n 2, 1) := by decide +kernel
theorem dX11_buy_79 : decode cX11_buy 79 = .ok (.iadd, 1) := by decide +kernel
theorem dX11_buy_80 : decode cX11_buy 80 = .ok (.invokestatic 232, 3) := by decide +kernel
theorem dX11_buy_83 : decode cX11_buy 83 = .ok (.iastore, 1) := by decide +kernel
theorem dX11_buy_84 : decode cX11_buy 84 = .ok (.aload_n 0, 1) := by decide +kernel
theorem dX11_buy_85 : decode cX11_buy 85 = .ok (.getfield 115, 3) := by decide +kernel
theorem dX11_buy_88 : decode cX11_buy 88 = .ok (.iload_n 1, 1) := by decide +kernel
theorem dX11_buy_89 : decode cX11_buy 89 = .ok (.iaload, 1) := by decide +kernel
theorem dX11_buy_90 : decode cX11_buy 90 = .ok (.ireturn, 1) := by decide +kernel
theorem dX11_cats_0 : decode cX11_cats 0 = .ok (.aload_n 0, 1) := by decide +kernel
theorem dX11_cats_1 : decode cX11_cats 1 = .ok (.iconst 0, 1) := by decide +kernel
theorem dX11_cats_2 : decode cX11_cats 2 = .ok (.putfield 195, 3) := by decide +kernel
theorem dX11_cats_5 : decode cX11_cats 5 = .ok (.aload_n 0, 1) := by decide +kernel
theorem dX11_cats_6 : decode cX11_cats 6 = .ok (.iload_n 1, 1) := by decide +kernel
theorem dX11_cats_7 : decode cX11_cats 7 = .ok (.invokevirtual 414, 3) := by decide +kernel
theorem dX11_cats_10 : decode cX11_cats 10 = .ok (.ifCond .ne 9, 3) := by decide +kernel
theorem dX11_cats_13 : decode cX11_cats 13 = .ok (.aload_n 0, 1) := by decide +kernel
theorem dX11_cats_14 : decode cX11_cats 14 = .ok (.iconst 1, 1) := by decide +kernel
theorem dX11_cats_15 : decode cX11_cats 15 = .ok (.invokevirtual 329, 3) := by decide +kernel
theorem dX11_cats_18 : decode cX11_cats 18 = .ok (.ireturn, 1) := by decide +kernel
theorem dX11_cats_19 : decode cX11_cats 19 = .ok (.iload_n 2, 1) := by decide +kernel
theorem dX11_cats_20 : decode cX11_cats 20 = .ok (.i2l, 1) := by decide +kernel
theorem dX11_cats_21 : decode cX11_cats 21 = .ok (.lconst 0, 1) := by decide +kernel
theorem dX11_cats_22 : decode cX11_cats 22 = .ok (.ldc2_w 434, 3) := by decide +kernel
theorem dX11_cats_25 : decode cX11_cats 25 = .ok (.invokestatic 198, 3) := by decide +kernel
theorem dX11_cats_28 : decode cX11_cats 28 = .ok (.ifCond .ne 9, 3) := by decide +kernel
theorem dX11_cats_31 : decode cX11_cats 31 = .ok (.aload_n 0, 1) := by decide +kernel
theorem dX11_cats_32 : decode cX11_cats 32 = .ok (.iconst 1, 1) := by decide +kernel
theorem dX11_cats_33 : decode cX11_cats 33 = .ok (.invokevirtual 423, 3) := by decide +kernel
theorem dX11_cats_36 : decode cX11_cats 36 = .ok (.ireturn, 1) := by decide +kernel
theorem dX11_cats_37 : decode cX11_cats 37 = .ok (.aload_n 0, 1) := by decide +kernel
theorem dX11_cats_38 : decode cX11_cats 38 = .ok (.invokevirtual 426, 3) := by decide +kernel
theorem dX11_cats_41 : decode cX11_cats 41 = .ok (.aload_n 0, 1) := by decide +kernel
theorem dX11_cats_42 : decode cX11_cats 42 = .ok (.getfield 117, 3) := by decide +kernel
theorem dX11_cats_45 : decode cX11_cats 45 = .ok (.iload_n 1, 1) := by decide +kernel
theorem dX11_cats_46 : decode cX11_cats 46 = .ok (.iaload, 1) := by decide +kernel
theorem dX11_cats_47 : decode cX11_cats 47 = .ok (.istore_n 3, 1) := by decide +kernel
theorem dX11_cats_48 : decode cX11_cats 48 = .ok (.aload_n 0, 1) := by decide +kernel
theorem dX11_cats_49 : decode cX11_cats 49 = .ok (.getfield 117, 3) := by decide +kernel
theorem dX11_cats_52 : decode cX11_cats 52 = .ok (.iload_n 1, 1) := by decide +kernel
theorem dX11_cats_53 : decode cX11_cats 53 = .ok (.iload_n 2, 1) := by decide +kernel
theorem dX11_cats_54 : decode cX11_cats 54 = .ok (.iastore, 1) := by decide +kernel
theorem dX11_cats_55 : decode cX11_cats 55 = .ok (.iload_n 3, 1) := by decide +kernel
theorem dX11_cats_56 : decode cX11_cats 56 = .ok (.ireturn, 1) := by decide +kernel
theorem dX11_lead_0 : decode cX11_lead 0 = .ok (.aload_n 0, 1) := by decide +kernel
theorem dX11_lead_1 : decode cX11_lead 1 = .ok (.iconst 0, 1) := by decide +kernel
theorem dX11_lead_2 : decode cX11_lead 2 = .ok (.putfield 195, 3) := by decide +kernel
theorem dX11_lead_5 : decode cX11_lead 5 = .ok (.aload_n 0, 1) := by decide +kernel
theorem dX11_lead_6 : decode cX11_lead 6 = .ok (.iload_n 1, 1) := by decide +kernel
theorem dX11_lead_7 : decode cX11_lead 7 = .ok (.invokevirtual 411, 3) := by decide +kernel
theorem dX11_lead_10 : decode cX11_lead 10 = .ok (.ifCond .ne 9, 3) := by decide +kernel
theorem dX11_lead_13 : decode cX11_lead 13 = .ok (.aload_n 0, 1) := by decide +kernel
theorem dX11_lead_14 : decode cX11_lead 14 = .ok (.iconst 1, 1) := by decide +kernel
theorem dX11_lead_15 : decode cX11_lead 15 = .ok (.invokevirtual 436, 3) := by decide +kernel
theorem dX11_lead_18 : decode cX11_lead 18 = .ok (.ireturn, 1) := by decide +kernel
theorem dX11_lead_19 : decode cX11_lead 19 = .ok (.aload_n 0, 1) := by decide +kernel
theorem dX11_lead_20 : decode cX11_lead 20 = .ok (.getfield 344, 3) := by decide +kernel
theorem dX11_lead_23 : decode cX11_lead 23 = .ok (.iload_n 1, 1) := by decide +kernel
theorem dX11_lead_24 : decode cX11_lead 24 = .ok (.invokestatic 385, 3) := by decide +kernel
theorem dX11_lead_27 : decode cX11_lead 27 = .ok (.ifCond .ne 15, 3) := by decide +kernel
theorem dX11_lead_30 : decode cX11_lead 30 = .ok (.aload_n 0, 1) := by decide +kernel
theorem dX11_lead_31 : decode cX11_lead 31 = .ok (.getfield 347, 3) := by decide +kernel
theorem dX11_lead_34 : decode cX11_lead 34 = .ok (.iload_n 1, 1) := by decide +kernel
theorem dX11_lead_35 : decode cX11_lead 35 = .ok (.invokestatic 385, 3) := by decide +kernel
theorem dX11_lead_38 : decode cX11_lead 38 = .ok (.iload_n 2, 1) := by decide +kernel
theorem dX11_lead_39 : decode cX11_lead 39 = .ok (.if_icmp .ne 15, 3) := by decide +kernel
theorem dX11_lead_42 : decode cX11_lead 42 = .ok (.aload_n 0, 1) := by decide +kernel
theorem dX11_lead_43 : decode cX11_lead 43 = .ok (.getfield 92, 3) := by decide +kernel
theorem dX11_lead_46 : decode cX11_lead 46 = .ok (.iconst 1, 1) := by decide +kernel
theorem dX11_lead_47 : decode cX11_lead 47 = .ok (.dup2, 1) := by decide +kernel
theorem dX11_lead_48 : decode cX11_lead 48 = .ok (.iaload, 1) := by decide +kernel
theorem dX11_lead_49 : decode cX11_lead 49 = .ok (.iconst 1, 1) := by decide +kernel
theorem dX11_lead_50 : decode cX11_lead 50 = .ok (.iadd, 1) := by decide +kernel
theorem dX11_lead_51 : decode cX11_lead 51 = .ok (.iastore, 1) := by decide +kernel
theorem dX11_lead_52 : decode cX11_lead 52 = .ok (.iconst 0, 1) := by decide +kernel
theorem dX11_lead_53 : decode cX11_lead 53 = .ok (.ireturn, 1) := by decide +kernel
theorem dX11_lead_54 : decode cX11_lead 54 = .ok (.aload_n 0, 1) := by decide +kernel
theorem dX11_lead_55 : decode cX11_lead 55 = .ok (.invokevirtual 426, 3) := by decide +kernel
theorem dX11_lead_58 : decode cX11_lead 58 = .ok (.aload_n 0, 1) := by decide +kernel
theorem dX11_lead_59 : decode cX11_lead 59 = .ok (.dup, 1) := by decide +kernel
theorem dX11_lead_60 : decode cX11_lead 60 = .ok (.getfield 347, 3) := by decide +kernel
theorem dX11_lead_63 : decode cX11_lead 63 = .ok (.iconst 1, 1) := by decide +kernel
theorem dX11_lead_64 : decode cX11_lead 64 = .ok (.iload_n 1, 1) := by decide +kernel
theorem dX11_lead_65 : decode cX11_lead 65 = .ok (.ishl, 1) := by decide +kernel
theorem dX11_lead_66 : decode cX11_lead 66 = .ok (.ixor, 1) := by decide +kernel
theorem dX11_lead_67 : decode cX11_lead 67 = .ok (.putfield 347, 3) := by decide +kernel
theorem dX11_lead_70 : decode cX11_lead 70 = .ok (.iconst 1, 1) := by decide +kernel
theorem dX11_lead_71 : decode cX11_lead 71 = .ok (.ireturn, 1) := by decide +kernel
theorem dX11_temper_0 : decode cX11_temper 0 = .ok (.aload_n 0, 1) := by decide +kernel
theorem dX11_temper_1 : decode cX11_temper 1 = .ok (.iconst 0, 1) := by decide +kernel
theorem dX11_temper_2 : decode cX11_temper 2 = .ok (.putfield 195, 3) := by decide +kernel
theorem dX11_temper_5 : decode cX11_temper 5 = .ok (.aload_n 0, 1) := by decide +kernel
theorem dX11_temper_6 : decode cX11_temper 6 = .ok (.iload_n 1, 1) := by decide +kernel
theorem dX11_temper_7 : decode cX11_temper 7 = .ok (.invokevirtual 411, 3) := by decide +kernel
theorem dX11_temper_10 : decode cX11_temper 10 = .ok (.ifCond .ne 9, 3) := by decide +kernel
theorem dX11_temper_13 : decode cX11_temper 13 = .ok (.aload_n 0, 1) := by decide +kernel
theorem dX11_temper_14 : decode cX11_temper 14 = .ok (.iconst 1, 1) := by decide +kernel
theorem dX11_temper_15 : decode cX11_temper 15 = .ok (.invokevirtual 329, 3) := by decide +kernel
theorem dX11_temper_18 : decode cX11_temper 18 = .ok (.ireturn, 1) := by decide +kernel
theorem dX11_temper_19 : decode cX11_temper 19 = .ok (.aload_n 0, 1) := by decide +kernel
theorem dX11_temper_20 : decode cX11_temper 20 = .ok (.getfield 344, 3) := by decide +kernel
theorem dX11_temper_23 : decode cX11_temper 23 = .ok (.iload_n 1, 1) := by decide +kernel
theorem dX11_temper_24 : decode cX11_temper 24 = .ok (.invokestatic 385, 3) := by decide +kernel
theorem dX11_temper_27 : decode cX11_temper 27 = .ok (.ifCond .ne 15, 3) := by decide +kernel
theorem dX11_temper_30 : decode cX11_temper 30 = .ok (.iload_n 2, 1) := by decide +kernel
theorem dX11_temper_31 : decode cX11_temper 31 = .ok (.i2l, 1) := by decide +kernel
theorem dX11_temper_32 : decode cX11_temper 32 = .ok (.lconst 0, 1) := by decide +kernel
theorem dX11_temper_33 : decode cX11_temper 33 = .ok (.ldc2_w 432, 3) := by decide +kernel
theorem dX11_temper_36 : decode cX11_temper 36 = .ok (.invokestatic 198, 3) := by decide +kernel
theorem dX11_temper_39 : decode cX11_temper 39 = .ok (.ifCond .ne 9, 3) := by decide +kernel
theorem dX11_temper_42 : decode cX11_temper 42 = .ok (.aload_n 0, 1) := by decide +kernel
theorem dX11_temper_43 : decode cX11_temper 43 = .ok (.iconst 1, 1) := by decide +kernel
theorem dX11_temper_44 : decode cX11_temper 44 = .ok (.invokevirtual 423, 3) := by decide +kernel
theorem dX11_temper_47 : decode cX11_temper 47 = .ok (.ireturn, 1) := by decide +kernel
theorem dX11_temper_48 : decode cX11_temper 48 = .ok (.aload_n 0, 1) := by decide +kernel
theorem dX11_temper_49 : decode cX11_temper 49 = .ok (.invokevirtual 426, 3) := by decide +kernel
theorem dX11_temper_52 : decode cX11_temper 52 = .ok (.aload_n 0, 1) := by decide +kernel
theorem dX11_temper_53 : decode cX11_temper 53 = .ok (.getfield 104, 3) := by decide +kernel
theorem dX11_temper_56 : decode cX11_temper 56 = .ok (.iload_n 1, 1) := by decide +kernel
theorem dX11_temper_57 : decode cX11_temper 57 = .ok (.iaload, 1) := by decide +kernel
theorem dX11_temper_58 : decode cX11_temper 58 = .ok (.istore_n 3, 1) := by decide +kernel
theorem dX11_temper_59 : decode cX11_temper 59 = .ok (.aload_n 0, 1) := by decide +kernel
theorem dX11_temper_60 : decode cX11_temper 60 = .ok (.getfield 104, 3) := by decide +kernel
theorem dX11_temper_63 : decode cX11_temper 63 = .ok (.iload_n 1, 1) := by decide +kernel
theorem dX11_temper_64 : decode cX11_temper 64 = .ok (.iload_n 2, 1) := by decide +kernel
theorem dX11_temper_65 : decode cX11_temper 65 = .ok (.iastore, 1) := by decide +kernel
theorem dX11_temper_66 : decode cX11_temper 66 = .ok (.iload_n 3, 1) := by decide +kernel
theorem dX11_temper_67 : decode cX11_temper 67 = .ok (.ireturn, 1) := by decide +kernel
theorem dX11_undo_0 : decode cX11_undo 0 = .ok (.aload_n 0, 1) := by decide +kernel
theorem dX11_undo_1 : decode cX11_undo 1 = .ok (.iconst 0, 1) := by decide +kernel
theorem dX11_undo_2 : decode cX11_undo 2 = .ok (.putfield 195, 3) := by decide +kernel
theorem dX11_undo_5 : decode cX11_undo 5 = .ok (.aload_n 0, 1) := by decide +kernel
theorem dX11_undo_6 : decode cX11_undo 6 = .ok (.getfield 350, 3) := by decide +kernel
theorem dX11_undo_9 : decode cX11_undo 9 = .ok (.ifCond .ne 5, 3) := by decide +kernel
theorem dX11_undo_12 : decode cX11_undo 12 = .ok (.iconst (-1), 1) := by decide +kernel
theorem dX11_undo_13 : decode cX11_undo 13 = .ok (.ireturn, 1) := by decide +kernel
theorem dX11_undo_14 : decode cX11_undo 14 = .ok (.aload_n 0, 1) := by decide +kernel
theorem dX11_undo_15 : decode cX11_undo 15 = .ok (.dup, 1) := by decide +kernel
theorem dX11_undo_16 : decode cX11_undo 16 = .ok (.getfield 350, 3) := by decide +kernel
theorem dX11_undo_19 : decode cX11_undo 19 = .ok (.iconst 1, 1) := by decide +kernel
theorem dX11_undo_20 : decode cX11_undo 20 = .ok (.isub, 1) := by decide +kernel
theorem dX11_undo_21 : decode cX11_undo 21 = .ok (.putfield 350, 3) := by decide +kernel
theorem dX11_undo_24 : decode cX11_undo 24 = .ok (.aload_n 0, 1) := by decide +kernel
theorem dX11_undo_25 : decode cX11_undo 25 = .ok (.aload_n 0, 1) := by decide +kernel
theorem dX11_undo_26 : decode cX11_undo 26 = .ok (.getfield 122, 3) := by decide +kernel
theorem dX11_undo_29 : decode cX11_undo 29 = .ok (.bipush 64, 2) := by decide +kernel
theorem dX11_undo_31 : decode cX11_undo 31 = .ok (.aload_n 0, 1) := by decide +kernel
theorem dX11_undo_32 : decode cX11_undo 32 = .ok (.getfield 350, 3) := by decide +kernel
theorem dX11_undo_35 : decode cX11_undo 35 = .ok (.imul, 1) := by decide +kernel
theorem dX11_undo_36 : decode cX11_undo 36 = .ok (.invokevirtual 439, 3) := by decide +kernel
theorem dX11_undo_39 : decode cX11_undo 39 = .ok (.aload_n 0, 1) := by decide +kernel
theorem dX11_undo_40 : decode cX11_undo 40 = .ok (.getfield 350, 3) := by decide +kernel
theorem dX11_undo_43 : decode cX11_undo 43 = .ok (.ireturn, 1) := by decide +kernel
theorem dX11_then_0 : decode cX11_then 0 = .ok (.aload_n 0, 1) := by decide +kernel
theorem dX11_then_1 : decode cX11_then 1 = .ok (.iconst 0, 1) := by decide +kernel
theorem dX11_then_2 : decode cX11_then 2 = .ok (.putfield 195, 3) := by decide +kernel
theorem dX11_then_5 : decode cX11_then 5 = .ok (.aload_n 0, 1) := by decide +kernel
theorem dX11_then_6 : decode cX11_then 6 = .ok (.iload_n 1, 1) := by decide +kernel
theorem dX11_then_7 : decode cX11_then 7 = .ok (.invokevirtual 411, 3) := by decide +kernel
theorem dX11_then_10 : decode cX11_then 10 = .ok (.ifCond .ne 9, 3) := by decide +kernel
theorem dX11_then_13 : decode cX11_then 13 = .ok (.aload_n 0, 1) := by decide +kernel
theorem dX11_then_14 : decode cX11_then 14 = .ok (.iconst 1, 1) := by decide +kernel
theorem dX11_then_15 : decode cX11_then 15 = .ok (.invokevirtual 329, 3) := by decide +kernel
theorem dX11_then_18 : decode cX11_then 18 = .ok (.ireturn, 1) := by decide +kernel
theorem dX11_then_19 : decode cX11_then 19 = .ok (.iload_n 2, 1) := by decide +kernel
theorem dX11_then_20 : decode cX11_then 20 = .ok (.i2l, 1) := by decide +kernel
theorem dX11_then_21 : decode cX11_then 21 = .ok (.lconst 0, 1) := by decide +kernel
theorem dX11_then_22 : decode cX11_then 22 = .ok (.ldc2_w 442, 3) := by decide +kernel
theorem dX11_then_25 : decode cX11_then 25 = .ok (.invokestatic 198, 3) := by decide +kernel
theorem dX11_then_28 : decode cX11_then 28 = .ok (.ifCond .ne 9, 3) := by decide +kernel
theorem dX11_then_31 : decode cX11_then 31 = .ok (.aload_n 0, 1) := by decide +kernel
theorem dX11_then_32 : decode cX11_then 32 = .ok (.iconst 2, 1) := by decide +kernel
theorem dX11_then_33 : decode cX11_then 33 = .ok (.invokevirtual 329, 3) := by decide +kernel
theorem dX11_then_36 : decode cX11_then 36 = .ok (.ireturn, 1) := by decide +kernel
theorem dX11_then_37 : decode cX11_then 37 = .ok (.aload_n 0, 1) := by decide +kernel
theorem dX11_then_38 : decode cX11_then 38 = .ok (.aload_n 0, 1) := by decide +kernel
theorem dX11_then_39 : decode cX11_then 39 = .ok (.getfield 140, 3) := by decide +kernel
theorem dX11_then_42 : decode cX11_then 42 = .ok (.iconst 0, 1) := by decide +kernel
theorem dX11_then_43 : decode cX11_then 43 = .ok (.invokevirtual 417, 3) := by decide +kernel
theorem dX11_then_46 : decode cX11_then 46 = .ok (.aload_n 0, 1) := by decide +kernel
theorem dX11_then_47 : decode cX11_then 47 = .ok (.iload_n 2, 1) := by decide +kernel
theorem dX11_then_48 : decode cX11_then 48 = .ok (.invokevirtual 429, 3) := by decide +kernel
theorem dX11_then_51 : decode cX11_then 51 = .ok (.aload_n 0, 1) := by decide +kernel
theorem dX11_then_52 : decode cX11_then 52 = .ok (.getfield 110, 3) := by decide +kernel
theorem dX11_then_55 : decode cX11_then 55 = .ok (.iload_n 1, 1) := by decide +kernel
theorem dX11_then_56 : decode cX11_then 56 = .ok (.iaload, 1) := by decide +kernel
theorem dX11_then_57 : decode cX11_then 57 = .ok (.istore_n 3, 1) := by decide +kernel
theorem dX11_then_58 : decode cX11_then 58 = .ok (.aload_n 0, 1) := by decide +kernel
theorem dX11_then_59 : decode cX11_then 59 = .ok (.aload_n 0, 1) := by decide +kernel
theorem dX11_then_60 : decode cX11_then 60 = .ok (.getfield 140, 3) := by decide +kernel
theorem dX11_then_63 : decode cX11_then 63 = .ok (.iconst 0, 1) := by decide +kernel
theorem dX11_then_64 : decode cX11_then 64 = .ok (.invokevirtual 439, 3) := by decide +kernel
theorem dX11_then_67 : decode cX11_then 67 = .ok (.iload_n 3, 1) := by decide +kernel
theorem dX11_then_68 : decode cX11_then 68 = .ok (.ireturn, 1) := by decide +kernel
theorem dX11_purse_0 : decode cX11_purse 0 = .ok (.aload_n 0, 1) := by decide +kernel
theorem dX11_purse_1 : decode cX11_purse 1 = .ok (.iconst 0, 1) := by decide +kernel
theorem dX11_purse_2 : decode cX11_purse 2 = .ok (.putfield 195, 3) := by decide +kernel
theorem dX11_purse_5 : decode cX11_purse 5 = .ok (.aload_n 0, 1) := by decide +kernel
theorem dX11_purse_6 : decode cX11_purse 6 = .ok (.iload_n 1, 1) := by decide +kernel
theorem dX11_purse_7 : decode cX11_purse 7 = .ok (.invokevirtual 414, 3) := by decide +kernel
theorem dX11_purse_10 : decode cX11_purse 10 = .ok (.ifCond .eq 12, 3) := by decide +kernel
theorem dX11_purse_13 : decode cX11_purse 13 = .ok (.iload_n 3, 1) := by decide +kernel
theorem dX11_purse_14 : decode cX11_purse 14 = .ok (.ifCond .lt 8, 3) := by decide +kernel
theorem dX11_purse_17 : decode cX11_purse 17 = .ok (.iload_n 3, 1) := by decide +kernel
theorem dX11_purse_18 : decode cX11_purse 18 = .ok (.iconst 1, 1) := by decide +kernel
theorem dX11_purse_19 : decode cX11_purse 19 = .ok (.if_icmp .le 9, 3) := by decide +kernel
theorem dX11_purse_22 : decode cX11_purse 22 = .ok (.aload_n 0, 1) := by decide +kernel
theorem dX11_purse_23 : decode cX11_purse 23 = .ok (.iconst 1, 1) := by decide +kernel
theorem dX11_purse_24 : decode cX11_purse 24 = .ok (.invokevirtual 329, 3) := by decide +kernel
theorem dX11_purse_27 : decode cX11_purse 27 = .ok (.ireturn, 1) := by decide +kernel
theorem dX11_purse_28 : decode cX11_purse 28 = .ok (.iload_n 2, 1) := by decide +kernel
theorem dX11_purse_29 : decode cX11_purse 29 = .ok (.i2l, 1) := by decide +kernel
theorem dX11_purse_30 : decode cX11_purse 30 = .ok (.lconst 0, 1) := by decide +kernel
theorem dX11_purse_31 : decode cX11_purse 31 = .ok (.ldc2_w 442, 3) := by decide +kernel
theorem dX11_purse_34 : decode cX11_purse 34 = .ok (.invokestatic 198, 3) := by decide +kernel
theorem dX11_purse_37 : decode cX11_purse 37 = .ok (.ifCond .ne 9, 3) := by decide +kernel
theorem dX11_purse_40 : decode cX11_purse 40 = .ok (.aload_n 0, 1) := by decide +kernel
theorem dX11_purse_41 : decode cX11_purse 41 = .ok (.iconst 2, 1) := by decide +kernel
theorem dX11_purse_42 : decode cX11_purse 42 = .ok (.invokevirtual 329, 3) := by decide +kernel
theorem dX11_purse_45 : decode cX11_purse 45 = .ok (.ireturn, 1) := by decide +kernel
theorem dX11_purse_46 : decode cX11_purse 46 = .ok (.aload_n 0, 1) := by decide +kernel
theorem dX11_purse_47 : decode cX11_purse 47 = .ok (.aload_n 0, 1) := by decide +kernel
theorem dX11_purse_48 : decode cX11_purse 48 = .ok (.getfield 140, 3) := by decide +kernel
theorem dX11_purse_51 : decode cX11_purse 51 = .ok (.iconst 0, 1) := by decide +kernel
theorem dX11_purse_52 : decode cX11_purse 52 = .ok (.invokevirtual 417, 3) := by decide +kernel
theorem dX11_purse_55 : decode cX11_purse 55 = .ok (.aload_n 0, 1) := by decide +kernel
theorem dX11_purse_56 : decode cX11_purse 56 = .ok (.iload_n 2, 1) := by decide +kernel
theorem dX11_purse_57 : decode cX11_purse 57 = .ok (.invokevirtual 429, 3) := by decide +kernel
theorem dX11_purse_60 : decode cX11_purse 60 = .ok (.iload_n 3, 1) := by decide +kernel
theorem dX11_purse_61 : decode cX11_purse 61 = .ok (.ifCond .ne 12, 3) := by decide +kernel
theorem dX11_purse_64 : decode cX11_purse 64 = .ok (.aload_n 0, 1) := by decide +kernel
theorem dX11_purse_65 : decode cX11_purse 65 = .ok (.getfield 120, 3) := by decide +kernel
theorem dX11_purse_68 : decode cX11_purse 68 = .ok (.iload_n 1, 1) := by decide +kernel
theorem dX11_purse_69 : decode cX11_purse 69 = .ok (.iaload, 1) := by decide +kernel
theorem dX11_purse_70 : decode cX11_purse 70 = .ok (.goto 9, 3) := by decide +kernel
theorem dX11_purse_73 : decode cX11_purse 73 = .ok (.aload_n 0, 1) := by decide +kernel
theorem dX11_purse_74 : decode cX11_purse 74 = .ok (.getfield 115, 3) := by decide +kernel
theorem dX11_purse_77 : decode cX11_purse 77 = .ok (.iload_n 1, 1) := by decide +kernel
theorem dX11_purse_78 : decode cX11_purse 78 = .ok (.iaload, 1) := by decide +kernel
theorem dX11_purse_79 : decode cX11_purse 79 = .ok (.istore 4, 2) := by decide +kernel
theorem dX11_purse_81 : decode cX11_purse 81 = .ok (.aload_n 0, 1) := by decide +kernel
theorem dX11_purse_82 : decode cX11_purse 82 = .ok (.aload_n 0, 1) := by decide +kernel
theorem dX11_purse_83 : decode cX11_purse 83 = .ok (.getfield 140, 3) := by decide +kernel
theorem dX11_purse_86 : decode cX11_purse 86 = .ok (.iconst 0, 1) := by decide +kernel
theorem dX11_purse_87 : decode cX11_purse 87 = .ok (.invokevirtual 439, 3) := by decide +kernel
theorem dX11_purse_90 : decode cX11_purse 90 = .ok (.iload 4, 2) := by decide +kernel
theorem dX11_purse_92 : decode cX11_purse 92 = .ok (.ireturn, 1) := by decide +kernel
theorem dX11_sealed_0 : decode cX11_sealed 0 = .ok (.aload_n 0, 1) := by decide +kernel
theorem dX11_sealed_1 : decode cX11_sealed 1 = .ok (.iconst 0, 1) := by decide +kernel
theorem dX11_sealed_2 : decode cX11_sealed 2 = .ok (.putfield 195, 3) := by decide +kernel
theorem dX11_sealed_5 : decode cX11_sealed 5 = .ok (.aload_n 0, 1) := by decide +kernel
theorem dX11_sealed_6 : decode cX11_sealed 6 = .ok (.iload_n 1, 1) := by decide +kernel
theorem dX11_sealed_7 : decode cX11_sealed 7 = .ok (.invokevirtual 411, 3) := by decide +kernel
theorem dX11_sealed_10 : decode cX11_sealed 10 = .ok (.ifCond .ne 9, 3) := by decide +kernel
theorem dX11_sealed_13 : decode cX11_sealed 13 = .ok (.aload_n 0, 1) := by decide +kernel
theorem dX11_sealed_14 : decode cX11_sealed 14 = .ok (.iconst 1, 1) := by decide +kernel
theorem dX11_sealed_15 : decode cX11_sealed 15 = .ok (.invokevirtual 329, 3) := by decide +kernel
theorem dX11_sealed_18 : decode cX11_sealed 18 = .ok (.ireturn, 1) := by decide +kernel
theorem dX11_sealed_19 : decode cX11_sealed 19 = .ok (.aload_n 0, 1) := by decide +kernel
theorem dX11_sealed_20 : decode cX11_sealed 20 = .ok (.aload_n 0, 1) := by decide +kernel
theorem dX11_sealed_21 : decode cX11_sealed 21 = .ok (.getfield 140, 3) := by decide +kernel
theorem dX11_sealed_24 : decode cX11_sealed 24 = .ok (.iconst 0, 1) := by decide +kernel
theorem dX11_sealed_25 : decode cX11_sealed 25 = .ok (.invokevirtual 417, 3) := by decide +kernel
theorem dX11_sealed_28 : decode cX11_sealed 28 = .ok (.iconst (-1), 1) := by decide +kernel
theorem dX11_sealed_29 : decode cX11_sealed 29 = .ok (.istore_n 2, 1) := by decide +kernel
